section
-- ===== PART A: goes FIRST, ahead of the names: the tables' words, and 'selects' of the private methods out of them =====
/-- a private method of a class that the tables say can be made, by its rows of tables_1 -/
def lw_okq (q : MethodName × Nat) : Prop := (q.1.cls ≠ "java/lang/invoke/MethodHandle" ∧ q.1.cls ≠ "java/lang/invoke/VarHandle") ∧ Cond.instantiable q.1.cls q.2 ∈ tables_1 ∧ Cond.privateMethod q.1 ∈ tables_1 ∧ Cond.instanceMethod q.1 ∈ tables_1
theorem lw_p0 : lw_okq (⟨"MethodWarden$Text", "cutNumber", "()I"⟩, 6) := ⟨⟨by decide +kernel, by decide +kernel⟩, List.mem_of_getElem? (i := 27) (by decide +kernel), List.mem_of_getElem? (i := 383) (by decide +kernel), List.mem_of_getElem? (i := 384) (by decide +kernel)⟩
theorem lw_p1 : lw_okq (⟨"MethodWarden$Text", "passes", "(C)Z"⟩, 6) := ⟨⟨by decide +kernel, by decide +kernel⟩, List.mem_of_getElem? (i := 27) (by decide +kernel), List.mem_of_getElem? (i := 389) (by decide +kernel), List.mem_of_getElem? (i := 390) (by decide +kernel)⟩
theorem lw_p2 : lw_okq (⟨"MethodWarden$Text", "cutWord", "()I"⟩, 6) := ⟨⟨by decide +kernel, by decide +kernel⟩, List.mem_of_getElem? (i := 27) (by decide +kernel), List.mem_of_getElem? (i := 397) (by decide +kernel), List.mem_of_getElem? (i := 398) (by decide +kernel)⟩
theorem lw_p3 : lw_okq (⟨"MethodWarden$Text", "shortWord", "()I"⟩, 6) := ⟨⟨by decide +kernel, by decide +kernel⟩, List.mem_of_getElem? (i := 27) (by decide +kernel), List.mem_of_getElem? (i := 401) (by decide +kernel), List.mem_of_getElem? (i := 402) (by decide +kernel)⟩
theorem lw_p4 : lw_okq (⟨"MethodWarden$Text", "reads", "(Ljava/lang/String;)Z"⟩, 6) := ⟨⟨by decide +kernel, by decide +kernel⟩, List.mem_of_getElem? (i := 27) (by decide +kernel), List.mem_of_getElem? (i := 406) (by decide +kernel), List.mem_of_getElem? (i := 407) (by decide +kernel)⟩
theorem lw_p5 : lw_okq (⟨"MethodWarden$Text", "longWord", "()I"⟩, 6) := ⟨⟨by decide +kernel, by decide +kernel⟩, List.mem_of_getElem? (i := 27) (by decide +kernel), List.mem_of_getElem? (i := 462) (by decide +kernel), List.mem_of_getElem? (i := 463) (by decide +kernel)⟩
theorem lw_p6 : lw_okq (⟨"MethodWarden$Text", "cutSign", "()I"⟩, 6) := ⟨⟨by decide +kernel, by decide +kernel⟩, List.mem_of_getElem? (i := 27) (by decide +kernel), List.mem_of_getElem? (i := 472) (by decide +kernel), List.mem_of_getElem? (i := 473) (by decide +kernel)⟩
theorem lw_p7 : lw_okq (⟨"MethodWarden$Text", "cutLongSign", "(C)I"⟩, 6) := ⟨⟨by decide +kernel, by decide +kernel⟩, List.mem_of_getElem? (i := 27) (by decide +kernel), List.mem_of_getElem? (i := 476) (by decide +kernel), List.mem_of_getElem? (i := 477) (by decide +kernel)⟩
theorem lw_p8 : lw_okq (⟨"MethodWarden$Text", "cutQuestion", "()I"⟩, 6) := ⟨⟨by decide +kernel, by decide +kernel⟩, List.mem_of_getElem? (i := 27) (by decide +kernel), List.mem_of_getElem? (i := 480) (by decide +kernel), List.mem_of_getElem? (i := 481) (by decide +kernel)⟩
theorem lw_p9 : lw_okq (⟨"MethodWarden$Text", "cutDot", "()I"⟩, 6) := ⟨⟨by decide +kernel, by decide +kernel⟩, List.mem_of_getElem? (i := 27) (by decide +kernel), List.mem_of_getElem? (i := 484) (by decide +kernel), List.mem_of_getElem? (i := 485) (by decide +kernel)⟩
theorem lw_p10 : lw_okq (⟨"MethodWarden$Reader", "isFinished", "()Z"⟩, 8) := ⟨⟨by decide +kernel, by decide +kernel⟩, List.mem_of_getElem? (i := 57) (by decide +kernel), List.mem_of_getElem? (i := 491) (by decide +kernel), List.mem_of_getElem? (i := 492) (by decide +kernel)⟩
theorem lw_p11 : lw_okq (⟨"MethodWarden$Reader", "joinDownTo", "(I)V"⟩, 8) := ⟨⟨by decide +kernel, by decide +kernel⟩, List.mem_of_getElem? (i := 57) (by decide +kernel), List.mem_of_getElem? (i := 495) (by decide +kernel), List.mem_of_getElem? (i := 496) (by decide +kernel)⟩
theorem lw_p12 : lw_okq (⟨"MethodWarden$Reader", "join", "(I)V"⟩, 8) := ⟨⟨by decide +kernel, by decide +kernel⟩, List.mem_of_getElem? (i := 57) (by decide +kernel), List.mem_of_getElem? (i := 502) (by decide +kernel), List.mem_of_getElem? (i := 503) (by decide +kernel)⟩
theorem lw_p13 : lw_okq (⟨"MethodWarden$Reader", "popOperand", "()I"⟩, 8) := ⟨⟨by decide +kernel, by decide +kernel⟩, List.mem_of_getElem? (i := 57) (by decide +kernel), List.mem_of_getElem? (i := 506) (by decide +kernel), List.mem_of_getElem? (i := 507) (by decide +kernel)⟩
theorem lw_p14 : lw_okq (⟨"MethodWarden$Reader", "pushOperand", "(I)V"⟩, 8) := ⟨⟨by decide +kernel, by decide +kernel⟩, List.mem_of_getElem? (i := 57) (by decide +kernel), List.mem_of_getElem? (i := 517) (by decide +kernel), List.mem_of_getElem? (i := 518) (by decide +kernel)⟩
theorem lw_p15 : lw_okq (⟨"MethodWarden$Reader", "takes", "(IJ)Z"⟩, 8) := ⟨⟨by decide +kernel, by decide +kernel⟩, List.mem_of_getElem? (i := 57) (by decide +kernel), List.mem_of_getElem? (i := 521) (by decide +kernel), List.mem_of_getElem? (i := 522) (by decide +kernel)⟩
def lw_privs_1 : List (MethodName × Nat) := [(⟨"MethodWarden$Text", "cutNumber", "()I"⟩, 6), (⟨"MethodWarden$Text", "passes", "(C)Z"⟩, 6), (⟨"MethodWarden$Text", "cutWord", "()I"⟩, 6), (⟨"MethodWarden$Text", "shortWord", "()I"⟩, 6), (⟨"MethodWarden$Text", "reads", "(Ljava/lang/String;)Z"⟩, 6), (⟨"MethodWarden$Text", "longWord", "()I"⟩, 6), (⟨"MethodWarden$Text", "cutSign", "()I"⟩, 6), (⟨"MethodWarden$Text", "cutLongSign", "(C)I"⟩, 6), (⟨"MethodWarden$Text", "cutQuestion", "()I"⟩, 6), (⟨"MethodWarden$Text", "cutDot", "()I"⟩, 6), (⟨"MethodWarden$Reader", "isFinished", "()Z"⟩, 8), (⟨"MethodWarden$Reader", "joinDownTo", "(I)V"⟩, 8), (⟨"MethodWarden$Reader", "join", "(I)V"⟩, 8), (⟨"MethodWarden$Reader", "popOperand", "()I"⟩, 8), (⟨"MethodWarden$Reader", "pushOperand", "(I)V"⟩, 8), (⟨"MethodWarden$Reader", "takes", "(IJ)Z"⟩, 8)]
theorem lw_r1 : ∀ q ∈ lw_privs_1, lw_okq q := List.forall_mem_cons.mpr ⟨lw_p0, List.forall_mem_cons.mpr ⟨lw_p1, List.forall_mem_cons.mpr ⟨lw_p2, List.forall_mem_cons.mpr ⟨lw_p3, List.forall_mem_cons.mpr ⟨lw_p4, List.forall_mem_cons.mpr ⟨lw_p5, List.forall_mem_cons.mpr ⟨lw_p6, List.forall_mem_cons.mpr ⟨lw_p7, List.forall_mem_cons.mpr ⟨lw_p8, List.forall_mem_cons.mpr ⟨lw_p9, List.forall_mem_cons.mpr ⟨lw_p10, List.forall_mem_cons.mpr ⟨lw_p11, List.forall_mem_cons.mpr ⟨lw_p12, List.forall_mem_cons.mpr ⟨lw_p13, List.forall_mem_cons.mpr ⟨lw_p14, List.forall_mem_cons.mpr ⟨lw_p15, fun _ h => absurd h List.not_mem_nil⟩⟩⟩⟩⟩⟩⟩⟩⟩⟩⟩⟩⟩⟩⟩⟩
theorem lw_p16 : lw_okq (⟨"MethodWarden$Reader", "takesForValue", "(IJ)Z"⟩, 8) := ⟨⟨by decide +kernel, by decide +kernel⟩, List.mem_of_getElem? (i := 57) (by decide +kernel), List.mem_of_getElem? (i := 528) (by decide +kernel), List.mem_of_getElem? (i := 529) (by decide +kernel)⟩
theorem lw_p17 : lw_okq (⟨"MethodWarden$Reader", "begin", "(I)Z"⟩, 8) := ⟨⟨by decide +kernel, by decide +kernel⟩, List.mem_of_getElem? (i := 57) (by decide +kernel), List.mem_of_getElem? (i := 532) (by decide +kernel), List.mem_of_getElem? (i := 533) (by decide +kernel)⟩
theorem lw_p18 : lw_okq (⟨"MethodWarden$Reader", "takesLeaf", "(IJ)Z"⟩, 8) := ⟨⟨by decide +kernel, by decide +kernel⟩, List.mem_of_getElem? (i := 57) (by decide +kernel), List.mem_of_getElem? (i := 539) (by decide +kernel), List.mem_of_getElem? (i := 540) (by decide +kernel)⟩
theorem lw_p19 : lw_okq (⟨"MethodWarden$Reader", "joinNow", "(I)Z"⟩, 8) := ⟨⟨by decide +kernel, by decide +kernel⟩, List.mem_of_getElem? (i := 57) (by decide +kernel), List.mem_of_getElem? (i := 548) (by decide +kernel), List.mem_of_getElem? (i := 549) (by decide +kernel)⟩
theorem lw_p20 : lw_okq (⟨"MethodWarden$Reader", "takesBehindValue", "(I)Z"⟩, 8) := ⟨⟨by decide +kernel, by decide +kernel⟩, List.mem_of_getElem? (i := 57) (by decide +kernel), List.mem_of_getElem? (i := 552) (by decide +kernel), List.mem_of_getElem? (i := 553) (by decide +kernel)⟩
theorem lw_p21 : lw_okq (⟨"MethodWarden$Reader", "closesRound", "()Z"⟩, 8) := ⟨⟨by decide +kernel, by decide +kernel⟩, List.mem_of_getElem? (i := 57) (by decide +kernel), List.mem_of_getElem? (i := 556) (by decide +kernel), List.mem_of_getElem? (i := 557) (by decide +kernel)⟩
theorem lw_p22 : lw_okq (⟨"MethodWarden$Reader", "innermost", "()I"⟩, 8) := ⟨⟨by decide +kernel, by decide +kernel⟩, List.mem_of_getElem? (i := 57) (by decide +kernel), List.mem_of_getElem? (i := 560) (by decide +kernel), List.mem_of_getElem? (i := 561) (by decide +kernel)⟩
theorem lw_p23 : lw_okq (⟨"MethodWarden$Reader", "closesSquare", "()Z"⟩, 8) := ⟨⟨by decide +kernel, by decide +kernel⟩, List.mem_of_getElem? (i := 57) (by decide +kernel), List.mem_of_getElem? (i := 564) (by decide +kernel), List.mem_of_getElem? (i := 565) (by decide +kernel)⟩
theorem lw_p24 : lw_okq (⟨"MethodWarden$Reader", "takesColon", "()Z"⟩, 8) := ⟨⟨by decide +kernel, by decide +kernel⟩, List.mem_of_getElem? (i := 57) (by decide +kernel), List.mem_of_getElem? (i := 571) (by decide +kernel), List.mem_of_getElem? (i := 572) (by decide +kernel)⟩
theorem lw_p25 : lw_okq (⟨"MethodWarden$Reader", "waitsForSize", "(I)Z"⟩, 8) := ⟨⟨by decide +kernel, by decide +kernel⟩, List.mem_of_getElem? (i := 57) (by decide +kernel), List.mem_of_getElem? (i := 575) (by decide +kernel), List.mem_of_getElem? (i := 576) (by decide +kernel)⟩
theorem lw_p26 : lw_okq (⟨"MethodWarden$Reader", "takesBetween", "(I)Z"⟩, 8) := ⟨⟨by decide +kernel, by decide +kernel⟩, List.mem_of_getElem? (i := 57) (by decide +kernel), List.mem_of_getElem? (i := 579) (by decide +kernel), List.mem_of_getElem? (i := 580) (by decide +kernel)⟩
theorem lw_p27 : lw_okq (⟨"MethodWarden", "isGuard", "(II)Z"⟩, 9) := ⟨⟨by decide +kernel, by decide +kernel⟩, List.mem_of_getElem? (i := 19) (by decide +kernel), List.mem_of_getElem? (i := 655) (by decide +kernel), List.mem_of_getElem? (i := 656) (by decide +kernel)⟩
theorem lw_p28 : lw_okq (⟨"MethodWarden", "hasExpression", "(I)Z"⟩, 9) := ⟨⟨by decide +kernel, by decide +kernel⟩, List.mem_of_getElem? (i := 19) (by decide +kernel), List.mem_of_getElem? (i := 659) (by decide +kernel), List.mem_of_getElem? (i := 660) (by decide +kernel)⟩
theorem lw_p29 : lw_okq (⟨"MethodWarden", "isRule", "(I)Z"⟩, 9) := ⟨⟨by decide +kernel, by decide +kernel⟩, List.mem_of_getElem? (i := 19) (by decide +kernel), List.mem_of_getElem? (i := 682) (by decide +kernel), List.mem_of_getElem? (i := 683) (by decide +kernel)⟩
theorem lw_p30 : lw_okq (⟨"MethodWarden$Gate", "run", "(II)I"⟩, 10) := ⟨⟨by decide +kernel, by decide +kernel⟩, List.mem_of_getElem? (i := 226) (by decide +kernel), List.mem_of_getElem? (i := 717) (by decide +kernel), List.mem_of_getElem? (i := 718) (by decide +kernel)⟩
theorem lw_p31 : lw_okq (⟨"MethodWarden$Gate", "guardOf", "(I)LMethodWarden$Guard;"⟩, 10) := ⟨⟨by decide +kernel, by decide +kernel⟩, List.mem_of_getElem? (i := 226) (by decide +kernel), List.mem_of_getElem? (i := 721) (by decide +kernel), List.mem_of_getElem? (i := 722) (by decide +kernel)⟩
def lw_privs_2 : List (MethodName × Nat) := [(⟨"MethodWarden$Reader", "takesForValue", "(IJ)Z"⟩, 8), (⟨"MethodWarden$Reader", "begin", "(I)Z"⟩, 8), (⟨"MethodWarden$Reader", "takesLeaf", "(IJ)Z"⟩, 8), (⟨"MethodWarden$Reader", "joinNow", "(I)Z"⟩, 8), (⟨"MethodWarden$Reader", "takesBehindValue", "(I)Z"⟩, 8), (⟨"MethodWarden$Reader", "closesRound", "()Z"⟩, 8), (⟨"MethodWarden$Reader", "innermost", "()I"⟩, 8), (⟨"MethodWarden$Reader", "closesSquare", "()Z"⟩, 8), (⟨"MethodWarden$Reader", "takesColon", "()Z"⟩, 8), (⟨"MethodWarden$Reader", "waitsForSize", "(I)Z"⟩, 8), (⟨"MethodWarden$Reader", "takesBetween", "(I)Z"⟩, 8), (⟨"MethodWarden", "isGuard", "(II)Z"⟩, 9), (⟨"MethodWarden", "hasExpression", "(I)Z"⟩, 9), (⟨"MethodWarden", "isRule", "(I)Z"⟩, 9), (⟨"MethodWarden$Gate", "run", "(II)I"⟩, 10), (⟨"MethodWarden$Gate", "guardOf", "(I)LMethodWarden$Guard;"⟩, 10)]
theorem lw_r2 : ∀ q ∈ lw_privs_2, lw_okq q := List.forall_mem_cons.mpr ⟨lw_p16, List.forall_mem_cons.mpr ⟨lw_p17, List.forall_mem_cons.mpr ⟨lw_p18, List.forall_mem_cons.mpr ⟨lw_p19, List.forall_mem_cons.mpr ⟨lw_p20, List.forall_mem_cons.mpr ⟨lw_p21, List.forall_mem_cons.mpr ⟨lw_p22, List.forall_mem_cons.mpr ⟨lw_p23, List.forall_mem_cons.mpr ⟨lw_p24, List.forall_mem_cons.mpr ⟨lw_p25, List.forall_mem_cons.mpr ⟨lw_p26, List.forall_mem_cons.mpr ⟨lw_p27, List.forall_mem_cons.mpr ⟨lw_p28, List.forall_mem_cons.mpr ⟨lw_p29, List.forall_mem_cons.mpr ⟨lw_p30, List.forall_mem_cons.mpr ⟨lw_p31, fun _ h => absurd h List.not_mem_nil⟩⟩⟩⟩⟩⟩⟩⟩⟩⟩⟩⟩⟩⟩⟩⟩
theorem lw_p32 : lw_okq (⟨"MethodWarden$Gate", "letIn", "(LMethodWarden$Method;LMethodWarden$Guard;LMethodWarden$Items;)I"⟩, 10) := ⟨⟨by decide +kernel, by decide +kernel⟩, List.mem_of_getElem? (i := 226) (by decide +kernel), List.mem_of_getElem? (i := 726) (by decide +kernel), List.mem_of_getElem? (i := 727) (by decide +kernel)⟩
theorem lw_p33 : lw_okq (⟨"MethodWarden$Worker", "sift", "(IILMethodWarden$Items;LMethodWarden$Items;)Z"⟩, 11) := ⟨⟨by decide +kernel, by decide +kernel⟩, List.mem_of_getElem? (i := 160) (by decide +kernel), List.mem_of_getElem? (i := 747) (by decide +kernel), List.mem_of_getElem? (i := 748) (by decide +kernel)⟩
theorem lw_p34 : lw_okq (⟨"MethodWarden$Worker", "answerFor", "(III)LMethodWarden$Value;"⟩, 11) := ⟨⟨by decide +kernel, by decide +kernel⟩, List.mem_of_getElem? (i := 160) (by decide +kernel), List.mem_of_getElem? (i := 756) (by decide +kernel), List.mem_of_getElem? (i := 757) (by decide +kernel)⟩
theorem lw_p35 : lw_okq (⟨"MethodWarden$Worker", "valueOf", "(II)LMethodWarden$Value;"⟩, 11) := ⟨⟨by decide +kernel, by decide +kernel⟩, List.mem_of_getElem? (i := 160) (by decide +kernel), List.mem_of_getElem? (i := 760) (by decide +kernel), List.mem_of_getElem? (i := 761) (by decide +kernel)⟩
theorem lw_p36 : lw_okq (⟨"MethodWarden$Worker", "valueOfLogic", "(IZ)LMethodWarden$Value;"⟩, 11) := ⟨⟨by decide +kernel, by decide +kernel⟩, List.mem_of_getElem? (i := 160) (by decide +kernel), List.mem_of_getElem? (i := 764) (by decide +kernel), List.mem_of_getElem? (i := 765) (by decide +kernel)⟩
theorem lw_p37 : lw_okq (⟨"MethodWarden$Worker", "valueOfChoice", "(I)LMethodWarden$Value;"⟩, 11) := ⟨⟨by decide +kernel, by decide +kernel⟩, List.mem_of_getElem? (i := 160) (by decide +kernel), List.mem_of_getElem? (i := 776) (by decide +kernel), List.mem_of_getElem? (i := 777) (by decide +kernel)⟩
theorem lw_p38 : lw_okq (⟨"MethodWarden$Worker", "valueOfIfNothing", "(I)LMethodWarden$Value;"⟩, 11) := ⟨⟨by decide +kernel, by decide +kernel⟩, List.mem_of_getElem? (i := 160) (by decide +kernel), List.mem_of_getElem? (i := 780) (by decide +kernel), List.mem_of_getElem? (i := 781) (by decide +kernel)⟩
theorem lw_p39 : lw_okq (⟨"MethodWarden$Worker", "valueOfSearch", "(II)LMethodWarden$Value;"⟩, 11) := ⟨⟨by decide +kernel, by decide +kernel⟩, List.mem_of_getElem? (i := 160) (by decide +kernel), List.mem_of_getElem? (i := 788) (by decide +kernel), List.mem_of_getElem? (i := 789) (by decide +kernel)⟩
theorem lw_p40 : lw_okq (⟨"MethodWarden$Worker", "find", "(IILMethodWarden$Items;ZLMethodWarden$Value;)LMethodWarden$Value;"⟩, 11) := ⟨⟨by decide +kernel, by decide +kernel⟩, List.mem_of_getElem? (i := 160) (by decide +kernel), List.mem_of_getElem? (i := 801) (by decide +kernel), List.mem_of_getElem? (i := 802) (by decide +kernel)⟩
theorem lw_p41 : lw_okq (⟨"MethodWarden$Worker", "valueOfLeaf", "(IJLMethodWarden$Value;)LMethodWarden$Value;"⟩, 11) := ⟨⟨by decide +kernel, by decide +kernel⟩, List.mem_of_getElem? (i := 160) (by decide +kernel), List.mem_of_getElem? (i := 814) (by decide +kernel), List.mem_of_getElem? (i := 815) (by decide +kernel)⟩
theorem lw_p42 : lw_okq (⟨"MethodWarden$Worker", "valueOfOne", "(ILMethodWarden$Value;LMethodWarden$Value;)LMethodWarden$Value;"⟩, 11) := ⟨⟨by decide +kernel, by decide +kernel⟩, List.mem_of_getElem? (i := 160) (by decide +kernel), List.mem_of_getElem? (i := 837) (by decide +kernel), List.mem_of_getElem? (i := 838) (by decide +kernel)⟩
theorem lw_p43 : lw_okq (⟨"MethodWarden$Worker", "negated", "(LMethodWarden$Value;LMethodWarden$Value;)LMethodWarden$Value;"⟩, 11) := ⟨⟨by decide +kernel, by decide +kernel⟩, List.mem_of_getElem? (i := 160) (by decide +kernel), List.mem_of_getElem? (i := 841) (by decide +kernel), List.mem_of_getElem? (i := 842) (by decide +kernel)⟩
theorem lw_p44 : lw_okq (⟨"MethodWarden$Worker", "sizeOf", "(LMethodWarden$Value;LMethodWarden$Value;)LMethodWarden$Value;"⟩, 11) := ⟨⟨by decide +kernel, by decide +kernel⟩, List.mem_of_getElem? (i := 160) (by decide +kernel), List.mem_of_getElem? (i := 855) (by decide +kernel), List.mem_of_getElem? (i := 856) (by decide +kernel)⟩
theorem lw_p45 : lw_okq (⟨"MethodWarden$Worker", "valueOfTwo", "(ILMethodWarden$Value;LMethodWarden$Value;LMethodWarden$Value;)LMethodWarden$Value;"⟩, 11) := ⟨⟨by decide +kernel, by decide +kernel⟩, List.mem_of_getElem? (i := 160) (by decide +kernel), List.mem_of_getElem? (i := 859) (by decide +kernel), List.mem_of_getElem? (i := 860) (by decide +kernel)⟩
theorem lw_p46 : lw_okq (⟨"MethodWarden$Worker", "itemOf", "(LMethodWarden$Value;LMethodWarden$Value;LMethodWarden$Value;)LMethodWarden$Value;"⟩, 11) := ⟨⟨by decide +kernel, by decide +kernel⟩, List.mem_of_getElem? (i := 160) (by decide +kernel), List.mem_of_getElem? (i := 873) (by decide +kernel), List.mem_of_getElem? (i := 874) (by decide +kernel)⟩
theorem lw_p47 : lw_okq (⟨"MethodWarden$Worker", "valueOfNumbers", "(ILMethodWarden$Value;LMethodWarden$Value;LMethodWarden$Value;)LMethodWarden$Value;"⟩, 11) := ⟨⟨by decide +kernel, by decide +kernel⟩, List.mem_of_getElem? (i := 160) (by decide +kernel), List.mem_of_getElem? (i := 881) (by decide +kernel), List.mem_of_getElem? (i := 882) (by decide +kernel)⟩
def lw_privs_3 : List (MethodName × Nat) := [(⟨"MethodWarden$Gate", "letIn", "(LMethodWarden$Method;LMethodWarden$Guard;LMethodWarden$Items;)I"⟩, 10), (⟨"MethodWarden$Worker", "sift", "(IILMethodWarden$Items;LMethodWarden$Items;)Z"⟩, 11), (⟨"MethodWarden$Worker", "answerFor", "(III)LMethodWarden$Value;"⟩, 11), (⟨"MethodWarden$Worker", "valueOf", "(II)LMethodWarden$Value;"⟩, 11), (⟨"MethodWarden$Worker", "valueOfLogic", "(IZ)LMethodWarden$Value;"⟩, 11), (⟨"MethodWarden$Worker", "valueOfChoice", "(I)LMethodWarden$Value;"⟩, 11), (⟨"MethodWarden$Worker", "valueOfIfNothing", "(I)LMethodWarden$Value;"⟩, 11), (⟨"MethodWarden$Worker", "valueOfSearch", "(II)LMethodWarden$Value;"⟩, 11), (⟨"MethodWarden$Worker", "find", "(IILMethodWarden$Items;ZLMethodWarden$Value;)LMethodWarden$Value;"⟩, 11), (⟨"MethodWarden$Worker", "valueOfLeaf", "(IJLMethodWarden$Value;)LMethodWarden$Value;"⟩, 11), (⟨"MethodWarden$Worker", "valueOfOne", "(ILMethodWarden$Value;LMethodWarden$Value;)LMethodWarden$Value;"⟩, 11), (⟨"MethodWarden$Worker", "negated", "(LMethodWarden$Value;LMethodWarden$Value;)LMethodWarden$Value;"⟩, 11), (⟨"MethodWarden$Worker", "sizeOf", "(LMethodWarden$Value;LMethodWarden$Value;)LMethodWarden$Value;"⟩, 11), (⟨"MethodWarden$Worker", "valueOfTwo", "(ILMethodWarden$Value;LMethodWarden$Value;LMethodWarden$Value;)LMethodWarden$Value;"⟩, 11), (⟨"MethodWarden$Worker", "itemOf", "(LMethodWarden$Value;LMethodWarden$Value;LMethodWarden$Value;)LMethodWarden$Value;"⟩, 11), (⟨"MethodWarden$Worker", "valueOfNumbers", "(ILMethodWarden$Value;LMethodWarden$Value;LMethodWarden$Value;)LMethodWarden$Value;"⟩, 11)]
theorem lw_r3 : ∀ q ∈ lw_privs_3, lw_okq q := List.forall_mem_cons.mpr ⟨lw_p32, List.forall_mem_cons.mpr ⟨lw_p33, List.forall_mem_cons.mpr ⟨lw_p34, List.forall_mem_cons.mpr ⟨lw_p35, List.forall_mem_cons.mpr ⟨lw_p36, List.forall_mem_cons.mpr ⟨lw_p37, List.forall_mem_cons.mpr ⟨lw_p38, List.forall_mem_cons.mpr ⟨lw_p39, List.forall_mem_cons.mpr ⟨lw_p40, List.forall_mem_cons.mpr ⟨lw_p41, List.forall_mem_cons.mpr ⟨lw_p42, List.forall_mem_cons.mpr ⟨lw_p43, List.forall_mem_cons.mpr ⟨lw_p44, List.forall_mem_cons.mpr ⟨lw_p45, List.forall_mem_cons.mpr ⟨lw_p46, List.forall_mem_cons.mpr ⟨lw_p47, fun _ h => absurd h List.not_mem_nil⟩⟩⟩⟩⟩⟩⟩⟩⟩⟩⟩⟩⟩⟩⟩⟩
theorem lw_p48 : lw_okq (⟨"MethodWarden$Gate", "work", "(LMethodWarden$Method;I)I"⟩, 10) := ⟨⟨by decide +kernel, by decide +kernel⟩, List.mem_of_getElem? (i := 226) (by decide +kernel), List.mem_of_getElem? (i := 904) (by decide +kernel), List.mem_of_getElem? (i := 905) (by decide +kernel)⟩
theorem lw_p49 : lw_okq (⟨"MethodWarden$Gate", "throwing", "(I)I"⟩, 10) := ⟨⟨by decide +kernel, by decide +kernel⟩, List.mem_of_getElem? (i := 226) (by decide +kernel), List.mem_of_getElem? (i := 919) (by decide +kernel), List.mem_of_getElem? (i := 920) (by decide +kernel)⟩
theorem lw_p50 : lw_okq (⟨"MethodWarden$Gate", "callOn", "(II)I"⟩, 10) := ⟨⟨by decide +kernel, by decide +kernel⟩, List.mem_of_getElem? (i := 226) (by decide +kernel), List.mem_of_getElem? (i := 925) (by decide +kernel), List.mem_of_getElem? (i := 926) (by decide +kernel)⟩
theorem lw_p51 : lw_okq (⟨"MethodWarden$Gate", "letOut", "(LMethodWarden$Method;LMethodWarden$Items;)I"⟩, 10) := ⟨⟨by decide +kernel, by decide +kernel⟩, List.mem_of_getElem? (i := 226) (by decide +kernel), List.mem_of_getElem? (i := 932) (by decide +kernel), List.mem_of_getElem? (i := 933) (by decide +kernel)⟩
theorem lw_p52 : lw_okq (⟨"MethodWardenModel", "read", "()I"⟩, 61) := ⟨⟨by decide +kernel, by decide +kernel⟩, List.mem_of_getElem? (i := 987) (by decide +kernel), List.mem_of_getElem? (i := 1186) (by decide +kernel), List.mem_of_getElem? (i := 1187) (by decide +kernel)⟩
theorem lw_p53 : lw_okq (⟨"MethodWardenModel", "at", "(I)I"⟩, 61) := ⟨⟨by decide +kernel, by decide +kernel⟩, List.mem_of_getElem? (i := 987) (by decide +kernel), List.mem_of_getElem? (i := 1190) (by decide +kernel), List.mem_of_getElem? (i := 1191) (by decide +kernel)⟩
theorem lw_p54 : lw_okq (⟨"MethodWardenModel", "reduce", "(I)V"⟩, 61) := ⟨⟨by decide +kernel, by decide +kernel⟩, List.mem_of_getElem? (i := 987) (by decide +kernel), List.mem_of_getElem? (i := 1194) (by decide +kernel), List.mem_of_getElem? (i := 1195) (by decide +kernel)⟩
theorem lw_p55 : lw_okq (⟨"MethodWardenModel", "rank", "(I)I"⟩, 61) := ⟨⟨by decide +kernel, by decide +kernel⟩, List.mem_of_getElem? (i := 987) (by decide +kernel), List.mem_of_getElem? (i := 1198) (by decide +kernel), List.mem_of_getElem? (i := 1199) (by decide +kernel)⟩
theorem lw_p56 : lw_okq (⟨"MethodWardenModel", "emit", "(IJ)V"⟩, 61) := ⟨⟨by decide +kernel, by decide +kernel⟩, List.mem_of_getElem? (i := 987) (by decide +kernel), List.mem_of_getElem? (i := 1202) (by decide +kernel), List.mem_of_getElem? (i := 1203) (by decide +kernel)⟩
theorem lw_p57 : lw_okq (⟨"MethodWardenModel", "digit", "(I)Z"⟩, 61) := ⟨⟨by decide +kernel, by decide +kernel⟩, List.mem_of_getElem? (i := 987) (by decide +kernel), List.mem_of_getElem? (i := 1206) (by decide +kernel), List.mem_of_getElem? (i := 1207) (by decide +kernel)⟩
theorem lw_p58 : lw_okq (⟨"MethodWardenModel", "numeral", "()I"⟩, 61) := ⟨⟨by decide +kernel, by decide +kernel⟩, List.mem_of_getElem? (i := 987) (by decide +kernel), List.mem_of_getElem? (i := 1210) (by decide +kernel), List.mem_of_getElem? (i := 1211) (by decide +kernel)⟩
theorem lw_p59 : lw_okq (⟨"MethodWardenModel", "small", "(I)Z"⟩, 61) := ⟨⟨by decide +kernel, by decide +kernel⟩, List.mem_of_getElem? (i := 987) (by decide +kernel), List.mem_of_getElem? (i := 1217) (by decide +kernel), List.mem_of_getElem? (i := 1218) (by decide +kernel)⟩
theorem lw_p60 : lw_okq (⟨"MethodWardenModel", "word", "()I"⟩, 61) := ⟨⟨by decide +kernel, by decide +kernel⟩, List.mem_of_getElem? (i := 987) (by decide +kernel), List.mem_of_getElem? (i := 1221) (by decide +kernel), List.mem_of_getElem? (i := 1222) (by decide +kernel)⟩
theorem lw_p61 : lw_okq (⟨"MethodWardenModel", "letters", "(IIII)I"⟩, 61) := ⟨⟨by decide +kernel, by decide +kernel⟩, List.mem_of_getElem? (i := 987) (by decide +kernel), List.mem_of_getElem? (i := 1225) (by decide +kernel), List.mem_of_getElem? (i := 1226) (by decide +kernel)⟩
theorem lw_p62 : lw_okq (⟨"MethodWardenModel", "signToken", "()I"⟩, 61) := ⟨⟨by decide +kernel, by decide +kernel⟩, List.mem_of_getElem? (i := 987) (by decide +kernel), List.mem_of_getElem? (i := 1229) (by decide +kernel), List.mem_of_getElem? (i := 1230) (by decide +kernel)⟩
theorem lw_p63 : lw_okq (⟨"MethodWardenModel", "take", "(I)Z"⟩, 61) := ⟨⟨by decide +kernel, by decide +kernel⟩, List.mem_of_getElem? (i := 987) (by decide +kernel), List.mem_of_getElem? (i := 1233) (by decide +kernel), List.mem_of_getElem? (i := 1234) (by decide +kernel)⟩
def lw_privs_4 : List (MethodName × Nat) := [(⟨"MethodWarden$Gate", "work", "(LMethodWarden$Method;I)I"⟩, 10), (⟨"MethodWarden$Gate", "throwing", "(I)I"⟩, 10), (⟨"MethodWarden$Gate", "callOn", "(II)I"⟩, 10), (⟨"MethodWarden$Gate", "letOut", "(LMethodWarden$Method;LMethodWarden$Items;)I"⟩, 10), (⟨"MethodWardenModel", "read", "()I"⟩, 61), (⟨"MethodWardenModel", "at", "(I)I"⟩, 61), (⟨"MethodWardenModel", "reduce", "(I)V"⟩, 61), (⟨"MethodWardenModel", "rank", "(I)I"⟩, 61), (⟨"MethodWardenModel", "emit", "(IJ)V"⟩, 61), (⟨"MethodWardenModel", "digit", "(I)Z"⟩, 61), (⟨"MethodWardenModel", "numeral", "()I"⟩, 61), (⟨"MethodWardenModel", "small", "(I)Z"⟩, 61), (⟨"MethodWardenModel", "word", "()I"⟩, 61), (⟨"MethodWardenModel", "letters", "(IIII)I"⟩, 61), (⟨"MethodWardenModel", "signToken", "()I"⟩, 61), (⟨"MethodWardenModel", "take", "(I)Z"⟩, 61)]
theorem lw_r4 : ∀ q ∈ lw_privs_4, lw_okq q := List.forall_mem_cons.mpr ⟨lw_p48, List.forall_mem_cons.mpr ⟨lw_p49, List.forall_mem_cons.mpr ⟨lw_p50, List.forall_mem_cons.mpr ⟨lw_p51, List.forall_mem_cons.mpr ⟨lw_p52, List.forall_mem_cons.mpr ⟨lw_p53, List.forall_mem_cons.mpr ⟨lw_p54, List.forall_mem_cons.mpr ⟨lw_p55, List.forall_mem_cons.mpr ⟨lw_p56, List.forall_mem_cons.mpr ⟨lw_p57, List.forall_mem_cons.mpr ⟨lw_p58, List.forall_mem_cons.mpr ⟨lw_p59, List.forall_mem_cons.mpr ⟨lw_p60, List.forall_mem_cons.mpr ⟨lw_p61, List.forall_mem_cons.mpr ⟨lw_p62, List.forall_mem_cons.mpr ⟨lw_p63, fun _ h => absurd h List.not_mem_nil⟩⟩⟩⟩⟩⟩⟩⟩⟩⟩⟩⟩⟩⟩⟩⟩
theorem lw_p64 : lw_okq (⟨"MethodWardenModel", "wait", "(I)V"⟩, 61) := ⟨⟨by decide +kernel, by decide +kernel⟩, List.mem_of_getElem? (i := 987) (by decide +kernel), List.mem_of_getElem? (i := 1237) (by decide +kernel), List.mem_of_getElem? (i := 1238) (by decide +kernel)⟩
theorem lw_p65 : lw_okq (⟨"MethodWardenModel", "shut", "(I)Z"⟩, 61) := ⟨⟨by decide +kernel, by decide +kernel⟩, List.mem_of_getElem? (i := 987) (by decide +kernel), List.mem_of_getElem? (i := 1241) (by decide +kernel), List.mem_of_getElem? (i := 1242) (by decide +kernel)⟩
theorem lw_p66 : lw_okq (⟨"MethodWardenModel", "waiting", "()I"⟩, 61) := ⟨⟨by decide +kernel, by decide +kernel⟩, List.mem_of_getElem? (i := 987) (by decide +kernel), List.mem_of_getElem? (i := 1245) (by decide +kernel), List.mem_of_getElem? (i := 1246) (by decide +kernel)⟩
theorem lw_p67 : lw_okq (⟨"MethodWardenModel", "closure", "(I)I"⟩, 61) := ⟨⟨by decide +kernel, by decide +kernel⟩, List.mem_of_getElem? (i := 987) (by decide +kernel), List.mem_of_getElem? (i := 1253) (by decide +kernel), List.mem_of_getElem? (i := 1254) (by decide +kernel)⟩
theorem lw_p68 : lw_okq (⟨"MethodWardenModel", "written", "(I)Z"⟩, 61) := ⟨⟨by decide +kernel, by decide +kernel⟩, List.mem_of_getElem? (i := 987) (by decide +kernel), List.mem_of_getElem? (i := 1279) (by decide +kernel), List.mem_of_getElem? (i := 1280) (by decide +kernel)⟩
theorem lw_p69 : lw_okq (⟨"MethodWardenModel", "giveList", "()V"⟩, 61) := ⟨⟨by decide +kernel, by decide +kernel⟩, List.mem_of_getElem? (i := 987) (by decide +kernel), List.mem_of_getElem? (i := 1295) (by decide +kernel), List.mem_of_getElem? (i := 1296) (by decide +kernel)⟩
theorem lw_p70 : lw_okq (⟨"MethodWardenModel", "open", "(I)V"⟩, 61) := ⟨⟨by decide +kernel, by decide +kernel⟩, List.mem_of_getElem? (i := 987) (by decide +kernel), List.mem_of_getElem? (i := 1299) (by decide +kernel), List.mem_of_getElem? (i := 1300) (by decide +kernel)⟩
theorem lw_p71 : lw_okq (⟨"MethodWardenModel", "enter", "()I"⟩, 61) := ⟨⟨by decide +kernel, by decide +kernel⟩, List.mem_of_getElem? (i := 987) (by decide +kernel), List.mem_of_getElem? (i := 1303) (by decide +kernel), List.mem_of_getElem? (i := 1304) (by decide +kernel)⟩
theorem lw_p72 : lw_okq (⟨"MethodWardenModel", "guardOf", "(I)I"⟩, 61) := ⟨⟨by decide +kernel, by decide +kernel⟩, List.mem_of_getElem? (i := 987) (by decide +kernel), List.mem_of_getElem? (i := 1307) (by decide +kernel), List.mem_of_getElem? (i := 1308) (by decide +kernel)⟩
theorem lw_p73 : lw_okq (⟨"MethodWardenModel", "see", "()V"⟩, 61) := ⟨⟨by decide +kernel, by decide +kernel⟩, List.mem_of_getElem? (i := 987) (by decide +kernel), List.mem_of_getElem? (i := 1311) (by decide +kernel), List.mem_of_getElem? (i := 1312) (by decide +kernel)⟩
theorem lw_p74 : lw_okq (⟨"MethodWardenModel", "sift", "(II)I"⟩, 61) := ⟨⟨by decide +kernel, by decide +kernel⟩, List.mem_of_getElem? (i := 987) (by decide +kernel), List.mem_of_getElem? (i := 1315) (by decide +kernel), List.mem_of_getElem? (i := 1316) (by decide +kernel)⟩
theorem lw_p75 : lw_okq (⟨"MethodWardenModel", "work", "(I)V"⟩, 61) := ⟨⟨by decide +kernel, by decide +kernel⟩, List.mem_of_getElem? (i := 987) (by decide +kernel), List.mem_of_getElem? (i := 1319) (by decide +kernel), List.mem_of_getElem? (i := 1320) (by decide +kernel)⟩
theorem lw_p76 : lw_okq (⟨"MethodWardenModel", "begin", "(II)I"⟩, 61) := ⟨⟨by decide +kernel, by decide +kernel⟩, List.mem_of_getElem? (i := 987) (by decide +kernel), List.mem_of_getElem? (i := 1323) (by decide +kernel), List.mem_of_getElem? (i := 1324) (by decide +kernel)⟩
theorem lw_p77 : lw_okq (⟨"MethodWardenModel", "push", "(IJ)V"⟩, 61) := ⟨⟨by decide +kernel, by decide +kernel⟩, List.mem_of_getElem? (i := 987) (by decide +kernel), List.mem_of_getElem? (i := 1327) (by decide +kernel), List.mem_of_getElem? (i := 1328) (by decide +kernel)⟩
theorem lw_p78 : lw_okq (⟨"MethodWardenModel", "again", "(II)I"⟩, 61) := ⟨⟨by decide +kernel, by decide +kernel⟩, List.mem_of_getElem? (i := 987) (by decide +kernel), List.mem_of_getElem? (i := 1331) (by decide +kernel), List.mem_of_getElem? (i := 1332) (by decide +kernel)⟩
theorem lw_p79 : lw_okq (⟨"MethodWardenModel", "pushItems", "(II)V"⟩, 61) := ⟨⟨by decide +kernel, by decide +kernel⟩, List.mem_of_getElem? (i := 987) (by decide +kernel), List.mem_of_getElem? (i := 1335) (by decide +kernel), List.mem_of_getElem? (i := 1336) (by decide +kernel)⟩
def lw_privs_5 : List (MethodName × Nat) := [(⟨"MethodWardenModel", "wait", "(I)V"⟩, 61), (⟨"MethodWardenModel", "shut", "(I)Z"⟩, 61), (⟨"MethodWardenModel", "waiting", "()I"⟩, 61), (⟨"MethodWardenModel", "closure", "(I)I"⟩, 61), (⟨"MethodWardenModel", "written", "(I)Z"⟩, 61), (⟨"MethodWardenModel", "giveList", "()V"⟩, 61), (⟨"MethodWardenModel", "open", "(I)V"⟩, 61), (⟨"MethodWardenModel", "enter", "()I"⟩, 61), (⟨"MethodWardenModel", "guardOf", "(I)I"⟩, 61), (⟨"MethodWardenModel", "see", "()V"⟩, 61), (⟨"MethodWardenModel", "sift", "(II)I"⟩, 61), (⟨"MethodWardenModel", "work", "(I)V"⟩, 61), (⟨"MethodWardenModel", "begin", "(II)I"⟩, 61), (⟨"MethodWardenModel", "push", "(IJ)V"⟩, 61), (⟨"MethodWardenModel", "again", "(II)I"⟩, 61), (⟨"MethodWardenModel", "pushItems", "(II)V"⟩, 61)]
theorem lw_r5 : ∀ q ∈ lw_privs_5, lw_okq q := List.forall_mem_cons.mpr ⟨lw_p64, List.forall_mem_cons.mpr ⟨lw_p65, List.forall_mem_cons.mpr ⟨lw_p66, List.forall_mem_cons.mpr ⟨lw_p67, List.forall_mem_cons.mpr ⟨lw_p68, List.forall_mem_cons.mpr ⟨lw_p69, List.forall_mem_cons.mpr ⟨lw_p70, List.forall_mem_cons.mpr ⟨lw_p71, List.forall_mem_cons.mpr ⟨lw_p72, List.forall_mem_cons.mpr ⟨lw_p73, List.forall_mem_cons.mpr ⟨lw_p74, List.forall_mem_cons.mpr ⟨lw_p75, List.forall_mem_cons.mpr ⟨lw_p76, List.forall_mem_cons.mpr ⟨lw_p77, List.forall_mem_cons.mpr ⟨lw_p78, List.forall_mem_cons.mpr ⟨lw_p79, fun _ h => absurd h List.not_mem_nil⟩⟩⟩⟩⟩⟩⟩⟩⟩⟩⟩⟩⟩⟩⟩⟩
theorem lw_p80 : lw_okq (⟨"MethodWardenModel", "leaf", "(IJ)V"⟩, 61) := ⟨⟨by decide +kernel, by decide +kernel⟩, List.mem_of_getElem? (i := 987) (by decide +kernel), List.mem_of_getElem? (i := 1339) (by decide +kernel), List.mem_of_getElem? (i := 1340) (by decide +kernel)⟩
theorem lw_p81 : lw_okq (⟨"MethodWardenModel", "pushTruth", "(Z)V"⟩, 61) := ⟨⟨by decide +kernel, by decide +kernel⟩, List.mem_of_getElem? (i := 987) (by decide +kernel), List.mem_of_getElem? (i := 1343) (by decide +kernel), List.mem_of_getElem? (i := 1344) (by decide +kernel)⟩
theorem lw_p82 : lw_okq (⟨"MethodWardenModel", "single", "(I)V"⟩, 61) := ⟨⟨by decide +kernel, by decide +kernel⟩, List.mem_of_getElem? (i := 987) (by decide +kernel), List.mem_of_getElem? (i := 1347) (by decide +kernel), List.mem_of_getElem? (i := 1348) (by decide +kernel)⟩
theorem lw_p83 : lw_okq (⟨"MethodWardenModel", "isNumber", "(I)Z"⟩, 61) := ⟨⟨by decide +kernel, by decide +kernel⟩, List.mem_of_getElem? (i := 987) (by decide +kernel), List.mem_of_getElem? (i := 1351) (by decide +kernel), List.mem_of_getElem? (i := 1352) (by decide +kernel)⟩
theorem lw_p84 : lw_okq (⟨"MethodWardenModel", "choose", "(I)V"⟩, 61) := ⟨⟨by decide +kernel, by decide +kernel⟩, List.mem_of_getElem? (i := 987) (by decide +kernel), List.mem_of_getElem? (i := 1356) (by decide +kernel), List.mem_of_getElem? (i := 1357) (by decide +kernel)⟩
theorem lw_p85 : lw_okq (⟨"MethodWardenModel", "keep", "(I)V"⟩, 61) := ⟨⟨by decide +kernel, by decide +kernel⟩, List.mem_of_getElem? (i := 987) (by decide +kernel), List.mem_of_getElem? (i := 1360) (by decide +kernel), List.mem_of_getElem? (i := 1361) (by decide +kernel)⟩
theorem lw_p86 : lw_okq (⟨"MethodWardenModel", "pair", "(I)V"⟩, 61) := ⟨⟨by decide +kernel, by decide +kernel⟩, List.mem_of_getElem? (i := 987) (by decide +kernel), List.mem_of_getElem? (i := 1364) (by decide +kernel), List.mem_of_getElem? (i := 1365) (by decide +kernel)⟩
theorem lw_p87 : lw_okq (⟨"MethodWardenModel", "alike", "(I)Z"⟩, 61) := ⟨⟨by decide +kernel, by decide +kernel⟩, List.mem_of_getElem? (i := 987) (by decide +kernel), List.mem_of_getElem? (i := 1368) (by decide +kernel), List.mem_of_getElem? (i := 1369) (by decide +kernel)⟩
theorem lw_p88 : lw_okq (⟨"MethodWardenModel", "ordered", "(IJJ)Z"⟩, 61) := ⟨⟨by decide +kernel, by decide +kernel⟩, List.mem_of_getElem? (i := 987) (by decide +kernel), List.mem_of_getElem? (i := 1372) (by decide +kernel), List.mem_of_getElem? (i := 1373) (by decide +kernel)⟩
theorem lw_p89 : lw_okq (⟨"MethodWardenModel", "calculated", "(IJJ)J"⟩, 61) := ⟨⟨by decide +kernel, by decide +kernel⟩, List.mem_of_getElem? (i := 987) (by decide +kernel), List.mem_of_getElem? (i := 1376) (by decide +kernel), List.mem_of_getElem? (i := 1377) (by decide +kernel)⟩
theorem lw_p90 : lw_okq (⟨"MethodWardenModel", "opens", "(I)Z"⟩, 61) := ⟨⟨by decide +kernel, by decide +kernel⟩, List.mem_of_getElem? (i := 987) (by decide +kernel), List.mem_of_getElem? (i := 1380) (by decide +kernel), List.mem_of_getElem? (i := 1381) (by decide +kernel)⟩
theorem lw_p91 : lw_okq (⟨"MethodWardenModel", "holds", "(I)Z"⟩, 61) := ⟨⟨by decide +kernel, by decide +kernel⟩, List.mem_of_getElem? (i := 987) (by decide +kernel), List.mem_of_getElem? (i := 1384) (by decide +kernel), List.mem_of_getElem? (i := 1385) (by decide +kernel)⟩
theorem lw_p92 : lw_okq (⟨"MethodWardenModel", "give", "(I)I"⟩, 61) := ⟨⟨by decide +kernel, by decide +kernel⟩, List.mem_of_getElem? (i := 987) (by decide +kernel), List.mem_of_getElem? (i := 1388) (by decide +kernel), List.mem_of_getElem? (i := 1389) (by decide +kernel)⟩
theorem lw_p93 : lw_okq (⟨"MethodWardenModel", "leave", "(I)I"⟩, 61) := ⟨⟨by decide +kernel, by decide +kernel⟩, List.mem_of_getElem? (i := 987) (by decide +kernel), List.mem_of_getElem? (i := 1392) (by decide +kernel), List.mem_of_getElem? (i := 1393) (by decide +kernel)⟩
theorem lw_p94 : lw_okq (⟨"MethodWardenModel", "sifted", "(I)Z"⟩, 61) := ⟨⟨by decide +kernel, by decide +kernel⟩, List.mem_of_getElem? (i := 987) (by decide +kernel), List.mem_of_getElem? (i := 1396) (by decide +kernel), List.mem_of_getElem? (i := 1397) (by decide +kernel)⟩
def lw_privs_6 : List (MethodName × Nat) := [(⟨"MethodWardenModel", "leaf", "(IJ)V"⟩, 61), (⟨"MethodWardenModel", "pushTruth", "(Z)V"⟩, 61), (⟨"MethodWardenModel", "single", "(I)V"⟩, 61), (⟨"MethodWardenModel", "isNumber", "(I)Z"⟩, 61), (⟨"MethodWardenModel", "choose", "(I)V"⟩, 61), (⟨"MethodWardenModel", "keep", "(I)V"⟩, 61), (⟨"MethodWardenModel", "pair", "(I)V"⟩, 61), (⟨"MethodWardenModel", "alike", "(I)Z"⟩, 61), (⟨"MethodWardenModel", "ordered", "(IJJ)Z"⟩, 61), (⟨"MethodWardenModel", "calculated", "(IJJ)J"⟩, 61), (⟨"MethodWardenModel", "opens", "(I)Z"⟩, 61), (⟨"MethodWardenModel", "holds", "(I)Z"⟩, 61), (⟨"MethodWardenModel", "give", "(I)I"⟩, 61), (⟨"MethodWardenModel", "leave", "(I)I"⟩, 61), (⟨"MethodWardenModel", "sifted", "(I)Z"⟩, 61)]
theorem lw_r6 : ∀ q ∈ lw_privs_6, lw_okq q := List.forall_mem_cons.mpr ⟨lw_p80, List.forall_mem_cons.mpr ⟨lw_p81, List.forall_mem_cons.mpr ⟨lw_p82, List.forall_mem_cons.mpr ⟨lw_p83, List.forall_mem_cons.mpr ⟨lw_p84, List.forall_mem_cons.mpr ⟨lw_p85, List.forall_mem_cons.mpr ⟨lw_p86, List.forall_mem_cons.mpr ⟨lw_p87, List.forall_mem_cons.mpr ⟨lw_p88, List.forall_mem_cons.mpr ⟨lw_p89, List.forall_mem_cons.mpr ⟨lw_p90, List.forall_mem_cons.mpr ⟨lw_p91, List.forall_mem_cons.mpr ⟨lw_p92, List.forall_mem_cons.mpr ⟨lw_p93, List.forall_mem_cons.mpr ⟨lw_p94, fun _ h => absurd h List.not_mem_nil⟩⟩⟩⟩⟩⟩⟩⟩⟩⟩⟩⟩⟩⟩⟩
def lw_privs : List (MethodName × Nat) := lw_privs_1 ++ (lw_privs_2 ++ (lw_privs_3 ++ (lw_privs_4 ++ (lw_privs_5 ++ (lw_privs_6)))))
def lw_tbl : List Cond := k2_sels lw_privs ++ tables_1
theorem lw_privs_ok : ∀ q ∈ lw_privs, lw_okq q := by
  show ∀ q ∈ lw_privs_1 ++ (lw_privs_2 ++ (lw_privs_3 ++ (lw_privs_4 ++ (lw_privs_5 ++ (lw_privs_6))))), lw_okq q
  exact List.forall_mem_append.mpr ⟨lw_r1, List.forall_mem_append.mpr ⟨lw_r2, List.forall_mem_append.mpr ⟨lw_r3, List.forall_mem_append.mpr ⟨lw_r4, List.forall_mem_append.mpr ⟨lw_r5, lw_r6⟩⟩⟩⟩⟩
end
section
/-! Tables of the claim: classes, fields, the cells that the constructors make, String constants. Printed by gen_tables.py. -/
def TC0 : u_T := fun k => match k with
  | 0 => ("MethodWarden", "text", "LMethodWarden$Text;", true)
  | 1 => ("MethodWarden", "reader", "LMethodWarden$Reader;", true)
  | 2 => ("MethodWarden", "expressions", "[LMethodWarden$Expression;", true)
  | 3 => ("MethodWarden", "spare", "LMethodWarden$Expression;", false)
  | 4 => ("MethodWarden", "context", "LMethodWarden$Context;", true)
  | 5 => ("MethodWarden", "list", "LMethodWarden$Items;", true)
  | 6 => ("MethodWarden", "worker", "LMethodWarden$Worker;", true)
  | 7 => ("MethodWarden", "gate", "LMethodWarden$Gate;", true)
  | _ => ("MethodWarden", "latestAsked", "J", false)
def TC1 : u_T := fun k => match k with
  | 0 => ("MethodWarden$Text", "characters", "[C", true)
  | 1 => ("MethodWarden$Text", "length", "I", false)
  | 2 => ("MethodWarden$Text", "at", "I", false)
  | 3 => ("MethodWarden$Text", "token", "I", false)
  | 4 => ("MethodWarden$Text", "start", "I", false)
  | _ => ("MethodWarden$Text", "number", "J", false)
def TC2 : u_T := fun k => match k with
  | 0 => ("MethodWarden$Reader", "begun", "[I", true)
  | 1 => ("MethodWarden$Reader", "begunCount", "I", false)
  | 2 => ("MethodWarden$Reader", "operands", "[I", true)
  | 3 => ("MethodWarden$Reader", "operandCount", "I", false)
  | 4 => ("MethodWarden$Reader", "wanted", "I", false)
  | 5 => ("MethodWarden$Reader", "sizeSort", "I", false)
  | 6 => ("MethodWarden$Reader", "partCount", "I", false)
  | _ => ("MethodWarden$Reader", "made", "LMethodWarden$Expression;", false)
def TC3 : u_T := fun k => match k with
  | 0 => ("MethodWarden$Expression", "sort", "[I", true)
  | 1 => ("MethodWarden$Expression", "first", "[I", true)
  | 2 => ("MethodWarden$Expression", "second", "[I", true)
  | 3 => ("MethodWarden$Expression", "third", "[I", true)
  | 4 => ("MethodWarden$Expression", "number", "[J", true)
  | _ => ("MethodWarden$Expression", "size", "I", false)
def TC4 : u_T := fun k => match k with
  | 0 => ("MethodWarden$Context", "direct", "[I", true)
  | 1 => ("MethodWarden$Context", "whole", "[I", true)
  | 2 => ("MethodWarden$Context", "user", "I", false)
  | _ => ("MethodWarden$Context", "roles", "I", false)
def TC5 : u_T := fun k => match k with
  | 0 => ("MethodWarden$Items", "row", "[I", true)
  | _ => ("MethodWarden$Items", "size", "I", false)
def TC6 : u_T := fun k => match k with
  | 0 => ("MethodWarden$Worker", "context", "LMethodWarden$Context;", true)
  | 1 => ("MethodWarden$Worker", "rows", "[LMethodWarden$Value;", true)
  | 2 => ("MethodWarden$Worker", "error", "LMethodWarden$Value;", true)
  | 3 => ("MethodWarden$Worker", "expression", "LMethodWarden$Expression;", false)
  | 4 => ("MethodWarden$Worker", "a", "I", false)
  | 5 => ("MethodWarden$Worker", "b", "J", false)
  | 6 => ("MethodWarden$Worker", "list", "LMethodWarden$Items;", false)
  | 7 => ("MethodWarden$Worker", "ret", "LMethodWarden$Value;", false)
  | 8 => ("MethodWarden$Worker", "looking", "Z", false)
  | 9 => ("MethodWarden$Worker", "item", "I", false)
  | _ => ("MethodWarden$Worker", "kept", "LMethodWarden$Items;", true)
def TC7 : u_T := fun k => match k with
  | 0 => ("MethodWarden$Value", "sort", "I", false)
  | 1 => ("MethodWarden$Value", "number", "J", false)
  | _ => ("MethodWarden$Value", "items", "LMethodWarden$Items;", true)
def TC8 : u_T := fun k => match k with
  | 0 => ("MethodWarden$Gate", "context", "LMethodWarden$Context;", true)
  | 1 => ("MethodWarden$Gate", "worker", "LMethodWarden$Worker;", true)
  | 2 => ("MethodWarden$Gate", "expressions", "[LMethodWarden$Expression;", true)
  | 3 => ("MethodWarden$Gate", "methods", "[LMethodWarden$Method;", true)
  | 4 => ("MethodWarden$Gate", "guards", "[LMethodWarden$Guard;", true)
  | 5 => ("MethodWarden$Gate", "lists", "[LMethodWarden$Items;", true)
  | 6 => ("MethodWarden$Gate", "cameBack", "LMethodWarden$Value;", true)
  | 7 => ("MethodWarden$Gate", "a", "I", false)
  | 8 => ("MethodWarden$Gate", "thrown", "I", false)
  | _ => ("MethodWarden$Gate", "latestEnd", "I", false)
def TC9 : u_T := fun k => match k with
  | 0 => ("MethodWarden$Method", "in", "I", false)
  | 1 => ("MethodWarden$Method", "check", "I", false)
  | 2 => ("MethodWarden$Method", "out", "I", false)
  | 3 => ("MethodWarden$Method", "how", "I", false)
  | 4 => ("MethodWarden$Method", "k", "I", false)
  | 5 => ("MethodWarden$Method", "extra", "I", false)
  | _ => ("MethodWarden$Method", "times", "[I", true)
def TC10 : u_T := fun k => match k with
  | 0 => ("MethodWarden$Guard", "form", "I", false)
  | _ => ("MethodWarden$Guard", "detail", "I", false)
def TC11 : u_T := fun k => match k with
  | 0 => ("MethodWardenModel", "text", "[I", false)
  | 1 => ("MethodWardenModel", "length", "I", false)
  | 2 => ("MethodWardenModel", "code", "[I", false)
  | 3 => ("MethodWardenModel", "arg", "[J", false)
  | 4 => ("MethodWardenModel", "codes", "[I", false)
  | 5 => ("MethodWardenModel", "pos", "I", false)
  | 6 => ("MethodWardenModel", "number", "J", false)
  | 7 => ("MethodWardenModel", "state", "I", false)
  | 8 => ("MethodWardenModel", "sign", "[I", false)
  | 9 => ("MethodWardenModel", "begun", "[I", false)
  | 10 => ("MethodWardenModel", "signs", "I", false)
  | 11 => ("MethodWardenModel", "parts", "I", false)
  | 12 => ("MethodWardenModel", "includes", "[I", false)
  | 13 => ("MethodWardenModel", "user", "I", false)
  | 14 => ("MethodWardenModel", "roles", "I", false)
  | 15 => ("MethodWardenModel", "given", "[I", false)
  | 16 => ("MethodWardenModel", "givens", "I", false)
  | 17 => ("MethodWardenModel", "guardKind", "[I", false)
  | 18 => ("MethodWardenModel", "guardX", "[I", false)
  | 19 => ("MethodWardenModel", "ruleIn", "[I", false)
  | 20 => ("MethodWardenModel", "ruleCheck", "[I", false)
  | 21 => ("MethodWardenModel", "ruleOut", "[I", false)
  | 22 => ("MethodWardenModel", "how", "[I", false)
  | 23 => ("MethodWardenModel", "howK", "[I", false)
  | 24 => ("MethodWardenModel", "extra", "[I", false)
  | 25 => ("MethodWardenModel", "counts", "[I", false)
  | 26 => ("MethodWardenModel", "kinds", "[I", false)
  | 27 => ("MethodWardenModel", "nums", "[J", false)
  | 28 => ("MethodWardenModel", "items", "[I", false)
  | 29 => ("MethodWardenModel", "top", "I", false)
  | 30 => ("MethodWardenModel", "loopItems", "[I", false)
  | 31 => ("MethodWardenModel", "loopCount", "[I", false)
  | 32 => ("MethodWardenModel", "loopAt", "[I", false)
  | 33 => ("MethodWardenModel", "loopKept", "[I", false)
  | 34 => ("MethodWardenModel", "loopKeeps", "[I", false)
  | 35 => ("MethodWardenModel", "loopHad", "[Z", false)
  | 36 => ("MethodWardenModel", "loopIt", "[I", false)
  | 37 => ("MethodWardenModel", "loops", "I", false)
  | 38 => ("MethodWardenModel", "itKnown", "Z", false)
  | 39 => ("MethodWardenModel", "it", "I", false)
  | 40 => ("MethodWardenModel", "argA", "I", false)
  | 41 => ("MethodWardenModel", "argB", "J", false)
  | 42 => ("MethodWardenModel", "seen", "[I", false)
  | 43 => ("MethodWardenModel", "seens", "I", false)
  | 44 => ("MethodWardenModel", "retKind", "I", false)
  | 45 => ("MethodWardenModel", "retNumber", "I", false)
  | 46 => ("MethodWardenModel", "ret", "[I", false)
  | 47 => ("MethodWardenModel", "frameMethod", "[I", false)
  | 48 => ("MethodWardenModel", "frameList", "[I", false)
  | 49 => ("MethodWardenModel", "frameCount", "[I", false)
  | 50 => ("MethodWardenModel", "frameUser", "[I", false)
  | 51 => ("MethodWardenModel", "frameRoles", "[I", false)
  | 52 => ("MethodWardenModel", "depth", "I", false)
  | 53 => ("MethodWardenModel", "kept", "[I", false)
  | 54 => ("MethodWardenModel", "backKind", "I", false)
  | 55 => ("MethodWardenModel", "backNumber", "I", false)
  | 56 => ("MethodWardenModel", "back", "[I", false)
  | 57 => ("MethodWardenModel", "shownKind", "I", false)
  | 58 => ("MethodWardenModel", "shownNumber", "I", false)
  | 59 => ("MethodWardenModel", "shown", "[I", false)
  | _ => ("MethodWardenModel", "answer", "J", false)
abbrev classes : List vw_C := [("MethodWarden", TC0, 9), ("MethodWarden$Text", TC1, 6), ("MethodWarden$Reader", TC2, 8), ("MethodWarden$Expression", TC3, 6), ("MethodWarden$Context", TC4, 4), ("MethodWarden$Items", TC5, 2), ("MethodWarden$Worker", TC6, 11), ("MethodWarden$Value", TC7, 3), ("MethodWarden$Gate", TC8, 10), ("MethodWarden$Method", TC9, 7), ("MethodWarden$Guard", TC10, 2), ("MethodWardenModel", TC11, 61)]
def FTYS : List (List FieldType) := [[(.object "MethodWarden$Text"), (.object "MethodWarden$Reader"), (.array (.object "MethodWarden$Expression")), (.object "MethodWarden$Expression"), (.object "MethodWarden$Context"), (.object "MethodWarden$Items"), (.object "MethodWarden$Worker"), (.object "MethodWarden$Gate"), .long],
  [(.array .char), .int, .int, .int, .int, .long],
  [(.array .int), .int, (.array .int), .int, .int, .int, .int, (.object "MethodWarden$Expression")],
  [(.array .int), (.array .int), (.array .int), (.array .int), (.array .long), .int],
  [(.array .int), (.array .int), .int, .int],
  [(.array .int), .int],
  [(.object "MethodWarden$Context"), (.array (.object "MethodWarden$Value")), (.object "MethodWarden$Value"), (.object "MethodWarden$Expression"), .int, .long, (.object "MethodWarden$Items"), (.object "MethodWarden$Value"), .boolean, .int, (.object "MethodWarden$Items")],
  [.int, .long, (.object "MethodWarden$Items")],
  [(.object "MethodWarden$Context"), (.object "MethodWarden$Worker"), (.array (.object "MethodWarden$Expression")), (.array (.object "MethodWarden$Method")), (.array (.object "MethodWarden$Guard")), (.array (.object "MethodWarden$Items")), (.object "MethodWarden$Value"), .int, .int, .int],
  [.int, .int, .int, .int, .int, .int, (.array .int)],
  [.int, .int],
  [(.array .int), .int, (.array .int), (.array .long), (.array .int), .int, .long, .int, (.array .int), (.array .int), .int, .int, (.array .int), .int, .int, (.array .int), .int, (.array .int), (.array .int), (.array .int), (.array .int), (.array .int), (.array .int), (.array .int), (.array .int), (.array .int), (.array .int), (.array .long), (.array .int), .int, (.array .int), (.array .int), (.array .int), (.array .int), (.array .int), (.array .boolean), (.array .int), .int, .boolean, .int, .int, .long, (.array .int), .int, .int, .int, (.array .int), (.array .int), (.array .int), (.array .int), (.array .int), (.array .int), .int, (.array .int), .int, .int, (.array .int), .int, .int, (.array .int), .long]]
def FTY (ci k : Nat) : FieldType := (FTYS.getD ci []).getD k .int
def FTCS : List (List Nat) := [[2, 2, 2, 2, 2, 2, 2, 2, 1],
  [2, 0, 0, 0, 0, 1],
  [2, 0, 2, 0, 0, 0, 0, 2],
  [2, 2, 2, 2, 2, 0],
  [2, 2, 0, 0],
  [2, 0],
  [2, 2, 2, 2, 0, 1, 2, 2, 0, 0, 2],
  [0, 1, 2],
  [2, 2, 2, 2, 2, 2, 2, 0, 0, 0],
  [0, 0, 0, 0, 0, 0, 2],
  [0, 0],
  [2, 0, 2, 2, 2, 0, 1, 0, 2, 2, 0, 0, 2, 0, 0, 2, 0, 2, 2, 2, 2, 2, 2, 2, 2, 2, 2, 2, 2, 0, 2, 2, 2, 2, 2, 2, 2, 0, 0, 0, 0, 1, 2, 0, 0, 0, 2, 2, 2, 2, 2, 2, 0, 2, 0, 0, 2, 0, 0, 2, 1]]
def FTC (ci k : Nat) : Nat := (FTCS.getD ci []).getD k 0
def LYOS : List (List (Nat × Nat)) := [[(1, 3), (1, 5), (1, 8), (0, 0), (1, 63), (1, 66), (1, 68), (1, 135), (0, 0)],
  [(2, 1), (0, 0), (0, 0), (0, 0), (0, 0), (0, 0)],
  [(2, 1), (0, 0), (2, 2), (0, 0), (0, 0), (0, 0), (0, 0), (0, 0)],
  [(2, 1), (2, 2), (2, 3), (2, 4), (2, 5), (0, 0)],
  [(2, 1), (2, 2), (0, 0), (0, 0)],
  [(2, 1), (0, 0)],
  [(1, 63), (1, 69), (1, 70), (0, 0), (0, 0), (0, 0), (0, 0), (0, 0), (0, 0), (0, 0), (1, 73)],
  [(0, 0), (0, 0), (2, 1)],
  [(1, 63), (1, 68), (1, 8), (1, 136), (1, 137), (1, 138), (1, 139), (0, 0), (0, 0), (0, 0)],
  [(0, 0), (0, 0), (0, 0), (0, 0), (0, 0), (0, 0), (2, 1)],
  [(0, 0), (0, 0)],
  [(1, 185), (0, 0), (1, 186), (1, 187), (1, 188), (0, 0), (0, 0), (0, 0), (1, 189), (1, 190), (0, 0), (0, 0), (1, 191), (0, 0), (0, 0), (1, 192), (0, 0), (1, 193), (1, 194), (1, 195), (1, 196), (1, 197), (1, 198), (1, 199), (1, 200), (1, 201), (1, 202), (1, 203), (1, 204), (0, 0), (1, 205), (1, 206), (1, 207), (1, 208), (1, 209), (1, 210), (1, 211), (0, 0), (0, 0), (0, 0), (0, 0), (0, 0), (1, 212), (0, 0), (0, 0), (0, 0), (1, 213), (1, 214), (1, 215), (1, 216), (1, 217), (1, 218), (0, 0), (1, 219), (0, 0), (0, 0), (1, 220), (0, 0), (0, 0), (1, 221), (0, 0)]]
/-- which references stay as the constructors left them, and what they are: 1 a number, 2 beside the cell -/
def LYS (K k : Nat) : Bool := if K < 100 then decide (((LYOS.getD K []).getD k (0, 0)).1 ≠ 0) else decide (105 ≤ K ∧ K ≤ 108)
def LYO (K k c : Nat) : Nat := if K < 100 then (match (LYOS.getD K []).getD k (0, 0) with | (2, v) => c + v | (_, v) => v) else if K = 105 then 75 + 3 * k else if K = 106 then 142 + 2 * k else if K = 107 then 158 + k else 168 + 2 * k
def NT : Nat := 220
def SHK : List Nat := [999, 999, 0, 1, 102, 2, 100, 100, 104, 3, 100, 100, 100, 100, 101, 3, 100, 100, 100, 100, 101, 3, 100, 100, 100, 100, 101, 3, 100, 100, 100, 100, 101, 3, 100, 100, 100, 100, 101, 3, 100, 100, 100, 100, 101, 3, 100, 100, 100, 100, 101, 3, 100, 100, 100, 100, 101, 3, 100, 100, 100, 100, 101, 4, 100, 100, 5, 100, 6, 105, 7, 5, 100, 5, 100, 7, 5, 100, 7, 5, 100, 7, 5, 100, 7, 5, 100, 7, 5, 100, 7, 5, 100, 7, 5, 100, 7, 5, 100, 7, 5, 100, 7, 5, 100, 7, 5, 100, 7, 5, 100, 7, 5, 100, 7, 5, 100, 7, 5, 100, 7, 5, 100, 7, 5, 100, 7, 5, 100, 7, 5, 100, 7, 5, 100, 8, 106, 107, 108, 7, 5, 100, 9, 100, 9, 100, 9, 100, 9, 100, 9, 100, 9, 100, 9, 100, 9, 100, 10, 10, 10, 10, 10, 10, 10, 10, 10, 10, 5, 100, 5, 100, 5, 100, 5, 100, 5, 100, 5, 100, 5, 100, 5, 100, 11, 100, 100, 101, 100, 100, 100, 100, 100, 100, 100, 100, 100, 100, 100, 100, 100, 100, 100, 101, 100, 100, 100, 100, 100, 100, 103, 100, 100, 100, 100, 100, 100, 100, 100, 100, 100, 100]
def SHN : List Nat := [0, 0, 9, 6, 48, 8, 48, 20, 8, 6, 20, 20, 20, 20, 20, 6, 20, 20, 20, 20, 20, 6, 20, 20, 20, 20, 20, 6, 20, 20, 20, 20, 20, 6, 20, 20, 20, 20, 20, 6, 20, 20, 20, 20, 20, 6, 20, 20, 20, 20, 20, 6, 20, 20, 20, 20, 20, 6, 20, 20, 20, 20, 20, 4, 16, 16, 2, 5, 11, 20, 3, 2, 5, 2, 5, 3, 2, 5, 3, 2, 5, 3, 2, 5, 3, 2, 5, 3, 2, 5, 3, 2, 5, 3, 2, 5, 3, 2, 5, 3, 2, 5, 3, 2, 5, 3, 2, 5, 3, 2, 5, 3, 2, 5, 3, 2, 5, 3, 2, 5, 3, 2, 5, 3, 2, 5, 3, 2, 5, 3, 2, 5, 3, 2, 5, 10, 8, 10, 8, 3, 2, 5, 7, 6, 7, 6, 7, 6, 7, 6, 7, 6, 7, 6, 7, 6, 7, 6, 2, 2, 2, 2, 2, 2, 2, 2, 2, 2, 2, 5, 2, 5, 2, 5, 2, 5, 2, 5, 2, 5, 2, 5, 2, 5, 61, 48, 432, 432, 9, 48, 48, 16, 5, 10, 10, 8, 8, 8, 8, 8, 8, 48, 48, 48, 240, 80, 16, 16, 80, 16, 16, 16, 5, 5, 8, 40, 8, 8, 8, 5, 5, 5]
theorem shk_len : SHK.length = NT + 2 := by decide +kernel
theorem shn_len : SHN.length = NT + 2 := by decide +kernel
theorem shk_0 : SHK.getD 0 999 = 999 := rfl
theorem shk_1 : SHK.getD 1 999 = 999 := rfl
theorem nt_small : NT + 2 ≤ 1000 := by decide
def ATS : List FieldType := [.int, .long, .char, .boolean, (.object "MethodWarden$Expression"), (.object "MethodWarden$Value"), (.object "MethodWarden$Method"), (.object "MethodWarden$Guard"), (.object "MethodWarden$Items")]
theorem ats_small : ATS.length < 800 := by decide
def AON : List String := ["MethodWarden$Expression", "MethodWarden$Value", "MethodWarden$Method", "MethodWarden$Guard", "MethodWarden$Items"]
def STW : List (String × Nat × String) := [("MethodWarden$Text", 66, "a"), ("MethodWarden$Text", 72, "b"), ("MethodWarden$Text", 74, "me"), ("MethodWarden$Text", 76, "it"), ("MethodWarden$Text", 78, "ret"), ("MethodWarden$Text", 80, "true"), ("MethodWarden$Text", 82, "false"), ("MethodWarden$Text", 84, "null"), ("MethodWarden$Text", 86, "list"), ("MethodWarden$Text", 88, "role"), ("MethodWarden$Text", 90, "size")]
def NST : Nat := 11
def STO (i : Nat) : String := (STW.getD i ("", 0, "")).1
def STI (i : Nat) : Nat := (STW.getD i ("", 0, "")).2.1
def STX (i : Nat) : String := (STW.getD i ("", 0, "")).2.2
def STLEN : List Nat := [1, 1, 2, 2, 3, 4, 5, 4, 4, 4, 4]
def STBYT : List (List Int32) := [[97], [98], [109, 101], [105, 116], [114, 101, 116], [116, 114, 117, 101], [102, 97, 108, 115, 101], [110, 117, 108, 108], [108, 105, 115, 116], [114, 111, 108, 101], [115, 105, 122, 101]]
/-- the words that every contract takes along, and those of nest mates, which go with the state -/
def isNest : Cond → Bool
  | .fieldLinkNest _ _ _ _ _ _ => true
  | .methodLinkNest _ _ _ _ => true
  | _ => false
def NW : List Cond := lw_tbl.filter isNest
theorem nw_kind : ∀ w ∈ NW, (∃ a i b n d h, w = .fieldLinkNest a i b n d h) ∨ (∃ a i x h, w = .methodLinkNest a i x h) := by
  intro w hw
  have h := (List.mem_filter.mp hw).2
  cases w <;> first | (exact Or.inl ⟨_, _, _, _, _, _, rfl⟩) | (exact Or.inr ⟨_, _, _, _, rfl⟩) | (exact Bool.noConfusion h)
def WG : List Cond := lw_tbl.filter goodWord
theorem wg_ok (w : Cond) (h : goodWord w = true) : (w.onTables && w.keeps) = true ∨ ∃ ty, w = .arrayClass ty := good_of_word h
theorem inWG {w : Cond} (i : Nat) (h : lw_tbl[i]? = some w) (hg : goodWord w = true) : w ∈ WG := List.mem_filter.mpr ⟨List.mem_of_getElem? h, hg⟩
theorem inNW {w : Cond} (i : Nat) (h : lw_tbl[i]? = some w) (hg : isNest w = true) : w ∈ NW := List.mem_filter.mpr ⟨List.mem_of_getElem? h, hg⟩
theorem inWGs (ws : List Cond) (ps : List Nat) (hp : ws = ps.filterMap (fun i => lw_tbl[i]?)) (h : ws.all goodWord = true) : ∀ w ∈ ws, w ∈ WG := by
  intro w hw
  have h1 := List.all_eq_true.mp h w hw
  rw [hp] at hw
  obtain ⟨i, -, hi⟩ := List.mem_filterMap.mp hw
  exact inWG i hi h1
end
section
/-! The engine: a memory of ints, longs and references by cell and place; AW: the machine at a frame over such a memory; a row an instruction. -/
abbrev ax_V : Type := Int32 ⊕ Int64 ⊕ Nat
abbrev ax_M : Type := (Nat → Nat → Int32) × (Nat → Nat → Int64) × (Nat → Nat → Nat) × Nat
abbrev ax_G : Type := va_G × (Nat → ClassId) × Nat × Nat × Nat × (Nat → Int32) × (Nat → Nat) × (Nat → Nat)
abbrev ax_Y : Type := MethodName × ByteArray × Nat × Option FieldType × List (Nat × Instr × Nat)
abbrev vI (x : Int32) : ax_V := .inl x
abbrev vJ (x : Int64) : ax_V := .inr (.inl x)
abbrev vA (r : Nat) : ax_V := .inr (.inr r)
def ax_up {α : Type} (f : Nat → Nat → α) (c k : Nat) (v : α) : Nat → Nat → α := fun a j => if a = c ∧ j = k then v else f a j
def mI (M : ax_M) (c k : Nat) (v : Int32) : ax_M := (ax_up M.1 c k v, M.2)
def mJ (M : ax_M) (c k : Nat) (v : Int64) : ax_M := (M.1, ax_up M.2.1 c k v, M.2.2)
def mA (M : ax_M) (c k : Nat) (v : Nat) : ax_M := (M.1, M.2.1, ax_up M.2.2.1 c k v, M.2.2.2)
def mS (M : ax_M) : ax_M := (M.1, M.2.1, M.2.2.1, M.2.2.2 + 1)
def gI (M : ax_M) (c k : Nat) : Int32 := M.1 c k
def gJ (M : ax_M) (c k : Nat) : Int64 := M.2.1 c k
def gA (M : ax_M) (c k : Nat) : Nat := M.2.2.1 c k
def gn (M : ax_M) : Nat := M.2.2.2
def kd (c : Nat) : Nat := SHK.getD c 999
def ln (c : Nat) : Nat := SHN.getD c 0
/-- the sum of the first n cells' places -/
def szs : List Nat → Nat → Nat
  | _, 0 => 0
  | [], _ + 1 => 0
  | a :: l, n + 1 => a + szs l n
def SZ (n : Nat) : Nat := szs (SHN.drop 2) n
abbrev gD (g : ax_G) : va_G := g.1
abbrev gdA (g : ax_G) : Nat → ClassId := g.2.1
abbrev gb (g : ax_G) : Nat := g.2.2.1
abbrev gs (g : ax_G) : Nat := g.2.2.2.1
abbrev gL (g : ax_G) : Nat := g.2.2.2.2.1
abbrev gx (g : ax_G) : Nat → Int32 := g.2.2.2.2.2.1
abbrev gK (g : ax_G) : Nat → Nat := g.2.2.2.2.2.2.1
abbrev gV (g : ax_G) : Nat → Nat := g.2.2.2.2.2.2.2
/-- the address of a reference -/
def am (g : ax_G) (r : Nat) : Nat := if r = 1 then gs g else if r < 1000 then gb g + (r - 2) else gK g (r - 1000)
def rv (g : ax_G) (r : Nat) : Value := if r = 0 then .null else .ref (am g r)
def ro (g : ax_G) (r : Nat) : Option Nat := if r = 0 then none else some (am g r)
def cv (g : ax_G) (v : ax_V) : Value := match v with
  | .inl x => .int x
  | .inr (.inl x) => .long x
  | .inr (.inr r) => rv g r
def ct (v : ax_V) : Nat := match v with
  | .inr (.inl _) => 2
  | _ => 1
theorem rv_ro (g : ax_G) (r : Nat) : va_rf (ro g r) = rv g r := by
  unfold ro rv
  split <;> rfl
theorem cv_I (g : ax_G) (x : Int32) : cv g (vI x) = .int x := rfl
theorem cv_J (g : ax_G) (x : Int64) : cv g (vJ x) = .long x := rfl
theorem cv_A (g : ax_G) (r : Nat) : cv g (vA r) = rv g r := rfl
theorem rv_pos {g : ax_G} {r : Nat} (h : ¬ r = 0) : rv g r = .ref (am g r) := if_neg h
theorem rv_0 {g : ax_G} : rv g 0 = .null := if_pos rfl
theorem rv_cat (g : ax_G) (r : Nat) : (rv g r).category = 1 := by
  unfold rv
  split <;> rfl
theorem cv_cat (g : ax_G) (v : ax_V) : (cv g v).category = ct v := by
  rcases v with x | x | r
  · rfl
  · rfl
  · exact rv_cat g r
def ax_cl (g : ax_G) (q : Nat × ax_V) : Nat × Value := (q.1, cv g q.2)
/-- the value of a field: 1 long, 2 reference, else int -/
def fv (g : ax_G) (M : ax_M) (c k : Nat) : Value := if FTC (kd c) k = 1 then .long (gJ M c k) else if FTC (kd c) k = 2 then rv g (gA M c k) else .int (gI M c k)
def cont (g : ax_G) (M : ax_M) (c : Nat) : (Nat → Int32) ⊕ (Nat → Int64) ⊕ (Nat → UInt32) ⊕ (Nat → UInt64) ⊕ (Nat → Option Nat) :=
  if kd c = 101 then .inr (.inl (gJ M c)) else if kd c < 104 then .inl (gI M c) else .inr (.inr (.inr (.inr (fun k => ro g (gA M c k)))))
def ent (g : ax_G) (M : ax_M) (c : Nat) : va_E :=
  if kd c < 100 then .inr (kd c, (List.range (ln c)).map (fv g M c)) else .inl (gdA g (kd c - 100), (ln c, cont g M c))
def WS (g : ax_G) (M : ax_M) : va_W := (List.range (gn M)).map (fun a => (gb g + a, ent g M (a + 2)))
/-- references that stay as the constructors left them -/
def Lay (M : ax_M) : Prop := ∀ c k, c < NT + 2 → k < ln c → LYS (kd c) k = true → gA M c k = LYO (kd c) k c
def hok (g : ax_G) (ly : Bool) (M : ax_M) (H : Heap) : Prop :=
  va_P (gD g) classes (WS g M) H ∧ H.size = gb g + gn M ∧ gn M ≤ NT ∧ (∀ c k, gn M + 2 ≤ c → gI M c k = 0 ∧ gJ M c k = 0 ∧ gA M c k = 0) ∧ (ly = true → gn M = NT ∧ Lay M)
def tysOf (g : ax_G) : List (ClassId × FieldType) := (List.range ATS.length).map (fun t => (gdA g t, ATS.getD t .int))
def sok (g : ax_G) (U : State) : Prop :=
  va_K (gD g) classes (tysOf g) U ∧ (∀ w ∈ NW, va_Nw w U) ∧ (∀ i, i < NST → vk_R (STO i) (STI i) (STX i) (gK g i) U) ∧ va_X (gs g) (gL g) (gx g) U U.heap ∧ gs g < gb g ∧ gb g ≤ U.heap.size ∧
    vk_S NST STLEN STBYT (gK g) (gV g) (fun q => gb g ≤ q) U U.heap ∧ ∀ C ∈ AON, va_AO C U
abbrev ax_A (g : ax_G) : Nat → Prop := fun q => gb g ≤ q
theorem nw_warm {w : Cond} (hw : w ∈ NW) {s U : State} (hW : s.WarmedH U.vm) (h : va_Nw w s) : va_Nw w U := by
  have h1 := nw_kind w hw
  rcases h1 with ⟨a, i, b, n, d, hh, rfl⟩ | ⟨a, i, x, hh, rfl⟩
  · exact va_Nw.warmF hW h
  · exact va_Nw.warmM hW h
theorem nw_same {w : Cond} (hw : w ∈ NW) {s U : State} (hv : s.vm = U.vm) (h : va_Nw w s) : va_Nw w U := by
  have h1 := nw_kind w hw
  rcases h1 with ⟨a, i, b, n, d, hh, rfl⟩ | ⟨a, i, x, hh, rfl⟩
  · exact va_Nw.same rfl hv h
  · exact va_Nw.same rfl hv h
theorem sok.warm {g : ax_G} {s U : State} (hW : s.WarmedH U.vm) (hb : gb g ≤ U.heap.size) (hq : ∀ q, q < gb g → U.heap[q]? = s.heap[q]?) (h : sok g s) : sok g U := by
  obtain ⟨h1, h2, h3, h4, h5, h6, h7, h8⟩ := h
  refine ⟨va_K.moved hW.alike h1, fun w hw => nw_warm hw hW (h2 w hw), fun i hi => vk_R.warm hW (h3 i hi), (va_X.moved hW.alike h4).kept (hq _ h5), h5, hb, (vk_S.moved hW.alike h7).kept (fun a _ hn => hq a (Nat.not_le.mp hn)), fun C hC => va_AO.moved hW.alike (h8 C hC)⟩
theorem sok.calling {g : ax_G} {U : State} {f : JFrame} {mk : MethodId} {a : Array Value} (h : sok g U) : sok g (U.calling f mk a) := by
  obtain ⟨h1, h2, h3, h4, h5, h6, h7, h8⟩ := h
  exact ⟨va_K.moved (u := U) (U := U.calling f mk a) (Vm.Alike.refl U.vm) h1, fun w hw => nw_same hw (s := U) (U := U.calling f mk a) rfl (h2 w hw), fun i hi => vk_R.same (u := U) (U := U.calling f mk a) rfl (h3 i hi), va_X.moved (u := U) (U := U.calling f mk a) (Vm.Alike.refl U.vm) h4, h5, h6, vk_S.moved (u := U) (U := U.calling f mk a) (Vm.Alike.refl U.vm) h7, fun C hC => va_AO.moved (u := U) (U := U.calling f mk a) (Vm.Alike.refl U.vm) (h8 C hC)⟩
/-! the world as a list -/
theorem am_cell {g : ax_G} {c : Nat} (h : 2 ≤ c) (h1 : c < 1000) : am g c = gb g + (c - 2) := by
  unfold am
  rw [if_neg (by omega), if_pos h1]
theorem kd_lt {c K : Nat} (h : kd c = K) (hK : K ≠ 999) : 2 ≤ c ∧ c < NT + 2 := by
  unfold kd at h
  have h2 : SHK.length = NT + 2 := shk_len
  rcases Nat.lt_or_ge c (NT + 2) with h1 | h1
  · refine ⟨?_, h1⟩
    rcases Nat.lt_or_ge c 2 with h3 | h3
    · exfalso
      have h4 : c = 0 ∨ c = 1 := by omega
      rcases h4 with rfl | rfl
      · exact hK (h.symm.trans shk_0)
      · exact hK (h.symm.trans shk_1)
    · exact h3
  · exfalso
    rw [List.getD_eq_getElem?_getD, List.getElem?_eq_none (by omega)] at h
    exact hK h.symm
theorem ws_len (g : ax_G) (M : ax_M) : (WS g M).length = gn M := by simp [WS]
theorem ws_get {g : ax_G} {M : ax_M} {c : Nat} (h : 2 ≤ c) (h1 : c < gn M + 2) (h2 : c < 1000) : (WS g M)[c - 2]? = some (am g c, ent g M c) := by
  unfold WS
  rw [List.getElem?_map, List.getElem?_range (by omega), am_cell h h2]
  show some (gb g + (c - 2), ent g M (c - 2 + 2)) = _
  rw [show c - 2 + 2 = c by omega]
theorem ws_D (g : ax_G) (M : ax_M) : va_D (ax_A g) (WS g M) := by
  have key : ∀ (k : Nat) (q : Nat × va_E), (WS g M)[k]? = some q → q.1 = gb g + k := by
    intro k q hk
    unfold WS at hk
    rw [List.getElem?_map] at hk
    have hl : k < (List.range (gn M)).length := by
      rcases Nat.lt_or_ge k (List.range (gn M)).length with h | h
      · exact h
      · rw [List.getElem?_eq_none h] at hk
        cases hk
    rw [List.length_range] at hl
    rw [List.getElem?_range hl] at hk
    cases hk
    rfl
  refine ⟨fun i j p q hi hj e => ?_, fun k q hk => ?_⟩
  · have h1 := key i p hi
    have h2 := key j q hj
    omega
  · have h1 := key k q hk
    show gb g ≤ q.1
    omega
theorem ws_set {g : ax_G} {M M' : ax_M} {c : Nat} (h : 2 ≤ c) (h1 : c < gn M + 2) (h2 : c < 1000) (hn : gn M' = gn M) (ho : ∀ a, a ≠ c → ent g M' a = ent g M a) : (WS g M).set (c - 2) (am g c, ent g M' c) = WS g M' := by
  apply List.ext_getElem?
  intro k
  rcases Nat.lt_or_ge k (gn M) with hk | hk
  · have e1 := ws_get (g := g) (M := M) (c := k + 2) (by omega) (by omega)
    by_cases hkc : k = c - 2
    · subst hkc
      rw [List.getElem?_set_self (by rw [ws_len]; omega), ws_get h (by rw [hn]; exact h1) h2]
    · rw [List.getElem?_set_ne (Ne.symm hkc)]
      unfold WS
      rw [List.getElem?_map, List.getElem?_map, hn, List.getElem?_range hk]
      show some (gb g + k, ent g M (k + 2)) = some (gb g + k, ent g M' (k + 2))
      rw [ho (k + 2) (by omega)]
  · rw [List.getElem?_eq_none (by rw [List.length_set, ws_len]; exact hk), List.getElem?_eq_none (by rw [ws_len, hn]; exact hk)]
theorem fv_other {g : ax_G} {M M' : ax_M} {a : Nat} (hI : ∀ k, gI M' a k = gI M a k) (hJ : ∀ k, gJ M' a k = gJ M a k) (hA : ∀ k, gA M' a k = gA M a k) (k : Nat) : fv g M' a k = fv g M a k := by
  unfold fv
  rw [hI, hJ, hA]
theorem ent_other {g : ax_G} {M M' : ax_M} {a : Nat} (hI : ∀ k, gI M' a k = gI M a k) (hJ : ∀ k, gJ M' a k = gJ M a k) (hA : ∀ k, gA M' a k = gA M a k) : ent g M' a = ent g M a := by
  have e1 : fv g M' a = fv g M a := funext (fv_other hI hJ hA)
  have e2 : cont g M' a = cont g M a := by
    unfold cont
    rw [show gI M' a = gI M a from funext hI, show gJ M' a = gJ M a from funext hJ, show gA M' a = gA M a from funext hA]
  unfold ent
  rw [e1, e2]
theorem gI_mI (M : ax_M) (c k : Nat) (v : Int32) (a j : Nat) : gI (mI M c k v) a j = if a = c ∧ j = k then v else gI M a j := rfl
theorem gJ_mI (M : ax_M) (c k : Nat) (v : Int32) (a j : Nat) : gJ (mI M c k v) a j = gJ M a j := rfl
theorem gA_mI (M : ax_M) (c k : Nat) (v : Int32) (a j : Nat) : gA (mI M c k v) a j = gA M a j := rfl
theorem gn_mI (M : ax_M) (c k : Nat) (v : Int32) : gn (mI M c k v) = gn M := rfl
theorem gI_mJ (M : ax_M) (c k : Nat) (v : Int64) (a j : Nat) : gI (mJ M c k v) a j = gI M a j := rfl
theorem gJ_mJ (M : ax_M) (c k : Nat) (v : Int64) (a j : Nat) : gJ (mJ M c k v) a j = if a = c ∧ j = k then v else gJ M a j := rfl
theorem gA_mJ (M : ax_M) (c k : Nat) (v : Int64) (a j : Nat) : gA (mJ M c k v) a j = gA M a j := rfl
theorem gn_mJ (M : ax_M) (c k : Nat) (v : Int64) : gn (mJ M c k v) = gn M := rfl
theorem gI_mA (M : ax_M) (c k : Nat) (v : Nat) (a j : Nat) : gI (mA M c k v) a j = gI M a j := rfl
theorem gJ_mA (M : ax_M) (c k : Nat) (v : Nat) (a j : Nat) : gJ (mA M c k v) a j = gJ M a j := rfl
theorem gA_mA (M : ax_M) (c k : Nat) (v : Nat) (a j : Nat) : gA (mA M c k v) a j = if a = c ∧ j = k then v else gA M a j := rfl
theorem gn_mA (M : ax_M) (c k : Nat) (v : Nat) : gn (mA M c k v) = gn M := rfl
theorem ent_mI {g : ax_G} {M : ax_M} {c k : Nat} {v : Int32} {a : Nat} (h : a ≠ c) : ent g (mI M c k v) a = ent g M a :=
  ent_other (fun j => by rw [gI_mI, if_neg (fun q => h q.1)]) (fun _ => rfl) (fun _ => rfl)
theorem ent_mJ {g : ax_G} {M : ax_M} {c k : Nat} {v : Int64} {a : Nat} (h : a ≠ c) : ent g (mJ M c k v) a = ent g M a :=
  ent_other (fun _ => rfl) (fun j => by rw [gJ_mJ, if_neg (fun q => h q.1)]) (fun _ => rfl)
theorem ent_mA {g : ax_G} {M : ax_M} {c k : Nat} {v : Nat} {a : Nat} (h : a ≠ c) : ent g (mA M c k v) a = ent g M a :=
  ent_other (fun _ => rfl) (fun _ => rfl) (fun j => by rw [gA_mA, if_neg (fun q => h q.1)])
/-- an object's fields behind a store -/
theorem fs_set {g : ax_G} {M M' : ax_M} {c N k : Nat} {v : Value} (hk : k < N) (hv : fv g M' c k = v) (ho : ∀ j, j ≠ k → fv g M' c j = fv g M c j) : ((List.range N).map (fv g M c)).set k v = (List.range N).map (fv g M' c) := by
  apply List.ext_getElem?
  intro j
  rcases Nat.lt_or_ge j N with hj | hj
  · by_cases hjk : j = k
    · subst hjk
      rw [List.getElem?_set_self (by simpa using hj), List.getElem?_map, List.getElem?_range hj]
      show some v = some (fv g M' c j)
      rw [hv]
    · rw [List.getElem?_set_ne (Ne.symm hjk), List.getElem?_map, List.getElem?_map, List.getElem?_range hj]
      show some _ = some _
      rw [ho j hjk]
  · rw [List.getElem?_eq_none (by simpa using hj), List.getElem?_eq_none (by simpa using hj)]
theorem ent_obj {g : ax_G} {M : ax_M} {c ci : Nat} (h : kd c = ci) (h1 : ci < 100) : ent g M c = .inr (ci, (List.range (ln c)).map (fv g M c)) := by
  unfold ent
  rw [h, if_pos h1]
theorem ent_arr {g : ax_G} {M : ax_M} {c t : Nat} (h : kd c = 100 + t) : ent g M c = .inl (gdA g t, (ln c, cont g M c)) := by
  unfold ent
  rw [h, if_neg (by omega), show 100 + t - 100 = t by omega]
theorem fs_at {g : ax_G} {M : ax_M} {c N k : Nat} (hk : k < N) : ((List.range N).map (fv g M c))[k]? = some (fv g M c k) := by
  rw [List.getElem?_map, List.getElem?_range hk]
  rfl
/-! the judgement -/
abbrev yn (Y : ax_Y) : MethodName := Y.1
abbrev yb (Y : ax_Y) : ByteArray := Y.2.1
abbrev yl (Y : ax_Y) : Nat := Y.2.2.1
abbrev yr (Y : ax_Y) : Option FieldType := Y.2.2.2.1
abbrev yt (Y : ax_Y) : List (Nat × Instr × Nat) := Y.2.2.2.2
def codeAt (Y : ax_Y) (pc : Nat) : Option (Instr × Nat) := (yt Y).lookup pc
def yw (Y : ax_Y) : List Cond := Cond.code (yn Y) (yb Y) (yl Y) (yr Y) :: WG
def yOK (Y : ax_Y) : Prop := plainName (yn Y).cls = true ∧ (∀ e ∈ yt Y, decode (yb Y) e.1 = .ok e.2) ∧ Cond.code (yn Y) (yb Y) (yl Y) (yr Y) ∈ WG ∧ Cond.initialized (yn Y).cls ∈ WG ∧ ((yn Y).cls ≠ "java/lang/invoke/MethodHandle" ∧ (yn Y).cls ≠ "java/lang/invoke/VarHandle")
def rtOK (Y : ax_Y) (i : Instr) (r : Option ax_V) : Prop :=
  (i = .ireturn ∧ yr Y = some .int ∧ ∃ x, r = some (vI x)) ∨ (i = .ireturn ∧ yr Y = some .boolean ∧ (r = some (vI 0) ∨ r = some (vI 1))) ∨ (i = .lreturn ∧ yr Y = some .long ∧ ∃ x, r = some (vJ x)) ∨
  (i = .areturn ∧ (∃ n, yr Y = some (.object n)) ∧ ∃ a, r = some (vA a)) ∨ (i = .return_ ∧ yr Y = none ∧ r = none)
def ax_Fix (g : ax_G) (Y : ax_Y) (p : Program) (s : State) (m : MethodId) (args : Array Value) (meth : Method) (c : Code) : Prop :=
  p.tables.exec = Jvm.exec ∧ c.code = yb Y ∧ c.maxLocals = yl Y ∧ s.vm.findClass (yn Y).cls = some m.cls ∧ (∀ w ∈ WG, w.before args s = true) ∧ sok g s ∧ meth.name = (yn Y).name ∧ (∀ e ∈ yt Y, decode (yb Y) e.1 = .ok e.2)
abbrev ax_R : Type := Option ax_V × ax_M
/-- what is made between two counts; nothing in the mode of calls -/
def al (ly : Bool) (a b : Nat) : Nat := match ly with
  | true => 0
  | false => b - a
theorem al_self (ly : Bool) (a : Nat) : al ly a a = 0 := by
  cases ly
  · exact Nat.sub_self a
  · rfl
theorem al_add {ly : Bool} {a b c : Nat} (h : ly = true ∨ (a ≤ b ∧ b ≤ c)) : al ly a b + al ly b c = al ly a c := by
  cases ly
  · rcases h with h | h
    · cases h
    · show b - a + (c - b) = c - a
      omega
  · rfl
theorem al_le {ly : Bool} {a b c : Nat} (h : ly = true ∨ (b ≤ c)) : al ly a b ≤ al ly a c := by
  cases ly
  · rcases h with h | h
    · cases h
    · show b - a ≤ c - a
      omega
  · exact Nat.le_refl _
def AW (l : Launch) (g : ax_G) (ly : Bool) (Y : ax_Y) (d : Nat) (res : ax_R) (pc : Nat) (Ls : List (Nat × ax_V)) (st : List ax_V) (M : ax_M) : Prop :=
  ∀ (p : Program) (e : Env) (R : Room) (s : State) (m : MethodId) (args : Array Value) (below : List Frame) (meth : Method) (c : Code) (Q : State → Prop) (n0 kc ks : Nat),
    ax_Fix g Y p s m args meth c → (d ≤ R.frames ∧ 60 * d ≤ R.locals) → ((ly = true ∨ (n0 ≤ gn M ∧ gn M ≤ gn res.2)) ∧ kc + al ly n0 (gn res.2) ≤ R.cells ∧ ks + al ly (SZ n0) (SZ (gn res.2)) ≤ R.slots) →
    (∀ (H' : Heap) (locs' : List Loc) (ls' : Array Slot) (pc' : Nat), (∃ i, codeAt Y pc' = some (i, 1) ∧ rtOK Y i res.1) → hok g ly res.2 H' → va_S (ax_A g) s.heap H' locs' →
      W p l e R s m args below meth c H' locs' (kc + al ly n0 (gn res.2)) (ks + al ly (SZ n0) (SZ (gn res.2))) Q (F0 m pc' ls' (res.1.map (cv g)).toList)) →
    ∀ (H : Heap) (locs : List Loc) (ls : Array Slot), hok g ly M H → va_S (ax_A g) s.heap H locs → lv_has ls (yl Y) (Ls.map (ax_cl g)) →
      W p l e R s m args below meth c H locs (kc + al ly n0 (gn M)) (ks + al ly (SZ n0) (SZ (gn M))) Q (F0 m pc ls (st.map (cv g)))
def Qx (g : ax_G) (ly : Bool) (res : ax_R) : Array Value → State → Outcome → State → Prop := fun _ st oc t => oc = .returned (res.1.map (cv g)) ∧ hok g ly res.2 t.heap ∧ va_F (ax_A g) st t
def rmx (d c s : Nat) : Room := { frames := d, cells := c, slots := s, locals := 60 * d }
def Ctr (l : Launch) (g : ax_G) (ly : Bool) (Y : ax_Y) (d : Nat) (as : List ax_V) (M : ax_M) (res : ax_R) : Prop :=
  (ly = true ∨ gn M ≤ gn res.2) ∧ Met l (yn Y) (yw Y) (rmx d (al ly (gn M) (gn res.2)) (al ly (SZ (gn M)) (SZ (gn res.2)))) (va_Pc (as.map (cv g)) (fun U => sok g U ∧ hok g ly M U.heap)) (Qx g ly res) (al ly (gn M) (gn res.2)) (al ly (SZ (gn M)) (SZ (gn res.2))) (ax_A g)
theorem cd {Y : ax_Y} {pc : Nat} {x : Instr × Nat} (h : codeAt Y pc = some x) (hy : ∀ e ∈ yt Y, decode (yb Y) e.1 = .ok e.2) : decode (yb Y) pc = .ok x := by
  unfold codeAt at h
  have key : ∀ (t : List (Nat × Instr × Nat)), t.lookup pc = some x → (pc, x) ∈ t := by
    intro t
    induction t with
    | nil => intro h; cases h
    | cons a t ih =>
      intro h
      obtain ⟨i, v⟩ := a
      rw [List.lookup_cons] at h
      by_cases hi : (pc == i) = true
      · rw [hi] at h
        have e1 : pc = i := by simpa using hi
        have e2 : v = x := by simpa using h
        rw [e1, e2]
        exact List.mem_cons_self
      · have hf : (pc == i) = false := by simpa using hi
        rw [hf] at h
        exact List.mem_cons_of_mem _ (ih h)
  have h2 := hy (pc, x) (key _ h)
  exact h2
theorem szs_mono : ∀ (t : List Nat) (a b : Nat), a ≤ b → szs t a ≤ szs t b
  | _, 0, b, _ => by unfold szs; exact Nat.zero_le _
  | [], a + 1, b, _ => by unfold szs; exact Nat.zero_le _
  | x :: t, a + 1, 0, h => by omega
  | x :: t, a + 1, b + 1, h => by
    unfold szs
    have := szs_mono t a b (by omega)
    omega
theorem SZ_mono {a b : Nat} (h : a ≤ b) : SZ a ≤ SZ b := szs_mono _ _ _ h
theorem szs_succ : ∀ (t : List Nat) (a : Nat), a < t.length → szs t (a + 1) = szs t a + t.getD a 0
  | [], a, h => by simp at h
  | x :: t, 0, _ => by simp [szs]
  | x :: t, a + 1, h => by
    have h1 : a < t.length := by simpa using h
    have := szs_succ t a h1
    simp only [szs] at this ⊢
    rw [this]
    simp
    omega
theorem SZ_succ {a : Nat} (h : a < NT) : SZ (a + 1) = SZ a + ln (a + 2) := by
  unfold SZ
  have h2 : SHN.length = NT + 2 := shn_len
  rw [szs_succ _ _ (by rw [List.length_drop]; omega)]
  unfold ln
  simp [List.getD_eq_getElem?_getD, List.getElem?_drop, Nat.add_comm]
def ax_args : Nat → List ax_V → List (Nat × ax_V)
  | _, [] => []
  | i, v :: vs => (i, v) :: ax_args (if ct v = 2 then i + 2 else i + 1) vs
theorem ax_args_map (g : ax_G) : ∀ (as : List ax_V) (i : Nat), (ax_args i as).map (ax_cl g) = lv_args i (as.map (cv g))
  | [], i => rfl
  | v :: vs, i => by
    show ax_cl g (i, v) :: (ax_args (if ct v = 2 then i + 2 else i + 1) vs).map (ax_cl g) = (i, cv g v) :: lv_args (if (cv g v).category = 2 then i + 2 else i + 1) (vs.map (cv g))
    rw [ax_args_map g vs, cv_cat]
    rfl
def ax_wd (as : List ax_V) : Nat := (as.map ct).sum
theorem ax_wd_len (g : ax_G) : ∀ (as : List ax_V), (lg_sl (as.map (cv g))).length = ax_wd as
  | [] => rfl
  | v :: vs => by
    have h1 := ax_wd_len g vs
    unfold lg_sl at h1 ⊢
    rw [List.map_cons, List.flatMap_cons, List.length_append, h1, cv_cat]
    unfold ax_wd
    rw [List.map_cons, List.sum_cons]
    congr 1
    rcases v with x | x | r <;> rfl
theorem Ctr.ofAW {l : Launch} {g : ax_G} {ly : Bool} {Y : ax_Y} {d : Nat} {as : List ax_V} {M : ax_M} {res : ax_R} (hY : yOK Y) (hw : ax_wd as ≤ yl Y) (hn : ly = true ∨ gn M ≤ gn res.2) (h : AW l g ly Y d res 0 (ax_args 0 as) [] M) : Ctr l g ly Y d as M res := by
  refine ⟨hn, ?_⟩
  refine Met.ofW (cc := yb Y) (maxL := yl Y) (ret := yr Y) hY.1 rfl ?_
  intro p e s m args below meth c s₁ B hml hv
  obtain ⟨rfl, hs, hh⟩ := hv
  have hx := B.exec
  have hb := B.bytes
  have hr := B.returns
  have hts := atoms_spec (ws := yw Y) B.pre
  have hown : s.vm.findClass (yn Y).cls = some m.cls := findClass_of_methodNamed B.named
  have hlocks := B.notSynchronized
  have hin : meth.name = (yn Y).name := (name_of_methodNamed B.named B.method).1
  have hl := lv_entry (as.map (cv g)) (n := yl Y) (by rw [ax_wd_len]; exact hw)
  rw [lg_entry_eq]
  generalize (lg_sl (as.map (cv g)) ++ List.replicate (yl Y - (lg_sl (as.map (cv g))).length) Slot.unset).toArray = ls at hl ⊢
  rw [← ax_args_map g] at hl
  have key := h p e (rmx d (al ly (gn M) (gn res.2)) (al ly (SZ (gn M)) (SZ (gn res.2)))) s m _ below meth c (MQ below (Qx g ly res) ((as.map (cv g)).toArray) s (al ly (gn M) (gn res.2)) (al ly (SZ (gn M)) (SZ (gn res.2))) (ax_A g)) (gn M) 0 0
    ⟨hx, hb, hml, hown, fun w hw => hts w (List.mem_cons_of_mem _ hw), hs, hin, hY.2.1⟩ ⟨Nat.le_refl _, Nat.le_refl _⟩ ⟨hn.imp id (fun h => ⟨Nat.le_refl _, h⟩), by rw [Nat.zero_add]; exact Nat.le_refl _, by rw [Nat.zero_add]; exact Nat.le_refl _⟩ ?_ s.heap [] ls hh va_S.rf hl
  · rw [al_self, al_self] at key
    exact key
  · intro H' locs' ls' pc' hret hH hS
    rw [Nat.zero_add, Nat.zero_add]
    obtain ⟨i, hi, hrt⟩ := hret
    have hd := cd hi hY.2.1
    have hq : ∀ t : State, t.heap = H' → s.WarmedH t.vm → Qx g ly res ((as.map (cv g)).toArray) s (.returned (res.1.map (cv g))) t := fun t ht _ => ⟨rfl, by rw [ht]; exact hH, hS.F ht⟩
    rcases hrt with ⟨rfl, h1, x, h2⟩ | ⟨rfl, h1, h2⟩ | ⟨rfl, h1, x, h2⟩ | ⟨rfl, ⟨n, h1⟩, a, h2⟩ | ⟨rfl, h1, h2⟩
    · rw [h2] at hq ⊢
      exact W.iret hx hb (hr.trans h1) hq hS.2.2 hd
    · rcases h2 with h2 | h2
      · rw [h2] at hq ⊢
        exact W.zret hx hb (hr.trans h1) (by decide) hq hS.2.2 hd
      · rw [h2] at hq ⊢
        exact W.zret hx hb (hr.trans h1) (by decide) hq hS.2.2 hd
    · rw [h2] at hq ⊢
      exact W.lret hx hb (hr.trans h1) hq hS.2.2 hd
    · rw [h2] at hq ⊢
      refine W.aret (v := rv g a) hx hb (hr.trans h1) (Or.inl ⟨n, rfl⟩) ?_ hq hS.2.2 hd
      unfold rv
      split
      · exact Or.inl rfl
      · exact Or.inr ⟨_, rfl⟩
    · rw [h2] at hq ⊢
      exact W.vret hx hb (hr.trans h1) hq hS.2.2 hd
end
section
section AXR
variable {l : Launch} {g : ax_G} {ly : Bool} {Y : ax_Y} {d : Nat} {res : ax_R} {pc : Nat} {Ls : List (Nat × ax_V)} {st : List ax_V} {M : ax_M}
theorem lx_at {ls : Array Slot} {n j i : Nat} {v : ax_V} (h : lv_has ls n (Ls.map (ax_cl g))) (hj : Ls[j]? = some (i, v)) : ls[i]? = some (.val (cv g v)) := by
  refine lv_at h j ?_
  rw [List.getElem?_map, hj]
  rfl
def ax_st1 (Ls : List (Nat × ax_V)) (i : Nat) (v : ax_V) : List (Nat × ax_V) := (i, v) :: Ls.filter (fun q => !(q.1 == i) && !(q.1 + 1 == i && ct q.2 == 2))
def ax_st2 (Ls : List (Nat × ax_V)) (i : Nat) (v : ax_V) : List (Nat × ax_V) := (i, v) :: Ls.filter (fun q => !(q.1 == i) && (!(q.1 == i + 1) && !(q.1 + 1 == i && ct q.2 == 2)))
theorem ax_st1_map (i : Nat) (v : ax_V) : (i, cv g v) :: (Ls.map (ax_cl g)).filter (fun q => !(q.1 == i) && !(q.1 + 1 == i && q.2.category == 2)) = (ax_st1 Ls i v).map (ax_cl g) := by
  unfold ax_st1
  rw [List.filter_map, List.map_cons]
  congr 2
  apply List.filter_congr
  intro q _
  show (!(q.1 == i) && !(q.1 + 1 == i && (cv g q.2).category == 2)) = _
  rw [cv_cat]
theorem ax_st2_map (i : Nat) (v : ax_V) : (i, cv g v) :: (Ls.map (ax_cl g)).filter (fun q => !(q.1 == i) && (!(q.1 == i + 1) && !(q.1 + 1 == i && q.2.category == 2))) = (ax_st2 Ls i v).map (ax_cl g) := by
  unfold ax_st2
  rw [List.filter_map, List.map_cons]
  congr 2
  apply List.filter_congr
  intro q _
  show (!(q.1 == i) && (!(q.1 == i + 1) && !(q.1 + 1 == i && (cv g q.2).category == 2))) = _
  rw [cv_cat]
theorem A_sub {Ls' : List (Nat × ax_V)} (ks : List Nat) (hs : ks.filterMap (fun k => Ls[k]?) = Ls') (K : AW l g ly Y d res pc Ls' st M) : AW l g ly Y d res pc Ls st M := by
  intro p e R s m args below meth c Q n0 kc ks F hR hN hret H locs ls hH hS hl
  refine K p e R s m args below meth c Q n0 kc ks F hR hN hret H locs ls hH hS ⟨hl.1, hl.2.1, fun q hq => hl.2.2 q ?_⟩
  obtain ⟨z, hz, rfl⟩ := List.mem_map.mp hq
  rw [← hs] at hz
  obtain ⟨k, -, hk⟩ := List.mem_filterMap.mp hz
  exact List.mem_map.mpr ⟨z, List.mem_of_getElem? hk, rfl⟩
theorem A_pc {pc' : Nat} (h : pc = pc') (K : AW l g ly Y d res pc' Ls st M) : AW l g ly Y d res pc Ls st M := h ▸ K
theorem A_stk {st' : List ax_V} (h : st = st') (K : AW l g ly Y d res pc Ls st' M) : AW l g ly Y d res pc Ls st M := h ▸ K
theorem A_mem {M' : ax_M} (h : M = M') (K : AW l g ly Y d res pc Ls st M') : AW l g ly Y d res pc Ls st M := h ▸ K
theorem A_iadd {x y : Int32} (hd : codeAt Y pc = some (.iadd, 1)) (K : AW l g ly Y d res (pc + 1) Ls (vI (x + y) :: st) M) : AW l g ly Y d res pc Ls (vI y :: vI x :: st) M := by
  intro p e R s m args below meth c Q n0 kc ks F hR hN hret H locs ls hH hS hl
  exact lv_iadd F.1 F.2.1 (cd hd F.2.2.2.2.2.2.2) (K p e R s m args below meth c Q n0 kc ks F hR hN hret H locs ls hH hS hl)
theorem A_isub {x y : Int32} (hd : codeAt Y pc = some (.isub, 1)) (K : AW l g ly Y d res (pc + 1) Ls (vI (x - y) :: st) M) : AW l g ly Y d res pc Ls (vI y :: vI x :: st) M := by
  intro p e R s m args below meth c Q n0 kc ks F hR hN hret H locs ls hH hS hl
  exact lv_isub F.1 F.2.1 (cd hd F.2.2.2.2.2.2.2) (K p e R s m args below meth c Q n0 kc ks F hR hN hret H locs ls hH hS hl)
theorem A_imul {x y : Int32} (hd : codeAt Y pc = some (.imul, 1)) (K : AW l g ly Y d res (pc + 1) Ls (vI (x * y) :: st) M) : AW l g ly Y d res pc Ls (vI y :: vI x :: st) M := by
  intro p e R s m args below meth c Q n0 kc ks F hR hN hret H locs ls hH hS hl
  exact lv_imul F.1 F.2.1 (cd hd F.2.2.2.2.2.2.2) (K p e R s m args below meth c Q n0 kc ks F hR hN hret H locs ls hH hS hl)
theorem A_iand {x y : Int32} (hd : codeAt Y pc = some (.iand, 1)) (K : AW l g ly Y d res (pc + 1) Ls (vI (x &&& y) :: st) M) : AW l g ly Y d res pc Ls (vI y :: vI x :: st) M := by
  intro p e R s m args below meth c Q n0 kc ks F hR hN hret H locs ls hH hS hl
  exact lv_iand F.1 F.2.1 (cd hd F.2.2.2.2.2.2.2) (K p e R s m args below meth c Q n0 kc ks F hR hN hret H locs ls hH hS hl)
theorem A_ior {x y : Int32} (hd : codeAt Y pc = some (.ior, 1)) (K : AW l g ly Y d res (pc + 1) Ls (vI (x ||| y) :: st) M) : AW l g ly Y d res pc Ls (vI y :: vI x :: st) M := by
  intro p e R s m args below meth c Q n0 kc ks F hR hN hret H locs ls hH hS hl
  exact lv_ior F.1 F.2.1 (cd hd F.2.2.2.2.2.2.2) (K p e R s m args below meth c Q n0 kc ks F hR hN hret H locs ls hH hS hl)
theorem A_ixor {x y : Int32} (hd : codeAt Y pc = some (.ixor, 1)) (K : AW l g ly Y d res (pc + 1) Ls (vI (x ^^^ y) :: st) M) : AW l g ly Y d res pc Ls (vI y :: vI x :: st) M := by
  intro p e R s m args below meth c Q n0 kc ks F hR hN hret H locs ls hH hS hl
  exact lv_ixor F.1 F.2.1 (cd hd F.2.2.2.2.2.2.2) (K p e R s m args below meth c Q n0 kc ks F hR hN hret H locs ls hH hS hl)
theorem A_ishl {x y : Int32} (hd : codeAt Y pc = some (.ishl, 1)) (K : AW l g ly Y d res (pc + 1) Ls (vI (x <<< (y &&& 31)) :: st) M) : AW l g ly Y d res pc Ls (vI y :: vI x :: st) M := by
  intro p e R s m args below meth c Q n0 kc ks F hR hN hret H locs ls hH hS hl
  exact lv_ishl F.1 F.2.1 (cd hd F.2.2.2.2.2.2.2) (K p e R s m args below meth c Q n0 kc ks F hR hN hret H locs ls hH hS hl)
theorem A_ishr {x y : Int32} (hd : codeAt Y pc = some (.ishr, 1)) (K : AW l g ly Y d res (pc + 1) Ls (vI (x >>> (y &&& 31)) :: st) M) : AW l g ly Y d res pc Ls (vI y :: vI x :: st) M := by
  intro p e R s m args below meth c Q n0 kc ks F hR hN hret H locs ls hH hS hl
  exact lv_ishr F.1 F.2.1 (cd hd F.2.2.2.2.2.2.2) (K p e R s m args below meth c Q n0 kc ks F hR hN hret H locs ls hH hS hl)
theorem A_ladd {x y : Int64} (hd : codeAt Y pc = some (.ladd, 1)) (K : AW l g ly Y d res (pc + 1) Ls (vJ (x + y) :: st) M) : AW l g ly Y d res pc Ls (vJ y :: vJ x :: st) M := by
  intro p e R s m args below meth c Q n0 kc ks F hR hN hret H locs ls hH hS hl
  exact lv_ladd F.1 F.2.1 (cd hd F.2.2.2.2.2.2.2) (K p e R s m args below meth c Q n0 kc ks F hR hN hret H locs ls hH hS hl)
theorem A_lsub {x y : Int64} (hd : codeAt Y pc = some (.lsub, 1)) (K : AW l g ly Y d res (pc + 1) Ls (vJ (x - y) :: st) M) : AW l g ly Y d res pc Ls (vJ y :: vJ x :: st) M := by
  intro p e R s m args below meth c Q n0 kc ks F hR hN hret H locs ls hH hS hl
  exact lv_lsub F.1 F.2.1 (cd hd F.2.2.2.2.2.2.2) (K p e R s m args below meth c Q n0 kc ks F hR hN hret H locs ls hH hS hl)
theorem A_lmul {x y : Int64} (hd : codeAt Y pc = some (.lmul, 1)) (K : AW l g ly Y d res (pc + 1) Ls (vJ (x * y) :: st) M) : AW l g ly Y d res pc Ls (vJ y :: vJ x :: st) M := by
  intro p e R s m args below meth c Q n0 kc ks F hR hN hret H locs ls hH hS hl
  exact lv_lmul F.1 F.2.1 (cd hd F.2.2.2.2.2.2.2) (K p e R s m args below meth c Q n0 kc ks F hR hN hret H locs ls hH hS hl)
theorem A_land {x y : Int64} (hd : codeAt Y pc = some (.land, 1)) (K : AW l g ly Y d res (pc + 1) Ls (vJ (x &&& y) :: st) M) : AW l g ly Y d res pc Ls (vJ y :: vJ x :: st) M := by
  intro p e R s m args below meth c Q n0 kc ks F hR hN hret H locs ls hH hS hl
  exact lv_land F.1 F.2.1 (cd hd F.2.2.2.2.2.2.2) (K p e R s m args below meth c Q n0 kc ks F hR hN hret H locs ls hH hS hl)
theorem A_lor {x y : Int64} (hd : codeAt Y pc = some (.lor, 1)) (K : AW l g ly Y d res (pc + 1) Ls (vJ (x ||| y) :: st) M) : AW l g ly Y d res pc Ls (vJ y :: vJ x :: st) M := by
  intro p e R s m args below meth c Q n0 kc ks F hR hN hret H locs ls hH hS hl
  exact lv_lor F.1 F.2.1 (cd hd F.2.2.2.2.2.2.2) (K p e R s m args below meth c Q n0 kc ks F hR hN hret H locs ls hH hS hl)
theorem A_ineg {x : Int32} (hd : codeAt Y pc = some (.ineg, 1)) (K : AW l g ly Y d res (pc + 1) Ls (vI (-x) :: st) M) : AW l g ly Y d res pc Ls (vI x :: st) M := by
  intro p e R s m args below meth c Q n0 kc ks F hR hN hret H locs ls hH hS hl
  exact lv_ineg F.1 F.2.1 (cd hd F.2.2.2.2.2.2.2) (K p e R s m args below meth c Q n0 kc ks F hR hN hret H locs ls hH hS hl)
theorem A_lneg {x : Int64} (hd : codeAt Y pc = some (.lneg, 1)) (K : AW l g ly Y d res (pc + 1) Ls (vJ (-x) :: st) M) : AW l g ly Y d res pc Ls (vJ x :: st) M := by
  intro p e R s m args below meth c Q n0 kc ks F hR hN hret H locs ls hH hS hl
  exact lv_lneg F.1 F.2.1 (cd hd F.2.2.2.2.2.2.2) (K p e R s m args below meth c Q n0 kc ks F hR hN hret H locs ls hH hS hl)
theorem A_ldiv {x y : Int64} (hd : codeAt Y pc = some (.ldiv, 1)) (hne : ¬ y = 0) (K : AW l g ly Y d res (pc + 1) Ls (vJ (x / y) :: st) M) : AW l g ly Y d res pc Ls (vJ y :: vJ x :: st) M := by
  intro p e R s m args below meth c Q n0 kc ks F hR hN hret H locs ls hH hS hl
  exact lv_ldiv F.1 F.2.1 (cd hd F.2.2.2.2.2.2.2) hne (K p e R s m args below meth c Q n0 kc ks F hR hN hret H locs ls hH hS hl)
theorem A_lrem {x y : Int64} (hd : codeAt Y pc = some (.lrem, 1)) (hne : ¬ y = 0) (K : AW l g ly Y d res (pc + 1) Ls (vJ (x - x / y * y) :: st) M) : AW l g ly Y d res pc Ls (vJ y :: vJ x :: st) M := by
  intro p e R s m args below meth c Q n0 kc ks F hR hN hret H locs ls hH hS hl
  exact lv_lrem F.1 F.2.1 (cd hd F.2.2.2.2.2.2.2) hne (K p e R s m args below meth c Q n0 kc ks F hR hN hret H locs ls hH hS hl)
theorem A_idiv {x y : Int32} (hd : codeAt Y pc = some (.idiv, 1)) (hne : ¬ y = 0) (K : AW l g ly Y d res (pc + 1) Ls (vI (x / y) :: st) M) : AW l g ly Y d res pc Ls (vI y :: vI x :: st) M := by
  intro p e R s m args below meth c Q n0 kc ks F hR hN hret H locs ls hH hS hl
  exact lv_idiv F.1 F.2.1 (cd hd F.2.2.2.2.2.2.2) hne (K p e R s m args below meth c Q n0 kc ks F hR hN hret H locs ls hH hS hl)
theorem A_irem {x y : Int32} (hd : codeAt Y pc = some (.irem, 1)) (hne : ¬ y = 0) (K : AW l g ly Y d res (pc + 1) Ls (vI (x - x / y * y) :: st) M) : AW l g ly Y d res pc Ls (vI y :: vI x :: st) M := by
  intro p e R s m args below meth c Q n0 kc ks F hR hN hret H locs ls hH hS hl
  exact lv_irem F.1 F.2.1 (cd hd F.2.2.2.2.2.2.2) hne (K p e R s m args below meth c Q n0 kc ks F hR hN hret H locs ls hH hS hl)
theorem A_lshl {x : Int64} {y : Int32} (hd : codeAt Y pc = some (.lshl, 1))  (K : AW l g ly Y d res (pc + 1) Ls (vJ (x <<< (y.toInt64 &&& 63)) :: st) M) : AW l g ly Y d res pc Ls (vI y :: vJ x :: st) M := by
  intro p e R s m args below meth c Q n0 kc ks F hR hN hret H locs ls hH hS hl
  exact lv_lshl F.1 F.2.1 (cd hd F.2.2.2.2.2.2.2) rfl (K p e R s m args below meth c Q n0 kc ks F hR hN hret H locs ls hH hS hl)
theorem A_i2l {x : Int32} (hd : codeAt Y pc = some (.i2l, 1))  (K : AW l g ly Y d res (pc + 1) Ls (vJ (x.toInt64) :: st) M) : AW l g ly Y d res pc Ls (vI x :: st) M := by
  intro p e R s m args below meth c Q n0 kc ks F hR hN hret H locs ls hH hS hl
  exact lv_i2l F.1 F.2.1 (cd hd F.2.2.2.2.2.2.2) rfl (K p e R s m args below meth c Q n0 kc ks F hR hN hret H locs ls hH hS hl)
theorem A_l2i {x : Int64} (hd : codeAt Y pc = some (.l2i, 1))  (K : AW l g ly Y d res (pc + 1) Ls (vI (x.toInt32) :: st) M) : AW l g ly Y d res pc Ls (vJ x :: st) M := by
  intro p e R s m args below meth c Q n0 kc ks F hR hN hret H locs ls hH hS hl
  exact lv_l2i F.1 F.2.1 (cd hd F.2.2.2.2.2.2.2) rfl (K p e R s m args below meth c Q n0 kc ks F hR hN hret H locs ls hH hS hl)
theorem A_i2c {x : Int32} (hd : codeAt Y pc = some (.i2c, 1))  (K : AW l g ly Y d res (pc + 1) Ls (vI ((x.toUInt32 % 65536).toInt32) :: st) M) : AW l g ly Y d res pc Ls (vI x :: st) M := by
  intro p e R s m args below meth c Q n0 kc ks F hR hN hret H locs ls hH hS hl
  exact lv_i2c F.1 F.2.1 (cd hd F.2.2.2.2.2.2.2) rfl (K p e R s m args below meth c Q n0 kc ks F hR hN hret H locs ls hH hS hl)
theorem A_lcmp {x y : Int64} (hd : codeAt Y pc = some (.lcmp, 1)) (K : AW l g ly Y d res (pc + 1) Ls (vI (lg_cmp x y) :: st) M) : AW l g ly Y d res pc Ls (vJ y :: vJ x :: st) M := by
  intro p e R s m args below meth c Q n0 kc ks F hR hN hret H locs ls hH hS hl
  exact W.lcmp F.1 F.2.1 (cd hd F.2.2.2.2.2.2.2) (K p e R s m args below meth c Q n0 kc ks F hR hN hret H locs ls hH hS hl)
theorem A_iconst {n : Int} {v : Int32} (hd : codeAt Y pc = some (.iconst n, 1)) (hv : Int32.ofInt n = v) (K : AW l g ly Y d res (pc + 1) Ls (vI v :: st) M) : AW l g ly Y d res pc Ls (st) M := by
  intro p e R s m args below meth c Q n0 kc ks F hR hN hret H locs ls hH hS hl
  exact lv_iconst F.1 F.2.1 (cd hd F.2.2.2.2.2.2.2) hv (K p e R s m args below meth c Q n0 kc ks F hR hN hret H locs ls hH hS hl)
theorem A_bipush {n : Int} {v : Int32} (hd : codeAt Y pc = some (.bipush n, 2)) (hv : (Int8.ofInt n).toInt32 = v) (K : AW l g ly Y d res (pc + 2) Ls (vI v :: st) M) : AW l g ly Y d res pc Ls (st) M := by
  intro p e R s m args below meth c Q n0 kc ks F hR hN hret H locs ls hH hS hl
  exact lv_bipush F.1 F.2.1 (cd hd F.2.2.2.2.2.2.2) hv (K p e R s m args below meth c Q n0 kc ks F hR hN hret H locs ls hH hS hl)
theorem A_sipush {n : Int} {v : Int32} (hd : codeAt Y pc = some (.sipush n, 3)) (hv : (Int16.ofInt n).toInt32 = v) (K : AW l g ly Y d res (pc + 3) Ls (vI v :: st) M) : AW l g ly Y d res pc Ls (st) M := by
  intro p e R s m args below meth c Q n0 kc ks F hR hN hret H locs ls hH hS hl
  exact lv_sipush F.1 F.2.1 (cd hd F.2.2.2.2.2.2.2) hv (K p e R s m args below meth c Q n0 kc ks F hR hN hret H locs ls hH hS hl)
theorem A_lconst {n : Fin 2} {v : Int64} (hd : codeAt Y pc = some (.lconst n, 1)) (hv : Int64.ofNat (n : Nat) = v) (K : AW l g ly Y d res (pc + 1) Ls (vJ v :: st) M) : AW l g ly Y d res pc Ls (st) M := by
  intro p e R s m args below meth c Q n0 kc ks F hR hN hret H locs ls hH hS hl
  exact lv_lconst F.1 F.2.1 (cd hd F.2.2.2.2.2.2.2) hv (K p e R s m args below meth c Q n0 kc ks F hR hN hret H locs ls hH hS hl)
theorem A_null (hd : codeAt Y pc = some (.aconst_null, 1)) (K : AW l g ly Y d res (pc + 1) Ls (vA 0 :: st) M) : AW l g ly Y d res pc Ls (st) M := by
  intro p e R s m args below meth c Q n0 kc ks F hR hN hret H locs ls hH hS hl
  exact lv_null F.1 F.2.1 (cd hd F.2.2.2.2.2.2.2) (K p e R s m args below meth c Q n0 kc ks F hR hN hret H locs ls hH hS hl)
theorem A_dup {a : ax_V} (hd : codeAt Y pc = some (.dup, 1)) (ha : ct a = 1) (K : AW l g ly Y d res (pc + 1) Ls (a :: a :: st) M) : AW l g ly Y d res pc Ls (a :: st) M := by
  intro p e R s m args below meth c Q n0 kc ks F hR hN hret H locs ls hH hS hl
  exact lv_dup F.1 F.2.1 (cd hd F.2.2.2.2.2.2.2) (by rw [cv_cat]; exact ha) (K p e R s m args below meth c Q n0 kc ks F hR hN hret H locs ls hH hS hl)
theorem A_pop {a : ax_V} (hd : codeAt Y pc = some (.pop, 1)) (ha : ct a = 1) (K : AW l g ly Y d res (pc + 1) Ls (st) M) : AW l g ly Y d res pc Ls (a :: st) M := by
  intro p e R s m args below meth c Q n0 kc ks F hR hN hret H locs ls hH hS hl
  exact lv_pop F.1 F.2.1 (cd hd F.2.2.2.2.2.2.2) (by rw [cv_cat]; exact ha) (K p e R s m args below meth c Q n0 kc ks F hR hN hret H locs ls hH hS hl)
theorem A_dup_x1 {a b : ax_V} (hd : codeAt Y pc = some (.dup_x1, 1)) (ha : ct a = 1) (hb : ct b = 1) (K : AW l g ly Y d res (pc + 1) Ls (a :: b :: a :: st) M) : AW l g ly Y d res pc Ls (a :: b :: st) M := by
  intro p e R s m args below meth c Q n0 kc ks F hR hN hret H locs ls hH hS hl
  exact lv_dup_x1 F.1 F.2.1 (cd hd F.2.2.2.2.2.2.2) (by rw [cv_cat]; exact ha) (by rw [cv_cat]; exact hb) (K p e R s m args below meth c Q n0 kc ks F hR hN hret H locs ls hH hS hl)
theorem A_dup_x2 {a b f : ax_V} (hd : codeAt Y pc = some (.dup_x2, 1)) (ha : ct a = 1) (hb : ct b = 1) (hf : ct f = 1) (K : AW l g ly Y d res (pc + 1) Ls (a :: b :: f :: a :: st) M) : AW l g ly Y d res pc Ls (a :: b :: f :: st) M := by
  intro p e R s m args below meth c Q n0 kc ks F hR hN hret H locs ls hH hS hl
  exact lv_dup_x2 F.1 F.2.1 (cd hd F.2.2.2.2.2.2.2) (by rw [cv_cat]; exact ha) (by rw [cv_cat]; exact hb) (by rw [cv_cat]; exact hf) (K p e R s m args below meth c Q n0 kc ks F hR hN hret H locs ls hH hS hl)
theorem A_dup2 {a b : ax_V} (hd : codeAt Y pc = some (.dup2, 1)) (ha : ct a = 1) (hb : ct b = 1) (K : AW l g ly Y d res (pc + 1) Ls (a :: b :: a :: b :: st) M) : AW l g ly Y d res pc Ls (a :: b :: st) M := by
  intro p e R s m args below meth c Q n0 kc ks F hR hN hret H locs ls hH hS hl
  exact lv_dup2_11 F.1 F.2.1 (cd hd F.2.2.2.2.2.2.2) (by rw [cv_cat]; exact ha) (by rw [cv_cat]; exact hb) (K p e R s m args below meth c Q n0 kc ks F hR hN hret H locs ls hH hS hl)
theorem A_dup2l {a : ax_V} (hd : codeAt Y pc = some (.dup2, 1)) (ha : ct a = 2) (K : AW l g ly Y d res (pc + 1) Ls (a :: a :: st) M) : AW l g ly Y d res pc Ls (a :: st) M := by
  intro p e R s m args below meth c Q n0 kc ks F hR hN hret H locs ls hH hS hl
  exact lv_dup2_2 F.1 F.2.1 (cd hd F.2.2.2.2.2.2.2) (by rw [cv_cat]; exact ha) (K p e R s m args below meth c Q n0 kc ks F hR hN hret H locs ls hH hS hl)
theorem A_iload {i : Nat} {x : Int32} (j : Nat) (hd : codeAt Y pc = some (.iload i, 2)) (hj : Ls[j]? = some (i, vI x)) (K : AW l g ly Y d res (pc + 2) Ls (vI x :: st) M) : AW l g ly Y d res pc Ls st M := by
  intro p e R s m args below meth c Q n0 kc ks F hR hN hret H locs ls hH hS hl
  exact lv_iload F.1 F.2.1 (cd hd F.2.2.2.2.2.2.2) (lx_at hl hj) (K p e R s m args below meth c Q n0 kc ks F hR hN hret H locs ls hH hS hl)
theorem A_iload_n {k : Fin 4} {i : Nat} {x : Int32} (j : Nat) (hd : codeAt Y pc = some (.iload_n k, 1)) (hi : (k : Nat) = i) (hj : Ls[j]? = some (i, vI x)) (K : AW l g ly Y d res (pc + 1) Ls (vI x :: st) M) : AW l g ly Y d res pc Ls st M := by
  intro p e R s m args below meth c Q n0 kc ks F hR hN hret H locs ls hH hS hl
  exact lv_iload_n F.1 F.2.1 (cd hd F.2.2.2.2.2.2.2) hi (lx_at hl hj) (K p e R s m args below meth c Q n0 kc ks F hR hN hret H locs ls hH hS hl)
theorem A_lload {i : Nat} {x : Int64} (j : Nat) (hd : codeAt Y pc = some (.lload i, 2)) (hj : Ls[j]? = some (i, vJ x)) (K : AW l g ly Y d res (pc + 2) Ls (vJ x :: st) M) : AW l g ly Y d res pc Ls st M := by
  intro p e R s m args below meth c Q n0 kc ks F hR hN hret H locs ls hH hS hl
  exact lv_lload F.1 F.2.1 (cd hd F.2.2.2.2.2.2.2) (lx_at hl hj) (K p e R s m args below meth c Q n0 kc ks F hR hN hret H locs ls hH hS hl)
theorem A_lload_n {k : Fin 4} {i : Nat} {x : Int64} (j : Nat) (hd : codeAt Y pc = some (.lload_n k, 1)) (hi : (k : Nat) = i) (hj : Ls[j]? = some (i, vJ x)) (K : AW l g ly Y d res (pc + 1) Ls (vJ x :: st) M) : AW l g ly Y d res pc Ls st M := by
  intro p e R s m args below meth c Q n0 kc ks F hR hN hret H locs ls hH hS hl
  exact lv_lload_n F.1 F.2.1 (cd hd F.2.2.2.2.2.2.2) hi (lx_at hl hj) (K p e R s m args below meth c Q n0 kc ks F hR hN hret H locs ls hH hS hl)
theorem A_aload {i r : Nat} (j : Nat) (hd : codeAt Y pc = some (.aload i, 2)) (hj : Ls[j]? = some (i, vA r)) (K : AW l g ly Y d res (pc + 2) Ls (vA r :: st) M) : AW l g ly Y d res pc Ls st M := by
  intro p e R s m args below meth c Q n0 kc ks F hR hN hret H locs ls hH hS hl
  have h1 := lx_at hl hj
  have h2 := (K p e R s m args below meth c Q n0 kc ks F hR hN hret H locs ls hH hS hl)
  rw [cv_A] at h1
  rw [List.map_cons, cv_A] at h2
  by_cases hr : r = 0
  · subst hr
    rw [rv_0] at h1 h2
    exact lv_aloadN F.1 F.2.1 (cd hd F.2.2.2.2.2.2.2) h1 h2
  · rw [rv_pos hr] at h1 h2
    exact lv_aload F.1 F.2.1 (cd hd F.2.2.2.2.2.2.2) h1 h2
theorem A_aload_n {k : Fin 4} {i r : Nat} (j : Nat) (hd : codeAt Y pc = some (.aload_n k, 1)) (hi : (k : Nat) = i) (hj : Ls[j]? = some (i, vA r)) (K : AW l g ly Y d res (pc + 1) Ls (vA r :: st) M) : AW l g ly Y d res pc Ls st M := by
  intro p e R s m args below meth c Q n0 kc ks F hR hN hret H locs ls hH hS hl
  have h1 := lx_at hl hj
  have h2 := (K p e R s m args below meth c Q n0 kc ks F hR hN hret H locs ls hH hS hl)
  rw [cv_A] at h1
  rw [List.map_cons, cv_A] at h2
  by_cases hr : r = 0
  · subst hr
    rw [rv_0] at h1 h2
    exact lv_aload_nN F.1 F.2.1 (cd hd F.2.2.2.2.2.2.2) hi h1 h2
  · rw [rv_pos hr] at h1 h2
    exact lv_aload_n F.1 F.2.1 (cd hd F.2.2.2.2.2.2.2) hi h1 h2
theorem A_istore {i : Nat} {x : Int32} {Ls' : List (Nat × ax_V)} (hd : codeAt Y pc = some (.istore i, 2)) (hn : i < yl Y) (hL : ax_st1 Ls i (vI x) = Ls') (K : AW l g ly Y d res (pc + 2) Ls' st M) : AW l g ly Y d res pc Ls (vI x :: st) M := by
  intro p e R s m args below meth c Q n0 kc ks F hR hN hret H locs ls hH hS hl
  subst hL
  exact lv_istore F.1 F.2.1 (cd hd F.2.2.2.2.2.2.2) hl hn (ax_st1_map i (vI x)) (fun ls2 hl2 => K p e R s m args below meth c Q n0 kc ks F hR hN hret H locs ls2 hH hS hl2)
theorem A_istore_n {k : Fin 4} {i : Nat} {x : Int32} {Ls' : List (Nat × ax_V)} (hd : codeAt Y pc = some (.istore_n k, 1)) (hi : (k : Nat) = i) (hn : i < yl Y) (hL : ax_st1 Ls i (vI x) = Ls') (K : AW l g ly Y d res (pc + 1) Ls' st M) : AW l g ly Y d res pc Ls (vI x :: st) M := by
  intro p e R s m args below meth c Q n0 kc ks F hR hN hret H locs ls hH hS hl
  subst hL
  exact lv_istore_n F.1 F.2.1 (cd hd F.2.2.2.2.2.2.2) hi hl hn (ax_st1_map i (vI x)) (fun ls2 hl2 => K p e R s m args below meth c Q n0 kc ks F hR hN hret H locs ls2 hH hS hl2)
theorem A_lstore {i : Nat} {x : Int64} {Ls' : List (Nat × ax_V)} (hd : codeAt Y pc = some (.lstore i, 2)) (hn : i + 1 < yl Y) (hL : ax_st2 Ls i (vJ x) = Ls') (K : AW l g ly Y d res (pc + 2) Ls' st M) : AW l g ly Y d res pc Ls (vJ x :: st) M := by
  intro p e R s m args below meth c Q n0 kc ks F hR hN hret H locs ls hH hS hl
  subst hL
  exact lv_lstore F.1 F.2.1 (cd hd F.2.2.2.2.2.2.2) hl hn (ax_st2_map i (vJ x)) (fun ls2 hl2 => K p e R s m args below meth c Q n0 kc ks F hR hN hret H locs ls2 hH hS hl2)
theorem A_lstore_n {k : Fin 4} {i : Nat} {x : Int64} {Ls' : List (Nat × ax_V)} (hd : codeAt Y pc = some (.lstore_n k, 1)) (hi : (k : Nat) = i) (hn : i + 1 < yl Y) (hL : ax_st2 Ls i (vJ x) = Ls') (K : AW l g ly Y d res (pc + 1) Ls' st M) : AW l g ly Y d res pc Ls (vJ x :: st) M := by
  intro p e R s m args below meth c Q n0 kc ks F hR hN hret H locs ls hH hS hl
  subst hL
  exact lv_lstore_n F.1 F.2.1 (cd hd F.2.2.2.2.2.2.2) hi hl hn (ax_st2_map i (vJ x)) (fun ls2 hl2 => K p e R s m args below meth c Q n0 kc ks F hR hN hret H locs ls2 hH hS hl2)
theorem A_astore {i r : Nat} {Ls' : List (Nat × ax_V)} (hd : codeAt Y pc = some (.astore i, 2)) (hn : i < yl Y) (hL : ax_st1 Ls i (vA r) = Ls') (K : AW l g ly Y d res (pc + 2) Ls' st M) : AW l g ly Y d res pc Ls (vA r :: st) M := by
  intro p e R s m args below meth c Q n0 kc ks F hR hN hret H locs ls hH hS hl
  subst hL
  have h1 := ax_st1_map (g := g) (Ls := Ls) i (vA r)
  rw [List.map_cons]
  rw [cv_A] at h1 ⊢
  by_cases hr : r = 0
  · rw [hr, rv_0] at h1 ⊢
    exact lv_astoreN F.1 F.2.1 (cd hd F.2.2.2.2.2.2.2) hl hn h1 (fun ls2 hl2 => K p e R s m args below meth c Q n0 kc ks F hR hN hret H locs ls2 hH hS (hr ▸ hl2))
  · rw [rv_pos hr] at h1 ⊢
    exact lv_astore F.1 F.2.1 (cd hd F.2.2.2.2.2.2.2) hl hn h1 (fun ls2 hl2 => K p e R s m args below meth c Q n0 kc ks F hR hN hret H locs ls2 hH hS hl2)
theorem A_astore_n {k : Fin 4} {i r : Nat} {Ls' : List (Nat × ax_V)} (hd : codeAt Y pc = some (.astore_n k, 1)) (hi : (k : Nat) = i) (hn : i < yl Y) (hL : ax_st1 Ls i (vA r) = Ls') (K : AW l g ly Y d res (pc + 1) Ls' st M) : AW l g ly Y d res pc Ls (vA r :: st) M := by
  intro p e R s m args below meth c Q n0 kc ks F hR hN hret H locs ls hH hS hl
  subst hL
  have h1 := ax_st1_map (g := g) (Ls := Ls) i (vA r)
  rw [List.map_cons]
  rw [cv_A] at h1 ⊢
  by_cases hr : r = 0
  · rw [hr, rv_0] at h1 ⊢
    exact lv_astore_nN F.1 F.2.1 (cd hd F.2.2.2.2.2.2.2) hi hl hn h1 (fun ls2 hl2 => K p e R s m args below meth c Q n0 kc ks F hR hN hret H locs ls2 hH hS (hr ▸ hl2))
  · rw [rv_pos hr] at h1 ⊢
    exact lv_astore_n F.1 F.2.1 (cd hd F.2.2.2.2.2.2.2) hi hl hn h1 (fun ls2 hl2 => K p e R s m args below meth c Q n0 kc ks F hR hN hret H locs ls2 hH hS hl2)
theorem A_iinc {i : Nat} {n : Int} {x v : Int32} {Ls' : List (Nat × ax_V)} (j : Nat) (hd : codeAt Y pc = some (.iinc i n, 3)) (hj : Ls[j]? = some (i, vI x)) (hv : x + Int32.ofInt n = v) (hn : i < yl Y) (hL : ax_st1 Ls i (vI v) = Ls') (K : AW l g ly Y d res (pc + 3) Ls' st M) : AW l g ly Y d res pc Ls st M := by
  intro p e R s m args below meth c Q n0 kc ks F hR hN hret H locs ls hH hS hl
  subst hL
  exact lv_iinc (k := j) F.1 F.2.1 (cd hd F.2.2.2.2.2.2.2) hl (by rw [List.getElem?_map, hj]; rfl) hv hn (ax_st1_map i (vI v)) (fun ls2 hl2 => K p e R s m args below meth c Q n0 kc ks F hR hN hret H locs ls2 hH hS hl2)
theorem A_if_eq {x : Int32} {off : Int} {tgt : Nat} (hd : codeAt Y pc = some (.ifCond .eq off, 3)) (ht : (pc : Int) + off = (tgt : Int)) (kt : x = 0 → AW l g ly Y d res tgt Ls st M) (kf : ¬ x = 0 → AW l g ly Y d res (pc + 3) Ls st M) : AW l g ly Y d res pc Ls (vI x :: st) M := by
  intro p e R s m args below meth c Q n0 kc ks F hR hN hret H locs ls hH hS hl
  exact lv_if_eq F.1 F.2.1 (cd hd F.2.2.2.2.2.2.2) ht (fun h => kt h p e R s m args below meth c Q n0 kc ks F hR hN hret H locs ls hH hS hl) (fun h => kf h p e R s m args below meth c Q n0 kc ks F hR hN hret H locs ls hH hS hl)
theorem A_if_ne {x : Int32} {off : Int} {tgt : Nat} (hd : codeAt Y pc = some (.ifCond .ne off, 3)) (ht : (pc : Int) + off = (tgt : Int)) (kt : ¬ x = 0 → AW l g ly Y d res tgt Ls st M) (kf : x = 0 → AW l g ly Y d res (pc + 3) Ls st M) : AW l g ly Y d res pc Ls (vI x :: st) M := by
  intro p e R s m args below meth c Q n0 kc ks F hR hN hret H locs ls hH hS hl
  exact lv_if_ne F.1 F.2.1 (cd hd F.2.2.2.2.2.2.2) ht (fun h => kt h p e R s m args below meth c Q n0 kc ks F hR hN hret H locs ls hH hS hl) (fun h => kf h p e R s m args below meth c Q n0 kc ks F hR hN hret H locs ls hH hS hl)
theorem A_if_lt {x : Int32} {off : Int} {tgt : Nat} (hd : codeAt Y pc = some (.ifCond .lt off, 3)) (ht : (pc : Int) + off = (tgt : Int)) (kt : x < 0 → AW l g ly Y d res tgt Ls st M) (kf : ¬ x < 0 → AW l g ly Y d res (pc + 3) Ls st M) : AW l g ly Y d res pc Ls (vI x :: st) M := by
  intro p e R s m args below meth c Q n0 kc ks F hR hN hret H locs ls hH hS hl
  exact lv_if_lt F.1 F.2.1 (cd hd F.2.2.2.2.2.2.2) ht (fun h => kt h p e R s m args below meth c Q n0 kc ks F hR hN hret H locs ls hH hS hl) (fun h => kf h p e R s m args below meth c Q n0 kc ks F hR hN hret H locs ls hH hS hl)
theorem A_if_ge {x : Int32} {off : Int} {tgt : Nat} (hd : codeAt Y pc = some (.ifCond .ge off, 3)) (ht : (pc : Int) + off = (tgt : Int)) (kt : 0 ≤ x → AW l g ly Y d res tgt Ls st M) (kf : ¬ 0 ≤ x → AW l g ly Y d res (pc + 3) Ls st M) : AW l g ly Y d res pc Ls (vI x :: st) M := by
  intro p e R s m args below meth c Q n0 kc ks F hR hN hret H locs ls hH hS hl
  exact lv_if_ge F.1 F.2.1 (cd hd F.2.2.2.2.2.2.2) ht (fun h => kt h p e R s m args below meth c Q n0 kc ks F hR hN hret H locs ls hH hS hl) (fun h => kf h p e R s m args below meth c Q n0 kc ks F hR hN hret H locs ls hH hS hl)
theorem A_if_gt {x : Int32} {off : Int} {tgt : Nat} (hd : codeAt Y pc = some (.ifCond .gt off, 3)) (ht : (pc : Int) + off = (tgt : Int)) (kt : 0 < x → AW l g ly Y d res tgt Ls st M) (kf : ¬ 0 < x → AW l g ly Y d res (pc + 3) Ls st M) : AW l g ly Y d res pc Ls (vI x :: st) M := by
  intro p e R s m args below meth c Q n0 kc ks F hR hN hret H locs ls hH hS hl
  exact lv_if_gt F.1 F.2.1 (cd hd F.2.2.2.2.2.2.2) ht (fun h => kt h p e R s m args below meth c Q n0 kc ks F hR hN hret H locs ls hH hS hl) (fun h => kf h p e R s m args below meth c Q n0 kc ks F hR hN hret H locs ls hH hS hl)
theorem A_if_le {x : Int32} {off : Int} {tgt : Nat} (hd : codeAt Y pc = some (.ifCond .le off, 3)) (ht : (pc : Int) + off = (tgt : Int)) (kt : x ≤ 0 → AW l g ly Y d res tgt Ls st M) (kf : ¬ x ≤ 0 → AW l g ly Y d res (pc + 3) Ls st M) : AW l g ly Y d res pc Ls (vI x :: st) M := by
  intro p e R s m args below meth c Q n0 kc ks F hR hN hret H locs ls hH hS hl
  exact lv_if_le F.1 F.2.1 (cd hd F.2.2.2.2.2.2.2) ht (fun h => kt h p e R s m args below meth c Q n0 kc ks F hR hN hret H locs ls hH hS hl) (fun h => kf h p e R s m args below meth c Q n0 kc ks F hR hN hret H locs ls hH hS hl)
theorem A_icmp_eq {x y : Int32} {off : Int} {tgt : Nat} (hd : codeAt Y pc = some (.if_icmp .eq off, 3)) (ht : (pc : Int) + off = (tgt : Int)) (kt : x = y → AW l g ly Y d res tgt Ls st M) (kf : ¬ x = y → AW l g ly Y d res (pc + 3) Ls st M) : AW l g ly Y d res pc Ls (vI y :: vI x :: st) M := by
  intro p e R s m args below meth c Q n0 kc ks F hR hN hret H locs ls hH hS hl
  exact lv_icmp_eq F.1 F.2.1 (cd hd F.2.2.2.2.2.2.2) ht (fun h => kt h p e R s m args below meth c Q n0 kc ks F hR hN hret H locs ls hH hS hl) (fun h => kf h p e R s m args below meth c Q n0 kc ks F hR hN hret H locs ls hH hS hl)
theorem A_icmp_ne {x y : Int32} {off : Int} {tgt : Nat} (hd : codeAt Y pc = some (.if_icmp .ne off, 3)) (ht : (pc : Int) + off = (tgt : Int)) (kt : ¬ x = y → AW l g ly Y d res tgt Ls st M) (kf : x = y → AW l g ly Y d res (pc + 3) Ls st M) : AW l g ly Y d res pc Ls (vI y :: vI x :: st) M := by
  intro p e R s m args below meth c Q n0 kc ks F hR hN hret H locs ls hH hS hl
  exact lv_icmp_ne F.1 F.2.1 (cd hd F.2.2.2.2.2.2.2) ht (fun h => kt h p e R s m args below meth c Q n0 kc ks F hR hN hret H locs ls hH hS hl) (fun h => kf h p e R s m args below meth c Q n0 kc ks F hR hN hret H locs ls hH hS hl)
theorem A_icmp_lt {x y : Int32} {off : Int} {tgt : Nat} (hd : codeAt Y pc = some (.if_icmp .lt off, 3)) (ht : (pc : Int) + off = (tgt : Int)) (kt : x < y → AW l g ly Y d res tgt Ls st M) (kf : ¬ x < y → AW l g ly Y d res (pc + 3) Ls st M) : AW l g ly Y d res pc Ls (vI y :: vI x :: st) M := by
  intro p e R s m args below meth c Q n0 kc ks F hR hN hret H locs ls hH hS hl
  exact lv_icmp_lt F.1 F.2.1 (cd hd F.2.2.2.2.2.2.2) ht (fun h => kt h p e R s m args below meth c Q n0 kc ks F hR hN hret H locs ls hH hS hl) (fun h => kf h p e R s m args below meth c Q n0 kc ks F hR hN hret H locs ls hH hS hl)
theorem A_icmp_ge {x y : Int32} {off : Int} {tgt : Nat} (hd : codeAt Y pc = some (.if_icmp .ge off, 3)) (ht : (pc : Int) + off = (tgt : Int)) (kt : y ≤ x → AW l g ly Y d res tgt Ls st M) (kf : ¬ y ≤ x → AW l g ly Y d res (pc + 3) Ls st M) : AW l g ly Y d res pc Ls (vI y :: vI x :: st) M := by
  intro p e R s m args below meth c Q n0 kc ks F hR hN hret H locs ls hH hS hl
  exact lv_icmp_ge F.1 F.2.1 (cd hd F.2.2.2.2.2.2.2) ht (fun h => kt h p e R s m args below meth c Q n0 kc ks F hR hN hret H locs ls hH hS hl) (fun h => kf h p e R s m args below meth c Q n0 kc ks F hR hN hret H locs ls hH hS hl)
theorem A_icmp_gt {x y : Int32} {off : Int} {tgt : Nat} (hd : codeAt Y pc = some (.if_icmp .gt off, 3)) (ht : (pc : Int) + off = (tgt : Int)) (kt : y < x → AW l g ly Y d res tgt Ls st M) (kf : ¬ y < x → AW l g ly Y d res (pc + 3) Ls st M) : AW l g ly Y d res pc Ls (vI y :: vI x :: st) M := by
  intro p e R s m args below meth c Q n0 kc ks F hR hN hret H locs ls hH hS hl
  exact lv_icmp_gt F.1 F.2.1 (cd hd F.2.2.2.2.2.2.2) ht (fun h => kt h p e R s m args below meth c Q n0 kc ks F hR hN hret H locs ls hH hS hl) (fun h => kf h p e R s m args below meth c Q n0 kc ks F hR hN hret H locs ls hH hS hl)
theorem A_icmp_le {x y : Int32} {off : Int} {tgt : Nat} (hd : codeAt Y pc = some (.if_icmp .le off, 3)) (ht : (pc : Int) + off = (tgt : Int)) (kt : x ≤ y → AW l g ly Y d res tgt Ls st M) (kf : ¬ x ≤ y → AW l g ly Y d res (pc + 3) Ls st M) : AW l g ly Y d res pc Ls (vI y :: vI x :: st) M := by
  intro p e R s m args below meth c Q n0 kc ks F hR hN hret H locs ls hH hS hl
  exact lv_icmp_le F.1 F.2.1 (cd hd F.2.2.2.2.2.2.2) ht (fun h => kt h p e R s m args below meth c Q n0 kc ks F hR hN hret H locs ls hH hS hl) (fun h => kf h p e R s m args below meth c Q n0 kc ks F hR hN hret H locs ls hH hS hl)
theorem A_ifnull {r : Nat} {off : Int} {tgt : Nat} (hd : codeAt Y pc = some (.ifnull off, 3)) (ht : (pc : Int) + off = (tgt : Int)) (kt : r = 0 → AW l g ly Y d res tgt Ls st M) (kf : ¬ r = 0 → AW l g ly Y d res (pc + 3) Ls st M) : AW l g ly Y d res pc Ls (vA r :: st) M := by
  intro p e R s m args below meth c Q n0 kc ks F hR hN hret H locs ls hH hS hl
  rw [List.map_cons, cv_A]
  by_cases hr : r = 0
  · rw [hr, rv_0]
    exact lv_ifnullN F.1 F.2.1 (cd hd F.2.2.2.2.2.2.2) ht (kt hr p e R s m args below meth c Q n0 kc ks F hR hN hret H locs ls hH hS hl)
  · rw [rv_pos hr]
    exact lv_ifnull F.1 F.2.1 (cd hd F.2.2.2.2.2.2.2) (kf hr p e R s m args below meth c Q n0 kc ks F hR hN hret H locs ls hH hS hl)
theorem A_ifnonnull {r : Nat} {off : Int} {tgt : Nat} (hd : codeAt Y pc = some (.ifnonnull off, 3)) (ht : (pc : Int) + off = (tgt : Int)) (kt : ¬ r = 0 → AW l g ly Y d res tgt Ls st M) (kf : r = 0 → AW l g ly Y d res (pc + 3) Ls st M) : AW l g ly Y d res pc Ls (vA r :: st) M := by
  intro p e R s m args below meth c Q n0 kc ks F hR hN hret H locs ls hH hS hl
  rw [List.map_cons, cv_A]
  by_cases hr : r = 0
  · rw [hr, rv_0]
    exact lv_ifnonnullN F.1 F.2.1 (cd hd F.2.2.2.2.2.2.2) (kf hr p e R s m args below meth c Q n0 kc ks F hR hN hret H locs ls hH hS hl)
  · rw [rv_pos hr]
    exact lv_ifnonnull F.1 F.2.1 (cd hd F.2.2.2.2.2.2.2) ht (kt hr p e R s m args below meth c Q n0 kc ks F hR hN hret H locs ls hH hS hl)
theorem A_goto {off : Int} {tgt : Nat} (hd : codeAt Y pc = some (.goto off, 3)) (ht : (pc : Int) + off = (tgt : Int)) (K : AW l g ly Y d res tgt Ls st M) : AW l g ly Y d res pc Ls st M := by
  intro p e R s m args below meth c Q n0 kc ks F hR hN hret H locs ls hH hS hl
  exact lv_goto F.1 F.2.1 (cd hd F.2.2.2.2.2.2.2) ht (K p e R s m args below meth c Q n0 kc ks F hR hN hret H locs ls hH hS hl)
theorem A_lookup {dflt : Int} {ps : Array (Int × Int)} {n : Nat} {x : Int32} {off : Int} {tgt : Nat} (hd : codeAt Y pc = some (.lookupswitch dflt ps, n)) (hp : (ps.toList.zip (ps.toList.drop 1)).all (fun (a, next) => a.1 < next.1) = true) (ho : Op.lookupswitch.offset ps.toList dflt x.toInt = off) (ht : (pc : Int) + off = (tgt : Int)) (K : AW l g ly Y d res tgt Ls st M) : AW l g ly Y d res pc Ls (vI x :: st) M := by
  intro p e R s m args below meth c Q n0 kc ks F hR hN hret H locs ls hH hS hl
  exact lv_lookup F.1 F.2.1 (cd hd F.2.2.2.2.2.2.2) hp ho ht (K p e R s m args below meth c Q n0 kc ks F hR hN hret H locs ls hH hS hl)
theorem A_tableIn {dflt lo hi : Int} {offs : Array Int} {n : Nat} {x : Int32} {off : Int} {tgt : Nat} (hd : codeAt Y pc = some (.tableswitch dflt lo hi offs, n)) (h1 : ¬ x.toInt < lo) (h2 : ¬ hi < x.toInt) (ho : offs[(x.toInt - lo).toNat]? = some off) (ht : (pc : Int) + off = (tgt : Int)) (K : AW l g ly Y d res tgt Ls st M) : AW l g ly Y d res pc Ls (vI x :: st) M := by
  intro p e R s m args below meth c Q n0 kc ks F hR hN hret H locs ls hH hS hl
  exact lv_tableIn F.1 F.2.1 (cd hd F.2.2.2.2.2.2.2) h1 h2 ho ht (K p e R s m args below meth c Q n0 kc ks F hR hN hret H locs ls hH hS hl)
theorem A_tableOut {dflt lo hi : Int} {offs : Array Int} {n : Nat} {x : Int32} {tgt : Nat} (hd : codeAt Y pc = some (.tableswitch dflt lo hi offs, n)) (h : x.toInt < lo ∨ hi < x.toInt) (ht : (pc : Int) + dflt = (tgt : Int)) (K : AW l g ly Y d res tgt Ls st M) : AW l g ly Y d res pc Ls (vI x :: st) M := by
  intro p e R s m args below meth c Q n0 kc ks F hR hN hret H locs ls hH hS hl
  exact lv_tableOut F.1 F.2.1 (cd hd F.2.2.2.2.2.2.2) h ht (K p e R s m args below meth c Q n0 kc ks F hR hN hret H locs ls hH hS hl)
theorem A_ret {i : Instr} {r : Option ax_V} (hd : codeAt Y pc = some (i, 1)) (hr : rtOK Y i r) (hs : st = r.toList) : AW l g ly Y d (r, M) pc Ls st M := by
  intro p e R s m args below meth c Q n0 kc ks F hR hN hret H locs ls hH hS hl
  subst hs
  have h1 := hret H locs ls pc ⟨i, hd, hr⟩ hH hS
  have h2 : (r.toList).map (cv g) = (r.map (cv g)).toList := by cases r <;> rfl
  rw [h2]
  exact h1
theorem A_iret {x : Int32} (hd : codeAt Y pc = some (.ireturn, 1)) (hr : yr Y = some .int) : AW l g ly Y d (some (vI x), M) pc Ls [vI x] M := A_ret hd (Or.inl ⟨rfl, hr, x, rfl⟩) rfl
theorem A_zret {x : Int32} (hd : codeAt Y pc = some (.ireturn, 1)) (hr : yr Y = some .boolean) (hx : x = 0 ∨ x = 1) : AW l g ly Y d (some (vI x), M) pc Ls [vI x] M := A_ret hd (Or.inr (Or.inl ⟨rfl, hr, by rcases hx with rfl | rfl <;> simp⟩)) rfl
theorem A_lret {x : Int64} (hd : codeAt Y pc = some (.lreturn, 1)) (hr : yr Y = some .long) : AW l g ly Y d (some (vJ x), M) pc Ls [vJ x] M := A_ret hd (Or.inr (Or.inr (Or.inl ⟨rfl, hr, x, rfl⟩))) rfl
theorem A_aret {a : Nat} {n : String} (hd : codeAt Y pc = some (.areturn, 1)) (hr : yr Y = some (.object n)) : AW l g ly Y d (some (vA a), M) pc Ls [vA a] M := A_ret hd (Or.inr (Or.inr (Or.inr (Or.inl ⟨rfl, ⟨n, hr⟩, a, rfl⟩)))) rfl
theorem A_vret (hd : codeAt Y pc = some (.return_, 1)) (hr : yr Y = none) : AW l g ly Y d (none, M) pc Ls [] M := A_ret hd (Or.inr (Or.inr (Or.inr (Or.inr ⟨rfl, hr, rfl⟩)))) rfl
theorem A_ldc {idx : Nat} {v : Int32} (hd : codeAt Y pc = some (.ldc idx, 2)) (hw : Cond.constant (yn Y).cls idx v ∈ WG) (K : AW l g ly Y d res (pc + 2) Ls (vI v :: st) M) : AW l g ly Y d res pc Ls st M := by
  intro p e R s m args below meth c Q n0 kc ks F hR hN hret H locs ls hH hS hl
  exact lv_ldc F.1 F.2.1 F.2.2.2.1 (F.2.2.2.2.1 _ hw) (cd hd F.2.2.2.2.2.2.2) (K p e R s m args below meth c Q n0 kc ks F hR hN hret H locs ls hH hS hl)
theorem A_ldc2 {idx : Nat} {v : Int64} (hd : codeAt Y pc = some (.ldc2_w idx, 3)) (hw : Cond.constantLong (yn Y).cls idx v ∈ WG) (K : AW l g ly Y d res (pc + 3) Ls (vJ v :: st) M) : AW l g ly Y d res pc Ls st M := by
  intro p e R s m args below meth c Q n0 kc ks F hR hN hret H locs ls hH hS hl
  exact lv_ldc2 F.1 F.2.1 F.2.2.2.1 (F.2.2.2.2.1 _ hw) (cd hd F.2.2.2.2.2.2.2) (K p e R s m args below meth c Q n0 kc ks F hR hN hret H locs ls hH hS hl)
theorem A_sld {i : Int32} (hd : codeAt Y pc = some (.iaload, 1)) (hi : vp_in i (gL g)) (K : AW l g ly Y d res (pc + 1) Ls (vI (gx g i.toNatClampNeg) :: st) M) : AW l g ly Y d res pc Ls (vI i :: vA 1 :: st) M := by
  intro p e R s m args below meth c Q n0 kc ks F hR hN hret H locs ls hH hS hl
  have hs := F.2.2.2.2.2.1
  exact va_sld F.1 F.2.1 hs.2.2.2.1 (Nat.lt_of_lt_of_le hs.2.2.2.2.1 hs.2.2.2.2.2.1) (fun h => absurd hs.2.2.2.2.1 (Nat.not_lt.mpr h)) hS hi (cd hd F.2.2.2.2.2.2.2) (K p e R s m args below meth c Q n0 kc ks F hR hN hret H locs ls hH hS hl)
theorem A_slen (hd : codeAt Y pc = some (.arraylength, 1)) (K : AW l g ly Y d res (pc + 1) Ls (vI (Int32.ofNat (gL g)) :: st) M) : AW l g ly Y d res pc Ls (vA 1 :: st) M := by
  intro p e R s m args below meth c Q n0 kc ks F hR hN hret H locs ls hH hS hl
  have hs := F.2.2.2.2.2.1
  exact va_slen F.1 F.2.1 hs.2.2.2.1 (Nat.lt_of_lt_of_le hs.2.2.2.2.1 hs.2.2.2.2.2.1) (fun h => absurd hs.2.2.2.2.1 (Nat.not_lt.mpr h)) hS (cd hd F.2.2.2.2.2.2.2) (K p e R s m args below meth c Q n0 kc ks F hR hN hret H locs ls hH hS hl)
end AXR
end
section
/-! fields, arrays, new cells, calls -/
def clsOK (ci : Nat) (C : String) (T : u_T) (N : Nat) : Prop :=
  classes[ci]? = some (C, T, N) ∧ (∀ w ∈ u_ws C T N, w ∈ WG) ∧ (∀ k, k < N → parseFieldDescriptor (T k).2.2.1 = some (FTY ci k)) ∧ (∀ a, a < N → ∀ b, b < N → a ≠ b → (T a).2.1 ≠ (T b).2.1) ∧ ci < 100 ∧ (∀ c, kd c = ci → ln c = N)
def fldOK (own : String) (idx ci k : Nat) (fin : Bool) : Prop := ∃ (C : String) (T : u_T) (N : Nat), clsOK ci C T N ∧ k < N ∧ (T k).1 = C ∧ (T k).2.2.2 = fin ∧
  (Cond.fieldLink own idx C (T k).2.1 (T k).2.2.1 ∈ WG ∨ ∃ host, Cond.fieldLinkNest own idx C (T k).2.1 (T k).2.2.1 host ∈ NW)
def fldFin (own : String) (idx ci k : Nat) : Prop := ∃ (T : u_T) (N : Nat), clsOK ci own T N ∧ k < N ∧ (T k).1 = own ∧ (T k).2.2.2 = true ∧ Cond.fieldLink own idx own (T k).2.1 (T k).2.2.1 ∈ WG
def live (ly : Bool) (M : ax_M) (c : Nat) : Prop := ly = true ∨ c < gn M + 2
theorem hok.cell {g : ax_G} {ly : Bool} {M : ax_M} {H : Heap} {c K : Nat} (h : hok g ly M H) (hk : kd c = K) (hK : K ≠ 999) (hv : live ly M c) : 2 ≤ c ∧ c < gn M + 2 ∧ c < 1000 ∧ (WS g M)[c - 2]? = some (am g c, ent g M c) ∧ rv g c = .ref (am g c) := by
  obtain ⟨h1, h2⟩ := kd_lt hk hK
  have h3 : NT + 2 ≤ 1000 := nt_small
  have h4 : c < gn M + 2 := by
    rcases hv with hv | hv
    · have h5 := (h.2.2.2.2 hv).1
      omega
    · exact hv
  exact ⟨h1, h4, by omega, ws_get h1 h4 (by omega), rv_pos (by omega)⟩
theorem hok.at {g : ax_G} {ly : Bool} {M : ax_M} {H : Heap} {c K : Nat} (h : hok g ly M H) (hk : kd c = K) (hK : K ≠ 999) (hv : live ly M c) : va_at (gD g) classes (am g c, ent g M c) H := by
  obtain ⟨-, -, -, h5, -⟩ := h.cell hk hK hv
  exact h.1 _ _ h5
/-- behind a store in one cell -/
theorem hok.put {g : ax_G} {ly : Bool} {M M' : ax_M} {H H1 : Heap} {c K : Nat} (h : hok g ly M H) (hk : kd c = K) (hK : K ≠ 999) (hv : live ly M c) (hn : gn M' = gn M) (ho : ∀ a, a ≠ c → ent g M' a = ent g M a)
    (hz : ∀ a k, a ≠ c → gI M' a k = gI M a k ∧ gJ M' a k = gJ M a k ∧ gA M' a k = gA M a k) (hlay : ly = true → Lay M → Lay M') (hat : va_at (gD g) classes (am g c, ent g M' c) H1) (hs : H1.size = H.size) (oq : ∀ q, q ≠ am g c → H1[q]? = H[q]?) : hok g ly M' H1 := by
  obtain ⟨h1, h2, h3, h4, -⟩ := h.cell hk hK hv
  refine ⟨?_, by rw [hs, hn]; exact h.2.1, by rw [hn]; exact h.2.2.1, fun a k ha => ?_, fun q => ?_⟩
  · have h5 := va_P.set h.1 (ws_D g M) h4 hat oq
    rw [ws_set h1 h2 h3 hn ho] at h5
    exact h5
  · rw [hn] at ha
    obtain ⟨z1, z2, z3⟩ := hz a k (by omega)
    obtain ⟨y1, y2, y3⟩ := h.2.2.2.1 a k ha
    exact ⟨z1.trans y1, z2.trans y2, z3.trans y3⟩
  · obtain ⟨q1, q2⟩ := h.2.2.2.2 q
    exact ⟨hn.trans q1, hlay q q2⟩
section AXF
variable {l : Launch} {g : ax_G} {ly : Bool} {Y : ax_Y} {d : Nat} {res : ax_R} {pc : Nat} {Ls : List (Nat × ax_V)} {st : List ax_V} {M : ax_M}
theorem A_get {c idx ci k : Nat} {fin : Bool} {v : ax_V} (hd : codeAt Y pc = some (.getfield idx, 3)) (hf : fldOK (yn Y).cls idx ci k fin) (hk : kd c = ci) (hv : live ly M c) (hval : fv g M c k = cv g v) (K : AW l g ly Y d res (pc + 3) Ls (v :: st) M) : AW l g ly Y d res pc Ls (vA c :: st) M := by
  intro p e R s m args below meth c0 Q n0 kc ks F hR hN hret H locs ls hH hS hl
  obtain ⟨C, T, N, ⟨k1, k2, k3, k4, k5, k6⟩, hkN, hC, -, hlk⟩ := hf
  obtain ⟨-, -, -, he, hr⟩ := hH.cell hk (by omega) hv
  rw [ent_obj hk k5, k6 c hk] at he
  rw [List.map_cons, cv_A, hr]
  have hs := F.2.2.2.2.2.1
  have h9 := (K p e R s m args below meth c0 Q n0 kc ks F hR hN hret H locs ls hH hS hl)
  rw [List.map_cons, ← hval] at h9
  rcases hlk with hlk | ⟨host, hlk⟩
  · exact va_get F.1 F.2.1 F.2.2.2.2.1 k2 F.2.2.2.1 hs.1 hH.1 (c - 2) he k1 k hkN (F.2.2.2.2.1 _ hlk) (by rw [hC]; exact fun _ h => h) (fs_at hkN) (cd hd F.2.2.2.2.2.2.2) h9
  · exact va_getN F.1 F.2.1 F.2.2.2.2.1 k2 F.2.2.2.1 hs.1 hH.1 (c - 2) he k1 k hkN (va_Nw.use rfl (hs.2.1 _ hlk)) (by rw [hC]; exact fun _ h => h) (fs_at hkN) (cd hd F.2.2.2.2.2.2.2) h9
theorem A_getI {c idx ci k : Nat} {fin : Bool} (hd : codeAt Y pc = some (.getfield idx, 3)) (hf : fldOK (yn Y).cls idx ci k fin) (ht : FTC ci k = 0) (hk : kd c = ci) (hv : live ly M c) (K : AW l g ly Y d res (pc + 3) Ls (vI (gI M c k) :: st) M) : AW l g ly Y d res pc Ls (vA c :: st) M :=
  A_get hd hf hk hv (by unfold fv; rw [hk, ht]; rfl) K
theorem A_getJ {c idx ci k : Nat} {fin : Bool} (hd : codeAt Y pc = some (.getfield idx, 3)) (hf : fldOK (yn Y).cls idx ci k fin) (ht : FTC ci k = 1) (hk : kd c = ci) (hv : live ly M c) (K : AW l g ly Y d res (pc + 3) Ls (vJ (gJ M c k) :: st) M) : AW l g ly Y d res pc Ls (vA c :: st) M :=
  A_get hd hf hk hv (by unfold fv; rw [hk, ht]; rfl) K
theorem A_getA {c idx ci k : Nat} {fin : Bool} (hd : codeAt Y pc = some (.getfield idx, 3)) (hf : fldOK (yn Y).cls idx ci k fin) (ht : FTC ci k = 2) (hk : kd c = ci) (hv : live ly M c) (K : AW l g ly Y d res (pc + 3) Ls (vA (gA M c k) :: st) M) : AW l g ly Y d res pc Ls (vA c :: st) M :=
  A_get hd hf hk hv (by unfold fv; rw [hk, ht]; rfl) K
theorem A_lay {P : ax_M → Prop} (h : Lay M → AW l g true Y d res pc Ls st M) : AW l g true Y d res pc Ls st M := by
  intro p e R s m args below meth c Q n0 kc ks F hR hN hret H locs ls hH hS hl
  exact h (hH.2.2.2.2 rfl).2 p e R s m args below meth c Q n0 kc ks F hR hN hret H locs ls hH hS hl
/-- a reference that the constructors left -/
theorem A_getL {c idx ci k r : Nat} {fin : Bool} (hd : codeAt Y pc = some (.getfield idx, 3)) (hf : fldOK (yn Y).cls idx ci k fin) (ht : FTC ci k = 2) (hk : kd c = ci) (hy : LYS ci k = true) (hr : LYO ci k c = r) (K : AW l g true Y d res (pc + 3) Ls (vA r :: st) M) : AW l g true Y d res pc Ls (vA c :: st) M := by
  refine A_lay (P := fun _ => True) fun hL => ?_
  refine A_getA hd hf ht hk (Or.inl rfl) ?_
  obtain ⟨C, T, N, ⟨k1, k2, k3, k4, k5, k6⟩, hkN, -⟩ := hf
  have h1 := hL c k (kd_lt hk (by omega)).2 (by rw [k6 c hk]; exact hkN) (by rw [hk]; exact hy)
  rw [hk, hr] at h1
  rw [h1]
  exact K

/-- a store in a field -/
theorem A_put {c idx ci k : Nat} {v : ax_V} {M' : ax_M} (hd : codeAt Y pc = some (.putfield idx, 3)) (hf : fldOK (yn Y).cls idx ci k false ∨ (fldFin (yn Y).cls idx ci k ∧ (yn Y).name = "<init>")) (hk : kd c = ci) (hv : live ly M c) (hty : narrow (FTY ci k) (cv g v) = cv g v ∧ fits (FTY ci k) (cv g v) = true)
    (hn : gn M' = gn M) (hz : ∀ a j, a ≠ c → gI M' a j = gI M a j ∧ gJ M' a j = gJ M a j ∧ gA M' a j = gA M a j) (hlay : ly = true → Lay M → Lay M') (hval : fv g M' c k = cv g v) (hoth : ∀ j, j ≠ k → fv g M' c j = fv g M c j)
    (K : AW l g ly Y d res (pc + 3) Ls st M') : AW l g ly Y d res pc Ls (v :: vA c :: st) M := by
  intro p e R s m args below meth c0 Q n0 kc ks F hR hN hret H locs ls hH hS hl
  have hs := F.2.2.2.2.2.1
  have hts := F.2.2.2.2.1
  have hown := F.2.2.2.1
  have hf2 : ∃ (C : String) (T : u_T) (N : Nat), clsOK ci C T N ∧ k < N ∧ (T k).1 = C ∧ (((T k).2.2.2 = false ∧ (Cond.fieldLink (yn Y).cls idx C (T k).2.1 (T k).2.2.1 ∈ WG ∨ ∃ host, Cond.fieldLinkNest (yn Y).cls idx C (T k).2.1 (T k).2.2.1 host ∈ NW)) ∨ ((T k).2.2.2 = true ∧ C = (yn Y).cls ∧ Cond.fieldLink (yn Y).cls idx C (T k).2.1 (T k).2.2.1 ∈ WG ∧ (yn Y).name = "<init>")) := by
    rcases hf with ⟨C, T, N, h1, h2, h3, h4, h5⟩ | ⟨⟨T, N, h1, h2, h3, h4, h5⟩, h6⟩
    · exact ⟨C, T, N, h1, h2, h3, Or.inl ⟨h4, h5⟩⟩
    · exact ⟨_, T, N, h1, h2, h3, Or.inr ⟨h4, rfl, h5, h6⟩⟩
  obtain ⟨C, T, N, ⟨k1, k2, k3, k4, k5, k6⟩, hkN, hC, hcase⟩ := hf2
  obtain ⟨-, -, -, he, hr⟩ := hH.cell hk (by omega) hv
  have he0 := hH.at hk (by omega) hv
  have hAc : ax_A g (am g c) := (ws_D g M).2 (c - 2) (am g c, ent g M c) he
  rw [List.map_cons, List.map_cons, cv_A, hr]
  rw [ent_obj hk k5, k6 c hk] at he0
  have hap := va_apart (own := (yn Y).cls) hts k2 (FTY ci) k3 k4 hs.1 k1
  obtain ⟨r, h1, cell, q1, q2, q3, q4⟩ := he0
  have hr2 : r = (C, T, N) := Option.some.inj (h1.symm.trans k1)
  subst hr2
  obtain ⟨hSl, hfc, kC, hkC, hkind⟩ := hs.1.1 ci _ k1
  obtain ⟨cf, kf, fi, f, hi, hsl⟩ := hSl k hkN
  have hlay2 := hts _ (k2 _ (u_in_lay hkN))
  have hst := (u_facts hfc hkC (u_lays hts k2 hkN) hi).1
  have hgo : ∀ H' : Heap, H'[am g c]? = some (cell.setSlot f.slot (cv g v)) → H'.size = H.size → (∀ q, q ≠ am g c → H'[q]? = H[q]?) → W p l e R s m args below meth c0 H' (locs ++ [⟨am g c, f.slot⟩]) (kc + al ly n0 (gn M)) (ks + al ly (SZ n0) (SZ (gn M))) Q (F0 m (pc + 3) ls (st.map (cv g))) := by
    intro H' e1 e2 e3
    rw [hsl] at e1 ⊢
    have hk9 := K p e R s m args below meth c0 Q n0 kc ks F hR (by rw [hn]; exact hN) hret H' (locs ++ [⟨am g c, (gD g).2 ci k⟩]) ls ?_ (hS.put e2 e3 ((ws_D g M).2 _ _ he)) hl
    · rw [hn] at hk9
      exact hk9
    · refine hH.put hk (by omega) hv hn (fun a ha => ent_other (fun j => (hz a j ha).1) (fun j => (hz a j ha).2.1) (fun j => (hz a j ha).2.2)) hz hlay ?_ e2 e3
      rw [ent_obj hk k5, k6 c hk, ← fs_set hkN hval hoth]
      exact ⟨_, k1, t_OB.to (V := updV (vp_V ((List.range N).map (fv g M c))) k (cv g v)) ⟨_, e1, q2, q3, t_set q4 hap hkN (cv g v)⟩ (fun j _ => vp_updV_set (by simpa using hkN) (cv g v) j)⟩
  unfold u_lay at hlay2
  rcases hcase with ⟨hfin, hlk⟩ | ⟨hfin, hCo, hlk, hini⟩
  · rw [if_neg (by rw [hfin]; decide)] at hlay2
    have h6 := u_store hfc hkC hkind hlay2 hi (k3 k hkN) hty.1 hty.2
    rw [hC] at hi
    rcases hlk with hlk | ⟨host, hlk⟩
    · exact W.putK F.1 F.2.1 (f := f) ⟨hown, hts _ hlk, ⟨_, _, _, hi⟩, hst⟩ (by rw [q2]; exact h6) q1 q3 (by rw [hsl]; exact k2_hasslot (q4 k hkN)) rfl rfl (cd hd F.2.2.2.2.2.2.2) hgo
    · exact va_WputK F.1 F.2.1 (f := f) hown (va_Nw.use rfl (hs.2.1 _ hlk)) hi hst (by rw [q2]; exact h6) q1 q3 (by rw [hsl]; exact k2_hasslot (q4 k hkN)) rfl rfl (cd hd F.2.2.2.2.2.2.2) hgo
  · rw [if_pos hfin] at hlay2
    have hcf : m.cls = cf := by
      obtain ⟨_, _, c', _, _, _, -, -, hf', -, -, -, hown2, -⟩ := Cond.laysFinal_spec hlay2
      have e1 : c' = cf := by have := hi.symm.trans hf'; simp at this; exact this.1.symm
      rw [hC, hCo] at hown2
      rw [← e1]; exact Option.some.inj (hown.symm.trans hown2)
    have h6 := u_fits hfc hkC hkind (Or.inr hlay2) hi (k3 k hkN) hty.1 hty.2
    rw [hC] at hi
    exact W.putFinK F.1 F.2.1 hown (hts _ hlk) hi hst hcf (F.2.2.2.2.2.2.1.trans hini) (by rw [q2]; exact h6) q1 q3 (by rw [hsl]; exact k2_hasslot (q4 k hkN)) rfl rfl (cd hd F.2.2.2.2.2.2.2) hgo
theorem fv_I {g : ax_G} {M : ax_M} {c k ci : Nat} (hk : kd c = ci) (ht : FTC ci k = 0) : fv g M c k = .int (gI M c k) := by unfold fv; rw [hk, ht]; rfl
theorem fv_J {g : ax_G} {M : ax_M} {c k ci : Nat} (hk : kd c = ci) (ht : FTC ci k = 1) : fv g M c k = .long (gJ M c k) := by unfold fv; rw [hk, ht]; rfl
theorem fv_A {g : ax_G} {M : ax_M} {c k ci : Nat} (hk : kd c = ci) (ht : FTC ci k = 2) : fv g M c k = rv g (gA M c k) := by unfold fv; rw [hk, ht]; rfl
theorem fv_mI {g : ax_G} {M : ax_M} {c k j : Nat} {x : Int32} (h : j ≠ k) : fv g (mI M c k x) c j = fv g M c j := by
  unfold fv
  rw [gI_mI, gJ_mI, gA_mI, if_neg (show ¬ (c = c ∧ j = k) from fun q => h q.2)]
theorem fv_mJ {g : ax_G} {M : ax_M} {c k j : Nat} {x : Int64} (h : j ≠ k) : fv g (mJ M c k x) c j = fv g M c j := by
  unfold fv
  rw [gI_mJ, gJ_mJ, gA_mJ, if_neg (show ¬ (c = c ∧ j = k) from fun q => h q.2)]
theorem fv_mA {g : ax_G} {M : ax_M} {c k j : Nat} {x : Nat} (h : j ≠ k) : fv g (mA M c k x) c j = fv g M c j := by
  unfold fv
  rw [gI_mA, gJ_mA, gA_mA, if_neg (show ¬ (c = c ∧ j = k) from fun q => h q.2)]
theorem A_putI {c idx ci k : Nat} {x : Int32} (hd : codeAt Y pc = some (.putfield idx, 3)) (hf : fldOK (yn Y).cls idx ci k false ∨ (fldFin (yn Y).cls idx ci k ∧ (yn Y).name = "<init>")) (ht : FTC ci k = 0) (hk : kd c = ci) (hv : live ly M c) (hty : FTY ci k = .int) (K : AW l g ly Y d res (pc + 3) Ls st (mI M c k x)) : AW l g ly Y d res pc Ls (vI x :: vA c :: st) M :=
  A_put (M' := mI M c k x) hd hf hk hv (by rw [hty]; exact ⟨rfl, rfl⟩) rfl (fun a j ha => ⟨by rw [gI_mI, if_neg (fun q => ha q.1)], rfl, rfl⟩) (fun _ h => h) (by rw [fv_I hk ht, gI_mI, if_pos ⟨rfl, rfl⟩]; rfl) (fun j hj => fv_mI hj) K
theorem A_putZ {c idx ci k : Nat} {x : Int32} (hd : codeAt Y pc = some (.putfield idx, 3)) (hf : fldOK (yn Y).cls idx ci k false ∨ (fldFin (yn Y).cls idx ci k ∧ (yn Y).name = "<init>")) (ht : FTC ci k = 0) (hk : kd c = ci) (hv : live ly M c) (hty : FTY ci k = .boolean) (hx : x = 0 ∨ x = 1) (K : AW l g ly Y d res (pc + 3) Ls st (mI M c k x)) : AW l g ly Y d res pc Ls (vI x :: vA c :: st) M :=
  A_put (M' := mI M c k x) hd hf hk hv (by rw [hty]; rcases hx with rfl | rfl <;> exact ⟨rfl, rfl⟩) rfl (fun a j ha => ⟨by rw [gI_mI, if_neg (fun q => ha q.1)], rfl, rfl⟩) (fun _ h => h) (by rw [fv_I hk ht, gI_mI, if_pos ⟨rfl, rfl⟩]; rfl) (fun j hj => fv_mI hj) K
theorem A_putJ {c idx ci k : Nat} {x : Int64} (hd : codeAt Y pc = some (.putfield idx, 3)) (hf : fldOK (yn Y).cls idx ci k false ∨ (fldFin (yn Y).cls idx ci k ∧ (yn Y).name = "<init>")) (ht : FTC ci k = 1) (hk : kd c = ci) (hv : live ly M c) (hty : FTY ci k = .long) (K : AW l g ly Y d res (pc + 3) Ls st (mJ M c k x)) : AW l g ly Y d res pc Ls (vJ x :: vA c :: st) M :=
  A_put (M' := mJ M c k x) hd hf hk hv (by rw [hty]; exact ⟨rfl, rfl⟩) rfl (fun a j ha => ⟨rfl, by rw [gJ_mJ, if_neg (fun q => ha q.1)], rfl⟩) (fun _ h => h) (by rw [fv_J hk ht, gJ_mJ, if_pos ⟨rfl, rfl⟩]; rfl) (fun j hj => fv_mJ hj) K
def isRefT (t : FieldType) : Bool := match t with
  | .object _ => true
  | .array _ => true
  | _ => false
theorem rv_fits {g : ax_G} {t : FieldType} (h : isRefT t = true) (r : Nat) : narrow t (rv g r) = rv g r ∧ fits t (rv g r) = true := by
  unfold rv
  cases t <;> first | (exact absurd h (by decide)) | (split <;> exact ⟨rfl, rfl⟩)
theorem A_putA {c idx ci k r : Nat} (hd : codeAt Y pc = some (.putfield idx, 3)) (hf : fldOK (yn Y).cls idx ci k false ∨ (fldFin (yn Y).cls idx ci k ∧ (yn Y).name = "<init>")) (ht : FTC ci k = 2) (hk : kd c = ci) (hv : live ly M c) (hty : isRefT (FTY ci k) = true) (hly : ly = false ∨ LYS ci k = false) (K : AW l g ly Y d res (pc + 3) Ls st (mA M c k r)) : AW l g ly Y d res pc Ls (vA r :: vA c :: st) M := by
  refine A_put (M' := mA M c k r) hd hf hk hv (rv_fits hty r) rfl (fun a j ha => ⟨rfl, rfl, by rw [gA_mA, if_neg (fun q => ha q.1)]⟩) (fun hl hL => ?_) (by rw [fv_A hk ht, gA_mA, if_pos ⟨rfl, rfl⟩]; rfl) (fun j hj => fv_mA hj) K
  rcases hly with hly | hly
  · rw [hl] at hly
    cases hly
  · intro a j h1 h2 h3
    rw [gA_mA]
    split
    next h4 =>
      rw [h4.1, h4.2, hk, hly] at h3
      cases h3
    next => exact hL a j h1 h2 h3
/-! arrays: kind 100 + t -/
theorem tys_at {g : ax_G} {t : Nat} (h : t < ATS.length) : (tysOf g)[t]? = some (gdA g t, ATS.getD t .int) := by
  unfold tysOf
  rw [List.getElem?_map, List.getElem?_range h]
  rfl
theorem cont_I {g : ax_G} {M : ax_M} {c : Nat} (h : kd c = 100 ∨ kd c = 102 ∨ kd c = 103) : cont g M c = .inl (gI M c) := by
  unfold cont
  rcases h with h | h | h <;> (rw [h]; rfl)
theorem cont_J {g : ax_G} {M : ax_M} {c : Nat} (h : kd c = 101) : cont g M c = .inr (.inl (gJ M c)) := by
  unfold cont
  rw [h]
  rfl
theorem cont_A {g : ax_G} {M : ax_M} {c t : Nat} (h : kd c = 100 + t) (ht : 4 ≤ t) : cont g M c = .inr (.inr (.inr (.inr (fun k => ro g (gA M c k))))) := by
  unfold cont
  rw [h, if_neg (by omega), if_neg (by omega)]
theorem A_iald {c n : Nat} {i : Int32} (hd : codeAt Y pc = some (.iaload, 1)) (hk : kd c = 100) (hn : ln c = n) (hv : live ly M c) (hi : vp_in i n) (K : AW l g ly Y d res (pc + 1) Ls (vI (gI M c i.toNatClampNeg) :: st) M) : AW l g ly Y d res pc Ls (vI i :: vA c :: st) M := by
  intro p e R s m args below meth c0 Q n0 kc ks F hR hN hret H locs ls hH hS hl
  obtain ⟨-, -, -, he, hr⟩ := hH.cell hk (by omega) hv
  rw [ent_arr (t := 0) hk, cont_I (by simp [hk]), hn] at he
  rw [List.map_cons, List.map_cons, cv_A, hr]
  exact va_iald F.1 F.2.1 F.2.2.2.2.2.1.1 hH.1 (c - 2) 0 he ((tys_at (by decide)).trans rfl) hi (cd hd F.2.2.2.2.2.2.2) (K p e R s m args below meth c0 Q n0 kc ks F hR hN hret H locs ls hH hS hl)
theorem A_cald {c n : Nat} {i : Int32} (hd : codeAt Y pc = some (.caload, 1)) (hk : kd c = 102) (hn : ln c = n) (hv : live ly M c) (hi : vp_in i n) (K : AW l g ly Y d res (pc + 1) Ls (vI (gI M c i.toNatClampNeg) :: st) M) : AW l g ly Y d res pc Ls (vI i :: vA c :: st) M := by
  intro p e R s m args below meth c0 Q n0 kc ks F hR hN hret H locs ls hH hS hl
  obtain ⟨-, -, -, he, hr⟩ := hH.cell hk (by omega) hv
  rw [ent_arr (t := 2) hk, cont_I (by simp [hk]), hn] at he
  rw [List.map_cons, List.map_cons, cv_A, hr]
  exact va_cald F.1 F.2.1 F.2.2.2.2.2.1.1 hH.1 (c - 2) 2 he ((tys_at (by decide)).trans rfl) hi (cd hd F.2.2.2.2.2.2.2) (K p e R s m args below meth c0 Q n0 kc ks F hR hN hret H locs ls hH hS hl)
theorem A_zald {c n : Nat} {i : Int32} (hd : codeAt Y pc = some (.baload, 1)) (hk : kd c = 103) (hn : ln c = n) (hv : live ly M c) (hi : vp_in i n) (K : AW l g ly Y d res (pc + 1) Ls (vI (gI M c i.toNatClampNeg) :: st) M) : AW l g ly Y d res pc Ls (vI i :: vA c :: st) M := by
  intro p e R s m args below meth c0 Q n0 kc ks F hR hN hret H locs ls hH hS hl
  obtain ⟨-, -, -, he, hr⟩ := hH.cell hk (by omega) hv
  rw [ent_arr (t := 3) hk, cont_I (by simp [hk]), hn] at he
  rw [List.map_cons, List.map_cons, cv_A, hr]
  exact va_zald F.1 F.2.1 F.2.2.2.2.2.1.1 hH.1 (c - 2) 3 he ((tys_at (by decide)).trans rfl) hi (cd hd F.2.2.2.2.2.2.2) (K p e R s m args below meth c0 Q n0 kc ks F hR hN hret H locs ls hH hS hl)
theorem A_lald {c n : Nat} {i : Int32} (hd : codeAt Y pc = some (.laload, 1)) (hk : kd c = 101) (hn : ln c = n) (hv : live ly M c) (hi : vp_in i n) (K : AW l g ly Y d res (pc + 1) Ls (vJ (gJ M c i.toNatClampNeg) :: st) M) : AW l g ly Y d res pc Ls (vI i :: vA c :: st) M := by
  intro p e R s m args below meth c0 Q n0 kc ks F hR hN hret H locs ls hH hS hl
  obtain ⟨-, -, -, he, hr⟩ := hH.cell hk (by omega) hv
  rw [ent_arr (t := 1) hk, cont_J hk, hn] at he
  rw [List.map_cons, List.map_cons, cv_A, hr]
  exact va_lald F.1 F.2.1 F.2.2.2.2.2.1.1 hH.1 (c - 2) 1 he ((tys_at (by decide)).trans rfl) hi (cd hd F.2.2.2.2.2.2.2) (K p e R s m args below meth c0 Q n0 kc ks F hR hN hret H locs ls hH hS hl)
theorem A_aald {c n t : Nat} {i : Int32} {C : String} (hd : codeAt Y pc = some (.aaload, 1)) (hk : kd c = 100 + t) (ht : 4 ≤ t ∧ t < ATS.length ∧ ATS.getD t .int = .object C) (hn : ln c = n) (hv : live ly M c) (hi : vp_in i n) (K : AW l g ly Y d res (pc + 1) Ls (vA (gA M c i.toNatClampNeg) :: st) M) : AW l g ly Y d res pc Ls (vI i :: vA c :: st) M := by
  intro p e R s m args below meth c0 Q n0 kc ks F hR hN hret H locs ls hH hS hl
  have h9 : ATS.length < 800 := ats_small
  obtain ⟨-, -, -, he, hr⟩ := hH.cell hk (by omega) hv
  rw [ent_arr hk, cont_A hk ht.1, hn] at he
  rw [List.map_cons, List.map_cons, cv_A, hr]
  have h8 := (K p e R s m args below meth c0 Q n0 kc ks F hR hN hret H locs ls hH hS hl)
  rw [List.map_cons, cv_A, ← rv_ro] at h8
  exact va_aldq (C := C) F.1 F.2.1 F.2.2.2.2.2.1.1 hH.1 (c - 2) t he ((tys_at ht.2.1).trans (by rw [ht.2.2])) hi (cd hd F.2.2.2.2.2.2.2) h8
theorem A_aldL {c n t r : Nat} {i : Int32} {C : String} (hd : codeAt Y pc = some (.aaload, 1)) (hk : kd c = 100 + t) (ht : 4 ≤ t ∧ t < ATS.length ∧ ATS.getD t .int = .object C) (hn : ln c = n) (hi : vp_in i n) (hy : LYS (100 + t) i.toNatClampNeg = true) (hr : LYO (100 + t) i.toNatClampNeg c = r) (K : AW l g true Y d res (pc + 1) Ls (vA r :: st) M) : AW l g true Y d res pc Ls (vI i :: vA c :: st) M := by
  refine A_lay (P := fun _ => True) fun hL => ?_
  refine A_aald hd hk ht hn (Or.inl rfl) hi ?_
  have h9 : ATS.length < 800 := ats_small
  have h1 := hL c i.toNatClampNeg (kd_lt hk (by omega)).2 (by rw [hn]; exact Nat.not_le.mp fun q => hi (Or.inr q)) (by rw [hk]; exact hy)
  rw [hk, hr] at h1
  rw [h1]
  exact K
theorem A_iast {c n : Nat} {i : Int32} {x : Int32} (hd : codeAt Y pc = some (.iastore, 1)) (hk : kd c = 100) (hn : ln c = n) (hv : live ly M c) (hi : vp_in i n) (K : AW l g ly Y d res (pc + 1) Ls st (mI M c i.toNatClampNeg x)) : AW l g ly Y d res pc Ls (vI x :: vI i :: vA c :: st) M := by
  intro p e R s m args below meth c0 Q n0 kc ks F hR hN hret H locs ls hH hS hl
  obtain ⟨-, -, -, he, hr⟩ := hH.cell hk (by omega) hv
  have he0 := hH.at hk (by omega) hv
  have hAc : ax_A g (am g c) := (ws_D g M).2 (c - 2) (am g c, ent g M c) he
  rw [ent_arr (t := 0) hk, cont_I (by simp [hk]), hn] at he0
  rw [List.map_cons, List.map_cons, List.map_cons, cv_A, hr]
  refine W.iast F.1 F.2.1 he0 ((F.2.2.2.2.2.1.1.2 0 _ (tys_at (by decide))).1 n (fun j => .int (gI M c j))) (fun q => by cases q) (by show ¬ (i < 0 ∨ (arrV _ _ _).slots.size ≤ _); rw [arrV_size]; exact hi) rfl rfl (cd hd F.2.2.2.2.2.2.2) fun H1 e1 z oq => ?_
  refine K p e R s m args below meth c0 Q n0 kc ks F hR hN hret H1 _ ls ?_ (hS.put z oq hAc) hl
  refine hH.put hk (by omega) hv rfl (fun a ha => ent_mI ha) (fun a j ha => ⟨by rw [gI_mI, if_neg (fun q => ha q.1)], rfl, rfl⟩) (fun _ h => h) ?_ z oq
  rw [ent_arr (t := 0) hk, cont_I (by simp [hk]), hn]
  show H1[am g c]? = some (vp_cell _ _)
  rw [e1, vp_cell_i, vp_cell_i, arrV_store]
  congr 2
  funext q
  show updV (fun j => .int (gI M c j)) i.toNatClampNeg (.int x) q = .int (gI (mI M c i.toNatClampNeg x) c q)
  rw [gI_mI]
  unfold updV
  by_cases hq : q = i.toNatClampNeg
  · rw [if_pos hq, if_pos ⟨rfl, hq⟩]
  · rw [if_neg hq, if_neg (fun z => hq z.2)]
theorem A_cast {c n : Nat} {i : Int32} {x : Int32} (hd : codeAt Y pc = some (.castore, 1)) (hk : kd c = 102) (hn : ln c = n) (hv : live ly M c) (hi : vp_in i n) (hx : narrow .char (.int x) = .int x) (K : AW l g ly Y d res (pc + 1) Ls st (mI M c i.toNatClampNeg x)) : AW l g ly Y d res pc Ls (vI x :: vI i :: vA c :: st) M := by
  intro p e R s m args below meth c0 Q n0 kc ks F hR hN hret H locs ls hH hS hl
  obtain ⟨-, -, -, he, hr⟩ := hH.cell hk (by omega) hv
  have he0 := hH.at hk (by omega) hv
  have hAc : ax_A g (am g c) := (ws_D g M).2 (c - 2) (am g c, ent g M c) he
  rw [ent_arr (t := 2) hk, cont_I (by simp [hk]), hn] at he0
  rw [List.map_cons, List.map_cons, List.map_cons, cv_A, hr]
  refine W.cast F.1 F.2.1 he0 ((F.2.2.2.2.2.1.1.2 2 _ (tys_at (by decide))).1 n (fun j => .int (gI M c j))) (fun q => by cases q) (by show ¬ (i < 0 ∨ (arrV _ _ _).slots.size ≤ _); rw [arrV_size]; exact hi) rfl rfl (cd hd F.2.2.2.2.2.2.2) fun H1 e1 z oq => ?_
  rw [hx] at e1
  refine K p e R s m args below meth c0 Q n0 kc ks F hR hN hret H1 _ ls ?_ (hS.put z oq hAc) hl
  refine hH.put hk (by omega) hv rfl (fun a ha => ent_mI ha) (fun a j ha => ⟨by rw [gI_mI, if_neg (fun q => ha q.1)], rfl, rfl⟩) (fun _ h => h) ?_ z oq
  rw [ent_arr (t := 2) hk, cont_I (by simp [hk]), hn]
  show H1[am g c]? = some (vp_cell _ _)
  rw [e1, vp_cell_i, vp_cell_i, arrV_store]
  congr 2
  funext q
  show updV (fun j => .int (gI M c j)) i.toNatClampNeg (.int x) q = .int (gI (mI M c i.toNatClampNeg x) c q)
  rw [gI_mI]
  unfold updV
  by_cases hq : q = i.toNatClampNeg
  · rw [if_pos hq, if_pos ⟨rfl, hq⟩]
  · rw [if_neg hq, if_neg (fun z => hq z.2)]
theorem A_zast {c n : Nat} {i : Int32} {x : Int32} (hd : codeAt Y pc = some (.bastore, 1)) (hk : kd c = 103) (hn : ln c = n) (hv : live ly M c) (hi : vp_in i n) (hx : narrow .boolean (.int x) = .int x) (K : AW l g ly Y d res (pc + 1) Ls st (mI M c i.toNatClampNeg x)) : AW l g ly Y d res pc Ls (vI x :: vI i :: vA c :: st) M := by
  intro p e R s m args below meth c0 Q n0 kc ks F hR hN hret H locs ls hH hS hl
  obtain ⟨-, -, -, he, hr⟩ := hH.cell hk (by omega) hv
  have he0 := hH.at hk (by omega) hv
  have hAc : ax_A g (am g c) := (ws_D g M).2 (c - 2) (am g c, ent g M c) he
  rw [ent_arr (t := 3) hk, cont_I (by simp [hk]), hn] at he0
  rw [List.map_cons, List.map_cons, List.map_cons, cv_A, hr]
  refine W.zast F.1 F.2.1 he0 ((F.2.2.2.2.2.1.1.2 3 _ (tys_at (by decide))).1 n (fun j => .int (gI M c j))) (fun q => by cases q) (by show ¬ (i < 0 ∨ (arrV _ _ _).slots.size ≤ _); rw [arrV_size]; exact hi) rfl rfl (cd hd F.2.2.2.2.2.2.2) fun H1 e1 z oq => ?_
  rw [hx] at e1
  refine K p e R s m args below meth c0 Q n0 kc ks F hR hN hret H1 _ ls ?_ (hS.put z oq hAc) hl
  refine hH.put hk (by omega) hv rfl (fun a ha => ent_mI ha) (fun a j ha => ⟨by rw [gI_mI, if_neg (fun q => ha q.1)], rfl, rfl⟩) (fun _ h => h) ?_ z oq
  rw [ent_arr (t := 3) hk, cont_I (by simp [hk]), hn]
  show H1[am g c]? = some (vp_cell _ _)
  rw [e1, vp_cell_i, vp_cell_i, arrV_store]
  congr 2
  funext q
  show updV (fun j => .int (gI M c j)) i.toNatClampNeg (.int x) q = .int (gI (mI M c i.toNatClampNeg x) c q)
  rw [gI_mI]
  unfold updV
  by_cases hq : q = i.toNatClampNeg
  · rw [if_pos hq, if_pos ⟨rfl, hq⟩]
  · rw [if_neg hq, if_neg (fun z => hq z.2)]
theorem A_last {c n : Nat} {i : Int32} {x : Int64} (hd : codeAt Y pc = some (.lastore, 1)) (hk : kd c = 101) (hn : ln c = n) (hv : live ly M c) (hi : vp_in i n) (K : AW l g ly Y d res (pc + 1) Ls st (mJ M c i.toNatClampNeg x)) : AW l g ly Y d res pc Ls (vJ x :: vI i :: vA c :: st) M := by
  intro p e R s m args below meth c0 Q n0 kc ks F hR hN hret H locs ls hH hS hl
  obtain ⟨-, -, -, he, hr⟩ := hH.cell hk (by omega) hv
  have he0 := hH.at hk (by omega) hv
  have hAc : ax_A g (am g c) := (ws_D g M).2 (c - 2) (am g c, ent g M c) he
  rw [ent_arr (t := 1) hk, cont_J hk, hn] at he0
  rw [List.map_cons, List.map_cons, List.map_cons, cv_A, hr]
  refine W.last F.1 F.2.1 he0 ((F.2.2.2.2.2.1.1.2 1 _ (tys_at (by decide))).1 n (fun j => .long (gJ M c j))) (fun q => by cases q) (by show ¬ (i < 0 ∨ (arrV _ _ _).slots.size ≤ _); rw [arrV_size]; exact hi) rfl rfl (cd hd F.2.2.2.2.2.2.2) fun H1 e1 z oq => ?_
  refine K p e R s m args below meth c0 Q n0 kc ks F hR hN hret H1 _ ls ?_ (hS.put z oq hAc) hl
  refine hH.put hk (by omega) hv rfl (fun a ha => ent_mJ ha) (fun a j ha => ⟨rfl, by rw [gJ_mJ, if_neg (fun q => ha q.1)], rfl⟩) (fun _ h => h) ?_ z oq
  rw [ent_arr (t := 1) hk, cont_J hk, hn]
  show H1[am g c]? = some (vp_cell _ _)
  rw [e1, vp_cell_l, vp_cell_l, arrV_store]
  congr 2
  funext q
  show updV (fun j => .long (gJ M c j)) i.toNatClampNeg (.long x) q = .long (gJ (mJ M c i.toNatClampNeg x) c q)
  rw [gJ_mJ]
  unfold updV
  by_cases hq : q = i.toNatClampNeg
  · rw [if_pos hq, if_pos ⟨rfl, hq⟩]
  · rw [if_neg hq, if_neg (fun z => hq z.2)]
theorem A_aast {c n t r ci : Nat} {i : Int32} {C : String} {T : u_T} {N : Nat} (hd : codeAt Y pc = some (.aastore, 1)) (hk : kd c = 100 + t) (ht : 4 ≤ t ∧ t < ATS.length ∧ ATS.getD t .int = .object C) (hn : ln c = n) (hv : live ly M c) (hi : vp_in i n) (hc : clsOK ci C T N) (hr1 : kd r = ci) (hv1 : live ly M r) (hly : ly = false ∨ ∀ j, LYS (100 + t) j = false) (K : AW l g ly Y d res (pc + 1) Ls st (mA M c i.toNatClampNeg r)) : AW l g ly Y d res pc Ls (vA r :: vI i :: vA c :: st) M := by
  intro p e R s m args below meth c0 Q n0 kc ks F hR hN hret H locs ls hH hS hl
  have h9 : ATS.length < 800 := ats_small
  obtain ⟨k1, k2, k3, k4, k5, k6⟩ := hc
  obtain ⟨-, -, -, he, hr⟩ := hH.cell hk (by omega) hv
  obtain ⟨hr2, -, -, -, hr3⟩ := hH.cell hr1 (by omega) hv1
  have he0 := hH.at hk (by omega) hv
  have hAc : ax_A g (am g c) := (ws_D g M).2 (c - 2) (am g c, ent g M c) he
  have he1 := hH.at hr1 (by omega) hv1
  have hK := F.2.2.2.2.2.1.1
  rw [ent_arr hk, cont_A hk ht.1, hn] at he0
  rw [ent_obj hr1 k5] at he1
  rw [List.map_cons, List.map_cons, List.map_cons, cv_A, cv_A, hr, hr3]
  have hlt : i.toNatClampNeg < n := Nat.not_le.mp fun q => hi (Or.inr q)
  have h0 : ¬ i < 0 := fun q => hi (Or.inl q)
  obtain ⟨r', hr', cellV, g1, g2, g3, -⟩ := he1
  have hcls := (hK.1 ci _ k1).2
  have hRA := (hK.2 t _ (tys_at ht.2.1)).2
  rw [ht.2.2] at hRA
  obtain ⟨kA, comp, j1, j2, j3, -⟩ := hRA
  have hcomp : comp = (gD g).1 ci := Option.some.inj (j3.symm.trans hcls.1)
  subst hcomp
  obtain ⟨kC, hkC, -⟩ := hcls.2
  refine W.aast F.1 F.2.1 he0 (fun q h => by cases h) (fun h => by cases h) j1 j2 rfl hkC ⟨h0, by show _ < (arrV _ _ _).slots.size; rw [arrV_size]; exact hlt⟩ g1 (fun q h => by rw [g3] at h; cases h) (by rw [g2]; exact hkC) (by rw [g2]; exact va_assign hcls) rfl rfl (cd hd F.2.2.2.2.2.2.2) fun H1 e1 z oq => ?_
  refine K p e R s m args below meth c0 Q n0 kc ks F hR hN hret H1 _ ls ?_ (hS.put z oq hAc) hl
  refine hH.put hk (by omega) hv rfl (fun a ha => ent_mA ha) (fun a j ha => ⟨rfl, rfl, by rw [gA_mA, if_neg (fun q => ha q.1)]⟩) (fun hl2 hL => ?_) ?_ z oq
  · rcases hly with hly | hly
    · rw [hl2] at hly
      cases hly
    · intro a j y1 y2 y3
      rw [gA_mA]
      split
      next y4 =>
        rw [y4.1, hk, hly] at y3
        cases y3
      next => exact hL a j y1 y2 y3
  · rw [ent_arr hk, cont_A hk ht.1, hn]
    show H1[am g c]? = some (vp_cell _ _)
    rw [e1, vp_cell_q, vp_cell_q, arrV_store]
    congr 2
    funext q
    show updV (fun j => va_rf (ro g (gA M c j))) i.toNatClampNeg (.ref (am g r)) q = va_rf (ro g (gA (mA M c i.toNatClampNeg r) c q))
    rw [gA_mA, rv_ro]
    unfold updV
    by_cases hq : q = i.toNatClampNeg
    · rw [if_pos hq, if_pos ⟨rfl, hq⟩, hr3]
    · rw [if_neg hq, if_neg (fun z => hq z.2)]
      exact rv_ro g (gA M c q)
end AXF
end
section
/-! calls -/
def mlD (Z : ax_Y) (n : Nat) : Prop := yOK Z ∧ (parseMethodDescriptor (yn Z).desc).map (fun d => d.parameters.length) = some n ∧ yl Z ≤ 41
def mlL (own : String) (idx : Nat) (Z : ax_Y) : Prop := Cond.methodLink own idx (yn Z) ∈ WG ∨ ∃ host, Cond.methodLinkNest own idx (yn Z) host ∈ NW
def mlV (own : String) (idx : Nat) (Z : ax_Y) (n : Nat) : Prop := mlD Z n ∧ mlL own idx Z ∧ Cond.instanceMethod (yn Z) ∈ WG ∧ Cond.selects (yn Z).cls (yn Z) (yn Z) ∈ WG
def mlS (own : String) (idx : Nat) (Z : ax_Y) (n : Nat) : Prop := mlD Z n ∧ mlL own idx Z ∧ Cond.static (yn Z) ∈ WG
def mlI (own : String) (idx : Nat) (Z : ax_Y) (n : Nat) : Prop := mlD Z n ∧ mlL own idx Z ∧ Cond.instanceMethod (yn Z) ∈ WG ∧ (yn Z).name = "<init>"
theorem wg_good : ∀ w ∈ WG, (w.onTables && w.keeps) = true ∨ ∃ ty, w = .arrayClass ty := by
  intro w hw
  have h := (List.mem_filter.mp hw).2
  exact wg_ok w h
theorem ax_good {Z : ax_Y} (h : yOK Z) : GoodIn WG (yw Z) := by
  intro w hw
  rcases List.mem_cons.mp hw with rfl | hw
  · exact ⟨h.2.2.1, wg_good _ h.2.2.1⟩
  · exact ⟨hw, wg_good _ hw⟩
section AXC
variable {p : Program} {l : Launch} {e : Env} {R : Room} {s : State} {m : MethodId} {args : Array Value} {below : List Frame} {meth : Method} {c : Code} {H : Heap} {locs : List Loc} {cells slots : Nat} {Q : State → Prop}
theorem ax_after {g : ax_G} {ly : Bool} {res : ax_R} {mc ms pc : Nat} {ls : Array Slot} {rest st0 : List Value} {a : Array Value} (hr : va_Run p l e R s m args below meth c H locs cells slots mc ms (F0 m pc ls st0) rest (Qx g ly res a) (ax_A g)) (hS : va_S (ax_A g) s.heap H locs)
    (kk : ∀ (H1 : Heap) (locs1 : List Loc), hok g ly res.2 H1 → va_S (ax_A g) s.heap H1 locs1 → W p l e R s m args below meth c H1 locs1 (cells + mc) (slots + ms) Q (F0 m (pc + 3) ls ((res.1.map (cv g)).toList ++ rest))) : W p l e R s m args below meth c H locs cells slots Q (F0 m pc ls st0) := by
  intro T hT X
  obtain ⟨v, st₀, t, T', L, h0, X', hL, e1, e2, ⟨hv, hh, hz, hk⟩, st⟩ := hr T hT X
  cases hv
  rw [h0] at hz hk
  obtain ⟨t2, a1, b1⟩ := kk T'.heap (locs ++ L) (by rw [e1]; exact hh) ⟨Nat.le_trans hS.1 (by rw [e1]; exact hz), fun q h1 h2 => by rw [e1, hk q (Nat.lt_of_lt_of_le h1 hS.1) h2]; exact hS.2.1 q h1 h2, fun q hq => by
    rcases List.mem_append.mp hq with h | h
    · exact hS.2.2 q h
    · exact hL q h⟩ T' rfl X'
  exact ⟨t2, st t2 a1, b1⟩
/-- a callee's start, from the caller's heap -/
theorem ax_pre {g : ax_G} {ly : Bool} {M : ax_M} {as : List Value} (hs : sok g s) (hS : va_S (ax_A g) s.heap H locs) (hH : hok g ly M H) : PreS s H (va_Pc as (fun U => sok g U ∧ hok g ly M U.heap)) as := by
  refine ⟨fun a U f mk q => ⟨q.1, q.2.1.calling, q.2.2⟩, fun U hU hW => ⟨rfl, ?_, by rw [hU]; exact hH⟩⟩
  refine hs.warm hW (by rw [hU]; exact Nat.le_trans hs.2.2.2.2.2.1 hS.1) (fun q hq => ?_)
  rw [hU]
  exact hS.2.1 q (Nat.lt_of_lt_of_le hq hs.2.2.2.2.2.1) (Nat.not_le.mpr hq)
end AXC
theorem ax_cats (g : ax_G) : ∀ (st : List ax_V), ((st.map (cv g)).map fun v => v.category).sum = ax_wd st
  | [] => rfl
  | v :: vs => by
    have h := ax_cats g vs
    rw [List.map_cons, List.map_cons, List.sum_cons, h, cv_cat]
    rfl
theorem mono0 {m : MethodId} {pc : Nat} {ls : Array Slot} {st rest : List Value} (h : (rest.map fun v => v.category).sum ≤ 8) : 2 * (F0 m pc ls st).monitorRoom + (rest.map fun v => v.category).sum ≤ 8 := lv_room h
section AXD
variable {l : Launch} {g : ax_G} {ly : Bool} {Y : ax_Y} {d : Nat} {res : ax_R} {pc : Nat} {Ls : List (Nat × ax_V)} {st : List ax_V} {M : ax_M}
theorem ax_K {p : Program} {e : Env} {R : Room} {s : State} {m : MethodId} {args : Array Value} {below : List Frame} {meth : Method} {c : Code} {Q : State → Prop} {n0 kc ks : Nat} {r1 : ax_R} {st' : List ax_V} {H1 : Heap} {locs1 : List Loc} {ls : Array Slot}
    (F : ax_Fix g Y p s m args meth c) (hR : d ≤ R.frames ∧ 60 * d ≤ R.locals) (hN : (ly = true ∨ (n0 ≤ gn M ∧ gn M ≤ gn res.2)) ∧ kc + al ly n0 (gn res.2) ≤ R.cells ∧ ks + al ly (SZ n0) (SZ (gn res.2)) ≤ R.slots)
    (hret : ∀ (H' : Heap) (locs' : List Loc) (ls' : Array Slot) (pc' : Nat), (∃ i, codeAt Y pc' = some (i, 1) ∧ rtOK Y i res.1) → hok g ly res.2 H' → va_S (ax_A g) s.heap H' locs' →
      W p l e R s m args below meth c H' locs' (kc + al ly n0 (gn res.2)) (ks + al ly (SZ n0) (SZ (gn res.2))) Q (F0 m pc' ls' (res.1.map (cv g)).toList))
    (h1 : ly = true ∨ gn M ≤ gn r1.2) (h2 : ly = true ∨ gn r1.2 ≤ gn res.2) (K : AW l g ly Y d res (pc + 3) Ls (r1.1.toList ++ st') r1.2) (hH : hok g ly r1.2 H1) (hS : va_S (ax_A g) s.heap H1 locs1) (hl : lv_has ls (yl Y) (Ls.map (ax_cl g))) :
    W p l e R s m args below meth c H1 locs1 (kc + al ly n0 (gn M) + al ly (gn M) (gn r1.2)) (ks + al ly (SZ n0) (SZ (gn M)) + al ly (SZ (gn M)) (SZ (gn r1.2))) Q (F0 m (pc + 3) ls ((r1.1.map (cv g)).toList ++ st'.map (cv g))) := by
  have hm : ly = true ∨ (n0 ≤ gn M ∧ gn M ≤ gn r1.2) := by
    rcases hN.1 with h | h
    · exact Or.inl h
    · rcases h1 with h1 | h1
      · exact Or.inl h1
      · exact Or.inr ⟨h.1, h1⟩
  have hm2 : ly = true ∨ (SZ n0 ≤ SZ (gn M) ∧ SZ (gn M) ≤ SZ (gn r1.2)) := hm.imp id (fun h => ⟨SZ_mono h.1, SZ_mono h.2⟩)
  rw [Nat.add_assoc, al_add hm, Nat.add_assoc, al_add hm2]
  have h9 := K p e R s m args below meth c Q n0 kc ks F hR ⟨?_, hN.2⟩ hret H1 locs1 ls hH hS hl
  · have h8 : (r1.1.toList ++ st').map (cv g) = (r1.1.map (cv g)).toList ++ st'.map (cv g) := by
      rw [List.map_append]
      cases r1.1 <;> rfl
    rw [h8] at h9
    exact h9
  · rcases hm with h | h
    · exact Or.inl h
    · rcases h2 with h2 | h2
      · exact Or.inl h2
      · exact Or.inr ⟨Nat.le_trans h.1 h.2, h2⟩
theorem ax_room {R : Room} {n0 kc ks : Nat} {r1 : ax_R} (hN : (ly = true ∨ (n0 ≤ gn M ∧ gn M ≤ gn res.2)) ∧ kc + al ly n0 (gn res.2) ≤ R.cells ∧ ks + al ly (SZ n0) (SZ (gn res.2)) ≤ R.slots) (h1 : ly = true ∨ gn M ≤ gn r1.2) (h2 : ly = true ∨ gn r1.2 ≤ gn res.2) :
    kc + al ly n0 (gn M) + al ly (gn M) (gn r1.2) ≤ R.cells ∧ ks + al ly (SZ n0) (SZ (gn M)) + al ly (SZ (gn M)) (SZ (gn r1.2)) ≤ R.slots := by
  have hm : ly = true ∨ (n0 ≤ gn M ∧ gn M ≤ gn r1.2) := by
    rcases hN.1 with h | h
    · exact Or.inl h
    · rcases h1 with h1 | h1
      · exact Or.inl h1
      · exact Or.inr ⟨h.1, h1⟩
  have hm2 : ly = true ∨ (SZ n0 ≤ SZ (gn M) ∧ SZ (gn M) ≤ SZ (gn r1.2)) := hm.imp id (fun h => ⟨SZ_mono h.1, SZ_mono h.2⟩)
  rw [Nat.add_assoc, al_add hm, Nat.add_assoc, al_add hm2]
  have a1 : al ly n0 (gn r1.2) ≤ al ly n0 (gn res.2) := al_le h2
  have a2 : al ly (SZ n0) (SZ (gn r1.2)) ≤ al ly (SZ n0) (SZ (gn res.2)) := al_le (h2.imp id SZ_mono)
  exact ⟨by omega, by omega⟩
theorem ax_rm {R : Room} {d' : Nat} {Z : ax_Y} {a b : Nat} (hR : d ≤ R.frames ∧ 60 * d ≤ R.locals) (hd : d' + 1 ≤ d) (hy : yl Z ≤ 41) : (rmx d' a b).frames + 1 ≤ R.frames ∧ 8 + (yl Z + 11) + (rmx d' a b).locals ≤ R.locals := by
  refine ⟨?_, ?_⟩
  · show d' + 1 ≤ R.frames
    omega
  · show 8 + (yl Z + 11) + 60 * d' ≤ R.locals
    omega
theorem A_callV {idx n ci r d' N : Nat} {Z : ax_Y} {T : u_T} {as st' : List ax_V} {r1 : ax_R} (hd : codeAt Y pc = some (.invokevirtual idx, 3)) (hm : mlV (yn Y).cls idx Z n) (hc : classes[ci]? = some ((yn Z).cls, T, N)) (hci : ci < 100) (hk : kd r = ci) (hv : live ly M r) (hlen : as.length = n) (hst : st = as.reverse ++ vA r :: st') (hcat : ax_wd st' ≤ 8) (hd' : d' + 1 ≤ d)
    (hC : Ctr l g ly Z d' (vA r :: as) M r1) (hge : ly = true ∨ gn r1.2 ≤ gn res.2) (K : AW l g ly Y d res (pc + 3) Ls (r1.1.toList ++ st') r1.2) : AW l g ly Y d res pc Ls st M := by
  intro p e R s m args below meth c0 Q n0 kc ks F hR hN hret H locs ls hH hS hl
  obtain ⟨⟨hZ, hdesc, hyl⟩, hlk, hin, hsel⟩ := hm
  obtain ⟨hC1, hM⟩ := hC
  have hs := F.2.2.2.2.2.1
  have hts := F.2.2.2.2.1
  obtain ⟨-, -, -, he, hrv⟩ := hH.cell hk (by omega) hv
  rw [ent_obj hk hci] at he
  have hrecv := va_recv hs.1 hH.1 hc he
  have hpre := ax_pre (as := (vA r :: as).map (cv g)) hs hS hH
  have hrm := ax_rm (a := al ly (gn M) (gn r1.2)) (b := al ly (SZ (gn M)) (SZ (gn r1.2))) hR hd' hyl
  have hf := ax_room (r1 := r1) hN hC1 hge
  subst hst
  have hstk : (as.reverse ++ vA r :: st').map (cv g) = (as.map (cv g)).reverse ++ .ref (am g r) :: st'.map (cv g) := by
    rw [List.map_append, List.map_reverse, List.map_cons, cv_A, hrv]
  have hargs : (vA r :: as).map (cv g) = .ref (am g r) :: as.map (cv g) := by rw [List.map_cons, cv_A, hrv]
  rw [hargs] at hM hpre
  have hpv : PreV s H (yn Z).cls (am g r) (va_Pc (.ref (am g r) :: as.map (cv g)) (fun U => sok g U ∧ hok g ly M U.heap)) (as.map (cv g)) := ⟨hpre.1, hrecv, hpre.2⟩
  have hdd : (yn Z).cls ≠ "java/lang/invoke/MethodHandle" ∧ (yn Z).cls ≠ "java/lang/invoke/VarHandle" ∧ (parseMethodDescriptor (yn Z).desc).map (fun d => d.parameters.length) = some n := ⟨hZ.2.2.2.2.1, hZ.2.2.2.2.2, hdesc⟩
  have hrun : va_Run p l e R s m args below meth c0 H locs (kc + al ly n0 (gn M)) (ks + al ly (SZ n0) (SZ (gn M))) (al ly (gn M) (gn r1.2)) (al ly (SZ (gn M)) (SZ (gn r1.2))) (F0 m pc ls ((as.reverse ++ vA r :: st').map (cv g))) (st'.map (cv g)) (Qx g ly r1 (Value.ref (am g r) :: as.map (cv g)).toArray) (ax_A g) := by
    rcases hlk with hlk | ⟨host, hlk⟩
    · exact va_runV (As := as.map (cv g)) (rest := st'.map (cv g)) ⟨F.1, F.2.1, F.2.2.1, F.2.2.2.1, hts⟩ hM ⟨callB_of n hts (ax_good hZ) rfl rfl rfl (hts _ hZ.2.2.2.1) (hts _ hlk) hdd hrm, hts _ hin, hts _ hsel⟩ hpv rfl (by rw [List.length_map]; exact hlen) hl.1 hstk (mono0 (by rw [ax_cats]; exact hcat)) (cd hd F.2.2.2.2.2.2.2) hf
    · exact va_runVN (As := as.map (cv g)) (rest := st'.map (cv g)) ⟨F.1, F.2.1, F.2.2.1, F.2.2.2.1, hts⟩ hM ⟨va_cnB n hts (ax_good hZ) rfl rfl rfl (hs.2.1 _ hlk) (hts _ hZ.2.2.2.1) hdd hrm, hts _ hin, hts _ hsel⟩ hpv rfl (by rw [List.length_map]; exact hlen) hl.1 hstk (mono0 (by rw [ax_cats]; exact hcat)) (cd hd F.2.2.2.2.2.2.2) hf
  exact ax_after hrun hS (fun H1 locs1 hH1 hS1 => ax_K F hR hN hret hC1 hge K hH1 hS1 hl)
theorem A_callS {idx n d' : Nat} {Z : ax_Y} {as st' : List ax_V} {r1 : ax_R} (hd : codeAt Y pc = some (.invokestatic idx, 3)) (hm : mlS (yn Y).cls idx Z n) (hlen : as.length = n) (hst : st = as.reverse ++ st') (hcat : ax_wd st' ≤ 8) (hd' : d' + 1 ≤ d)
    (hC : Ctr l g ly Z d' as M r1) (hge : ly = true ∨ gn r1.2 ≤ gn res.2) (K : AW l g ly Y d res (pc + 3) Ls (r1.1.toList ++ st') r1.2) : AW l g ly Y d res pc Ls st M := by
  intro p e R s m args below meth c0 Q n0 kc ks F hR hN hret H locs ls hH hS hl
  obtain ⟨⟨hZ, hdesc, hyl⟩, hlk, hst2⟩ := hm
  obtain ⟨hC1, hM⟩ := hC
  have hs := F.2.2.2.2.2.1
  have hts := F.2.2.2.2.1
  have hpre := ax_pre (as := as.map (cv g)) hs hS hH
  have hrm := ax_rm (a := al ly (gn M) (gn r1.2)) (b := al ly (SZ (gn M)) (SZ (gn r1.2))) hR hd' hyl
  have hf := ax_room (r1 := r1) hN hC1 hge
  subst hst
  have hstk : (as.reverse ++ st').map (cv g) = (as.map (cv g)).reverse ++ st'.map (cv g) := by
    rw [List.map_append, List.map_reverse]
  have hdd : (yn Z).cls ≠ "java/lang/invoke/MethodHandle" ∧ (yn Z).cls ≠ "java/lang/invoke/VarHandle" ∧ (parseMethodDescriptor (yn Z).desc).map (fun d => d.parameters.length) = some n := ⟨hZ.2.2.2.2.1, hZ.2.2.2.2.2, hdesc⟩
  have hrun : va_Run p l e R s m args below meth c0 H locs (kc + al ly n0 (gn M)) (ks + al ly (SZ n0) (SZ (gn M))) (al ly (gn M) (gn r1.2)) (al ly (SZ (gn M)) (SZ (gn r1.2))) (F0 m pc ls ((as.reverse ++ st').map (cv g))) (st'.map (cv g)) (Qx g ly r1 (as.map (cv g)).toArray) (ax_A g) := by
    rcases hlk with hlk | ⟨host, hlk⟩
    · exact va_runS (As := as.map (cv g)) (rest := st'.map (cv g)) ⟨F.1, F.2.1, F.2.2.1, F.2.2.2.1, hts⟩ hM ⟨callB_of n hts (ax_good hZ) rfl rfl rfl (hts _ hZ.2.2.2.1) (hts _ hlk) hdd hrm, hts _ hst2⟩ hpre rfl (by rw [List.length_map]; exact hlen) hl.1 hstk (mono0 (by rw [ax_cats]; exact hcat)) (cd hd F.2.2.2.2.2.2.2) hf
    · exact va_runSN (As := as.map (cv g)) (rest := st'.map (cv g)) ⟨F.1, F.2.1, F.2.2.1, F.2.2.2.1, hts⟩ hM ⟨va_cnB n hts (ax_good hZ) rfl rfl rfl (hs.2.1 _ hlk) (hts _ hZ.2.2.2.1) hdd hrm, hts _ hst2, trivial⟩ hpre rfl (by rw [List.length_map]; exact hlen) hl.1 hstk (mono0 (by rw [ax_cats]; exact hcat)) (cd hd F.2.2.2.2.2.2.2) hf
  exact ax_after hrun hS (fun H1 locs1 hH1 hS1 => ax_K F hR hN hret hC1 hge K hH1 hS1 hl)
theorem A_callI {idx n r d' : Nat} {Z : ax_Y} {as st' : List ax_V} {r1 : ax_R} (hd : codeAt Y pc = some (.invokespecial idx, 3)) (hm : mlI (yn Y).cls idx Z n) (hr0 : ¬ r = 0) (hret0 : yr Z = none) (hlen : as.length = n) (hst : st = as.reverse ++ vA r :: st') (hcat : ax_wd st' ≤ 8) (hd' : d' + 1 ≤ d)
    (hC : Ctr l g ly Z d' (vA r :: as) M r1) (hge : ly = true ∨ gn r1.2 ≤ gn res.2) (K : AW l g ly Y d res (pc + 3) Ls (r1.1.toList ++ st') r1.2) : AW l g ly Y d res pc Ls st M := by
  intro p e R s m args below meth c0 Q n0 kc ks F hR hN hret H locs ls hH hS hl
  obtain ⟨⟨hZ, hdesc, hyl⟩, hlk, hin, hini⟩ := hm
  obtain ⟨hC1, hM⟩ := hC
  have hs := F.2.2.2.2.2.1
  have hts := F.2.2.2.2.1
  have hrv : rv g r = .ref (am g r) := rv_pos hr0
  have hpre := ax_pre (as := (vA r :: as).map (cv g)) hs hS hH
  have hrm := ax_rm (a := al ly (gn M) (gn r1.2)) (b := al ly (SZ (gn M)) (SZ (gn r1.2))) hR hd' hyl
  have hf := ax_room (r1 := r1) hN hC1 hge
  subst hst
  have hstk : (as.reverse ++ vA r :: st').map (cv g) = (as.map (cv g)).reverse ++ .ref (am g r) :: st'.map (cv g) := by
    rw [List.map_append, List.map_reverse, List.map_cons, cv_A, hrv]
  have hargs : (vA r :: as).map (cv g) = .ref (am g r) :: as.map (cv g) := by rw [List.map_cons, cv_A, hrv]
  rw [hargs] at hM hpre
  have hdd : (yn Z).cls ≠ "java/lang/invoke/MethodHandle" ∧ (yn Z).cls ≠ "java/lang/invoke/VarHandle" ∧ (parseMethodDescriptor (yn Z).desc).map (fun d => d.parameters.length) = some n := ⟨hZ.2.2.2.2.1, hZ.2.2.2.2.2, hdesc⟩
  have hyw : yw Z = Cond.code (yn Z) (yb Z) (yl Z) none :: WG := by unfold yw; rw [hret0]
  have hrun : va_Run p l e R s m args below meth c0 H locs (kc + al ly n0 (gn M)) (ks + al ly (SZ n0) (SZ (gn M))) (al ly (gn M) (gn r1.2)) (al ly (SZ (gn M)) (SZ (gn r1.2))) (F0 m pc ls ((as.reverse ++ vA r :: st').map (cv g))) (st'.map (cv g)) (Qx g ly r1 (Value.ref (am g r) :: as.map (cv g)).toArray) (ax_A g) := by
    rcases hlk with hlk | ⟨host, hlk⟩
    · exact va_runI (As := as.map (cv g)) (rest := st'.map (cv g)) ⟨F.1, F.2.1, F.2.2.1, F.2.2.2.1, hts⟩ hM ⟨callB_of n hts (ax_good hZ) hyw rfl rfl (hts _ hZ.2.2.2.1) (hts _ hlk) hdd hrm, hini, hts _ hin⟩ hpre rfl (by rw [List.length_map]; exact hlen) hl.1 hstk (mono0 (by rw [ax_cats]; exact hcat)) (cd hd F.2.2.2.2.2.2.2) hf
    · exact va_runIN (As := as.map (cv g)) (rest := st'.map (cv g)) ⟨F.1, F.2.1, F.2.2.1, F.2.2.2.1, hts⟩ hM ⟨va_cnB n hts (ax_good hZ) hyw rfl rfl (hs.2.1 _ hlk) (hts _ hZ.2.2.2.1) hdd hrm, hini, hts _ hin⟩ hpre rfl (by rw [List.length_map]; exact hlen) hl.1 hstk (mono0 (by rw [ax_cats]; exact hcat)) (cd hd F.2.2.2.2.2.2.2) hf
  exact ax_after hrun hS (fun H1 locs1 hH1 hS1 => ax_K F hR hN hret hC1 hge K hH1 hS1 hl)
theorem A_objInit {idx r : Nat} (hd : codeAt Y pc = some (.invokespecial idx, 3)) (h1 : Cond.methodLink (yn Y).cls idx Lib.objectInit ∈ WG) (h2 : Cond.instanceMethod Lib.objectInit ∈ WG) (h3 : Cond.code Lib.objectInit ⟨#[0xb1]⟩ 1 none ∈ WG) (hr0 : ¬ r = 0) (hd0 : 1 ≤ d) (hcat : ax_wd st ≤ 8) (K : AW l g ly Y d res (pc + 3) Ls st M) : AW l g ly Y d res pc Ls (vA r :: st) M := by
  intro p e R s m args below meth c0 Q n0 kc ks F hR hN hret H locs ls hH hS hl
  have hts := F.2.2.2.2.1
  rw [List.map_cons, cv_A, rv_pos hr0]
  refine W.objInit F.1 F.2.1 F.2.2.2.1 (hts _ h1) (hts _ h2) (hts _ h3) rfl (by rw [F.2.2.1]; exact hl.1) rfl (cd hd F.2.2.2.2.2.2.2) (by omega) ?_ (K p e R s m args below meth c0 Q n0 kc ks F hR hN hret H locs ls hH hS hl)
  have h4 : 2 * (F0 m pc ls (Value.ref (am g r) :: st.map (cv g))).monitorRoom + ((st.map (cv g)).map fun v => v.category).sum ≤ 8 := mono0 (by rw [ax_cats]; exact hcat)
  omega
end AXD
/-! new cells -/
theorem ent_mS {g : ax_G} {M : ax_M} (a : Nat) : ent g (mS M) a = ent g M a := ent_other (fun _ => rfl) (fun _ => rfl) (fun _ => rfl)
theorem ws_mS (g : ax_G) (M : ax_M) : WS g (mS M) = WS g M ++ [(gb g + gn M, ent g M (gn M + 2))] := by
  unfold WS
  show (List.range (gn M + 1)).map _ = _
  rw [List.range_succ, List.map_append]
  congr 1
theorem hok.grow {g : ax_G} {M : ax_M} {H H1 : Heap} (h : hok g false M H) (hn : gn M < NT) (hat : va_at (gD g) classes (gb g + gn M, ent g M (gn M + 2)) H1) (hs : H1.size = H.size + 1) (oq : ∀ q, q < H.size → H1[q]? = H[q]?) : hok g false (mS M) H1 := by
  refine ⟨?_, ?_, ?_, fun a k ha => ?_, fun q => by cases q⟩
  · rw [ws_mS]
    refine va_P.app (h.1.kept fun k q hk => oq q.1 ((h.1 k q hk).lt)) (fun k q hk => ?_)
    have hz : k < 1 := (List.getElem?_eq_some_iff.mp hk).1
    rw [show k = 0 by omega] at hk
    cases hk
    exact hat
  · rw [hs, h.2.1]
    rfl
  · exact hn
  · exact h.2.2.2.1 a k (by have : gn (mS M) = gn M + 1 := rfl; omega)
theorem fv_new {g : ax_G} {ly : Bool} {M : ax_M} {H : Heap} (h : hok g ly M H) {ci k : Nat} (hk : kd (gn M + 2) = ci) : fv g M (gn M + 2) k = if FTC ci k = 1 then .long 0 else if FTC ci k = 2 then .null else .int 0 := by
  obtain ⟨h1, h2, h3⟩ := h.2.2.2.1 (gn M + 2) k (Nat.le_refl _)
  unfold fv
  rw [hk, h1, h2, h3, rv_0]
section AXN
variable {l : Launch} {g : ax_G} {Y : ax_Y} {d : Nat} {res : ax_R} {pc : Nat} {Ls : List (Nat × ax_V)} {st : List ax_V} {M : ax_M}
theorem al_s {a b : Nat} (h : a ≤ b) : al false a (b + 1) = al false a b + 1 := by
  show b + 1 - a = b - a + 1
  omega
theorem ax_new {p : Program} {e : Env} {R : Room} {s : State} {m : MethodId} {args : Array Value} {below : List Frame} {meth : Method} {c : Code} {Q : State → Prop} {n0 kc ks k : Nat} {H1 : Heap} {locs : List Loc} {ls : Array Slot}
    (F : ax_Fix g Y p s m args meth c) (hR : d ≤ R.frames ∧ 60 * d ≤ R.locals) (hN : (false = true ∨ (n0 ≤ gn M ∧ gn M ≤ gn res.2)) ∧ kc + al false n0 (gn res.2) ≤ R.cells ∧ ks + al false (SZ n0) (SZ (gn res.2)) ≤ R.slots)
    (hret : ∀ (H' : Heap) (locs' : List Loc) (ls' : Array Slot) (pc' : Nat), (∃ i, codeAt Y pc' = some (i, 1) ∧ rtOK Y i res.1) → hok g false res.2 H' → va_S (ax_A g) s.heap H' locs' →
      W p l e R s m args below meth c H' locs' (kc + al false n0 (gn res.2)) (ks + al false (SZ n0) (SZ (gn res.2))) Q (F0 m pc' ls' (res.1.map (cv g)).toList))
    (hle : gn M + 1 ≤ gn res.2) (hnt : gn M < NT) (hk : ln (gn M + 2) = k) {n : Nat} (K : AW l g false Y d res (pc + n) Ls (vA (gn M + 2) :: st) (mS M)) (hH : hok g false (mS M) H1) (hS : va_S (ax_A g) s.heap H1 locs) (hl : lv_has ls (yl Y) (Ls.map (ax_cl g))) :
    W p l e R s m args below meth c H1 locs (kc + al false n0 (gn M) + 1) (ks + al false (SZ n0) (SZ (gn M)) + k) Q (F0 m (pc + n) ls (.ref (gb g + gn M) :: st.map (cv g))) := by
  rcases hN.1 with hb | hb
  · cases hb
  have h9 := K p e R s m args below meth c Q n0 kc ks F hR ⟨Or.inr ⟨Nat.le_succ_of_le hb.1, hle⟩, hN.2⟩ hret H1 locs ls hH hS hl
  have e1 : al false n0 (gn (mS M)) = al false n0 (gn M) + 1 := al_s hb.1
  have hm := SZ_mono hb.1
  have e2 : al false (SZ n0) (SZ (gn (mS M))) = al false (SZ n0) (SZ (gn M)) + k := by
    show SZ (gn M + 1) - SZ n0 = SZ (gn M) - SZ n0 + k
    rw [SZ_succ hnt, hk]
    omega
  have h3 : NT + 2 ≤ 1000 := nt_small
  have e3 : cv g (vA (gn M + 2)) = .ref (gb g + gn M) := by
    rw [cv_A, rv_pos (by omega), am_cell (by omega) (by omega)]
    rfl
  rw [e1, e2, List.map_cons, e3, ← Nat.add_assoc, ← Nat.add_assoc] at h9
  exact h9
theorem ax_newR {R : Room} {n0 kc ks k : Nat} (hN : (false = true ∨ (n0 ≤ gn M ∧ gn M ≤ gn res.2)) ∧ kc + al false n0 (gn res.2) ≤ R.cells ∧ ks + al false (SZ n0) (SZ (gn res.2)) ≤ R.slots) (hle : gn M + 1 ≤ gn res.2) (hnt : gn M < NT) (hk : ln (gn M + 2) = k) : kc + al false n0 (gn M) + 1 ≤ R.cells ∧ ks + al false (SZ n0) (SZ (gn M)) + k ≤ R.slots := by
  rcases hN.1 with hb | hb
  · cases hb
  have h1 : al false n0 (gn res.2) = gn res.2 - n0 := rfl
  have h2 : al false n0 (gn M) = gn M - n0 := rfl
  have h3 : al false (SZ n0) (SZ (gn res.2)) = SZ (gn res.2) - SZ n0 := rfl
  have h4 : al false (SZ n0) (SZ (gn M)) = SZ (gn M) - SZ n0 := rfl
  have h5 := SZ_mono hle
  rw [SZ_succ hnt, hk] at h5
  have h6 := SZ_mono hb.1
  have h7 := hN.2
  rw [h1, h3] at h7
  rw [h2, h4]
  omega
theorem va_S.grow {A : Nat → Prop} {H0 H H1 : Heap} {locs : List Loc} (hS : va_S A H0 H locs) (hs : H1.size = H.size + 1) (oq : ∀ q, q < H.size → H1[q]? = H[q]?) : va_S A H0 H1 locs :=
  ⟨Nat.le_trans hS.1 (by omega), fun x h1 h2 => (oq x (Nat.lt_of_lt_of_le h1 hS.1)).trans (hS.2.1 x h1 h2), hS.2.2⟩
theorem A_new {idx ci N : Nat} {C : String} {T : u_T} (hd : codeAt Y pc = some (.new idx, 3)) (hc : clsOK ci C T N) (hw1 : Cond.classLink (yn Y).cls idx C ∈ WG) (hw2 : Cond.instantiable C N ∈ WG) (hw3 : Cond.initialized C ∈ WG) (hdef : ∀ j, j < N → defaultValue (FTY ci j) = if FTC ci j = 1 then .long 0 else if FTC ci j = 2 then .null else .int 0)
    (hk : kd (gn M + 2) = ci) (hle : gn M + 1 ≤ gn res.2) (K : AW l g false Y d res (pc + 3) Ls (vA (gn M + 2) :: st) (mS M)) : AW l g false Y d res pc Ls st M := by
  intro p e R s m args below meth c0 Q n0 kc ks F hR hN hret H locs ls hH hS hl
  obtain ⟨k1, k2, k3, k4, k5, k6⟩ := hc
  have hts := F.2.2.2.2.1
  have hs := F.2.2.2.2.2.1
  have hnt : gn M < NT := by
    have := (kd_lt hk (by omega)).2
    omega
  have hln : ln (gn M + 2) = N := k6 _ hk
  have hrm := ax_newR (res := res) hN hle hnt hln
  have hKn := hs.1.1 ci _ k1
  refine W.newcK F.1 F.2.1 F.2.2.2.1 (hts _ hw1) (hts _ hw2) (hts _ hw3) rfl (cd hd F.2.2.2.2.2.2.2) hrm.1 hrm.2 hKn.2.1 hH.2.1 fun H1 kC hkC e1 z1 o1 => ?_
  have o2 : ∀ q, q < H.size → H1[q]? = H[q]? := fun q hq => o1 q (by rw [← hH.2.1]; exact hq)
  have z2 : H1.size = H.size + 1 := by rw [z1, hH.2.1]
  refine ax_new (n := 3) F hR hN hret hle hnt hln K (hH.grow hnt ?_ z2 o2) (hS.grow z2 o2) hl
  rw [ent_obj hk k5, hln]
  refine ⟨_, k1, (u_born (FTY ci) hts k2 hKn hkC e1 k3).to fun j hj => ?_⟩
  rw [hdef j hj, ← fv_new hH hk]
  unfold vp_V
  rw [List.getD_eq_getElem?_getD, fs_at hj]
  rfl
theorem A_newa {t n : Nat} {a : ArrayType} {ty : FieldType} {i : Int32} (hd : codeAt Y pc = some (.newarray a, 2)) (hty : newarray.typeOf a = ty) (hw : Cond.arrayClass ty ∈ WG) (ht : t < 4 ∧ ATS.getD t .int = ty ∧ t < ATS.length) (hk : kd (gn M + 2) = 100 + t) (hn : ln (gn M + 2) = n) (hi : i.toNatClampNeg = n ∧ ¬ i < 0 ∧ n * componentBytes ty ≤ 536870912)
    (hdv : defaultValue ty = if t = 1 then .long 0 else .int 0) (hra : ∀ (U : State) (cA : ClassId), va_RA U cA ty → U.vm.findClass ("[" ++ ty.toString) = some cA) (hle : gn M + 1 ≤ gn res.2) (K : AW l g false Y d res (pc + 2) Ls (vA (gn M + 2) :: st) (mS M)) : AW l g false Y d res pc Ls (vI i :: st) M := by
  intro p e R s m args below meth c0 Q n0 kc ks F hR hN hret H locs ls hH hS hl
  subst hty
  have hts := F.2.2.2.2.1
  have hs := F.2.2.2.2.2.1
  have hnt : gn M < NT := by
    have := (kd_lt hk (by omega)).2
    omega
  have hrm := ax_newR (res := res) hN hle hnt hn
  refine va_newaK F.1 F.2.1 (hts _ hw) rfl (cd hd F.2.2.2.2.2.2.2) rfl hi.2.1 hi.1 hi.2.2 hrm.1 hrm.2 hH.2.1 fun H1 cA e1 z1 o1 hAr hNm => ?_
  have o2 : ∀ q, q < H.size → H1[q]? = H[q]? := fun q hq => o1 q (by rw [← hH.2.1]; exact hq)
  have z2 : H1.size = H.size + 1 := by rw [z1, hH.2.1]
  refine ax_new (n := 2) F hR hN hret hle hnt hn K (hH.grow hnt ?_ z2 o2) (hS.grow z2 o2) hl
  have h5 := (hs.1.2 t _ (tys_at ht.2.2)).2
  rw [ht.2.1] at h5
  have hcA : cA = gdA g t := Option.some.inj (hNm.symm.trans (hra _ _ h5))
  have hz := hH.2.2.2.1 (gn M + 2)
  rw [ent_arr hk, hn]
  show H1[gb g + gn M]? = some (vp_cell _ _)
  rw [e1, hdv, hcA]
  by_cases h1 : t = 1
  · subst h1
    rw [cont_J hk, vp_cell_l, if_pos rfl]
    congr 2
    funext j
    rw [(hz j (Nat.le_refl _)).2.1]
  · rw [cont_I (by omega), vp_cell_i, if_neg h1]
    congr 2
    funext j
    rw [(hz j (Nat.le_refl _)).1]
theorem A_anew {t n idx : Nat} {C : String} {i : Int32} (hd : codeAt Y pc = some (.anewarray idx, 3)) (hw : Cond.classLink (yn Y).cls idx C ∈ WG) (hAO : C ∈ AON) (ht : 4 ≤ t ∧ t < ATS.length ∧ ATS.getD t .int = .object C) (hk : kd (gn M + 2) = 100 + t) (hn : ln (gn M + 2) = n) (hi : i.toNatClampNeg = n ∧ ¬ i < 0 ∧ n * 4 ≤ 536870912)
    (hle : gn M + 1 ≤ gn res.2) (K : AW l g false Y d res (pc + 3) Ls (vA (gn M + 2) :: st) (mS M)) : AW l g false Y d res pc Ls (vI i :: st) M := by
  intro p e R s m args below meth c0 Q n0 kc ks F hR hN hret H locs ls hH hS hl
  have hts := F.2.2.2.2.1
  have hs := F.2.2.2.2.2.1
  have h9 : ATS.length < 800 := ats_small
  have hnt : gn M < NT := by
    have := (kd_lt hk (by omega)).2
    omega
  have hrm := ax_newR (res := res) hN hle hnt hn
  obtain ⟨hi1, hi2, hi3⟩ := hi
  subst hi1
  refine W.anew F.1 F.2.1 F.2.2.2.1 (hts _ hw) (va_AO.use (hs.2.2.2.2.2.2.2 C hAO)) rfl (cd hd F.2.2.2.2.2.2.2) rfl hi2 hi3 hrm.1 hrm.2 fun cA kA comp f1 f2 f3 f4 => ?_
  generalize hH1 : H.push ({ cls := cA, slots := Array.replicate i.toNatClampNeg .null, vm := .none } : Cell) = H1
  have z2 : H1.size = H.size + 1 := by rw [← hH1, Array.size_push]
  have e1 : H1[H.size]? = some (arrV cA i.toNatClampNeg (fun _ => .null)) := by rw [← hH1, Array.getElem?_push_size, ← arrV_new]
  have o2 : ∀ q : Nat, q < H.size → H1[q]? = H[q]? := fun q hq => by rw [← hH1, Array.getElem?_push, if_neg (Nat.ne_of_lt hq)]
  rw [hH.2.1] at e1
  have h8 := ax_new (n := 3) F hR hN hret hle hnt hn K (H1 := H1) (locs := locs) (ls := ls) (hH.grow hnt ?_ z2 o2) (hS.grow z2 o2) hl
  · rw [hH.2.1]
    exact h8
  · have h5 := (hs.1.2 t _ (tys_at ht.2.1)).2
    rw [ht.2.2] at h5
    obtain ⟨kA2, comp2, -, -, -, j4⟩ := h5
    have hcA : cA = gdA g t := Option.some.inj (f1.symm.trans j4)
    have hz := hH.2.2.2.1 (gn M + 2)
    rw [ent_arr hk, hn, cont_A hk ht.1]
    show H1[gb g + gn M]? = some (vp_cell _ _)
    rw [e1, hcA, vp_cell_q]
    congr 2
    funext j
    rw [(hz j (Nat.le_refl _)).2.2]
    rfl
end AXN
end
section
/-! Words for functions that follow the code, and facts of classes and cells. Printed by gen_facts.py. -/
def kM {α β : Type} (a : α) (f : α → Option β) : Option β := f a
theorem kM_out {α β : Type} {a : α} {f : α → Option β} {r : Option β} (h : kM a f = r) : ∃ b, a = b ∧ f b = r := ⟨a, rfl, h⟩
def bnd {α β : Type} (o : Option (α × ax_M)) (f : α → ax_M → Option β) : Option β := match o with
  | some q => f q.1 q.2
  | none => none
theorem bnd_out {α β : Type} {o : Option (α × ax_M)} {f : α → ax_M → Option β} {r : β} (h : bnd o f = some r) : ∃ a m, o = some (a, m) ∧ f a m = some r := by
  cases o with
  | none => cases h
  | some q => exact ⟨q.1, q.2, rfl, h⟩
def gk {β : Type} (r K : Nat) (x : Option β) : Option β := if kd r = K then x else none
theorem gk_out {β : Type} {r K : Nat} {x : Option β} {b : β} (h : gk r K x = some b) : kd r = K ∧ x = some b := by
  unfold gk at h
  split at h
  next hk => exact ⟨hk, h⟩
  next => cases h
def gl {β : Type} (M : ax_M) (r : Nat) (x : Option β) : Option β := if r < gn M + 2 then x else none
theorem gl_out {β : Type} {M : ax_M} {r : Nat} {x : Option β} {b : β} (h : gl M r x = some b) : r < gn M + 2 ∧ x = some b := by
  unfold gl at h
  split at h
  next hk => exact ⟨hk, h⟩
  next => cases h
def gi {β : Type} (i : Int32) (n : Nat) (x : Option β) : Option β := if i < 0 ∨ n ≤ i.toNatClampNeg then none else x
theorem gi_out {β : Type} {i : Int32} {n : Nat} {x : Option β} {b : β} (h : gi i n x = some b) : vp_in i n ∧ x = some b := by
  unfold gi at h
  split at h
  next => cases h
  next hk => exact ⟨hk, h⟩
def gz {β : Type} (y : Int64) (x : Option β) : Option β := if y = 0 then none else x
theorem gz_out {β : Type} {y : Int64} {x : Option β} {b : β} (h : gz y x = some b) : ¬ y = 0 ∧ x = some b := by
  unfold gz at h
  split at h
  next => cases h
  next hk => exact ⟨hk, h⟩
def gzi {β : Type} (y : Int32) (x : Option β) : Option β := if y = 0 then none else x
theorem gzi_out {β : Type} {y : Int32} {x : Option β} {b : β} (h : gzi y x = some b) : ¬ y = 0 ∧ x = some b := by
  unfold gzi at h
  split at h
  next => cases h
  next hk => exact ⟨hk, h⟩
theorem nb_of {x : Int32} (h : x = 0 ∨ x = 1) : narrow .boolean (.int x) = .int x := by
  rcases h with rfl | rfl <;> rfl
def g2 {β : Type} (y : Int32) (x : Option β) : Option β := if y = 0 ∨ y = 1 then x else none
theorem g2_out {β : Type} {y : Int32} {x : Option β} {b : β} (h : g2 y x = some b) : (y = 0 ∨ y = 1) ∧ x = some b := by
  unfold g2 at h
  split at h
  next hk => exact ⟨hk, h⟩
  next => cases h
def gc {β : Type} (y : Int32) (x : Option β) : Option β := if narrow .char (.int y) = .int y then x else none
theorem gc_out {β : Type} {y : Int32} {x : Option β} {b : β} (h : gc y x = some b) : narrow .char (.int y) = .int y ∧ x = some b := by
  unfold gc at h
  split at h
  next hk => exact ⟨hk, h⟩
  next => cases h
def ge {β : Type} (a b : Nat) (x : Option β) : Option β := if a = b then x else none
theorem ge_out {β : Type} {a c : Nat} {x : Option β} {b : β} (h : ge a c x = some b) : a = c ∧ x = some b := by
  unfold ge at h
  split at h
  next hk => exact ⟨hk, h⟩
  next => cases h
theorem leaf {α : Type} {a c : α} {b m : ax_M} (h : (some (a, b) : Option (α × ax_M)) = some (c, m)) : a = c ∧ b = m := by
  cases h
  exact ⟨rfl, rfl⟩
theorem vin_lt {i : Int32} {n : Nat} (h : vp_in i n) : i.toNatClampNeg < n := Nat.not_le.mp fun q => h (Or.inr q)
theorem iiN {n : Int} {k : Int32} (h : Int32.ofInt n = k) (x : Int32) : x + Int32.ofInt n = x + k := by rw [h]
theorem ne_i {x v : Int32} {k : Int} (h : ¬ x = v) (hv : v.toInt = k) : x.toInt ≠ k := fun e => h (Int32.toInt_inj.mp (e.trans hv.symm))
theorem fa_nil {p : Int → Prop} : ∀ v ∈ ([] : List Int), p v := fun _ h => absurd h List.not_mem_nil
theorem fa_cons {p : Int → Prop} {a : Int} {l : List Int} (h : p a) (t : ∀ v ∈ l, p v) : ∀ v ∈ a :: l, p v := List.forall_mem_cons.mpr ⟨h, t⟩
theorem lk_def : ∀ (ps : List (Int × Int)) (dflt k : Int), (∀ v ∈ ps.map (·.1), k ≠ v) → Op.lookupswitch.offset ps dflt k = dflt
  | [], _, _, _ => rfl
  | (a, o) :: r, dflt, k, h => by
    rw [Op.lookupswitch.offset_cons, if_neg (fun e => h a (by simp) e.symm)]
    exact lk_def r dflt k (fun v hv => h v (by simp at hv ⊢; exact Or.inr hv))
section AXS
variable {l : Launch} {g : ax_G} {ly : Bool} {Y : ax_Y} {d : Nat} {res : ax_R} {pc : Nat} {Ls : List (Nat × ax_V)} {st : List ax_V} {M : ax_M}
theorem A_nI {x y : Int32} (e : x = y) (K : AW l g ly Y d res pc Ls (vI y :: st) M) : AW l g ly Y d res pc Ls (vI x :: st) M := e ▸ K
theorem A_nJ {x y : Int64} (e : x = y) (K : AW l g ly Y d res pc Ls (vJ y :: st) M) : AW l g ly Y d res pc Ls (vJ x :: st) M := e ▸ K
theorem A_nA {x y : Nat} (e : x = y) (K : AW l g ly Y d res pc Ls (vA y :: st) M) : AW l g ly Y d res pc Ls (vA x :: st) M := e ▸ K
theorem A_tableDef {dflt lo hi : Int} {offs : Array Int} {n : Nat} {x : Int32} {tgt : Nat} (vs : List Int) (hd : codeAt Y pc = some (.tableswitch dflt lo hi offs, n)) (hlen : lo + (offs.size : Int) = hi + 1) (hc : (List.range offs.size).all (fun j => offs[j]? == some dflt || vs.contains (lo + (j : Int))) = true) (hx : ∀ v ∈ vs, x.toInt ≠ v) (ht : (pc : Int) + dflt = (tgt : Int)) (K : AW l g ly Y d res tgt Ls st M) : AW l g ly Y d res pc Ls (vI x :: st) M := by
  by_cases h1 : x.toInt < lo
  · exact A_tableOut hd (Or.inl h1) ht K
  · by_cases h2 : hi < x.toInt
    · exact A_tableOut hd (Or.inr h2) ht K
    · refine A_tableIn hd h1 h2 (off := dflt) ?_ ht K
      have hj : (x.toInt - lo).toNat < offs.size := by omega
      have h3 := List.all_eq_true.mp hc _ (List.mem_range.mpr hj)
      rw [Bool.or_eq_true] at h3
      rcases h3 with h3 | h3
      · exact eq_of_beq h3
      · exfalso
        have h4 : (lo + (((x.toInt - lo).toNat : Nat) : Int)) ∈ vs := List.contains_iff_mem.mp h3
        exact hx _ h4 (by omega)
end AXS
theorem kl_MW : ∀ c, c < NT + 2 → kd c = 0 → ln c = 9 := by decide +kernel
theorem cls_MW : clsOK 0 "MethodWarden" TC0 9 := ⟨rfl, inWGs _ [424, 426, 428, 430, 432, 434, 436, 438, 440] (by decide +kernel) (by decide +kernel), by decide +kernel, by decide +kernel, by decide, fun c h => kl_MW c (kd_lt h (by decide)).2 h⟩
theorem kl_Text : ∀ c, c < NT + 2 → kd c = 1 → ln c = 6 := by decide +kernel
theorem cls_Text : clsOK 1 "MethodWarden$Text" TC1 6 := ⟨rfl, inWGs _ [137, 139, 141, 143, 145, 147] (by decide +kernel) (by decide +kernel), by decide +kernel, by decide +kernel, by decide, fun c h => kl_Text c (kd_lt h (by decide)).2 h⟩
theorem kl_Reader : ∀ c, c < NT + 2 → kd c = 2 → ln c = 8 := by decide +kernel
theorem cls_Reader : clsOK 2 "MethodWarden$Reader" TC2 8 := ⟨rfl, inWGs _ [165, 167, 169, 171, 173, 175, 177, 179] (by decide +kernel) (by decide +kernel), by decide +kernel, by decide +kernel, by decide, fun c h => kl_Reader c (kd_lt h (by decide)).2 h⟩
theorem kl_Expr : ∀ c, c < NT + 2 → kd c = 3 → ln c = 6 := by decide +kernel
theorem cls_Expr : clsOK 3 "MethodWarden$Expression" TC3 6 := ⟨rfl, inWGs _ [202, 204, 206, 208, 210, 212] (by decide +kernel) (by decide +kernel), by decide +kernel, by decide +kernel, by decide, fun c h => kl_Expr c (kd_lt h (by decide)).2 h⟩
theorem kl_Ctx : ∀ c, c < NT + 2 → kd c = 4 → ln c = 4 := by decide +kernel
theorem cls_Ctx : clsOK 4 "MethodWarden$Context" TC4 4 := ⟨rfl, inWGs _ [230, 232, 234, 236] (by decide +kernel) (by decide +kernel), by decide +kernel, by decide +kernel, by decide, fun c h => kl_Ctx c (kd_lt h (by decide)).2 h⟩
theorem kl_Items : ∀ c, c < NT + 2 → kd c = 5 → ln c = 2 := by decide +kernel
theorem cls_Items : clsOK 5 "MethodWarden$Items" TC5 2 := ⟨rfl, inWGs _ [249, 251] (by decide +kernel) (by decide +kernel), by decide +kernel, by decide +kernel, by decide, fun c h => kl_Items c (kd_lt h (by decide)).2 h⟩
theorem kl_Worker : ∀ c, c < NT + 2 → kd c = 6 → ln c = 11 := by decide +kernel
theorem cls_Worker : clsOK 6 "MethodWarden$Worker" TC6 11 := ⟨rfl, inWGs _ [297, 299, 301, 303, 305, 307, 309, 311, 313, 315, 317] (by decide +kernel) (by decide +kernel), by decide +kernel, by decide +kernel, by decide, fun c h => kl_Worker c (kd_lt h (by decide)).2 h⟩
theorem kl_Val : ∀ c, c < NT + 2 → kd c = 7 → ln c = 3 := by decide +kernel
theorem cls_Val : clsOK 7 "MethodWarden$Value" TC7 3 := ⟨rfl, inWGs _ [277, 279, 281] (by decide +kernel) (by decide +kernel), by decide +kernel, by decide +kernel, by decide, fun c h => kl_Val c (kd_lt h (by decide)).2 h⟩
theorem kl_Gate : ∀ c, c < NT + 2 → kd c = 8 → ln c = 10 := by decide +kernel
theorem cls_Gate : clsOK 8 "MethodWarden$Gate" TC8 10 := ⟨rfl, inWGs _ [394, 396, 398, 400, 402, 404, 406, 408, 410, 412] (by decide +kernel) (by decide +kernel), by decide +kernel, by decide +kernel, by decide, fun c h => kl_Gate c (kd_lt h (by decide)).2 h⟩
theorem kl_Meth : ∀ c, c < NT + 2 → kd c = 9 → ln c = 7 := by decide +kernel
theorem cls_Meth : clsOK 9 "MethodWarden$Method" TC9 7 := ⟨rfl, inWGs _ [352, 354, 356, 358, 360, 362, 364] (by decide +kernel) (by decide +kernel), by decide +kernel, by decide +kernel, by decide, fun c h => kl_Meth c (kd_lt h (by decide)).2 h⟩
theorem kl_Guard : ∀ c, c < NT + 2 → kd c = 10 → ln c = 2 := by decide +kernel
theorem cls_Guard : clsOK 10 "MethodWarden$Guard" TC10 2 := ⟨rfl, inWGs _ [376, 378] (by decide +kernel) (by decide +kernel), by decide +kernel, by decide +kernel, by decide, fun c h => kl_Guard c (kd_lt h (by decide)).2 h⟩
theorem kl_Mod : ∀ c, c < NT + 2 → kd c = 11 → ln c = 61 := by decide +kernel
theorem cls_Mod : clsOK 11 "MethodWardenModel" TC11 61 := ⟨rfl, inWGs _ [1148, 1150, 1152, 1154, 1156, 1158, 1160, 1162, 1164, 1166, 1168, 1170, 1172, 1174, 1176, 1178, 1180, 1182, 1184, 1186, 1188, 1190, 1192, 1194, 1196, 1198, 1200, 1202, 1204, 1206, 1208, 1210, 1212, 1214, 1216, 1218, 1220, 1222, 1224, 1226, 1228, 1230, 1232, 1234, 1236, 1238, 1240, 1242, 1244, 1246, 1248, 1250, 1252, 1254, 1256, 1258, 1260, 1262, 1264, 1266, 1268] (by decide +kernel) (by decide +kernel), by decide +kernel, by decide +kernel, by decide, fun c h => kl_Mod c (kd_lt h (by decide)).2 h⟩
theorem lf_Expr_1_0 : ∀ c, c < NT + 2 → kd c = 3 → kd (c + 1) = 100 ∧ ln (c + 1) = 20 := by decide +kernel
theorem lf_Expr_1 {c : Nat} (h : kd c = 3) : kd (c + 1) = 100 ∧ ln (c + 1) = 20 := lf_Expr_1_0 c (kd_lt h (by decide)).2 h
theorem lf_Expr_2_0 : ∀ c, c < NT + 2 → kd c = 3 → kd (c + 2) = 100 ∧ ln (c + 2) = 20 := by decide +kernel
theorem lf_Expr_2 {c : Nat} (h : kd c = 3) : kd (c + 2) = 100 ∧ ln (c + 2) = 20 := lf_Expr_2_0 c (kd_lt h (by decide)).2 h
theorem lf_Expr_3_0 : ∀ c, c < NT + 2 → kd c = 3 → kd (c + 3) = 100 ∧ ln (c + 3) = 20 := by decide +kernel
theorem lf_Expr_3 {c : Nat} (h : kd c = 3) : kd (c + 3) = 100 ∧ ln (c + 3) = 20 := lf_Expr_3_0 c (kd_lt h (by decide)).2 h
theorem lf_Expr_4_0 : ∀ c, c < NT + 2 → kd c = 3 → kd (c + 4) = 100 ∧ ln (c + 4) = 20 := by decide +kernel
theorem lf_Expr_4 {c : Nat} (h : kd c = 3) : kd (c + 4) = 100 ∧ ln (c + 4) = 20 := lf_Expr_4_0 c (kd_lt h (by decide)).2 h
theorem lf_Expr_5_0 : ∀ c, c < NT + 2 → kd c = 3 → kd (c + 5) = 101 ∧ ln (c + 5) = 20 := by decide +kernel
theorem lf_Expr_5 {c : Nat} (h : kd c = 3) : kd (c + 5) = 101 ∧ ln (c + 5) = 20 := lf_Expr_5_0 c (kd_lt h (by decide)).2 h
theorem lf_Items_1_0 : ∀ c, c < NT + 2 → kd c = 5 → kd (c + 1) = 100 ∧ ln (c + 1) = 5 := by decide +kernel
theorem lf_Items_1 {c : Nat} (h : kd c = 5) : kd (c + 1) = 100 ∧ ln (c + 1) = 5 := lf_Items_1_0 c (kd_lt h (by decide)).2 h
theorem lf_Val_1_0 : ∀ c, c < NT + 2 → kd c = 7 → kd (c + 1) = 5 ∧ ln (c + 1) = 2 := by decide +kernel
theorem lf_Val_1 {c : Nat} (h : kd c = 7) : kd (c + 1) = 5 ∧ ln (c + 1) = 2 := lf_Val_1_0 c (kd_lt h (by decide)).2 h
theorem lf_Meth_1_0 : ∀ c, c < NT + 2 → kd c = 9 → kd (c + 1) = 100 ∧ ln (c + 1) = 6 := by decide +kernel
theorem lf_Meth_1 {c : Nat} (h : kd c = 9) : kd (c + 1) = 100 ∧ ln (c + 1) = 6 := lf_Meth_1_0 c (kd_lt h (by decide)).2 h
theorem la_105 : ∀ k, k < 20 → kd (75 + 3 * k) = 7 := by decide +kernel
theorem la_106 : ∀ k, k < 8 → kd (142 + 2 * k) = 9 := by decide +kernel
theorem la_107 : ∀ k, k < 10 → kd (158 + k) = 10 := by decide +kernel
theorem la_108 : ∀ k, k < 8 → kd (168 + 2 * k) = 5 := by decide +kernel
end
section
/-! String constants: length and charAt, as functions of the constant's number -/
def f_Str_length (w : Nat) (M : ax_M) : Option (Int32 × ax_M) := if 1000 ≤ w ∧ w < 1000 + NST then some (nI (STLEN.getD (w - 1000) 0), M) else none
def f_Str_charAt (w : Nat) (i : Int32) (M : ax_M) : Option (Int32 × ax_M) := if (1000 ≤ w ∧ w < 1000 + NST) ∧ ¬ (i < 0 ∨ STLEN.getD (w - 1000) 0 ≤ i.toNatClampNeg) then some ((STBYT.getD (w - 1000) []).getD i.toNatClampNeg 0, M) else none
section AXT
variable {l : Launch} {g : ax_G} {ly : Bool} {Y : ax_Y} {d : Nat} {res : ax_R} {pc : Nat} {Ls : List (Nat × ax_V)} {st : List ax_V} {M : ax_M}
theorem A_ldcS {idx i : Nat} (hd : codeAt Y pc = some (.ldc idx, 2)) (h1 : STO i = (yn Y).cls) (h2 : STI i = idx) (hi : i < NST) (K : AW l g ly Y d res (pc + 2) Ls (vA (1000 + i) :: st) M) : AW l g ly Y d res pc Ls st M := by
  intro p e R s m args below meth c0 Q n0 kc ks F hR hN hret H locs ls hH hS hl
  have hs := F.2.2.2.2.2.1
  have h3 := hs.2.2.1 i hi
  rw [h1, h2] at h3
  have h4 : cv g (vA (1000 + i)) = .ref (gK g i) := by
    rw [cv_A, rv_pos (by omega)]
    unfold am
    rw [if_neg (by omega), if_neg (by omega), show 1000 + i - 1000 = i by omega]
  have h9 := K p e R s m args below meth c0 Q n0 kc ks F hR hN hret H locs ls hH hS hl
  rw [List.map_cons, h4] at h9
  exact va_ldcS F.1 F.2.1 F.2.2.2.1 h3 (cd hd F.2.2.2.2.2.2.2) h9
theorem A_strLength {idx w : Nat} {x : Int32} {M' : ax_M} {st' : List ax_V} (hd : codeAt Y pc = some (.invokevirtual idx, 3)) (hl : Cond.methodLink (yn Y).cls idx ⟨"java/lang/String", "length", "()I"⟩ ∈ WG) (hcat : ax_wd st' ≤ 8) (hd' : 6 ≤ d) (h : f_Str_length w M = some (x, M')) (K : AW l g ly Y d res (pc + 3) Ls (vI x :: st') M') : AW l g ly Y d res pc Ls (vA w :: st') M := sorry
theorem A_strCharAt {idx w : Nat} {i x : Int32} {M' : ax_M} {st' : List ax_V} (hd : codeAt Y pc = some (.invokevirtual idx, 3)) (hl : Cond.methodLink (yn Y).cls idx ⟨"java/lang/String", "charAt", "(I)C"⟩ ∈ WG) (hcat : ax_wd st' ≤ 8) (hd' : 6 ≤ d) (h : f_Str_charAt w i M = some (x, M')) (K : AW l g ly Y d res (pc + 3) Ls (vI x :: st') M') : AW l g ly Y d res pc Ls (vI i :: vA w :: st') M := sorry
end AXT
end
section
/-! Items. Printed by gen_methods.py. -/
def tb_Items_append : List (Nat × Instr × Nat) := [(0, .aload_n 0, 1), (1, .getfield 15, 3), (4, .iconst 5, 1), (5, .if_icmp .lt 5, 3), (8, .iconst 0, 1), (9, .ireturn, 1), (10, .aload_n 0, 1), (11, .getfield 9, 3), (14, .aload_n 0, 1), (15, .getfield 15, 3), (18, .iload_n 1, 1), (19, .iastore, 1), (20, .aload_n 0, 1), (21, .dup, 1), (22, .getfield 15, 3), (25, .iconst 1, 1), (26, .iadd, 1), (27, .putfield 15, 3), (30, .iconst 1, 1), (31, .ireturn, 1)]
def Y_Items_append : ax_Y := (⟨"MethodWarden$Items", "append", "(I)Z"⟩, prog_6_method_2_code, 2, some .boolean, tb_Items_append)
theorem yok_Items_append : yOK Y_Items_append := ⟨by decide +kernel, by decide +kernel, inWG 736 (by decide +kernel) (by decide +kernel), inWG 101 (by decide +kernel) (by decide +kernel), by decide +kernel⟩
theorem fl_Items_15 : fldOK "MethodWarden$Items" 15 5 1 false := ⟨_, _, _, cls_Items, by decide, by decide, rfl, Or.inl (inWG 246 (by decide +kernel) (by decide +kernel))⟩
theorem fl_Items_9 : fldOK "MethodWarden$Items" 9 5 0 true := ⟨_, _, _, cls_Items, by decide, by decide, rfl, Or.inl (inWG 245 (by decide +kernel) (by decide +kernel))⟩
def f_Items_append (t0 : Nat) (a1 : Int32) (M : ax_M) : Option (Int32 × ax_M) :=
  gk t0 5 (if (gI M t0 1) < 5 then (gi (gI M t0 1) 5 (kM (mI M (t0 + 1) (gI M t0 1).toNatClampNeg a1) (fun M4 => kM (mI M4 t0 1 ((gI M4 t0 1) + 1)) (fun M5 => some (1, M5))))) else (some (0, M)))
set_option maxHeartbeats 4000000 in
set_option maxRecDepth 100000 in
theorem c_Items_append {l : Launch} {g : ax_G} {t0 : Nat} {a1 : Int32} {M : ax_M} {r : Int32} {M' : ax_M} (h : f_Items_append t0 a1 M = some (r, M')) : Ctr l g true Y_Items_append 1 [vA t0, vI a1] M (some (vI r), M') := by
  refine Ctr.ofAW yok_Items_append (Nat.le_of_ble_eq_true rfl) (Or.inl rfl) ?_
  show AW l g true Y_Items_append 1 (some (vI r), M') 0 [(0, vA t0), (1, vI a1)] [] M
  unfold f_Items_append at h
  refine A_aload_n 0 rfl rfl rfl ?_
  obtain ⟨hg1, h⟩ := gk_out h
  refine A_getI rfl fl_Items_15 rfl hg1 (Or.inl rfl) ?_
  refine A_iconst (v := 5) rfl (by decide) ?_
  refine A_icmp_lt (tgt := 10) rfl (by decide) (fun hc2 => ?_) (fun hc2 => ?_)
  · rw [if_pos hc2] at h
    refine A_aload_n 0 rfl rfl rfl ?_
    refine A_getL (r := t0 + 1) rfl fl_Items_9 rfl hg1 rfl rfl ?_
    refine A_aload_n 0 rfl rfl rfl ?_
    refine A_getI rfl fl_Items_15 rfl hg1 (Or.inl rfl) ?_
    refine A_iload_n 1 rfl rfl rfl ?_
    refine A_pc (pc' := 19) rfl ?_
    obtain ⟨hg3, h⟩ := gi_out h
    refine A_iast (n := 5) rfl (lf_Items_1 hg1).1 (lf_Items_1 hg1).2 (Or.inl rfl) hg3 ?_
    obtain ⟨M4, hM4, h⟩ := kM_out h
    refine A_mem hM4 ?_
    refine A_aload_n 0 rfl rfl rfl ?_
    refine A_dup rfl rfl ?_
    refine A_getI rfl fl_Items_15 rfl hg1 (Or.inl rfl) ?_
    refine A_iconst (v := 1) rfl (by decide) ?_
    refine A_iadd rfl ?_
    refine A_pc (pc' := 27) rfl ?_
    refine A_putI rfl (Or.inl fl_Items_15) rfl hg1 (Or.inl rfl) rfl ?_
    obtain ⟨M5, hM5, h⟩ := kM_out h
    refine A_mem hM5 ?_
    refine A_iconst (v := 1) rfl (by decide) ?_
    obtain ⟨rfl, rfl⟩ := leaf h
    exact A_zret rfl rfl (Or.inr rfl)
  · rw [if_neg hc2] at h
    refine A_pc (pc' := 8) rfl ?_
    refine A_iconst (v := 0) rfl (by decide) ?_
    obtain ⟨rfl, rfl⟩ := leaf h
    exact A_zret rfl rfl (Or.inl rfl)
def tb_Items_clear : List (Nat × Instr × Nat) := [(0, .aload_n 0, 1), (1, .iconst 0, 1), (2, .putfield 15, 3), (5, .return_, 1)]
def Y_Items_clear : ax_Y := (⟨"MethodWarden$Items", "clear", "()V"⟩, prog_6_method_3_code, 1, none, tb_Items_clear)
theorem yok_Items_clear : yOK Y_Items_clear := ⟨by decide +kernel, by decide +kernel, inWG 744 (by decide +kernel) (by decide +kernel), inWG 101 (by decide +kernel) (by decide +kernel), by decide +kernel⟩
def f_Items_clear (t0 : Nat) (M : ax_M) : Option (Unit × ax_M) :=
  gk t0 5 (kM (mI M t0 1 0) (fun M2 => some ((), M2)))
set_option maxHeartbeats 4000000 in
set_option maxRecDepth 100000 in
theorem c_Items_clear {l : Launch} {g : ax_G} {t0 : Nat} {M : ax_M} {r : Unit} {M' : ax_M} (h : f_Items_clear t0 M = some (r, M')) : Ctr l g true Y_Items_clear 1 [vA t0] M (none, M') := by
  refine Ctr.ofAW yok_Items_clear (Nat.le_of_ble_eq_true rfl) (Or.inl rfl) ?_
  show AW l g true Y_Items_clear 1 (none, M') 0 [(0, vA t0)] [] M
  unfold f_Items_clear at h
  refine A_aload_n 0 rfl rfl rfl ?_
  refine A_iconst (v := 0) rfl (by decide) ?_
  obtain ⟨hg1, h⟩ := gk_out h
  refine A_putI rfl (Or.inl fl_Items_15) rfl hg1 (Or.inl rfl) rfl ?_
  obtain ⟨M2, hM2, h⟩ := kM_out h
  refine A_mem hM2 ?_
  obtain ⟨rfl, rfl⟩ := leaf h
  exact A_vret rfl rfl
def tb_Items_copyFrom : List (Nat × Instr × Nat) := [(0, .aload_n 0, 1), (1, .aload_n 1, 1), (2, .getfield 15, 3), (5, .putfield 15, 3), (8, .iconst 0, 1), (9, .istore_n 2, 1), (10, .iload_n 2, 1), (11, .aload_n 0, 1), (12, .getfield 15, 3), (15, .if_icmp .ge 21, 3), (18, .aload_n 0, 1), (19, .getfield 9, 3), (22, .iload_n 2, 1), (23, .aload_n 1, 1), (24, .getfield 9, 3), (27, .iload_n 2, 1), (28, .iaload, 1), (29, .iastore, 1), (30, .iinc 2 1, 3), (33, .goto (-23), 3), (36, .return_, 1)]
def Y_Items_copyFrom : ax_Y := (⟨"MethodWarden$Items", "copyFrom", "(LMethodWarden$Items;)V"⟩, prog_6_method_4_code, 3, none, tb_Items_copyFrom)
theorem yok_Items_copyFrom : yOK Y_Items_copyFrom := ⟨by decide +kernel, by decide +kernel, inWG 810 (by decide +kernel) (by decide +kernel), inWG 101 (by decide +kernel) (by decide +kernel), by decide +kernel⟩
def f_Items_copyFrom_10_b (K10 : Nat → Nat → Int32 → ax_M → Option (Unit × ax_M)) (l0 : Nat) (l1 : Nat) (l2 : Int32) (M : ax_M) : Option (Unit × ax_M) :=
  gk l0 5 (if (gI M l0 1) ≤ l2 then (some ((), M)) else (gk l1 5 (gi l2 5 (kM (mI M (l0 + 1) l2.toNatClampNeg (gI M (l1 + 1) l2.toNatClampNeg)) (fun M8 => kM (l2 + 1) (fun x9 => K10 l0 l1 x9 M8))))))
def f_Items_copyFrom_10 : Nat → Nat → Nat → Int32 → ax_M → Option (Unit × ax_M)
  | 0, _, _, _, _ => none
  | n + 1, l0, l1, l2, M => f_Items_copyFrom_10_b  (f_Items_copyFrom_10 n) l0 l1 l2 M
set_option maxHeartbeats 4000000 in
set_option maxRecDepth 100000 in
theorem o_Items_copyFrom_10_b {l : Launch} {g : ax_G} (K10 : Nat → Nat → Int32 → ax_M → Option (Unit × ax_M)) (hK10 : ∀ (l0 : Nat) (l1 : Nat) (l2 : Int32) (M : ax_M) (r : Unit) (M' : ax_M), K10 l0 l1 l2 M = some (r, M') → AW l g true Y_Items_copyFrom 1 (none, M') 10 [(0, vA l0), (1, vA l1), (2, vI l2)] [] M) (l0 : Nat) (l1 : Nat) (l2 : Int32) (M : ax_M) (r : Unit) (M' : ax_M) (h : f_Items_copyFrom_10_b  K10 l0 l1 l2 M = some (r, M')) : AW l g true Y_Items_copyFrom 1 (none, M') 10 [(0, vA l0), (1, vA l1), (2, vI l2)] [] M := by
  unfold f_Items_copyFrom_10_b at h
  refine A_iload_n 2 rfl rfl rfl ?_
  refine A_aload_n 0 rfl rfl rfl ?_
  obtain ⟨hg4, h⟩ := gk_out h
  refine A_getI rfl fl_Items_15 rfl hg4 (Or.inl rfl) ?_
  refine A_icmp_ge (tgt := 36) rfl (by decide) (fun hc5 => ?_) (fun hc5 => ?_)
  · rw [if_pos hc5] at h
    obtain ⟨rfl, rfl⟩ := leaf h
    exact A_vret rfl rfl
  · rw [if_neg hc5] at h
    refine A_pc (pc' := 18) rfl ?_
    refine A_aload_n 0 rfl rfl rfl ?_
    refine A_getL (r := l0 + 1) rfl fl_Items_9 rfl hg4 rfl rfl ?_
    refine A_iload_n 2 rfl rfl rfl ?_
    refine A_aload_n 1 rfl rfl rfl ?_
    obtain ⟨hg6, h⟩ := gk_out h
    refine A_getL (r := l1 + 1) rfl fl_Items_9 rfl hg6 rfl rfl ?_
    refine A_pc (pc' := 27) rfl ?_
    refine A_iload_n 2 rfl rfl rfl ?_
    obtain ⟨hg7, h⟩ := gi_out h
    refine A_iald (n := 5) rfl (lf_Items_1 hg6).1 (lf_Items_1 hg6).2 (Or.inl rfl) hg7 ?_
    refine A_iast (n := 5) rfl (lf_Items_1 hg4).1 (lf_Items_1 hg4).2 (Or.inl rfl) hg7 ?_
    obtain ⟨M8, hM8, h⟩ := kM_out h
    refine A_mem hM8 ?_
    obtain ⟨x9, hx9, h⟩ := kM_out h
    refine A_iinc 2 (v := x9) (Ls' := [(2, vI x9), (0, vA l0), (1, vA l1)]) rfl rfl ((iiN (k := 1) (by decide) _).trans hx9) (by decide) rfl ?_
    refine A_goto (tgt := 10) rfl (by decide) ?_
    refine A_pc (pc' := 10) rfl ?_
    refine A_sub (Ls' := [(0, vA l0), (1, vA l1), (2, vI x9)]) [1, 2, 0] rfl ?_
    exact hK10 _ _ _ _ _ _ h
theorem o_Items_copyFrom_10 {l : Launch} {g : ax_G} : ∀ (n : Nat) (l0 : Nat) (l1 : Nat) (l2 : Int32) (M : ax_M) (r : Unit) (M' : ax_M), f_Items_copyFrom_10  n l0 l1 l2 M = some (r, M') → AW l g true Y_Items_copyFrom 1 (none, M') 10 [(0, vA l0), (1, vA l1), (2, vI l2)] [] M := by
  intro n
  induction n with
  | zero =>
    intro l0 l1 l2 M r M' h
    cases h
  | succ n ih =>
    intro l0 l1 l2 M r M' h
    exact o_Items_copyFrom_10_b  _ ih _ _ _ _ _ _ h
def f_Items_copyFrom (t0 : Nat) (a1 : Nat) (M : ax_M) : Option (Unit × ax_M) :=
  gk a1 5 (gk t0 5 (kM (mI M t0 1 (gI M a1 1)) (fun M3 => f_Items_copyFrom_10 64 t0 a1 0 M3)))
set_option maxHeartbeats 4000000 in
set_option maxRecDepth 100000 in
theorem c_Items_copyFrom {l : Launch} {g : ax_G} {t0 : Nat} {a1 : Nat} {M : ax_M} {r : Unit} {M' : ax_M} (h : f_Items_copyFrom t0 a1 M = some (r, M')) : Ctr l g true Y_Items_copyFrom 1 [vA t0, vA a1] M (none, M') := by
  refine Ctr.ofAW yok_Items_copyFrom (Nat.le_of_ble_eq_true rfl) (Or.inl rfl) ?_
  show AW l g true Y_Items_copyFrom 1 (none, M') 0 [(0, vA t0), (1, vA a1)] [] M
  unfold f_Items_copyFrom at h
  refine A_aload_n 0 rfl rfl rfl ?_
  refine A_aload_n 1 rfl rfl rfl ?_
  obtain ⟨hg1, h⟩ := gk_out h
  refine A_getI rfl fl_Items_15 rfl hg1 (Or.inl rfl) ?_
  obtain ⟨hg2, h⟩ := gk_out h
  refine A_putI rfl (Or.inl fl_Items_15) rfl hg2 (Or.inl rfl) rfl ?_
  obtain ⟨M3, hM3, h⟩ := kM_out h
  refine A_mem hM3 ?_
  refine A_iconst (v := 0) rfl (by decide) ?_
  refine A_pc (pc' := 9) rfl ?_
  refine A_istore_n (Ls' := [(2, vI 0), (0, vA t0), (1, vA a1)]) rfl rfl (by decide) rfl ?_
  refine A_pc (pc' := 10) rfl ?_
  refine A_sub (Ls' := [(0, vA t0), (1, vA a1), (2, vI 0)]) [1, 2, 0] rfl ?_
  exact o_Items_copyFrom_10  _ _ _ _ _ _ _ h
def tb_Items_has : List (Nat × Instr × Nat) := [(0, .lload_n 1, 1), (1, .lconst 0, 1), (2, .lcmp, 1), (3, .ifCond .lt 17, 3), (6, .lload_n 1, 1), (7, .aload_n 0, 1), (8, .getfield 15, 3), (11, .i2l, 1), (12, .lcmp, 1), (13, .ifCond .ge 7, 3), (16, .iconst 1, 1), (17, .goto 4, 3), (20, .iconst 0, 1), (21, .ireturn, 1)]
def Y_Items_has : ax_Y := (⟨"MethodWarden$Items", "has", "(J)Z"⟩, prog_6_method_5_code, 3, some .boolean, tb_Items_has)
theorem yok_Items_has : yOK Y_Items_has := ⟨by decide +kernel, by decide +kernel, inWG 974 (by decide +kernel) (by decide +kernel), inWG 101 (by decide +kernel) (by decide +kernel), by decide +kernel⟩
def f_Items_has (t0 : Nat) (a1 : Int64) (M : ax_M) : Option (Int32 × ax_M) :=
  if (lg_cmp a1 0) < 0 then (some (0, M)) else (gk t0 5 (if 0 ≤ (lg_cmp a1 (Int32.toInt64 (gI M t0 1))) then (some (0, M)) else (some (1, M))))
set_option maxHeartbeats 4000000 in
set_option maxRecDepth 100000 in
theorem c_Items_has {l : Launch} {g : ax_G} {t0 : Nat} {a1 : Int64} {M : ax_M} {r : Int32} {M' : ax_M} (h : f_Items_has t0 a1 M = some (r, M')) : Ctr l g true Y_Items_has 1 [vA t0, vJ a1] M (some (vI r), M') := by
  refine Ctr.ofAW yok_Items_has (Nat.le_of_ble_eq_true rfl) (Or.inl rfl) ?_
  show AW l g true Y_Items_has 1 (some (vI r), M') 0 [(0, vA t0), (1, vJ a1)] [] M
  unfold f_Items_has at h
  refine A_lload_n 1 rfl rfl rfl ?_
  refine A_lconst (v := 0) rfl (by decide) ?_
  refine A_lcmp rfl ?_
  refine A_if_lt (tgt := 20) rfl (by decide) (fun hc1 => ?_) (fun hc1 => ?_)
  · rw [if_pos hc1] at h
    refine A_iconst (v := 0) rfl (by decide) ?_
    obtain ⟨rfl, rfl⟩ := leaf h
    exact A_zret rfl rfl (Or.inl rfl)
  · rw [if_neg hc1] at h
    refine A_pc (pc' := 6) rfl ?_
    refine A_lload_n 1 rfl rfl rfl ?_
    refine A_aload_n 0 rfl rfl rfl ?_
    obtain ⟨hg2, h⟩ := gk_out h
    refine A_getI rfl fl_Items_15 rfl hg2 (Or.inl rfl) ?_
    refine A_i2l rfl ?_
    refine A_lcmp rfl ?_
    refine A_pc (pc' := 13) rfl ?_
    refine A_if_ge (tgt := 20) rfl (by decide) (fun hc3 => ?_) (fun hc3 => ?_)
    · rw [if_pos hc3] at h
      refine A_iconst (v := 0) rfl (by decide) ?_
      obtain ⟨rfl, rfl⟩ := leaf h
      exact A_zret rfl rfl (Or.inl rfl)
    · rw [if_neg hc3] at h
      refine A_pc (pc' := 16) rfl ?_
      refine A_iconst (v := 1) rfl (by decide) ?_
      refine A_goto (tgt := 21) rfl (by decide) ?_
      obtain ⟨rfl, rfl⟩ := leaf h
      exact A_zret rfl rfl (Or.inr rfl)
def tb_Items_get : List (Nat × Instr × Nat) := [(0, .iload_n 1, 1), (1, .ifCond .lt 20, 3), (4, .iload_n 1, 1), (5, .aload_n 0, 1), (6, .getfield 15, 3), (9, .if_icmp .ge 12, 3), (12, .aload_n 0, 1), (13, .getfield 9, 3), (16, .iload_n 1, 1), (17, .iaload, 1), (18, .goto 4, 3), (21, .iconst 0, 1), (22, .ireturn, 1)]
def Y_Items_get : ax_Y := (⟨"MethodWarden$Items", "get", "(I)I"⟩, prog_6_method_6_code, 2, some .int, tb_Items_get)
theorem yok_Items_get : yOK Y_Items_get := ⟨by decide +kernel, by decide +kernel, inWG 849 (by decide +kernel) (by decide +kernel), inWG 101 (by decide +kernel) (by decide +kernel), by decide +kernel⟩
def f_Items_get (t0 : Nat) (a1 : Int32) (M : ax_M) : Option (Int32 × ax_M) :=
  if a1 < 0 then (some (0, M)) else (gk t0 5 (if (gI M t0 1) ≤ a1 then (some (0, M)) else (gi a1 5 (some (gI M (t0 + 1) a1.toNatClampNeg, M)))))
set_option maxHeartbeats 4000000 in
set_option maxRecDepth 100000 in
theorem c_Items_get {l : Launch} {g : ax_G} {t0 : Nat} {a1 : Int32} {M : ax_M} {r : Int32} {M' : ax_M} (h : f_Items_get t0 a1 M = some (r, M')) : Ctr l g true Y_Items_get 1 [vA t0, vI a1] M (some (vI r), M') := by
  refine Ctr.ofAW yok_Items_get (Nat.le_of_ble_eq_true rfl) (Or.inl rfl) ?_
  show AW l g true Y_Items_get 1 (some (vI r), M') 0 [(0, vA t0), (1, vI a1)] [] M
  unfold f_Items_get at h
  refine A_iload_n 1 rfl rfl rfl ?_
  refine A_if_lt (tgt := 21) rfl (by decide) (fun hc1 => ?_) (fun hc1 => ?_)
  · rw [if_pos hc1] at h
    refine A_iconst (v := 0) rfl (by decide) ?_
    obtain ⟨rfl, rfl⟩ := leaf h
    exact A_iret rfl rfl
  · rw [if_neg hc1] at h
    refine A_pc (pc' := 4) rfl ?_
    refine A_iload_n 1 rfl rfl rfl ?_
    refine A_aload_n 0 rfl rfl rfl ?_
    obtain ⟨hg2, h⟩ := gk_out h
    refine A_getI rfl fl_Items_15 rfl hg2 (Or.inl rfl) ?_
    refine A_icmp_ge (tgt := 21) rfl (by decide) (fun hc3 => ?_) (fun hc3 => ?_)
    · rw [if_pos hc3] at h
      refine A_iconst (v := 0) rfl (by decide) ?_
      obtain ⟨rfl, rfl⟩ := leaf h
      exact A_iret rfl rfl
    · rw [if_neg hc3] at h
      refine A_pc (pc' := 12) rfl ?_
      refine A_aload_n 0 rfl rfl rfl ?_
      refine A_getL (r := t0 + 1) rfl fl_Items_9 rfl hg2 rfl rfl ?_
      refine A_iload_n 1 rfl rfl rfl ?_
      obtain ⟨hg4, h⟩ := gi_out h
      refine A_iald (n := 5) rfl (lf_Items_1 hg2).1 (lf_Items_1 hg2).2 (Or.inl rfl) hg4 ?_
      refine A_goto (tgt := 22) rfl (by decide) ?_
      refine A_pc (pc' := 22) rfl ?_
      obtain ⟨rfl, rfl⟩ := leaf h
      exact A_iret rfl rfl
def tb_Items_raiseEach : List (Nat × Instr × Nat) := [(0, .iconst 0, 1), (1, .istore_n 2, 1), (2, .iload_n 2, 1), (3, .aload_n 0, 1), (4, .getfield 15, 3), (7, .if_icmp .ge 19, 3), (10, .aload_n 0, 1), (11, .getfield 9, 3), (14, .iload_n 2, 1), (15, .dup2, 1), (16, .iaload, 1), (17, .iload_n 1, 1), (18, .iadd, 1), (19, .iastore, 1), (20, .iinc 2 1, 3), (23, .goto (-21), 3), (26, .return_, 1)]
def Y_Items_raiseEach : ax_Y := (⟨"MethodWarden$Items", "raiseEach", "(I)V"⟩, prog_6_method_7_code, 3, none, tb_Items_raiseEach)
theorem yok_Items_raiseEach : yOK Y_Items_raiseEach := ⟨by decide +kernel, by decide +kernel, inWG 1012 (by decide +kernel) (by decide +kernel), inWG 101 (by decide +kernel) (by decide +kernel), by decide +kernel⟩
def f_Items_raiseEach_2_b (K2 : Nat → Int32 → Int32 → ax_M → Option (Unit × ax_M)) (l0 : Nat) (l1 : Int32) (l2 : Int32) (M : ax_M) : Option (Unit × ax_M) :=
  gk l0 5 (if (gI M l0 1) ≤ l2 then (some ((), M)) else (gi l2 5 (kM (mI M (l0 + 1) l2.toNatClampNeg ((gI M (l0 + 1) l2.toNatClampNeg) + l1)) (fun M4 => kM (l2 + 1) (fun x5 => K2 l0 l1 x5 M4)))))
def f_Items_raiseEach_2 : Nat → Nat → Int32 → Int32 → ax_M → Option (Unit × ax_M)
  | 0, _, _, _, _ => none
  | n + 1, l0, l1, l2, M => f_Items_raiseEach_2_b  (f_Items_raiseEach_2 n) l0 l1 l2 M
set_option maxHeartbeats 4000000 in
set_option maxRecDepth 100000 in
theorem o_Items_raiseEach_2_b {l : Launch} {g : ax_G} (K2 : Nat → Int32 → Int32 → ax_M → Option (Unit × ax_M)) (hK2 : ∀ (l0 : Nat) (l1 : Int32) (l2 : Int32) (M : ax_M) (r : Unit) (M' : ax_M), K2 l0 l1 l2 M = some (r, M') → AW l g true Y_Items_raiseEach 1 (none, M') 2 [(0, vA l0), (1, vI l1), (2, vI l2)] [] M) (l0 : Nat) (l1 : Int32) (l2 : Int32) (M : ax_M) (r : Unit) (M' : ax_M) (h : f_Items_raiseEach_2_b  K2 l0 l1 l2 M = some (r, M')) : AW l g true Y_Items_raiseEach 1 (none, M') 2 [(0, vA l0), (1, vI l1), (2, vI l2)] [] M := by
  unfold f_Items_raiseEach_2_b at h
  refine A_iload_n 2 rfl rfl rfl ?_
  refine A_aload_n 0 rfl rfl rfl ?_
  obtain ⟨hg1, h⟩ := gk_out h
  refine A_getI rfl fl_Items_15 rfl hg1 (Or.inl rfl) ?_
  refine A_icmp_ge (tgt := 26) rfl (by decide) (fun hc2 => ?_) (fun hc2 => ?_)
  · rw [if_pos hc2] at h
    obtain ⟨rfl, rfl⟩ := leaf h
    exact A_vret rfl rfl
  · rw [if_neg hc2] at h
    refine A_pc (pc' := 10) rfl ?_
    refine A_aload_n 0 rfl rfl rfl ?_
    refine A_getL (r := l0 + 1) rfl fl_Items_9 rfl hg1 rfl rfl ?_
    refine A_iload_n 2 rfl rfl rfl ?_
    refine A_dup2 rfl rfl rfl ?_
    obtain ⟨hg3, h⟩ := gi_out h
    refine A_iald (n := 5) rfl (lf_Items_1 hg1).1 (lf_Items_1 hg1).2 (Or.inl rfl) hg3 ?_
    refine A_pc (pc' := 17) rfl ?_
    refine A_iload_n 1 rfl rfl rfl ?_
    refine A_iadd rfl ?_
    refine A_iast (n := 5) rfl (lf_Items_1 hg1).1 (lf_Items_1 hg1).2 (Or.inl rfl) hg3 ?_
    obtain ⟨M4, hM4, h⟩ := kM_out h
    refine A_mem hM4 ?_
    obtain ⟨x5, hx5, h⟩ := kM_out h
    refine A_iinc 2 (v := x5) (Ls' := [(2, vI x5), (0, vA l0), (1, vI l1)]) rfl rfl ((iiN (k := 1) (by decide) _).trans hx5) (by decide) rfl ?_
    refine A_goto (tgt := 2) rfl (by decide) ?_
    refine A_pc (pc' := 2) rfl ?_
    refine A_sub (Ls' := [(0, vA l0), (1, vI l1), (2, vI x5)]) [1, 2, 0] rfl ?_
    exact hK2 _ _ _ _ _ _ h
theorem o_Items_raiseEach_2 {l : Launch} {g : ax_G} : ∀ (n : Nat) (l0 : Nat) (l1 : Int32) (l2 : Int32) (M : ax_M) (r : Unit) (M' : ax_M), f_Items_raiseEach_2  n l0 l1 l2 M = some (r, M') → AW l g true Y_Items_raiseEach 1 (none, M') 2 [(0, vA l0), (1, vI l1), (2, vI l2)] [] M := by
  intro n
  induction n with
  | zero =>
    intro l0 l1 l2 M r M' h
    cases h
  | succ n ih =>
    intro l0 l1 l2 M r M' h
    exact o_Items_raiseEach_2_b  _ ih _ _ _ _ _ _ h
def f_Items_raiseEach (t0 : Nat) (a1 : Int32) (M : ax_M) : Option (Unit × ax_M) :=
  f_Items_raiseEach_2 64 t0 a1 0 M
set_option maxHeartbeats 4000000 in
set_option maxRecDepth 100000 in
theorem c_Items_raiseEach {l : Launch} {g : ax_G} {t0 : Nat} {a1 : Int32} {M : ax_M} {r : Unit} {M' : ax_M} (h : f_Items_raiseEach t0 a1 M = some (r, M')) : Ctr l g true Y_Items_raiseEach 1 [vA t0, vI a1] M (none, M') := by
  refine Ctr.ofAW yok_Items_raiseEach (Nat.le_of_ble_eq_true rfl) (Or.inl rfl) ?_
  show AW l g true Y_Items_raiseEach 1 (none, M') 0 [(0, vA t0), (1, vI a1)] [] M
  unfold f_Items_raiseEach at h
  refine A_iconst (v := 0) rfl (by decide) ?_
  refine A_istore_n (Ls' := [(2, vI 0), (0, vA t0), (1, vI a1)]) rfl rfl (by decide) rfl ?_
  refine A_pc (pc' := 2) rfl ?_
  refine A_sub (Ls' := [(0, vA t0), (1, vI a1), (2, vI 0)]) [1, 2, 0] rfl ?_
  exact o_Items_raiseEach_2  _ _ _ _ _ _ _ h
def tb_Items_sameAs : List (Nat × Instr × Nat) := [(0, .aload_n 0, 1), (1, .getfield 15, 3), (4, .aload_n 1, 1), (5, .getfield 15, 3), (8, .if_icmp .eq 5, 3), (11, .iconst 0, 1), (12, .ireturn, 1), (13, .iconst 0, 1), (14, .istore_n 2, 1), (15, .iload_n 2, 1), (16, .aload_n 0, 1), (17, .getfield 15, 3), (20, .if_icmp .ge 26, 3), (23, .aload_n 0, 1), (24, .getfield 9, 3), (27, .iload_n 2, 1), (28, .iaload, 1), (29, .aload_n 1, 1), (30, .getfield 9, 3), (33, .iload_n 2, 1), (34, .iaload, 1), (35, .if_icmp .eq 5, 3), (38, .iconst 0, 1), (39, .ireturn, 1), (40, .iinc 2 1, 3), (43, .goto (-28), 3), (46, .iconst 1, 1), (47, .ireturn, 1)]
def Y_Items_sameAs : ax_Y := (⟨"MethodWarden$Items", "sameAs", "(LMethodWarden$Items;)Z"⟩, prog_6_method_8_code, 3, some .boolean, tb_Items_sameAs)
theorem yok_Items_sameAs : yOK Y_Items_sameAs := ⟨by decide +kernel, by decide +kernel, inWG 966 (by decide +kernel) (by decide +kernel), inWG 101 (by decide +kernel) (by decide +kernel), by decide +kernel⟩
def f_Items_sameAs_15_b (K15 : Nat → Nat → Int32 → ax_M → Option (Int32 × ax_M)) (l0 : Nat) (l1 : Nat) (l2 : Int32) (M : ax_M) : Option (Int32 × ax_M) :=
  gk l0 5 (if (gI M l0 1) ≤ l2 then (some (1, M)) else (gi l2 5 (gk l1 5 (if (gI M (l0 + 1) l2.toNatClampNeg) = (gI M (l1 + 1) l2.toNatClampNeg) then (kM (l2 + 1) (fun x9 => K15 l0 l1 x9 M)) else (some (0, M))))))
def f_Items_sameAs_15 : Nat → Nat → Nat → Int32 → ax_M → Option (Int32 × ax_M)
  | 0, _, _, _, _ => none
  | n + 1, l0, l1, l2, M => f_Items_sameAs_15_b  (f_Items_sameAs_15 n) l0 l1 l2 M
set_option maxHeartbeats 4000000 in
set_option maxRecDepth 100000 in
theorem o_Items_sameAs_15_b {l : Launch} {g : ax_G} (K15 : Nat → Nat → Int32 → ax_M → Option (Int32 × ax_M)) (hK15 : ∀ (l0 : Nat) (l1 : Nat) (l2 : Int32) (M : ax_M) (r : Int32) (M' : ax_M), K15 l0 l1 l2 M = some (r, M') → AW l g true Y_Items_sameAs 1 (some (vI r), M') 15 [(0, vA l0), (1, vA l1), (2, vI l2)] [] M) (l0 : Nat) (l1 : Nat) (l2 : Int32) (M : ax_M) (r : Int32) (M' : ax_M) (h : f_Items_sameAs_15_b  K15 l0 l1 l2 M = some (r, M')) : AW l g true Y_Items_sameAs 1 (some (vI r), M') 15 [(0, vA l0), (1, vA l1), (2, vI l2)] [] M := by
  unfold f_Items_sameAs_15_b at h
  refine A_iload_n 2 rfl rfl rfl ?_
  refine A_aload_n 0 rfl rfl rfl ?_
  obtain ⟨hg4, h⟩ := gk_out h
  refine A_getI rfl fl_Items_15 rfl hg4 (Or.inl rfl) ?_
  refine A_icmp_ge (tgt := 46) rfl (by decide) (fun hc5 => ?_) (fun hc5 => ?_)
  · rw [if_pos hc5] at h
    refine A_iconst (v := 1) rfl (by decide) ?_
    obtain ⟨rfl, rfl⟩ := leaf h
    exact A_zret rfl rfl (Or.inr rfl)
  · rw [if_neg hc5] at h
    refine A_pc (pc' := 23) rfl ?_
    refine A_aload_n 0 rfl rfl rfl ?_
    refine A_getL (r := l0 + 1) rfl fl_Items_9 rfl hg4 rfl rfl ?_
    refine A_iload_n 2 rfl rfl rfl ?_
    obtain ⟨hg6, h⟩ := gi_out h
    refine A_iald (n := 5) rfl (lf_Items_1 hg4).1 (lf_Items_1 hg4).2 (Or.inl rfl) hg6 ?_
    refine A_aload_n 1 rfl rfl rfl ?_
    refine A_pc (pc' := 30) rfl ?_
    obtain ⟨hg7, h⟩ := gk_out h
    refine A_getL (r := l1 + 1) rfl fl_Items_9 rfl hg7 rfl rfl ?_
    refine A_iload_n 2 rfl rfl rfl ?_
    refine A_iald (n := 5) rfl (lf_Items_1 hg7).1 (lf_Items_1 hg7).2 (Or.inl rfl) hg6 ?_
    refine A_icmp_eq (tgt := 40) rfl (by decide) (fun hc8 => ?_) (fun hc8 => ?_)
    · rw [if_pos hc8] at h
      obtain ⟨x9, hx9, h⟩ := kM_out h
      refine A_iinc 2 (v := x9) (Ls' := [(2, vI x9), (0, vA l0), (1, vA l1)]) rfl rfl ((iiN (k := 1) (by decide) _).trans hx9) (by decide) rfl ?_
      refine A_goto (tgt := 15) rfl (by decide) ?_
      refine A_pc (pc' := 15) rfl ?_
      refine A_sub (Ls' := [(0, vA l0), (1, vA l1), (2, vI x9)]) [1, 2, 0] rfl ?_
      exact hK15 _ _ _ _ _ _ h
    · rw [if_neg hc8] at h
      refine A_pc (pc' := 38) rfl ?_
      refine A_iconst (v := 0) rfl (by decide) ?_
      obtain ⟨rfl, rfl⟩ := leaf h
      exact A_zret rfl rfl (Or.inl rfl)
theorem o_Items_sameAs_15 {l : Launch} {g : ax_G} : ∀ (n : Nat) (l0 : Nat) (l1 : Nat) (l2 : Int32) (M : ax_M) (r : Int32) (M' : ax_M), f_Items_sameAs_15  n l0 l1 l2 M = some (r, M') → AW l g true Y_Items_sameAs 1 (some (vI r), M') 15 [(0, vA l0), (1, vA l1), (2, vI l2)] [] M := by
  intro n
  induction n with
  | zero =>
    intro l0 l1 l2 M r M' h
    cases h
  | succ n ih =>
    intro l0 l1 l2 M r M' h
    exact o_Items_sameAs_15_b  _ ih _ _ _ _ _ _ h
def f_Items_sameAs (t0 : Nat) (a1 : Nat) (M : ax_M) : Option (Int32 × ax_M) :=
  gk t0 5 (gk a1 5 (if (gI M t0 1) = (gI M a1 1) then (f_Items_sameAs_15 64 t0 a1 0 M) else (some (0, M))))
set_option maxHeartbeats 4000000 in
set_option maxRecDepth 100000 in
theorem c_Items_sameAs {l : Launch} {g : ax_G} {t0 : Nat} {a1 : Nat} {M : ax_M} {r : Int32} {M' : ax_M} (h : f_Items_sameAs t0 a1 M = some (r, M')) : Ctr l g true Y_Items_sameAs 1 [vA t0, vA a1] M (some (vI r), M') := by
  refine Ctr.ofAW yok_Items_sameAs (Nat.le_of_ble_eq_true rfl) (Or.inl rfl) ?_
  show AW l g true Y_Items_sameAs 1 (some (vI r), M') 0 [(0, vA t0), (1, vA a1)] [] M
  unfold f_Items_sameAs at h
  refine A_aload_n 0 rfl rfl rfl ?_
  obtain ⟨hg1, h⟩ := gk_out h
  refine A_getI rfl fl_Items_15 rfl hg1 (Or.inl rfl) ?_
  refine A_aload_n 1 rfl rfl rfl ?_
  obtain ⟨hg2, h⟩ := gk_out h
  refine A_getI rfl fl_Items_15 rfl hg2 (Or.inl rfl) ?_
  refine A_icmp_eq (tgt := 13) rfl (by decide) (fun hc3 => ?_) (fun hc3 => ?_)
  · rw [if_pos hc3] at h
    refine A_iconst (v := 0) rfl (by decide) ?_
    refine A_istore_n (Ls' := [(2, vI 0), (0, vA t0), (1, vA a1)]) rfl rfl (by decide) rfl ?_
    refine A_pc (pc' := 15) rfl ?_
    refine A_sub (Ls' := [(0, vA t0), (1, vA a1), (2, vI 0)]) [1, 2, 0] rfl ?_
    exact o_Items_sameAs_15  _ _ _ _ _ _ _ h
  · rw [if_neg hc3] at h
    refine A_pc (pc' := 11) rfl ?_
    refine A_iconst (v := 0) rfl (by decide) ?_
    obtain ⟨rfl, rfl⟩ := leaf h
    exact A_zret rfl rfl (Or.inl rfl)
end
section
/-! Value. Printed by gen_methods.py. -/
def tb_Val_beNothing : List (Nat × Instr × Nat) := [(0, .aload_n 0, 1), (1, .iconst 0, 1), (2, .putfield 9, 3), (5, .aload_n 0, 1), (6, .lconst 0, 1), (7, .putfield 20, 3), (10, .aload_n 0, 1), (11, .areturn, 1)]
def Y_Val_beNothing : ax_Y := (⟨"MethodWarden$Value", "beNothing", "()LMethodWarden$Value;"⟩, prog_11_method_2_code, 1, some (.object "MethodWarden$Value"), tb_Val_beNothing)
theorem yok_Val_beNothing : yOK Y_Val_beNothing := ⟨by decide +kernel, by decide +kernel, inWG 906 (by decide +kernel) (by decide +kernel), inWG 103 (by decide +kernel) (by decide +kernel), by decide +kernel⟩
theorem fl_Val_9 : fldOK "MethodWarden$Value" 9 7 0 false := ⟨_, _, _, cls_Val, by decide, by decide, rfl, Or.inl (inWG 269 (by decide +kernel) (by decide +kernel))⟩
theorem fl_Val_20 : fldOK "MethodWarden$Value" 20 7 1 false := ⟨_, _, _, cls_Val, by decide, by decide, rfl, Or.inl (inWG 272 (by decide +kernel) (by decide +kernel))⟩
def f_Val_beNothing (t0 : Nat) (M : ax_M) : Option (Nat × ax_M) :=
  gk t0 7 (kM (mI M t0 0 0) (fun M2 => kM (mJ M2 t0 1 0) (fun M3 => some (t0, M3))))
set_option maxHeartbeats 4000000 in
set_option maxRecDepth 100000 in
theorem c_Val_beNothing {l : Launch} {g : ax_G} {t0 : Nat} {M : ax_M} {r : Nat} {M' : ax_M} (h : f_Val_beNothing t0 M = some (r, M')) : Ctr l g true Y_Val_beNothing 1 [vA t0] M (some (vA r), M') := by
  refine Ctr.ofAW yok_Val_beNothing (Nat.le_of_ble_eq_true rfl) (Or.inl rfl) ?_
  show AW l g true Y_Val_beNothing 1 (some (vA r), M') 0 [(0, vA t0)] [] M
  unfold f_Val_beNothing at h
  refine A_aload_n 0 rfl rfl rfl ?_
  refine A_iconst (v := 0) rfl (by decide) ?_
  obtain ⟨hg1, h⟩ := gk_out h
  refine A_putI rfl (Or.inl fl_Val_9) rfl hg1 (Or.inl rfl) rfl ?_
  obtain ⟨M2, hM2, h⟩ := kM_out h
  refine A_mem hM2 ?_
  refine A_aload_n 0 rfl rfl rfl ?_
  refine A_lconst (v := 0) rfl (by decide) ?_
  refine A_pc (pc' := 7) rfl ?_
  refine A_putJ rfl (Or.inl fl_Val_20) rfl hg1 (Or.inl rfl) rfl ?_
  obtain ⟨M3, hM3, h⟩ := kM_out h
  refine A_mem hM3 ?_
  refine A_aload_n 0 rfl rfl rfl ?_
  obtain ⟨rfl, rfl⟩ := leaf h
  exact A_aret rfl rfl
def tb_Val_beTruth : List (Nat × Instr × Nat) := [(0, .aload_n 0, 1), (1, .iconst 1, 1), (2, .putfield 9, 3), (5, .aload_n 0, 1), (6, .iload_n 1, 1), (7, .ifCond .eq 7, 3), (10, .lconst 1, 1), (11, .goto 4, 3), (14, .lconst 0, 1), (15, .putfield 20, 3), (18, .aload_n 0, 1), (19, .areturn, 1)]
def Y_Val_beTruth : ax_Y := (⟨"MethodWarden$Value", "beTruth", "(Z)LMethodWarden$Value;"⟩, prog_11_method_3_code, 2, some (.object "MethodWarden$Value"), tb_Val_beTruth)
theorem yok_Val_beTruth : yOK Y_Val_beTruth := ⟨by decide +kernel, by decide +kernel, inWG 919 (by decide +kernel) (by decide +kernel), inWG 103 (by decide +kernel) (by decide +kernel), by decide +kernel⟩
def f_Val_beTruth (t0 : Nat) (a1 : Int32) (M : ax_M) : Option (Nat × ax_M) :=
  gk t0 7 (kM (mI M t0 0 1) (fun M2 => if a1 = 0 then (kM (mJ M2 t0 1 0) (fun M4 => some (t0, M4))) else (kM (mJ M2 t0 1 1) (fun M5 => some (t0, M5)))))
set_option maxHeartbeats 4000000 in
set_option maxRecDepth 100000 in
theorem c_Val_beTruth {l : Launch} {g : ax_G} {t0 : Nat} {a1 : Int32} {M : ax_M} {r : Nat} {M' : ax_M} (h : f_Val_beTruth t0 a1 M = some (r, M')) : Ctr l g true Y_Val_beTruth 1 [vA t0, vI a1] M (some (vA r), M') := by
  refine Ctr.ofAW yok_Val_beTruth (Nat.le_of_ble_eq_true rfl) (Or.inl rfl) ?_
  show AW l g true Y_Val_beTruth 1 (some (vA r), M') 0 [(0, vA t0), (1, vI a1)] [] M
  unfold f_Val_beTruth at h
  refine A_aload_n 0 rfl rfl rfl ?_
  refine A_iconst (v := 1) rfl (by decide) ?_
  obtain ⟨hg1, h⟩ := gk_out h
  refine A_putI rfl (Or.inl fl_Val_9) rfl hg1 (Or.inl rfl) rfl ?_
  obtain ⟨M2, hM2, h⟩ := kM_out h
  refine A_mem hM2 ?_
  refine A_aload_n 0 rfl rfl rfl ?_
  refine A_iload_n 1 rfl rfl rfl ?_
  refine A_pc (pc' := 7) rfl ?_
  refine A_if_eq (tgt := 14) rfl (by decide) (fun hc3 => ?_) (fun hc3 => ?_)
  · rw [if_pos hc3] at h
    refine A_lconst (v := 0) rfl (by decide) ?_
    refine A_putJ rfl (Or.inl fl_Val_20) rfl hg1 (Or.inl rfl) rfl ?_
    obtain ⟨M4, hM4, h⟩ := kM_out h
    refine A_mem hM4 ?_
    refine A_aload_n 0 rfl rfl rfl ?_
    obtain ⟨rfl, rfl⟩ := leaf h
    exact A_aret rfl rfl
  · rw [if_neg hc3] at h
    refine A_pc (pc' := 10) rfl ?_
    refine A_lconst (v := 1) rfl (by decide) ?_
    refine A_goto (tgt := 15) rfl (by decide) ?_
    refine A_putJ rfl (Or.inl fl_Val_20) rfl hg1 (Or.inl rfl) rfl ?_
    obtain ⟨M5, hM5, h⟩ := kM_out h
    refine A_mem hM5 ?_
    refine A_aload_n 0 rfl rfl rfl ?_
    obtain ⟨rfl, rfl⟩ := leaf h
    exact A_aret rfl rfl
def tb_Val_beInt : List (Nat × Instr × Nat) := [(0, .aload_n 0, 1), (1, .iconst 2, 1), (2, .putfield 9, 3), (5, .aload_n 0, 1), (6, .iload_n 1, 1), (7, .i2l, 1), (8, .putfield 20, 3), (11, .aload_n 0, 1), (12, .areturn, 1)]
def Y_Val_beInt : ax_Y := (⟨"MethodWarden$Value", "beInt", "(I)LMethodWarden$Value;"⟩, prog_11_method_4_code, 2, some (.object "MethodWarden$Value"), tb_Val_beInt)
theorem yok_Val_beInt : yOK Y_Val_beInt := ⟨by decide +kernel, by decide +kernel, inWG 902 (by decide +kernel) (by decide +kernel), inWG 103 (by decide +kernel) (by decide +kernel), by decide +kernel⟩
def f_Val_beInt (t0 : Nat) (a1 : Int32) (M : ax_M) : Option (Nat × ax_M) :=
  gk t0 7 (kM (mI M t0 0 2) (fun M2 => kM (mJ M2 t0 1 (Int32.toInt64 a1)) (fun M3 => some (t0, M3))))
set_option maxHeartbeats 4000000 in
set_option maxRecDepth 100000 in
theorem c_Val_beInt {l : Launch} {g : ax_G} {t0 : Nat} {a1 : Int32} {M : ax_M} {r : Nat} {M' : ax_M} (h : f_Val_beInt t0 a1 M = some (r, M')) : Ctr l g true Y_Val_beInt 1 [vA t0, vI a1] M (some (vA r), M') := by
  refine Ctr.ofAW yok_Val_beInt (Nat.le_of_ble_eq_true rfl) (Or.inl rfl) ?_
  show AW l g true Y_Val_beInt 1 (some (vA r), M') 0 [(0, vA t0), (1, vI a1)] [] M
  unfold f_Val_beInt at h
  refine A_aload_n 0 rfl rfl rfl ?_
  refine A_iconst (v := 2) rfl (by decide) ?_
  obtain ⟨hg1, h⟩ := gk_out h
  refine A_putI rfl (Or.inl fl_Val_9) rfl hg1 (Or.inl rfl) rfl ?_
  obtain ⟨M2, hM2, h⟩ := kM_out h
  refine A_mem hM2 ?_
  refine A_aload_n 0 rfl rfl rfl ?_
  refine A_iload_n 1 rfl rfl rfl ?_
  refine A_pc (pc' := 7) rfl ?_
  refine A_i2l rfl ?_
  refine A_putJ rfl (Or.inl fl_Val_20) rfl hg1 (Or.inl rfl) rfl ?_
  obtain ⟨M3, hM3, h⟩ := kM_out h
  refine A_mem hM3 ?_
  refine A_aload_n 0 rfl rfl rfl ?_
  obtain ⟨rfl, rfl⟩ := leaf h
  exact A_aret rfl rfl
def tb_Val_beLong : List (Nat × Instr × Nat) := [(0, .aload_n 0, 1), (1, .iconst 3, 1), (2, .putfield 9, 3), (5, .aload_n 0, 1), (6, .lload_n 1, 1), (7, .putfield 20, 3), (10, .aload_n 0, 1), (11, .areturn, 1)]
def Y_Val_beLong : ax_Y := (⟨"MethodWarden$Value", "beLong", "(J)LMethodWarden$Value;"⟩, prog_11_method_5_code, 3, some (.object "MethodWarden$Value"), tb_Val_beLong)
theorem yok_Val_beLong : yOK Y_Val_beLong := ⟨by decide +kernel, by decide +kernel, inWG 915 (by decide +kernel) (by decide +kernel), inWG 103 (by decide +kernel) (by decide +kernel), by decide +kernel⟩
def f_Val_beLong (t0 : Nat) (a1 : Int64) (M : ax_M) : Option (Nat × ax_M) :=
  gk t0 7 (kM (mI M t0 0 3) (fun M2 => kM (mJ M2 t0 1 a1) (fun M3 => some (t0, M3))))
set_option maxHeartbeats 4000000 in
set_option maxRecDepth 100000 in
theorem c_Val_beLong {l : Launch} {g : ax_G} {t0 : Nat} {a1 : Int64} {M : ax_M} {r : Nat} {M' : ax_M} (h : f_Val_beLong t0 a1 M = some (r, M')) : Ctr l g true Y_Val_beLong 1 [vA t0, vJ a1] M (some (vA r), M') := by
  refine Ctr.ofAW yok_Val_beLong (Nat.le_of_ble_eq_true rfl) (Or.inl rfl) ?_
  show AW l g true Y_Val_beLong 1 (some (vA r), M') 0 [(0, vA t0), (1, vJ a1)] [] M
  unfold f_Val_beLong at h
  refine A_aload_n 0 rfl rfl rfl ?_
  refine A_iconst (v := 3) rfl (by decide) ?_
  obtain ⟨hg1, h⟩ := gk_out h
  refine A_putI rfl (Or.inl fl_Val_9) rfl hg1 (Or.inl rfl) rfl ?_
  obtain ⟨M2, hM2, h⟩ := kM_out h
  refine A_mem hM2 ?_
  refine A_aload_n 0 rfl rfl rfl ?_
  refine A_lload_n 1 rfl rfl rfl ?_
  refine A_pc (pc' := 7) rfl ?_
  refine A_putJ rfl (Or.inl fl_Val_20) rfl hg1 (Or.inl rfl) rfl ?_
  obtain ⟨M3, hM3, h⟩ := kM_out h
  refine A_mem hM3 ?_
  refine A_aload_n 0 rfl rfl rfl ?_
  obtain ⟨rfl, rfl⟩ := leaf h
  exact A_aret rfl rfl
def tb_Val_beList : List (Nat × Instr × Nat) := [(0, .aload_n 0, 1), (1, .iconst 4, 1), (2, .putfield 9, 3), (5, .aload_n 0, 1), (6, .lconst 0, 1), (7, .putfield 20, 3), (10, .aload_n 0, 1), (11, .getfield 16, 3), (14, .aload_n 1, 1), (15, .invokevirtual 24, 3), (18, .aload_n 0, 1), (19, .areturn, 1)]
def Y_Val_beList : ax_Y := (⟨"MethodWarden$Value", "beList", "(LMethodWarden$Items;)LMethodWarden$Value;"⟩, prog_11_method_6_code, 2, some (.object "MethodWarden$Value"), tb_Val_beList)
theorem yok_Val_beList : yOK Y_Val_beList := ⟨by decide +kernel, by decide +kernel, inWG 924 (by decide +kernel) (by decide +kernel), inWG 103 (by decide +kernel) (by decide +kernel), by decide +kernel⟩
theorem fl_Val_16 : fldOK "MethodWarden$Value" 16 7 2 true := ⟨_, _, _, cls_Val, by decide, by decide, rfl, Or.inl (inWG 274 (by decide +kernel) (by decide +kernel))⟩
theorem ml_Val_24 : mlV "MethodWarden$Value" 24 Y_Items_copyFrom 1 := ⟨⟨yok_Items_copyFrom, by decide +kernel, by decide⟩, Or.inl (inWG 925 (by decide +kernel) (by decide +kernel)), inWG 808 (by decide +kernel) (by decide +kernel), inWG 809 (by decide +kernel) (by decide +kernel)⟩
def f_Val_beList (t0 : Nat) (a1 : Nat) (M : ax_M) : Option (Nat × ax_M) :=
  gk t0 7 (kM (mI M t0 0 4) (fun M2 => kM (mJ M2 t0 1 0) (fun M3 => bnd (f_Items_copyFrom (t0 + 1) a1 M3) (fun q4 M5 => some (t0, M5)))))
set_option maxHeartbeats 4000000 in
set_option maxRecDepth 100000 in
theorem c_Val_beList {l : Launch} {g : ax_G} {t0 : Nat} {a1 : Nat} {M : ax_M} {r : Nat} {M' : ax_M} (h : f_Val_beList t0 a1 M = some (r, M')) : Ctr l g true Y_Val_beList 2 [vA t0, vA a1] M (some (vA r), M') := by
  refine Ctr.ofAW yok_Val_beList (Nat.le_of_ble_eq_true rfl) (Or.inl rfl) ?_
  show AW l g true Y_Val_beList 2 (some (vA r), M') 0 [(0, vA t0), (1, vA a1)] [] M
  unfold f_Val_beList at h
  refine A_aload_n 0 rfl rfl rfl ?_
  refine A_iconst (v := 4) rfl (by decide) ?_
  obtain ⟨hg1, h⟩ := gk_out h
  refine A_putI rfl (Or.inl fl_Val_9) rfl hg1 (Or.inl rfl) rfl ?_
  obtain ⟨M2, hM2, h⟩ := kM_out h
  refine A_mem hM2 ?_
  refine A_aload_n 0 rfl rfl rfl ?_
  refine A_lconst (v := 0) rfl (by decide) ?_
  refine A_pc (pc' := 7) rfl ?_
  refine A_putJ rfl (Or.inl fl_Val_20) rfl hg1 (Or.inl rfl) rfl ?_
  obtain ⟨M3, hM3, h⟩ := kM_out h
  refine A_mem hM3 ?_
  refine A_aload_n 0 rfl rfl rfl ?_
  refine A_getL (r := t0 + 1) rfl fl_Val_16 rfl hg1 rfl rfl ?_
  refine A_aload_n 1 rfl rfl rfl ?_
  obtain ⟨q4, M5, hcq4, h⟩ := bnd_out h
  refine A_callV (as := [vA a1]) (st' := []) (r1 := (none, M5)) rfl ml_Val_24 rfl (by decide) (lf_Val_1 hg1).1 (Or.inl rfl) rfl rfl (Nat.le_of_ble_eq_true rfl) (by decide) (c_Items_copyFrom hcq4) (Or.inl rfl) ?_
  refine A_pc (pc' := 18) rfl ?_
  refine A_stk (st' := []) rfl ?_
  refine A_aload_n 0 rfl rfl rfl ?_
  refine A_pc (pc' := 19) rfl ?_
  obtain ⟨rfl, rfl⟩ := leaf h
  exact A_aret rfl rfl
def tb_Val_beEmptyList : List (Nat × Instr × Nat) := [(0, .aload_n 0, 1), (1, .iconst 4, 1), (2, .putfield 9, 3), (5, .aload_n 0, 1), (6, .lconst 0, 1), (7, .putfield 20, 3), (10, .aload_n 0, 1), (11, .getfield 16, 3), (14, .invokevirtual 28, 3), (17, .aload_n 0, 1), (18, .areturn, 1)]
def Y_Val_beEmptyList : ax_Y := (⟨"MethodWarden$Value", "beEmptyList", "()LMethodWarden$Value;"⟩, prog_11_method_7_code, 1, some (.object "MethodWarden$Value"), tb_Val_beEmptyList)
theorem yok_Val_beEmptyList : yOK Y_Val_beEmptyList := ⟨by decide +kernel, by decide +kernel, inWG 893 (by decide +kernel) (by decide +kernel), inWG 103 (by decide +kernel) (by decide +kernel), by decide +kernel⟩
theorem ml_Val_28 : mlV "MethodWarden$Value" 28 Y_Items_clear 0 := ⟨⟨yok_Items_clear, by decide +kernel, by decide⟩, Or.inl (inWG 894 (by decide +kernel) (by decide +kernel)), inWG 742 (by decide +kernel) (by decide +kernel), inWG 743 (by decide +kernel) (by decide +kernel)⟩
def f_Val_beEmptyList (t0 : Nat) (M : ax_M) : Option (Nat × ax_M) :=
  gk t0 7 (kM (mI M t0 0 4) (fun M2 => kM (mJ M2 t0 1 0) (fun M3 => bnd (f_Items_clear (t0 + 1) M3) (fun q4 M5 => some (t0, M5)))))
set_option maxHeartbeats 4000000 in
set_option maxRecDepth 100000 in
theorem c_Val_beEmptyList {l : Launch} {g : ax_G} {t0 : Nat} {M : ax_M} {r : Nat} {M' : ax_M} (h : f_Val_beEmptyList t0 M = some (r, M')) : Ctr l g true Y_Val_beEmptyList 2 [vA t0] M (some (vA r), M') := by
  refine Ctr.ofAW yok_Val_beEmptyList (Nat.le_of_ble_eq_true rfl) (Or.inl rfl) ?_
  show AW l g true Y_Val_beEmptyList 2 (some (vA r), M') 0 [(0, vA t0)] [] M
  unfold f_Val_beEmptyList at h
  refine A_aload_n 0 rfl rfl rfl ?_
  refine A_iconst (v := 4) rfl (by decide) ?_
  obtain ⟨hg1, h⟩ := gk_out h
  refine A_putI rfl (Or.inl fl_Val_9) rfl hg1 (Or.inl rfl) rfl ?_
  obtain ⟨M2, hM2, h⟩ := kM_out h
  refine A_mem hM2 ?_
  refine A_aload_n 0 rfl rfl rfl ?_
  refine A_lconst (v := 0) rfl (by decide) ?_
  refine A_pc (pc' := 7) rfl ?_
  refine A_putJ rfl (Or.inl fl_Val_20) rfl hg1 (Or.inl rfl) rfl ?_
  obtain ⟨M3, hM3, h⟩ := kM_out h
  refine A_mem hM3 ?_
  refine A_aload_n 0 rfl rfl rfl ?_
  refine A_getL (r := t0 + 1) rfl fl_Val_16 rfl hg1 rfl rfl ?_
  obtain ⟨q4, M5, hcq4, h⟩ := bnd_out h
  refine A_callV (as := []) (st' := []) (r1 := (none, M5)) rfl ml_Val_28 rfl (by decide) (lf_Val_1 hg1).1 (Or.inl rfl) rfl rfl (Nat.le_of_ble_eq_true rfl) (by decide) (c_Items_clear hcq4) (Or.inl rfl) ?_
  refine A_pc (pc' := 17) rfl ?_
  refine A_stk (st' := []) rfl ?_
  refine A_aload_n 0 rfl rfl rfl ?_
  obtain ⟨rfl, rfl⟩ := leaf h
  exact A_aret rfl rfl
def tb_Val_isError : List (Nat × Instr × Nat) := [(0, .aload_n 0, 1), (1, .getfield 9, 3), (4, .iconst (-1), 1), (5, .if_icmp .ne 7, 3), (8, .iconst 1, 1), (9, .goto 4, 3), (12, .iconst 0, 1), (13, .ireturn, 1)]
def Y_Val_isError : ax_Y := (⟨"MethodWarden$Value", "isError", "()Z"⟩, prog_11_method_8_code, 1, some .boolean, tb_Val_isError)
theorem yok_Val_isError : yOK Y_Val_isError := ⟨by decide +kernel, by decide +kernel, inWG 929 (by decide +kernel) (by decide +kernel), inWG 103 (by decide +kernel) (by decide +kernel), by decide +kernel⟩
def f_Val_isError (t0 : Nat) (M : ax_M) : Option (Int32 × ax_M) :=
  gk t0 7 (if (gI M t0 0) = ((-1)) then (some (1, M)) else (some (0, M)))
set_option maxHeartbeats 4000000 in
set_option maxRecDepth 100000 in
theorem c_Val_isError {l : Launch} {g : ax_G} {t0 : Nat} {M : ax_M} {r : Int32} {M' : ax_M} (h : f_Val_isError t0 M = some (r, M')) : Ctr l g true Y_Val_isError 1 [vA t0] M (some (vI r), M') := by
  refine Ctr.ofAW yok_Val_isError (Nat.le_of_ble_eq_true rfl) (Or.inl rfl) ?_
  show AW l g true Y_Val_isError 1 (some (vI r), M') 0 [(0, vA t0)] [] M
  unfold f_Val_isError at h
  refine A_aload_n 0 rfl rfl rfl ?_
  obtain ⟨hg1, h⟩ := gk_out h
  refine A_getI rfl fl_Val_9 rfl hg1 (Or.inl rfl) ?_
  refine A_iconst (v := (-1)) rfl (by decide) ?_
  refine A_icmp_ne (tgt := 12) rfl (by decide) (fun hc2 => ?_) (fun hc2 => ?_)
  · rw [if_neg hc2] at h
    refine A_iconst (v := 0) rfl (by decide) ?_
    obtain ⟨rfl, rfl⟩ := leaf h
    exact A_zret rfl rfl (Or.inl rfl)
  · rw [if_pos hc2] at h
    refine A_pc (pc' := 8) rfl ?_
    refine A_iconst (v := 1) rfl (by decide) ?_
    refine A_goto (tgt := 13) rfl (by decide) ?_
    obtain ⟨rfl, rfl⟩ := leaf h
    exact A_zret rfl rfl (Or.inr rfl)
def tb_Val_isNothing : List (Nat × Instr × Nat) := [(0, .aload_n 0, 1), (1, .getfield 9, 3), (4, .ifCond .ne 7, 3), (7, .iconst 1, 1), (8, .goto 4, 3), (11, .iconst 0, 1), (12, .ireturn, 1)]
def Y_Val_isNothing : ax_Y := (⟨"MethodWarden$Value", "isNothing", "()Z"⟩, prog_11_method_9_code, 1, some .boolean, tb_Val_isNothing)
theorem yok_Val_isNothing : yOK Y_Val_isNothing := ⟨by decide +kernel, by decide +kernel, inWG 881 (by decide +kernel) (by decide +kernel), inWG 103 (by decide +kernel) (by decide +kernel), by decide +kernel⟩
def f_Val_isNothing (t0 : Nat) (M : ax_M) : Option (Int32 × ax_M) :=
  gk t0 7 (if (gI M t0 0) = 0 then (some (1, M)) else (some (0, M)))
set_option maxHeartbeats 4000000 in
set_option maxRecDepth 100000 in
theorem c_Val_isNothing {l : Launch} {g : ax_G} {t0 : Nat} {M : ax_M} {r : Int32} {M' : ax_M} (h : f_Val_isNothing t0 M = some (r, M')) : Ctr l g true Y_Val_isNothing 1 [vA t0] M (some (vI r), M') := by
  refine Ctr.ofAW yok_Val_isNothing (Nat.le_of_ble_eq_true rfl) (Or.inl rfl) ?_
  show AW l g true Y_Val_isNothing 1 (some (vI r), M') 0 [(0, vA t0)] [] M
  unfold f_Val_isNothing at h
  refine A_aload_n 0 rfl rfl rfl ?_
  obtain ⟨hg1, h⟩ := gk_out h
  refine A_getI rfl fl_Val_9 rfl hg1 (Or.inl rfl) ?_
  refine A_if_ne (tgt := 11) rfl (by decide) (fun hc2 => ?_) (fun hc2 => ?_)
  · rw [if_neg hc2] at h
    refine A_iconst (v := 0) rfl (by decide) ?_
    obtain ⟨rfl, rfl⟩ := leaf h
    exact A_zret rfl rfl (Or.inl rfl)
  · rw [if_pos hc2] at h
    refine A_pc (pc' := 7) rfl ?_
    refine A_iconst (v := 1) rfl (by decide) ?_
    refine A_goto (tgt := 12) rfl (by decide) ?_
    obtain ⟨rfl, rfl⟩ := leaf h
    exact A_zret rfl rfl (Or.inr rfl)
def tb_Val_isTruth : List (Nat × Instr × Nat) := [(0, .aload_n 0, 1), (1, .getfield 9, 3), (4, .iconst 1, 1), (5, .if_icmp .ne 7, 3), (8, .iconst 1, 1), (9, .goto 4, 3), (12, .iconst 0, 1), (13, .ireturn, 1)]
def Y_Val_isTruth : ax_Y := (⟨"MethodWarden$Value", "isTruth", "()Z"⟩, prog_11_method_10_code, 1, some .boolean, tb_Val_isTruth)
theorem yok_Val_isTruth : yOK Y_Val_isTruth := ⟨by decide +kernel, by decide +kernel, inWG 865 (by decide +kernel) (by decide +kernel), inWG 103 (by decide +kernel) (by decide +kernel), by decide +kernel⟩
def f_Val_isTruth (t0 : Nat) (M : ax_M) : Option (Int32 × ax_M) :=
  gk t0 7 (if (gI M t0 0) = 1 then (some (1, M)) else (some (0, M)))
set_option maxHeartbeats 4000000 in
set_option maxRecDepth 100000 in
theorem c_Val_isTruth {l : Launch} {g : ax_G} {t0 : Nat} {M : ax_M} {r : Int32} {M' : ax_M} (h : f_Val_isTruth t0 M = some (r, M')) : Ctr l g true Y_Val_isTruth 1 [vA t0] M (some (vI r), M') := by
  refine Ctr.ofAW yok_Val_isTruth (Nat.le_of_ble_eq_true rfl) (Or.inl rfl) ?_
  show AW l g true Y_Val_isTruth 1 (some (vI r), M') 0 [(0, vA t0)] [] M
  unfold f_Val_isTruth at h
  refine A_aload_n 0 rfl rfl rfl ?_
  obtain ⟨hg1, h⟩ := gk_out h
  refine A_getI rfl fl_Val_9 rfl hg1 (Or.inl rfl) ?_
  refine A_iconst (v := 1) rfl (by decide) ?_
  refine A_icmp_ne (tgt := 12) rfl (by decide) (fun hc2 => ?_) (fun hc2 => ?_)
  · rw [if_neg hc2] at h
    refine A_iconst (v := 0) rfl (by decide) ?_
    obtain ⟨rfl, rfl⟩ := leaf h
    exact A_zret rfl rfl (Or.inl rfl)
  · rw [if_pos hc2] at h
    refine A_pc (pc' := 8) rfl ?_
    refine A_iconst (v := 1) rfl (by decide) ?_
    refine A_goto (tgt := 13) rfl (by decide) ?_
    obtain ⟨rfl, rfl⟩ := leaf h
    exact A_zret rfl rfl (Or.inr rfl)
def tb_Val_isTrue : List (Nat × Instr × Nat) := [(0, .aload_n 0, 1), (1, .getfield 9, 3), (4, .iconst 1, 1), (5, .if_icmp .ne 16, 3), (8, .aload_n 0, 1), (9, .getfield 20, 3), (12, .lconst 1, 1), (13, .lcmp, 1), (14, .ifCond .ne 7, 3), (17, .iconst 1, 1), (18, .goto 4, 3), (21, .iconst 0, 1), (22, .ireturn, 1)]
def Y_Val_isTrue : ax_Y := (⟨"MethodWarden$Value", "isTrue", "()Z"⟩, prog_11_method_11_code, 1, some .boolean, tb_Val_isTrue)
theorem yok_Val_isTrue : yOK Y_Val_isTrue := ⟨by decide +kernel, by decide +kernel, inWG 869 (by decide +kernel) (by decide +kernel), inWG 103 (by decide +kernel) (by decide +kernel), by decide +kernel⟩
def f_Val_isTrue (t0 : Nat) (M : ax_M) : Option (Int32 × ax_M) :=
  gk t0 7 (if (gI M t0 0) = 1 then (if (lg_cmp (gJ M t0 1) 1) = 0 then (some (1, M)) else (some (0, M))) else (some (0, M)))
set_option maxHeartbeats 4000000 in
set_option maxRecDepth 100000 in
theorem c_Val_isTrue {l : Launch} {g : ax_G} {t0 : Nat} {M : ax_M} {r : Int32} {M' : ax_M} (h : f_Val_isTrue t0 M = some (r, M')) : Ctr l g true Y_Val_isTrue 1 [vA t0] M (some (vI r), M') := by
  refine Ctr.ofAW yok_Val_isTrue (Nat.le_of_ble_eq_true rfl) (Or.inl rfl) ?_
  show AW l g true Y_Val_isTrue 1 (some (vI r), M') 0 [(0, vA t0)] [] M
  unfold f_Val_isTrue at h
  refine A_aload_n 0 rfl rfl rfl ?_
  obtain ⟨hg1, h⟩ := gk_out h
  refine A_getI rfl fl_Val_9 rfl hg1 (Or.inl rfl) ?_
  refine A_iconst (v := 1) rfl (by decide) ?_
  refine A_icmp_ne (tgt := 21) rfl (by decide) (fun hc2 => ?_) (fun hc2 => ?_)
  · rw [if_neg hc2] at h
    refine A_iconst (v := 0) rfl (by decide) ?_
    obtain ⟨rfl, rfl⟩ := leaf h
    exact A_zret rfl rfl (Or.inl rfl)
  · rw [if_pos hc2] at h
    refine A_pc (pc' := 8) rfl ?_
    refine A_aload_n 0 rfl rfl rfl ?_
    refine A_getJ rfl fl_Val_20 rfl hg1 (Or.inl rfl) ?_
    refine A_lconst (v := 1) rfl (by decide) ?_
    refine A_lcmp rfl ?_
    refine A_if_ne (tgt := 21) rfl (by decide) (fun hc3 => ?_) (fun hc3 => ?_)
    · rw [if_neg hc3] at h
      refine A_iconst (v := 0) rfl (by decide) ?_
      obtain ⟨rfl, rfl⟩ := leaf h
      exact A_zret rfl rfl (Or.inl rfl)
    · rw [if_pos hc3] at h
      refine A_pc (pc' := 17) rfl ?_
      refine A_iconst (v := 1) rfl (by decide) ?_
      refine A_goto (tgt := 22) rfl (by decide) ?_
      obtain ⟨rfl, rfl⟩ := leaf h
      exact A_zret rfl rfl (Or.inr rfl)
def tb_Val_isNumber : List (Nat × Instr × Nat) := [(0, .aload_n 0, 1), (1, .getfield 9, 3), (4, .iconst 2, 1), (5, .if_icmp .eq 11, 3), (8, .aload_n 0, 1), (9, .getfield 9, 3), (12, .iconst 3, 1), (13, .if_icmp .ne 7, 3), (16, .iconst 1, 1), (17, .goto 4, 3), (20, .iconst 0, 1), (21, .ireturn, 1)]
def Y_Val_isNumber : ax_Y := (⟨"MethodWarden$Value", "isNumber", "()Z"⟩, prog_11_method_12_code, 1, some .boolean, tb_Val_isNumber)
theorem yok_Val_isNumber : yOK Y_Val_isNumber := ⟨by decide +kernel, by decide +kernel, inWG 942 (by decide +kernel) (by decide +kernel), inWG 103 (by decide +kernel) (by decide +kernel), by decide +kernel⟩
def f_Val_isNumber (t0 : Nat) (M : ax_M) : Option (Int32 × ax_M) :=
  gk t0 7 (if (gI M t0 0) = 2 then (some (1, M)) else (if (gI M t0 0) = 3 then (some (1, M)) else (some (0, M))))
set_option maxHeartbeats 4000000 in
set_option maxRecDepth 100000 in
theorem c_Val_isNumber {l : Launch} {g : ax_G} {t0 : Nat} {M : ax_M} {r : Int32} {M' : ax_M} (h : f_Val_isNumber t0 M = some (r, M')) : Ctr l g true Y_Val_isNumber 1 [vA t0] M (some (vI r), M') := by
  refine Ctr.ofAW yok_Val_isNumber (Nat.le_of_ble_eq_true rfl) (Or.inl rfl) ?_
  show AW l g true Y_Val_isNumber 1 (some (vI r), M') 0 [(0, vA t0)] [] M
  unfold f_Val_isNumber at h
  refine A_aload_n 0 rfl rfl rfl ?_
  obtain ⟨hg1, h⟩ := gk_out h
  refine A_getI rfl fl_Val_9 rfl hg1 (Or.inl rfl) ?_
  refine A_iconst (v := 2) rfl (by decide) ?_
  refine A_icmp_eq (tgt := 16) rfl (by decide) (fun hc2 => ?_) (fun hc2 => ?_)
  · rw [if_pos hc2] at h
    refine A_iconst (v := 1) rfl (by decide) ?_
    refine A_goto (tgt := 21) rfl (by decide) ?_
    obtain ⟨rfl, rfl⟩ := leaf h
    exact A_zret rfl rfl (Or.inr rfl)
  · rw [if_neg hc2] at h
    refine A_pc (pc' := 8) rfl ?_
    refine A_aload_n 0 rfl rfl rfl ?_
    refine A_getI rfl fl_Val_9 rfl hg1 (Or.inl rfl) ?_
    refine A_iconst (v := 3) rfl (by decide) ?_
    refine A_icmp_ne (tgt := 20) rfl (by decide) (fun hc3 => ?_) (fun hc3 => ?_)
    · rw [if_neg hc3] at h
      refine A_iconst (v := 0) rfl (by decide) ?_
      obtain ⟨rfl, rfl⟩ := leaf h
      exact A_zret rfl rfl (Or.inl rfl)
    · rw [if_pos hc3] at h
      refine A_pc (pc' := 16) rfl ?_
      refine A_iconst (v := 1) rfl (by decide) ?_
      refine A_goto (tgt := 21) rfl (by decide) ?_
      obtain ⟨rfl, rfl⟩ := leaf h
      exact A_zret rfl rfl (Or.inr rfl)
def tb_Val_isList : List (Nat × Instr × Nat) := [(0, .aload_n 0, 1), (1, .getfield 9, 3), (4, .iconst 4, 1), (5, .if_icmp .ne 7, 3), (8, .iconst 1, 1), (9, .goto 4, 3), (12, .iconst 0, 1), (13, .ireturn, 1)]
def Y_Val_isList : ax_Y := (⟨"MethodWarden$Value", "isList", "()Z"⟩, prog_11_method_13_code, 1, some .boolean, tb_Val_isList)
theorem yok_Val_isList : yOK Y_Val_isList := ⟨by decide +kernel, by decide +kernel, inWG 889 (by decide +kernel) (by decide +kernel), inWG 103 (by decide +kernel) (by decide +kernel), by decide +kernel⟩
def f_Val_isList (t0 : Nat) (M : ax_M) : Option (Int32 × ax_M) :=
  gk t0 7 (if (gI M t0 0) = 4 then (some (1, M)) else (some (0, M)))
set_option maxHeartbeats 4000000 in
set_option maxRecDepth 100000 in
theorem c_Val_isList {l : Launch} {g : ax_G} {t0 : Nat} {M : ax_M} {r : Int32} {M' : ax_M} (h : f_Val_isList t0 M = some (r, M')) : Ctr l g true Y_Val_isList 1 [vA t0] M (some (vI r), M') := by
  refine Ctr.ofAW yok_Val_isList (Nat.le_of_ble_eq_true rfl) (Or.inl rfl) ?_
  show AW l g true Y_Val_isList 1 (some (vI r), M') 0 [(0, vA t0)] [] M
  unfold f_Val_isList at h
  refine A_aload_n 0 rfl rfl rfl ?_
  obtain ⟨hg1, h⟩ := gk_out h
  refine A_getI rfl fl_Val_9 rfl hg1 (Or.inl rfl) ?_
  refine A_iconst (v := 4) rfl (by decide) ?_
  refine A_icmp_ne (tgt := 12) rfl (by decide) (fun hc2 => ?_) (fun hc2 => ?_)
  · rw [if_neg hc2] at h
    refine A_iconst (v := 0) rfl (by decide) ?_
    obtain ⟨rfl, rfl⟩ := leaf h
    exact A_zret rfl rfl (Or.inl rfl)
  · rw [if_pos hc2] at h
    refine A_pc (pc' := 8) rfl ?_
    refine A_iconst (v := 1) rfl (by decide) ?_
    refine A_goto (tgt := 13) rfl (by decide) ?_
    obtain ⟨rfl, rfl⟩ := leaf h
    exact A_zret rfl rfl (Or.inr rfl)
def tb_Val_asLong : List (Nat × Instr × Nat) := [(0, .aload_n 0, 1), (1, .getfield 9, 3), (4, .iconst 4, 1), (5, .if_icmp .ne 14, 3), (8, .aload_n 0, 1), (9, .getfield 16, 3), (12, .getfield 31, 3), (15, .i2l, 1), (16, .goto 7, 3), (19, .aload_n 0, 1), (20, .getfield 20, 3), (23, .lreturn, 1)]
def Y_Val_asLong : ax_Y := (⟨"MethodWarden$Value", "asLong", "()J"⟩, prog_11_method_14_code, 1, some .long, tb_Val_asLong)
theorem yok_Val_asLong : yOK Y_Val_asLong := ⟨by decide +kernel, by decide +kernel, inWG 1051 (by decide +kernel) (by decide +kernel), inWG 103 (by decide +kernel) (by decide +kernel), by decide +kernel⟩
theorem fl_Val_31 : fldOK "MethodWarden$Value" 31 5 1 false := ⟨_, _, _, cls_Items, by decide, by decide, rfl, Or.inr ⟨"MethodWarden", inNW 248 (by decide +kernel) (by decide +kernel)⟩⟩
def f_Val_asLong (t0 : Nat) (M : ax_M) : Option (Int64 × ax_M) :=
  gk t0 7 (if (gI M t0 0) = 4 then (some (Int32.toInt64 (gI M (t0 + 1) 1), M)) else (some (gJ M t0 1, M)))
set_option maxHeartbeats 4000000 in
set_option maxRecDepth 100000 in
theorem c_Val_asLong {l : Launch} {g : ax_G} {t0 : Nat} {M : ax_M} {r : Int64} {M' : ax_M} (h : f_Val_asLong t0 M = some (r, M')) : Ctr l g true Y_Val_asLong 1 [vA t0] M (some (vJ r), M') := by
  refine Ctr.ofAW yok_Val_asLong (Nat.le_of_ble_eq_true rfl) (Or.inl rfl) ?_
  show AW l g true Y_Val_asLong 1 (some (vJ r), M') 0 [(0, vA t0)] [] M
  unfold f_Val_asLong at h
  refine A_aload_n 0 rfl rfl rfl ?_
  obtain ⟨hg1, h⟩ := gk_out h
  refine A_getI rfl fl_Val_9 rfl hg1 (Or.inl rfl) ?_
  refine A_iconst (v := 4) rfl (by decide) ?_
  refine A_icmp_ne (tgt := 19) rfl (by decide) (fun hc2 => ?_) (fun hc2 => ?_)
  · rw [if_neg hc2] at h
    refine A_aload_n 0 rfl rfl rfl ?_
    refine A_getJ rfl fl_Val_20 rfl hg1 (Or.inl rfl) ?_
    obtain ⟨rfl, rfl⟩ := leaf h
    exact A_lret rfl rfl
  · rw [if_pos hc2] at h
    refine A_pc (pc' := 8) rfl ?_
    refine A_aload_n 0 rfl rfl rfl ?_
    refine A_getL (r := t0 + 1) rfl fl_Val_16 rfl hg1 rfl rfl ?_
    refine A_getI rfl fl_Val_31 rfl (lf_Val_1 hg1).1 (Or.inl rfl) ?_
    refine A_i2l rfl ?_
    refine A_goto (tgt := 23) rfl (by decide) ?_
    refine A_pc (pc' := 23) rfl ?_
    obtain ⟨rfl, rfl⟩ := leaf h
    exact A_lret rfl rfl
def tb_Val_sameAs : List (Nat × Instr × Nat) := [(0, .aload_n 0, 1), (1, .invokevirtual 34, 3), (4, .ifCond .eq 28, 3), (7, .aload_n 1, 1), (8, .invokevirtual 34, 3), (11, .ifCond .eq 21, 3), (14, .aload_n 0, 1), (15, .getfield 20, 3), (18, .aload_n 1, 1), (19, .getfield 20, 3), (22, .lcmp, 1), (23, .ifCond .ne 7, 3), (26, .iconst 1, 1), (27, .goto 4, 3), (30, .iconst 0, 1), (31, .ireturn, 1), (32, .aload_n 0, 1), (33, .getfield 9, 3), (36, .aload_n 1, 1), (37, .getfield 9, 3), (40, .if_icmp .eq 5, 3), (43, .iconst 0, 1), (44, .ireturn, 1), (45, .aload_n 0, 1), (46, .invokevirtual 38, 3), (49, .ifCond .eq 17, 3), (52, .aload_n 0, 1), (53, .getfield 16, 3), (56, .aload_n 1, 1), (57, .getfield 16, 3), (60, .invokevirtual 41, 3), (63, .goto 20, 3), (66, .aload_n 0, 1), (67, .getfield 20, 3), (70, .aload_n 1, 1), (71, .getfield 20, 3), (74, .lcmp, 1), (75, .ifCond .ne 7, 3), (78, .iconst 1, 1), (79, .goto 4, 3), (82, .iconst 0, 1), (83, .ireturn, 1)]
def Y_Val_sameAs : ax_Y := (⟨"MethodWarden$Value", "sameAs", "(LMethodWarden$Value;)Z"⟩, prog_11_method_15_code, 2, some .boolean, tb_Val_sameAs)
theorem yok_Val_sameAs : yOK Y_Val_sameAs := ⟨by decide +kernel, by decide +kernel, inWG 960 (by decide +kernel) (by decide +kernel), inWG 103 (by decide +kernel) (by decide +kernel), by decide +kernel⟩
theorem ml_Val_34 : mlV "MethodWarden$Value" 34 Y_Val_isNumber 0 := ⟨⟨yok_Val_isNumber, by decide +kernel, by decide⟩, Or.inl (inWG 961 (by decide +kernel) (by decide +kernel)), inWG 940 (by decide +kernel) (by decide +kernel), inWG 941 (by decide +kernel) (by decide +kernel)⟩
theorem ml_Val_38 : mlV "MethodWarden$Value" 38 Y_Val_isList 0 := ⟨⟨yok_Val_isList, by decide +kernel, by decide⟩, Or.inl (inWG 962 (by decide +kernel) (by decide +kernel)), inWG 887 (by decide +kernel) (by decide +kernel), inWG 888 (by decide +kernel) (by decide +kernel)⟩
theorem ml_Val_41 : mlV "MethodWarden$Value" 41 Y_Items_sameAs 1 := ⟨⟨yok_Items_sameAs, by decide +kernel, by decide⟩, Or.inl (inWG 963 (by decide +kernel) (by decide +kernel)), inWG 964 (by decide +kernel) (by decide +kernel), inWG 965 (by decide +kernel) (by decide +kernel)⟩
def f_Val_sameAs_32 (l0 : Nat) (l1 : Nat) (M : ax_M) : Option (Int32 × ax_M) :=
  gk l0 7 (gk l1 7 (if (gI M l0 0) = (gI M l1 0) then (bnd (f_Val_isList l0 M) (fun q8 M9 => if q8 = 0 then (if (lg_cmp (gJ M9 l0 1) (gJ M9 l1 1)) = 0 then (some (1, M9)) else (some (0, M9))) else (bnd (f_Items_sameAs (l0 + 1) (l1 + 1) M9) (fun q12 M13 => g2 q12 (some (q12, M13)))))) else (some (0, M))))
set_option maxHeartbeats 4000000 in
set_option maxRecDepth 100000 in
theorem o_Val_sameAs_32 {l : Launch} {g : ax_G} (l0 : Nat) (l1 : Nat) (M : ax_M) (r : Int32) (M' : ax_M) (h : f_Val_sameAs_32  l0 l1 M = some (r, M')) : AW l g true Y_Val_sameAs 2 (some (vI r), M') 32 [(0, vA l0), (1, vA l1)] [] M := by
  unfold f_Val_sameAs_32 at h
  refine A_aload_n 0 rfl rfl rfl ?_
  obtain ⟨hg5, h⟩ := gk_out h
  refine A_getI rfl fl_Val_9 rfl hg5 (Or.inl rfl) ?_
  refine A_aload_n 1 rfl rfl rfl ?_
  obtain ⟨hg6, h⟩ := gk_out h
  refine A_getI rfl fl_Val_9 rfl hg6 (Or.inl rfl) ?_
  refine A_icmp_eq (tgt := 45) rfl (by decide) (fun hc7 => ?_) (fun hc7 => ?_)
  · rw [if_pos hc7] at h
    refine A_aload_n 0 rfl rfl rfl ?_
    obtain ⟨q8, M9, hcq8, h⟩ := bnd_out h
    refine A_callV (as := []) (st' := []) (r1 := (some (vI q8), M9)) rfl ml_Val_38 rfl (by decide) hg5 (Or.inl rfl) rfl rfl (Nat.le_of_ble_eq_true rfl) (by decide) (c_Val_isList hcq8) (Or.inl rfl) ?_
    refine A_pc (pc' := 49) rfl ?_
    refine A_stk (st' := [vI q8]) rfl ?_
    refine A_if_eq (tgt := 66) rfl (by decide) (fun hc10 => ?_) (fun hc10 => ?_)
    · rw [if_pos hc10] at h
      refine A_aload_n 0 rfl rfl rfl ?_
      refine A_getJ rfl fl_Val_20 rfl hg5 (Or.inl rfl) ?_
      refine A_aload_n 1 rfl rfl rfl ?_
      refine A_getJ rfl fl_Val_20 rfl hg6 (Or.inl rfl) ?_
      refine A_lcmp rfl ?_
      refine A_pc (pc' := 75) rfl ?_
      refine A_if_ne (tgt := 82) rfl (by decide) (fun hc11 => ?_) (fun hc11 => ?_)
      · rw [if_neg hc11] at h
        refine A_iconst (v := 0) rfl (by decide) ?_
        obtain ⟨rfl, rfl⟩ := leaf h
        exact A_zret rfl rfl (Or.inl rfl)
      · rw [if_pos hc11] at h
        refine A_pc (pc' := 78) rfl ?_
        refine A_iconst (v := 1) rfl (by decide) ?_
        refine A_goto (tgt := 83) rfl (by decide) ?_
        obtain ⟨rfl, rfl⟩ := leaf h
        exact A_zret rfl rfl (Or.inr rfl)
    · rw [if_neg hc10] at h
      refine A_pc (pc' := 52) rfl ?_
      refine A_aload_n 0 rfl rfl rfl ?_
      refine A_getL (r := l0 + 1) rfl fl_Val_16 rfl hg5 rfl rfl ?_
      refine A_aload_n 1 rfl rfl rfl ?_
      refine A_getL (r := l1 + 1) rfl fl_Val_16 rfl hg6 rfl rfl ?_
      obtain ⟨q12, M13, hcq12, h⟩ := bnd_out h
      refine A_callV (as := [vA (l1 + 1)]) (st' := []) (r1 := (some (vI q12), M13)) rfl ml_Val_41 rfl (by decide) (lf_Val_1 hg5).1 (Or.inl rfl) rfl rfl (Nat.le_of_ble_eq_true rfl) (by decide) (c_Items_sameAs hcq12) (Or.inl rfl) ?_
      refine A_pc (pc' := 63) rfl ?_
      refine A_stk (st' := [vI q12]) rfl ?_
      refine A_pc (pc' := 63) rfl ?_
      refine A_goto (tgt := 83) rfl (by decide) ?_
      obtain ⟨hg14, h⟩ := g2_out h
      obtain ⟨rfl, rfl⟩ := leaf h
      exact A_zret rfl rfl hg14
  · rw [if_neg hc7] at h
    refine A_pc (pc' := 43) rfl ?_
    refine A_iconst (v := 0) rfl (by decide) ?_
    obtain ⟨rfl, rfl⟩ := leaf h
    exact A_zret rfl rfl (Or.inl rfl)
def f_Val_sameAs (t0 : Nat) (a1 : Nat) (M : ax_M) : Option (Int32 × ax_M) :=
  gk t0 7 (bnd (f_Val_isNumber t0 M) (fun q2 M3 => if q2 = 0 then (f_Val_sameAs_32 t0 a1 M3) else (gk a1 7 (bnd (f_Val_isNumber a1 M3) (fun q16 M17 => if q16 = 0 then (f_Val_sameAs_32 t0 a1 M17) else (if (lg_cmp (gJ M17 t0 1) (gJ M17 a1 1)) = 0 then (some (1, M17)) else (some (0, M17))))))))
set_option maxHeartbeats 4000000 in
set_option maxRecDepth 100000 in
theorem c_Val_sameAs {l : Launch} {g : ax_G} {t0 : Nat} {a1 : Nat} {M : ax_M} {r : Int32} {M' : ax_M} (h : f_Val_sameAs t0 a1 M = some (r, M')) : Ctr l g true Y_Val_sameAs 2 [vA t0, vA a1] M (some (vI r), M') := by
  refine Ctr.ofAW yok_Val_sameAs (Nat.le_of_ble_eq_true rfl) (Or.inl rfl) ?_
  show AW l g true Y_Val_sameAs 2 (some (vI r), M') 0 [(0, vA t0), (1, vA a1)] [] M
  unfold f_Val_sameAs at h
  refine A_aload_n 0 rfl rfl rfl ?_
  obtain ⟨hg1, h⟩ := gk_out h
  obtain ⟨q2, M3, hcq2, h⟩ := bnd_out h
  refine A_callV (as := []) (st' := []) (r1 := (some (vI q2), M3)) rfl ml_Val_34 rfl (by decide) hg1 (Or.inl rfl) rfl rfl (Nat.le_of_ble_eq_true rfl) (by decide) (c_Val_isNumber hcq2) (Or.inl rfl) ?_
  refine A_pc (pc' := 4) rfl ?_
  refine A_stk (st' := [vI q2]) rfl ?_
  refine A_if_eq (tgt := 32) rfl (by decide) (fun hc4 => ?_) (fun hc4 => ?_)
  · rw [if_pos hc4] at h
    refine A_pc (pc' := 32) rfl ?_
    refine A_sub (Ls' := [(0, vA t0), (1, vA a1)]) [0, 1] rfl ?_
    exact o_Val_sameAs_32  _ _ _ _ _ h
  · rw [if_neg hc4] at h
    refine A_pc (pc' := 7) rfl ?_
    refine A_aload_n 1 rfl rfl rfl ?_
    obtain ⟨hg15, h⟩ := gk_out h
    obtain ⟨q16, M17, hcq16, h⟩ := bnd_out h
    refine A_callV (as := []) (st' := []) (r1 := (some (vI q16), M17)) rfl ml_Val_34 rfl (by decide) hg15 (Or.inl rfl) rfl rfl (Nat.le_of_ble_eq_true rfl) (by decide) (c_Val_isNumber hcq16) (Or.inl rfl) ?_
    refine A_pc (pc' := 11) rfl ?_
    refine A_stk (st' := [vI q16]) rfl ?_
    refine A_if_eq (tgt := 32) rfl (by decide) (fun hc18 => ?_) (fun hc18 => ?_)
    · rw [if_pos hc18] at h
      refine A_pc (pc' := 32) rfl ?_
      refine A_sub (Ls' := [(0, vA t0), (1, vA a1)]) [0, 1] rfl ?_
      exact o_Val_sameAs_32  _ _ _ _ _ h
    · rw [if_neg hc18] at h
      refine A_pc (pc' := 14) rfl ?_
      refine A_aload_n 0 rfl rfl rfl ?_
      refine A_getJ rfl fl_Val_20 rfl hg1 (Or.inl rfl) ?_
      refine A_aload_n 1 rfl rfl rfl ?_
      refine A_getJ rfl fl_Val_20 rfl hg15 (Or.inl rfl) ?_
      refine A_lcmp rfl ?_
      refine A_pc (pc' := 23) rfl ?_
      refine A_if_ne (tgt := 30) rfl (by decide) (fun hc19 => ?_) (fun hc19 => ?_)
      · rw [if_neg hc19] at h
        refine A_iconst (v := 0) rfl (by decide) ?_
        obtain ⟨rfl, rfl⟩ := leaf h
        exact A_zret rfl rfl (Or.inl rfl)
      · rw [if_pos hc19] at h
        refine A_pc (pc' := 26) rfl ?_
        refine A_iconst (v := 1) rfl (by decide) ?_
        refine A_goto (tgt := 31) rfl (by decide) ?_
        obtain ⟨rfl, rfl⟩ := leaf h
        exact A_zret rfl rfl (Or.inr rfl)
end
section
/-! Token, Expression, Context, Guard, Method. Printed by gen_methods.py. -/
def tb_Tok_isPart : List (Nat × Instr × Nat) := [(0, .iload_n 0, 1), (1, .lookupswitch 61 #[(15, 59), (16, 59), (18, 59), (19, 59), (35, 59), (36, 59)], 59), (60, .iconst 0, 1), (61, .ireturn, 1), (62, .iconst 1, 1), (63, .ireturn, 1)]
def Y_Tok_isPart : ax_Y := (⟨"MethodWarden$Token", "isPart", "(I)Z"⟩, prog_10_method_2_code, 1, some .boolean, tb_Tok_isPart)
theorem yok_Tok_isPart : yOK Y_Tok_isPart := ⟨by decide +kernel, by decide +kernel, inWG 621 (by decide +kernel) (by decide +kernel), inWG 112 (by decide +kernel) (by decide +kernel), by decide +kernel⟩
def f_Tok_isPart (a0 : Int32) (M : ax_M) : Option (Int32 × ax_M) :=
  if a0 = 15 then (some (0, M)) else (if a0 = 16 then (some (0, M)) else (if a0 = 18 then (some (0, M)) else (if a0 = 19 then (some (0, M)) else (if a0 = 35 then (some (0, M)) else (if a0 = 36 then (some (0, M)) else (some (1, M)))))))
set_option maxHeartbeats 4000000 in
set_option maxRecDepth 100000 in
theorem c_Tok_isPart {l : Launch} {g : ax_G} {a0 : Int32} {M : ax_M} {r : Int32} {M' : ax_M} (h : f_Tok_isPart a0 M = some (r, M')) : Ctr l g true Y_Tok_isPart 1 [vI a0] M (some (vI r), M') := by
  refine Ctr.ofAW yok_Tok_isPart (Nat.le_of_ble_eq_true rfl) (Or.inl rfl) ?_
  show AW l g true Y_Tok_isPart 1 (some (vI r), M') 0 [(0, vI a0)] [] M
  unfold f_Tok_isPart at h
  refine A_iload_n 0 rfl rfl rfl ?_
  by_cases hc1 : a0 = 15
  · rw [if_pos hc1] at h
    refine A_lookup (tgt := 60) (off := 59) rfl (by decide) (by rw [hc1]; decide) (by decide) ?_
    refine A_iconst (v := 0) rfl (by decide) ?_
    obtain ⟨rfl, rfl⟩ := leaf h
    exact A_zret rfl rfl (Or.inl rfl)
  · rw [if_neg hc1] at h
    by_cases hc2 : a0 = 16
    · rw [if_pos hc2] at h
      refine A_lookup (tgt := 60) (off := 59) rfl (by decide) (by rw [hc2]; decide) (by decide) ?_
      refine A_iconst (v := 0) rfl (by decide) ?_
      obtain ⟨rfl, rfl⟩ := leaf h
      exact A_zret rfl rfl (Or.inl rfl)
    · rw [if_neg hc2] at h
      by_cases hc3 : a0 = 18
      · rw [if_pos hc3] at h
        refine A_lookup (tgt := 60) (off := 59) rfl (by decide) (by rw [hc3]; decide) (by decide) ?_
        refine A_iconst (v := 0) rfl (by decide) ?_
        obtain ⟨rfl, rfl⟩ := leaf h
        exact A_zret rfl rfl (Or.inl rfl)
      · rw [if_neg hc3] at h
        by_cases hc4 : a0 = 19
        · rw [if_pos hc4] at h
          refine A_lookup (tgt := 60) (off := 59) rfl (by decide) (by rw [hc4]; decide) (by decide) ?_
          refine A_iconst (v := 0) rfl (by decide) ?_
          obtain ⟨rfl, rfl⟩ := leaf h
          exact A_zret rfl rfl (Or.inl rfl)
        · rw [if_neg hc4] at h
          by_cases hc5 : a0 = 35
          · rw [if_pos hc5] at h
            refine A_lookup (tgt := 60) (off := 59) rfl (by decide) (by rw [hc5]; decide) (by decide) ?_
            refine A_iconst (v := 0) rfl (by decide) ?_
            obtain ⟨rfl, rfl⟩ := leaf h
            exact A_zret rfl rfl (Or.inl rfl)
          · rw [if_neg hc5] at h
            by_cases hc6 : a0 = 36
            · rw [if_pos hc6] at h
              refine A_lookup (tgt := 60) (off := 59) rfl (by decide) (by rw [hc6]; decide) (by decide) ?_
              refine A_iconst (v := 0) rfl (by decide) ?_
              obtain ⟨rfl, rfl⟩ := leaf h
              exact A_zret rfl rfl (Or.inl rfl)
            · rw [if_neg hc6] at h
              refine A_lookup (tgt := 62) rfl (by decide) (lk_def _ _ _ (fa_cons (ne_i hc1 (by decide)) (fa_cons (ne_i hc2 (by decide)) (fa_cons (ne_i hc3 (by decide)) (fa_cons (ne_i hc4 (by decide)) (fa_cons (ne_i hc5 (by decide)) (fa_cons (ne_i hc6 (by decide)) fa_nil))))))) (by decide) ?_
              refine A_iconst (v := 1) rfl (by decide) ?_
              obtain ⟨rfl, rfl⟩ := leaf h
              exact A_zret rfl rfl (Or.inr rfl)
def tb_Tok_isLeaf : List (Nat × Instr × Nat) := [(0, .iload_n 0, 1), (1, .iconst 2, 1), (2, .if_icmp .lt 13, 3), (5, .iload_n 0, 1), (6, .bipush 12, 2), (8, .if_icmp .gt 7, 3), (11, .iconst 1, 1), (12, .goto 4, 3), (15, .iconst 0, 1), (16, .ireturn, 1)]
def Y_Tok_isLeaf : ax_Y := (⟨"MethodWarden$Token", "isLeaf", "(I)Z"⟩, prog_10_method_3_code, 1, some .boolean, tb_Tok_isLeaf)
theorem yok_Tok_isLeaf : yOK Y_Tok_isLeaf := ⟨by decide +kernel, by decide +kernel, inWG 632 (by decide +kernel) (by decide +kernel), inWG 112 (by decide +kernel) (by decide +kernel), by decide +kernel⟩
def f_Tok_isLeaf (a0 : Int32) (M : ax_M) : Option (Int32 × ax_M) :=
  if a0 < 2 then (some (0, M)) else (if 12 < a0 then (some (0, M)) else (some (1, M)))
set_option maxHeartbeats 4000000 in
set_option maxRecDepth 100000 in
theorem c_Tok_isLeaf {l : Launch} {g : ax_G} {a0 : Int32} {M : ax_M} {r : Int32} {M' : ax_M} (h : f_Tok_isLeaf a0 M = some (r, M')) : Ctr l g true Y_Tok_isLeaf 1 [vI a0] M (some (vI r), M') := by
  refine Ctr.ofAW yok_Tok_isLeaf (Nat.le_of_ble_eq_true rfl) (Or.inl rfl) ?_
  show AW l g true Y_Tok_isLeaf 1 (some (vI r), M') 0 [(0, vI a0)] [] M
  unfold f_Tok_isLeaf at h
  refine A_iload_n 0 rfl rfl rfl ?_
  refine A_iconst (v := 2) rfl (by decide) ?_
  refine A_icmp_lt (tgt := 15) rfl (by decide) (fun hc1 => ?_) (fun hc1 => ?_)
  · rw [if_pos hc1] at h
    refine A_iconst (v := 0) rfl (by decide) ?_
    obtain ⟨rfl, rfl⟩ := leaf h
    exact A_zret rfl rfl (Or.inl rfl)
  · rw [if_neg hc1] at h
    refine A_pc (pc' := 5) rfl ?_
    refine A_iload_n 0 rfl rfl rfl ?_
    refine A_bipush (v := 12) rfl (by decide) ?_
    refine A_icmp_gt (tgt := 15) rfl (by decide) (fun hc2 => ?_) (fun hc2 => ?_)
    · rw [if_pos hc2] at h
      refine A_iconst (v := 0) rfl (by decide) ?_
      obtain ⟨rfl, rfl⟩ := leaf h
      exact A_zret rfl rfl (Or.inl rfl)
    · rw [if_neg hc2] at h
      refine A_pc (pc' := 11) rfl ?_
      refine A_iconst (v := 1) rfl (by decide) ?_
      refine A_goto (tgt := 16) rfl (by decide) ?_
      obtain ⟨rfl, rfl⟩ := leaf h
      exact A_zret rfl rfl (Or.inr rfl)
def tb_Tok_opensSquare : List (Nat × Instr × Nat) := [(0, .iload_n 0, 1), (1, .bipush 17, 2), (3, .if_icmp .eq 21, 3), (6, .iload_n 0, 1), (7, .bipush 38, 2), (9, .if_icmp .eq 15, 3), (12, .iload_n 0, 1), (13, .bipush 39, 2), (15, .if_icmp .eq 9, 3), (18, .iload_n 0, 1), (19, .bipush 40, 2), (21, .if_icmp .ne 7, 3), (24, .iconst 1, 1), (25, .goto 4, 3), (28, .iconst 0, 1), (29, .ireturn, 1)]
def Y_Tok_opensSquare : ax_Y := (⟨"MethodWarden$Token", "opensSquare", "(I)Z"⟩, prog_10_method_4_code, 1, some .boolean, tb_Tok_opensSquare)
theorem yok_Tok_opensSquare : yOK Y_Tok_opensSquare := ⟨by decide +kernel, by decide +kernel, inWG 664 (by decide +kernel) (by decide +kernel), inWG 112 (by decide +kernel) (by decide +kernel), by decide +kernel⟩
def f_Tok_opensSquare (a0 : Int32) (M : ax_M) : Option (Int32 × ax_M) :=
  if a0 = 17 then (some (1, M)) else (if a0 = 38 then (some (1, M)) else (if a0 = 39 then (some (1, M)) else (if a0 = 40 then (some (1, M)) else (some (0, M)))))
set_option maxHeartbeats 4000000 in
set_option maxRecDepth 100000 in
theorem c_Tok_opensSquare {l : Launch} {g : ax_G} {a0 : Int32} {M : ax_M} {r : Int32} {M' : ax_M} (h : f_Tok_opensSquare a0 M = some (r, M')) : Ctr l g true Y_Tok_opensSquare 1 [vI a0] M (some (vI r), M') := by
  refine Ctr.ofAW yok_Tok_opensSquare (Nat.le_of_ble_eq_true rfl) (Or.inl rfl) ?_
  show AW l g true Y_Tok_opensSquare 1 (some (vI r), M') 0 [(0, vI a0)] [] M
  unfold f_Tok_opensSquare at h
  refine A_iload_n 0 rfl rfl rfl ?_
  refine A_bipush (v := 17) rfl (by decide) ?_
  refine A_icmp_eq (tgt := 24) rfl (by decide) (fun hc1 => ?_) (fun hc1 => ?_)
  · rw [if_pos hc1] at h
    refine A_iconst (v := 1) rfl (by decide) ?_
    refine A_goto (tgt := 29) rfl (by decide) ?_
    obtain ⟨rfl, rfl⟩ := leaf h
    exact A_zret rfl rfl (Or.inr rfl)
  · rw [if_neg hc1] at h
    refine A_pc (pc' := 6) rfl ?_
    refine A_iload_n 0 rfl rfl rfl ?_
    refine A_bipush (v := 38) rfl (by decide) ?_
    refine A_icmp_eq (tgt := 24) rfl (by decide) (fun hc2 => ?_) (fun hc2 => ?_)
    · rw [if_pos hc2] at h
      refine A_iconst (v := 1) rfl (by decide) ?_
      refine A_goto (tgt := 29) rfl (by decide) ?_
      obtain ⟨rfl, rfl⟩ := leaf h
      exact A_zret rfl rfl (Or.inr rfl)
    · rw [if_neg hc2] at h
      refine A_pc (pc' := 12) rfl ?_
      refine A_iload_n 0 rfl rfl rfl ?_
      refine A_bipush (v := 39) rfl (by decide) ?_
      refine A_icmp_eq (tgt := 24) rfl (by decide) (fun hc3 => ?_) (fun hc3 => ?_)
      · rw [if_pos hc3] at h
        refine A_iconst (v := 1) rfl (by decide) ?_
        refine A_goto (tgt := 29) rfl (by decide) ?_
        obtain ⟨rfl, rfl⟩ := leaf h
        exact A_zret rfl rfl (Or.inr rfl)
      · rw [if_neg hc3] at h
        refine A_pc (pc' := 18) rfl ?_
        refine A_iload_n 0 rfl rfl rfl ?_
        refine A_bipush (v := 40) rfl (by decide) ?_
        refine A_icmp_ne (tgt := 28) rfl (by decide) (fun hc4 => ?_) (fun hc4 => ?_)
        · rw [if_neg hc4] at h
          refine A_iconst (v := 0) rfl (by decide) ?_
          obtain ⟨rfl, rfl⟩ := leaf h
          exact A_zret rfl rfl (Or.inl rfl)
        · rw [if_pos hc4] at h
          refine A_pc (pc' := 24) rfl ?_
          refine A_iconst (v := 1) rfl (by decide) ?_
          refine A_goto (tgt := 29) rfl (by decide) ?_
          obtain ⟨rfl, rfl⟩ := leaf h
          exact A_zret rfl rfl (Or.inr rfl)
def tb_Tok_isOfOne : List (Nat × Instr × Nat) := [(0, .iload_n 0, 1), (1, .lookupswitch 53 #[(13, 51), (14, 51), (34, 51), (41, 51), (43, 51)], 51), (52, .iconst 1, 1), (53, .ireturn, 1), (54, .iconst 0, 1), (55, .ireturn, 1)]
def Y_Tok_isOfOne : ax_Y := (⟨"MethodWarden$Token", "isOfOne", "(I)Z"⟩, prog_10_method_5_code, 1, some .boolean, tb_Tok_isOfOne)
theorem yok_Tok_isOfOne : yOK Y_Tok_isOfOne := ⟨by decide +kernel, by decide +kernel, inWG 606 (by decide +kernel) (by decide +kernel), inWG 112 (by decide +kernel) (by decide +kernel), by decide +kernel⟩
def f_Tok_isOfOne (a0 : Int32) (M : ax_M) : Option (Int32 × ax_M) :=
  if a0 = 13 then (some (1, M)) else (if a0 = 14 then (some (1, M)) else (if a0 = 34 then (some (1, M)) else (if a0 = 41 then (some (1, M)) else (if a0 = 43 then (some (1, M)) else (some (0, M))))))
set_option maxHeartbeats 4000000 in
set_option maxRecDepth 100000 in
theorem c_Tok_isOfOne {l : Launch} {g : ax_G} {a0 : Int32} {M : ax_M} {r : Int32} {M' : ax_M} (h : f_Tok_isOfOne a0 M = some (r, M')) : Ctr l g true Y_Tok_isOfOne 1 [vI a0] M (some (vI r), M') := by
  refine Ctr.ofAW yok_Tok_isOfOne (Nat.le_of_ble_eq_true rfl) (Or.inl rfl) ?_
  show AW l g true Y_Tok_isOfOne 1 (some (vI r), M') 0 [(0, vI a0)] [] M
  unfold f_Tok_isOfOne at h
  refine A_iload_n 0 rfl rfl rfl ?_
  by_cases hc1 : a0 = 13
  · rw [if_pos hc1] at h
    refine A_lookup (tgt := 52) (off := 51) rfl (by decide) (by rw [hc1]; decide) (by decide) ?_
    refine A_iconst (v := 1) rfl (by decide) ?_
    obtain ⟨rfl, rfl⟩ := leaf h
    exact A_zret rfl rfl (Or.inr rfl)
  · rw [if_neg hc1] at h
    by_cases hc2 : a0 = 14
    · rw [if_pos hc2] at h
      refine A_lookup (tgt := 52) (off := 51) rfl (by decide) (by rw [hc2]; decide) (by decide) ?_
      refine A_iconst (v := 1) rfl (by decide) ?_
      obtain ⟨rfl, rfl⟩ := leaf h
      exact A_zret rfl rfl (Or.inr rfl)
    · rw [if_neg hc2] at h
      by_cases hc3 : a0 = 34
      · rw [if_pos hc3] at h
        refine A_lookup (tgt := 52) (off := 51) rfl (by decide) (by rw [hc3]; decide) (by decide) ?_
        refine A_iconst (v := 1) rfl (by decide) ?_
        obtain ⟨rfl, rfl⟩ := leaf h
        exact A_zret rfl rfl (Or.inr rfl)
      · rw [if_neg hc3] at h
        by_cases hc4 : a0 = 41
        · rw [if_pos hc4] at h
          refine A_lookup (tgt := 52) (off := 51) rfl (by decide) (by rw [hc4]; decide) (by decide) ?_
          refine A_iconst (v := 1) rfl (by decide) ?_
          obtain ⟨rfl, rfl⟩ := leaf h
          exact A_zret rfl rfl (Or.inr rfl)
        · rw [if_neg hc4] at h
          by_cases hc5 : a0 = 43
          · rw [if_pos hc5] at h
            refine A_lookup (tgt := 52) (off := 51) rfl (by decide) (by rw [hc5]; decide) (by decide) ?_
            refine A_iconst (v := 1) rfl (by decide) ?_
            obtain ⟨rfl, rfl⟩ := leaf h
            exact A_zret rfl rfl (Or.inr rfl)
          · rw [if_neg hc5] at h
            refine A_lookup (tgt := 54) rfl (by decide) (lk_def _ _ _ (fa_cons (ne_i hc1 (by decide)) (fa_cons (ne_i hc2 (by decide)) (fa_cons (ne_i hc3 (by decide)) (fa_cons (ne_i hc4 (by decide)) (fa_cons (ne_i hc5 (by decide)) fa_nil)))))) (by decide) ?_
            refine A_iconst (v := 0) rfl (by decide) ?_
            obtain ⟨rfl, rfl⟩ := leaf h
            exact A_zret rfl rfl (Or.inl rfl)
def tb_Tok_rankOf : List (Nat × Instr × Nat) := [(0, .iload_n 0, 1), (1, .tableswitch 122 21 42 #[105, 107, 109, 109, 111, 111, 111, 111, 113, 113, 116, 116, 116, 119, 122, 122, 103, 122, 122, 122, 119, 103], 103), (104, .iconst 1, 1), (105, .ireturn, 1), (106, .iconst 2, 1), (107, .ireturn, 1), (108, .iconst 3, 1), (109, .ireturn, 1), (110, .iconst 4, 1), (111, .ireturn, 1), (112, .iconst 5, 1), (113, .ireturn, 1), (114, .bipush 6, 2), (116, .ireturn, 1), (117, .bipush 7, 2), (119, .ireturn, 1), (120, .bipush 8, 2), (122, .ireturn, 1), (123, .iconst 0, 1), (124, .ireturn, 1)]
def Y_Tok_rankOf : ax_Y := (⟨"MethodWarden$Token", "rankOf", "(I)I"⟩, prog_10_method_6_code, 1, some .int, tb_Tok_rankOf)
theorem yok_Tok_rankOf : yOK Y_Tok_rankOf := ⟨by decide +kernel, by decide +kernel, inWG 595 (by decide +kernel) (by decide +kernel), inWG 112 (by decide +kernel) (by decide +kernel), by decide +kernel⟩
def f_Tok_rankOf (a0 : Int32) (M : ax_M) : Option (Int32 × ax_M) :=
  if a0 = 21 then (some (2, M)) else (if a0 = 22 then (some (3, M)) else (if a0 = 23 then (some (4, M)) else (if a0 = 24 then (some (4, M)) else (if a0 = 25 then (some (5, M)) else (if a0 = 26 then (some (5, M)) else (if a0 = 27 then (some (5, M)) else (if a0 = 28 then (some (5, M)) else (if a0 = 29 then (some (6, M)) else (if a0 = 30 then (some (6, M)) else (if a0 = 31 then (some (7, M)) else (if a0 = 32 then (some (7, M)) else (if a0 = 33 then (some (7, M)) else (if a0 = 34 then (some (8, M)) else (if a0 = 37 then (some (1, M)) else (if a0 = 41 then (some (8, M)) else (if a0 = 42 then (some (1, M)) else (some (0, M))))))))))))))))))
set_option maxHeartbeats 4000000 in
set_option maxRecDepth 100000 in
theorem c_Tok_rankOf {l : Launch} {g : ax_G} {a0 : Int32} {M : ax_M} {r : Int32} {M' : ax_M} (h : f_Tok_rankOf a0 M = some (r, M')) : Ctr l g true Y_Tok_rankOf 1 [vI a0] M (some (vI r), M') := by
  refine Ctr.ofAW yok_Tok_rankOf (Nat.le_of_ble_eq_true rfl) (Or.inl rfl) ?_
  show AW l g true Y_Tok_rankOf 1 (some (vI r), M') 0 [(0, vI a0)] [] M
  unfold f_Tok_rankOf at h
  refine A_iload_n 0 rfl rfl rfl ?_
  by_cases hc1 : a0 = 21
  · rw [if_pos hc1] at h
    refine A_tableIn (tgt := 106) (off := 105) rfl (by rw [hc1]; decide) (by rw [hc1]; decide) (by rw [hc1]; rfl) (by decide) ?_
    refine A_iconst (v := 2) rfl (by decide) ?_
    obtain ⟨rfl, rfl⟩ := leaf h
    exact A_iret rfl rfl
  · rw [if_neg hc1] at h
    by_cases hc2 : a0 = 22
    · rw [if_pos hc2] at h
      refine A_tableIn (tgt := 108) (off := 107) rfl (by rw [hc2]; decide) (by rw [hc2]; decide) (by rw [hc2]; rfl) (by decide) ?_
      refine A_iconst (v := 3) rfl (by decide) ?_
      obtain ⟨rfl, rfl⟩ := leaf h
      exact A_iret rfl rfl
    · rw [if_neg hc2] at h
      by_cases hc3 : a0 = 23
      · rw [if_pos hc3] at h
        refine A_tableIn (tgt := 110) (off := 109) rfl (by rw [hc3]; decide) (by rw [hc3]; decide) (by rw [hc3]; rfl) (by decide) ?_
        refine A_iconst (v := 4) rfl (by decide) ?_
        obtain ⟨rfl, rfl⟩ := leaf h
        exact A_iret rfl rfl
      · rw [if_neg hc3] at h
        by_cases hc4 : a0 = 24
        · rw [if_pos hc4] at h
          refine A_tableIn (tgt := 110) (off := 109) rfl (by rw [hc4]; decide) (by rw [hc4]; decide) (by rw [hc4]; rfl) (by decide) ?_
          refine A_iconst (v := 4) rfl (by decide) ?_
          obtain ⟨rfl, rfl⟩ := leaf h
          exact A_iret rfl rfl
        · rw [if_neg hc4] at h
          by_cases hc5 : a0 = 25
          · rw [if_pos hc5] at h
            refine A_tableIn (tgt := 112) (off := 111) rfl (by rw [hc5]; decide) (by rw [hc5]; decide) (by rw [hc5]; rfl) (by decide) ?_
            refine A_iconst (v := 5) rfl (by decide) ?_
            obtain ⟨rfl, rfl⟩ := leaf h
            exact A_iret rfl rfl
          · rw [if_neg hc5] at h
            by_cases hc6 : a0 = 26
            · rw [if_pos hc6] at h
              refine A_tableIn (tgt := 112) (off := 111) rfl (by rw [hc6]; decide) (by rw [hc6]; decide) (by rw [hc6]; rfl) (by decide) ?_
              refine A_iconst (v := 5) rfl (by decide) ?_
              obtain ⟨rfl, rfl⟩ := leaf h
              exact A_iret rfl rfl
            · rw [if_neg hc6] at h
              by_cases hc7 : a0 = 27
              · rw [if_pos hc7] at h
                refine A_tableIn (tgt := 112) (off := 111) rfl (by rw [hc7]; decide) (by rw [hc7]; decide) (by rw [hc7]; rfl) (by decide) ?_
                refine A_iconst (v := 5) rfl (by decide) ?_
                obtain ⟨rfl, rfl⟩ := leaf h
                exact A_iret rfl rfl
              · rw [if_neg hc7] at h
                by_cases hc8 : a0 = 28
                · rw [if_pos hc8] at h
                  refine A_tableIn (tgt := 112) (off := 111) rfl (by rw [hc8]; decide) (by rw [hc8]; decide) (by rw [hc8]; rfl) (by decide) ?_
                  refine A_iconst (v := 5) rfl (by decide) ?_
                  obtain ⟨rfl, rfl⟩ := leaf h
                  exact A_iret rfl rfl
                · rw [if_neg hc8] at h
                  by_cases hc9 : a0 = 29
                  · rw [if_pos hc9] at h
                    refine A_tableIn (tgt := 114) (off := 113) rfl (by rw [hc9]; decide) (by rw [hc9]; decide) (by rw [hc9]; rfl) (by decide) ?_
                    refine A_bipush (v := 6) rfl (by decide) ?_
                    obtain ⟨rfl, rfl⟩ := leaf h
                    exact A_iret rfl rfl
                  · rw [if_neg hc9] at h
                    by_cases hc10 : a0 = 30
                    · rw [if_pos hc10] at h
                      refine A_tableIn (tgt := 114) (off := 113) rfl (by rw [hc10]; decide) (by rw [hc10]; decide) (by rw [hc10]; rfl) (by decide) ?_
                      refine A_bipush (v := 6) rfl (by decide) ?_
                      obtain ⟨rfl, rfl⟩ := leaf h
                      exact A_iret rfl rfl
                    · rw [if_neg hc10] at h
                      by_cases hc11 : a0 = 31
                      · rw [if_pos hc11] at h
                        refine A_tableIn (tgt := 117) (off := 116) rfl (by rw [hc11]; decide) (by rw [hc11]; decide) (by rw [hc11]; rfl) (by decide) ?_
                        refine A_bipush (v := 7) rfl (by decide) ?_
                        obtain ⟨rfl, rfl⟩ := leaf h
                        exact A_iret rfl rfl
                      · rw [if_neg hc11] at h
                        by_cases hc12 : a0 = 32
                        · rw [if_pos hc12] at h
                          refine A_tableIn (tgt := 117) (off := 116) rfl (by rw [hc12]; decide) (by rw [hc12]; decide) (by rw [hc12]; rfl) (by decide) ?_
                          refine A_bipush (v := 7) rfl (by decide) ?_
                          obtain ⟨rfl, rfl⟩ := leaf h
                          exact A_iret rfl rfl
                        · rw [if_neg hc12] at h
                          by_cases hc13 : a0 = 33
                          · rw [if_pos hc13] at h
                            refine A_tableIn (tgt := 117) (off := 116) rfl (by rw [hc13]; decide) (by rw [hc13]; decide) (by rw [hc13]; rfl) (by decide) ?_
                            refine A_bipush (v := 7) rfl (by decide) ?_
                            obtain ⟨rfl, rfl⟩ := leaf h
                            exact A_iret rfl rfl
                          · rw [if_neg hc13] at h
                            by_cases hc14 : a0 = 34
                            · rw [if_pos hc14] at h
                              refine A_tableIn (tgt := 120) (off := 119) rfl (by rw [hc14]; decide) (by rw [hc14]; decide) (by rw [hc14]; rfl) (by decide) ?_
                              refine A_bipush (v := 8) rfl (by decide) ?_
                              obtain ⟨rfl, rfl⟩ := leaf h
                              exact A_iret rfl rfl
                            · rw [if_neg hc14] at h
                              by_cases hc15 : a0 = 37
                              · rw [if_pos hc15] at h
                                refine A_tableIn (tgt := 104) (off := 103) rfl (by rw [hc15]; decide) (by rw [hc15]; decide) (by rw [hc15]; rfl) (by decide) ?_
                                refine A_iconst (v := 1) rfl (by decide) ?_
                                obtain ⟨rfl, rfl⟩ := leaf h
                                exact A_iret rfl rfl
                              · rw [if_neg hc15] at h
                                by_cases hc16 : a0 = 41
                                · rw [if_pos hc16] at h
                                  refine A_tableIn (tgt := 120) (off := 119) rfl (by rw [hc16]; decide) (by rw [hc16]; decide) (by rw [hc16]; rfl) (by decide) ?_
                                  refine A_bipush (v := 8) rfl (by decide) ?_
                                  obtain ⟨rfl, rfl⟩ := leaf h
                                  exact A_iret rfl rfl
                                · rw [if_neg hc16] at h
                                  by_cases hc17 : a0 = 42
                                  · rw [if_pos hc17] at h
                                    refine A_tableIn (tgt := 104) (off := 103) rfl (by rw [hc17]; decide) (by rw [hc17]; decide) (by rw [hc17]; rfl) (by decide) ?_
                                    refine A_iconst (v := 1) rfl (by decide) ?_
                                    obtain ⟨rfl, rfl⟩ := leaf h
                                    exact A_iret rfl rfl
                                  · rw [if_neg hc17] at h
                                    refine A_tableDef (tgt := 123) [21, 22, 23, 24, 25, 26, 27, 28, 29, 30, 31, 32, 33, 34, 37, 41, 42] rfl (by decide) (by decide) (fa_cons (ne_i hc1 (by decide)) (fa_cons (ne_i hc2 (by decide)) (fa_cons (ne_i hc3 (by decide)) (fa_cons (ne_i hc4 (by decide)) (fa_cons (ne_i hc5 (by decide)) (fa_cons (ne_i hc6 (by decide)) (fa_cons (ne_i hc7 (by decide)) (fa_cons (ne_i hc8 (by decide)) (fa_cons (ne_i hc9 (by decide)) (fa_cons (ne_i hc10 (by decide)) (fa_cons (ne_i hc11 (by decide)) (fa_cons (ne_i hc12 (by decide)) (fa_cons (ne_i hc13 (by decide)) (fa_cons (ne_i hc14 (by decide)) (fa_cons (ne_i hc15 (by decide)) (fa_cons (ne_i hc16 (by decide)) (fa_cons (ne_i hc17 (by decide)) fa_nil))))))))))))))))) (by decide) ?_
                                    refine A_iconst (v := 0) rfl (by decide) ?_
                                    obtain ⟨rfl, rfl⟩ := leaf h
                                    exact A_iret rfl rfl
def tb_Expr_isThere : List (Nat × Instr × Nat) := [(0, .aload_n 0, 1), (1, .getfield 28, 3), (4, .ifCond .le 7, 3), (7, .iconst 1, 1), (8, .goto 4, 3), (11, .iconst 0, 1), (12, .ireturn, 1)]
def Y_Expr_isThere : ax_Y := (⟨"MethodWarden$Expression", "isThere", "()Z"⟩, prog_3_method_2_code, 1, some .boolean, tb_Expr_isThere)
theorem yok_Expr_isThere : yOK Y_Expr_isThere := ⟨by decide +kernel, by decide +kernel, inWG 760 (by decide +kernel) (by decide +kernel), inWG 99 (by decide +kernel) (by decide +kernel), by decide +kernel⟩
theorem fl_Expr_28 : fldOK "MethodWarden$Expression" 28 3 5 false := ⟨_, _, _, cls_Expr, by decide, by decide, rfl, Or.inl (inWG 200 (by decide +kernel) (by decide +kernel))⟩
def f_Expr_isThere (t0 : Nat) (M : ax_M) : Option (Int32 × ax_M) :=
  gk t0 3 (if (gI M t0 5) ≤ 0 then (some (0, M)) else (some (1, M)))
set_option maxHeartbeats 4000000 in
set_option maxRecDepth 100000 in
theorem c_Expr_isThere {l : Launch} {g : ax_G} {t0 : Nat} {M : ax_M} {r : Int32} {M' : ax_M} (h : f_Expr_isThere t0 M = some (r, M')) : Ctr l g true Y_Expr_isThere 1 [vA t0] M (some (vI r), M') := by
  refine Ctr.ofAW yok_Expr_isThere (Nat.le_of_ble_eq_true rfl) (Or.inl rfl) ?_
  show AW l g true Y_Expr_isThere 1 (some (vI r), M') 0 [(0, vA t0)] [] M
  unfold f_Expr_isThere at h
  refine A_aload_n 0 rfl rfl rfl ?_
  obtain ⟨hg1, h⟩ := gk_out h
  refine A_getI rfl fl_Expr_28 rfl hg1 (Or.inl rfl) ?_
  refine A_if_le (tgt := 11) rfl (by decide) (fun hc2 => ?_) (fun hc2 => ?_)
  · rw [if_pos hc2] at h
    refine A_iconst (v := 0) rfl (by decide) ?_
    obtain ⟨rfl, rfl⟩ := leaf h
    exact A_zret rfl rfl (Or.inl rfl)
  · rw [if_neg hc2] at h
    refine A_pc (pc' := 7) rfl ?_
    refine A_iconst (v := 1) rfl (by decide) ?_
    refine A_goto (tgt := 12) rfl (by decide) ?_
    obtain ⟨rfl, rfl⟩ := leaf h
    exact A_zret rfl rfl (Or.inr rfl)
def tb_Expr_clear : List (Nat × Instr × Nat) := [(0, .aload_n 0, 1), (1, .iconst 0, 1), (2, .putfield 28, 3), (5, .return_, 1)]
def Y_Expr_clear : ax_Y := (⟨"MethodWarden$Expression", "clear", "()V"⟩, prog_3_method_3_code, 1, none, tb_Expr_clear)
theorem yok_Expr_clear : yOK Y_Expr_clear := ⟨by decide +kernel, by decide +kernel, inWG 465 (by decide +kernel) (by decide +kernel), inWG 99 (by decide +kernel) (by decide +kernel), by decide +kernel⟩
def f_Expr_clear (t0 : Nat) (M : ax_M) : Option (Unit × ax_M) :=
  gk t0 3 (kM (mI M t0 5 0) (fun M2 => some ((), M2)))
set_option maxHeartbeats 4000000 in
set_option maxRecDepth 100000 in
theorem c_Expr_clear {l : Launch} {g : ax_G} {t0 : Nat} {M : ax_M} {r : Unit} {M' : ax_M} (h : f_Expr_clear t0 M = some (r, M')) : Ctr l g true Y_Expr_clear 1 [vA t0] M (none, M') := by
  refine Ctr.ofAW yok_Expr_clear (Nat.le_of_ble_eq_true rfl) (Or.inl rfl) ?_
  show AW l g true Y_Expr_clear 1 (none, M') 0 [(0, vA t0)] [] M
  unfold f_Expr_clear at h
  refine A_aload_n 0 rfl rfl rfl ?_
  refine A_iconst (v := 0) rfl (by decide) ?_
  obtain ⟨hg1, h⟩ := gk_out h
  refine A_putI rfl (Or.inl fl_Expr_28) rfl hg1 (Or.inl rfl) rfl ?_
  obtain ⟨M2, hM2, h⟩ := kM_out h
  refine A_mem hM2 ?_
  obtain ⟨rfl, rfl⟩ := leaf h
  exact A_vret rfl rfl
def tb_Expr_appendPart : List (Nat × Instr × Nat) := [(0, .aload_n 0, 1), (1, .getfield 28, 3), (4, .bipush 20, 2), (6, .if_icmp .lt 5, 3), (9, .iconst (-1), 1), (10, .ireturn, 1), (11, .aload_n 0, 1), (12, .getfield 28, 3), (15, .istore 5, 2), (17, .aload_n 0, 1), (18, .getfield 9, 3), (21, .iload 5, 2), (23, .iload_n 1, 1), (24, .iastore, 1), (25, .aload_n 0, 1), (26, .getfield 15, 3), (29, .iload 5, 2), (31, .iload_n 2, 1), (32, .iastore, 1), (33, .aload_n 0, 1), (34, .getfield 18, 3), (37, .iload 5, 2), (39, .iload_n 3, 1), (40, .iastore, 1), (41, .aload_n 0, 1), (42, .getfield 21, 3), (45, .iload 5, 2), (47, .iload 4, 2), (49, .iastore, 1), (50, .aload_n 0, 1), (51, .dup, 1), (52, .getfield 28, 3), (55, .iconst 1, 1), (56, .iadd, 1), (57, .putfield 28, 3), (60, .iload 5, 2), (62, .ireturn, 1)]
def Y_Expr_appendPart : ax_Y := (⟨"MethodWarden$Expression", "appendPart", "(IIII)I"⟩, prog_3_method_5_code, 6, some .int, tb_Expr_appendPart)
theorem yok_Expr_appendPart : yOK Y_Expr_appendPart := ⟨by decide +kernel, by decide +kernel, inWG 610 (by decide +kernel) (by decide +kernel), inWG 99 (by decide +kernel) (by decide +kernel), by decide +kernel⟩
theorem fl_Expr_9 : fldOK "MethodWarden$Expression" 9 3 0 true := ⟨_, _, _, cls_Expr, by decide, by decide, rfl, Or.inl (inWG 190 (by decide +kernel) (by decide +kernel))⟩
theorem fl_Expr_15 : fldOK "MethodWarden$Expression" 15 3 1 true := ⟨_, _, _, cls_Expr, by decide, by decide, rfl, Or.inl (inWG 192 (by decide +kernel) (by decide +kernel))⟩
theorem fl_Expr_18 : fldOK "MethodWarden$Expression" 18 3 2 true := ⟨_, _, _, cls_Expr, by decide, by decide, rfl, Or.inl (inWG 194 (by decide +kernel) (by decide +kernel))⟩
theorem fl_Expr_21 : fldOK "MethodWarden$Expression" 21 3 3 true := ⟨_, _, _, cls_Expr, by decide, by decide, rfl, Or.inl (inWG 196 (by decide +kernel) (by decide +kernel))⟩
def f_Expr_appendPart (t0 : Nat) (a1 : Int32) (a2 : Int32) (a3 : Int32) (a4 : Int32) (M : ax_M) : Option (Int32 × ax_M) :=
  gk t0 3 (if (gI M t0 5) < 20 then (kM (gI M t0 5) (fun x3 => gi x3 20 (kM (mI M (t0 + 1) x3.toNatClampNeg a1) (fun M5 => kM (mI M5 (t0 + 2) x3.toNatClampNeg a2) (fun M6 => kM (mI M6 (t0 + 3) x3.toNatClampNeg a3) (fun M7 => kM (mI M7 (t0 + 4) x3.toNatClampNeg a4) (fun M8 => kM (mI M8 t0 5 ((gI M8 t0 5) + 1)) (fun M9 => some (x3, M9))))))))) else (some ((-1), M)))
set_option maxHeartbeats 4000000 in
set_option maxRecDepth 100000 in
theorem c_Expr_appendPart {l : Launch} {g : ax_G} {t0 : Nat} {a1 : Int32} {a2 : Int32} {a3 : Int32} {a4 : Int32} {M : ax_M} {r : Int32} {M' : ax_M} (h : f_Expr_appendPart t0 a1 a2 a3 a4 M = some (r, M')) : Ctr l g true Y_Expr_appendPart 1 [vA t0, vI a1, vI a2, vI a3, vI a4] M (some (vI r), M') := by
  refine Ctr.ofAW yok_Expr_appendPart (Nat.le_of_ble_eq_true rfl) (Or.inl rfl) ?_
  show AW l g true Y_Expr_appendPart 1 (some (vI r), M') 0 [(0, vA t0), (1, vI a1), (2, vI a2), (3, vI a3), (4, vI a4)] [] M
  unfold f_Expr_appendPart at h
  refine A_aload_n 0 rfl rfl rfl ?_
  obtain ⟨hg1, h⟩ := gk_out h
  refine A_getI rfl fl_Expr_28 rfl hg1 (Or.inl rfl) ?_
  refine A_bipush (v := 20) rfl (by decide) ?_
  refine A_icmp_lt (tgt := 11) rfl (by decide) (fun hc2 => ?_) (fun hc2 => ?_)
  · rw [if_pos hc2] at h
    refine A_aload_n 0 rfl rfl rfl ?_
    refine A_getI rfl fl_Expr_28 rfl hg1 (Or.inl rfl) ?_
    obtain ⟨x3, hx3, h⟩ := kM_out h
    refine A_nI hx3 ?_
    refine A_istore (Ls' := [(5, vI x3), (0, vA t0), (1, vI a1), (2, vI a2), (3, vI a3), (4, vI a4)]) rfl (by decide) rfl ?_
    refine A_aload_n 1 rfl rfl rfl ?_
    refine A_getL (r := t0 + 1) rfl fl_Expr_9 rfl hg1 rfl rfl ?_
    refine A_pc (pc' := 21) rfl ?_
    refine A_iload 0 rfl rfl ?_
    refine A_iload_n 2 rfl rfl rfl ?_
    obtain ⟨hg4, h⟩ := gi_out h
    refine A_iast (n := 20) rfl (lf_Expr_1 hg1).1 (lf_Expr_1 hg1).2 (Or.inl rfl) hg4 ?_
    obtain ⟨M5, hM5, h⟩ := kM_out h
    refine A_mem hM5 ?_
    refine A_aload_n 1 rfl rfl rfl ?_
    refine A_getL (r := t0 + 2) rfl fl_Expr_15 rfl hg1 rfl rfl ?_
    refine A_iload 0 rfl rfl ?_
    refine A_pc (pc' := 31) rfl ?_
    refine A_iload_n 3 rfl rfl rfl ?_
    refine A_iast (n := 20) rfl (lf_Expr_2 hg1).1 (lf_Expr_2 hg1).2 (Or.inl rfl) hg4 ?_
    obtain ⟨M6, hM6, h⟩ := kM_out h
    refine A_mem hM6 ?_
    refine A_aload_n 1 rfl rfl rfl ?_
    refine A_getL (r := t0 + 3) rfl fl_Expr_18 rfl hg1 rfl rfl ?_
    refine A_iload 0 rfl rfl ?_
    refine A_iload_n 4 rfl rfl rfl ?_
    refine A_pc (pc' := 40) rfl ?_
    refine A_iast (n := 20) rfl (lf_Expr_3 hg1).1 (lf_Expr_3 hg1).2 (Or.inl rfl) hg4 ?_
    obtain ⟨M7, hM7, h⟩ := kM_out h
    refine A_mem hM7 ?_
    refine A_aload_n 1 rfl rfl rfl ?_
    refine A_getL (r := t0 + 4) rfl fl_Expr_21 rfl hg1 rfl rfl ?_
    refine A_iload 0 rfl rfl ?_
    refine A_iload 5 rfl rfl ?_
    refine A_iast (n := 20) rfl (lf_Expr_4 hg1).1 (lf_Expr_4 hg1).2 (Or.inl rfl) hg4 ?_
    obtain ⟨M8, hM8, h⟩ := kM_out h
    refine A_mem hM8 ?_
    refine A_pc (pc' := 50) rfl ?_
    refine A_aload_n 1 rfl rfl rfl ?_
    refine A_dup rfl rfl ?_
    refine A_getI rfl fl_Expr_28 rfl hg1 (Or.inl rfl) ?_
    refine A_iconst (v := 1) rfl (by decide) ?_
    refine A_iadd rfl ?_
    refine A_putI rfl (Or.inl fl_Expr_28) rfl hg1 (Or.inl rfl) rfl ?_
    obtain ⟨M9, hM9, h⟩ := kM_out h
    refine A_mem hM9 ?_
    refine A_pc (pc' := 60) rfl ?_
    refine A_iload 0 rfl rfl ?_
    obtain ⟨rfl, rfl⟩ := leaf h
    exact A_iret rfl rfl
  · rw [if_neg hc2] at h
    refine A_pc (pc' := 9) rfl ?_
    refine A_iconst (v := (-1)) rfl (by decide) ?_
    obtain ⟨rfl, rfl⟩ := leaf h
    exact A_iret rfl rfl
def tb_Expr_appendLeaf : List (Nat × Instr × Nat) := [(0, .aload_n 0, 1), (1, .iload_n 1, 1), (2, .iconst (-1), 1), (3, .iconst (-1), 1), (4, .iconst (-1), 1), (5, .invokevirtual 32, 3), (8, .istore 4, 2), (10, .iload 4, 2), (12, .iconst (-1), 1), (13, .if_icmp .eq 11, 3), (16, .aload_n 0, 1), (17, .getfield 24, 3), (20, .iload 4, 2), (22, .lload_n 2, 1), (23, .lastore, 1), (24, .iload 4, 2), (26, .ireturn, 1)]
def Y_Expr_appendLeaf : ax_Y := (⟨"MethodWarden$Expression", "appendLeaf", "(IJ)I"⟩, prog_3_method_4_code, 5, some .int, tb_Expr_appendLeaf)
theorem yok_Expr_appendLeaf : yOK Y_Expr_appendLeaf := ⟨by decide +kernel, by decide +kernel, inWG 640 (by decide +kernel) (by decide +kernel), inWG 99 (by decide +kernel) (by decide +kernel), by decide +kernel⟩
theorem fl_Expr_24 : fldOK "MethodWarden$Expression" 24 3 4 true := ⟨_, _, _, cls_Expr, by decide, by decide, rfl, Or.inl (inWG 198 (by decide +kernel) (by decide +kernel))⟩
theorem ml_Expr_32 : mlV "MethodWarden$Expression" 32 Y_Expr_appendPart 4 := ⟨⟨yok_Expr_appendPart, by decide +kernel, by decide⟩, Or.inl (inWG 641 (by decide +kernel) (by decide +kernel)), inWG 608 (by decide +kernel) (by decide +kernel), inWG 609 (by decide +kernel) (by decide +kernel)⟩
def f_Expr_appendLeaf (t0 : Nat) (a1 : Int32) (a2 : Int64) (M : ax_M) : Option (Int32 × ax_M) :=
  gk t0 3 (bnd (f_Expr_appendPart t0 a1 ((-1)) ((-1)) ((-1)) M) (fun q2 M3 => if q2 = ((-1)) then (some (q2, M3)) else (gi q2 20 (kM (mJ M3 (t0 + 5) q2.toNatClampNeg a2) (fun M6 => some (q2, M6))))))
set_option maxHeartbeats 4000000 in
set_option maxRecDepth 100000 in
theorem c_Expr_appendLeaf {l : Launch} {g : ax_G} {t0 : Nat} {a1 : Int32} {a2 : Int64} {M : ax_M} {r : Int32} {M' : ax_M} (h : f_Expr_appendLeaf t0 a1 a2 M = some (r, M')) : Ctr l g true Y_Expr_appendLeaf 2 [vA t0, vI a1, vJ a2] M (some (vI r), M') := by
  refine Ctr.ofAW yok_Expr_appendLeaf (Nat.le_of_ble_eq_true rfl) (Or.inl rfl) ?_
  show AW l g true Y_Expr_appendLeaf 2 (some (vI r), M') 0 [(0, vA t0), (1, vI a1), (2, vJ a2)] [] M
  unfold f_Expr_appendLeaf at h
  refine A_aload_n 0 rfl rfl rfl ?_
  refine A_iload_n 1 rfl rfl rfl ?_
  refine A_iconst (v := (-1)) rfl (by decide) ?_
  refine A_iconst (v := (-1)) rfl (by decide) ?_
  refine A_iconst (v := (-1)) rfl (by decide) ?_
  refine A_pc (pc' := 5) rfl ?_
  obtain ⟨hg1, h⟩ := gk_out h
  obtain ⟨q2, M3, hcq2, h⟩ := bnd_out h
  refine A_callV (as := [vI a1, vI ((-1)), vI ((-1)), vI ((-1))]) (st' := []) (r1 := (some (vI q2), M3)) rfl ml_Expr_32 rfl (by decide) hg1 (Or.inl rfl) rfl rfl (Nat.le_of_ble_eq_true rfl) (by decide) (c_Expr_appendPart hcq2) (Or.inl rfl) ?_
  refine A_pc (pc' := 8) rfl ?_
  refine A_stk (st' := [vI q2]) rfl ?_
  refine A_istore (Ls' := [(4, vI q2), (0, vA t0), (1, vI a1), (2, vJ a2)]) rfl (by decide) rfl ?_
  refine A_iload 0 rfl rfl ?_
  refine A_iconst (v := (-1)) rfl (by decide) ?_
  refine A_icmp_eq (tgt := 24) rfl (by decide) (fun hc4 => ?_) (fun hc4 => ?_)
  · rw [if_pos hc4] at h
    refine A_iload 0 rfl rfl ?_
    obtain ⟨rfl, rfl⟩ := leaf h
    exact A_iret rfl rfl
  · rw [if_neg hc4] at h
    refine A_pc (pc' := 16) rfl ?_
    refine A_aload_n 1 rfl rfl rfl ?_
    refine A_getL (r := t0 + 5) rfl fl_Expr_24 rfl hg1 rfl rfl ?_
    refine A_iload 0 rfl rfl ?_
    refine A_lload_n 3 rfl rfl rfl ?_
    obtain ⟨hg5, h⟩ := gi_out h
    refine A_last (n := 20) rfl (lf_Expr_5 hg1).1 (lf_Expr_5 hg1).2 (Or.inl rfl) hg5 ?_
    obtain ⟨M6, hM6, h⟩ := kM_out h
    refine A_mem hM6 ?_
    refine A_pc (pc' := 24) rfl ?_
    refine A_iload 0 rfl rfl ?_
    obtain ⟨rfl, rfl⟩ := leaf h
    exact A_iret rfl rfl
def tb_Ctx_holds : List (Nat × Instr × Nat) := [(0, .iload_n 0, 1), (1, .iload_n 1, 1), (2, .ishr, 1), (3, .iconst 1, 1), (4, .iand, 1), (5, .iconst 1, 1), (6, .if_icmp .ne 7, 3), (9, .iconst 1, 1), (10, .goto 4, 3), (13, .iconst 0, 1), (14, .ireturn, 1)]
def Y_Ctx_holds : ax_Y := (⟨"MethodWarden$Context", "holds", "(II)Z"⟩, prog_2_method_3_code, 2, some .boolean, tb_Ctx_holds)
theorem yok_Ctx_holds : yOK Y_Ctx_holds := ⟨by decide +kernel, by decide +kernel, inWG 695 (by decide +kernel) (by decide +kernel), inWG 100 (by decide +kernel) (by decide +kernel), by decide +kernel⟩
def f_Ctx_holds (a0 : Int32) (a1 : Int32) (M : ax_M) : Option (Int32 × ax_M) :=
  if ((a0 >>> (a1 &&& 31)) &&& 1) = 1 then (some (1, M)) else (some (0, M))
set_option maxHeartbeats 4000000 in
set_option maxRecDepth 100000 in
theorem c_Ctx_holds {l : Launch} {g : ax_G} {a0 : Int32} {a1 : Int32} {M : ax_M} {r : Int32} {M' : ax_M} (h : f_Ctx_holds a0 a1 M = some (r, M')) : Ctr l g true Y_Ctx_holds 1 [vI a0, vI a1] M (some (vI r), M') := by
  refine Ctr.ofAW yok_Ctx_holds (Nat.le_of_ble_eq_true rfl) (Or.inl rfl) ?_
  show AW l g true Y_Ctx_holds 1 (some (vI r), M') 0 [(0, vI a0), (1, vI a1)] [] M
  unfold f_Ctx_holds at h
  refine A_iload_n 0 rfl rfl rfl ?_
  refine A_iload_n 1 rfl rfl rfl ?_
  refine A_ishr rfl ?_
  refine A_iconst (v := 1) rfl (by decide) ?_
  refine A_iand rfl ?_
  refine A_pc (pc' := 5) rfl ?_
  refine A_iconst (v := 1) rfl (by decide) ?_
  refine A_icmp_ne (tgt := 13) rfl (by decide) (fun hc1 => ?_) (fun hc1 => ?_)
  · rw [if_neg hc1] at h
    refine A_iconst (v := 0) rfl (by decide) ?_
    obtain ⟨rfl, rfl⟩ := leaf h
    exact A_zret rfl rfl (Or.inl rfl)
  · rw [if_pos hc1] at h
    refine A_pc (pc' := 9) rfl ?_
    refine A_iconst (v := 1) rfl (by decide) ?_
    refine A_goto (tgt := 14) rfl (by decide) ?_
    obtain ⟨rfl, rfl⟩ := leaf h
    exact A_zret rfl rfl (Or.inr rfl)
def tb_Ctx_include : List (Nat × Instr × Nat) := [(0, .aload_n 0, 1), (1, .getfield 9, 3), (4, .iload_n 1, 1), (5, .iaload, 1), (6, .iload_n 2, 1), (7, .invokestatic 22, 3), (10, .ifCond .ne 16, 3), (13, .aload_n 0, 1), (14, .getfield 15, 3), (17, .iload_n 2, 1), (18, .iaload, 1), (19, .iload_n 1, 1), (20, .invokestatic 22, 3), (23, .ifCond .eq 5, 3), (26, .iconst 0, 1), (27, .ireturn, 1), (28, .aload_n 0, 1), (29, .getfield 9, 3), (32, .iload_n 1, 1), (33, .dup2, 1), (34, .iaload, 1), (35, .iconst 1, 1), (36, .iload_n 2, 1), (37, .ishl, 1), (38, .ior, 1), (39, .iastore, 1), (40, .iconst 0, 1), (41, .istore_n 3, 1), (42, .iload_n 3, 1), (43, .bipush 16, 2), (45, .if_icmp .ge 37, 3), (48, .aload_n 0, 1), (49, .getfield 15, 3), (52, .iload_n 3, 1), (53, .iaload, 1), (54, .iload_n 1, 1), (55, .invokestatic 22, 3), (58, .ifCond .eq 18, 3), (61, .aload_n 0, 1), (62, .getfield 15, 3), (65, .iload_n 3, 1), (66, .dup2, 1), (67, .iaload, 1), (68, .aload_n 0, 1), (69, .getfield 15, 3), (72, .iload_n 2, 1), (73, .iaload, 1), (74, .ior, 1), (75, .iastore, 1), (76, .iinc 3 1, 3), (79, .goto (-37), 3), (82, .iconst 1, 1), (83, .ireturn, 1)]
def Y_Ctx_include : ax_Y := (⟨"MethodWarden$Context", "include", "(II)Z"⟩, prog_2_method_2_code, 4, some .boolean, tb_Ctx_include)
theorem yok_Ctx_include : yOK Y_Ctx_include := ⟨by decide +kernel, by decide +kernel, inWG 692 (by decide +kernel) (by decide +kernel), inWG 100 (by decide +kernel) (by decide +kernel), by decide +kernel⟩
theorem fl_Ctx_9 : fldOK "MethodWarden$Context" 9 4 0 true := ⟨_, _, _, cls_Ctx, by decide, by decide, rfl, Or.inl (inWG 222 (by decide +kernel) (by decide +kernel))⟩
theorem fl_Ctx_15 : fldOK "MethodWarden$Context" 15 4 1 true := ⟨_, _, _, cls_Ctx, by decide, by decide, rfl, Or.inl (inWG 223 (by decide +kernel) (by decide +kernel))⟩
theorem ml_Ctx_22 : mlS "MethodWarden$Context" 22 Y_Ctx_holds 2 := ⟨⟨yok_Ctx_holds, by decide +kernel, by decide⟩, Or.inl (inWG 693 (by decide +kernel) (by decide +kernel)), inWG 694 (by decide +kernel) (by decide +kernel)⟩
def f_Ctx_include_42_b (K42 : Int32 → Int32 → Int32 → ax_M → Option (Int32 × ax_M)) (l1 : Int32) (l2 : Int32) (l3 : Int32) (M : ax_M) : Option (Int32 × ax_M) :=
  if 16 ≤ l3 then (some (1, M)) else (gi l3 16 (bnd (f_Ctx_holds (gI M 65 l3.toNatClampNeg) l1 M) (fun q12 M13 => if q12 = 0 then (kM (l3 + 1) (fun x15 => K42 l1 l2 x15 M13)) else (gi l2 16 (kM ((gI M13 65 l3.toNatClampNeg) ||| (gI M13 65 l2.toNatClampNeg)) (fun x17 => kM (mI M13 65 l3.toNatClampNeg x17) (fun M18 => kM (l3 + 1) (fun x19 => K42 l1 l2 x19 M18))))))))
def f_Ctx_include_42 : Nat → Int32 → Int32 → Int32 → ax_M → Option (Int32 × ax_M)
  | 0, _, _, _, _ => none
  | n + 1, l1, l2, l3, M => f_Ctx_include_42_b  (f_Ctx_include_42 n) l1 l2 l3 M
set_option maxHeartbeats 4000000 in
set_option maxRecDepth 100000 in
theorem o_Ctx_include_42_b {l : Launch} {g : ax_G} (K42 : Int32 → Int32 → Int32 → ax_M → Option (Int32 × ax_M)) (hK42 : ∀ (l1 : Int32) (l2 : Int32) (l3 : Int32) (M : ax_M) (r : Int32) (M' : ax_M), K42 l1 l2 l3 M = some (r, M') → AW l g true Y_Ctx_include 2 (some (vI r), M') 42 [(0, vA 63), (1, vI l1), (2, vI l2), (3, vI l3)] [] M) (l1 : Int32) (l2 : Int32) (l3 : Int32) (M : ax_M) (r : Int32) (M' : ax_M) (h : f_Ctx_include_42_b  K42 l1 l2 l3 M = some (r, M')) : AW l g true Y_Ctx_include 2 (some (vI r), M') 42 [(0, vA 63), (1, vI l1), (2, vI l2), (3, vI l3)] [] M := by
  unfold f_Ctx_include_42_b at h
  refine A_iload_n 3 rfl rfl rfl ?_
  refine A_bipush (v := 16) rfl (by decide) ?_
  refine A_icmp_ge (tgt := 82) rfl (by decide) (fun hc10 => ?_) (fun hc10 => ?_)
  · rw [if_pos hc10] at h
    refine A_iconst (v := 1) rfl (by decide) ?_
    obtain ⟨rfl, rfl⟩ := leaf h
    exact A_zret rfl rfl (Or.inr rfl)
  · rw [if_neg hc10] at h
    refine A_pc (pc' := 48) rfl ?_
    refine A_aload_n 0 rfl rfl rfl ?_
    refine A_getL (r := 65) rfl fl_Ctx_15 rfl (by decide) rfl rfl ?_
    refine A_iload_n 3 rfl rfl rfl ?_
    obtain ⟨hg11, h⟩ := gi_out h
    refine A_iald (n := 16) rfl (by decide) (by decide) (Or.inl rfl) hg11 ?_
    refine A_iload_n 1 rfl rfl rfl ?_
    refine A_pc (pc' := 55) rfl ?_
    obtain ⟨q12, M13, hcq12, h⟩ := bnd_out h
    refine A_callS (as := [vI (gI M 65 l3.toNatClampNeg), vI l1]) (st' := []) (r1 := (some (vI q12), M13)) rfl ml_Ctx_22 rfl rfl (Nat.le_of_ble_eq_true rfl) (by decide) (c_Ctx_holds hcq12) (Or.inl rfl) ?_
    refine A_pc (pc' := 58) rfl ?_
    refine A_stk (st' := [vI q12]) rfl ?_
    refine A_if_eq (tgt := 76) rfl (by decide) (fun hc14 => ?_) (fun hc14 => ?_)
    · rw [if_pos hc14] at h
      obtain ⟨x15, hx15, h⟩ := kM_out h
      refine A_iinc 3 (v := x15) (Ls' := [(3, vI x15), (0, vA 63), (1, vI l1), (2, vI l2)]) rfl rfl ((iiN (k := 1) (by decide) _).trans hx15) (by decide) rfl ?_
      refine A_goto (tgt := 42) rfl (by decide) ?_
      refine A_pc (pc' := 42) rfl ?_
      refine A_sub (Ls' := [(0, vA 63), (1, vI l1), (2, vI l2), (3, vI x15)]) [1, 2, 3, 0] rfl ?_
      exact hK42 _ _ _ _ _ _ h
    · rw [if_neg hc14] at h
      refine A_pc (pc' := 61) rfl ?_
      refine A_aload_n 0 rfl rfl rfl ?_
      refine A_getL (r := 65) rfl fl_Ctx_15 rfl (by decide) rfl rfl ?_
      refine A_iload_n 3 rfl rfl rfl ?_
      refine A_dup2 rfl rfl rfl ?_
      refine A_iald (n := 16) rfl (by decide) (by decide) (Or.inl rfl) hg11 ?_
      refine A_pc (pc' := 68) rfl ?_
      refine A_aload_n 0 rfl rfl rfl ?_
      refine A_getL (r := 65) rfl fl_Ctx_15 rfl (by decide) rfl rfl ?_
      refine A_iload_n 2 rfl rfl rfl ?_
      obtain ⟨hg16, h⟩ := gi_out h
      refine A_iald (n := 16) rfl (by decide) (by decide) (Or.inl rfl) hg16 ?_
      refine A_ior rfl ?_
      obtain ⟨x17, hx17, h⟩ := kM_out h
      refine A_nI hx17 ?_
      refine A_iast (n := 16) rfl (by decide) (by decide) (Or.inl rfl) hg11 ?_
      obtain ⟨M18, hM18, h⟩ := kM_out h
      refine A_mem hM18 ?_
      refine A_pc (pc' := 76) rfl ?_
      obtain ⟨x19, hx19, h⟩ := kM_out h
      refine A_iinc 3 (v := x19) (Ls' := [(3, vI x19), (0, vA 63), (1, vI l1), (2, vI l2)]) rfl rfl ((iiN (k := 1) (by decide) _).trans hx19) (by decide) rfl ?_
      refine A_goto (tgt := 42) rfl (by decide) ?_
      refine A_pc (pc' := 42) rfl ?_
      refine A_sub (Ls' := [(0, vA 63), (1, vI l1), (2, vI l2), (3, vI x19)]) [1, 2, 3, 0] rfl ?_
      exact hK42 _ _ _ _ _ _ h
theorem o_Ctx_include_42 {l : Launch} {g : ax_G} : ∀ (n : Nat) (l1 : Int32) (l2 : Int32) (l3 : Int32) (M : ax_M) (r : Int32) (M' : ax_M), f_Ctx_include_42  n l1 l2 l3 M = some (r, M') → AW l g true Y_Ctx_include 2 (some (vI r), M') 42 [(0, vA 63), (1, vI l1), (2, vI l2), (3, vI l3)] [] M := by
  intro n
  induction n with
  | zero =>
    intro l1 l2 l3 M r M' h
    cases h
  | succ n ih =>
    intro l1 l2 l3 M r M' h
    exact o_Ctx_include_42_b  _ ih _ _ _ _ _ _ h
def f_Ctx_include (a1 : Int32) (a2 : Int32) (M : ax_M) : Option (Int32 × ax_M) :=
  gi a1 16 (bnd (f_Ctx_holds (gI M 64 a1.toNatClampNeg) a2 M) (fun q2 M3 => if q2 = 0 then (gi a2 16 (bnd (f_Ctx_holds (gI M3 65 a2.toNatClampNeg) a1 M3) (fun q6 M7 => if q6 = 0 then (kM (mI M7 64 a1.toNatClampNeg ((gI M7 64 a1.toNatClampNeg) ||| (1 <<< (a2 &&& 31)))) (fun M9 => f_Ctx_include_42 64 a1 a2 0 M9)) else (some (0, M7))))) else (some (0, M3))))
set_option maxHeartbeats 4000000 in
set_option maxRecDepth 100000 in
theorem c_Ctx_include {l : Launch} {g : ax_G} {a1 : Int32} {a2 : Int32} {M : ax_M} {r : Int32} {M' : ax_M} (h : f_Ctx_include a1 a2 M = some (r, M')) : Ctr l g true Y_Ctx_include 2 [vA 63, vI a1, vI a2] M (some (vI r), M') := by
  refine Ctr.ofAW yok_Ctx_include (Nat.le_of_ble_eq_true rfl) (Or.inl rfl) ?_
  show AW l g true Y_Ctx_include 2 (some (vI r), M') 0 [(0, vA 63), (1, vI a1), (2, vI a2)] [] M
  unfold f_Ctx_include at h
  refine A_aload_n 0 rfl rfl rfl ?_
  refine A_getL (r := 64) rfl fl_Ctx_9 rfl (by decide) rfl rfl ?_
  refine A_iload_n 1 rfl rfl rfl ?_
  obtain ⟨hg1, h⟩ := gi_out h
  refine A_iald (n := 16) rfl (by decide) (by decide) (Or.inl rfl) hg1 ?_
  refine A_iload_n 2 rfl rfl rfl ?_
  refine A_pc (pc' := 7) rfl ?_
  obtain ⟨q2, M3, hcq2, h⟩ := bnd_out h
  refine A_callS (as := [vI (gI M 64 a1.toNatClampNeg), vI a2]) (st' := []) (r1 := (some (vI q2), M3)) rfl ml_Ctx_22 rfl rfl (Nat.le_of_ble_eq_true rfl) (by decide) (c_Ctx_holds hcq2) (Or.inl rfl) ?_
  refine A_pc (pc' := 10) rfl ?_
  refine A_stk (st' := [vI q2]) rfl ?_
  refine A_if_ne (tgt := 26) rfl (by decide) (fun hc4 => ?_) (fun hc4 => ?_)
  · rw [if_neg hc4] at h
    refine A_iconst (v := 0) rfl (by decide) ?_
    obtain ⟨rfl, rfl⟩ := leaf h
    exact A_zret rfl rfl (Or.inl rfl)
  · rw [if_pos hc4] at h
    refine A_pc (pc' := 13) rfl ?_
    refine A_aload_n 0 rfl rfl rfl ?_
    refine A_getL (r := 65) rfl fl_Ctx_15 rfl (by decide) rfl rfl ?_
    refine A_iload_n 2 rfl rfl rfl ?_
    obtain ⟨hg5, h⟩ := gi_out h
    refine A_iald (n := 16) rfl (by decide) (by decide) (Or.inl rfl) hg5 ?_
    refine A_iload_n 1 rfl rfl rfl ?_
    refine A_pc (pc' := 20) rfl ?_
    obtain ⟨q6, M7, hcq6, h⟩ := bnd_out h
    refine A_callS (as := [vI (gI M3 65 a2.toNatClampNeg), vI a1]) (st' := []) (r1 := (some (vI q6), M7)) rfl ml_Ctx_22 rfl rfl (Nat.le_of_ble_eq_true rfl) (by decide) (c_Ctx_holds hcq6) (Or.inl rfl) ?_
    refine A_pc (pc' := 23) rfl ?_
    refine A_stk (st' := [vI q6]) rfl ?_
    refine A_if_eq (tgt := 28) rfl (by decide) (fun hc8 => ?_) (fun hc8 => ?_)
    · rw [if_pos hc8] at h
      refine A_aload_n 0 rfl rfl rfl ?_
      refine A_getL (r := 64) rfl fl_Ctx_9 rfl (by decide) rfl rfl ?_
      refine A_iload_n 1 rfl rfl rfl ?_
      refine A_dup2 rfl rfl rfl ?_
      refine A_iald (n := 16) rfl (by decide) (by decide) (Or.inl rfl) hg1 ?_
      refine A_pc (pc' := 35) rfl ?_
      refine A_iconst (v := 1) rfl (by decide) ?_
      refine A_iload_n 2 rfl rfl rfl ?_
      refine A_ishl rfl ?_
      refine A_ior rfl ?_
      refine A_iast (n := 16) rfl (by decide) (by decide) (Or.inl rfl) hg1 ?_
      obtain ⟨M9, hM9, h⟩ := kM_out h
      refine A_mem hM9 ?_
      refine A_iconst (v := 0) rfl (by decide) ?_
      refine A_pc (pc' := 41) rfl ?_
      refine A_istore_n (Ls' := [(3, vI 0), (0, vA 63), (1, vI a1), (2, vI a2)]) rfl rfl (by decide) rfl ?_
      refine A_pc (pc' := 42) rfl ?_
      refine A_sub (Ls' := [(0, vA 63), (1, vI a1), (2, vI a2), (3, vI 0)]) [1, 2, 3, 0] rfl ?_
      exact o_Ctx_include_42  _ _ _ _ _ _ _ h
    · rw [if_neg hc8] at h
      refine A_pc (pc' := 26) rfl ?_
      refine A_iconst (v := 0) rfl (by decide) ?_
      obtain ⟨rfl, rfl⟩ := leaf h
      exact A_zret rfl rfl (Or.inl rfl)
def tb_Ctx_become : List (Nat × Instr × Nat) := [(0, .aload_n 0, 1), (1, .iload_n 1, 1), (2, .putfield 18, 3), (5, .aload_n 0, 1), (6, .iload_n 2, 1), (7, .putfield 26, 3), (10, .return_, 1)]
def Y_Ctx_become : ax_Y := (⟨"MethodWarden$Context", "become", "(II)V"⟩, prog_2_method_4_code, 3, none, tb_Ctx_become)
theorem yok_Ctx_become : yOK Y_Ctx_become := ⟨by decide +kernel, by decide +kernel, inWG 707 (by decide +kernel) (by decide +kernel), inWG 100 (by decide +kernel) (by decide +kernel), by decide +kernel⟩
theorem fl_Ctx_18 : fldOK "MethodWarden$Context" 18 4 2 false := ⟨_, _, _, cls_Ctx, by decide, by decide, rfl, Or.inl (inWG 224 (by decide +kernel) (by decide +kernel))⟩
theorem fl_Ctx_26 : fldOK "MethodWarden$Context" 26 4 3 false := ⟨_, _, _, cls_Ctx, by decide, by decide, rfl, Or.inl (inWG 228 (by decide +kernel) (by decide +kernel))⟩
def f_Ctx_become (a1 : Int32) (a2 : Int32) (M : ax_M) : Option (Unit × ax_M) :=
  kM (mI M 63 2 a1) (fun M1 => kM (mI M1 63 3 a2) (fun M2 => some ((), M2)))
set_option maxHeartbeats 4000000 in
set_option maxRecDepth 100000 in
theorem c_Ctx_become {l : Launch} {g : ax_G} {a1 : Int32} {a2 : Int32} {M : ax_M} {r : Unit} {M' : ax_M} (h : f_Ctx_become a1 a2 M = some (r, M')) : Ctr l g true Y_Ctx_become 1 [vA 63, vI a1, vI a2] M (none, M') := by
  refine Ctr.ofAW yok_Ctx_become (Nat.le_of_ble_eq_true rfl) (Or.inl rfl) ?_
  show AW l g true Y_Ctx_become 1 (none, M') 0 [(0, vA 63), (1, vI a1), (2, vI a2)] [] M
  unfold f_Ctx_become at h
  refine A_aload_n 0 rfl rfl rfl ?_
  refine A_iload_n 1 rfl rfl rfl ?_
  refine A_putI rfl (Or.inl fl_Ctx_18) rfl (by decide) (Or.inl rfl) rfl ?_
  obtain ⟨M1, hM1, h⟩ := kM_out h
  refine A_mem hM1 ?_
  refine A_aload_n 0 rfl rfl rfl ?_
  refine A_iload_n 2 rfl rfl rfl ?_
  refine A_pc (pc' := 7) rfl ?_
  refine A_putI rfl (Or.inl fl_Ctx_26) rfl (by decide) (Or.inl rfl) rfl ?_
  obtain ⟨M2, hM2, h⟩ := kM_out h
  refine A_mem hM2 ?_
  obtain ⟨rfl, rfl⟩ := leaf h
  exact A_vret rfl rfl
def tb_Ctx_leave : List (Nat × Instr × Nat) := [(0, .aload_n 0, 1), (1, .iconst (-1), 1), (2, .iconst 0, 1), (3, .invokevirtual 29, 3), (6, .return_, 1)]
def Y_Ctx_leave : ax_Y := (⟨"MethodWarden$Context", "leave", "()V"⟩, prog_2_method_5_code, 1, none, tb_Ctx_leave)
theorem yok_Ctx_leave : yOK Y_Ctx_leave := ⟨by decide +kernel, by decide +kernel, inWG 703 (by decide +kernel) (by decide +kernel), inWG 100 (by decide +kernel) (by decide +kernel), by decide +kernel⟩
theorem ml_Ctx_29 : mlV "MethodWarden$Context" 29 Y_Ctx_become 2 := ⟨⟨yok_Ctx_become, by decide +kernel, by decide⟩, Or.inl (inWG 704 (by decide +kernel) (by decide +kernel)), inWG 705 (by decide +kernel) (by decide +kernel), inWG 706 (by decide +kernel) (by decide +kernel)⟩
def f_Ctx_leave  (M : ax_M) : Option (Unit × ax_M) :=
  bnd (f_Ctx_become ((-1)) 0 M) (fun q1 M2 => some ((), M2))
set_option maxHeartbeats 4000000 in
set_option maxRecDepth 100000 in
theorem c_Ctx_leave {l : Launch} {g : ax_G}  {M : ax_M} {r : Unit} {M' : ax_M} (h : f_Ctx_leave  M = some (r, M')) : Ctr l g true Y_Ctx_leave 2 [vA 63] M (none, M') := by
  refine Ctr.ofAW yok_Ctx_leave (Nat.le_of_ble_eq_true rfl) (Or.inl rfl) ?_
  show AW l g true Y_Ctx_leave 2 (none, M') 0 [(0, vA 63)] [] M
  unfold f_Ctx_leave at h
  refine A_aload_n 0 rfl rfl rfl ?_
  refine A_iconst (v := (-1)) rfl (by decide) ?_
  refine A_iconst (v := 0) rfl (by decide) ?_
  obtain ⟨q1, M2, hcq1, h⟩ := bnd_out h
  refine A_callV (as := [vI ((-1)), vI 0]) (st' := []) (r1 := (none, M2)) rfl ml_Ctx_29 rfl (by decide) (by decide) (Or.inl rfl) rfl rfl (Nat.le_of_ble_eq_true rfl) (by decide) (c_Ctx_become hcq1) (Or.inl rfl) ?_
  refine A_pc (pc' := 6) rfl ?_
  refine A_stk (st' := []) rfl ?_
  obtain ⟨rfl, rfl⟩ := leaf h
  exact A_vret rfl rfl
def tb_Ctx_isNobody : List (Nat × Instr × Nat) := [(0, .aload_n 0, 1), (1, .getfield 18, 3), (4, .iconst (-1), 1), (5, .if_icmp .ne 7, 3), (8, .iconst 1, 1), (9, .goto 4, 3), (12, .iconst 0, 1), (13, .ireturn, 1)]
def Y_Ctx_isNobody : ax_Y := (⟨"MethodWarden$Context", "isNobody", "()Z"⟩, prog_2_method_7_code, 1, some .boolean, tb_Ctx_isNobody)
theorem yok_Ctx_isNobody : yOK Y_Ctx_isNobody := ⟨by decide +kernel, by decide +kernel, inWG 723 (by decide +kernel) (by decide +kernel), inWG 100 (by decide +kernel) (by decide +kernel), by decide +kernel⟩
def f_Ctx_isNobody  (M : ax_M) : Option (Int32 × ax_M) :=
  if (gI M 63 2) = ((-1)) then (some (1, M)) else (some (0, M))
set_option maxHeartbeats 4000000 in
set_option maxRecDepth 100000 in
theorem c_Ctx_isNobody {l : Launch} {g : ax_G}  {M : ax_M} {r : Int32} {M' : ax_M} (h : f_Ctx_isNobody  M = some (r, M')) : Ctr l g true Y_Ctx_isNobody 1 [vA 63] M (some (vI r), M') := by
  refine Ctr.ofAW yok_Ctx_isNobody (Nat.le_of_ble_eq_true rfl) (Or.inl rfl) ?_
  show AW l g true Y_Ctx_isNobody 1 (some (vI r), M') 0 [(0, vA 63)] [] M
  unfold f_Ctx_isNobody at h
  refine A_aload_n 0 rfl rfl rfl ?_
  refine A_getI rfl fl_Ctx_18 rfl (by decide) (Or.inl rfl) ?_
  refine A_iconst (v := (-1)) rfl (by decide) ?_
  refine A_icmp_ne (tgt := 12) rfl (by decide) (fun hc1 => ?_) (fun hc1 => ?_)
  · rw [if_neg hc1] at h
    refine A_iconst (v := 0) rfl (by decide) ?_
    obtain ⟨rfl, rfl⟩ := leaf h
    exact A_zret rfl rfl (Or.inl rfl)
  · rw [if_pos hc1] at h
    refine A_pc (pc' := 8) rfl ?_
    refine A_iconst (v := 1) rfl (by decide) ?_
    refine A_goto (tgt := 13) rfl (by decide) ?_
    obtain ⟨rfl, rfl⟩ := leaf h
    exact A_zret rfl rfl (Or.inr rfl)
def tb_Ctx_lend : List (Nat × Instr × Nat) := [(0, .aload_n 0, 1), (1, .invokevirtual 33, 3), (4, .ifCond .ne 13, 3), (7, .aload_n 0, 1), (8, .dup, 1), (9, .getfield 26, 3), (12, .iload_n 1, 1), (13, .ior, 1), (14, .putfield 26, 3), (17, .return_, 1)]
def Y_Ctx_lend : ax_Y := (⟨"MethodWarden$Context", "lend", "(I)V"⟩, prog_2_method_6_code, 2, none, tb_Ctx_lend)
theorem yok_Ctx_lend : yOK Y_Ctx_lend := ⟨by decide +kernel, by decide +kernel, inWG 1005 (by decide +kernel) (by decide +kernel), inWG 100 (by decide +kernel) (by decide +kernel), by decide +kernel⟩
theorem ml_Ctx_33 : mlV "MethodWarden$Context" 33 Y_Ctx_isNobody 0 := ⟨⟨yok_Ctx_isNobody, by decide +kernel, by decide⟩, Or.inl (inWG 1006 (by decide +kernel) (by decide +kernel)), inWG 721 (by decide +kernel) (by decide +kernel), inWG 722 (by decide +kernel) (by decide +kernel)⟩
def f_Ctx_lend (a1 : Int32) (M : ax_M) : Option (Unit × ax_M) :=
  bnd (f_Ctx_isNobody  M) (fun q1 M2 => if q1 = 0 then (kM (mI M2 63 3 ((gI M2 63 3) ||| a1)) (fun M4 => some ((), M4))) else (some ((), M2)))
set_option maxHeartbeats 4000000 in
set_option maxRecDepth 100000 in
theorem c_Ctx_lend {l : Launch} {g : ax_G} {a1 : Int32} {M : ax_M} {r : Unit} {M' : ax_M} (h : f_Ctx_lend a1 M = some (r, M')) : Ctr l g true Y_Ctx_lend 2 [vA 63, vI a1] M (none, M') := by
  refine Ctr.ofAW yok_Ctx_lend (Nat.le_of_ble_eq_true rfl) (Or.inl rfl) ?_
  show AW l g true Y_Ctx_lend 2 (none, M') 0 [(0, vA 63), (1, vI a1)] [] M
  unfold f_Ctx_lend at h
  refine A_aload_n 0 rfl rfl rfl ?_
  obtain ⟨q1, M2, hcq1, h⟩ := bnd_out h
  refine A_callV (as := []) (st' := []) (r1 := (some (vI q1), M2)) rfl ml_Ctx_33 rfl (by decide) (by decide) (Or.inl rfl) rfl rfl (Nat.le_of_ble_eq_true rfl) (by decide) (c_Ctx_isNobody hcq1) (Or.inl rfl) ?_
  refine A_pc (pc' := 4) rfl ?_
  refine A_stk (st' := [vI q1]) rfl ?_
  refine A_if_ne (tgt := 17) rfl (by decide) (fun hc3 => ?_) (fun hc3 => ?_)
  · rw [if_neg hc3] at h
    obtain ⟨rfl, rfl⟩ := leaf h
    exact A_vret rfl rfl
  · rw [if_pos hc3] at h
    refine A_pc (pc' := 7) rfl ?_
    refine A_aload_n 0 rfl rfl rfl ?_
    refine A_dup rfl rfl ?_
    refine A_getI rfl fl_Ctx_26 rfl (by decide) (Or.inl rfl) ?_
    refine A_iload_n 1 rfl rfl rfl ?_
    refine A_ior rfl ?_
    refine A_pc (pc' := 14) rfl ?_
    refine A_putI rfl (Or.inl fl_Ctx_26) rfl (by decide) (Or.inl rfl) rfl ?_
    obtain ⟨M4, hM4, h⟩ := kM_out h
    refine A_mem hM4 ?_
    obtain ⟨rfl, rfl⟩ := leaf h
    exact A_vret rfl rfl
def tb_Ctx_reachable : List (Nat × Instr × Nat) := [(0, .iconst 0, 1), (1, .istore_n 1, 1), (2, .iconst 0, 1), (3, .istore_n 2, 1), (4, .iload_n 2, 1), (5, .bipush 16, 2), (7, .if_icmp .ge 30, 3), (10, .aload_n 0, 1), (11, .getfield 26, 3), (14, .iload_n 2, 1), (15, .ishr, 1), (16, .iconst 1, 1), (17, .iand, 1), (18, .iconst 1, 1), (19, .if_icmp .ne 12, 3), (22, .iload_n 1, 1), (23, .aload_n 0, 1), (24, .getfield 15, 3), (27, .iload_n 2, 1), (28, .iaload, 1), (29, .ior, 1), (30, .istore_n 1, 1), (31, .iinc 2 1, 3), (34, .goto (-30), 3), (37, .iload_n 1, 1), (38, .ireturn, 1)]
def Y_Ctx_reachable : ax_Y := (⟨"MethodWarden$Context", "reachable", "()I"⟩, prog_2_method_8_code, 3, some .int, tb_Ctx_reachable)
theorem yok_Ctx_reachable : yOK Y_Ctx_reachable := ⟨by decide +kernel, by decide +kernel, inWG 728 (by decide +kernel) (by decide +kernel), inWG 100 (by decide +kernel) (by decide +kernel), by decide +kernel⟩
def f_Ctx_reachable_4_b (K4 : Int32 → Int32 → ax_M → Option (Int32 × ax_M)) (l1 : Int32) (l2 : Int32) (M : ax_M) : Option (Int32 × ax_M) :=
  if 16 ≤ l2 then (some (l1, M)) else (if (((gI M 63 3) >>> (l2 &&& 31)) &&& 1) = 1 then (gi l2 16 (kM (l1 ||| (gI M 65 l2.toNatClampNeg)) (fun x5 => kM (l2 + 1) (fun x6 => K4 x5 x6 M)))) else (kM (l2 + 1) (fun x3 => K4 l1 x3 M)))
def f_Ctx_reachable_4 : Nat → Int32 → Int32 → ax_M → Option (Int32 × ax_M)
  | 0, _, _, _ => none
  | n + 1, l1, l2, M => f_Ctx_reachable_4_b  (f_Ctx_reachable_4 n) l1 l2 M
set_option maxHeartbeats 4000000 in
set_option maxRecDepth 100000 in
theorem o_Ctx_reachable_4_b {l : Launch} {g : ax_G} (K4 : Int32 → Int32 → ax_M → Option (Int32 × ax_M)) (hK4 : ∀ (l1 : Int32) (l2 : Int32) (M : ax_M) (r : Int32) (M' : ax_M), K4 l1 l2 M = some (r, M') → AW l g true Y_Ctx_reachable 1 (some (vI r), M') 4 [(0, vA 63), (1, vI l1), (2, vI l2)] [] M) (l1 : Int32) (l2 : Int32) (M : ax_M) (r : Int32) (M' : ax_M) (h : f_Ctx_reachable_4_b  K4 l1 l2 M = some (r, M')) : AW l g true Y_Ctx_reachable 1 (some (vI r), M') 4 [(0, vA 63), (1, vI l1), (2, vI l2)] [] M := by
  unfold f_Ctx_reachable_4_b at h
  refine A_iload_n 2 rfl rfl rfl ?_
  refine A_bipush (v := 16) rfl (by decide) ?_
  refine A_icmp_ge (tgt := 37) rfl (by decide) (fun hc1 => ?_) (fun hc1 => ?_)
  · rw [if_pos hc1] at h
    refine A_iload_n 1 rfl rfl rfl ?_
    obtain ⟨rfl, rfl⟩ := leaf h
    exact A_iret rfl rfl
  · rw [if_neg hc1] at h
    refine A_pc (pc' := 10) rfl ?_
    refine A_aload_n 0 rfl rfl rfl ?_
    refine A_getI rfl fl_Ctx_26 rfl (by decide) (Or.inl rfl) ?_
    refine A_iload_n 2 rfl rfl rfl ?_
    refine A_ishr rfl ?_
    refine A_iconst (v := 1) rfl (by decide) ?_
    refine A_pc (pc' := 17) rfl ?_
    refine A_iand rfl ?_
    refine A_iconst (v := 1) rfl (by decide) ?_
    refine A_icmp_ne (tgt := 31) rfl (by decide) (fun hc2 => ?_) (fun hc2 => ?_)
    · rw [if_neg hc2] at h
      obtain ⟨x3, hx3, h⟩ := kM_out h
      refine A_iinc 2 (v := x3) (Ls' := [(2, vI x3), (0, vA 63), (1, vI l1)]) rfl rfl ((iiN (k := 1) (by decide) _).trans hx3) (by decide) rfl ?_
      refine A_goto (tgt := 4) rfl (by decide) ?_
      refine A_pc (pc' := 4) rfl ?_
      refine A_sub (Ls' := [(0, vA 63), (1, vI l1), (2, vI x3)]) [1, 2, 0] rfl ?_
      exact hK4 _ _ _ _ _ h
    · rw [if_pos hc2] at h
      refine A_pc (pc' := 22) rfl ?_
      refine A_iload_n 1 rfl rfl rfl ?_
      refine A_aload_n 0 rfl rfl rfl ?_
      refine A_getL (r := 65) rfl fl_Ctx_15 rfl (by decide) rfl rfl ?_
      refine A_iload_n 2 rfl rfl rfl ?_
      obtain ⟨hg4, h⟩ := gi_out h
      refine A_iald (n := 16) rfl (by decide) (by decide) (Or.inl rfl) hg4 ?_
      refine A_pc (pc' := 29) rfl ?_
      refine A_ior rfl ?_
      obtain ⟨x5, hx5, h⟩ := kM_out h
      refine A_nI hx5 ?_
      refine A_istore_n (Ls' := [(1, vI x5), (0, vA 63), (2, vI l2)]) rfl rfl (by decide) rfl ?_
      obtain ⟨x6, hx6, h⟩ := kM_out h
      refine A_iinc 2 (v := x6) (Ls' := [(2, vI x6), (1, vI x5), (0, vA 63)]) rfl rfl ((iiN (k := 1) (by decide) _).trans hx6) (by decide) rfl ?_
      refine A_goto (tgt := 4) rfl (by decide) ?_
      refine A_pc (pc' := 4) rfl ?_
      refine A_sub (Ls' := [(0, vA 63), (1, vI x5), (2, vI x6)]) [2, 1, 0] rfl ?_
      exact hK4 _ _ _ _ _ h
theorem o_Ctx_reachable_4 {l : Launch} {g : ax_G} : ∀ (n : Nat) (l1 : Int32) (l2 : Int32) (M : ax_M) (r : Int32) (M' : ax_M), f_Ctx_reachable_4  n l1 l2 M = some (r, M') → AW l g true Y_Ctx_reachable 1 (some (vI r), M') 4 [(0, vA 63), (1, vI l1), (2, vI l2)] [] M := by
  intro n
  induction n with
  | zero =>
    intro l1 l2 M r M' h
    cases h
  | succ n ih =>
    intro l1 l2 M r M' h
    exact o_Ctx_reachable_4_b  _ ih _ _ _ _ _ h
def f_Ctx_reachable  (M : ax_M) : Option (Int32 × ax_M) :=
  f_Ctx_reachable_4 64 0 0 M
set_option maxHeartbeats 4000000 in
set_option maxRecDepth 100000 in
theorem c_Ctx_reachable {l : Launch} {g : ax_G}  {M : ax_M} {r : Int32} {M' : ax_M} (h : f_Ctx_reachable  M = some (r, M')) : Ctr l g true Y_Ctx_reachable 1 [vA 63] M (some (vI r), M') := by
  refine Ctr.ofAW yok_Ctx_reachable (Nat.le_of_ble_eq_true rfl) (Or.inl rfl) ?_
  show AW l g true Y_Ctx_reachable 1 (some (vI r), M') 0 [(0, vA 63)] [] M
  unfold f_Ctx_reachable at h
  refine A_iconst (v := 0) rfl (by decide) ?_
  refine A_istore_n (Ls' := [(1, vI 0), (0, vA 63)]) rfl rfl (by decide) rfl ?_
  refine A_iconst (v := 0) rfl (by decide) ?_
  refine A_istore_n (Ls' := [(2, vI 0), (1, vI 0), (0, vA 63)]) rfl rfl (by decide) rfl ?_
  refine A_pc (pc' := 4) rfl ?_
  refine A_sub (Ls' := [(0, vA 63), (1, vI 0), (2, vI 0)]) [2, 1, 0] rfl ?_
  exact o_Ctx_reachable_4  _ _ _ _ _ _ h
def tb_Ctx_reaches : List (Nat × Instr × Nat) := [(0, .lload_n 1, 1), (1, .lconst 0, 1), (2, .lcmp, 1), (3, .ifCond .lt 28, 3), (6, .lload_n 1, 1), (7, .ldc2_w 37, 3), (10, .lcmp, 1), (11, .ifCond .ge 20, 3), (14, .aload_n 0, 1), (15, .invokevirtual 39, 3), (18, .lload_n 1, 1), (19, .l2i, 1), (20, .ishr, 1), (21, .iconst 1, 1), (22, .iand, 1), (23, .iconst 1, 1), (24, .if_icmp .ne 7, 3), (27, .iconst 1, 1), (28, .goto 4, 3), (31, .iconst 0, 1), (32, .ireturn, 1)]
def Y_Ctx_reaches : ax_Y := (⟨"MethodWarden$Context", "reaches", "(J)Z"⟩, prog_2_method_9_code, 3, some .boolean, tb_Ctx_reaches)
theorem yok_Ctx_reaches : yOK Y_Ctx_reaches := ⟨by decide +kernel, by decide +kernel, inWG 946 (by decide +kernel) (by decide +kernel), inWG 100 (by decide +kernel) (by decide +kernel), by decide +kernel⟩
theorem ml_Ctx_39 : mlV "MethodWarden$Context" 39 Y_Ctx_reachable 0 := ⟨⟨yok_Ctx_reachable, by decide +kernel, by decide⟩, Or.inl (inWG 948 (by decide +kernel) (by decide +kernel)), inWG 726 (by decide +kernel) (by decide +kernel), inWG 727 (by decide +kernel) (by decide +kernel)⟩
def f_Ctx_reaches (a1 : Int64) (M : ax_M) : Option (Int32 × ax_M) :=
  if (lg_cmp a1 0) < 0 then (some (0, M)) else (if 0 ≤ (lg_cmp a1 16) then (some (0, M)) else (bnd (f_Ctx_reachable  M) (fun q3 M4 => if ((q3 >>> ((Int64.toInt32 a1) &&& 31)) &&& 1) = 1 then (some (1, M4)) else (some (0, M4)))))
set_option maxHeartbeats 4000000 in
set_option maxRecDepth 100000 in
theorem c_Ctx_reaches {l : Launch} {g : ax_G} {a1 : Int64} {M : ax_M} {r : Int32} {M' : ax_M} (h : f_Ctx_reaches a1 M = some (r, M')) : Ctr l g true Y_Ctx_reaches 2 [vA 63, vJ a1] M (some (vI r), M') := by
  refine Ctr.ofAW yok_Ctx_reaches (Nat.le_of_ble_eq_true rfl) (Or.inl rfl) ?_
  show AW l g true Y_Ctx_reaches 2 (some (vI r), M') 0 [(0, vA 63), (1, vJ a1)] [] M
  unfold f_Ctx_reaches at h
  refine A_lload_n 1 rfl rfl rfl ?_
  refine A_lconst (v := 0) rfl (by decide) ?_
  refine A_lcmp rfl ?_
  refine A_if_lt (tgt := 31) rfl (by decide) (fun hc1 => ?_) (fun hc1 => ?_)
  · rw [if_pos hc1] at h
    refine A_iconst (v := 0) rfl (by decide) ?_
    obtain ⟨rfl, rfl⟩ := leaf h
    exact A_zret rfl rfl (Or.inl rfl)
  · rw [if_neg hc1] at h
    refine A_pc (pc' := 6) rfl ?_
    refine A_lload_n 1 rfl rfl rfl ?_
    refine A_ldc2 (v := 16) rfl (inWG 947 (by decide +kernel) (by decide +kernel)) ?_
    refine A_lcmp rfl ?_
    refine A_if_ge (tgt := 31) rfl (by decide) (fun hc2 => ?_) (fun hc2 => ?_)
    · rw [if_pos hc2] at h
      refine A_iconst (v := 0) rfl (by decide) ?_
      obtain ⟨rfl, rfl⟩ := leaf h
      exact A_zret rfl rfl (Or.inl rfl)
    · rw [if_neg hc2] at h
      refine A_pc (pc' := 14) rfl ?_
      refine A_aload_n 0 rfl rfl rfl ?_
      obtain ⟨q3, M4, hcq3, h⟩ := bnd_out h
      refine A_callV (as := []) (st' := []) (r1 := (some (vI q3), M4)) rfl ml_Ctx_39 rfl (by decide) (by decide) (Or.inl rfl) rfl rfl (Nat.le_of_ble_eq_true rfl) (by decide) (c_Ctx_reachable hcq3) (Or.inl rfl) ?_
      refine A_pc (pc' := 18) rfl ?_
      refine A_stk (st' := [vI q3]) rfl ?_
      refine A_lload_n 1 rfl rfl rfl ?_
      refine A_l2i rfl ?_
      refine A_ishr rfl ?_
      refine A_pc (pc' := 21) rfl ?_
      refine A_iconst (v := 1) rfl (by decide) ?_
      refine A_iand rfl ?_
      refine A_iconst (v := 1) rfl (by decide) ?_
      refine A_icmp_ne (tgt := 31) rfl (by decide) (fun hc5 => ?_) (fun hc5 => ?_)
      · rw [if_neg hc5] at h
        refine A_iconst (v := 0) rfl (by decide) ?_
        obtain ⟨rfl, rfl⟩ := leaf h
        exact A_zret rfl rfl (Or.inl rfl)
      · rw [if_pos hc5] at h
        refine A_pc (pc' := 27) rfl ?_
        refine A_iconst (v := 1) rfl (by decide) ?_
        refine A_goto (tgt := 32) rfl (by decide) ?_
        obtain ⟨rfl, rfl⟩ := leaf h
        exact A_zret rfl rfl (Or.inr rfl)
def tb_Guard_isThere : List (Nat × Instr × Nat) := [(0, .aload_n 0, 1), (1, .getfield 9, 3), (4, .ifCond .eq 7, 3), (7, .iconst 1, 1), (8, .goto 4, 3), (11, .iconst 0, 1), (12, .ireturn, 1)]
def Y_Guard_isThere : ax_Y := (⟨"MethodWarden$Guard", "isThere", "()Z"⟩, prog_5_method_2_code, 1, some .boolean, tb_Guard_isThere)
theorem yok_Guard_isThere : yOK Y_Guard_isThere := ⟨by decide +kernel, by decide +kernel, inWG 768 (by decide +kernel) (by decide +kernel), inWG 106 (by decide +kernel) (by decide +kernel), by decide +kernel⟩
theorem fl_Guard_9 : fldOK "MethodWarden$Guard" 9 10 0 false := ⟨_, _, _, cls_Guard, by decide, by decide, rfl, Or.inl (inWG 372 (by decide +kernel) (by decide +kernel))⟩
def f_Guard_isThere (t0 : Nat) (M : ax_M) : Option (Int32 × ax_M) :=
  gk t0 10 (if (gI M t0 0) = 0 then (some (0, M)) else (some (1, M)))
set_option maxHeartbeats 4000000 in
set_option maxRecDepth 100000 in
theorem c_Guard_isThere {l : Launch} {g : ax_G} {t0 : Nat} {M : ax_M} {r : Int32} {M' : ax_M} (h : f_Guard_isThere t0 M = some (r, M')) : Ctr l g true Y_Guard_isThere 1 [vA t0] M (some (vI r), M') := by
  refine Ctr.ofAW yok_Guard_isThere (Nat.le_of_ble_eq_true rfl) (Or.inl rfl) ?_
  show AW l g true Y_Guard_isThere 1 (some (vI r), M') 0 [(0, vA t0)] [] M
  unfold f_Guard_isThere at h
  refine A_aload_n 0 rfl rfl rfl ?_
  obtain ⟨hg1, h⟩ := gk_out h
  refine A_getI rfl fl_Guard_9 rfl hg1 (Or.inl rfl) ?_
  refine A_if_eq (tgt := 11) rfl (by decide) (fun hc2 => ?_) (fun hc2 => ?_)
  · rw [if_pos hc2] at h
    refine A_iconst (v := 0) rfl (by decide) ?_
    obtain ⟨rfl, rfl⟩ := leaf h
    exact A_zret rfl rfl (Or.inl rfl)
  · rw [if_neg hc2] at h
    refine A_pc (pc' := 7) rfl ?_
    refine A_iconst (v := 1) rfl (by decide) ?_
    refine A_goto (tgt := 12) rfl (by decide) ?_
    obtain ⟨rfl, rfl⟩ := leaf h
    exact A_zret rfl rfl (Or.inr rfl)
def tb_Guard_watches : List (Nat × Instr × Nat) := [(0, .aload_n 0, 1), (1, .getfield 9, 3), (4, .iconst 2, 1), (5, .if_icmp .eq 19, 3), (8, .aload_n 0, 1), (9, .getfield 9, 3), (12, .iconst 3, 1), (13, .if_icmp .eq 11, 3), (16, .aload_n 0, 1), (17, .getfield 9, 3), (20, .iconst 4, 1), (21, .if_icmp .ne 7, 3), (24, .iconst 1, 1), (25, .goto 4, 3), (28, .iconst 0, 1), (29, .ireturn, 1)]
def Y_Guard_watches : ax_Y := (⟨"MethodWarden$Guard", "watches", "()Z"⟩, prog_5_method_3_code, 1, some .boolean, tb_Guard_watches)
theorem yok_Guard_watches : yOK Y_Guard_watches := ⟨by decide +kernel, by decide +kernel, inWG 828 (by decide +kernel) (by decide +kernel), inWG 106 (by decide +kernel) (by decide +kernel), by decide +kernel⟩
def f_Guard_watches (t0 : Nat) (M : ax_M) : Option (Int32 × ax_M) :=
  gk t0 10 (if (gI M t0 0) = 2 then (some (1, M)) else (if (gI M t0 0) = 3 then (some (1, M)) else (if (gI M t0 0) = 4 then (some (1, M)) else (some (0, M)))))
set_option maxHeartbeats 4000000 in
set_option maxRecDepth 100000 in
theorem c_Guard_watches {l : Launch} {g : ax_G} {t0 : Nat} {M : ax_M} {r : Int32} {M' : ax_M} (h : f_Guard_watches t0 M = some (r, M')) : Ctr l g true Y_Guard_watches 1 [vA t0] M (some (vI r), M') := by
  refine Ctr.ofAW yok_Guard_watches (Nat.le_of_ble_eq_true rfl) (Or.inl rfl) ?_
  show AW l g true Y_Guard_watches 1 (some (vI r), M') 0 [(0, vA t0)] [] M
  unfold f_Guard_watches at h
  refine A_aload_n 0 rfl rfl rfl ?_
  obtain ⟨hg1, h⟩ := gk_out h
  refine A_getI rfl fl_Guard_9 rfl hg1 (Or.inl rfl) ?_
  refine A_iconst (v := 2) rfl (by decide) ?_
  refine A_icmp_eq (tgt := 24) rfl (by decide) (fun hc2 => ?_) (fun hc2 => ?_)
  · rw [if_pos hc2] at h
    refine A_iconst (v := 1) rfl (by decide) ?_
    refine A_goto (tgt := 29) rfl (by decide) ?_
    obtain ⟨rfl, rfl⟩ := leaf h
    exact A_zret rfl rfl (Or.inr rfl)
  · rw [if_neg hc2] at h
    refine A_pc (pc' := 8) rfl ?_
    refine A_aload_n 0 rfl rfl rfl ?_
    refine A_getI rfl fl_Guard_9 rfl hg1 (Or.inl rfl) ?_
    refine A_iconst (v := 3) rfl (by decide) ?_
    refine A_icmp_eq (tgt := 24) rfl (by decide) (fun hc3 => ?_) (fun hc3 => ?_)
    · rw [if_pos hc3] at h
      refine A_iconst (v := 1) rfl (by decide) ?_
      refine A_goto (tgt := 29) rfl (by decide) ?_
      obtain ⟨rfl, rfl⟩ := leaf h
      exact A_zret rfl rfl (Or.inr rfl)
    · rw [if_neg hc3] at h
      refine A_pc (pc' := 16) rfl ?_
      refine A_aload_n 0 rfl rfl rfl ?_
      refine A_getI rfl fl_Guard_9 rfl hg1 (Or.inl rfl) ?_
      refine A_iconst (v := 4) rfl (by decide) ?_
      refine A_icmp_ne (tgt := 28) rfl (by decide) (fun hc4 => ?_) (fun hc4 => ?_)
      · rw [if_neg hc4] at h
        refine A_iconst (v := 0) rfl (by decide) ?_
        obtain ⟨rfl, rfl⟩ := leaf h
        exact A_zret rfl rfl (Or.inl rfl)
      · rw [if_pos hc4] at h
        refine A_pc (pc' := 24) rfl ?_
        refine A_iconst (v := 1) rfl (by decide) ?_
        refine A_goto (tgt := 29) rfl (by decide) ?_
        obtain ⟨rfl, rfl⟩ := leaf h
        exact A_zret rfl rfl (Or.inr rfl)
def tb_Guard_opensTo : List (Nat × Instr × Nat) := [(0, .aload_n 0, 1), (1, .getfield 9, 3), (4, .iconst 3, 1), (5, .if_icmp .ne 20, 3), (8, .iload_n 1, 1), (9, .aload_n 0, 1), (10, .getfield 13, 3), (13, .iand, 1), (14, .ifCond .eq 7, 3), (17, .iconst 1, 1), (18, .goto 20, 3), (21, .iconst 0, 1), (22, .goto 16, 3), (25, .aload_n 0, 1), (26, .getfield 9, 3), (29, .iconst 2, 1), (30, .if_icmp .eq 7, 3), (33, .iconst 1, 1), (34, .goto 4, 3), (37, .iconst 0, 1), (38, .ireturn, 1)]
def Y_Guard_opensTo : ax_Y := (⟨"MethodWarden$Guard", "opensTo", "(I)Z"⟩, prog_5_method_4_code, 2, some .boolean, tb_Guard_opensTo)
theorem yok_Guard_opensTo : yOK Y_Guard_opensTo := ⟨by decide +kernel, by decide +kernel, inWG 993 (by decide +kernel) (by decide +kernel), inWG 106 (by decide +kernel) (by decide +kernel), by decide +kernel⟩
theorem fl_Guard_13 : fldOK "MethodWarden$Guard" 13 10 1 false := ⟨_, _, _, cls_Guard, by decide, by decide, rfl, Or.inl (inWG 374 (by decide +kernel) (by decide +kernel))⟩
def f_Guard_opensTo (t0 : Nat) (a1 : Int32) (M : ax_M) : Option (Int32 × ax_M) :=
  gk t0 10 (if (gI M t0 0) = 3 then (if (a1 &&& (gI M t0 1)) = 0 then (some (0, M)) else (some (1, M))) else (if (gI M t0 0) = 2 then (some (0, M)) else (some (1, M))))
set_option maxHeartbeats 4000000 in
set_option maxRecDepth 100000 in
theorem c_Guard_opensTo {l : Launch} {g : ax_G} {t0 : Nat} {a1 : Int32} {M : ax_M} {r : Int32} {M' : ax_M} (h : f_Guard_opensTo t0 a1 M = some (r, M')) : Ctr l g true Y_Guard_opensTo 1 [vA t0, vI a1] M (some (vI r), M') := by
  refine Ctr.ofAW yok_Guard_opensTo (Nat.le_of_ble_eq_true rfl) (Or.inl rfl) ?_
  show AW l g true Y_Guard_opensTo 1 (some (vI r), M') 0 [(0, vA t0), (1, vI a1)] [] M
  unfold f_Guard_opensTo at h
  refine A_aload_n 0 rfl rfl rfl ?_
  obtain ⟨hg1, h⟩ := gk_out h
  refine A_getI rfl fl_Guard_9 rfl hg1 (Or.inl rfl) ?_
  refine A_iconst (v := 3) rfl (by decide) ?_
  refine A_icmp_ne (tgt := 25) rfl (by decide) (fun hc2 => ?_) (fun hc2 => ?_)
  · rw [if_neg hc2] at h
    refine A_aload_n 0 rfl rfl rfl ?_
    refine A_getI rfl fl_Guard_9 rfl hg1 (Or.inl rfl) ?_
    refine A_iconst (v := 2) rfl (by decide) ?_
    refine A_icmp_eq (tgt := 37) rfl (by decide) (fun hc3 => ?_) (fun hc3 => ?_)
    · rw [if_pos hc3] at h
      refine A_iconst (v := 0) rfl (by decide) ?_
      obtain ⟨rfl, rfl⟩ := leaf h
      exact A_zret rfl rfl (Or.inl rfl)
    · rw [if_neg hc3] at h
      refine A_pc (pc' := 33) rfl ?_
      refine A_iconst (v := 1) rfl (by decide) ?_
      refine A_goto (tgt := 38) rfl (by decide) ?_
      obtain ⟨rfl, rfl⟩ := leaf h
      exact A_zret rfl rfl (Or.inr rfl)
  · rw [if_pos hc2] at h
    refine A_pc (pc' := 8) rfl ?_
    refine A_iload_n 1 rfl rfl rfl ?_
    refine A_aload_n 0 rfl rfl rfl ?_
    refine A_getI rfl fl_Guard_13 rfl hg1 (Or.inl rfl) ?_
    refine A_iand rfl ?_
    refine A_if_eq (tgt := 21) rfl (by decide) (fun hc4 => ?_) (fun hc4 => ?_)
    · rw [if_pos hc4] at h
      refine A_iconst (v := 0) rfl (by decide) ?_
      refine A_goto (tgt := 38) rfl (by decide) ?_
      obtain ⟨rfl, rfl⟩ := leaf h
      exact A_zret rfl rfl (Or.inl rfl)
    · rw [if_neg hc4] at h
      refine A_pc (pc' := 17) rfl ?_
      refine A_iconst (v := 1) rfl (by decide) ?_
      refine A_goto (tgt := 38) rfl (by decide) ?_
      obtain ⟨rfl, rfl⟩ := leaf h
      exact A_zret rfl rfl (Or.inr rfl)
def tb_Guard_turnInto : List (Nat × Instr × Nat) := [(0, .iload_n 1, 1), (1, .ifCond .ne 10, 3), (4, .aload_n 0, 1), (5, .invokevirtual 16, 3), (8, .goto 23, 3), (11, .aload_n 0, 1), (12, .invokevirtual 16, 3), (15, .ifCond .eq 11, 3), (18, .aload_n 0, 1), (19, .getfield 9, 3), (22, .iload_n 1, 1), (23, .if_icmp .ne 7, 3), (26, .iconst 1, 1), (27, .goto 4, 3), (30, .iconst 0, 1), (31, .istore_n 3, 1), (32, .iload_n 3, 1), (33, .ifCond .eq 13, 3), (36, .aload_n 0, 1), (37, .iload_n 1, 1), (38, .putfield 9, 3), (41, .aload_n 0, 1), (42, .iload_n 2, 1), (43, .putfield 13, 3), (46, .iload_n 3, 1), (47, .ireturn, 1)]
def Y_Guard_turnInto : ax_Y := (⟨"MethodWarden$Guard", "turnInto", "(II)Z"⟩, prog_5_method_5_code, 4, some .boolean, tb_Guard_turnInto)
theorem yok_Guard_turnInto : yOK Y_Guard_turnInto := ⟨by decide +kernel, by decide +kernel, inWG 764 (by decide +kernel) (by decide +kernel), inWG 106 (by decide +kernel) (by decide +kernel), by decide +kernel⟩
theorem ml_Guard_16 : mlV "MethodWarden$Guard" 16 Y_Guard_isThere 0 := ⟨⟨yok_Guard_isThere, by decide +kernel, by decide⟩, Or.inl (inWG 765 (by decide +kernel) (by decide +kernel)), inWG 766 (by decide +kernel) (by decide +kernel), inWG 767 (by decide +kernel) (by decide +kernel)⟩
def f_Guard_turnInto_31 (l0 : Nat) (l1 : Int32) (l2 : Int32) (s0 : Int32) (M : ax_M) : Option (Int32 × ax_M) :=
  if s0 = 0 then (g2 s0 (some (s0, M))) else (gk l0 10 (kM (mI M l0 0 l1) (fun M9 => kM (mI M9 l0 1 l2) (fun M10 => g2 s0 (some (s0, M10))))))
set_option maxHeartbeats 4000000 in
set_option maxRecDepth 100000 in
theorem o_Guard_turnInto_31 {l : Launch} {g : ax_G} (l0 : Nat) (l1 : Int32) (l2 : Int32) (s0 : Int32) (M : ax_M) (r : Int32) (M' : ax_M) (h : f_Guard_turnInto_31  l0 l1 l2 s0 M = some (r, M')) : AW l g true Y_Guard_turnInto 2 (some (vI r), M') 31 [(0, vA l0), (1, vI l1), (2, vI l2)] [vI s0] M := by
  unfold f_Guard_turnInto_31 at h
  refine A_istore_n (Ls' := [(3, vI s0), (0, vA l0), (1, vI l1), (2, vI l2)]) rfl rfl (by decide) rfl ?_
  refine A_iload_n 0 rfl rfl rfl ?_
  refine A_if_eq (tgt := 46) rfl (by decide) (fun hc6 => ?_) (fun hc6 => ?_)
  · rw [if_pos hc6] at h
    refine A_iload_n 0 rfl rfl rfl ?_
    obtain ⟨hg7, h⟩ := g2_out h
    obtain ⟨rfl, rfl⟩ := leaf h
    exact A_zret rfl rfl hg7
  · rw [if_neg hc6] at h
    refine A_pc (pc' := 36) rfl ?_
    refine A_aload_n 1 rfl rfl rfl ?_
    refine A_iload_n 2 rfl rfl rfl ?_
    obtain ⟨hg8, h⟩ := gk_out h
    refine A_putI rfl (Or.inl fl_Guard_9) rfl hg8 (Or.inl rfl) rfl ?_
    obtain ⟨M9, hM9, h⟩ := kM_out h
    refine A_mem hM9 ?_
    refine A_aload_n 1 rfl rfl rfl ?_
    refine A_iload_n 3 rfl rfl rfl ?_
    refine A_pc (pc' := 43) rfl ?_
    refine A_putI rfl (Or.inl fl_Guard_13) rfl hg8 (Or.inl rfl) rfl ?_
    obtain ⟨M10, hM10, h⟩ := kM_out h
    refine A_mem hM10 ?_
    refine A_iload_n 0 rfl rfl rfl ?_
    obtain ⟨hg11, h⟩ := g2_out h
    obtain ⟨rfl, rfl⟩ := leaf h
    exact A_zret rfl rfl hg11
def f_Guard_turnInto (t0 : Nat) (a1 : Int32) (a2 : Int32) (M : ax_M) : Option (Int32 × ax_M) :=
  if a1 = 0 then (gk t0 10 (bnd (f_Guard_isThere t0 M) (fun q14 M15 => f_Guard_turnInto_31 t0 a1 a2 q14 M15))) else (gk t0 10 (bnd (f_Guard_isThere t0 M) (fun q3 M4 => if q3 = 0 then (f_Guard_turnInto_31 t0 a1 a2 1 M4) else (if (gI M4 t0 0) = a1 then (f_Guard_turnInto_31 t0 a1 a2 1 M4) else (f_Guard_turnInto_31 t0 a1 a2 0 M4)))))
set_option maxHeartbeats 4000000 in
set_option maxRecDepth 100000 in
theorem c_Guard_turnInto {l : Launch} {g : ax_G} {t0 : Nat} {a1 : Int32} {a2 : Int32} {M : ax_M} {r : Int32} {M' : ax_M} (h : f_Guard_turnInto t0 a1 a2 M = some (r, M')) : Ctr l g true Y_Guard_turnInto 2 [vA t0, vI a1, vI a2] M (some (vI r), M') := by
  refine Ctr.ofAW yok_Guard_turnInto (Nat.le_of_ble_eq_true rfl) (Or.inl rfl) ?_
  show AW l g true Y_Guard_turnInto 2 (some (vI r), M') 0 [(0, vA t0), (1, vI a1), (2, vI a2)] [] M
  unfold f_Guard_turnInto at h
  refine A_iload_n 1 rfl rfl rfl ?_
  refine A_if_ne (tgt := 11) rfl (by decide) (fun hc1 => ?_) (fun hc1 => ?_)
  · rw [if_neg hc1] at h
    refine A_aload_n 0 rfl rfl rfl ?_
    obtain ⟨hg2, h⟩ := gk_out h
    obtain ⟨q3, M4, hcq3, h⟩ := bnd_out h
    refine A_callV (as := []) (st' := []) (r1 := (some (vI q3), M4)) rfl ml_Guard_16 rfl (by decide) hg2 (Or.inl rfl) rfl rfl (Nat.le_of_ble_eq_true rfl) (by decide) (c_Guard_isThere hcq3) (Or.inl rfl) ?_
    refine A_pc (pc' := 15) rfl ?_
    refine A_stk (st' := [vI q3]) rfl ?_
    refine A_if_eq (tgt := 26) rfl (by decide) (fun hc5 => ?_) (fun hc5 => ?_)
    · rw [if_pos hc5] at h
      refine A_iconst (v := 1) rfl (by decide) ?_
      refine A_goto (tgt := 31) rfl (by decide) ?_
      refine A_pc (pc' := 31) rfl ?_
      refine A_sub (Ls' := [(0, vA t0), (1, vI a1), (2, vI a2)]) [0, 1, 2] rfl ?_
      exact o_Guard_turnInto_31  _ _ _ _ _ _ _ h
    · rw [if_neg hc5] at h
      refine A_pc (pc' := 18) rfl ?_
      refine A_aload_n 0 rfl rfl rfl ?_
      refine A_getI rfl fl_Guard_9 rfl hg2 (Or.inl rfl) ?_
      refine A_iload_n 1 rfl rfl rfl ?_
      refine A_icmp_ne (tgt := 30) rfl (by decide) (fun hc12 => ?_) (fun hc12 => ?_)
      · rw [if_neg hc12] at h
        refine A_iconst (v := 0) rfl (by decide) ?_
        refine A_pc (pc' := 31) rfl ?_
        refine A_sub (Ls' := [(0, vA t0), (1, vI a1), (2, vI a2)]) [0, 1, 2] rfl ?_
        exact o_Guard_turnInto_31  _ _ _ _ _ _ _ h
      · rw [if_pos hc12] at h
        refine A_pc (pc' := 26) rfl ?_
        refine A_iconst (v := 1) rfl (by decide) ?_
        refine A_goto (tgt := 31) rfl (by decide) ?_
        refine A_pc (pc' := 31) rfl ?_
        refine A_sub (Ls' := [(0, vA t0), (1, vI a1), (2, vI a2)]) [0, 1, 2] rfl ?_
        exact o_Guard_turnInto_31  _ _ _ _ _ _ _ h
  · rw [if_pos hc1] at h
    refine A_pc (pc' := 4) rfl ?_
    refine A_aload_n 0 rfl rfl rfl ?_
    obtain ⟨hg13, h⟩ := gk_out h
    obtain ⟨q14, M15, hcq14, h⟩ := bnd_out h
    refine A_callV (as := []) (st' := []) (r1 := (some (vI q14), M15)) rfl ml_Guard_16 rfl (by decide) hg13 (Or.inl rfl) rfl rfl (Nat.le_of_ble_eq_true rfl) (by decide) (c_Guard_isThere hcq14) (Or.inl rfl) ?_
    refine A_pc (pc' := 8) rfl ?_
    refine A_stk (st' := [vI q14]) rfl ?_
    refine A_goto (tgt := 31) rfl (by decide) ?_
    refine A_pc (pc' := 31) rfl ?_
    refine A_sub (Ls' := [(0, vA t0), (1, vI a1), (2, vI a2)]) [0, 1, 2] rfl ?_
    exact o_Guard_turnInto_31  _ _ _ _ _ _ _ h
def tb_Meth_setRules : List (Nat × Instr × Nat) := [(0, .aload_n 0, 1), (1, .iload_n 1, 1), (2, .putfield 9, 3), (5, .aload_n 0, 1), (6, .iload_n 2, 1), (7, .putfield 15, 3), (10, .aload_n 0, 1), (11, .iload_n 3, 1), (12, .putfield 18, 3), (15, .return_, 1)]
def Y_Meth_setRules : ax_Y := (⟨"MethodWarden$Method", "setRules", "(III)V"⟩, prog_7_method_2_code, 4, none, tb_Meth_setRules)
theorem yok_Meth_setRules : yOK Y_Meth_setRules := ⟨by decide +kernel, by decide +kernel, inWG 783 (by decide +kernel) (by decide +kernel), inWG 105 (by decide +kernel) (by decide +kernel), by decide +kernel⟩
theorem fl_Meth_9 : fldOK "MethodWarden$Method" 9 9 0 false := ⟨_, _, _, cls_Meth, by decide, by decide, rfl, Or.inl (inWG 339 (by decide +kernel) (by decide +kernel))⟩
theorem fl_Meth_15 : fldOK "MethodWarden$Method" 15 9 1 false := ⟨_, _, _, cls_Meth, by decide, by decide, rfl, Or.inl (inWG 341 (by decide +kernel) (by decide +kernel))⟩
theorem fl_Meth_18 : fldOK "MethodWarden$Method" 18 9 2 false := ⟨_, _, _, cls_Meth, by decide, by decide, rfl, Or.inl (inWG 343 (by decide +kernel) (by decide +kernel))⟩
def f_Meth_setRules (t0 : Nat) (a1 : Int32) (a2 : Int32) (a3 : Int32) (M : ax_M) : Option (Unit × ax_M) :=
  gk t0 9 (kM (mI M t0 0 a1) (fun M2 => kM (mI M2 t0 1 a2) (fun M3 => kM (mI M3 t0 2 a3) (fun M4 => some ((), M4)))))
set_option maxHeartbeats 4000000 in
set_option maxRecDepth 100000 in
theorem c_Meth_setRules {l : Launch} {g : ax_G} {t0 : Nat} {a1 : Int32} {a2 : Int32} {a3 : Int32} {M : ax_M} {r : Unit} {M' : ax_M} (h : f_Meth_setRules t0 a1 a2 a3 M = some (r, M')) : Ctr l g true Y_Meth_setRules 1 [vA t0, vI a1, vI a2, vI a3] M (none, M') := by
  refine Ctr.ofAW yok_Meth_setRules (Nat.le_of_ble_eq_true rfl) (Or.inl rfl) ?_
  show AW l g true Y_Meth_setRules 1 (none, M') 0 [(0, vA t0), (1, vI a1), (2, vI a2), (3, vI a3)] [] M
  unfold f_Meth_setRules at h
  refine A_aload_n 0 rfl rfl rfl ?_
  refine A_iload_n 1 rfl rfl rfl ?_
  obtain ⟨hg1, h⟩ := gk_out h
  refine A_putI rfl (Or.inl fl_Meth_9) rfl hg1 (Or.inl rfl) rfl ?_
  obtain ⟨M2, hM2, h⟩ := kM_out h
  refine A_mem hM2 ?_
  refine A_aload_n 0 rfl rfl rfl ?_
  refine A_iload_n 2 rfl rfl rfl ?_
  refine A_pc (pc' := 7) rfl ?_
  refine A_putI rfl (Or.inl fl_Meth_15) rfl hg1 (Or.inl rfl) rfl ?_
  obtain ⟨M3, hM3, h⟩ := kM_out h
  refine A_mem hM3 ?_
  refine A_aload_n 0 rfl rfl rfl ?_
  refine A_iload_n 3 rfl rfl rfl ?_
  refine A_putI rfl (Or.inl fl_Meth_18) rfl hg1 (Or.inl rfl) rfl ?_
  obtain ⟨M4, hM4, h⟩ := kM_out h
  refine A_mem hM4 ?_
  obtain ⟨rfl, rfl⟩ := leaf h
  exact A_vret rfl rfl
def tb_Meth_hasRule : List (Nat × Instr × Nat) := [(0, .aload_n 0, 1), (1, .getfield 9, 3), (4, .iconst (-1), 1), (5, .if_icmp .ne 19, 3), (8, .aload_n 0, 1), (9, .getfield 15, 3), (12, .iconst (-1), 1), (13, .if_icmp .ne 11, 3), (16, .aload_n 0, 1), (17, .getfield 18, 3), (20, .iconst (-1), 1), (21, .if_icmp .eq 7, 3), (24, .iconst 1, 1), (25, .goto 4, 3), (28, .iconst 0, 1), (29, .ireturn, 1)]
def Y_Meth_hasRule : ax_Y := (⟨"MethodWarden$Method", "hasRule", "()Z"⟩, prog_7_method_3_code, 1, some .boolean, tb_Meth_hasRule)
theorem yok_Meth_hasRule : yOK Y_Meth_hasRule := ⟨by decide +kernel, by decide +kernel, inWG 832 (by decide +kernel) (by decide +kernel), inWG 105 (by decide +kernel) (by decide +kernel), by decide +kernel⟩
def f_Meth_hasRule (t0 : Nat) (M : ax_M) : Option (Int32 × ax_M) :=
  gk t0 9 (if (gI M t0 0) = ((-1)) then (if (gI M t0 1) = ((-1)) then (if (gI M t0 2) = ((-1)) then (some (0, M)) else (some (1, M))) else (some (1, M))) else (some (1, M)))
set_option maxHeartbeats 4000000 in
set_option maxRecDepth 100000 in
theorem c_Meth_hasRule {l : Launch} {g : ax_G} {t0 : Nat} {M : ax_M} {r : Int32} {M' : ax_M} (h : f_Meth_hasRule t0 M = some (r, M')) : Ctr l g true Y_Meth_hasRule 1 [vA t0] M (some (vI r), M') := by
  refine Ctr.ofAW yok_Meth_hasRule (Nat.le_of_ble_eq_true rfl) (Or.inl rfl) ?_
  show AW l g true Y_Meth_hasRule 1 (some (vI r), M') 0 [(0, vA t0)] [] M
  unfold f_Meth_hasRule at h
  refine A_aload_n 0 rfl rfl rfl ?_
  obtain ⟨hg1, h⟩ := gk_out h
  refine A_getI rfl fl_Meth_9 rfl hg1 (Or.inl rfl) ?_
  refine A_iconst (v := (-1)) rfl (by decide) ?_
  refine A_icmp_ne (tgt := 24) rfl (by decide) (fun hc2 => ?_) (fun hc2 => ?_)
  · rw [if_neg hc2] at h
    refine A_iconst (v := 1) rfl (by decide) ?_
    refine A_goto (tgt := 29) rfl (by decide) ?_
    obtain ⟨rfl, rfl⟩ := leaf h
    exact A_zret rfl rfl (Or.inr rfl)
  · rw [if_pos hc2] at h
    refine A_pc (pc' := 8) rfl ?_
    refine A_aload_n 0 rfl rfl rfl ?_
    refine A_getI rfl fl_Meth_15 rfl hg1 (Or.inl rfl) ?_
    refine A_iconst (v := (-1)) rfl (by decide) ?_
    refine A_icmp_ne (tgt := 24) rfl (by decide) (fun hc3 => ?_) (fun hc3 => ?_)
    · rw [if_neg hc3] at h
      refine A_iconst (v := 1) rfl (by decide) ?_
      refine A_goto (tgt := 29) rfl (by decide) ?_
      obtain ⟨rfl, rfl⟩ := leaf h
      exact A_zret rfl rfl (Or.inr rfl)
    · rw [if_pos hc3] at h
      refine A_pc (pc' := 16) rfl ?_
      refine A_aload_n 0 rfl rfl rfl ?_
      refine A_getI rfl fl_Meth_18 rfl hg1 (Or.inl rfl) ?_
      refine A_iconst (v := (-1)) rfl (by decide) ?_
      refine A_icmp_eq (tgt := 28) rfl (by decide) (fun hc4 => ?_) (fun hc4 => ?_)
      · rw [if_pos hc4] at h
        refine A_iconst (v := 0) rfl (by decide) ?_
        obtain ⟨rfl, rfl⟩ := leaf h
        exact A_zret rfl rfl (Or.inl rfl)
      · rw [if_neg hc4] at h
        refine A_pc (pc' := 24) rfl ?_
        refine A_iconst (v := 1) rfl (by decide) ?_
        refine A_goto (tgt := 29) rfl (by decide) ?_
        obtain ⟨rfl, rfl⟩ := leaf h
        exact A_zret rfl rfl (Or.inr rfl)
def tb_Meth_setTarget : List (Nat × Instr × Nat) := [(0, .aload_n 0, 1), (1, .iload_n 1, 1), (2, .putfield 21, 3), (5, .aload_n 0, 1), (6, .iload_n 2, 1), (7, .putfield 28, 3), (10, .aload_n 0, 1), (11, .iload_n 3, 1), (12, .putfield 31, 3), (15, .return_, 1)]
def Y_Meth_setTarget : ax_Y := (⟨"MethodWarden$Method", "setTarget", "(III)V"⟩, prog_7_method_4_code, 4, none, tb_Meth_setTarget)
theorem yok_Meth_setTarget : yOK Y_Meth_setTarget := ⟨by decide +kernel, by decide +kernel, inWG 794 (by decide +kernel) (by decide +kernel), inWG 105 (by decide +kernel) (by decide +kernel), by decide +kernel⟩
theorem fl_Meth_21 : fldOK "MethodWarden$Method" 21 9 3 false := ⟨_, _, _, cls_Meth, by decide, by decide, rfl, Or.inl (inWG 345 (by decide +kernel) (by decide +kernel))⟩
theorem fl_Meth_28 : fldOK "MethodWarden$Method" 28 9 4 false := ⟨_, _, _, cls_Meth, by decide, by decide, rfl, Or.inl (inWG 347 (by decide +kernel) (by decide +kernel))⟩
theorem fl_Meth_31 : fldOK "MethodWarden$Method" 31 9 5 false := ⟨_, _, _, cls_Meth, by decide, by decide, rfl, Or.inl (inWG 349 (by decide +kernel) (by decide +kernel))⟩
def f_Meth_setTarget (t0 : Nat) (a1 : Int32) (a2 : Int32) (a3 : Int32) (M : ax_M) : Option (Unit × ax_M) :=
  gk t0 9 (kM (mI M t0 3 a1) (fun M2 => kM (mI M2 t0 4 a2) (fun M3 => kM (mI M3 t0 5 a3) (fun M4 => some ((), M4)))))
set_option maxHeartbeats 4000000 in
set_option maxRecDepth 100000 in
theorem c_Meth_setTarget {l : Launch} {g : ax_G} {t0 : Nat} {a1 : Int32} {a2 : Int32} {a3 : Int32} {M : ax_M} {r : Unit} {M' : ax_M} (h : f_Meth_setTarget t0 a1 a2 a3 M = some (r, M')) : Ctr l g true Y_Meth_setTarget 1 [vA t0, vI a1, vI a2, vI a3] M (none, M') := by
  refine Ctr.ofAW yok_Meth_setTarget (Nat.le_of_ble_eq_true rfl) (Or.inl rfl) ?_
  show AW l g true Y_Meth_setTarget 1 (none, M') 0 [(0, vA t0), (1, vI a1), (2, vI a2), (3, vI a3)] [] M
  unfold f_Meth_setTarget at h
  refine A_aload_n 0 rfl rfl rfl ?_
  refine A_iload_n 1 rfl rfl rfl ?_
  obtain ⟨hg1, h⟩ := gk_out h
  refine A_putI rfl (Or.inl fl_Meth_21) rfl hg1 (Or.inl rfl) rfl ?_
  obtain ⟨M2, hM2, h⟩ := kM_out h
  refine A_mem hM2 ?_
  refine A_aload_n 0 rfl rfl rfl ?_
  refine A_iload_n 2 rfl rfl rfl ?_
  refine A_pc (pc' := 7) rfl ?_
  refine A_putI rfl (Or.inl fl_Meth_28) rfl hg1 (Or.inl rfl) rfl ?_
  obtain ⟨M3, hM3, h⟩ := kM_out h
  refine A_mem hM3 ?_
  refine A_aload_n 0 rfl rfl rfl ?_
  refine A_iload_n 3 rfl rfl rfl ?_
  refine A_putI rfl (Or.inl fl_Meth_31) rfl hg1 (Or.inl rfl) rfl ?_
  obtain ⟨M4, hM4, h⟩ := kM_out h
  refine A_mem hM4 ?_
  obtain ⟨rfl, rfl⟩ := leaf h
  exact A_vret rfl rfl
def tb_Meth_note : List (Nat × Instr × Nat) := [(0, .iload_n 1, 1), (1, .ifCond .lt 19, 3), (4, .iload_n 1, 1), (5, .bipush 6, 2), (7, .if_icmp .ge 13, 3), (10, .aload_n 0, 1), (11, .getfield 24, 3), (14, .iload_n 1, 1), (15, .dup2, 1), (16, .iaload, 1), (17, .iconst 1, 1), (18, .iadd, 1), (19, .iastore, 1), (20, .return_, 1)]
def Y_Meth_note : ax_Y := (⟨"MethodWarden$Method", "note", "(I)V"⟩, prog_7_method_5_code, 2, none, tb_Meth_note)
theorem yok_Meth_note : yOK Y_Meth_note := ⟨by decide +kernel, by decide +kernel, inWG 997 (by decide +kernel) (by decide +kernel), inWG 105 (by decide +kernel) (by decide +kernel), by decide +kernel⟩
theorem fl_Meth_24 : fldOK "MethodWarden$Method" 24 9 6 true := ⟨_, _, _, cls_Meth, by decide, by decide, rfl, Or.inl (inWG 351 (by decide +kernel) (by decide +kernel))⟩
def f_Meth_note (t0 : Nat) (a1 : Int32) (M : ax_M) : Option (Unit × ax_M) :=
  if a1 < 0 then (some ((), M)) else (if 6 ≤ a1 then (some ((), M)) else (gk t0 9 (gi a1 6 (kM (mI M (t0 + 1) a1.toNatClampNeg ((gI M (t0 + 1) a1.toNatClampNeg) + 1)) (fun M5 => some ((), M5))))))
set_option maxHeartbeats 4000000 in
set_option maxRecDepth 100000 in
theorem c_Meth_note {l : Launch} {g : ax_G} {t0 : Nat} {a1 : Int32} {M : ax_M} {r : Unit} {M' : ax_M} (h : f_Meth_note t0 a1 M = some (r, M')) : Ctr l g true Y_Meth_note 1 [vA t0, vI a1] M (none, M') := by
  refine Ctr.ofAW yok_Meth_note (Nat.le_of_ble_eq_true rfl) (Or.inl rfl) ?_
  show AW l g true Y_Meth_note 1 (none, M') 0 [(0, vA t0), (1, vI a1)] [] M
  unfold f_Meth_note at h
  refine A_iload_n 1 rfl rfl rfl ?_
  refine A_if_lt (tgt := 20) rfl (by decide) (fun hc1 => ?_) (fun hc1 => ?_)
  · rw [if_pos hc1] at h
    obtain ⟨rfl, rfl⟩ := leaf h
    exact A_vret rfl rfl
  · rw [if_neg hc1] at h
    refine A_pc (pc' := 4) rfl ?_
    refine A_iload_n 1 rfl rfl rfl ?_
    refine A_bipush (v := 6) rfl (by decide) ?_
    refine A_icmp_ge (tgt := 20) rfl (by decide) (fun hc2 => ?_) (fun hc2 => ?_)
    · rw [if_pos hc2] at h
      obtain ⟨rfl, rfl⟩ := leaf h
      exact A_vret rfl rfl
    · rw [if_neg hc2] at h
      refine A_pc (pc' := 10) rfl ?_
      refine A_aload_n 0 rfl rfl rfl ?_
      obtain ⟨hg3, h⟩ := gk_out h
      refine A_getL (r := t0 + 1) rfl fl_Meth_24 rfl hg3 rfl rfl ?_
      refine A_iload_n 1 rfl rfl rfl ?_
      refine A_dup2 rfl rfl rfl ?_
      obtain ⟨hg4, h⟩ := gi_out h
      refine A_iald (n := 6) rfl (lf_Meth_1 hg3).1 (lf_Meth_1 hg3).2 (Or.inl rfl) hg4 ?_
      refine A_pc (pc' := 17) rfl ?_
      refine A_iconst (v := 1) rfl (by decide) ?_
      refine A_iadd rfl ?_
      refine A_iast (n := 6) rfl (lf_Meth_1 hg3).1 (lf_Meth_1 hg3).2 (Or.inl rfl) hg4 ?_
      obtain ⟨M5, hM5, h⟩ := kM_out h
      refine A_mem hM5 ?_
      obtain ⟨rfl, rfl⟩ := leaf h
      exact A_vret rfl rfl
def tb_Meth_timesOf : List (Nat × Instr × Nat) := [(0, .iload_n 1, 1), (1, .ifCond .lt 18, 3), (4, .iload_n 1, 1), (5, .bipush 6, 2), (7, .if_icmp .ge 12, 3), (10, .aload_n 0, 1), (11, .getfield 24, 3), (14, .iload_n 1, 1), (15, .iaload, 1), (16, .goto 4, 3), (19, .iconst 0, 1), (20, .ireturn, 1)]
def Y_Meth_timesOf : ax_Y := (⟨"MethodWarden$Method", "timesOf", "(I)I"⟩, prog_7_method_6_code, 2, some .int, tb_Meth_timesOf)
theorem yok_Meth_timesOf : yOK Y_Meth_timesOf := ⟨by decide +kernel, by decide +kernel, inWG 1068 (by decide +kernel) (by decide +kernel), inWG 105 (by decide +kernel) (by decide +kernel), by decide +kernel⟩
def f_Meth_timesOf (t0 : Nat) (a1 : Int32) (M : ax_M) : Option (Int32 × ax_M) :=
  if a1 < 0 then (some (0, M)) else (if 6 ≤ a1 then (some (0, M)) else (gk t0 9 (gi a1 6 (some (gI M (t0 + 1) a1.toNatClampNeg, M)))))
set_option maxHeartbeats 4000000 in
set_option maxRecDepth 100000 in
theorem c_Meth_timesOf {l : Launch} {g : ax_G} {t0 : Nat} {a1 : Int32} {M : ax_M} {r : Int32} {M' : ax_M} (h : f_Meth_timesOf t0 a1 M = some (r, M')) : Ctr l g true Y_Meth_timesOf 1 [vA t0, vI a1] M (some (vI r), M') := by
  refine Ctr.ofAW yok_Meth_timesOf (Nat.le_of_ble_eq_true rfl) (Or.inl rfl) ?_
  show AW l g true Y_Meth_timesOf 1 (some (vI r), M') 0 [(0, vA t0), (1, vI a1)] [] M
  unfold f_Meth_timesOf at h
  refine A_iload_n 1 rfl rfl rfl ?_
  refine A_if_lt (tgt := 19) rfl (by decide) (fun hc1 => ?_) (fun hc1 => ?_)
  · rw [if_pos hc1] at h
    refine A_iconst (v := 0) rfl (by decide) ?_
    obtain ⟨rfl, rfl⟩ := leaf h
    exact A_iret rfl rfl
  · rw [if_neg hc1] at h
    refine A_pc (pc' := 4) rfl ?_
    refine A_iload_n 1 rfl rfl rfl ?_
    refine A_bipush (v := 6) rfl (by decide) ?_
    refine A_icmp_ge (tgt := 19) rfl (by decide) (fun hc2 => ?_) (fun hc2 => ?_)
    · rw [if_pos hc2] at h
      refine A_iconst (v := 0) rfl (by decide) ?_
      obtain ⟨rfl, rfl⟩ := leaf h
      exact A_iret rfl rfl
    · rw [if_neg hc2] at h
      refine A_pc (pc' := 10) rfl ?_
      refine A_aload_n 0 rfl rfl rfl ?_
      obtain ⟨hg3, h⟩ := gk_out h
      refine A_getL (r := t0 + 1) rfl fl_Meth_24 rfl hg3 rfl rfl ?_
      refine A_iload_n 1 rfl rfl rfl ?_
      obtain ⟨hg4, h⟩ := gi_out h
      refine A_iald (n := 6) rfl (lf_Meth_1 hg3).1 (lf_Meth_1 hg3).2 (Or.inl rfl) hg4 ?_
      refine A_goto (tgt := 20) rfl (by decide) ?_
      refine A_pc (pc' := 20) rfl ?_
      obtain ⟨rfl, rfl⟩ := leaf h
      exact A_iret rfl rfl
end
section
/-! Text. Printed by gen_methods.py. -/
def tb_Text_append : List (Nat × Instr × Nat) := [(0, .iload_n 1, 1), (1, .bipush 32, 2), (3, .if_icmp .lt 18, 3), (6, .iload_n 1, 1), (7, .bipush 126, 2), (9, .if_icmp .gt 12, 3), (12, .aload_n 0, 1), (13, .getfield 15, 3), (16, .bipush 48, 2), (18, .if_icmp .lt 5, 3), (21, .iconst 0, 1), (22, .ireturn, 1), (23, .aload_n 0, 1), (24, .getfield 9, 3), (27, .aload_n 0, 1), (28, .getfield 15, 3), (31, .iload_n 1, 1), (32, .castore, 1), (33, .aload_n 0, 1), (34, .dup, 1), (35, .getfield 15, 3), (38, .iconst 1, 1), (39, .iadd, 1), (40, .putfield 15, 3), (43, .iconst 1, 1), (44, .ireturn, 1)]
def Y_Text_append : ax_Y := (⟨"MethodWarden$Text", "append", "(C)Z"⟩, prog_9_method_2_code, 2, some .boolean, tb_Text_append)
theorem yok_Text_append : yOK Y_Text_append := ⟨by decide +kernel, by decide +kernel, inWG 450 (by decide +kernel) (by decide +kernel), inWG 97 (by decide +kernel) (by decide +kernel), by decide +kernel⟩
theorem fl_Text_15 : fldOK "MethodWarden$Text" 15 1 1 false := ⟨_, _, _, cls_Text, by decide, by decide, rfl, Or.inl (inWG 128 (by decide +kernel) (by decide +kernel))⟩
theorem fl_Text_9 : fldOK "MethodWarden$Text" 9 1 0 true := ⟨_, _, _, cls_Text, by decide, by decide, rfl, Or.inl (inWG 127 (by decide +kernel) (by decide +kernel))⟩
def f_Text_append (a1 : Int32) (M : ax_M) : Option (Int32 × ax_M) :=
  if a1 < 32 then (some (0, M)) else (if 126 < a1 then (some (0, M)) else (if (gI M 3 1) < 48 then (gi (gI M 3 1) 48 (gc a1 (kM (mI M 4 (gI M 3 1).toNatClampNeg a1) (fun M6 => kM (mI M6 3 1 ((gI M6 3 1) + 1)) (fun M7 => some (1, M7)))))) else (some (0, M))))
set_option maxHeartbeats 4000000 in
set_option maxRecDepth 100000 in
theorem c_Text_append {l : Launch} {g : ax_G} {a1 : Int32} {M : ax_M} {r : Int32} {M' : ax_M} (h : f_Text_append a1 M = some (r, M')) : Ctr l g true Y_Text_append 1 [vA 3, vI a1] M (some (vI r), M') := by
  refine Ctr.ofAW yok_Text_append (Nat.le_of_ble_eq_true rfl) (Or.inl rfl) ?_
  show AW l g true Y_Text_append 1 (some (vI r), M') 0 [(0, vA 3), (1, vI a1)] [] M
  unfold f_Text_append at h
  refine A_iload_n 1 rfl rfl rfl ?_
  refine A_bipush (v := 32) rfl (by decide) ?_
  refine A_icmp_lt (tgt := 21) rfl (by decide) (fun hc1 => ?_) (fun hc1 => ?_)
  · rw [if_pos hc1] at h
    refine A_iconst (v := 0) rfl (by decide) ?_
    obtain ⟨rfl, rfl⟩ := leaf h
    exact A_zret rfl rfl (Or.inl rfl)
  · rw [if_neg hc1] at h
    refine A_pc (pc' := 6) rfl ?_
    refine A_iload_n 1 rfl rfl rfl ?_
    refine A_bipush (v := 126) rfl (by decide) ?_
    refine A_icmp_gt (tgt := 21) rfl (by decide) (fun hc2 => ?_) (fun hc2 => ?_)
    · rw [if_pos hc2] at h
      refine A_iconst (v := 0) rfl (by decide) ?_
      obtain ⟨rfl, rfl⟩ := leaf h
      exact A_zret rfl rfl (Or.inl rfl)
    · rw [if_neg hc2] at h
      refine A_pc (pc' := 12) rfl ?_
      refine A_aload_n 0 rfl rfl rfl ?_
      refine A_getI rfl fl_Text_15 rfl (by decide) (Or.inl rfl) ?_
      refine A_bipush (v := 48) rfl (by decide) ?_
      refine A_icmp_lt (tgt := 23) rfl (by decide) (fun hc3 => ?_) (fun hc3 => ?_)
      · rw [if_pos hc3] at h
        refine A_aload_n 0 rfl rfl rfl ?_
        refine A_getL (r := 4) rfl fl_Text_9 rfl (by decide) rfl rfl ?_
        refine A_aload_n 0 rfl rfl rfl ?_
        refine A_getI rfl fl_Text_15 rfl (by decide) (Or.inl rfl) ?_
        refine A_iload_n 1 rfl rfl rfl ?_
        refine A_pc (pc' := 32) rfl ?_
        obtain ⟨hg4, h⟩ := gi_out h
        obtain ⟨hg5, h⟩ := gc_out h
        refine A_cast (n := 48) rfl (by decide) (by decide) (Or.inl rfl) hg4 hg5 ?_
        obtain ⟨M6, hM6, h⟩ := kM_out h
        refine A_mem hM6 ?_
        refine A_aload_n 0 rfl rfl rfl ?_
        refine A_dup rfl rfl ?_
        refine A_getI rfl fl_Text_15 rfl (by decide) (Or.inl rfl) ?_
        refine A_iconst (v := 1) rfl (by decide) ?_
        refine A_iadd rfl ?_
        refine A_pc (pc' := 40) rfl ?_
        refine A_putI rfl (Or.inl fl_Text_15) rfl (by decide) (Or.inl rfl) rfl ?_
        obtain ⟨M7, hM7, h⟩ := kM_out h
        refine A_mem hM7 ?_
        refine A_iconst (v := 1) rfl (by decide) ?_
        obtain ⟨rfl, rfl⟩ := leaf h
        exact A_zret rfl rfl (Or.inr rfl)
      · rw [if_neg hc3] at h
        refine A_pc (pc' := 21) rfl ?_
        refine A_iconst (v := 0) rfl (by decide) ?_
        obtain ⟨rfl, rfl⟩ := leaf h
        exact A_zret rfl rfl (Or.inl rfl)
def tb_Text_clear : List (Nat × Instr × Nat) := [(0, .aload_n 0, 1), (1, .iconst 0, 1), (2, .putfield 15, 3), (5, .return_, 1)]
def Y_Text_clear : ax_Y := (⟨"MethodWarden$Text", "clear", "()V"⟩, prog_9_method_3_code, 1, none, tb_Text_clear)
theorem yok_Text_clear : yOK Y_Text_clear := ⟨by decide +kernel, by decide +kernel, inWG 680 (by decide +kernel) (by decide +kernel), inWG 97 (by decide +kernel) (by decide +kernel), by decide +kernel⟩
def f_Text_clear  (M : ax_M) : Option (Unit × ax_M) :=
  kM (mI M 3 1 0) (fun M1 => some ((), M1))
set_option maxHeartbeats 4000000 in
set_option maxRecDepth 100000 in
theorem c_Text_clear {l : Launch} {g : ax_G}  {M : ax_M} {r : Unit} {M' : ax_M} (h : f_Text_clear  M = some (r, M')) : Ctr l g true Y_Text_clear 1 [vA 3] M (none, M') := by
  refine Ctr.ofAW yok_Text_clear (Nat.le_of_ble_eq_true rfl) (Or.inl rfl) ?_
  show AW l g true Y_Text_clear 1 (none, M') 0 [(0, vA 3)] [] M
  unfold f_Text_clear at h
  refine A_aload_n 0 rfl rfl rfl ?_
  refine A_iconst (v := 0) rfl (by decide) ?_
  refine A_putI rfl (Or.inl fl_Text_15) rfl (by decide) (Or.inl rfl) rfl ?_
  obtain ⟨M1, hM1, h⟩ := kM_out h
  refine A_mem hM1 ?_
  obtain ⟨rfl, rfl⟩ := leaf h
  exact A_vret rfl rfl
def tb_Text_rewind : List (Nat × Instr × Nat) := [(0, .aload_n 0, 1), (1, .iconst 0, 1), (2, .putfield 19, 3), (5, .return_, 1)]
def Y_Text_rewind : ax_Y := (⟨"MethodWarden$Text", "rewind", "()V"⟩, prog_9_method_4_code, 1, none, tb_Text_rewind)
theorem yok_Text_rewind : yOK Y_Text_rewind := ⟨by decide +kernel, by decide +kernel, inWG 469 (by decide +kernel) (by decide +kernel), inWG 97 (by decide +kernel) (by decide +kernel), by decide +kernel⟩
theorem fl_Text_19 : fldOK "MethodWarden$Text" 19 1 2 false := ⟨_, _, _, cls_Text, by decide, by decide, rfl, Or.inl (inWG 130 (by decide +kernel) (by decide +kernel))⟩
def f_Text_rewind  (M : ax_M) : Option (Unit × ax_M) :=
  kM (mI M 3 2 0) (fun M1 => some ((), M1))
set_option maxHeartbeats 4000000 in
set_option maxRecDepth 100000 in
theorem c_Text_rewind {l : Launch} {g : ax_G}  {M : ax_M} {r : Unit} {M' : ax_M} (h : f_Text_rewind  M = some (r, M')) : Ctr l g true Y_Text_rewind 1 [vA 3] M (none, M') := by
  refine Ctr.ofAW yok_Text_rewind (Nat.le_of_ble_eq_true rfl) (Or.inl rfl) ?_
  show AW l g true Y_Text_rewind 1 (none, M') 0 [(0, vA 3)] [] M
  unfold f_Text_rewind at h
  refine A_aload_n 0 rfl rfl rfl ?_
  refine A_iconst (v := 0) rfl (by decide) ?_
  refine A_putI rfl (Or.inl fl_Text_19) rfl (by decide) (Or.inl rfl) rfl ?_
  obtain ⟨M1, hM1, h⟩ := kM_out h
  refine A_mem hM1 ?_
  obtain ⟨rfl, rfl⟩ := leaf h
  exact A_vret rfl rfl
def tb_Text_isDigit : List (Nat × Instr × Nat) := [(0, .iload_n 0, 1), (1, .bipush 48, 2), (3, .if_icmp .lt 13, 3), (6, .iload_n 0, 1), (7, .bipush 57, 2), (9, .if_icmp .gt 7, 3), (12, .iconst 1, 1), (13, .goto 4, 3), (16, .iconst 0, 1), (17, .ireturn, 1)]
def Y_Text_isDigit : ax_Y := (⟨"MethodWarden$Text", "isDigit", "(C)Z"⟩, prog_9_method_6_code, 1, some .boolean, tb_Text_isDigit)
theorem yok_Text_isDigit : yOK Y_Text_isDigit := ⟨by decide +kernel, by decide +kernel, inWG 476 (by decide +kernel) (by decide +kernel), inWG 97 (by decide +kernel) (by decide +kernel), by decide +kernel⟩
def f_Text_isDigit (a0 : Int32) (M : ax_M) : Option (Int32 × ax_M) :=
  if a0 < 48 then (some (0, M)) else (if 57 < a0 then (some (0, M)) else (some (1, M)))
set_option maxHeartbeats 4000000 in
set_option maxRecDepth 100000 in
theorem c_Text_isDigit {l : Launch} {g : ax_G} {a0 : Int32} {M : ax_M} {r : Int32} {M' : ax_M} (h : f_Text_isDigit a0 M = some (r, M')) : Ctr l g true Y_Text_isDigit 1 [vI a0] M (some (vI r), M') := by
  refine Ctr.ofAW yok_Text_isDigit (Nat.le_of_ble_eq_true rfl) (Or.inl rfl) ?_
  show AW l g true Y_Text_isDigit 1 (some (vI r), M') 0 [(0, vI a0)] [] M
  unfold f_Text_isDigit at h
  refine A_iload_n 0 rfl rfl rfl ?_
  refine A_bipush (v := 48) rfl (by decide) ?_
  refine A_icmp_lt (tgt := 16) rfl (by decide) (fun hc1 => ?_) (fun hc1 => ?_)
  · rw [if_pos hc1] at h
    refine A_iconst (v := 0) rfl (by decide) ?_
    obtain ⟨rfl, rfl⟩ := leaf h
    exact A_zret rfl rfl (Or.inl rfl)
  · rw [if_neg hc1] at h
    refine A_pc (pc' := 6) rfl ?_
    refine A_iload_n 0 rfl rfl rfl ?_
    refine A_bipush (v := 57) rfl (by decide) ?_
    refine A_icmp_gt (tgt := 16) rfl (by decide) (fun hc2 => ?_) (fun hc2 => ?_)
    · rw [if_pos hc2] at h
      refine A_iconst (v := 0) rfl (by decide) ?_
      obtain ⟨rfl, rfl⟩ := leaf h
      exact A_zret rfl rfl (Or.inl rfl)
    · rw [if_neg hc2] at h
      refine A_pc (pc' := 12) rfl ?_
      refine A_iconst (v := 1) rfl (by decide) ?_
      refine A_goto (tgt := 17) rfl (by decide) ?_
      obtain ⟨rfl, rfl⟩ := leaf h
      exact A_zret rfl rfl (Or.inr rfl)
def tb_Text_isSmallLetter : List (Nat × Instr × Nat) := [(0, .iload_n 0, 1), (1, .bipush 97, 2), (3, .if_icmp .lt 13, 3), (6, .iload_n 0, 1), (7, .bipush 122, 2), (9, .if_icmp .gt 7, 3), (12, .iconst 1, 1), (13, .goto 4, 3), (16, .iconst 0, 1), (17, .ireturn, 1)]
def Y_Text_isSmallLetter : ax_Y := (⟨"MethodWarden$Text", "isSmallLetter", "(C)Z"⟩, prog_9_method_7_code, 1, some .boolean, tb_Text_isSmallLetter)
theorem yok_Text_isSmallLetter : yOK Y_Text_isSmallLetter := ⟨by decide +kernel, by decide +kernel, inWG 490 (by decide +kernel) (by decide +kernel), inWG 97 (by decide +kernel) (by decide +kernel), by decide +kernel⟩
def f_Text_isSmallLetter (a0 : Int32) (M : ax_M) : Option (Int32 × ax_M) :=
  if a0 < 97 then (some (0, M)) else (if 122 < a0 then (some (0, M)) else (some (1, M)))
set_option maxHeartbeats 4000000 in
set_option maxRecDepth 100000 in
theorem c_Text_isSmallLetter {l : Launch} {g : ax_G} {a0 : Int32} {M : ax_M} {r : Int32} {M' : ax_M} (h : f_Text_isSmallLetter a0 M = some (r, M')) : Ctr l g true Y_Text_isSmallLetter 1 [vI a0] M (some (vI r), M') := by
  refine Ctr.ofAW yok_Text_isSmallLetter (Nat.le_of_ble_eq_true rfl) (Or.inl rfl) ?_
  show AW l g true Y_Text_isSmallLetter 1 (some (vI r), M') 0 [(0, vI a0)] [] M
  unfold f_Text_isSmallLetter at h
  refine A_iload_n 0 rfl rfl rfl ?_
  refine A_bipush (v := 97) rfl (by decide) ?_
  refine A_icmp_lt (tgt := 16) rfl (by decide) (fun hc1 => ?_) (fun hc1 => ?_)
  · rw [if_pos hc1] at h
    refine A_iconst (v := 0) rfl (by decide) ?_
    obtain ⟨rfl, rfl⟩ := leaf h
    exact A_zret rfl rfl (Or.inl rfl)
  · rw [if_neg hc1] at h
    refine A_pc (pc' := 6) rfl ?_
    refine A_iload_n 0 rfl rfl rfl ?_
    refine A_bipush (v := 122) rfl (by decide) ?_
    refine A_icmp_gt (tgt := 16) rfl (by decide) (fun hc2 => ?_) (fun hc2 => ?_)
    · rw [if_pos hc2] at h
      refine A_iconst (v := 0) rfl (by decide) ?_
      obtain ⟨rfl, rfl⟩ := leaf h
      exact A_zret rfl rfl (Or.inl rfl)
    · rw [if_neg hc2] at h
      refine A_pc (pc' := 12) rfl ?_
      refine A_iconst (v := 1) rfl (by decide) ?_
      refine A_goto (tgt := 17) rfl (by decide) ?_
      obtain ⟨rfl, rfl⟩ := leaf h
      exact A_zret rfl rfl (Or.inr rfl)
def tb_Text_passes : List (Nat × Instr × Nat) := [(0, .aload_n 0, 1), (1, .getfield 19, 3), (4, .aload_n 0, 1), (5, .getfield 15, 3), (8, .if_icmp .ge 16, 3), (11, .aload_n 0, 1), (12, .getfield 9, 3), (15, .aload_n 0, 1), (16, .getfield 19, 3), (19, .caload, 1), (20, .iload_n 1, 1), (21, .if_icmp .eq 5, 3), (24, .iconst 0, 1), (25, .ireturn, 1), (26, .aload_n 0, 1), (27, .dup, 1), (28, .getfield 19, 3), (31, .iconst 1, 1), (32, .iadd, 1), (33, .putfield 19, 3), (36, .iconst 1, 1), (37, .ireturn, 1)]
def Y_Text_passes : ax_Y := (⟨"MethodWarden$Text", "passes", "(C)Z"⟩, prog_9_method_18_code, 2, some .boolean, tb_Text_passes)
theorem yok_Text_passes : yOK Y_Text_passes := ⟨by decide +kernel, by decide +kernel, inWG 486 (by decide +kernel) (by decide +kernel), inWG 97 (by decide +kernel) (by decide +kernel), by decide +kernel⟩
def f_Text_passes (a1 : Int32) (M : ax_M) : Option (Int32 × ax_M) :=
  if (gI M 3 1) ≤ (gI M 3 2) then (some (0, M)) else (gi (gI M 3 2) 48 (if (gI M 4 (gI M 3 2).toNatClampNeg) = a1 then (kM (mI M 3 2 ((gI M 3 2) + 1)) (fun M4 => some (1, M4))) else (some (0, M))))
set_option maxHeartbeats 4000000 in
set_option maxRecDepth 100000 in
theorem c_Text_passes {l : Launch} {g : ax_G} {a1 : Int32} {M : ax_M} {r : Int32} {M' : ax_M} (h : f_Text_passes a1 M = some (r, M')) : Ctr l g true Y_Text_passes 1 [vA 3, vI a1] M (some (vI r), M') := by
  refine Ctr.ofAW yok_Text_passes (Nat.le_of_ble_eq_true rfl) (Or.inl rfl) ?_
  show AW l g true Y_Text_passes 1 (some (vI r), M') 0 [(0, vA 3), (1, vI a1)] [] M
  unfold f_Text_passes at h
  refine A_aload_n 0 rfl rfl rfl ?_
  refine A_getI rfl fl_Text_19 rfl (by decide) (Or.inl rfl) ?_
  refine A_aload_n 0 rfl rfl rfl ?_
  refine A_getI rfl fl_Text_15 rfl (by decide) (Or.inl rfl) ?_
  refine A_icmp_ge (tgt := 24) rfl (by decide) (fun hc1 => ?_) (fun hc1 => ?_)
  · rw [if_pos hc1] at h
    refine A_iconst (v := 0) rfl (by decide) ?_
    obtain ⟨rfl, rfl⟩ := leaf h
    exact A_zret rfl rfl (Or.inl rfl)
  · rw [if_neg hc1] at h
    refine A_pc (pc' := 11) rfl ?_
    refine A_aload_n 0 rfl rfl rfl ?_
    refine A_getL (r := 4) rfl fl_Text_9 rfl (by decide) rfl rfl ?_
    refine A_aload_n 0 rfl rfl rfl ?_
    refine A_getI rfl fl_Text_19 rfl (by decide) (Or.inl rfl) ?_
    obtain ⟨hg2, h⟩ := gi_out h
    refine A_cald (n := 48) rfl (by decide) (by decide) (Or.inl rfl) hg2 ?_
    refine A_pc (pc' := 20) rfl ?_
    refine A_iload_n 1 rfl rfl rfl ?_
    refine A_icmp_eq (tgt := 26) rfl (by decide) (fun hc3 => ?_) (fun hc3 => ?_)
    · rw [if_pos hc3] at h
      refine A_aload_n 0 rfl rfl rfl ?_
      refine A_dup rfl rfl ?_
      refine A_getI rfl fl_Text_19 rfl (by decide) (Or.inl rfl) ?_
      refine A_iconst (v := 1) rfl (by decide) ?_
      refine A_iadd rfl ?_
      refine A_pc (pc' := 33) rfl ?_
      refine A_putI rfl (Or.inl fl_Text_19) rfl (by decide) (Or.inl rfl) rfl ?_
      obtain ⟨M4, hM4, h⟩ := kM_out h
      refine A_mem hM4 ?_
      refine A_iconst (v := 1) rfl (by decide) ?_
      obtain ⟨rfl, rfl⟩ := leaf h
      exact A_zret rfl rfl (Or.inr rfl)
    · rw [if_neg hc3] at h
      refine A_pc (pc' := 24) rfl ?_
      refine A_iconst (v := 0) rfl (by decide) ?_
      obtain ⟨rfl, rfl⟩ := leaf h
      exact A_zret rfl rfl (Or.inl rfl)
def tb_Text_cutNumber : List (Nat × Instr × Nat) := [(0, .iconst 1, 1), (1, .istore_n 1, 1), (2, .aload_n 0, 1), (3, .getfield 19, 3), (6, .aload_n 0, 1), (7, .getfield 15, 3), (10, .if_icmp .ge 82, 3), (13, .aload_n 0, 1), (14, .getfield 9, 3), (17, .aload_n 0, 1), (18, .getfield 19, 3), (21, .caload, 1), (22, .invokestatic 34, 3), (25, .ifCond .eq 67, 3), (28, .aload_n 0, 1), (29, .getfield 9, 3), (32, .aload_n 0, 1), (33, .getfield 19, 3), (36, .caload, 1), (37, .bipush 48, 2), (39, .isub, 1), (40, .istore_n 2, 1), (41, .aload_n 0, 1), (42, .getfield 25, 3), (45, .ldc2_w 51, 3), (48, .iload_n 2, 1), (49, .i2l, 1), (50, .lsub, 1), (51, .ldc2_w 53, 3), (54, .ldiv, 1), (55, .lcmp, 1), (56, .ifCond .le 8, 3), (59, .iconst 0, 1), (60, .istore_n 1, 1), (61, .goto 18, 3), (64, .aload_n 0, 1), (65, .aload_n 0, 1), (66, .getfield 25, 3), (69, .ldc2_w 53, 3), (72, .lmul, 1), (73, .iload_n 2, 1), (74, .i2l, 1), (75, .ladd, 1), (76, .putfield 25, 3), (79, .aload_n 0, 1), (80, .dup, 1), (81, .getfield 19, 3), (84, .iconst 1, 1), (85, .iadd, 1), (86, .putfield 19, 3), (89, .goto (-87), 3), (92, .aload_n 0, 1), (93, .bipush 76, 2), (95, .invokevirtual 55, 3), (98, .ifCond .eq 13, 3), (101, .iload_n 1, 1), (102, .ifCond .eq 7, 3), (105, .iconst 3, 1), (106, .goto 4, 3), (109, .iconst 1, 1), (110, .ireturn, 1), (111, .iload_n 1, 1), (112, .ifCond .eq 18, 3), (115, .aload_n 0, 1), (116, .getfield 25, 3), (119, .ldc2_w 58, 3), (122, .lcmp, 1), (123, .ifCond .gt 7, 3), (126, .iconst 2, 1), (127, .goto 4, 3), (130, .iconst 1, 1), (131, .ireturn, 1)]
def Y_Text_cutNumber : ax_Y := (⟨"MethodWarden$Text", "cutNumber", "()I"⟩, prog_9_method_8_code, 3, some .int, tb_Text_cutNumber)
theorem yok_Text_cutNumber : yOK Y_Text_cutNumber := ⟨by decide +kernel, by decide +kernel, inWG 480 (by decide +kernel) (by decide +kernel), inWG 97 (by decide +kernel) (by decide +kernel), by decide +kernel⟩
theorem fl_Text_25 : fldOK "MethodWarden$Text" 25 1 5 false := ⟨_, _, _, cls_Text, by decide, by decide, rfl, Or.inl (inWG 136 (by decide +kernel) (by decide +kernel))⟩
theorem ml_Text_55 : mlV "MethodWarden$Text" 55 Y_Text_passes 1 := ⟨⟨yok_Text_passes, by decide +kernel, by decide⟩, Or.inl (inWG 483 (by decide +kernel) (by decide +kernel)), inWG 485 (by decide +kernel) (by decide +kernel), inWG 1 (by decide +kernel) (by decide +kernel)⟩
theorem ml_Text_34 : mlS "MethodWarden$Text" 34 Y_Text_isDigit 1 := ⟨⟨yok_Text_isDigit, by decide +kernel, by decide⟩, Or.inl (inWG 474 (by decide +kernel) (by decide +kernel)), inWG 475 (by decide +kernel) (by decide +kernel)⟩
def f_Text_cutNumber_92 (l1 : Int32) (M : ax_M) : Option (Int32 × ax_M) :=
  bnd (f_Text_passes 76 M) (fun q2 M3 => if q2 = 0 then (if l1 = 0 then (some (1, M3)) else (if 0 < (lg_cmp (gJ M3 3 5) 2147483647) then (some (1, M3)) else (some (2, M3)))) else (if l1 = 0 then (some (1, M3)) else (some (3, M3))))
set_option maxHeartbeats 4000000 in
set_option maxRecDepth 100000 in
theorem o_Text_cutNumber_92 {l : Launch} {g : ax_G} (l1 : Int32) (M : ax_M) (r : Int32) (M' : ax_M) (h : f_Text_cutNumber_92  l1 M = some (r, M')) : AW l g true Y_Text_cutNumber 2 (some (vI r), M') 92 [(0, vA 3), (1, vI l1)] [] M := by
  unfold f_Text_cutNumber_92 at h
  refine A_aload_n 0 rfl rfl rfl ?_
  refine A_bipush (v := 76) rfl (by decide) ?_
  obtain ⟨q2, M3, hcq2, h⟩ := bnd_out h
  refine A_callV (as := [vI 76]) (st' := []) (r1 := (some (vI q2), M3)) rfl ml_Text_55 rfl (by decide) (by decide) (Or.inl rfl) rfl rfl (Nat.le_of_ble_eq_true rfl) (by decide) (c_Text_passes hcq2) (Or.inl rfl) ?_
  refine A_pc (pc' := 98) rfl ?_
  refine A_stk (st' := [vI q2]) rfl ?_
  refine A_if_eq (tgt := 111) rfl (by decide) (fun hc4 => ?_) (fun hc4 => ?_)
  · rw [if_pos hc4] at h
    refine A_iload_n 1 rfl rfl rfl ?_
    refine A_if_eq (tgt := 130) rfl (by decide) (fun hc5 => ?_) (fun hc5 => ?_)
    · rw [if_pos hc5] at h
      refine A_iconst (v := 1) rfl (by decide) ?_
      obtain ⟨rfl, rfl⟩ := leaf h
      exact A_iret rfl rfl
    · rw [if_neg hc5] at h
      refine A_pc (pc' := 115) rfl ?_
      refine A_aload_n 0 rfl rfl rfl ?_
      refine A_getJ rfl fl_Text_25 rfl (by decide) (Or.inl rfl) ?_
      refine A_ldc2 (v := 2147483647) rfl (inWG 487 (by decide +kernel) (by decide +kernel)) ?_
      refine A_lcmp rfl ?_
      refine A_if_gt (tgt := 130) rfl (by decide) (fun hc6 => ?_) (fun hc6 => ?_)
      · rw [if_pos hc6] at h
        refine A_iconst (v := 1) rfl (by decide) ?_
        obtain ⟨rfl, rfl⟩ := leaf h
        exact A_iret rfl rfl
      · rw [if_neg hc6] at h
        refine A_pc (pc' := 126) rfl ?_
        refine A_iconst (v := 2) rfl (by decide) ?_
        refine A_goto (tgt := 131) rfl (by decide) ?_
        obtain ⟨rfl, rfl⟩ := leaf h
        exact A_iret rfl rfl
  · rw [if_neg hc4] at h
    refine A_pc (pc' := 101) rfl ?_
    refine A_iload_n 1 rfl rfl rfl ?_
    refine A_if_eq (tgt := 109) rfl (by decide) (fun hc7 => ?_) (fun hc7 => ?_)
    · rw [if_pos hc7] at h
      refine A_iconst (v := 1) rfl (by decide) ?_
      obtain ⟨rfl, rfl⟩ := leaf h
      exact A_iret rfl rfl
    · rw [if_neg hc7] at h
      refine A_pc (pc' := 105) rfl ?_
      refine A_iconst (v := 3) rfl (by decide) ?_
      refine A_goto (tgt := 110) rfl (by decide) ?_
      obtain ⟨rfl, rfl⟩ := leaf h
      exact A_iret rfl rfl
def f_Text_cutNumber_2_b (K2 : Int32 → ax_M → Option (Int32 × ax_M)) (l1 : Int32) (M : ax_M) : Option (Int32 × ax_M) :=
  if (gI M 3 1) ≤ (gI M 3 2) then (f_Text_cutNumber_92 l1 M) else (gi (gI M 3 2) 48 (bnd (f_Text_isDigit (gI M 4 (gI M 3 2).toNatClampNeg) M) (fun q9 M10 => if q9 = 0 then (f_Text_cutNumber_92 l1 M10) else (gi (gI M10 3 2) 48 (kM ((gI M10 4 (gI M10 3 2).toNatClampNeg) - 48) (fun x13 => if (lg_cmp (gJ M10 3 5) ((9223372036854775807 - (Int32.toInt64 x13)) / 10)) ≤ 0 then (kM (mJ M10 3 5 (((gJ M10 3 5) * 10) + (Int32.toInt64 x13))) (fun M15 => kM (mI M15 3 2 ((gI M15 3 2) + 1)) (fun M16 => K2 l1 M16))) else (kM (mI M10 3 2 ((gI M10 3 2) + 1)) (fun M17 => K2 0 M17))))))))
def f_Text_cutNumber_2 : Nat → Int32 → ax_M → Option (Int32 × ax_M)
  | 0, _, _ => none
  | n + 1, l1, M => f_Text_cutNumber_2_b  (f_Text_cutNumber_2 n) l1 M
set_option maxHeartbeats 4000000 in
set_option maxRecDepth 100000 in
theorem o_Text_cutNumber_2_b {l : Launch} {g : ax_G} (K2 : Int32 → ax_M → Option (Int32 × ax_M)) (hK2 : ∀ (l1 : Int32) (M : ax_M) (r : Int32) (M' : ax_M), K2 l1 M = some (r, M') → AW l g true Y_Text_cutNumber 2 (some (vI r), M') 2 [(0, vA 3), (1, vI l1)] [] M) (l1 : Int32) (M : ax_M) (r : Int32) (M' : ax_M) (h : f_Text_cutNumber_2_b  K2 l1 M = some (r, M')) : AW l g true Y_Text_cutNumber 2 (some (vI r), M') 2 [(0, vA 3), (1, vI l1)] [] M := by
  unfold f_Text_cutNumber_2_b at h
  refine A_aload_n 0 rfl rfl rfl ?_
  refine A_getI rfl fl_Text_19 rfl (by decide) (Or.inl rfl) ?_
  refine A_aload_n 0 rfl rfl rfl ?_
  refine A_getI rfl fl_Text_15 rfl (by decide) (Or.inl rfl) ?_
  refine A_icmp_ge (tgt := 92) rfl (by decide) (fun hc1 => ?_) (fun hc1 => ?_)
  · rw [if_pos hc1] at h
    refine A_pc (pc' := 92) rfl ?_
    refine A_sub (Ls' := [(0, vA 3), (1, vI l1)]) [0, 1] rfl ?_
    exact o_Text_cutNumber_92  _ _ _ _ h
  · rw [if_neg hc1] at h
    refine A_pc (pc' := 13) rfl ?_
    refine A_aload_n 0 rfl rfl rfl ?_
    refine A_getL (r := 4) rfl fl_Text_9 rfl (by decide) rfl rfl ?_
    refine A_aload_n 0 rfl rfl rfl ?_
    refine A_getI rfl fl_Text_19 rfl (by decide) (Or.inl rfl) ?_
    obtain ⟨hg8, h⟩ := gi_out h
    refine A_cald (n := 48) rfl (by decide) (by decide) (Or.inl rfl) hg8 ?_
    refine A_pc (pc' := 22) rfl ?_
    obtain ⟨q9, M10, hcq9, h⟩ := bnd_out h
    refine A_callS (as := [vI (gI M 4 (gI M 3 2).toNatClampNeg)]) (st' := []) (r1 := (some (vI q9), M10)) rfl ml_Text_34 rfl rfl (Nat.le_of_ble_eq_true rfl) (by decide) (c_Text_isDigit hcq9) (Or.inl rfl) ?_
    refine A_pc (pc' := 25) rfl ?_
    refine A_stk (st' := [vI q9]) rfl ?_
    refine A_if_eq (tgt := 92) rfl (by decide) (fun hc11 => ?_) (fun hc11 => ?_)
    · rw [if_pos hc11] at h
      refine A_pc (pc' := 92) rfl ?_
      refine A_sub (Ls' := [(0, vA 3), (1, vI l1)]) [0, 1] rfl ?_
      exact o_Text_cutNumber_92  _ _ _ _ h
    · rw [if_neg hc11] at h
      refine A_pc (pc' := 28) rfl ?_
      refine A_aload_n 0 rfl rfl rfl ?_
      refine A_getL (r := 4) rfl fl_Text_9 rfl (by decide) rfl rfl ?_
      refine A_aload_n 0 rfl rfl rfl ?_
      refine A_getI rfl fl_Text_19 rfl (by decide) (Or.inl rfl) ?_
      obtain ⟨hg12, h⟩ := gi_out h
      refine A_cald (n := 48) rfl (by decide) (by decide) (Or.inl rfl) hg12 ?_
      refine A_pc (pc' := 37) rfl ?_
      refine A_bipush (v := 48) rfl (by decide) ?_
      refine A_isub rfl ?_
      obtain ⟨x13, hx13, h⟩ := kM_out h
      refine A_nI hx13 ?_
      refine A_istore_n (Ls' := [(2, vI x13), (0, vA 3), (1, vI l1)]) rfl rfl (by decide) rfl ?_
      refine A_aload_n 1 rfl rfl rfl ?_
      refine A_getJ rfl fl_Text_25 rfl (by decide) (Or.inl rfl) ?_
      refine A_ldc2 (v := 9223372036854775807) rfl (inWG 481 (by decide +kernel) (by decide +kernel)) ?_
      refine A_pc (pc' := 48) rfl ?_
      refine A_iload_n 0 rfl rfl rfl ?_
      refine A_i2l rfl ?_
      refine A_lsub rfl ?_
      refine A_ldc2 (v := 10) rfl (inWG 482 (by decide +kernel) (by decide +kernel)) ?_
      refine A_ldiv rfl (by decide) ?_
      refine A_lcmp rfl ?_
      refine A_pc (pc' := 56) rfl ?_
      refine A_if_le (tgt := 64) rfl (by decide) (fun hc14 => ?_) (fun hc14 => ?_)
      · rw [if_pos hc14] at h
        refine A_aload_n 1 rfl rfl rfl ?_
        refine A_aload_n 1 rfl rfl rfl ?_
        refine A_getJ rfl fl_Text_25 rfl (by decide) (Or.inl rfl) ?_
        refine A_ldc2 (v := 10) rfl (inWG 482 (by decide +kernel) (by decide +kernel)) ?_
        refine A_lmul rfl ?_
        refine A_pc (pc' := 73) rfl ?_
        refine A_iload_n 0 rfl rfl rfl ?_
        refine A_i2l rfl ?_
        refine A_ladd rfl ?_
        refine A_putJ rfl (Or.inl fl_Text_25) rfl (by decide) (Or.inl rfl) rfl ?_
        obtain ⟨M15, hM15, h⟩ := kM_out h
        refine A_mem hM15 ?_
        refine A_aload_n 1 rfl rfl rfl ?_
        refine A_dup rfl rfl ?_
        refine A_pc (pc' := 81) rfl ?_
        refine A_getI rfl fl_Text_19 rfl (by decide) (Or.inl rfl) ?_
        refine A_iconst (v := 1) rfl (by decide) ?_
        refine A_iadd rfl ?_
        refine A_putI rfl (Or.inl fl_Text_19) rfl (by decide) (Or.inl rfl) rfl ?_
        obtain ⟨M16, hM16, h⟩ := kM_out h
        refine A_mem hM16 ?_
        refine A_goto (tgt := 2) rfl (by decide) ?_
        refine A_pc (pc' := 2) rfl ?_
        refine A_sub (Ls' := [(0, vA 3), (1, vI l1)]) [1, 2] rfl ?_
        exact hK2 _ _ _ _ h
      · rw [if_neg hc14] at h
        refine A_pc (pc' := 59) rfl ?_
        refine A_iconst (v := 0) rfl (by decide) ?_
        refine A_istore_n (Ls' := [(1, vI 0), (2, vI x13), (0, vA 3)]) rfl rfl (by decide) rfl ?_
        refine A_goto (tgt := 79) rfl (by decide) ?_
        refine A_aload_n 2 rfl rfl rfl ?_
        refine A_dup rfl rfl ?_
        refine A_pc (pc' := 81) rfl ?_
        refine A_getI rfl fl_Text_19 rfl (by decide) (Or.inl rfl) ?_
        refine A_iconst (v := 1) rfl (by decide) ?_
        refine A_iadd rfl ?_
        refine A_putI rfl (Or.inl fl_Text_19) rfl (by decide) (Or.inl rfl) rfl ?_
        obtain ⟨M17, hM17, h⟩ := kM_out h
        refine A_mem hM17 ?_
        refine A_goto (tgt := 2) rfl (by decide) ?_
        refine A_pc (pc' := 2) rfl ?_
        refine A_sub (Ls' := [(0, vA 3), (1, vI 0)]) [2, 0] rfl ?_
        exact hK2 _ _ _ _ h
theorem o_Text_cutNumber_2 {l : Launch} {g : ax_G} : ∀ (n : Nat) (l1 : Int32) (M : ax_M) (r : Int32) (M' : ax_M), f_Text_cutNumber_2  n l1 M = some (r, M') → AW l g true Y_Text_cutNumber 2 (some (vI r), M') 2 [(0, vA 3), (1, vI l1)] [] M := by
  intro n
  induction n with
  | zero =>
    intro l1 M r M' h
    cases h
  | succ n ih =>
    intro l1 M r M' h
    exact o_Text_cutNumber_2_b  _ ih _ _ _ _ h
def f_Text_cutNumber  (M : ax_M) : Option (Int32 × ax_M) :=
  f_Text_cutNumber_2 64 1 M
set_option maxHeartbeats 4000000 in
set_option maxRecDepth 100000 in
theorem c_Text_cutNumber {l : Launch} {g : ax_G}  {M : ax_M} {r : Int32} {M' : ax_M} (h : f_Text_cutNumber  M = some (r, M')) : Ctr l g true Y_Text_cutNumber 2 [vA 3] M (some (vI r), M') := by
  refine Ctr.ofAW yok_Text_cutNumber (Nat.le_of_ble_eq_true rfl) (Or.inl rfl) ?_
  show AW l g true Y_Text_cutNumber 2 (some (vI r), M') 0 [(0, vA 3)] [] M
  unfold f_Text_cutNumber at h
  refine A_iconst (v := 1) rfl (by decide) ?_
  refine A_istore_n (Ls' := [(1, vI 1), (0, vA 3)]) rfl rfl (by decide) rfl ?_
  refine A_pc (pc' := 2) rfl ?_
  refine A_sub (Ls' := [(0, vA 3), (1, vI 1)]) [1, 0] rfl ?_
  exact o_Text_cutNumber_2  _ _ _ _ _ h
def tb_Text_reads : List (Nat × Instr × Nat) := [(0, .aload_n 1, 1), (1, .invokevirtual 92, 3), (4, .aload_n 0, 1), (5, .getfield 19, 3), (8, .aload_n 0, 1), (9, .getfield 22, 3), (12, .isub, 1), (13, .if_icmp .eq 5, 3), (16, .iconst 0, 1), (17, .ireturn, 1), (18, .iconst 0, 1), (19, .istore_n 2, 1), (20, .iload_n 2, 1), (21, .aload_n 1, 1), (22, .invokevirtual 92, 3), (25, .if_icmp .ge 30, 3), (28, .aload_n 0, 1), (29, .getfield 9, 3), (32, .aload_n 0, 1), (33, .getfield 22, 3), (36, .iload_n 2, 1), (37, .iadd, 1), (38, .caload, 1), (39, .aload_n 1, 1), (40, .iload_n 2, 1), (41, .invokevirtual 96, 3), (44, .if_icmp .eq 5, 3), (47, .iconst 0, 1), (48, .ireturn, 1), (49, .iinc 2 1, 3), (52, .goto (-32), 3), (55, .iconst 1, 1), (56, .ireturn, 1)]
def Y_Text_reads : ax_Y := (⟨"MethodWarden$Text", "reads", "(Ljava/lang/String;)Z"⟩, prog_9_method_12_code, 3, some .boolean, tb_Text_reads)
theorem yok_Text_reads : yOK Y_Text_reads := ⟨by decide +kernel, by decide +kernel, inWG 503 (by decide +kernel) (by decide +kernel), inWG 97 (by decide +kernel) (by decide +kernel), by decide +kernel⟩
theorem fl_Text_22 : fldOK "MethodWarden$Text" 22 1 4 false := ⟨_, _, _, cls_Text, by decide, by decide, rfl, Or.inl (inWG 134 (by decide +kernel) (by decide +kernel))⟩
def f_Text_reads_20_b (K20 : Nat → Int32 → ax_M → Option (Int32 × ax_M)) (l1 : Nat) (l2 : Int32) (M : ax_M) : Option (Int32 × ax_M) :=
  bnd (f_Str_length l1 M) (fun q4 M5 => if q4 ≤ l2 then (some (1, M5)) else (gi ((gI M5 3 4) + l2) 48 (bnd (f_Str_charAt l1 l2 M5) (fun q8 M9 => if (gI M5 4 ((gI M5 3 4) + l2).toNatClampNeg) = q8 then (kM (l2 + 1) (fun x11 => K20 l1 x11 M9)) else (some (0, M9))))))
def f_Text_reads_20 : Nat → Nat → Int32 → ax_M → Option (Int32 × ax_M)
  | 0, _, _, _ => none
  | n + 1, l1, l2, M => f_Text_reads_20_b  (f_Text_reads_20 n) l1 l2 M
set_option maxHeartbeats 4000000 in
set_option maxRecDepth 100000 in
theorem o_Text_reads_20_b {l : Launch} {g : ax_G} (K20 : Nat → Int32 → ax_M → Option (Int32 × ax_M)) (hK20 : ∀ (l1 : Nat) (l2 : Int32) (M : ax_M) (r : Int32) (M' : ax_M), K20 l1 l2 M = some (r, M') → AW l g true Y_Text_reads 6 (some (vI r), M') 20 [(0, vA 3), (1, vA l1), (2, vI l2)] [] M) (l1 : Nat) (l2 : Int32) (M : ax_M) (r : Int32) (M' : ax_M) (h : f_Text_reads_20_b  K20 l1 l2 M = some (r, M')) : AW l g true Y_Text_reads 6 (some (vI r), M') 20 [(0, vA 3), (1, vA l1), (2, vI l2)] [] M := by
  unfold f_Text_reads_20_b at h
  refine A_iload_n 2 rfl rfl rfl ?_
  refine A_aload_n 1 rfl rfl rfl ?_
  obtain ⟨q4, M5, hcq4, h⟩ := bnd_out h
  refine A_strLength (st' := [vI l2]) (x := q4) (M' := M5) rfl (inWG 504 (by decide +kernel) (by decide +kernel)) (Nat.le_of_ble_eq_true rfl) (by decide) hcq4 ?_
  refine A_icmp_ge (tgt := 55) rfl (by decide) (fun hc6 => ?_) (fun hc6 => ?_)
  · rw [if_pos hc6] at h
    refine A_iconst (v := 1) rfl (by decide) ?_
    obtain ⟨rfl, rfl⟩ := leaf h
    exact A_zret rfl rfl (Or.inr rfl)
  · rw [if_neg hc6] at h
    refine A_pc (pc' := 28) rfl ?_
    refine A_aload_n 0 rfl rfl rfl ?_
    refine A_getL (r := 4) rfl fl_Text_9 rfl (by decide) rfl rfl ?_
    refine A_aload_n 0 rfl rfl rfl ?_
    refine A_getI rfl fl_Text_22 rfl (by decide) (Or.inl rfl) ?_
    refine A_iload_n 2 rfl rfl rfl ?_
    refine A_pc (pc' := 37) rfl ?_
    refine A_iadd rfl ?_
    obtain ⟨hg7, h⟩ := gi_out h
    refine A_cald (n := 48) rfl (by decide) (by decide) (Or.inl rfl) hg7 ?_
    refine A_aload_n 1 rfl rfl rfl ?_
    refine A_iload_n 2 rfl rfl rfl ?_
    obtain ⟨q8, M9, hcq8, h⟩ := bnd_out h
    refine A_strCharAt (st' := [vI (gI M5 4 ((gI M5 3 4) + l2).toNatClampNeg)]) (x := q8) (M' := M9) rfl (inWG 514 (by decide +kernel) (by decide +kernel)) (Nat.le_of_ble_eq_true rfl) (by decide) hcq8 ?_
    refine A_icmp_eq (tgt := 49) rfl (by decide) (fun hc10 => ?_) (fun hc10 => ?_)
    · rw [if_pos hc10] at h
      obtain ⟨x11, hx11, h⟩ := kM_out h
      refine A_iinc 2 (v := x11) (Ls' := [(2, vI x11), (0, vA 3), (1, vA l1)]) rfl rfl ((iiN (k := 1) (by decide) _).trans hx11) (by decide) rfl ?_
      refine A_goto (tgt := 20) rfl (by decide) ?_
      refine A_pc (pc' := 20) rfl ?_
      refine A_sub (Ls' := [(0, vA 3), (1, vA l1), (2, vI x11)]) [1, 2, 0] rfl ?_
      exact hK20 _ _ _ _ _ h
    · rw [if_neg hc10] at h
      refine A_pc (pc' := 47) rfl ?_
      refine A_iconst (v := 0) rfl (by decide) ?_
      obtain ⟨rfl, rfl⟩ := leaf h
      exact A_zret rfl rfl (Or.inl rfl)
theorem o_Text_reads_20 {l : Launch} {g : ax_G} : ∀ (n : Nat) (l1 : Nat) (l2 : Int32) (M : ax_M) (r : Int32) (M' : ax_M), f_Text_reads_20  n l1 l2 M = some (r, M') → AW l g true Y_Text_reads 6 (some (vI r), M') 20 [(0, vA 3), (1, vA l1), (2, vI l2)] [] M := by
  intro n
  induction n with
  | zero =>
    intro l1 l2 M r M' h
    cases h
  | succ n ih =>
    intro l1 l2 M r M' h
    exact o_Text_reads_20_b  _ ih _ _ _ _ _ h
def f_Text_reads (a1 : Nat) (M : ax_M) : Option (Int32 × ax_M) :=
  bnd (f_Str_length a1 M) (fun q1 M2 => if q1 = ((gI M2 3 2) - (gI M2 3 4)) then (f_Text_reads_20 64 a1 0 M2) else (some (0, M2)))
set_option maxHeartbeats 4000000 in
set_option maxRecDepth 100000 in
theorem c_Text_reads {l : Launch} {g : ax_G} {a1 : Nat} {M : ax_M} {r : Int32} {M' : ax_M} (h : f_Text_reads a1 M = some (r, M')) : Ctr l g true Y_Text_reads 6 [vA 3, vA a1] M (some (vI r), M') := by
  refine Ctr.ofAW yok_Text_reads (Nat.le_of_ble_eq_true rfl) (Or.inl rfl) ?_
  show AW l g true Y_Text_reads 6 (some (vI r), M') 0 [(0, vA 3), (1, vA a1)] [] M
  unfold f_Text_reads at h
  refine A_aload_n 1 rfl rfl rfl ?_
  obtain ⟨q1, M2, hcq1, h⟩ := bnd_out h
  refine A_strLength (st' := []) (x := q1) (M' := M2) rfl (inWG 504 (by decide +kernel) (by decide +kernel)) (Nat.le_of_ble_eq_true rfl) (by decide) hcq1 ?_
  refine A_aload_n 0 rfl rfl rfl ?_
  refine A_getI rfl fl_Text_19 rfl (by decide) (Or.inl rfl) ?_
  refine A_aload_n 0 rfl rfl rfl ?_
  refine A_pc (pc' := 9) rfl ?_
  refine A_getI rfl fl_Text_22 rfl (by decide) (Or.inl rfl) ?_
  refine A_isub rfl ?_
  refine A_icmp_eq (tgt := 18) rfl (by decide) (fun hc3 => ?_) (fun hc3 => ?_)
  · rw [if_pos hc3] at h
    refine A_iconst (v := 0) rfl (by decide) ?_
    refine A_istore_n (Ls' := [(2, vI 0), (0, vA 3), (1, vA a1)]) rfl rfl (by decide) rfl ?_
    refine A_pc (pc' := 20) rfl ?_
    refine A_sub (Ls' := [(0, vA 3), (1, vA a1), (2, vI 0)]) [1, 2, 0] rfl ?_
    exact o_Text_reads_20  _ _ _ _ _ _ h
  · rw [if_neg hc3] at h
    refine A_pc (pc' := 16) rfl ?_
    refine A_iconst (v := 0) rfl (by decide) ?_
    obtain ⟨rfl, rfl⟩ := leaf h
    exact A_zret rfl rfl (Or.inl rfl)
def tb_Text_shortWord : List (Nat × Instr × Nat) := [(0, .aload_n 0, 1), (1, .ldc 66, 2), (3, .invokevirtual 68, 3), (6, .ifCond .eq 6, 3), (9, .bipush 8, 2), (11, .ireturn, 1), (12, .aload_n 0, 1), (13, .ldc 72, 2), (15, .invokevirtual 68, 3), (18, .ifCond .eq 6, 3), (21, .bipush 9, 2), (23, .ireturn, 1), (24, .aload_n 0, 1), (25, .ldc 74, 2), (27, .invokevirtual 68, 3), (30, .ifCond .eq 6, 3), (33, .bipush 7, 2), (35, .ireturn, 1), (36, .aload_n 0, 1), (37, .ldc 76, 2), (39, .invokevirtual 68, 3), (42, .ifCond .eq 6, 3), (45, .bipush 10, 2), (47, .ireturn, 1), (48, .aload_n 0, 1), (49, .ldc 78, 2), (51, .invokevirtual 68, 3), (54, .ifCond .eq 8, 3), (57, .bipush 11, 2), (59, .goto 4, 3), (62, .iconst 1, 1), (63, .ireturn, 1)]
def Y_Text_shortWord : ax_Y := (⟨"MethodWarden$Text", "shortWord", "()I"⟩, prog_9_method_10_code, 1, some .int, tb_Text_shortWord)
theorem yok_Text_shortWord : yOK Y_Text_shortWord := ⟨by decide +kernel, by decide +kernel, inWG 498 (by decide +kernel) (by decide +kernel), inWG 97 (by decide +kernel) (by decide +kernel), by decide +kernel⟩
theorem ml_Text_68 : mlV "MethodWarden$Text" 68 Y_Text_reads 1 := ⟨⟨yok_Text_reads, by decide +kernel, by decide⟩, Or.inl (inWG 500 (by decide +kernel) (by decide +kernel)), inWG 502 (by decide +kernel) (by decide +kernel), inWG 4 (by decide +kernel) (by decide +kernel)⟩
def f_Text_shortWord  (M : ax_M) : Option (Int32 × ax_M) :=
  bnd (f_Text_reads 1000 M) (fun q1 M2 => if q1 = 0 then (bnd (f_Text_reads 1001 M2) (fun q4 M5 => if q4 = 0 then (bnd (f_Text_reads 1002 M5) (fun q7 M8 => if q7 = 0 then (bnd (f_Text_reads 1003 M8) (fun q10 M11 => if q10 = 0 then (bnd (f_Text_reads 1004 M11) (fun q13 M14 => if q13 = 0 then (some (1, M14)) else (some (11, M14)))) else (some (10, M11)))) else (some (7, M8)))) else (some (9, M5)))) else (some (8, M2)))
set_option maxHeartbeats 4000000 in
set_option maxRecDepth 100000 in
theorem c_Text_shortWord {l : Launch} {g : ax_G}  {M : ax_M} {r : Int32} {M' : ax_M} (h : f_Text_shortWord  M = some (r, M')) : Ctr l g true Y_Text_shortWord 7 [vA 3] M (some (vI r), M') := by
  refine Ctr.ofAW yok_Text_shortWord (Nat.le_of_ble_eq_true rfl) (Or.inl rfl) ?_
  show AW l g true Y_Text_shortWord 7 (some (vI r), M') 0 [(0, vA 3)] [] M
  unfold f_Text_shortWord at h
  refine A_aload_n 0 rfl rfl rfl ?_
  refine A_ldcS (i := 0) rfl rfl rfl (by decide) ?_
  obtain ⟨q1, M2, hcq1, h⟩ := bnd_out h
  refine A_callV (as := [vA 1000]) (st' := []) (r1 := (some (vI q1), M2)) rfl ml_Text_68 rfl (by decide) (by decide) (Or.inl rfl) rfl rfl (Nat.le_of_ble_eq_true rfl) (by decide) (c_Text_reads hcq1) (Or.inl rfl) ?_
  refine A_pc (pc' := 6) rfl ?_
  refine A_stk (st' := [vI q1]) rfl ?_
  refine A_if_eq (tgt := 12) rfl (by decide) (fun hc3 => ?_) (fun hc3 => ?_)
  · rw [if_pos hc3] at h
    refine A_aload_n 0 rfl rfl rfl ?_
    refine A_ldcS (i := 1) rfl rfl rfl (by decide) ?_
    obtain ⟨q4, M5, hcq4, h⟩ := bnd_out h
    refine A_callV (as := [vA 1001]) (st' := []) (r1 := (some (vI q4), M5)) rfl ml_Text_68 rfl (by decide) (by decide) (Or.inl rfl) rfl rfl (Nat.le_of_ble_eq_true rfl) (by decide) (c_Text_reads hcq4) (Or.inl rfl) ?_
    refine A_pc (pc' := 18) rfl ?_
    refine A_stk (st' := [vI q4]) rfl ?_
    refine A_if_eq (tgt := 24) rfl (by decide) (fun hc6 => ?_) (fun hc6 => ?_)
    · rw [if_pos hc6] at h
      refine A_aload_n 0 rfl rfl rfl ?_
      refine A_ldcS (i := 2) rfl rfl rfl (by decide) ?_
      obtain ⟨q7, M8, hcq7, h⟩ := bnd_out h
      refine A_callV (as := [vA 1002]) (st' := []) (r1 := (some (vI q7), M8)) rfl ml_Text_68 rfl (by decide) (by decide) (Or.inl rfl) rfl rfl (Nat.le_of_ble_eq_true rfl) (by decide) (c_Text_reads hcq7) (Or.inl rfl) ?_
      refine A_pc (pc' := 30) rfl ?_
      refine A_stk (st' := [vI q7]) rfl ?_
      refine A_if_eq (tgt := 36) rfl (by decide) (fun hc9 => ?_) (fun hc9 => ?_)
      · rw [if_pos hc9] at h
        refine A_aload_n 0 rfl rfl rfl ?_
        refine A_ldcS (i := 3) rfl rfl rfl (by decide) ?_
        obtain ⟨q10, M11, hcq10, h⟩ := bnd_out h
        refine A_callV (as := [vA 1003]) (st' := []) (r1 := (some (vI q10), M11)) rfl ml_Text_68 rfl (by decide) (by decide) (Or.inl rfl) rfl rfl (Nat.le_of_ble_eq_true rfl) (by decide) (c_Text_reads hcq10) (Or.inl rfl) ?_
        refine A_pc (pc' := 42) rfl ?_
        refine A_stk (st' := [vI q10]) rfl ?_
        refine A_if_eq (tgt := 48) rfl (by decide) (fun hc12 => ?_) (fun hc12 => ?_)
        · rw [if_pos hc12] at h
          refine A_aload_n 0 rfl rfl rfl ?_
          refine A_ldcS (i := 4) rfl rfl rfl (by decide) ?_
          obtain ⟨q13, M14, hcq13, h⟩ := bnd_out h
          refine A_callV (as := [vA 1004]) (st' := []) (r1 := (some (vI q13), M14)) rfl ml_Text_68 rfl (by decide) (by decide) (Or.inl rfl) rfl rfl (Nat.le_of_ble_eq_true rfl) (by decide) (c_Text_reads hcq13) (Or.inl rfl) ?_
          refine A_pc (pc' := 54) rfl ?_
          refine A_stk (st' := [vI q13]) rfl ?_
          refine A_if_eq (tgt := 62) rfl (by decide) (fun hc15 => ?_) (fun hc15 => ?_)
          · rw [if_pos hc15] at h
            refine A_iconst (v := 1) rfl (by decide) ?_
            obtain ⟨rfl, rfl⟩ := leaf h
            exact A_iret rfl rfl
          · rw [if_neg hc15] at h
            refine A_pc (pc' := 57) rfl ?_
            refine A_bipush (v := 11) rfl (by decide) ?_
            refine A_goto (tgt := 63) rfl (by decide) ?_
            obtain ⟨rfl, rfl⟩ := leaf h
            exact A_iret rfl rfl
        · rw [if_neg hc12] at h
          refine A_pc (pc' := 45) rfl ?_
          refine A_bipush (v := 10) rfl (by decide) ?_
          obtain ⟨rfl, rfl⟩ := leaf h
          exact A_iret rfl rfl
      · rw [if_neg hc9] at h
        refine A_pc (pc' := 33) rfl ?_
        refine A_bipush (v := 7) rfl (by decide) ?_
        obtain ⟨rfl, rfl⟩ := leaf h
        exact A_iret rfl rfl
    · rw [if_neg hc6] at h
      refine A_pc (pc' := 21) rfl ?_
      refine A_bipush (v := 9) rfl (by decide) ?_
      obtain ⟨rfl, rfl⟩ := leaf h
      exact A_iret rfl rfl
  · rw [if_neg hc3] at h
    refine A_pc (pc' := 9) rfl ?_
    refine A_bipush (v := 8) rfl (by decide) ?_
    obtain ⟨rfl, rfl⟩ := leaf h
    exact A_iret rfl rfl
def tb_Text_longWord : List (Nat × Instr × Nat) := [(0, .aload_n 0, 1), (1, .ldc 80, 2), (3, .invokevirtual 68, 3), (6, .ifCond .eq 5, 3), (9, .iconst 4, 1), (10, .ireturn, 1), (11, .aload_n 0, 1), (12, .ldc 82, 2), (14, .invokevirtual 68, 3), (17, .ifCond .eq 5, 3), (20, .iconst 5, 1), (21, .ireturn, 1), (22, .aload_n 0, 1), (23, .ldc 84, 2), (25, .invokevirtual 68, 3), (28, .ifCond .eq 6, 3), (31, .bipush 6, 2), (33, .ireturn, 1), (34, .aload_n 0, 1), (35, .ldc 86, 2), (37, .invokevirtual 68, 3), (40, .ifCond .eq 6, 3), (43, .bipush 12, 2), (45, .ireturn, 1), (46, .aload_n 0, 1), (47, .ldc 88, 2), (49, .invokevirtual 68, 3), (52, .ifCond .eq 6, 3), (55, .bipush 13, 2), (57, .ireturn, 1), (58, .aload_n 0, 1), (59, .ldc 90, 2), (61, .invokevirtual 68, 3), (64, .ifCond .eq 8, 3), (67, .bipush 14, 2), (69, .goto 4, 3), (72, .iconst 1, 1), (73, .ireturn, 1)]
def Y_Text_longWord : ax_Y := (⟨"MethodWarden$Text", "longWord", "()I"⟩, prog_9_method_11_code, 1, some .int, tb_Text_longWord)
theorem yok_Text_longWord : yOK Y_Text_longWord := ⟨by decide +kernel, by decide +kernel, inWG 559 (by decide +kernel) (by decide +kernel), inWG 97 (by decide +kernel) (by decide +kernel), by decide +kernel⟩
def f_Text_longWord  (M : ax_M) : Option (Int32 × ax_M) :=
  bnd (f_Text_reads 1005 M) (fun q1 M2 => if q1 = 0 then (bnd (f_Text_reads 1006 M2) (fun q4 M5 => if q4 = 0 then (bnd (f_Text_reads 1007 M5) (fun q7 M8 => if q7 = 0 then (bnd (f_Text_reads 1008 M8) (fun q10 M11 => if q10 = 0 then (bnd (f_Text_reads 1009 M11) (fun q13 M14 => if q13 = 0 then (bnd (f_Text_reads 1010 M14) (fun q16 M17 => if q16 = 0 then (some (1, M17)) else (some (14, M17)))) else (some (13, M14)))) else (some (12, M11)))) else (some (6, M8)))) else (some (5, M5)))) else (some (4, M2)))
set_option maxHeartbeats 4000000 in
set_option maxRecDepth 100000 in
theorem c_Text_longWord {l : Launch} {g : ax_G}  {M : ax_M} {r : Int32} {M' : ax_M} (h : f_Text_longWord  M = some (r, M')) : Ctr l g true Y_Text_longWord 7 [vA 3] M (some (vI r), M') := by
  refine Ctr.ofAW yok_Text_longWord (Nat.le_of_ble_eq_true rfl) (Or.inl rfl) ?_
  show AW l g true Y_Text_longWord 7 (some (vI r), M') 0 [(0, vA 3)] [] M
  unfold f_Text_longWord at h
  refine A_aload_n 0 rfl rfl rfl ?_
  refine A_ldcS (i := 5) rfl rfl rfl (by decide) ?_
  obtain ⟨q1, M2, hcq1, h⟩ := bnd_out h
  refine A_callV (as := [vA 1005]) (st' := []) (r1 := (some (vI q1), M2)) rfl ml_Text_68 rfl (by decide) (by decide) (Or.inl rfl) rfl rfl (Nat.le_of_ble_eq_true rfl) (by decide) (c_Text_reads hcq1) (Or.inl rfl) ?_
  refine A_pc (pc' := 6) rfl ?_
  refine A_stk (st' := [vI q1]) rfl ?_
  refine A_if_eq (tgt := 11) rfl (by decide) (fun hc3 => ?_) (fun hc3 => ?_)
  · rw [if_pos hc3] at h
    refine A_aload_n 0 rfl rfl rfl ?_
    refine A_ldcS (i := 6) rfl rfl rfl (by decide) ?_
    obtain ⟨q4, M5, hcq4, h⟩ := bnd_out h
    refine A_callV (as := [vA 1006]) (st' := []) (r1 := (some (vI q4), M5)) rfl ml_Text_68 rfl (by decide) (by decide) (Or.inl rfl) rfl rfl (Nat.le_of_ble_eq_true rfl) (by decide) (c_Text_reads hcq4) (Or.inl rfl) ?_
    refine A_pc (pc' := 17) rfl ?_
    refine A_stk (st' := [vI q4]) rfl ?_
    refine A_if_eq (tgt := 22) rfl (by decide) (fun hc6 => ?_) (fun hc6 => ?_)
    · rw [if_pos hc6] at h
      refine A_aload_n 0 rfl rfl rfl ?_
      refine A_ldcS (i := 7) rfl rfl rfl (by decide) ?_
      obtain ⟨q7, M8, hcq7, h⟩ := bnd_out h
      refine A_callV (as := [vA 1007]) (st' := []) (r1 := (some (vI q7), M8)) rfl ml_Text_68 rfl (by decide) (by decide) (Or.inl rfl) rfl rfl (Nat.le_of_ble_eq_true rfl) (by decide) (c_Text_reads hcq7) (Or.inl rfl) ?_
      refine A_pc (pc' := 28) rfl ?_
      refine A_stk (st' := [vI q7]) rfl ?_
      refine A_if_eq (tgt := 34) rfl (by decide) (fun hc9 => ?_) (fun hc9 => ?_)
      · rw [if_pos hc9] at h
        refine A_aload_n 0 rfl rfl rfl ?_
        refine A_ldcS (i := 8) rfl rfl rfl (by decide) ?_
        obtain ⟨q10, M11, hcq10, h⟩ := bnd_out h
        refine A_callV (as := [vA 1008]) (st' := []) (r1 := (some (vI q10), M11)) rfl ml_Text_68 rfl (by decide) (by decide) (Or.inl rfl) rfl rfl (Nat.le_of_ble_eq_true rfl) (by decide) (c_Text_reads hcq10) (Or.inl rfl) ?_
        refine A_pc (pc' := 40) rfl ?_
        refine A_stk (st' := [vI q10]) rfl ?_
        refine A_if_eq (tgt := 46) rfl (by decide) (fun hc12 => ?_) (fun hc12 => ?_)
        · rw [if_pos hc12] at h
          refine A_aload_n 0 rfl rfl rfl ?_
          refine A_ldcS (i := 9) rfl rfl rfl (by decide) ?_
          obtain ⟨q13, M14, hcq13, h⟩ := bnd_out h
          refine A_callV (as := [vA 1009]) (st' := []) (r1 := (some (vI q13), M14)) rfl ml_Text_68 rfl (by decide) (by decide) (Or.inl rfl) rfl rfl (Nat.le_of_ble_eq_true rfl) (by decide) (c_Text_reads hcq13) (Or.inl rfl) ?_
          refine A_pc (pc' := 52) rfl ?_
          refine A_stk (st' := [vI q13]) rfl ?_
          refine A_if_eq (tgt := 58) rfl (by decide) (fun hc15 => ?_) (fun hc15 => ?_)
          · rw [if_pos hc15] at h
            refine A_aload_n 0 rfl rfl rfl ?_
            refine A_ldcS (i := 10) rfl rfl rfl (by decide) ?_
            obtain ⟨q16, M17, hcq16, h⟩ := bnd_out h
            refine A_callV (as := [vA 1010]) (st' := []) (r1 := (some (vI q16), M17)) rfl ml_Text_68 rfl (by decide) (by decide) (Or.inl rfl) rfl rfl (Nat.le_of_ble_eq_true rfl) (by decide) (c_Text_reads hcq16) (Or.inl rfl) ?_
            refine A_pc (pc' := 64) rfl ?_
            refine A_stk (st' := [vI q16]) rfl ?_
            refine A_if_eq (tgt := 72) rfl (by decide) (fun hc18 => ?_) (fun hc18 => ?_)
            · rw [if_pos hc18] at h
              refine A_iconst (v := 1) rfl (by decide) ?_
              obtain ⟨rfl, rfl⟩ := leaf h
              exact A_iret rfl rfl
            · rw [if_neg hc18] at h
              refine A_pc (pc' := 67) rfl ?_
              refine A_bipush (v := 14) rfl (by decide) ?_
              refine A_goto (tgt := 73) rfl (by decide) ?_
              obtain ⟨rfl, rfl⟩ := leaf h
              exact A_iret rfl rfl
          · rw [if_neg hc15] at h
            refine A_pc (pc' := 55) rfl ?_
            refine A_bipush (v := 13) rfl (by decide) ?_
            obtain ⟨rfl, rfl⟩ := leaf h
            exact A_iret rfl rfl
        · rw [if_neg hc12] at h
          refine A_pc (pc' := 43) rfl ?_
          refine A_bipush (v := 12) rfl (by decide) ?_
          obtain ⟨rfl, rfl⟩ := leaf h
          exact A_iret rfl rfl
      · rw [if_neg hc9] at h
        refine A_pc (pc' := 31) rfl ?_
        refine A_bipush (v := 6) rfl (by decide) ?_
        obtain ⟨rfl, rfl⟩ := leaf h
        exact A_iret rfl rfl
    · rw [if_neg hc6] at h
      refine A_pc (pc' := 20) rfl ?_
      refine A_iconst (v := 5) rfl (by decide) ?_
      obtain ⟨rfl, rfl⟩ := leaf h
      exact A_iret rfl rfl
  · rw [if_neg hc3] at h
    refine A_pc (pc' := 9) rfl ?_
    refine A_iconst (v := 4) rfl (by decide) ?_
    obtain ⟨rfl, rfl⟩ := leaf h
    exact A_iret rfl rfl
def tb_Text_cutWord : List (Nat × Instr × Nat) := [(0, .aload_n 0, 1), (1, .getfield 19, 3), (4, .aload_n 0, 1), (5, .getfield 15, 3), (8, .if_icmp .ge 31, 3), (11, .aload_n 0, 1), (12, .getfield 9, 3), (15, .aload_n 0, 1), (16, .getfield 19, 3), (19, .caload, 1), (20, .invokestatic 42, 3), (23, .ifCond .eq 16, 3), (26, .aload_n 0, 1), (27, .dup, 1), (28, .getfield 19, 3), (31, .iconst 1, 1), (32, .iadd, 1), (33, .putfield 19, 3), (36, .goto (-36), 3), (39, .aload_n 0, 1), (40, .getfield 19, 3), (43, .aload_n 0, 1), (44, .getfield 22, 3), (47, .isub, 1), (48, .iconst 4, 1), (49, .if_icmp .ge 10, 3), (52, .aload_n 0, 1), (53, .invokevirtual 60, 3), (56, .goto 7, 3), (59, .aload_n 0, 1), (60, .invokevirtual 63, 3), (63, .ireturn, 1)]
def Y_Text_cutWord : ax_Y := (⟨"MethodWarden$Text", "cutWord", "()I"⟩, prog_9_method_9_code, 1, some .int, tb_Text_cutWord)
theorem yok_Text_cutWord : yOK Y_Text_cutWord := ⟨by decide +kernel, by decide +kernel, inWG 494 (by decide +kernel) (by decide +kernel), inWG 97 (by decide +kernel) (by decide +kernel), by decide +kernel⟩
theorem ml_Text_63 : mlV "MethodWarden$Text" 63 Y_Text_longWord 0 := ⟨⟨yok_Text_longWord, by decide +kernel, by decide⟩, Or.inl (inWG 556 (by decide +kernel) (by decide +kernel)), inWG 558 (by decide +kernel) (by decide +kernel), inWG 5 (by decide +kernel) (by decide +kernel)⟩
theorem ml_Text_60 : mlV "MethodWarden$Text" 60 Y_Text_shortWord 0 := ⟨⟨yok_Text_shortWord, by decide +kernel, by decide⟩, Or.inl (inWG 495 (by decide +kernel) (by decide +kernel)), inWG 497 (by decide +kernel) (by decide +kernel), inWG 3 (by decide +kernel) (by decide +kernel)⟩
theorem ml_Text_42 : mlS "MethodWarden$Text" 42 Y_Text_isSmallLetter 1 := ⟨⟨yok_Text_isSmallLetter, by decide +kernel, by decide⟩, Or.inl (inWG 488 (by decide +kernel) (by decide +kernel)), inWG 489 (by decide +kernel) (by decide +kernel)⟩
def f_Text_cutWord_0_b (K0 : ax_M → Option (Int32 × ax_M))  (M : ax_M) : Option (Int32 × ax_M) :=
  if (gI M 3 1) ≤ (gI M 3 2) then (if 4 ≤ ((gI M 3 2) - (gI M 3 4)) then (bnd (f_Text_longWord  M) (fun q19 M20 => some (q19, M20))) else (bnd (f_Text_shortWord  M) (fun q21 M22 => some (q21, M22)))) else (gi (gI M 3 2) 48 (bnd (f_Text_isSmallLetter (gI M 4 (gI M 3 2).toNatClampNeg) M) (fun q24 M25 => if q24 = 0 then (if 4 ≤ ((gI M25 3 2) - (gI M25 3 4)) then (bnd (f_Text_longWord  M25) (fun q28 M29 => some (q28, M29))) else (bnd (f_Text_shortWord  M25) (fun q30 M31 => some (q30, M31)))) else (kM (mI M25 3 2 ((gI M25 3 2) + 1)) (fun M32 => K0  M32)))))
def f_Text_cutWord_0 : Nat → ax_M → Option (Int32 × ax_M)
  | 0, _ => none
  | n + 1, M => f_Text_cutWord_0_b  (f_Text_cutWord_0 n)  M
set_option maxHeartbeats 4000000 in
set_option maxRecDepth 100000 in
theorem o_Text_cutWord_0_b {l : Launch} {g : ax_G} (K0 : ax_M → Option (Int32 × ax_M)) (hK0 : ∀  (M : ax_M) (r : Int32) (M' : ax_M), K0  M = some (r, M') → AW l g true Y_Text_cutWord 8 (some (vI r), M') 0 [(0, vA 3)] [] M)  (M : ax_M) (r : Int32) (M' : ax_M) (h : f_Text_cutWord_0_b  K0  M = some (r, M')) : AW l g true Y_Text_cutWord 8 (some (vI r), M') 0 [(0, vA 3)] [] M := by
  unfold f_Text_cutWord_0_b at h
  refine A_aload_n 0 rfl rfl rfl ?_
  refine A_getI rfl fl_Text_19 rfl (by decide) (Or.inl rfl) ?_
  refine A_aload_n 0 rfl rfl rfl ?_
  refine A_getI rfl fl_Text_15 rfl (by decide) (Or.inl rfl) ?_
  refine A_icmp_ge (tgt := 39) rfl (by decide) (fun hc17 => ?_) (fun hc17 => ?_)
  · rw [if_pos hc17] at h
    refine A_aload_n 0 rfl rfl rfl ?_
    refine A_getI rfl fl_Text_19 rfl (by decide) (Or.inl rfl) ?_
    refine A_aload_n 0 rfl rfl rfl ?_
    refine A_getI rfl fl_Text_22 rfl (by decide) (Or.inl rfl) ?_
    refine A_isub rfl ?_
    refine A_pc (pc' := 48) rfl ?_
    refine A_iconst (v := 4) rfl (by decide) ?_
    refine A_icmp_ge (tgt := 59) rfl (by decide) (fun hc18 => ?_) (fun hc18 => ?_)
    · rw [if_pos hc18] at h
      refine A_aload_n 0 rfl rfl rfl ?_
      obtain ⟨q19, M20, hcq19, h⟩ := bnd_out h
      refine A_callV (as := []) (st' := []) (r1 := (some (vI q19), M20)) rfl ml_Text_63 rfl (by decide) (by decide) (Or.inl rfl) rfl rfl (Nat.le_of_ble_eq_true rfl) (by decide) (c_Text_longWord hcq19) (Or.inl rfl) ?_
      refine A_pc (pc' := 63) rfl ?_
      refine A_stk (st' := [vI q19]) rfl ?_
      obtain ⟨rfl, rfl⟩ := leaf h
      exact A_iret rfl rfl
    · rw [if_neg hc18] at h
      refine A_pc (pc' := 52) rfl ?_
      refine A_aload_n 0 rfl rfl rfl ?_
      obtain ⟨q21, M22, hcq21, h⟩ := bnd_out h
      refine A_callV (as := []) (st' := []) (r1 := (some (vI q21), M22)) rfl ml_Text_60 rfl (by decide) (by decide) (Or.inl rfl) rfl rfl (Nat.le_of_ble_eq_true rfl) (by decide) (c_Text_shortWord hcq21) (Or.inl rfl) ?_
      refine A_pc (pc' := 56) rfl ?_
      refine A_stk (st' := [vI q21]) rfl ?_
      refine A_goto (tgt := 63) rfl (by decide) ?_
      obtain ⟨rfl, rfl⟩ := leaf h
      exact A_iret rfl rfl
  · rw [if_neg hc17] at h
    refine A_pc (pc' := 11) rfl ?_
    refine A_aload_n 0 rfl rfl rfl ?_
    refine A_getL (r := 4) rfl fl_Text_9 rfl (by decide) rfl rfl ?_
    refine A_aload_n 0 rfl rfl rfl ?_
    refine A_getI rfl fl_Text_19 rfl (by decide) (Or.inl rfl) ?_
    obtain ⟨hg23, h⟩ := gi_out h
    refine A_cald (n := 48) rfl (by decide) (by decide) (Or.inl rfl) hg23 ?_
    refine A_pc (pc' := 20) rfl ?_
    obtain ⟨q24, M25, hcq24, h⟩ := bnd_out h
    refine A_callS (as := [vI (gI M 4 (gI M 3 2).toNatClampNeg)]) (st' := []) (r1 := (some (vI q24), M25)) rfl ml_Text_42 rfl rfl (Nat.le_of_ble_eq_true rfl) (by decide) (c_Text_isSmallLetter hcq24) (Or.inl rfl) ?_
    refine A_pc (pc' := 23) rfl ?_
    refine A_stk (st' := [vI q24]) rfl ?_
    refine A_if_eq (tgt := 39) rfl (by decide) (fun hc26 => ?_) (fun hc26 => ?_)
    · rw [if_pos hc26] at h
      refine A_aload_n 0 rfl rfl rfl ?_
      refine A_getI rfl fl_Text_19 rfl (by decide) (Or.inl rfl) ?_
      refine A_aload_n 0 rfl rfl rfl ?_
      refine A_getI rfl fl_Text_22 rfl (by decide) (Or.inl rfl) ?_
      refine A_isub rfl ?_
      refine A_pc (pc' := 48) rfl ?_
      refine A_iconst (v := 4) rfl (by decide) ?_
      refine A_icmp_ge (tgt := 59) rfl (by decide) (fun hc27 => ?_) (fun hc27 => ?_)
      · rw [if_pos hc27] at h
        refine A_aload_n 0 rfl rfl rfl ?_
        obtain ⟨q28, M29, hcq28, h⟩ := bnd_out h
        refine A_callV (as := []) (st' := []) (r1 := (some (vI q28), M29)) rfl ml_Text_63 rfl (by decide) (by decide) (Or.inl rfl) rfl rfl (Nat.le_of_ble_eq_true rfl) (by decide) (c_Text_longWord hcq28) (Or.inl rfl) ?_
        refine A_pc (pc' := 63) rfl ?_
        refine A_stk (st' := [vI q28]) rfl ?_
        obtain ⟨rfl, rfl⟩ := leaf h
        exact A_iret rfl rfl
      · rw [if_neg hc27] at h
        refine A_pc (pc' := 52) rfl ?_
        refine A_aload_n 0 rfl rfl rfl ?_
        obtain ⟨q30, M31, hcq30, h⟩ := bnd_out h
        refine A_callV (as := []) (st' := []) (r1 := (some (vI q30), M31)) rfl ml_Text_60 rfl (by decide) (by decide) (Or.inl rfl) rfl rfl (Nat.le_of_ble_eq_true rfl) (by decide) (c_Text_shortWord hcq30) (Or.inl rfl) ?_
        refine A_pc (pc' := 56) rfl ?_
        refine A_stk (st' := [vI q30]) rfl ?_
        refine A_goto (tgt := 63) rfl (by decide) ?_
        obtain ⟨rfl, rfl⟩ := leaf h
        exact A_iret rfl rfl
    · rw [if_neg hc26] at h
      refine A_pc (pc' := 26) rfl ?_
      refine A_aload_n 0 rfl rfl rfl ?_
      refine A_dup rfl rfl ?_
      refine A_getI rfl fl_Text_19 rfl (by decide) (Or.inl rfl) ?_
      refine A_iconst (v := 1) rfl (by decide) ?_
      refine A_iadd rfl ?_
      refine A_pc (pc' := 33) rfl ?_
      refine A_putI rfl (Or.inl fl_Text_19) rfl (by decide) (Or.inl rfl) rfl ?_
      obtain ⟨M32, hM32, h⟩ := kM_out h
      refine A_mem hM32 ?_
      refine A_goto (tgt := 0) rfl (by decide) ?_
      refine A_pc (pc' := 0) rfl ?_
      refine A_sub (Ls' := [(0, vA 3)]) [0] rfl ?_
      exact hK0  _ _ _ h
theorem o_Text_cutWord_0 {l : Launch} {g : ax_G} : ∀ (n : Nat)  (M : ax_M) (r : Int32) (M' : ax_M), f_Text_cutWord_0  n  M = some (r, M') → AW l g true Y_Text_cutWord 8 (some (vI r), M') 0 [(0, vA 3)] [] M := by
  intro n
  induction n with
  | zero =>
    intro  M r M' h
    cases h
  | succ n ih =>
    intro  M r M' h
    exact o_Text_cutWord_0_b  _ ih  _ _ _ h
def f_Text_cutWord  (M : ax_M) : Option (Int32 × ax_M) :=
  if (gI M 3 1) ≤ (gI M 3 2) then (if 4 ≤ ((gI M 3 2) - (gI M 3 4)) then (bnd (f_Text_longWord  M) (fun q3 M4 => some (q3, M4))) else (bnd (f_Text_shortWord  M) (fun q5 M6 => some (q5, M6)))) else (gi (gI M 3 2) 48 (bnd (f_Text_isSmallLetter (gI M 4 (gI M 3 2).toNatClampNeg) M) (fun q8 M9 => if q8 = 0 then (if 4 ≤ ((gI M9 3 2) - (gI M9 3 4)) then (bnd (f_Text_longWord  M9) (fun q12 M13 => some (q12, M13))) else (bnd (f_Text_shortWord  M9) (fun q14 M15 => some (q14, M15)))) else (kM (mI M9 3 2 ((gI M9 3 2) + 1)) (fun M16 => f_Text_cutWord_0 64 M16)))))
set_option maxHeartbeats 4000000 in
set_option maxRecDepth 100000 in
theorem c_Text_cutWord {l : Launch} {g : ax_G}  {M : ax_M} {r : Int32} {M' : ax_M} (h : f_Text_cutWord  M = some (r, M')) : Ctr l g true Y_Text_cutWord 8 [vA 3] M (some (vI r), M') := by
  refine Ctr.ofAW yok_Text_cutWord (Nat.le_of_ble_eq_true rfl) (Or.inl rfl) ?_
  show AW l g true Y_Text_cutWord 8 (some (vI r), M') 0 [(0, vA 3)] [] M
  unfold f_Text_cutWord at h
  refine A_aload_n 0 rfl rfl rfl ?_
  refine A_getI rfl fl_Text_19 rfl (by decide) (Or.inl rfl) ?_
  refine A_aload_n 0 rfl rfl rfl ?_
  refine A_getI rfl fl_Text_15 rfl (by decide) (Or.inl rfl) ?_
  refine A_icmp_ge (tgt := 39) rfl (by decide) (fun hc1 => ?_) (fun hc1 => ?_)
  · rw [if_pos hc1] at h
    refine A_aload_n 0 rfl rfl rfl ?_
    refine A_getI rfl fl_Text_19 rfl (by decide) (Or.inl rfl) ?_
    refine A_aload_n 0 rfl rfl rfl ?_
    refine A_getI rfl fl_Text_22 rfl (by decide) (Or.inl rfl) ?_
    refine A_isub rfl ?_
    refine A_pc (pc' := 48) rfl ?_
    refine A_iconst (v := 4) rfl (by decide) ?_
    refine A_icmp_ge (tgt := 59) rfl (by decide) (fun hc2 => ?_) (fun hc2 => ?_)
    · rw [if_pos hc2] at h
      refine A_aload_n 0 rfl rfl rfl ?_
      obtain ⟨q3, M4, hcq3, h⟩ := bnd_out h
      refine A_callV (as := []) (st' := []) (r1 := (some (vI q3), M4)) rfl ml_Text_63 rfl (by decide) (by decide) (Or.inl rfl) rfl rfl (Nat.le_of_ble_eq_true rfl) (by decide) (c_Text_longWord hcq3) (Or.inl rfl) ?_
      refine A_pc (pc' := 63) rfl ?_
      refine A_stk (st' := [vI q3]) rfl ?_
      obtain ⟨rfl, rfl⟩ := leaf h
      exact A_iret rfl rfl
    · rw [if_neg hc2] at h
      refine A_pc (pc' := 52) rfl ?_
      refine A_aload_n 0 rfl rfl rfl ?_
      obtain ⟨q5, M6, hcq5, h⟩ := bnd_out h
      refine A_callV (as := []) (st' := []) (r1 := (some (vI q5), M6)) rfl ml_Text_60 rfl (by decide) (by decide) (Or.inl rfl) rfl rfl (Nat.le_of_ble_eq_true rfl) (by decide) (c_Text_shortWord hcq5) (Or.inl rfl) ?_
      refine A_pc (pc' := 56) rfl ?_
      refine A_stk (st' := [vI q5]) rfl ?_
      refine A_goto (tgt := 63) rfl (by decide) ?_
      obtain ⟨rfl, rfl⟩ := leaf h
      exact A_iret rfl rfl
  · rw [if_neg hc1] at h
    refine A_pc (pc' := 11) rfl ?_
    refine A_aload_n 0 rfl rfl rfl ?_
    refine A_getL (r := 4) rfl fl_Text_9 rfl (by decide) rfl rfl ?_
    refine A_aload_n 0 rfl rfl rfl ?_
    refine A_getI rfl fl_Text_19 rfl (by decide) (Or.inl rfl) ?_
    obtain ⟨hg7, h⟩ := gi_out h
    refine A_cald (n := 48) rfl (by decide) (by decide) (Or.inl rfl) hg7 ?_
    refine A_pc (pc' := 20) rfl ?_
    obtain ⟨q8, M9, hcq8, h⟩ := bnd_out h
    refine A_callS (as := [vI (gI M 4 (gI M 3 2).toNatClampNeg)]) (st' := []) (r1 := (some (vI q8), M9)) rfl ml_Text_42 rfl rfl (Nat.le_of_ble_eq_true rfl) (by decide) (c_Text_isSmallLetter hcq8) (Or.inl rfl) ?_
    refine A_pc (pc' := 23) rfl ?_
    refine A_stk (st' := [vI q8]) rfl ?_
    refine A_if_eq (tgt := 39) rfl (by decide) (fun hc10 => ?_) (fun hc10 => ?_)
    · rw [if_pos hc10] at h
      refine A_aload_n 0 rfl rfl rfl ?_
      refine A_getI rfl fl_Text_19 rfl (by decide) (Or.inl rfl) ?_
      refine A_aload_n 0 rfl rfl rfl ?_
      refine A_getI rfl fl_Text_22 rfl (by decide) (Or.inl rfl) ?_
      refine A_isub rfl ?_
      refine A_pc (pc' := 48) rfl ?_
      refine A_iconst (v := 4) rfl (by decide) ?_
      refine A_icmp_ge (tgt := 59) rfl (by decide) (fun hc11 => ?_) (fun hc11 => ?_)
      · rw [if_pos hc11] at h
        refine A_aload_n 0 rfl rfl rfl ?_
        obtain ⟨q12, M13, hcq12, h⟩ := bnd_out h
        refine A_callV (as := []) (st' := []) (r1 := (some (vI q12), M13)) rfl ml_Text_63 rfl (by decide) (by decide) (Or.inl rfl) rfl rfl (Nat.le_of_ble_eq_true rfl) (by decide) (c_Text_longWord hcq12) (Or.inl rfl) ?_
        refine A_pc (pc' := 63) rfl ?_
        refine A_stk (st' := [vI q12]) rfl ?_
        obtain ⟨rfl, rfl⟩ := leaf h
        exact A_iret rfl rfl
      · rw [if_neg hc11] at h
        refine A_pc (pc' := 52) rfl ?_
        refine A_aload_n 0 rfl rfl rfl ?_
        obtain ⟨q14, M15, hcq14, h⟩ := bnd_out h
        refine A_callV (as := []) (st' := []) (r1 := (some (vI q14), M15)) rfl ml_Text_60 rfl (by decide) (by decide) (Or.inl rfl) rfl rfl (Nat.le_of_ble_eq_true rfl) (by decide) (c_Text_shortWord hcq14) (Or.inl rfl) ?_
        refine A_pc (pc' := 56) rfl ?_
        refine A_stk (st' := [vI q14]) rfl ?_
        refine A_goto (tgt := 63) rfl (by decide) ?_
        obtain ⟨rfl, rfl⟩ := leaf h
        exact A_iret rfl rfl
    · rw [if_neg hc10] at h
      refine A_pc (pc' := 26) rfl ?_
      refine A_aload_n 0 rfl rfl rfl ?_
      refine A_dup rfl rfl ?_
      refine A_getI rfl fl_Text_19 rfl (by decide) (Or.inl rfl) ?_
      refine A_iconst (v := 1) rfl (by decide) ?_
      refine A_iadd rfl ?_
      refine A_pc (pc' := 33) rfl ?_
      refine A_putI rfl (Or.inl fl_Text_19) rfl (by decide) (Or.inl rfl) rfl ?_
      obtain ⟨M16, hM16, h⟩ := kM_out h
      refine A_mem hM16 ?_
      refine A_goto (tgt := 0) rfl (by decide) ?_
      refine A_pc (pc' := 0) rfl ?_
      refine A_sub (Ls' := [(0, vA 3)]) [0] rfl ?_
      exact o_Text_cutWord_0  _  _ _ _ h
def tb_Text_endingOf : List (Nat × Instr × Nat) := [(0, .iload_n 0, 1), (1, .lookupswitch 44 #[(36, 41), (63, 35), (94, 38)], 35), (36, .bipush 38, 2), (38, .ireturn, 1), (39, .bipush 39, 2), (41, .ireturn, 1), (42, .bipush 40, 2), (44, .ireturn, 1), (45, .bipush 35, 2), (47, .ireturn, 1)]
def Y_Text_endingOf : ax_Y := (⟨"MethodWarden$Text", "endingOf", "(C)I"⟩, prog_9_method_17_code, 1, some .int, tb_Text_endingOf)
theorem yok_Text_endingOf : yOK Y_Text_endingOf := ⟨by decide +kernel, by decide +kernel, inWG 584 (by decide +kernel) (by decide +kernel), inWG 97 (by decide +kernel) (by decide +kernel), by decide +kernel⟩
def f_Text_endingOf (a0 : Int32) (M : ax_M) : Option (Int32 × ax_M) :=
  if a0 = 36 then (some (40, M)) else (if a0 = 63 then (some (38, M)) else (if a0 = 94 then (some (39, M)) else (some (35, M))))
set_option maxHeartbeats 4000000 in
set_option maxRecDepth 100000 in
theorem c_Text_endingOf {l : Launch} {g : ax_G} {a0 : Int32} {M : ax_M} {r : Int32} {M' : ax_M} (h : f_Text_endingOf a0 M = some (r, M')) : Ctr l g true Y_Text_endingOf 1 [vI a0] M (some (vI r), M') := by
  refine Ctr.ofAW yok_Text_endingOf (Nat.le_of_ble_eq_true rfl) (Or.inl rfl) ?_
  show AW l g true Y_Text_endingOf 1 (some (vI r), M') 0 [(0, vI a0)] [] M
  unfold f_Text_endingOf at h
  refine A_iload_n 0 rfl rfl rfl ?_
  by_cases hc1 : a0 = 36
  · rw [if_pos hc1] at h
    refine A_lookup (tgt := 42) (off := 41) rfl (by decide) (by rw [hc1]; decide) (by decide) ?_
    refine A_bipush (v := 40) rfl (by decide) ?_
    obtain ⟨rfl, rfl⟩ := leaf h
    exact A_iret rfl rfl
  · rw [if_neg hc1] at h
    by_cases hc2 : a0 = 63
    · rw [if_pos hc2] at h
      refine A_lookup (tgt := 36) (off := 35) rfl (by decide) (by rw [hc2]; decide) (by decide) ?_
      refine A_bipush (v := 38) rfl (by decide) ?_
      obtain ⟨rfl, rfl⟩ := leaf h
      exact A_iret rfl rfl
    · rw [if_neg hc2] at h
      by_cases hc3 : a0 = 94
      · rw [if_pos hc3] at h
        refine A_lookup (tgt := 39) (off := 38) rfl (by decide) (by rw [hc3]; decide) (by decide) ?_
        refine A_bipush (v := 39) rfl (by decide) ?_
        obtain ⟨rfl, rfl⟩ := leaf h
        exact A_iret rfl rfl
      · rw [if_neg hc3] at h
        refine A_lookup (tgt := 45) rfl (by decide) (lk_def _ _ _ (fa_cons (ne_i hc1 (by decide)) (fa_cons (ne_i hc2 (by decide)) (fa_cons (ne_i hc3 (by decide)) fa_nil)))) (by decide) ?_
        refine A_bipush (v := 35) rfl (by decide) ?_
        obtain ⟨rfl, rfl⟩ := leaf h
        exact A_iret rfl rfl
def tb_Text_cutDot : List (Nat × Instr × Nat) := [(0, .aload_n 0, 1), (1, .getfield 19, 3), (4, .iconst 1, 1), (5, .iadd, 1), (6, .aload_n 0, 1), (7, .getfield 15, 3), (10, .if_icmp .ge 19, 3), (13, .aload_n 0, 1), (14, .getfield 9, 3), (17, .aload_n 0, 1), (18, .getfield 19, 3), (21, .iconst 1, 1), (22, .iadd, 1), (23, .caload, 1), (24, .bipush 91, 2), (26, .if_icmp .eq 6, 3), (29, .bipush 35, 2), (31, .ireturn, 1), (32, .aload_n 0, 1), (33, .getfield 9, 3), (36, .aload_n 0, 1), (37, .getfield 19, 3), (40, .caload, 1), (41, .invokestatic 110, 3), (44, .istore_n 1, 1), (45, .iload_n 1, 1), (46, .bipush 35, 2), (48, .if_icmp .eq 13, 3), (51, .aload_n 0, 1), (52, .dup, 1), (53, .getfield 19, 3), (56, .iconst 2, 1), (57, .iadd, 1), (58, .putfield 19, 3), (61, .iload_n 1, 1), (62, .ireturn, 1)]
def Y_Text_cutDot : ax_Y := (⟨"MethodWarden$Text", "cutDot", "()I"⟩, prog_9_method_16_code, 2, some .int, tb_Text_cutDot)
theorem yok_Text_cutDot : yOK Y_Text_cutDot := ⟨by decide +kernel, by decide +kernel, inWG 581 (by decide +kernel) (by decide +kernel), inWG 97 (by decide +kernel) (by decide +kernel), by decide +kernel⟩
theorem ml_Text_110 : mlS "MethodWarden$Text" 110 Y_Text_endingOf 1 := ⟨⟨yok_Text_endingOf, by decide +kernel, by decide⟩, Or.inl (inWG 582 (by decide +kernel) (by decide +kernel)), inWG 583 (by decide +kernel) (by decide +kernel)⟩
def f_Text_cutDot  (M : ax_M) : Option (Int32 × ax_M) :=
  if (gI M 3 1) ≤ ((gI M 3 2) + 1) then (some (35, M)) else (gi ((gI M 3 2) + 1) 48 (if (gI M 4 ((gI M 3 2) + 1).toNatClampNeg) = 91 then (gi (gI M 3 2) 48 (bnd (f_Text_endingOf (gI M 4 (gI M 3 2).toNatClampNeg) M) (fun q5 M6 => if q5 = 35 then (some (q5, M6)) else (kM (mI M6 3 2 ((gI M6 3 2) + 2)) (fun M8 => some (q5, M8)))))) else (some (35, M))))
set_option maxHeartbeats 4000000 in
set_option maxRecDepth 100000 in
theorem c_Text_cutDot {l : Launch} {g : ax_G}  {M : ax_M} {r : Int32} {M' : ax_M} (h : f_Text_cutDot  M = some (r, M')) : Ctr l g true Y_Text_cutDot 2 [vA 3] M (some (vI r), M') := by
  refine Ctr.ofAW yok_Text_cutDot (Nat.le_of_ble_eq_true rfl) (Or.inl rfl) ?_
  show AW l g true Y_Text_cutDot 2 (some (vI r), M') 0 [(0, vA 3)] [] M
  unfold f_Text_cutDot at h
  refine A_aload_n 0 rfl rfl rfl ?_
  refine A_getI rfl fl_Text_19 rfl (by decide) (Or.inl rfl) ?_
  refine A_iconst (v := 1) rfl (by decide) ?_
  refine A_iadd rfl ?_
  refine A_aload_n 0 rfl rfl rfl ?_
  refine A_pc (pc' := 7) rfl ?_
  refine A_getI rfl fl_Text_15 rfl (by decide) (Or.inl rfl) ?_
  refine A_icmp_ge (tgt := 29) rfl (by decide) (fun hc1 => ?_) (fun hc1 => ?_)
  · rw [if_pos hc1] at h
    refine A_bipush (v := 35) rfl (by decide) ?_
    obtain ⟨rfl, rfl⟩ := leaf h
    exact A_iret rfl rfl
  · rw [if_neg hc1] at h
    refine A_pc (pc' := 13) rfl ?_
    refine A_aload_n 0 rfl rfl rfl ?_
    refine A_getL (r := 4) rfl fl_Text_9 rfl (by decide) rfl rfl ?_
    refine A_aload_n 0 rfl rfl rfl ?_
    refine A_getI rfl fl_Text_19 rfl (by decide) (Or.inl rfl) ?_
    refine A_iconst (v := 1) rfl (by decide) ?_
    refine A_pc (pc' := 22) rfl ?_
    refine A_iadd rfl ?_
    obtain ⟨hg2, h⟩ := gi_out h
    refine A_cald (n := 48) rfl (by decide) (by decide) (Or.inl rfl) hg2 ?_
    refine A_bipush (v := 91) rfl (by decide) ?_
    refine A_icmp_eq (tgt := 32) rfl (by decide) (fun hc3 => ?_) (fun hc3 => ?_)
    · rw [if_pos hc3] at h
      refine A_aload_n 0 rfl rfl rfl ?_
      refine A_getL (r := 4) rfl fl_Text_9 rfl (by decide) rfl rfl ?_
      refine A_aload_n 0 rfl rfl rfl ?_
      refine A_getI rfl fl_Text_19 rfl (by decide) (Or.inl rfl) ?_
      obtain ⟨hg4, h⟩ := gi_out h
      refine A_cald (n := 48) rfl (by decide) (by decide) (Or.inl rfl) hg4 ?_
      refine A_pc (pc' := 41) rfl ?_
      obtain ⟨q5, M6, hcq5, h⟩ := bnd_out h
      refine A_callS (as := [vI (gI M 4 (gI M 3 2).toNatClampNeg)]) (st' := []) (r1 := (some (vI q5), M6)) rfl ml_Text_110 rfl rfl (Nat.le_of_ble_eq_true rfl) (by decide) (c_Text_endingOf hcq5) (Or.inl rfl) ?_
      refine A_pc (pc' := 44) rfl ?_
      refine A_stk (st' := [vI q5]) rfl ?_
      refine A_istore_n (Ls' := [(1, vI q5), (0, vA 3)]) rfl rfl (by decide) rfl ?_
      refine A_iload_n 0 rfl rfl rfl ?_
      refine A_bipush (v := 35) rfl (by decide) ?_
      refine A_icmp_eq (tgt := 61) rfl (by decide) (fun hc7 => ?_) (fun hc7 => ?_)
      · rw [if_pos hc7] at h
        refine A_iload_n 0 rfl rfl rfl ?_
        obtain ⟨rfl, rfl⟩ := leaf h
        exact A_iret rfl rfl
      · rw [if_neg hc7] at h
        refine A_pc (pc' := 51) rfl ?_
        refine A_aload_n 1 rfl rfl rfl ?_
        refine A_dup rfl rfl ?_
        refine A_getI rfl fl_Text_19 rfl (by decide) (Or.inl rfl) ?_
        refine A_iconst (v := 2) rfl (by decide) ?_
        refine A_iadd rfl ?_
        refine A_pc (pc' := 58) rfl ?_
        refine A_putI rfl (Or.inl fl_Text_19) rfl (by decide) (Or.inl rfl) rfl ?_
        obtain ⟨M8, hM8, h⟩ := kM_out h
        refine A_mem hM8 ?_
        refine A_iload_n 0 rfl rfl rfl ?_
        obtain ⟨rfl, rfl⟩ := leaf h
        exact A_iret rfl rfl
    · rw [if_neg hc3] at h
      refine A_pc (pc' := 29) rfl ?_
      refine A_bipush (v := 35) rfl (by decide) ?_
      obtain ⟨rfl, rfl⟩ := leaf h
      exact A_iret rfl rfl
def tb_Text_cutQuestion : List (Nat × Instr × Nat) := [(0, .aload_n 0, 1), (1, .bipush 58, 2), (3, .invokevirtual 55, 3), (6, .ifCond .eq 6, 3), (9, .bipush 37, 2), (11, .ireturn, 1), (12, .aload_n 0, 1), (13, .bipush 46, 2), (15, .invokevirtual 55, 3), (18, .ifCond .eq 8, 3), (21, .bipush 36, 2), (23, .goto 5, 3), (26, .bipush 20, 2), (28, .ireturn, 1)]
def Y_Text_cutQuestion : ax_Y := (⟨"MethodWarden$Text", "cutQuestion", "()I"⟩, prog_9_method_15_code, 1, some .int, tb_Text_cutQuestion)
theorem yok_Text_cutQuestion : yOK Y_Text_cutQuestion := ⟨by decide +kernel, by decide +kernel, inWG 577 (by decide +kernel) (by decide +kernel), inWG 97 (by decide +kernel) (by decide +kernel), by decide +kernel⟩
def f_Text_cutQuestion  (M : ax_M) : Option (Int32 × ax_M) :=
  bnd (f_Text_passes 58 M) (fun q1 M2 => if q1 = 0 then (bnd (f_Text_passes 46 M2) (fun q4 M5 => if q4 = 0 then (some (20, M5)) else (some (36, M5)))) else (some (37, M2)))
set_option maxHeartbeats 4000000 in
set_option maxRecDepth 100000 in
theorem c_Text_cutQuestion {l : Launch} {g : ax_G}  {M : ax_M} {r : Int32} {M' : ax_M} (h : f_Text_cutQuestion  M = some (r, M')) : Ctr l g true Y_Text_cutQuestion 2 [vA 3] M (some (vI r), M') := by
  refine Ctr.ofAW yok_Text_cutQuestion (Nat.le_of_ble_eq_true rfl) (Or.inl rfl) ?_
  show AW l g true Y_Text_cutQuestion 2 (some (vI r), M') 0 [(0, vA 3)] [] M
  unfold f_Text_cutQuestion at h
  refine A_aload_n 0 rfl rfl rfl ?_
  refine A_bipush (v := 58) rfl (by decide) ?_
  obtain ⟨q1, M2, hcq1, h⟩ := bnd_out h
  refine A_callV (as := [vI 58]) (st' := []) (r1 := (some (vI q1), M2)) rfl ml_Text_55 rfl (by decide) (by decide) (Or.inl rfl) rfl rfl (Nat.le_of_ble_eq_true rfl) (by decide) (c_Text_passes hcq1) (Or.inl rfl) ?_
  refine A_pc (pc' := 6) rfl ?_
  refine A_stk (st' := [vI q1]) rfl ?_
  refine A_if_eq (tgt := 12) rfl (by decide) (fun hc3 => ?_) (fun hc3 => ?_)
  · rw [if_pos hc3] at h
    refine A_aload_n 0 rfl rfl rfl ?_
    refine A_bipush (v := 46) rfl (by decide) ?_
    obtain ⟨q4, M5, hcq4, h⟩ := bnd_out h
    refine A_callV (as := [vI 46]) (st' := []) (r1 := (some (vI q4), M5)) rfl ml_Text_55 rfl (by decide) (by decide) (Or.inl rfl) rfl rfl (Nat.le_of_ble_eq_true rfl) (by decide) (c_Text_passes hcq4) (Or.inl rfl) ?_
    refine A_pc (pc' := 18) rfl ?_
    refine A_stk (st' := [vI q4]) rfl ?_
    refine A_if_eq (tgt := 26) rfl (by decide) (fun hc6 => ?_) (fun hc6 => ?_)
    · rw [if_pos hc6] at h
      refine A_bipush (v := 20) rfl (by decide) ?_
      obtain ⟨rfl, rfl⟩ := leaf h
      exact A_iret rfl rfl
    · rw [if_neg hc6] at h
      refine A_pc (pc' := 21) rfl ?_
      refine A_bipush (v := 36) rfl (by decide) ?_
      refine A_goto (tgt := 28) rfl (by decide) ?_
      obtain ⟨rfl, rfl⟩ := leaf h
      exact A_iret rfl rfl
  · rw [if_neg hc3] at h
    refine A_pc (pc' := 9) rfl ?_
    refine A_bipush (v := 37) rfl (by decide) ?_
    obtain ⟨rfl, rfl⟩ := leaf h
    exact A_iret rfl rfl
def tb_Text_cutLongSign : List (Nat × Instr × Nat) := [(0, .iload_n 1, 1), (1, .lookupswitch 136 #[(33, 75), (46, 131), (60, 92), (61, 59), (62, 109), (63, 126)], 59), (60, .aload_n 0, 1), (61, .bipush 61, 2), (63, .invokevirtual 55, 3), (66, .ifCond .eq 8, 3), (69, .bipush 23, 2), (71, .goto 4, 3), (74, .iconst 1, 1), (75, .ireturn, 1), (76, .aload_n 0, 1), (77, .bipush 61, 2), (79, .invokevirtual 55, 3), (82, .ifCond .eq 8, 3), (85, .bipush 24, 2), (87, .goto 5, 3), (90, .bipush 34, 2), (92, .ireturn, 1), (93, .aload_n 0, 1), (94, .bipush 61, 2), (96, .invokevirtual 55, 3), (99, .ifCond .eq 8, 3), (102, .bipush 26, 2), (104, .goto 5, 3), (107, .bipush 25, 2), (109, .ireturn, 1), (110, .aload_n 0, 1), (111, .bipush 61, 2), (113, .invokevirtual 55, 3), (116, .ifCond .eq 8, 3), (119, .bipush 28, 2), (121, .goto 5, 3), (124, .bipush 27, 2), (126, .ireturn, 1), (127, .aload_n 0, 1), (128, .invokevirtual 104, 3), (131, .ireturn, 1), (132, .aload_n 0, 1), (133, .invokevirtual 107, 3), (136, .ireturn, 1), (137, .iconst 1, 1), (138, .ireturn, 1)]
def Y_Text_cutLongSign : ax_Y := (⟨"MethodWarden$Text", "cutLongSign", "(C)I"⟩, prog_9_method_14_code, 2, some .int, tb_Text_cutLongSign)
theorem yok_Text_cutLongSign : yOK Y_Text_cutLongSign := ⟨by decide +kernel, by decide +kernel, inWG 573 (by decide +kernel) (by decide +kernel), inWG 97 (by decide +kernel) (by decide +kernel), by decide +kernel⟩
theorem ml_Text_107 : mlV "MethodWarden$Text" 107 Y_Text_cutDot 0 := ⟨⟨yok_Text_cutDot, by decide +kernel, by decide⟩, Or.inl (inWG 578 (by decide +kernel) (by decide +kernel)), inWG 580 (by decide +kernel) (by decide +kernel), inWG 9 (by decide +kernel) (by decide +kernel)⟩
theorem ml_Text_104 : mlV "MethodWarden$Text" 104 Y_Text_cutQuestion 0 := ⟨⟨yok_Text_cutQuestion, by decide +kernel, by decide⟩, Or.inl (inWG 574 (by decide +kernel) (by decide +kernel)), inWG 576 (by decide +kernel) (by decide +kernel), inWG 8 (by decide +kernel) (by decide +kernel)⟩
def f_Text_cutLongSign (a1 : Int32) (M : ax_M) : Option (Int32 × ax_M) :=
  if a1 = 33 then (bnd (f_Text_passes 61 M) (fun q2 M3 => if q2 = 0 then (some (34, M3)) else (some (24, M3)))) else (if a1 = 46 then (bnd (f_Text_cutDot  M) (fun q6 M7 => some (q6, M7))) else (if a1 = 60 then (bnd (f_Text_passes 61 M) (fun q9 M10 => if q9 = 0 then (some (25, M10)) else (some (26, M10)))) else (if a1 = 61 then (bnd (f_Text_passes 61 M) (fun q13 M14 => if q13 = 0 then (some (1, M14)) else (some (23, M14)))) else (if a1 = 62 then (bnd (f_Text_passes 61 M) (fun q17 M18 => if q17 = 0 then (some (27, M18)) else (some (28, M18)))) else (if a1 = 63 then (bnd (f_Text_cutQuestion  M) (fun q21 M22 => some (q21, M22))) else (some (1, M)))))))
set_option maxHeartbeats 4000000 in
set_option maxRecDepth 100000 in
theorem c_Text_cutLongSign {l : Launch} {g : ax_G} {a1 : Int32} {M : ax_M} {r : Int32} {M' : ax_M} (h : f_Text_cutLongSign a1 M = some (r, M')) : Ctr l g true Y_Text_cutLongSign 3 [vA 3, vI a1] M (some (vI r), M') := by
  refine Ctr.ofAW yok_Text_cutLongSign (Nat.le_of_ble_eq_true rfl) (Or.inl rfl) ?_
  show AW l g true Y_Text_cutLongSign 3 (some (vI r), M') 0 [(0, vA 3), (1, vI a1)] [] M
  unfold f_Text_cutLongSign at h
  refine A_iload_n 1 rfl rfl rfl ?_
  by_cases hc1 : a1 = 33
  · rw [if_pos hc1] at h
    refine A_lookup (tgt := 76) (off := 75) rfl (by decide) (by rw [hc1]; decide) (by decide) ?_
    refine A_aload_n 0 rfl rfl rfl ?_
    refine A_bipush (v := 61) rfl (by decide) ?_
    obtain ⟨q2, M3, hcq2, h⟩ := bnd_out h
    refine A_callV (as := [vI 61]) (st' := []) (r1 := (some (vI q2), M3)) rfl ml_Text_55 rfl (by decide) (by decide) (Or.inl rfl) rfl rfl (Nat.le_of_ble_eq_true rfl) (by decide) (c_Text_passes hcq2) (Or.inl rfl) ?_
    refine A_pc (pc' := 82) rfl ?_
    refine A_stk (st' := [vI q2]) rfl ?_
    refine A_if_eq (tgt := 90) rfl (by decide) (fun hc4 => ?_) (fun hc4 => ?_)
    · rw [if_pos hc4] at h
      refine A_bipush (v := 34) rfl (by decide) ?_
      obtain ⟨rfl, rfl⟩ := leaf h
      exact A_iret rfl rfl
    · rw [if_neg hc4] at h
      refine A_pc (pc' := 85) rfl ?_
      refine A_bipush (v := 24) rfl (by decide) ?_
      refine A_goto (tgt := 92) rfl (by decide) ?_
      obtain ⟨rfl, rfl⟩ := leaf h
      exact A_iret rfl rfl
  · rw [if_neg hc1] at h
    by_cases hc5 : a1 = 46
    · rw [if_pos hc5] at h
      refine A_lookup (tgt := 132) (off := 131) rfl (by decide) (by rw [hc5]; decide) (by decide) ?_
      refine A_aload_n 0 rfl rfl rfl ?_
      obtain ⟨q6, M7, hcq6, h⟩ := bnd_out h
      refine A_callV (as := []) (st' := []) (r1 := (some (vI q6), M7)) rfl ml_Text_107 rfl (by decide) (by decide) (Or.inl rfl) rfl rfl (Nat.le_of_ble_eq_true rfl) (by decide) (c_Text_cutDot hcq6) (Or.inl rfl) ?_
      refine A_pc (pc' := 136) rfl ?_
      refine A_stk (st' := [vI q6]) rfl ?_
      obtain ⟨rfl, rfl⟩ := leaf h
      exact A_iret rfl rfl
    · rw [if_neg hc5] at h
      by_cases hc8 : a1 = 60
      · rw [if_pos hc8] at h
        refine A_lookup (tgt := 93) (off := 92) rfl (by decide) (by rw [hc8]; decide) (by decide) ?_
        refine A_aload_n 0 rfl rfl rfl ?_
        refine A_bipush (v := 61) rfl (by decide) ?_
        obtain ⟨q9, M10, hcq9, h⟩ := bnd_out h
        refine A_callV (as := [vI 61]) (st' := []) (r1 := (some (vI q9), M10)) rfl ml_Text_55 rfl (by decide) (by decide) (Or.inl rfl) rfl rfl (Nat.le_of_ble_eq_true rfl) (by decide) (c_Text_passes hcq9) (Or.inl rfl) ?_
        refine A_pc (pc' := 99) rfl ?_
        refine A_stk (st' := [vI q9]) rfl ?_
        refine A_if_eq (tgt := 107) rfl (by decide) (fun hc11 => ?_) (fun hc11 => ?_)
        · rw [if_pos hc11] at h
          refine A_bipush (v := 25) rfl (by decide) ?_
          obtain ⟨rfl, rfl⟩ := leaf h
          exact A_iret rfl rfl
        · rw [if_neg hc11] at h
          refine A_pc (pc' := 102) rfl ?_
          refine A_bipush (v := 26) rfl (by decide) ?_
          refine A_goto (tgt := 109) rfl (by decide) ?_
          obtain ⟨rfl, rfl⟩ := leaf h
          exact A_iret rfl rfl
      · rw [if_neg hc8] at h
        by_cases hc12 : a1 = 61
        · rw [if_pos hc12] at h
          refine A_lookup (tgt := 60) (off := 59) rfl (by decide) (by rw [hc12]; decide) (by decide) ?_
          refine A_aload_n 0 rfl rfl rfl ?_
          refine A_bipush (v := 61) rfl (by decide) ?_
          obtain ⟨q13, M14, hcq13, h⟩ := bnd_out h
          refine A_callV (as := [vI 61]) (st' := []) (r1 := (some (vI q13), M14)) rfl ml_Text_55 rfl (by decide) (by decide) (Or.inl rfl) rfl rfl (Nat.le_of_ble_eq_true rfl) (by decide) (c_Text_passes hcq13) (Or.inl rfl) ?_
          refine A_pc (pc' := 66) rfl ?_
          refine A_stk (st' := [vI q13]) rfl ?_
          refine A_if_eq (tgt := 74) rfl (by decide) (fun hc15 => ?_) (fun hc15 => ?_)
          · rw [if_pos hc15] at h
            refine A_iconst (v := 1) rfl (by decide) ?_
            obtain ⟨rfl, rfl⟩ := leaf h
            exact A_iret rfl rfl
          · rw [if_neg hc15] at h
            refine A_pc (pc' := 69) rfl ?_
            refine A_bipush (v := 23) rfl (by decide) ?_
            refine A_goto (tgt := 75) rfl (by decide) ?_
            obtain ⟨rfl, rfl⟩ := leaf h
            exact A_iret rfl rfl
        · rw [if_neg hc12] at h
          by_cases hc16 : a1 = 62
          · rw [if_pos hc16] at h
            refine A_lookup (tgt := 110) (off := 109) rfl (by decide) (by rw [hc16]; decide) (by decide) ?_
            refine A_aload_n 0 rfl rfl rfl ?_
            refine A_bipush (v := 61) rfl (by decide) ?_
            obtain ⟨q17, M18, hcq17, h⟩ := bnd_out h
            refine A_callV (as := [vI 61]) (st' := []) (r1 := (some (vI q17), M18)) rfl ml_Text_55 rfl (by decide) (by decide) (Or.inl rfl) rfl rfl (Nat.le_of_ble_eq_true rfl) (by decide) (c_Text_passes hcq17) (Or.inl rfl) ?_
            refine A_pc (pc' := 116) rfl ?_
            refine A_stk (st' := [vI q17]) rfl ?_
            refine A_if_eq (tgt := 124) rfl (by decide) (fun hc19 => ?_) (fun hc19 => ?_)
            · rw [if_pos hc19] at h
              refine A_bipush (v := 27) rfl (by decide) ?_
              obtain ⟨rfl, rfl⟩ := leaf h
              exact A_iret rfl rfl
            · rw [if_neg hc19] at h
              refine A_pc (pc' := 119) rfl ?_
              refine A_bipush (v := 28) rfl (by decide) ?_
              refine A_goto (tgt := 126) rfl (by decide) ?_
              obtain ⟨rfl, rfl⟩ := leaf h
              exact A_iret rfl rfl
          · rw [if_neg hc16] at h
            by_cases hc20 : a1 = 63
            · rw [if_pos hc20] at h
              refine A_lookup (tgt := 127) (off := 126) rfl (by decide) (by rw [hc20]; decide) (by decide) ?_
              refine A_aload_n 0 rfl rfl rfl ?_
              obtain ⟨q21, M22, hcq21, h⟩ := bnd_out h
              refine A_callV (as := []) (st' := []) (r1 := (some (vI q21), M22)) rfl ml_Text_104 rfl (by decide) (by decide) (Or.inl rfl) rfl rfl (Nat.le_of_ble_eq_true rfl) (by decide) (c_Text_cutQuestion hcq21) (Or.inl rfl) ?_
              refine A_pc (pc' := 131) rfl ?_
              refine A_stk (st' := [vI q21]) rfl ?_
              obtain ⟨rfl, rfl⟩ := leaf h
              exact A_iret rfl rfl
            · rw [if_neg hc20] at h
              refine A_lookup (tgt := 137) rfl (by decide) (lk_def _ _ _ (fa_cons (ne_i hc1 (by decide)) (fa_cons (ne_i hc5 (by decide)) (fa_cons (ne_i hc8 (by decide)) (fa_cons (ne_i hc12 (by decide)) (fa_cons (ne_i hc16 (by decide)) (fa_cons (ne_i hc20 (by decide)) fa_nil))))))) (by decide) ?_
              refine A_iconst (v := 1) rfl (by decide) ?_
              obtain ⟨rfl, rfl⟩ := leaf h
              exact A_iret rfl rfl
def tb_Text_cutSign : List (Nat × Instr × Nat) := [(0, .aload_n 0, 1), (1, .getfield 9, 3), (4, .aload_n 0, 1), (5, .getfield 19, 3), (8, .caload, 1), (9, .istore_n 1, 1), (10, .aload_n 0, 1), (11, .dup, 1), (12, .getfield 19, 3), (15, .iconst 1, 1), (16, .iadd, 1), (17, .putfield 19, 3), (20, .iload_n 1, 1), (21, .lookupswitch 143 #[(37, 140), (38, 125), (40, 107), (41, 110), (42, 134), (43, 128), (45, 131), (47, 137), (58, 119), (91, 113), (93, 116), (124, 122)], 107), (128, .bipush 15, 2), (130, .ireturn, 1), (131, .bipush 16, 2), (133, .ireturn, 1), (134, .bipush 17, 2), (136, .ireturn, 1), (137, .bipush 18, 2), (139, .ireturn, 1), (140, .bipush 19, 2), (142, .ireturn, 1), (143, .bipush 21, 2), (145, .ireturn, 1), (146, .bipush 22, 2), (148, .ireturn, 1), (149, .bipush 29, 2), (151, .ireturn, 1), (152, .bipush 30, 2), (154, .ireturn, 1), (155, .bipush 31, 2), (157, .ireturn, 1), (158, .bipush 32, 2), (160, .ireturn, 1), (161, .bipush 33, 2), (163, .ireturn, 1), (164, .aload_n 0, 1), (165, .iload_n 1, 1), (166, .invokevirtual 100, 3), (169, .ireturn, 1)]
def Y_Text_cutSign : ax_Y := (⟨"MethodWarden$Text", "cutSign", "()I"⟩, prog_9_method_13_code, 2, some .int, tb_Text_cutSign)
theorem yok_Text_cutSign : yOK Y_Text_cutSign := ⟨by decide +kernel, by decide +kernel, inWG 569 (by decide +kernel) (by decide +kernel), inWG 97 (by decide +kernel) (by decide +kernel), by decide +kernel⟩
theorem ml_Text_100 : mlV "MethodWarden$Text" 100 Y_Text_cutLongSign 1 := ⟨⟨yok_Text_cutLongSign, by decide +kernel, by decide⟩, Or.inl (inWG 570 (by decide +kernel) (by decide +kernel)), inWG 572 (by decide +kernel) (by decide +kernel), inWG 7 (by decide +kernel) (by decide +kernel)⟩
def f_Text_cutSign  (M : ax_M) : Option (Int32 × ax_M) :=
  gi (gI M 3 2) 48 (kM (gI M 4 (gI M 3 2).toNatClampNeg) (fun x2 => kM (mI M 3 2 ((gI M 3 2) + 1)) (fun M3 => if x2 = 37 then (some (33, M3)) else (if x2 = 38 then (some (22, M3)) else (if x2 = 40 then (some (15, M3)) else (if x2 = 41 then (some (16, M3)) else (if x2 = 42 then (some (31, M3)) else (if x2 = 43 then (some (29, M3)) else (if x2 = 45 then (some (30, M3)) else (if x2 = 47 then (some (32, M3)) else (if x2 = 58 then (some (19, M3)) else (if x2 = 91 then (some (17, M3)) else (if x2 = 93 then (some (18, M3)) else (if x2 = 124 then (some (21, M3)) else (bnd (f_Text_cutLongSign x2 M3) (fun q16 M17 => some (q16, M17)))))))))))))))))
set_option maxHeartbeats 4000000 in
set_option maxRecDepth 100000 in
theorem c_Text_cutSign {l : Launch} {g : ax_G}  {M : ax_M} {r : Int32} {M' : ax_M} (h : f_Text_cutSign  M = some (r, M')) : Ctr l g true Y_Text_cutSign 4 [vA 3] M (some (vI r), M') := by
  refine Ctr.ofAW yok_Text_cutSign (Nat.le_of_ble_eq_true rfl) (Or.inl rfl) ?_
  show AW l g true Y_Text_cutSign 4 (some (vI r), M') 0 [(0, vA 3)] [] M
  unfold f_Text_cutSign at h
  refine A_aload_n 0 rfl rfl rfl ?_
  refine A_getL (r := 4) rfl fl_Text_9 rfl (by decide) rfl rfl ?_
  refine A_aload_n 0 rfl rfl rfl ?_
  refine A_getI rfl fl_Text_19 rfl (by decide) (Or.inl rfl) ?_
  obtain ⟨hg1, h⟩ := gi_out h
  refine A_cald (n := 48) rfl (by decide) (by decide) (Or.inl rfl) hg1 ?_
  refine A_pc (pc' := 9) rfl ?_
  obtain ⟨x2, hx2, h⟩ := kM_out h
  refine A_nI hx2 ?_
  refine A_istore_n (Ls' := [(1, vI x2), (0, vA 3)]) rfl rfl (by decide) rfl ?_
  refine A_aload_n 1 rfl rfl rfl ?_
  refine A_dup rfl rfl ?_
  refine A_getI rfl fl_Text_19 rfl (by decide) (Or.inl rfl) ?_
  refine A_iconst (v := 1) rfl (by decide) ?_
  refine A_iadd rfl ?_
  refine A_pc (pc' := 17) rfl ?_
  refine A_putI rfl (Or.inl fl_Text_19) rfl (by decide) (Or.inl rfl) rfl ?_
  obtain ⟨M3, hM3, h⟩ := kM_out h
  refine A_mem hM3 ?_
  refine A_iload_n 0 rfl rfl rfl ?_
  by_cases hc4 : x2 = 37
  · rw [if_pos hc4] at h
    refine A_lookup (tgt := 161) (off := 140) rfl (by decide) (by rw [hc4]; decide) (by decide) ?_
    refine A_bipush (v := 33) rfl (by decide) ?_
    obtain ⟨rfl, rfl⟩ := leaf h
    exact A_iret rfl rfl
  · rw [if_neg hc4] at h
    by_cases hc5 : x2 = 38
    · rw [if_pos hc5] at h
      refine A_lookup (tgt := 146) (off := 125) rfl (by decide) (by rw [hc5]; decide) (by decide) ?_
      refine A_bipush (v := 22) rfl (by decide) ?_
      obtain ⟨rfl, rfl⟩ := leaf h
      exact A_iret rfl rfl
    · rw [if_neg hc5] at h
      by_cases hc6 : x2 = 40
      · rw [if_pos hc6] at h
        refine A_lookup (tgt := 128) (off := 107) rfl (by decide) (by rw [hc6]; decide) (by decide) ?_
        refine A_bipush (v := 15) rfl (by decide) ?_
        obtain ⟨rfl, rfl⟩ := leaf h
        exact A_iret rfl rfl
      · rw [if_neg hc6] at h
        by_cases hc7 : x2 = 41
        · rw [if_pos hc7] at h
          refine A_lookup (tgt := 131) (off := 110) rfl (by decide) (by rw [hc7]; decide) (by decide) ?_
          refine A_bipush (v := 16) rfl (by decide) ?_
          obtain ⟨rfl, rfl⟩ := leaf h
          exact A_iret rfl rfl
        · rw [if_neg hc7] at h
          by_cases hc8 : x2 = 42
          · rw [if_pos hc8] at h
            refine A_lookup (tgt := 155) (off := 134) rfl (by decide) (by rw [hc8]; decide) (by decide) ?_
            refine A_bipush (v := 31) rfl (by decide) ?_
            obtain ⟨rfl, rfl⟩ := leaf h
            exact A_iret rfl rfl
          · rw [if_neg hc8] at h
            by_cases hc9 : x2 = 43
            · rw [if_pos hc9] at h
              refine A_lookup (tgt := 149) (off := 128) rfl (by decide) (by rw [hc9]; decide) (by decide) ?_
              refine A_bipush (v := 29) rfl (by decide) ?_
              obtain ⟨rfl, rfl⟩ := leaf h
              exact A_iret rfl rfl
            · rw [if_neg hc9] at h
              by_cases hc10 : x2 = 45
              · rw [if_pos hc10] at h
                refine A_lookup (tgt := 152) (off := 131) rfl (by decide) (by rw [hc10]; decide) (by decide) ?_
                refine A_bipush (v := 30) rfl (by decide) ?_
                obtain ⟨rfl, rfl⟩ := leaf h
                exact A_iret rfl rfl
              · rw [if_neg hc10] at h
                by_cases hc11 : x2 = 47
                · rw [if_pos hc11] at h
                  refine A_lookup (tgt := 158) (off := 137) rfl (by decide) (by rw [hc11]; decide) (by decide) ?_
                  refine A_bipush (v := 32) rfl (by decide) ?_
                  obtain ⟨rfl, rfl⟩ := leaf h
                  exact A_iret rfl rfl
                · rw [if_neg hc11] at h
                  by_cases hc12 : x2 = 58
                  · rw [if_pos hc12] at h
                    refine A_lookup (tgt := 140) (off := 119) rfl (by decide) (by rw [hc12]; decide) (by decide) ?_
                    refine A_bipush (v := 19) rfl (by decide) ?_
                    obtain ⟨rfl, rfl⟩ := leaf h
                    exact A_iret rfl rfl
                  · rw [if_neg hc12] at h
                    by_cases hc13 : x2 = 91
                    · rw [if_pos hc13] at h
                      refine A_lookup (tgt := 134) (off := 113) rfl (by decide) (by rw [hc13]; decide) (by decide) ?_
                      refine A_bipush (v := 17) rfl (by decide) ?_
                      obtain ⟨rfl, rfl⟩ := leaf h
                      exact A_iret rfl rfl
                    · rw [if_neg hc13] at h
                      by_cases hc14 : x2 = 93
                      · rw [if_pos hc14] at h
                        refine A_lookup (tgt := 137) (off := 116) rfl (by decide) (by rw [hc14]; decide) (by decide) ?_
                        refine A_bipush (v := 18) rfl (by decide) ?_
                        obtain ⟨rfl, rfl⟩ := leaf h
                        exact A_iret rfl rfl
                      · rw [if_neg hc14] at h
                        by_cases hc15 : x2 = 124
                        · rw [if_pos hc15] at h
                          refine A_lookup (tgt := 143) (off := 122) rfl (by decide) (by rw [hc15]; decide) (by decide) ?_
                          refine A_bipush (v := 21) rfl (by decide) ?_
                          obtain ⟨rfl, rfl⟩ := leaf h
                          exact A_iret rfl rfl
                        · rw [if_neg hc15] at h
                          refine A_lookup (tgt := 164) rfl (by decide) (lk_def _ _ _ (fa_cons (ne_i hc4 (by decide)) (fa_cons (ne_i hc5 (by decide)) (fa_cons (ne_i hc6 (by decide)) (fa_cons (ne_i hc7 (by decide)) (fa_cons (ne_i hc8 (by decide)) (fa_cons (ne_i hc9 (by decide)) (fa_cons (ne_i hc10 (by decide)) (fa_cons (ne_i hc11 (by decide)) (fa_cons (ne_i hc12 (by decide)) (fa_cons (ne_i hc13 (by decide)) (fa_cons (ne_i hc14 (by decide)) (fa_cons (ne_i hc15 (by decide)) fa_nil))))))))))))) (by decide) ?_
                          refine A_aload_n 1 rfl rfl rfl ?_
                          refine A_iload_n 0 rfl rfl rfl ?_
                          obtain ⟨q16, M17, hcq16, h⟩ := bnd_out h
                          refine A_callV (as := [vI x2]) (st' := []) (r1 := (some (vI q16), M17)) rfl ml_Text_100 rfl (by decide) (by decide) (Or.inl rfl) rfl rfl (Nat.le_of_ble_eq_true rfl) (by decide) (c_Text_cutLongSign hcq16) (Or.inl rfl) ?_
                          refine A_pc (pc' := 169) rfl ?_
                          refine A_stk (st' := [vI q16]) rfl ?_
                          obtain ⟨rfl, rfl⟩ := leaf h
                          exact A_iret rfl rfl
def tb_Text_cutNext : List (Nat × Instr × Nat) := [(0, .aload_n 0, 1), (1, .getfield 19, 3), (4, .aload_n 0, 1), (5, .getfield 15, 3), (8, .if_icmp .ge 30, 3), (11, .aload_n 0, 1), (12, .getfield 9, 3), (15, .aload_n 0, 1), (16, .getfield 19, 3), (19, .caload, 1), (20, .bipush 32, 2), (22, .if_icmp .ne 16, 3), (25, .aload_n 0, 1), (26, .dup, 1), (27, .getfield 19, 3), (30, .iconst 1, 1), (31, .iadd, 1), (32, .putfield 19, 3), (35, .goto (-35), 3), (38, .aload_n 0, 1), (39, .aload_n 0, 1), (40, .getfield 19, 3), (43, .putfield 22, 3), (46, .aload_n 0, 1), (47, .lconst 0, 1), (48, .putfield 25, 3), (51, .aload_n 0, 1), (52, .getfield 19, 3), (55, .aload_n 0, 1), (56, .getfield 15, 3), (59, .if_icmp .lt 11, 3), (62, .aload_n 0, 1), (63, .iconst 0, 1), (64, .putfield 31, 3), (67, .goto 63, 3), (70, .aload_n 0, 1), (71, .getfield 9, 3), (74, .aload_n 0, 1), (75, .getfield 19, 3), (78, .caload, 1), (79, .invokestatic 34, 3), (82, .ifCond .eq 14, 3), (85, .aload_n 0, 1), (86, .aload_n 0, 1), (87, .invokevirtual 38, 3), (90, .putfield 31, 3), (93, .goto 37, 3), (96, .aload_n 0, 1), (97, .getfield 9, 3), (100, .aload_n 0, 1), (101, .getfield 19, 3), (104, .caload, 1), (105, .invokestatic 42, 3), (108, .ifCond .eq 14, 3), (111, .aload_n 0, 1), (112, .aload_n 0, 1), (113, .invokevirtual 45, 3), (116, .putfield 31, 3), (119, .goto 11, 3), (122, .aload_n 0, 1), (123, .aload_n 0, 1), (124, .invokevirtual 48, 3), (127, .putfield 31, 3), (130, .return_, 1)]
def Y_Text_cutNext : ax_Y := (⟨"MethodWarden$Text", "cutNext", "()V"⟩, prog_9_method_5_code, 1, none, tb_Text_cutNext)
theorem yok_Text_cutNext : yOK Y_Text_cutNext := ⟨by decide +kernel, by decide +kernel, inWG 473 (by decide +kernel) (by decide +kernel), inWG 97 (by decide +kernel) (by decide +kernel), by decide +kernel⟩
theorem fl_Text_31 : fldOK "MethodWarden$Text" 31 1 3 false := ⟨_, _, _, cls_Text, by decide, by decide, rfl, Or.inl (inWG 132 (by decide +kernel) (by decide +kernel))⟩
theorem ml_Text_48 : mlV "MethodWarden$Text" 48 Y_Text_cutSign 0 := ⟨⟨yok_Text_cutSign, by decide +kernel, by decide⟩, Or.inl (inWG 566 (by decide +kernel) (by decide +kernel)), inWG 568 (by decide +kernel) (by decide +kernel), inWG 6 (by decide +kernel) (by decide +kernel)⟩
theorem ml_Text_45 : mlV "MethodWarden$Text" 45 Y_Text_cutWord 0 := ⟨⟨yok_Text_cutWord, by decide +kernel, by decide⟩, Or.inl (inWG 491 (by decide +kernel) (by decide +kernel)), inWG 493 (by decide +kernel) (by decide +kernel), inWG 2 (by decide +kernel) (by decide +kernel)⟩
theorem ml_Text_38 : mlV "MethodWarden$Text" 38 Y_Text_cutNumber 0 := ⟨⟨yok_Text_cutNumber, by decide +kernel, by decide⟩, Or.inl (inWG 477 (by decide +kernel) (by decide +kernel)), inWG 479 (by decide +kernel) (by decide +kernel), inWG 0 (by decide +kernel) (by decide +kernel)⟩
def f_Text_cutNext_38  (M : ax_M) : Option (Unit × ax_M) :=
  kM (mI M 3 4 (gI M 3 2)) (fun M2 => kM (mJ M2 3 5 0) (fun M3 => if (gI M3 3 2) < (gI M3 3 1) then (gi (gI M3 3 2) 48 (bnd (f_Text_isDigit (gI M3 4 (gI M3 3 2).toNatClampNeg) M3) (fun q6 M7 => if q6 = 0 then (gi (gI M7 3 2) 48 (bnd (f_Text_isSmallLetter (gI M7 4 (gI M7 3 2).toNatClampNeg) M7) (fun q10 M11 => if q10 = 0 then (bnd (f_Text_cutSign  M11) (fun q13 M14 => kM (mI M14 3 3 q13) (fun M15 => some ((), M15)))) else (bnd (f_Text_cutWord  M11) (fun q16 M17 => kM (mI M17 3 3 q16) (fun M18 => some ((), M18))))))) else (bnd (f_Text_cutNumber  M7) (fun q19 M20 => kM (mI M20 3 3 q19) (fun M21 => some ((), M21))))))) else (kM (mI M3 3 3 0) (fun M22 => some ((), M22)))))
set_option maxHeartbeats 4000000 in
set_option maxRecDepth 100000 in
theorem o_Text_cutNext_38 {l : Launch} {g : ax_G}  (M : ax_M) (r : Unit) (M' : ax_M) (h : f_Text_cutNext_38   M = some (r, M')) : AW l g true Y_Text_cutNext 9 (none, M') 38 [(0, vA 3)] [] M := by
  unfold f_Text_cutNext_38 at h
  refine A_aload_n 0 rfl rfl rfl ?_
  refine A_aload_n 0 rfl rfl rfl ?_
  refine A_getI rfl fl_Text_19 rfl (by decide) (Or.inl rfl) ?_
  refine A_putI rfl (Or.inl fl_Text_22) rfl (by decide) (Or.inl rfl) rfl ?_
  obtain ⟨M2, hM2, h⟩ := kM_out h
  refine A_mem hM2 ?_
  refine A_aload_n 0 rfl rfl rfl ?_
  refine A_pc (pc' := 47) rfl ?_
  refine A_lconst (v := 0) rfl (by decide) ?_
  refine A_putJ rfl (Or.inl fl_Text_25) rfl (by decide) (Or.inl rfl) rfl ?_
  obtain ⟨M3, hM3, h⟩ := kM_out h
  refine A_mem hM3 ?_
  refine A_aload_n 0 rfl rfl rfl ?_
  refine A_getI rfl fl_Text_19 rfl (by decide) (Or.inl rfl) ?_
  refine A_aload_n 0 rfl rfl rfl ?_
  refine A_getI rfl fl_Text_15 rfl (by decide) (Or.inl rfl) ?_
  refine A_pc (pc' := 59) rfl ?_
  refine A_icmp_lt (tgt := 70) rfl (by decide) (fun hc4 => ?_) (fun hc4 => ?_)
  · rw [if_pos hc4] at h
    refine A_aload_n 0 rfl rfl rfl ?_
    refine A_getL (r := 4) rfl fl_Text_9 rfl (by decide) rfl rfl ?_
    refine A_aload_n 0 rfl rfl rfl ?_
    refine A_getI rfl fl_Text_19 rfl (by decide) (Or.inl rfl) ?_
    obtain ⟨hg5, h⟩ := gi_out h
    refine A_cald (n := 48) rfl (by decide) (by decide) (Or.inl rfl) hg5 ?_
    refine A_pc (pc' := 79) rfl ?_
    obtain ⟨q6, M7, hcq6, h⟩ := bnd_out h
    refine A_callS (as := [vI (gI M3 4 (gI M3 3 2).toNatClampNeg)]) (st' := []) (r1 := (some (vI q6), M7)) rfl ml_Text_34 rfl rfl (Nat.le_of_ble_eq_true rfl) (by decide) (c_Text_isDigit hcq6) (Or.inl rfl) ?_
    refine A_pc (pc' := 82) rfl ?_
    refine A_stk (st' := [vI q6]) rfl ?_
    refine A_if_eq (tgt := 96) rfl (by decide) (fun hc8 => ?_) (fun hc8 => ?_)
    · rw [if_pos hc8] at h
      refine A_aload_n 0 rfl rfl rfl ?_
      refine A_getL (r := 4) rfl fl_Text_9 rfl (by decide) rfl rfl ?_
      refine A_aload_n 0 rfl rfl rfl ?_
      refine A_getI rfl fl_Text_19 rfl (by decide) (Or.inl rfl) ?_
      obtain ⟨hg9, h⟩ := gi_out h
      refine A_cald (n := 48) rfl (by decide) (by decide) (Or.inl rfl) hg9 ?_
      refine A_pc (pc' := 105) rfl ?_
      obtain ⟨q10, M11, hcq10, h⟩ := bnd_out h
      refine A_callS (as := [vI (gI M7 4 (gI M7 3 2).toNatClampNeg)]) (st' := []) (r1 := (some (vI q10), M11)) rfl ml_Text_42 rfl rfl (Nat.le_of_ble_eq_true rfl) (by decide) (c_Text_isSmallLetter hcq10) (Or.inl rfl) ?_
      refine A_pc (pc' := 108) rfl ?_
      refine A_stk (st' := [vI q10]) rfl ?_
      refine A_if_eq (tgt := 122) rfl (by decide) (fun hc12 => ?_) (fun hc12 => ?_)
      · rw [if_pos hc12] at h
        refine A_aload_n 0 rfl rfl rfl ?_
        refine A_aload_n 0 rfl rfl rfl ?_
        obtain ⟨q13, M14, hcq13, h⟩ := bnd_out h
        refine A_callV (as := []) (st' := [vA 3]) (r1 := (some (vI q13), M14)) rfl ml_Text_48 rfl (by decide) (by decide) (Or.inl rfl) rfl rfl (Nat.le_of_ble_eq_true rfl) (by decide) (c_Text_cutSign hcq13) (Or.inl rfl) ?_
        refine A_pc (pc' := 127) rfl ?_
        refine A_stk (st' := [vI q13, vA 3]) rfl ?_
        refine A_putI rfl (Or.inl fl_Text_31) rfl (by decide) (Or.inl rfl) rfl ?_
        obtain ⟨M15, hM15, h⟩ := kM_out h
        refine A_mem hM15 ?_
        obtain ⟨rfl, rfl⟩ := leaf h
        exact A_vret rfl rfl
      · rw [if_neg hc12] at h
        refine A_pc (pc' := 111) rfl ?_
        refine A_aload_n 0 rfl rfl rfl ?_
        refine A_aload_n 0 rfl rfl rfl ?_
        obtain ⟨q16, M17, hcq16, h⟩ := bnd_out h
        refine A_callV (as := []) (st' := [vA 3]) (r1 := (some (vI q16), M17)) rfl ml_Text_45 rfl (by decide) (by decide) (Or.inl rfl) rfl rfl (Nat.le_of_ble_eq_true rfl) (by decide) (c_Text_cutWord hcq16) (Or.inl rfl) ?_
        refine A_pc (pc' := 116) rfl ?_
        refine A_stk (st' := [vI q16, vA 3]) rfl ?_
        refine A_putI rfl (Or.inl fl_Text_31) rfl (by decide) (Or.inl rfl) rfl ?_
        obtain ⟨M18, hM18, h⟩ := kM_out h
        refine A_mem hM18 ?_
        refine A_goto (tgt := 130) rfl (by decide) ?_
        refine A_pc (pc' := 130) rfl ?_
        obtain ⟨rfl, rfl⟩ := leaf h
        exact A_vret rfl rfl
    · rw [if_neg hc8] at h
      refine A_pc (pc' := 85) rfl ?_
      refine A_aload_n 0 rfl rfl rfl ?_
      refine A_aload_n 0 rfl rfl rfl ?_
      obtain ⟨q19, M20, hcq19, h⟩ := bnd_out h
      refine A_callV (as := []) (st' := [vA 3]) (r1 := (some (vI q19), M20)) rfl ml_Text_38 rfl (by decide) (by decide) (Or.inl rfl) rfl rfl (Nat.le_of_ble_eq_true rfl) (by decide) (c_Text_cutNumber hcq19) (Or.inl rfl) ?_
      refine A_pc (pc' := 90) rfl ?_
      refine A_stk (st' := [vI q19, vA 3]) rfl ?_
      refine A_putI rfl (Or.inl fl_Text_31) rfl (by decide) (Or.inl rfl) rfl ?_
      obtain ⟨M21, hM21, h⟩ := kM_out h
      refine A_mem hM21 ?_
      refine A_goto (tgt := 130) rfl (by decide) ?_
      refine A_pc (pc' := 130) rfl ?_
      obtain ⟨rfl, rfl⟩ := leaf h
      exact A_vret rfl rfl
  · rw [if_neg hc4] at h
    refine A_pc (pc' := 62) rfl ?_
    refine A_aload_n 0 rfl rfl rfl ?_
    refine A_iconst (v := 0) rfl (by decide) ?_
    refine A_putI rfl (Or.inl fl_Text_31) rfl (by decide) (Or.inl rfl) rfl ?_
    obtain ⟨M22, hM22, h⟩ := kM_out h
    refine A_mem hM22 ?_
    refine A_goto (tgt := 130) rfl (by decide) ?_
    obtain ⟨rfl, rfl⟩ := leaf h
    exact A_vret rfl rfl
def f_Text_cutNext_0_b (K0 : ax_M → Option (Unit × ax_M))  (M : ax_M) : Option (Unit × ax_M) :=
  if (gI M 3 1) ≤ (gI M 3 2) then (f_Text_cutNext_38  M) else (gi (gI M 3 2) 48 (if (gI M 4 (gI M 3 2).toNatClampNeg) = 32 then (kM (mI M 3 2 ((gI M 3 2) + 1)) (fun M29 => K0  M29)) else (f_Text_cutNext_38  M)))
def f_Text_cutNext_0 : Nat → ax_M → Option (Unit × ax_M)
  | 0, _ => none
  | n + 1, M => f_Text_cutNext_0_b  (f_Text_cutNext_0 n)  M
set_option maxHeartbeats 4000000 in
set_option maxRecDepth 100000 in
theorem o_Text_cutNext_0_b {l : Launch} {g : ax_G} (K0 : ax_M → Option (Unit × ax_M)) (hK0 : ∀  (M : ax_M) (r : Unit) (M' : ax_M), K0  M = some (r, M') → AW l g true Y_Text_cutNext 9 (none, M') 0 [(0, vA 3)] [] M)  (M : ax_M) (r : Unit) (M' : ax_M) (h : f_Text_cutNext_0_b  K0  M = some (r, M')) : AW l g true Y_Text_cutNext 9 (none, M') 0 [(0, vA 3)] [] M := by
  unfold f_Text_cutNext_0_b at h
  refine A_aload_n 0 rfl rfl rfl ?_
  refine A_getI rfl fl_Text_19 rfl (by decide) (Or.inl rfl) ?_
  refine A_aload_n 0 rfl rfl rfl ?_
  refine A_getI rfl fl_Text_15 rfl (by decide) (Or.inl rfl) ?_
  refine A_icmp_ge (tgt := 38) rfl (by decide) (fun hc26 => ?_) (fun hc26 => ?_)
  · rw [if_pos hc26] at h
    refine A_pc (pc' := 38) rfl ?_
    refine A_sub (Ls' := [(0, vA 3)]) [0] rfl ?_
    exact o_Text_cutNext_38   _ _ _ h
  · rw [if_neg hc26] at h
    refine A_pc (pc' := 11) rfl ?_
    refine A_aload_n 0 rfl rfl rfl ?_
    refine A_getL (r := 4) rfl fl_Text_9 rfl (by decide) rfl rfl ?_
    refine A_aload_n 0 rfl rfl rfl ?_
    refine A_getI rfl fl_Text_19 rfl (by decide) (Or.inl rfl) ?_
    obtain ⟨hg27, h⟩ := gi_out h
    refine A_cald (n := 48) rfl (by decide) (by decide) (Or.inl rfl) hg27 ?_
    refine A_pc (pc' := 20) rfl ?_
    refine A_bipush (v := 32) rfl (by decide) ?_
    refine A_icmp_ne (tgt := 38) rfl (by decide) (fun hc28 => ?_) (fun hc28 => ?_)
    · rw [if_neg hc28] at h
      refine A_pc (pc' := 38) rfl ?_
      refine A_sub (Ls' := [(0, vA 3)]) [0] rfl ?_
      exact o_Text_cutNext_38   _ _ _ h
    · rw [if_pos hc28] at h
      refine A_pc (pc' := 25) rfl ?_
      refine A_aload_n 0 rfl rfl rfl ?_
      refine A_dup rfl rfl ?_
      refine A_getI rfl fl_Text_19 rfl (by decide) (Or.inl rfl) ?_
      refine A_iconst (v := 1) rfl (by decide) ?_
      refine A_iadd rfl ?_
      refine A_pc (pc' := 32) rfl ?_
      refine A_putI rfl (Or.inl fl_Text_19) rfl (by decide) (Or.inl rfl) rfl ?_
      obtain ⟨M29, hM29, h⟩ := kM_out h
      refine A_mem hM29 ?_
      refine A_goto (tgt := 0) rfl (by decide) ?_
      refine A_pc (pc' := 0) rfl ?_
      refine A_sub (Ls' := [(0, vA 3)]) [0] rfl ?_
      exact hK0  _ _ _ h
theorem o_Text_cutNext_0 {l : Launch} {g : ax_G} : ∀ (n : Nat)  (M : ax_M) (r : Unit) (M' : ax_M), f_Text_cutNext_0  n  M = some (r, M') → AW l g true Y_Text_cutNext 9 (none, M') 0 [(0, vA 3)] [] M := by
  intro n
  induction n with
  | zero =>
    intro  M r M' h
    cases h
  | succ n ih =>
    intro  M r M' h
    exact o_Text_cutNext_0_b  _ ih  _ _ _ h
def f_Text_cutNext  (M : ax_M) : Option (Unit × ax_M) :=
  if (gI M 3 1) ≤ (gI M 3 2) then (f_Text_cutNext_38  M) else (gi (gI M 3 2) 48 (if (gI M 4 (gI M 3 2).toNatClampNeg) = 32 then (kM (mI M 3 2 ((gI M 3 2) + 1)) (fun M25 => f_Text_cutNext_0 64 M25)) else (f_Text_cutNext_38  M)))
set_option maxHeartbeats 4000000 in
set_option maxRecDepth 100000 in
theorem c_Text_cutNext {l : Launch} {g : ax_G}  {M : ax_M} {r : Unit} {M' : ax_M} (h : f_Text_cutNext  M = some (r, M')) : Ctr l g true Y_Text_cutNext 9 [vA 3] M (none, M') := by
  refine Ctr.ofAW yok_Text_cutNext (Nat.le_of_ble_eq_true rfl) (Or.inl rfl) ?_
  show AW l g true Y_Text_cutNext 9 (none, M') 0 [(0, vA 3)] [] M
  unfold f_Text_cutNext at h
  refine A_aload_n 0 rfl rfl rfl ?_
  refine A_getI rfl fl_Text_19 rfl (by decide) (Or.inl rfl) ?_
  refine A_aload_n 0 rfl rfl rfl ?_
  refine A_getI rfl fl_Text_15 rfl (by decide) (Or.inl rfl) ?_
  refine A_icmp_ge (tgt := 38) rfl (by decide) (fun hc1 => ?_) (fun hc1 => ?_)
  · rw [if_pos hc1] at h
    refine A_pc (pc' := 38) rfl ?_
    refine A_sub (Ls' := [(0, vA 3)]) [0] rfl ?_
    exact o_Text_cutNext_38   _ _ _ h
  · rw [if_neg hc1] at h
    refine A_pc (pc' := 11) rfl ?_
    refine A_aload_n 0 rfl rfl rfl ?_
    refine A_getL (r := 4) rfl fl_Text_9 rfl (by decide) rfl rfl ?_
    refine A_aload_n 0 rfl rfl rfl ?_
    refine A_getI rfl fl_Text_19 rfl (by decide) (Or.inl rfl) ?_
    obtain ⟨hg23, h⟩ := gi_out h
    refine A_cald (n := 48) rfl (by decide) (by decide) (Or.inl rfl) hg23 ?_
    refine A_pc (pc' := 20) rfl ?_
    refine A_bipush (v := 32) rfl (by decide) ?_
    refine A_icmp_ne (tgt := 38) rfl (by decide) (fun hc24 => ?_) (fun hc24 => ?_)
    · rw [if_neg hc24] at h
      refine A_pc (pc' := 38) rfl ?_
      refine A_sub (Ls' := [(0, vA 3)]) [0] rfl ?_
      exact o_Text_cutNext_38   _ _ _ h
    · rw [if_pos hc24] at h
      refine A_pc (pc' := 25) rfl ?_
      refine A_aload_n 0 rfl rfl rfl ?_
      refine A_dup rfl rfl ?_
      refine A_getI rfl fl_Text_19 rfl (by decide) (Or.inl rfl) ?_
      refine A_iconst (v := 1) rfl (by decide) ?_
      refine A_iadd rfl ?_
      refine A_pc (pc' := 32) rfl ?_
      refine A_putI rfl (Or.inl fl_Text_19) rfl (by decide) (Or.inl rfl) rfl ?_
      obtain ⟨M25, hM25, h⟩ := kM_out h
      refine A_mem hM25 ?_
      refine A_goto (tgt := 0) rfl (by decide) ?_
      refine A_pc (pc' := 0) rfl ?_
      refine A_sub (Ls' := [(0, vA 3)]) [0] rfl ?_
      exact o_Text_cutNext_0  _  _ _ _ h
end
section
/-! Reader. Printed by gen_methods.py. -/
def tb_Reader_pushOperand : List (Nat × Instr × Nat) := [(0, .aload_n 0, 1), (1, .getfield 31, 3), (4, .bipush 20, 2), (6, .if_icmp .ge 23, 3), (9, .aload_n 0, 1), (10, .getfield 15, 3), (13, .aload_n 0, 1), (14, .getfield 31, 3), (17, .iload_n 1, 1), (18, .iastore, 1), (19, .aload_n 0, 1), (20, .dup, 1), (21, .getfield 31, 3), (24, .iconst 1, 1), (25, .iadd, 1), (26, .putfield 31, 3), (29, .return_, 1)]
def Y_Reader_pushOperand : ax_Y := (⟨"MethodWarden$Reader", "pushOperand", "(I)V"⟩, prog_8_method_18_code, 2, none, tb_Reader_pushOperand)
theorem yok_Reader_pushOperand : yOK Y_Reader_pushOperand := ⟨by decide +kernel, by decide +kernel, inWG 614 (by decide +kernel) (by decide +kernel), inWG 98 (by decide +kernel) (by decide +kernel), by decide +kernel⟩
theorem fl_Reader_31 : fldOK "MethodWarden$Reader" 31 2 3 false := ⟨_, _, _, cls_Reader, by decide, by decide, rfl, Or.inl (inWG 160 (by decide +kernel) (by decide +kernel))⟩
theorem fl_Reader_15 : fldOK "MethodWarden$Reader" 15 2 2 true := ⟨_, _, _, cls_Reader, by decide, by decide, rfl, Or.inl (inWG 159 (by decide +kernel) (by decide +kernel))⟩
def f_Reader_pushOperand (a1 : Int32) (M : ax_M) : Option (Unit × ax_M) :=
  if 20 ≤ (gI M 5 3) then (some ((), M)) else (gi (gI M 5 3) 20 (kM (mI M 7 (gI M 5 3).toNatClampNeg a1) (fun M3 => kM (mI M3 5 3 ((gI M3 5 3) + 1)) (fun M4 => some ((), M4)))))
set_option maxHeartbeats 4000000 in
set_option maxRecDepth 100000 in
theorem c_Reader_pushOperand {l : Launch} {g : ax_G} {a1 : Int32} {M : ax_M} {r : Unit} {M' : ax_M} (h : f_Reader_pushOperand a1 M = some (r, M')) : Ctr l g true Y_Reader_pushOperand 1 [vA 5, vI a1] M (none, M') := by
  refine Ctr.ofAW yok_Reader_pushOperand (Nat.le_of_ble_eq_true rfl) (Or.inl rfl) ?_
  show AW l g true Y_Reader_pushOperand 1 (none, M') 0 [(0, vA 5), (1, vI a1)] [] M
  unfold f_Reader_pushOperand at h
  refine A_aload_n 0 rfl rfl rfl ?_
  refine A_getI rfl fl_Reader_31 rfl (by decide) (Or.inl rfl) ?_
  refine A_bipush (v := 20) rfl (by decide) ?_
  refine A_icmp_ge (tgt := 29) rfl (by decide) (fun hc1 => ?_) (fun hc1 => ?_)
  · rw [if_pos hc1] at h
    obtain ⟨rfl, rfl⟩ := leaf h
    exact A_vret rfl rfl
  · rw [if_neg hc1] at h
    refine A_pc (pc' := 9) rfl ?_
    refine A_aload_n 0 rfl rfl rfl ?_
    refine A_getL (r := 7) rfl fl_Reader_15 rfl (by decide) rfl rfl ?_
    refine A_aload_n 0 rfl rfl rfl ?_
    refine A_getI rfl fl_Reader_31 rfl (by decide) (Or.inl rfl) ?_
    refine A_iload_n 1 rfl rfl rfl ?_
    refine A_pc (pc' := 18) rfl ?_
    obtain ⟨hg2, h⟩ := gi_out h
    refine A_iast (n := 20) rfl (by decide) (by decide) (Or.inl rfl) hg2 ?_
    obtain ⟨M3, hM3, h⟩ := kM_out h
    refine A_mem hM3 ?_
    refine A_aload_n 0 rfl rfl rfl ?_
    refine A_dup rfl rfl ?_
    refine A_getI rfl fl_Reader_31 rfl (by decide) (Or.inl rfl) ?_
    refine A_iconst (v := 1) rfl (by decide) ?_
    refine A_iadd rfl ?_
    refine A_pc (pc' := 26) rfl ?_
    refine A_putI rfl (Or.inl fl_Reader_31) rfl (by decide) (Or.inl rfl) rfl ?_
    obtain ⟨M4, hM4, h⟩ := kM_out h
    refine A_mem hM4 ?_
    obtain ⟨rfl, rfl⟩ := leaf h
    exact A_vret rfl rfl
def tb_Reader_popOperand : List (Nat × Instr × Nat) := [(0, .aload_n 0, 1), (1, .getfield 31, 3), (4, .ifCond .gt 5, 3), (7, .iconst (-1), 1), (8, .ireturn, 1), (9, .aload_n 0, 1), (10, .dup, 1), (11, .getfield 31, 3), (14, .iconst 1, 1), (15, .isub, 1), (16, .putfield 31, 3), (19, .aload_n 0, 1), (20, .getfield 15, 3), (23, .aload_n 0, 1), (24, .getfield 31, 3), (27, .iaload, 1), (28, .ireturn, 1)]
def Y_Reader_popOperand : ax_Y := (⟨"MethodWarden$Reader", "popOperand", "()I"⟩, prog_8_method_19_code, 1, some .int, tb_Reader_popOperand)
theorem yok_Reader_popOperand : yOK Y_Reader_popOperand := ⟨by decide +kernel, by decide +kernel, inWG 603 (by decide +kernel) (by decide +kernel), inWG 98 (by decide +kernel) (by decide +kernel), by decide +kernel⟩
def f_Reader_popOperand  (M : ax_M) : Option (Int32 × ax_M) :=
  if 0 < (gI M 5 3) then (kM (mI M 5 3 ((gI M 5 3) - 1)) (fun M2 => gi (gI M2 5 3) 20 (some (gI M2 7 (gI M2 5 3).toNatClampNeg, M2)))) else (some ((-1), M))
set_option maxHeartbeats 4000000 in
set_option maxRecDepth 100000 in
theorem c_Reader_popOperand {l : Launch} {g : ax_G}  {M : ax_M} {r : Int32} {M' : ax_M} (h : f_Reader_popOperand  M = some (r, M')) : Ctr l g true Y_Reader_popOperand 1 [vA 5] M (some (vI r), M') := by
  refine Ctr.ofAW yok_Reader_popOperand (Nat.le_of_ble_eq_true rfl) (Or.inl rfl) ?_
  show AW l g true Y_Reader_popOperand 1 (some (vI r), M') 0 [(0, vA 5)] [] M
  unfold f_Reader_popOperand at h
  refine A_aload_n 0 rfl rfl rfl ?_
  refine A_getI rfl fl_Reader_31 rfl (by decide) (Or.inl rfl) ?_
  refine A_if_gt (tgt := 9) rfl (by decide) (fun hc1 => ?_) (fun hc1 => ?_)
  · rw [if_pos hc1] at h
    refine A_aload_n 0 rfl rfl rfl ?_
    refine A_dup rfl rfl ?_
    refine A_getI rfl fl_Reader_31 rfl (by decide) (Or.inl rfl) ?_
    refine A_iconst (v := 1) rfl (by decide) ?_
    refine A_isub rfl ?_
    refine A_pc (pc' := 16) rfl ?_
    refine A_putI rfl (Or.inl fl_Reader_31) rfl (by decide) (Or.inl rfl) rfl ?_
    obtain ⟨M2, hM2, h⟩ := kM_out h
    refine A_mem hM2 ?_
    refine A_aload_n 0 rfl rfl rfl ?_
    refine A_getL (r := 7) rfl fl_Reader_15 rfl (by decide) rfl rfl ?_
    refine A_aload_n 0 rfl rfl rfl ?_
    refine A_getI rfl fl_Reader_31 rfl (by decide) (Or.inl rfl) ?_
    obtain ⟨hg3, h⟩ := gi_out h
    refine A_iald (n := 20) rfl (by decide) (by decide) (Or.inl rfl) hg3 ?_
    refine A_pc (pc' := 28) rfl ?_
    obtain ⟨rfl, rfl⟩ := leaf h
    exact A_iret rfl rfl
  · rw [if_neg hc1] at h
    refine A_pc (pc' := 7) rfl ?_
    refine A_iconst (v := (-1)) rfl (by decide) ?_
    obtain ⟨rfl, rfl⟩ := leaf h
    exact A_iret rfl rfl
def tb_Reader_join : List (Nat × Instr × Nat) := [(0, .iload_n 1, 1), (1, .bipush 42, 2), (3, .if_icmp .ne 10, 3), (6, .aload_n 0, 1), (7, .invokevirtual 136, 3), (10, .goto 4, 3), (13, .iconst (-1), 1), (14, .istore_n 2, 1), (15, .iload_n 1, 1), (16, .invokestatic 139, 3), (19, .ifCond .eq 7, 3), (22, .iconst (-1), 1), (23, .goto 7, 3), (26, .aload_n 0, 1), (27, .invokevirtual 136, 3), (30, .istore_n 3, 1), (31, .aload_n 0, 1), (32, .invokevirtual 136, 3), (35, .istore 4, 2), (37, .aload_n 0, 1), (38, .aload_n 0, 1), (39, .getfield 23, 3), (42, .iload_n 1, 1), (43, .iload 4, 2), (45, .iload_n 3, 1), (46, .iload_n 2, 1), (47, .invokevirtual 142, 3), (50, .invokevirtual 104, 3), (53, .return_, 1)]
def Y_Reader_join : ax_Y := (⟨"MethodWarden$Reader", "join", "(I)V"⟩, prog_8_method_17_code, 5, none, tb_Reader_join)
theorem yok_Reader_join : yOK Y_Reader_join := ⟨by decide +kernel, by decide +kernel, inWG 599 (by decide +kernel) (by decide +kernel), inWG 98 (by decide +kernel) (by decide +kernel), by decide +kernel⟩
theorem fl_Reader_23 : fldOK "MethodWarden$Reader" 23 2 7 false := ⟨_, _, _, cls_Reader, by decide, by decide, rfl, Or.inl (inWG 164 (by decide +kernel) (by decide +kernel))⟩
theorem ml_Reader_139 : mlS "MethodWarden$Reader" 139 Y_Tok_isOfOne 1 := ⟨⟨yok_Tok_isOfOne, by decide +kernel, by decide⟩, Or.inl (inWG 604 (by decide +kernel) (by decide +kernel)), inWG 605 (by decide +kernel) (by decide +kernel)⟩
theorem ml_Reader_136 : mlV "MethodWarden$Reader" 136 Y_Reader_popOperand 0 := ⟨⟨yok_Reader_popOperand, by decide +kernel, by decide⟩, Or.inl (inWG 600 (by decide +kernel) (by decide +kernel)), inWG 602 (by decide +kernel) (by decide +kernel), inWG 13 (by decide +kernel) (by decide +kernel)⟩
theorem ml_Reader_142 : mlV "MethodWarden$Reader" 142 Y_Expr_appendPart 4 := ⟨⟨yok_Expr_appendPart, by decide +kernel, by decide⟩, Or.inl (inWG 607 (by decide +kernel) (by decide +kernel)), inWG 608 (by decide +kernel) (by decide +kernel), inWG 609 (by decide +kernel) (by decide +kernel)⟩
theorem ml_Reader_104 : mlV "MethodWarden$Reader" 104 Y_Reader_pushOperand 1 := ⟨⟨yok_Reader_pushOperand, by decide +kernel, by decide⟩, Or.inl (inWG 611 (by decide +kernel) (by decide +kernel)), inWG 613 (by decide +kernel) (by decide +kernel), inWG 14 (by decide +kernel) (by decide +kernel)⟩
def f_Reader_join_14 (l1 : Int32) (s0 : Int32) (M : ax_M) : Option (Unit × ax_M) :=
  bnd (f_Tok_isOfOne l1 M) (fun q2 M3 => if q2 = 0 then (bnd (f_Reader_popOperand  M3) (fun q5 M6 => bnd (f_Reader_popOperand  M6) (fun q7 M8 => kM (gA M8 5 7) (fun r9 => gk r9 3 (bnd (f_Expr_appendPart r9 l1 q7 q5 s0 M8) (fun q11 M12 => bnd (f_Reader_pushOperand q11 M12) (fun q13 M14 => some ((), M14)))))))) else (bnd (f_Reader_popOperand  M3) (fun q15 M16 => kM (gA M16 5 7) (fun r17 => gk r17 3 (bnd (f_Expr_appendPart r17 l1 q15 ((-1)) s0 M16) (fun q19 M20 => bnd (f_Reader_pushOperand q19 M20) (fun q21 M22 => some ((), M22))))))))
set_option maxHeartbeats 4000000 in
set_option maxRecDepth 100000 in
theorem o_Reader_join_14 {l : Launch} {g : ax_G} (l1 : Int32) (s0 : Int32) (M : ax_M) (r : Unit) (M' : ax_M) (h : f_Reader_join_14  l1 s0 M = some (r, M')) : AW l g true Y_Reader_join 2 (none, M') 14 [(0, vA 5), (1, vI l1)] [vI s0] M := by
  unfold f_Reader_join_14 at h
  refine A_istore_n (Ls' := [(2, vI s0), (0, vA 5), (1, vI l1)]) rfl rfl (by decide) rfl ?_
  refine A_iload_n 2 rfl rfl rfl ?_
  obtain ⟨q2, M3, hcq2, h⟩ := bnd_out h
  refine A_callS (as := [vI l1]) (st' := []) (r1 := (some (vI q2), M3)) rfl ml_Reader_139 rfl rfl (Nat.le_of_ble_eq_true rfl) (by decide) (c_Tok_isOfOne hcq2) (Or.inl rfl) ?_
  refine A_pc (pc' := 19) rfl ?_
  refine A_stk (st' := [vI q2]) rfl ?_
  refine A_if_eq (tgt := 26) rfl (by decide) (fun hc4 => ?_) (fun hc4 => ?_)
  · rw [if_pos hc4] at h
    refine A_aload_n 1 rfl rfl rfl ?_
    obtain ⟨q5, M6, hcq5, h⟩ := bnd_out h
    refine A_callV (as := []) (st' := []) (r1 := (some (vI q5), M6)) rfl ml_Reader_136 rfl (by decide) (by decide) (Or.inl rfl) rfl rfl (Nat.le_of_ble_eq_true rfl) (by decide) (c_Reader_popOperand hcq5) (Or.inl rfl) ?_
    refine A_pc (pc' := 30) rfl ?_
    refine A_stk (st' := [vI q5]) rfl ?_
    refine A_istore_n (Ls' := [(3, vI q5), (2, vI s0), (0, vA 5), (1, vI l1)]) rfl rfl (by decide) rfl ?_
    refine A_aload_n 2 rfl rfl rfl ?_
    obtain ⟨q7, M8, hcq7, h⟩ := bnd_out h
    refine A_callV (as := []) (st' := []) (r1 := (some (vI q7), M8)) rfl ml_Reader_136 rfl (by decide) (by decide) (Or.inl rfl) rfl rfl (Nat.le_of_ble_eq_true rfl) (by decide) (c_Reader_popOperand hcq7) (Or.inl rfl) ?_
    refine A_pc (pc' := 35) rfl ?_
    refine A_stk (st' := [vI q7]) rfl ?_
    refine A_pc (pc' := 35) rfl ?_
    refine A_istore (Ls' := [(4, vI q7), (3, vI q5), (2, vI s0), (0, vA 5), (1, vI l1)]) rfl (by decide) rfl ?_
    refine A_aload_n 3 rfl rfl rfl ?_
    refine A_aload_n 3 rfl rfl rfl ?_
    refine A_getA rfl fl_Reader_23 rfl (by decide) (Or.inl rfl) ?_
    obtain ⟨r9, hr9, h⟩ := kM_out h
    refine A_nA hr9 ?_
    refine A_iload_n 4 rfl rfl rfl ?_
    refine A_iload 0 rfl rfl ?_
    refine A_pc (pc' := 45) rfl ?_
    refine A_iload_n 1 rfl rfl rfl ?_
    refine A_iload_n 2 rfl rfl rfl ?_
    obtain ⟨hg10, h⟩ := gk_out h
    obtain ⟨q11, M12, hcq11, h⟩ := bnd_out h
    refine A_callV (as := [vI l1, vI q7, vI q5, vI s0]) (st' := [vA 5]) (r1 := (some (vI q11), M12)) rfl ml_Reader_142 rfl (by decide) hg10 (Or.inl rfl) rfl rfl (Nat.le_of_ble_eq_true rfl) (by decide) (c_Expr_appendPart hcq11) (Or.inl rfl) ?_
    refine A_pc (pc' := 50) rfl ?_
    refine A_stk (st' := [vI q11, vA 5]) rfl ?_
    obtain ⟨q13, M14, hcq13, h⟩ := bnd_out h
    refine A_callV (as := [vI q11]) (st' := []) (r1 := (none, M14)) rfl ml_Reader_104 rfl (by decide) (by decide) (Or.inl rfl) rfl rfl (Nat.le_of_ble_eq_true rfl) (by decide) (c_Reader_pushOperand hcq13) (Or.inl rfl) ?_
    refine A_pc (pc' := 53) rfl ?_
    refine A_stk (st' := []) rfl ?_
    obtain ⟨rfl, rfl⟩ := leaf h
    exact A_vret rfl rfl
  · rw [if_neg hc4] at h
    refine A_pc (pc' := 22) rfl ?_
    refine A_iconst (v := (-1)) rfl (by decide) ?_
    refine A_goto (tgt := 30) rfl (by decide) ?_
    refine A_istore_n (Ls' := [(3, vI ((-1))), (2, vI s0), (0, vA 5), (1, vI l1)]) rfl rfl (by decide) rfl ?_
    refine A_aload_n 2 rfl rfl rfl ?_
    obtain ⟨q15, M16, hcq15, h⟩ := bnd_out h
    refine A_callV (as := []) (st' := []) (r1 := (some (vI q15), M16)) rfl ml_Reader_136 rfl (by decide) (by decide) (Or.inl rfl) rfl rfl (Nat.le_of_ble_eq_true rfl) (by decide) (c_Reader_popOperand hcq15) (Or.inl rfl) ?_
    refine A_pc (pc' := 35) rfl ?_
    refine A_stk (st' := [vI q15]) rfl ?_
    refine A_pc (pc' := 35) rfl ?_
    refine A_istore (Ls' := [(4, vI q15), (3, vI ((-1))), (2, vI s0), (0, vA 5), (1, vI l1)]) rfl (by decide) rfl ?_
    refine A_aload_n 3 rfl rfl rfl ?_
    refine A_aload_n 3 rfl rfl rfl ?_
    refine A_getA rfl fl_Reader_23 rfl (by decide) (Or.inl rfl) ?_
    obtain ⟨r17, hr17, h⟩ := kM_out h
    refine A_nA hr17 ?_
    refine A_iload_n 4 rfl rfl rfl ?_
    refine A_iload 0 rfl rfl ?_
    refine A_pc (pc' := 45) rfl ?_
    refine A_iload_n 1 rfl rfl rfl ?_
    refine A_iload_n 2 rfl rfl rfl ?_
    obtain ⟨hg18, h⟩ := gk_out h
    obtain ⟨q19, M20, hcq19, h⟩ := bnd_out h
    refine A_callV (as := [vI l1, vI q15, vI ((-1)), vI s0]) (st' := [vA 5]) (r1 := (some (vI q19), M20)) rfl ml_Reader_142 rfl (by decide) hg18 (Or.inl rfl) rfl rfl (Nat.le_of_ble_eq_true rfl) (by decide) (c_Expr_appendPart hcq19) (Or.inl rfl) ?_
    refine A_pc (pc' := 50) rfl ?_
    refine A_stk (st' := [vI q19, vA 5]) rfl ?_
    obtain ⟨q21, M22, hcq21, h⟩ := bnd_out h
    refine A_callV (as := [vI q19]) (st' := []) (r1 := (none, M22)) rfl ml_Reader_104 rfl (by decide) (by decide) (Or.inl rfl) rfl rfl (Nat.le_of_ble_eq_true rfl) (by decide) (c_Reader_pushOperand hcq21) (Or.inl rfl) ?_
    refine A_pc (pc' := 53) rfl ?_
    refine A_stk (st' := []) rfl ?_
    obtain ⟨rfl, rfl⟩ := leaf h
    exact A_vret rfl rfl
def f_Reader_join (a1 : Int32) (M : ax_M) : Option (Unit × ax_M) :=
  if a1 = 42 then (bnd (f_Reader_popOperand  M) (fun q23 M24 => f_Reader_join_14 a1 q23 M24)) else (f_Reader_join_14 a1 ((-1)) M)
set_option maxHeartbeats 4000000 in
set_option maxRecDepth 100000 in
theorem c_Reader_join {l : Launch} {g : ax_G} {a1 : Int32} {M : ax_M} {r : Unit} {M' : ax_M} (h : f_Reader_join a1 M = some (r, M')) : Ctr l g true Y_Reader_join 2 [vA 5, vI a1] M (none, M') := by
  refine Ctr.ofAW yok_Reader_join (Nat.le_of_ble_eq_true rfl) (Or.inl rfl) ?_
  show AW l g true Y_Reader_join 2 (none, M') 0 [(0, vA 5), (1, vI a1)] [] M
  unfold f_Reader_join at h
  refine A_iload_n 1 rfl rfl rfl ?_
  refine A_bipush (v := 42) rfl (by decide) ?_
  refine A_icmp_ne (tgt := 13) rfl (by decide) (fun hc1 => ?_) (fun hc1 => ?_)
  · rw [if_neg hc1] at h
    refine A_iconst (v := (-1)) rfl (by decide) ?_
    refine A_pc (pc' := 14) rfl ?_
    refine A_sub (Ls' := [(0, vA 5), (1, vI a1)]) [0, 1] rfl ?_
    exact o_Reader_join_14  _ _ _ _ _ h
  · rw [if_pos hc1] at h
    refine A_pc (pc' := 6) rfl ?_
    refine A_aload_n 0 rfl rfl rfl ?_
    obtain ⟨q23, M24, hcq23, h⟩ := bnd_out h
    refine A_callV (as := []) (st' := []) (r1 := (some (vI q23), M24)) rfl ml_Reader_136 rfl (by decide) (by decide) (Or.inl rfl) rfl rfl (Nat.le_of_ble_eq_true rfl) (by decide) (c_Reader_popOperand hcq23) (Or.inl rfl) ?_
    refine A_pc (pc' := 10) rfl ?_
    refine A_stk (st' := [vI q23]) rfl ?_
    refine A_goto (tgt := 14) rfl (by decide) ?_
    refine A_pc (pc' := 14) rfl ?_
    refine A_sub (Ls' := [(0, vA 5), (1, vI a1)]) [0, 1] rfl ?_
    exact o_Reader_join_14  _ _ _ _ _ h
def tb_Reader_joinDownTo : List (Nat × Instr × Nat) := [(0, .aload_n 0, 1), (1, .getfield 27, 3), (4, .ifCond .le 47, 3), (7, .aload_n 0, 1), (8, .getfield 9, 3), (11, .aload_n 0, 1), (12, .getfield 27, 3), (15, .iconst 1, 1), (16, .isub, 1), (17, .iaload, 1), (18, .invokestatic 122, 3), (21, .iload_n 1, 1), (22, .if_icmp .lt 29, 3), (25, .aload_n 0, 1), (26, .dup, 1), (27, .getfield 27, 3), (30, .iconst 1, 1), (31, .isub, 1), (32, .putfield 27, 3), (35, .aload_n 0, 1), (36, .aload_n 0, 1), (37, .getfield 9, 3), (40, .aload_n 0, 1), (41, .getfield 27, 3), (44, .iaload, 1), (45, .invokevirtual 133, 3), (48, .goto (-48), 3), (51, .return_, 1)]
def Y_Reader_joinDownTo : ax_Y := (⟨"MethodWarden$Reader", "joinDownTo", "(I)V"⟩, prog_8_method_15_code, 2, none, tb_Reader_joinDownTo)
theorem yok_Reader_joinDownTo : yOK Y_Reader_joinDownTo := ⟨by decide +kernel, by decide +kernel, inWG 592 (by decide +kernel) (by decide +kernel), inWG 98 (by decide +kernel) (by decide +kernel), by decide +kernel⟩
theorem fl_Reader_27 : fldOK "MethodWarden$Reader" 27 2 1 false := ⟨_, _, _, cls_Reader, by decide, by decide, rfl, Or.inl (inWG 158 (by decide +kernel) (by decide +kernel))⟩
theorem fl_Reader_9 : fldOK "MethodWarden$Reader" 9 2 0 true := ⟨_, _, _, cls_Reader, by decide, by decide, rfl, Or.inl (inWG 157 (by decide +kernel) (by decide +kernel))⟩
theorem ml_Reader_122 : mlS "MethodWarden$Reader" 122 Y_Tok_rankOf 1 := ⟨⟨yok_Tok_rankOf, by decide +kernel, by decide⟩, Or.inl (inWG 593 (by decide +kernel) (by decide +kernel)), inWG 594 (by decide +kernel) (by decide +kernel)⟩
theorem ml_Reader_133 : mlV "MethodWarden$Reader" 133 Y_Reader_join 1 := ⟨⟨yok_Reader_join, by decide +kernel, by decide⟩, Or.inl (inWG 596 (by decide +kernel) (by decide +kernel)), inWG 598 (by decide +kernel) (by decide +kernel), inWG 12 (by decide +kernel) (by decide +kernel)⟩
def f_Reader_joinDownTo_0_b (K0 : Int32 → ax_M → Option (Unit × ax_M)) (l1 : Int32) (M : ax_M) : Option (Unit × ax_M) :=
  if (gI M 5 1) ≤ 0 then (some ((), M)) else (gi ((gI M 5 1) - 1) 48 (bnd (f_Tok_rankOf (gI M 6 ((gI M 5 1) - 1).toNatClampNeg) M) (fun q12 M13 => if q12 < l1 then (some ((), M13)) else (kM (mI M13 5 1 ((gI M13 5 1) - 1)) (fun M15 => gi (gI M15 5 1) 48 (bnd (f_Reader_join (gI M15 6 (gI M15 5 1).toNatClampNeg) M15) (fun q17 M18 => K0 l1 M18)))))))
def f_Reader_joinDownTo_0 : Nat → Int32 → ax_M → Option (Unit × ax_M)
  | 0, _, _ => none
  | n + 1, l1, M => f_Reader_joinDownTo_0_b  (f_Reader_joinDownTo_0 n) l1 M
set_option maxHeartbeats 4000000 in
set_option maxRecDepth 100000 in
theorem o_Reader_joinDownTo_0_b {l : Launch} {g : ax_G} (K0 : Int32 → ax_M → Option (Unit × ax_M)) (hK0 : ∀ (l1 : Int32) (M : ax_M) (r : Unit) (M' : ax_M), K0 l1 M = some (r, M') → AW l g true Y_Reader_joinDownTo 3 (none, M') 0 [(0, vA 5), (1, vI l1)] [] M) (l1 : Int32) (M : ax_M) (r : Unit) (M' : ax_M) (h : f_Reader_joinDownTo_0_b  K0 l1 M = some (r, M')) : AW l g true Y_Reader_joinDownTo 3 (none, M') 0 [(0, vA 5), (1, vI l1)] [] M := by
  unfold f_Reader_joinDownTo_0_b at h
  refine A_aload_n 0 rfl rfl rfl ?_
  refine A_getI rfl fl_Reader_27 rfl (by decide) (Or.inl rfl) ?_
  refine A_if_le (tgt := 51) rfl (by decide) (fun hc10 => ?_) (fun hc10 => ?_)
  · rw [if_pos hc10] at h
    obtain ⟨rfl, rfl⟩ := leaf h
    exact A_vret rfl rfl
  · rw [if_neg hc10] at h
    refine A_pc (pc' := 7) rfl ?_
    refine A_aload_n 0 rfl rfl rfl ?_
    refine A_getL (r := 6) rfl fl_Reader_9 rfl (by decide) rfl rfl ?_
    refine A_aload_n 0 rfl rfl rfl ?_
    refine A_getI rfl fl_Reader_27 rfl (by decide) (Or.inl rfl) ?_
    refine A_iconst (v := 1) rfl (by decide) ?_
    refine A_pc (pc' := 16) rfl ?_
    refine A_isub rfl ?_
    obtain ⟨hg11, h⟩ := gi_out h
    refine A_iald (n := 48) rfl (by decide) (by decide) (Or.inl rfl) hg11 ?_
    obtain ⟨q12, M13, hcq12, h⟩ := bnd_out h
    refine A_callS (as := [vI (gI M 6 ((gI M 5 1) - 1).toNatClampNeg)]) (st' := []) (r1 := (some (vI q12), M13)) rfl ml_Reader_122 rfl rfl (Nat.le_of_ble_eq_true rfl) (by decide) (c_Tok_rankOf hcq12) (Or.inl rfl) ?_
    refine A_pc (pc' := 21) rfl ?_
    refine A_stk (st' := [vI q12]) rfl ?_
    refine A_iload_n 1 rfl rfl rfl ?_
    refine A_icmp_lt (tgt := 51) rfl (by decide) (fun hc14 => ?_) (fun hc14 => ?_)
    · rw [if_pos hc14] at h
      obtain ⟨rfl, rfl⟩ := leaf h
      exact A_vret rfl rfl
    · rw [if_neg hc14] at h
      refine A_pc (pc' := 25) rfl ?_
      refine A_aload_n 0 rfl rfl rfl ?_
      refine A_dup rfl rfl ?_
      refine A_getI rfl fl_Reader_27 rfl (by decide) (Or.inl rfl) ?_
      refine A_iconst (v := 1) rfl (by decide) ?_
      refine A_isub rfl ?_
      refine A_pc (pc' := 32) rfl ?_
      refine A_putI rfl (Or.inl fl_Reader_27) rfl (by decide) (Or.inl rfl) rfl ?_
      obtain ⟨M15, hM15, h⟩ := kM_out h
      refine A_mem hM15 ?_
      refine A_aload_n 0 rfl rfl rfl ?_
      refine A_aload_n 0 rfl rfl rfl ?_
      refine A_getL (r := 6) rfl fl_Reader_9 rfl (by decide) rfl rfl ?_
      refine A_aload_n 0 rfl rfl rfl ?_
      refine A_getI rfl fl_Reader_27 rfl (by decide) (Or.inl rfl) ?_
      refine A_pc (pc' := 44) rfl ?_
      obtain ⟨hg16, h⟩ := gi_out h
      refine A_iald (n := 48) rfl (by decide) (by decide) (Or.inl rfl) hg16 ?_
      obtain ⟨q17, M18, hcq17, h⟩ := bnd_out h
      refine A_callV (as := [vI (gI M15 6 (gI M15 5 1).toNatClampNeg)]) (st' := []) (r1 := (none, M18)) rfl ml_Reader_133 rfl (by decide) (by decide) (Or.inl rfl) rfl rfl (Nat.le_of_ble_eq_true rfl) (by decide) (c_Reader_join hcq17) (Or.inl rfl) ?_
      refine A_pc (pc' := 48) rfl ?_
      refine A_stk (st' := []) rfl ?_
      refine A_goto (tgt := 0) rfl (by decide) ?_
      refine A_pc (pc' := 0) rfl ?_
      refine A_sub (Ls' := [(0, vA 5), (1, vI l1)]) [0, 1] rfl ?_
      exact hK0 _ _ _ _ h
theorem o_Reader_joinDownTo_0 {l : Launch} {g : ax_G} : ∀ (n : Nat) (l1 : Int32) (M : ax_M) (r : Unit) (M' : ax_M), f_Reader_joinDownTo_0  n l1 M = some (r, M') → AW l g true Y_Reader_joinDownTo 3 (none, M') 0 [(0, vA 5), (1, vI l1)] [] M := by
  intro n
  induction n with
  | zero =>
    intro l1 M r M' h
    cases h
  | succ n ih =>
    intro l1 M r M' h
    exact o_Reader_joinDownTo_0_b  _ ih _ _ _ _ h
def f_Reader_joinDownTo (a1 : Int32) (M : ax_M) : Option (Unit × ax_M) :=
  if (gI M 5 1) ≤ 0 then (some ((), M)) else (gi ((gI M 5 1) - 1) 48 (bnd (f_Tok_rankOf (gI M 6 ((gI M 5 1) - 1).toNatClampNeg) M) (fun q3 M4 => if q3 < a1 then (some ((), M4)) else (kM (mI M4 5 1 ((gI M4 5 1) - 1)) (fun M6 => gi (gI M6 5 1) 48 (bnd (f_Reader_join (gI M6 6 (gI M6 5 1).toNatClampNeg) M6) (fun q8 M9 => f_Reader_joinDownTo_0 64 a1 M9)))))))
set_option maxHeartbeats 4000000 in
set_option maxRecDepth 100000 in
theorem c_Reader_joinDownTo {l : Launch} {g : ax_G} {a1 : Int32} {M : ax_M} {r : Unit} {M' : ax_M} (h : f_Reader_joinDownTo a1 M = some (r, M')) : Ctr l g true Y_Reader_joinDownTo 3 [vA 5, vI a1] M (none, M') := by
  refine Ctr.ofAW yok_Reader_joinDownTo (Nat.le_of_ble_eq_true rfl) (Or.inl rfl) ?_
  show AW l g true Y_Reader_joinDownTo 3 (none, M') 0 [(0, vA 5), (1, vI a1)] [] M
  unfold f_Reader_joinDownTo at h
  refine A_aload_n 0 rfl rfl rfl ?_
  refine A_getI rfl fl_Reader_27 rfl (by decide) (Or.inl rfl) ?_
  refine A_if_le (tgt := 51) rfl (by decide) (fun hc1 => ?_) (fun hc1 => ?_)
  · rw [if_pos hc1] at h
    obtain ⟨rfl, rfl⟩ := leaf h
    exact A_vret rfl rfl
  · rw [if_neg hc1] at h
    refine A_pc (pc' := 7) rfl ?_
    refine A_aload_n 0 rfl rfl rfl ?_
    refine A_getL (r := 6) rfl fl_Reader_9 rfl (by decide) rfl rfl ?_
    refine A_aload_n 0 rfl rfl rfl ?_
    refine A_getI rfl fl_Reader_27 rfl (by decide) (Or.inl rfl) ?_
    refine A_iconst (v := 1) rfl (by decide) ?_
    refine A_pc (pc' := 16) rfl ?_
    refine A_isub rfl ?_
    obtain ⟨hg2, h⟩ := gi_out h
    refine A_iald (n := 48) rfl (by decide) (by decide) (Or.inl rfl) hg2 ?_
    obtain ⟨q3, M4, hcq3, h⟩ := bnd_out h
    refine A_callS (as := [vI (gI M 6 ((gI M 5 1) - 1).toNatClampNeg)]) (st' := []) (r1 := (some (vI q3), M4)) rfl ml_Reader_122 rfl rfl (Nat.le_of_ble_eq_true rfl) (by decide) (c_Tok_rankOf hcq3) (Or.inl rfl) ?_
    refine A_pc (pc' := 21) rfl ?_
    refine A_stk (st' := [vI q3]) rfl ?_
    refine A_iload_n 1 rfl rfl rfl ?_
    refine A_icmp_lt (tgt := 51) rfl (by decide) (fun hc5 => ?_) (fun hc5 => ?_)
    · rw [if_pos hc5] at h
      obtain ⟨rfl, rfl⟩ := leaf h
      exact A_vret rfl rfl
    · rw [if_neg hc5] at h
      refine A_pc (pc' := 25) rfl ?_
      refine A_aload_n 0 rfl rfl rfl ?_
      refine A_dup rfl rfl ?_
      refine A_getI rfl fl_Reader_27 rfl (by decide) (Or.inl rfl) ?_
      refine A_iconst (v := 1) rfl (by decide) ?_
      refine A_isub rfl ?_
      refine A_pc (pc' := 32) rfl ?_
      refine A_putI rfl (Or.inl fl_Reader_27) rfl (by decide) (Or.inl rfl) rfl ?_
      obtain ⟨M6, hM6, h⟩ := kM_out h
      refine A_mem hM6 ?_
      refine A_aload_n 0 rfl rfl rfl ?_
      refine A_aload_n 0 rfl rfl rfl ?_
      refine A_getL (r := 6) rfl fl_Reader_9 rfl (by decide) rfl rfl ?_
      refine A_aload_n 0 rfl rfl rfl ?_
      refine A_getI rfl fl_Reader_27 rfl (by decide) (Or.inl rfl) ?_
      refine A_pc (pc' := 44) rfl ?_
      obtain ⟨hg7, h⟩ := gi_out h
      refine A_iald (n := 48) rfl (by decide) (by decide) (Or.inl rfl) hg7 ?_
      obtain ⟨q8, M9, hcq8, h⟩ := bnd_out h
      refine A_callV (as := [vI (gI M6 6 (gI M6 5 1).toNatClampNeg)]) (st' := []) (r1 := (none, M9)) rfl ml_Reader_133 rfl (by decide) (by decide) (Or.inl rfl) rfl rfl (Nat.le_of_ble_eq_true rfl) (by decide) (c_Reader_join hcq8) (Or.inl rfl) ?_
      refine A_pc (pc' := 48) rfl ?_
      refine A_stk (st' := []) rfl ?_
      refine A_goto (tgt := 0) rfl (by decide) ?_
      refine A_pc (pc' := 0) rfl ?_
      refine A_sub (Ls' := [(0, vA 5), (1, vI a1)]) [0, 1] rfl ?_
      exact o_Reader_joinDownTo_0  _ _ _ _ _ h
def tb_Reader_joinNow : List (Nat × Instr × Nat) := [(0, .aload_n 0, 1), (1, .iload_n 1, 1), (2, .invokevirtual 133, 3), (5, .aload_n 0, 1), (6, .iconst 1, 1), (7, .putfield 37, 3), (10, .iconst 1, 1), (11, .ireturn, 1)]
def Y_Reader_joinNow : ax_Y := (⟨"MethodWarden$Reader", "joinNow", "(I)Z"⟩, prog_8_method_16_code, 2, some .boolean, tb_Reader_joinNow)
theorem yok_Reader_joinNow : yOK Y_Reader_joinNow := ⟨by decide +kernel, by decide +kernel, inWG 645 (by decide +kernel) (by decide +kernel), inWG 98 (by decide +kernel) (by decide +kernel), by decide +kernel⟩
theorem fl_Reader_37 : fldOK "MethodWarden$Reader" 37 2 4 false := ⟨_, _, _, cls_Reader, by decide, by decide, rfl, Or.inl (inWG 161 (by decide +kernel) (by decide +kernel))⟩
def f_Reader_joinNow (a1 : Int32) (M : ax_M) : Option (Int32 × ax_M) :=
  bnd (f_Reader_join a1 M) (fun q1 M2 => kM (mI M2 5 4 1) (fun M3 => some (1, M3)))
set_option maxHeartbeats 4000000 in
set_option maxRecDepth 100000 in
theorem c_Reader_joinNow {l : Launch} {g : ax_G} {a1 : Int32} {M : ax_M} {r : Int32} {M' : ax_M} (h : f_Reader_joinNow a1 M = some (r, M')) : Ctr l g true Y_Reader_joinNow 3 [vA 5, vI a1] M (some (vI r), M') := by
  refine Ctr.ofAW yok_Reader_joinNow (Nat.le_of_ble_eq_true rfl) (Or.inl rfl) ?_
  show AW l g true Y_Reader_joinNow 3 (some (vI r), M') 0 [(0, vA 5), (1, vI a1)] [] M
  unfold f_Reader_joinNow at h
  refine A_aload_n 0 rfl rfl rfl ?_
  refine A_iload_n 1 rfl rfl rfl ?_
  obtain ⟨q1, M2, hcq1, h⟩ := bnd_out h
  refine A_callV (as := [vI a1]) (st' := []) (r1 := (none, M2)) rfl ml_Reader_133 rfl (by decide) (by decide) (Or.inl rfl) rfl rfl (Nat.le_of_ble_eq_true rfl) (by decide) (c_Reader_join hcq1) (Or.inl rfl) ?_
  refine A_pc (pc' := 5) rfl ?_
  refine A_stk (st' := []) rfl ?_
  refine A_aload_n 0 rfl rfl rfl ?_
  refine A_iconst (v := 1) rfl (by decide) ?_
  refine A_pc (pc' := 7) rfl ?_
  refine A_putI rfl (Or.inl fl_Reader_37) rfl (by decide) (Or.inl rfl) rfl ?_
  obtain ⟨M3, hM3, h⟩ := kM_out h
  refine A_mem hM3 ?_
  refine A_iconst (v := 1) rfl (by decide) ?_
  obtain ⟨rfl, rfl⟩ := leaf h
  exact A_zret rfl rfl (Or.inr rfl)
def tb_Reader_begin : List (Nat × Instr × Nat) := [(0, .aload_n 0, 1), (1, .getfield 27, 3), (4, .bipush 48, 2), (6, .if_icmp .lt 5, 3), (9, .iconst 0, 1), (10, .ireturn, 1), (11, .aload_n 0, 1), (12, .getfield 9, 3), (15, .aload_n 0, 1), (16, .getfield 27, 3), (19, .iload_n 1, 1), (20, .iastore, 1), (21, .aload_n 0, 1), (22, .dup, 1), (23, .getfield 27, 3), (26, .iconst 1, 1), (27, .iadd, 1), (28, .putfield 27, 3), (31, .aload_n 0, 1), (32, .iconst 0, 1), (33, .putfield 37, 3), (36, .iconst 1, 1), (37, .ireturn, 1)]
def Y_Reader_begin : ax_Y := (⟨"MethodWarden$Reader", "begin", "(I)Z"⟩, prog_8_method_13_code, 2, some .boolean, tb_Reader_begin)
theorem yok_Reader_begin : yOK Y_Reader_begin := ⟨by decide +kernel, by decide +kernel, inWG 629 (by decide +kernel) (by decide +kernel), inWG 98 (by decide +kernel) (by decide +kernel), by decide +kernel⟩
def f_Reader_begin (a1 : Int32) (M : ax_M) : Option (Int32 × ax_M) :=
  if (gI M 5 1) < 48 then (gi (gI M 5 1) 48 (kM (mI M 6 (gI M 5 1).toNatClampNeg a1) (fun M3 => kM (mI M3 5 1 ((gI M3 5 1) + 1)) (fun M4 => kM (mI M4 5 4 0) (fun M5 => some (1, M5)))))) else (some (0, M))
set_option maxHeartbeats 4000000 in
set_option maxRecDepth 100000 in
theorem c_Reader_begin {l : Launch} {g : ax_G} {a1 : Int32} {M : ax_M} {r : Int32} {M' : ax_M} (h : f_Reader_begin a1 M = some (r, M')) : Ctr l g true Y_Reader_begin 1 [vA 5, vI a1] M (some (vI r), M') := by
  refine Ctr.ofAW yok_Reader_begin (Nat.le_of_ble_eq_true rfl) (Or.inl rfl) ?_
  show AW l g true Y_Reader_begin 1 (some (vI r), M') 0 [(0, vA 5), (1, vI a1)] [] M
  unfold f_Reader_begin at h
  refine A_aload_n 0 rfl rfl rfl ?_
  refine A_getI rfl fl_Reader_27 rfl (by decide) (Or.inl rfl) ?_
  refine A_bipush (v := 48) rfl (by decide) ?_
  refine A_icmp_lt (tgt := 11) rfl (by decide) (fun hc1 => ?_) (fun hc1 => ?_)
  · rw [if_pos hc1] at h
    refine A_aload_n 0 rfl rfl rfl ?_
    refine A_getL (r := 6) rfl fl_Reader_9 rfl (by decide) rfl rfl ?_
    refine A_aload_n 0 rfl rfl rfl ?_
    refine A_getI rfl fl_Reader_27 rfl (by decide) (Or.inl rfl) ?_
    refine A_iload_n 1 rfl rfl rfl ?_
    refine A_pc (pc' := 20) rfl ?_
    obtain ⟨hg2, h⟩ := gi_out h
    refine A_iast (n := 48) rfl (by decide) (by decide) (Or.inl rfl) hg2 ?_
    obtain ⟨M3, hM3, h⟩ := kM_out h
    refine A_mem hM3 ?_
    refine A_aload_n 0 rfl rfl rfl ?_
    refine A_dup rfl rfl ?_
    refine A_getI rfl fl_Reader_27 rfl (by decide) (Or.inl rfl) ?_
    refine A_iconst (v := 1) rfl (by decide) ?_
    refine A_iadd rfl ?_
    refine A_pc (pc' := 28) rfl ?_
    refine A_putI rfl (Or.inl fl_Reader_27) rfl (by decide) (Or.inl rfl) rfl ?_
    obtain ⟨M4, hM4, h⟩ := kM_out h
    refine A_mem hM4 ?_
    refine A_aload_n 0 rfl rfl rfl ?_
    refine A_iconst (v := 0) rfl (by decide) ?_
    refine A_putI rfl (Or.inl fl_Reader_37) rfl (by decide) (Or.inl rfl) rfl ?_
    obtain ⟨M5, hM5, h⟩ := kM_out h
    refine A_mem hM5 ?_
    refine A_iconst (v := 1) rfl (by decide) ?_
    obtain ⟨rfl, rfl⟩ := leaf h
    exact A_zret rfl rfl (Or.inr rfl)
  · rw [if_neg hc1] at h
    refine A_pc (pc' := 9) rfl ?_
    refine A_iconst (v := 0) rfl (by decide) ?_
    obtain ⟨rfl, rfl⟩ := leaf h
    exact A_zret rfl rfl (Or.inl rfl)
def tb_Reader_innermost : List (Nat × Instr × Nat) := [(0, .aload_n 0, 1), (1, .getfield 27, 3), (4, .ifCond .le 17, 3), (7, .aload_n 0, 1), (8, .getfield 9, 3), (11, .aload_n 0, 1), (12, .getfield 27, 3), (15, .iconst 1, 1), (16, .isub, 1), (17, .iaload, 1), (18, .goto 4, 3), (21, .iconst 0, 1), (22, .ireturn, 1)]
def Y_Reader_innermost : ax_Y := (⟨"MethodWarden$Reader", "innermost", "()I"⟩, prog_8_method_14_code, 1, some .int, tb_Reader_innermost)
theorem yok_Reader_innermost : yOK Y_Reader_innermost := ⟨by decide +kernel, by decide +kernel, inWG 657 (by decide +kernel) (by decide +kernel), inWG 98 (by decide +kernel) (by decide +kernel), by decide +kernel⟩
def f_Reader_innermost  (M : ax_M) : Option (Int32 × ax_M) :=
  if (gI M 5 1) ≤ 0 then (some (0, M)) else (gi ((gI M 5 1) - 1) 48 (some (gI M 6 ((gI M 5 1) - 1).toNatClampNeg, M)))
set_option maxHeartbeats 4000000 in
set_option maxRecDepth 100000 in
theorem c_Reader_innermost {l : Launch} {g : ax_G}  {M : ax_M} {r : Int32} {M' : ax_M} (h : f_Reader_innermost  M = some (r, M')) : Ctr l g true Y_Reader_innermost 1 [vA 5] M (some (vI r), M') := by
  refine Ctr.ofAW yok_Reader_innermost (Nat.le_of_ble_eq_true rfl) (Or.inl rfl) ?_
  show AW l g true Y_Reader_innermost 1 (some (vI r), M') 0 [(0, vA 5)] [] M
  unfold f_Reader_innermost at h
  refine A_aload_n 0 rfl rfl rfl ?_
  refine A_getI rfl fl_Reader_27 rfl (by decide) (Or.inl rfl) ?_
  refine A_if_le (tgt := 21) rfl (by decide) (fun hc1 => ?_) (fun hc1 => ?_)
  · rw [if_pos hc1] at h
    refine A_iconst (v := 0) rfl (by decide) ?_
    obtain ⟨rfl, rfl⟩ := leaf h
    exact A_iret rfl rfl
  · rw [if_neg hc1] at h
    refine A_pc (pc' := 7) rfl ?_
    refine A_aload_n 0 rfl rfl rfl ?_
    refine A_getL (r := 6) rfl fl_Reader_9 rfl (by decide) rfl rfl ?_
    refine A_aload_n 0 rfl rfl rfl ?_
    refine A_getI rfl fl_Reader_27 rfl (by decide) (Or.inl rfl) ?_
    refine A_iconst (v := 1) rfl (by decide) ?_
    refine A_pc (pc' := 16) rfl ?_
    refine A_isub rfl ?_
    obtain ⟨hg2, h⟩ := gi_out h
    refine A_iald (n := 48) rfl (by decide) (by decide) (Or.inl rfl) hg2 ?_
    refine A_goto (tgt := 22) rfl (by decide) ?_
    obtain ⟨rfl, rfl⟩ := leaf h
    exact A_iret rfl rfl
def tb_Reader_isFinished : List (Nat × Instr × Nat) := [(0, .aload_n 0, 1), (1, .getfield 37, 3), (4, .iconst 1, 1), (5, .if_icmp .eq 5, 3), (8, .iconst 0, 1), (9, .ireturn, 1), (10, .aload_n 0, 1), (11, .iconst 1, 1), (12, .invokevirtual 71, 3), (15, .aload_n 0, 1), (16, .getfield 27, 3), (19, .ifCond .ne 7, 3), (22, .iconst 1, 1), (23, .goto 4, 3), (26, .iconst 0, 1), (27, .ireturn, 1)]
def Y_Reader_isFinished : ax_Y := (⟨"MethodWarden$Reader", "isFinished", "()Z"⟩, prog_8_method_3_code, 1, some .boolean, tb_Reader_isFinished)
theorem yok_Reader_isFinished : yOK Y_Reader_isFinished := ⟨by decide +kernel, by decide +kernel, inWG 588 (by decide +kernel) (by decide +kernel), inWG 98 (by decide +kernel) (by decide +kernel), by decide +kernel⟩
theorem ml_Reader_71 : mlV "MethodWarden$Reader" 71 Y_Reader_joinDownTo 1 := ⟨⟨yok_Reader_joinDownTo, by decide +kernel, by decide⟩, Or.inl (inWG 589 (by decide +kernel) (by decide +kernel)), inWG 591 (by decide +kernel) (by decide +kernel), inWG 11 (by decide +kernel) (by decide +kernel)⟩
def f_Reader_isFinished  (M : ax_M) : Option (Int32 × ax_M) :=
  if (gI M 5 4) = 1 then (bnd (f_Reader_joinDownTo 1 M) (fun q2 M3 => if (gI M3 5 1) = 0 then (some (1, M3)) else (some (0, M3)))) else (some (0, M))
set_option maxHeartbeats 4000000 in
set_option maxRecDepth 100000 in
theorem c_Reader_isFinished {l : Launch} {g : ax_G}  {M : ax_M} {r : Int32} {M' : ax_M} (h : f_Reader_isFinished  M = some (r, M')) : Ctr l g true Y_Reader_isFinished 4 [vA 5] M (some (vI r), M') := by
  refine Ctr.ofAW yok_Reader_isFinished (Nat.le_of_ble_eq_true rfl) (Or.inl rfl) ?_
  show AW l g true Y_Reader_isFinished 4 (some (vI r), M') 0 [(0, vA 5)] [] M
  unfold f_Reader_isFinished at h
  refine A_aload_n 0 rfl rfl rfl ?_
  refine A_getI rfl fl_Reader_37 rfl (by decide) (Or.inl rfl) ?_
  refine A_iconst (v := 1) rfl (by decide) ?_
  refine A_icmp_eq (tgt := 10) rfl (by decide) (fun hc1 => ?_) (fun hc1 => ?_)
  · rw [if_pos hc1] at h
    refine A_aload_n 0 rfl rfl rfl ?_
    refine A_iconst (v := 1) rfl (by decide) ?_
    obtain ⟨q2, M3, hcq2, h⟩ := bnd_out h
    refine A_callV (as := [vI 1]) (st' := []) (r1 := (none, M3)) rfl ml_Reader_71 rfl (by decide) (by decide) (Or.inl rfl) rfl rfl (Nat.le_of_ble_eq_true rfl) (by decide) (c_Reader_joinDownTo hcq2) (Or.inl rfl) ?_
    refine A_pc (pc' := 15) rfl ?_
    refine A_stk (st' := []) rfl ?_
    refine A_aload_n 0 rfl rfl rfl ?_
    refine A_getI rfl fl_Reader_27 rfl (by decide) (Or.inl rfl) ?_
    refine A_pc (pc' := 19) rfl ?_
    refine A_if_ne (tgt := 26) rfl (by decide) (fun hc4 => ?_) (fun hc4 => ?_)
    · rw [if_neg hc4] at h
      refine A_iconst (v := 0) rfl (by decide) ?_
      obtain ⟨rfl, rfl⟩ := leaf h
      exact A_zret rfl rfl (Or.inl rfl)
    · rw [if_pos hc4] at h
      refine A_pc (pc' := 22) rfl ?_
      refine A_iconst (v := 1) rfl (by decide) ?_
      refine A_goto (tgt := 27) rfl (by decide) ?_
      obtain ⟨rfl, rfl⟩ := leaf h
      exact A_zret rfl rfl (Or.inr rfl)
  · rw [if_neg hc1] at h
    refine A_pc (pc' := 8) rfl ?_
    refine A_iconst (v := 0) rfl (by decide) ?_
    obtain ⟨rfl, rfl⟩ := leaf h
    exact A_zret rfl rfl (Or.inl rfl)
def tb_Reader_takesLeaf : List (Nat × Instr × Nat) := [(0, .aload_n 0, 1), (1, .aload_n 0, 1), (2, .getfield 23, 3), (5, .iload_n 1, 1), (6, .lload_n 2, 1), (7, .invokevirtual 100, 3), (10, .invokevirtual 104, 3), (13, .aload_n 0, 1), (14, .iconst 1, 1), (15, .putfield 37, 3), (18, .iconst 1, 1), (19, .ireturn, 1)]
def Y_Reader_takesLeaf : ax_Y := (⟨"MethodWarden$Reader", "takesLeaf", "(IJ)Z"⟩, prog_8_method_6_code, 4, some .boolean, tb_Reader_takesLeaf)
theorem yok_Reader_takesLeaf : yOK Y_Reader_takesLeaf := ⟨by decide +kernel, by decide +kernel, inWG 636 (by decide +kernel) (by decide +kernel), inWG 98 (by decide +kernel) (by decide +kernel), by decide +kernel⟩
theorem ml_Reader_100 : mlV "MethodWarden$Reader" 100 Y_Expr_appendLeaf 2 := ⟨⟨yok_Expr_appendLeaf, by decide +kernel, by decide⟩, Or.inl (inWG 637 (by decide +kernel) (by decide +kernel)), inWG 638 (by decide +kernel) (by decide +kernel), inWG 639 (by decide +kernel) (by decide +kernel)⟩
def f_Reader_takesLeaf (a1 : Int32) (a2 : Int64) (M : ax_M) : Option (Int32 × ax_M) :=
  kM (gA M 5 7) (fun r1 => gk r1 3 (bnd (f_Expr_appendLeaf r1 a1 a2 M) (fun q3 M4 => bnd (f_Reader_pushOperand q3 M4) (fun q5 M6 => kM (mI M6 5 4 1) (fun M7 => some (1, M7))))))
set_option maxHeartbeats 4000000 in
set_option maxRecDepth 100000 in
theorem c_Reader_takesLeaf {l : Launch} {g : ax_G} {a1 : Int32} {a2 : Int64} {M : ax_M} {r : Int32} {M' : ax_M} (h : f_Reader_takesLeaf a1 a2 M = some (r, M')) : Ctr l g true Y_Reader_takesLeaf 3 [vA 5, vI a1, vJ a2] M (some (vI r), M') := by
  refine Ctr.ofAW yok_Reader_takesLeaf (Nat.le_of_ble_eq_true rfl) (Or.inl rfl) ?_
  show AW l g true Y_Reader_takesLeaf 3 (some (vI r), M') 0 [(0, vA 5), (1, vI a1), (2, vJ a2)] [] M
  unfold f_Reader_takesLeaf at h
  refine A_aload_n 0 rfl rfl rfl ?_
  refine A_aload_n 0 rfl rfl rfl ?_
  refine A_getA rfl fl_Reader_23 rfl (by decide) (Or.inl rfl) ?_
  obtain ⟨r1, hr1, h⟩ := kM_out h
  refine A_nA hr1 ?_
  refine A_iload_n 1 rfl rfl rfl ?_
  refine A_lload_n 2 rfl rfl rfl ?_
  refine A_pc (pc' := 7) rfl ?_
  obtain ⟨hg2, h⟩ := gk_out h
  obtain ⟨q3, M4, hcq3, h⟩ := bnd_out h
  refine A_callV (as := [vI a1, vJ a2]) (st' := [vA 5]) (r1 := (some (vI q3), M4)) rfl ml_Reader_100 rfl (by decide) hg2 (Or.inl rfl) rfl rfl (Nat.le_of_ble_eq_true rfl) (by decide) (c_Expr_appendLeaf hcq3) (Or.inl rfl) ?_
  refine A_pc (pc' := 10) rfl ?_
  refine A_stk (st' := [vI q3, vA 5]) rfl ?_
  obtain ⟨q5, M6, hcq5, h⟩ := bnd_out h
  refine A_callV (as := [vI q3]) (st' := []) (r1 := (none, M6)) rfl ml_Reader_104 rfl (by decide) (by decide) (Or.inl rfl) rfl rfl (Nat.le_of_ble_eq_true rfl) (by decide) (c_Reader_pushOperand hcq5) (Or.inl rfl) ?_
  refine A_pc (pc' := 13) rfl ?_
  refine A_stk (st' := []) rfl ?_
  refine A_aload_n 0 rfl rfl rfl ?_
  refine A_iconst (v := 1) rfl (by decide) ?_
  refine A_putI rfl (Or.inl fl_Reader_37) rfl (by decide) (Or.inl rfl) rfl ?_
  obtain ⟨M7, hM7, h⟩ := kM_out h
  refine A_mem hM7 ?_
  refine A_iconst (v := 1) rfl (by decide) ?_
  refine A_pc (pc' := 19) rfl ?_
  obtain ⟨rfl, rfl⟩ := leaf h
  exact A_zret rfl rfl (Or.inr rfl)
def tb_Reader_takesForValue : List (Nat × Instr × Nat) := [(0, .iload_n 1, 1), (1, .lookupswitch 71 #[(13, 64), (15, 43), (30, 50), (34, 57)], 43), (44, .aload_n 0, 1), (45, .bipush 15, 2), (47, .invokevirtual 82, 3), (50, .ireturn, 1), (51, .aload_n 0, 1), (52, .bipush 41, 2), (54, .invokevirtual 82, 3), (57, .ireturn, 1), (58, .aload_n 0, 1), (59, .bipush 34, 2), (61, .invokevirtual 82, 3), (64, .ireturn, 1), (65, .aload_n 0, 1), (66, .iconst 2, 1), (67, .putfield 37, 3), (70, .iconst 1, 1), (71, .ireturn, 1), (72, .iload_n 1, 1), (73, .invokestatic 94, 3), (76, .ifCond .eq 16, 3), (79, .aload_n 0, 1), (80, .iload_n 1, 1), (81, .lload_n 2, 1), (82, .invokevirtual 97, 3), (85, .ifCond .eq 7, 3), (88, .iconst 1, 1), (89, .goto 4, 3), (92, .iconst 0, 1), (93, .ireturn, 1)]
def Y_Reader_takesForValue : ax_Y := (⟨"MethodWarden$Reader", "takesForValue", "(IJ)Z"⟩, prog_8_method_5_code, 4, some .boolean, tb_Reader_takesForValue)
theorem yok_Reader_takesForValue : yOK Y_Reader_takesForValue := ⟨by decide +kernel, by decide +kernel, inWG 625 (by decide +kernel) (by decide +kernel), inWG 98 (by decide +kernel) (by decide +kernel), by decide +kernel⟩
theorem ml_Reader_82 : mlV "MethodWarden$Reader" 82 Y_Reader_begin 1 := ⟨⟨yok_Reader_begin, by decide +kernel, by decide⟩, Or.inl (inWG 626 (by decide +kernel) (by decide +kernel)), inWG 628 (by decide +kernel) (by decide +kernel), inWG 17 (by decide +kernel) (by decide +kernel)⟩
theorem ml_Reader_94 : mlS "MethodWarden$Reader" 94 Y_Tok_isLeaf 1 := ⟨⟨yok_Tok_isLeaf, by decide +kernel, by decide⟩, Or.inl (inWG 630 (by decide +kernel) (by decide +kernel)), inWG 631 (by decide +kernel) (by decide +kernel)⟩
theorem ml_Reader_97 : mlV "MethodWarden$Reader" 97 Y_Reader_takesLeaf 2 := ⟨⟨yok_Reader_takesLeaf, by decide +kernel, by decide⟩, Or.inl (inWG 633 (by decide +kernel) (by decide +kernel)), inWG 635 (by decide +kernel) (by decide +kernel), inWG 18 (by decide +kernel) (by decide +kernel)⟩
def f_Reader_takesForValue (a1 : Int32) (a2 : Int64) (M : ax_M) : Option (Int32 × ax_M) :=
  if a1 = 13 then (kM (mI M 5 4 2) (fun M2 => some (1, M2))) else (if a1 = 15 then (bnd (f_Reader_begin 15 M) (fun q4 M5 => g2 q4 (some (q4, M5)))) else (if a1 = 30 then (bnd (f_Reader_begin 41 M) (fun q8 M9 => g2 q8 (some (q8, M9)))) else (if a1 = 34 then (bnd (f_Reader_begin 34 M) (fun q12 M13 => g2 q12 (some (q12, M13)))) else (bnd (f_Tok_isLeaf a1 M) (fun q15 M16 => if q15 = 0 then (some (0, M16)) else (bnd (f_Reader_takesLeaf a1 a2 M16) (fun q18 M19 => if q18 = 0 then (some (0, M19)) else (some (1, M19)))))))))
set_option maxHeartbeats 4000000 in
set_option maxRecDepth 100000 in
theorem c_Reader_takesForValue {l : Launch} {g : ax_G} {a1 : Int32} {a2 : Int64} {M : ax_M} {r : Int32} {M' : ax_M} (h : f_Reader_takesForValue a1 a2 M = some (r, M')) : Ctr l g true Y_Reader_takesForValue 4 [vA 5, vI a1, vJ a2] M (some (vI r), M') := by
  refine Ctr.ofAW yok_Reader_takesForValue (Nat.le_of_ble_eq_true rfl) (Or.inl rfl) ?_
  show AW l g true Y_Reader_takesForValue 4 (some (vI r), M') 0 [(0, vA 5), (1, vI a1), (2, vJ a2)] [] M
  unfold f_Reader_takesForValue at h
  refine A_iload_n 1 rfl rfl rfl ?_
  by_cases hc1 : a1 = 13
  · rw [if_pos hc1] at h
    refine A_lookup (tgt := 65) (off := 64) rfl (by decide) (by rw [hc1]; decide) (by decide) ?_
    refine A_aload_n 0 rfl rfl rfl ?_
    refine A_iconst (v := 2) rfl (by decide) ?_
    refine A_putI rfl (Or.inl fl_Reader_37) rfl (by decide) (Or.inl rfl) rfl ?_
    obtain ⟨M2, hM2, h⟩ := kM_out h
    refine A_mem hM2 ?_
    refine A_iconst (v := 1) rfl (by decide) ?_
    obtain ⟨rfl, rfl⟩ := leaf h
    exact A_zret rfl rfl (Or.inr rfl)
  · rw [if_neg hc1] at h
    by_cases hc3 : a1 = 15
    · rw [if_pos hc3] at h
      refine A_lookup (tgt := 44) (off := 43) rfl (by decide) (by rw [hc3]; decide) (by decide) ?_
      refine A_aload_n 0 rfl rfl rfl ?_
      refine A_bipush (v := 15) rfl (by decide) ?_
      obtain ⟨q4, M5, hcq4, h⟩ := bnd_out h
      refine A_callV (as := [vI 15]) (st' := []) (r1 := (some (vI q4), M5)) rfl ml_Reader_82 rfl (by decide) (by decide) (Or.inl rfl) rfl rfl (Nat.le_of_ble_eq_true rfl) (by decide) (c_Reader_begin hcq4) (Or.inl rfl) ?_
      refine A_pc (pc' := 50) rfl ?_
      refine A_stk (st' := [vI q4]) rfl ?_
      obtain ⟨hg6, h⟩ := g2_out h
      obtain ⟨rfl, rfl⟩ := leaf h
      exact A_zret rfl rfl hg6
    · rw [if_neg hc3] at h
      by_cases hc7 : a1 = 30
      · rw [if_pos hc7] at h
        refine A_lookup (tgt := 51) (off := 50) rfl (by decide) (by rw [hc7]; decide) (by decide) ?_
        refine A_aload_n 0 rfl rfl rfl ?_
        refine A_bipush (v := 41) rfl (by decide) ?_
        obtain ⟨q8, M9, hcq8, h⟩ := bnd_out h
        refine A_callV (as := [vI 41]) (st' := []) (r1 := (some (vI q8), M9)) rfl ml_Reader_82 rfl (by decide) (by decide) (Or.inl rfl) rfl rfl (Nat.le_of_ble_eq_true rfl) (by decide) (c_Reader_begin hcq8) (Or.inl rfl) ?_
        refine A_pc (pc' := 57) rfl ?_
        refine A_stk (st' := [vI q8]) rfl ?_
        obtain ⟨hg10, h⟩ := g2_out h
        obtain ⟨rfl, rfl⟩ := leaf h
        exact A_zret rfl rfl hg10
      · rw [if_neg hc7] at h
        by_cases hc11 : a1 = 34
        · rw [if_pos hc11] at h
          refine A_lookup (tgt := 58) (off := 57) rfl (by decide) (by rw [hc11]; decide) (by decide) ?_
          refine A_aload_n 0 rfl rfl rfl ?_
          refine A_bipush (v := 34) rfl (by decide) ?_
          obtain ⟨q12, M13, hcq12, h⟩ := bnd_out h
          refine A_callV (as := [vI 34]) (st' := []) (r1 := (some (vI q12), M13)) rfl ml_Reader_82 rfl (by decide) (by decide) (Or.inl rfl) rfl rfl (Nat.le_of_ble_eq_true rfl) (by decide) (c_Reader_begin hcq12) (Or.inl rfl) ?_
          refine A_pc (pc' := 64) rfl ?_
          refine A_stk (st' := [vI q12]) rfl ?_
          obtain ⟨hg14, h⟩ := g2_out h
          obtain ⟨rfl, rfl⟩ := leaf h
          exact A_zret rfl rfl hg14
        · rw [if_neg hc11] at h
          refine A_lookup (tgt := 72) rfl (by decide) (lk_def _ _ _ (fa_cons (ne_i hc1 (by decide)) (fa_cons (ne_i hc3 (by decide)) (fa_cons (ne_i hc7 (by decide)) (fa_cons (ne_i hc11 (by decide)) fa_nil))))) (by decide) ?_
          refine A_iload_n 1 rfl rfl rfl ?_
          obtain ⟨q15, M16, hcq15, h⟩ := bnd_out h
          refine A_callS (as := [vI a1]) (st' := []) (r1 := (some (vI q15), M16)) rfl ml_Reader_94 rfl rfl (Nat.le_of_ble_eq_true rfl) (by decide) (c_Tok_isLeaf hcq15) (Or.inl rfl) ?_
          refine A_pc (pc' := 76) rfl ?_
          refine A_stk (st' := [vI q15]) rfl ?_
          refine A_if_eq (tgt := 92) rfl (by decide) (fun hc17 => ?_) (fun hc17 => ?_)
          · rw [if_pos hc17] at h
            refine A_iconst (v := 0) rfl (by decide) ?_
            obtain ⟨rfl, rfl⟩ := leaf h
            exact A_zret rfl rfl (Or.inl rfl)
          · rw [if_neg hc17] at h
            refine A_pc (pc' := 79) rfl ?_
            refine A_aload_n 0 rfl rfl rfl ?_
            refine A_iload_n 1 rfl rfl rfl ?_
            refine A_lload_n 2 rfl rfl rfl ?_
            obtain ⟨q18, M19, hcq18, h⟩ := bnd_out h
            refine A_callV (as := [vI a1, vJ a2]) (st' := []) (r1 := (some (vI q18), M19)) rfl ml_Reader_97 rfl (by decide) (by decide) (Or.inl rfl) rfl rfl (Nat.le_of_ble_eq_true rfl) (by decide) (c_Reader_takesLeaf hcq18) (Or.inl rfl) ?_
            refine A_pc (pc' := 85) rfl ?_
            refine A_stk (st' := [vI q18]) rfl ?_
            refine A_if_eq (tgt := 92) rfl (by decide) (fun hc20 => ?_) (fun hc20 => ?_)
            · rw [if_pos hc20] at h
              refine A_iconst (v := 0) rfl (by decide) ?_
              obtain ⟨rfl, rfl⟩ := leaf h
              exact A_zret rfl rfl (Or.inl rfl)
            · rw [if_neg hc20] at h
              refine A_pc (pc' := 88) rfl ?_
              refine A_iconst (v := 1) rfl (by decide) ?_
              refine A_goto (tgt := 93) rfl (by decide) ?_
              obtain ⟨rfl, rfl⟩ := leaf h
              exact A_zret rfl rfl (Or.inr rfl)
def tb_Reader_waitsForSize : List (Nat × Instr × Nat) := [(0, .aload_n 0, 1), (1, .iload_n 1, 1), (2, .putfield 85, 3), (5, .aload_n 0, 1), (6, .iconst 3, 1), (7, .putfield 37, 3), (10, .iconst 1, 1), (11, .ireturn, 1)]
def Y_Reader_waitsForSize : ax_Y := (⟨"MethodWarden$Reader", "waitsForSize", "(I)Z"⟩, prog_8_method_9_code, 2, some .boolean, tb_Reader_waitsForSize)
theorem yok_Reader_waitsForSize : yOK Y_Reader_waitsForSize := ⟨by decide +kernel, by decide +kernel, inWG 672 (by decide +kernel) (by decide +kernel), inWG 98 (by decide +kernel) (by decide +kernel), by decide +kernel⟩
theorem fl_Reader_85 : fldOK "MethodWarden$Reader" 85 2 5 false := ⟨_, _, _, cls_Reader, by decide, by decide, rfl, Or.inl (inWG 162 (by decide +kernel) (by decide +kernel))⟩
def f_Reader_waitsForSize (a1 : Int32) (M : ax_M) : Option (Int32 × ax_M) :=
  kM (mI M 5 5 a1) (fun M1 => kM (mI M1 5 4 3) (fun M2 => some (1, M2)))
set_option maxHeartbeats 4000000 in
set_option maxRecDepth 100000 in
theorem c_Reader_waitsForSize {l : Launch} {g : ax_G} {a1 : Int32} {M : ax_M} {r : Int32} {M' : ax_M} (h : f_Reader_waitsForSize a1 M = some (r, M')) : Ctr l g true Y_Reader_waitsForSize 1 [vA 5, vI a1] M (some (vI r), M') := by
  refine Ctr.ofAW yok_Reader_waitsForSize (Nat.le_of_ble_eq_true rfl) (Or.inl rfl) ?_
  show AW l g true Y_Reader_waitsForSize 1 (some (vI r), M') 0 [(0, vA 5), (1, vI a1)] [] M
  unfold f_Reader_waitsForSize at h
  refine A_aload_n 0 rfl rfl rfl ?_
  refine A_iload_n 1 rfl rfl rfl ?_
  refine A_putI rfl (Or.inl fl_Reader_85) rfl (by decide) (Or.inl rfl) rfl ?_
  obtain ⟨M1, hM1, h⟩ := kM_out h
  refine A_mem hM1 ?_
  refine A_aload_n 0 rfl rfl rfl ?_
  refine A_iconst (v := 3) rfl (by decide) ?_
  refine A_pc (pc' := 7) rfl ?_
  refine A_putI rfl (Or.inl fl_Reader_37) rfl (by decide) (Or.inl rfl) rfl ?_
  obtain ⟨M2, hM2, h⟩ := kM_out h
  refine A_mem hM2 ?_
  refine A_iconst (v := 1) rfl (by decide) ?_
  obtain ⟨rfl, rfl⟩ := leaf h
  exact A_zret rfl rfl (Or.inr rfl)
def tb_Reader_closesRound : List (Nat × Instr × Nat) := [(0, .aload_n 0, 1), (1, .iconst 1, 1), (2, .invokevirtual 71, 3), (5, .aload_n 0, 1), (6, .invokevirtual 126, 3), (9, .istore_n 1, 1), (10, .iload_n 1, 1), (11, .bipush 13, 2), (13, .if_icmp .ne 20, 3), (16, .aload_n 0, 1), (17, .dup, 1), (18, .getfield 27, 3), (21, .iconst 1, 1), (22, .isub, 1), (23, .putfield 27, 3), (26, .aload_n 0, 1), (27, .bipush 13, 2), (29, .invokevirtual 88, 3), (32, .ireturn, 1), (33, .iload_n 1, 1), (34, .bipush 15, 2), (36, .if_icmp .eq 5, 3), (39, .iconst 0, 1), (40, .ireturn, 1), (41, .aload_n 0, 1), (42, .dup, 1), (43, .getfield 27, 3), (46, .iconst 1, 1), (47, .isub, 1), (48, .putfield 27, 3), (51, .iconst 1, 1), (52, .ireturn, 1)]
def Y_Reader_closesRound : ax_Y := (⟨"MethodWarden$Reader", "closesRound", "()Z"⟩, prog_8_method_10_code, 2, some .boolean, tb_Reader_closesRound)
theorem yok_Reader_closesRound : yOK Y_Reader_closesRound := ⟨by decide +kernel, by decide +kernel, inWG 653 (by decide +kernel) (by decide +kernel), inWG 98 (by decide +kernel) (by decide +kernel), by decide +kernel⟩
theorem ml_Reader_126 : mlV "MethodWarden$Reader" 126 Y_Reader_innermost 0 := ⟨⟨yok_Reader_innermost, by decide +kernel, by decide⟩, Or.inl (inWG 654 (by decide +kernel) (by decide +kernel)), inWG 656 (by decide +kernel) (by decide +kernel), inWG 22 (by decide +kernel) (by decide +kernel)⟩
theorem ml_Reader_88 : mlV "MethodWarden$Reader" 88 Y_Reader_joinNow 1 := ⟨⟨yok_Reader_joinNow, by decide +kernel, by decide⟩, Or.inl (inWG 642 (by decide +kernel) (by decide +kernel)), inWG 644 (by decide +kernel) (by decide +kernel), inWG 19 (by decide +kernel) (by decide +kernel)⟩
def f_Reader_closesRound  (M : ax_M) : Option (Int32 × ax_M) :=
  bnd (f_Reader_joinDownTo 1 M) (fun q1 M2 => bnd (f_Reader_innermost  M2) (fun q3 M4 => if q3 = 13 then (kM (mI M4 5 1 ((gI M4 5 1) - 1)) (fun M8 => bnd (f_Reader_joinNow 13 M8) (fun q9 M10 => g2 q9 (some (q9, M10))))) else (if q3 = 15 then (kM (mI M4 5 1 ((gI M4 5 1) - 1)) (fun M7 => some (1, M7))) else (some (0, M4)))))
set_option maxHeartbeats 4000000 in
set_option maxRecDepth 100000 in
theorem c_Reader_closesRound {l : Launch} {g : ax_G}  {M : ax_M} {r : Int32} {M' : ax_M} (h : f_Reader_closesRound  M = some (r, M')) : Ctr l g true Y_Reader_closesRound 4 [vA 5] M (some (vI r), M') := by
  refine Ctr.ofAW yok_Reader_closesRound (Nat.le_of_ble_eq_true rfl) (Or.inl rfl) ?_
  show AW l g true Y_Reader_closesRound 4 (some (vI r), M') 0 [(0, vA 5)] [] M
  unfold f_Reader_closesRound at h
  refine A_aload_n 0 rfl rfl rfl ?_
  refine A_iconst (v := 1) rfl (by decide) ?_
  obtain ⟨q1, M2, hcq1, h⟩ := bnd_out h
  refine A_callV (as := [vI 1]) (st' := []) (r1 := (none, M2)) rfl ml_Reader_71 rfl (by decide) (by decide) (Or.inl rfl) rfl rfl (Nat.le_of_ble_eq_true rfl) (by decide) (c_Reader_joinDownTo hcq1) (Or.inl rfl) ?_
  refine A_pc (pc' := 5) rfl ?_
  refine A_stk (st' := []) rfl ?_
  refine A_aload_n 0 rfl rfl rfl ?_
  obtain ⟨q3, M4, hcq3, h⟩ := bnd_out h
  refine A_callV (as := []) (st' := []) (r1 := (some (vI q3), M4)) rfl ml_Reader_126 rfl (by decide) (by decide) (Or.inl rfl) rfl rfl (Nat.le_of_ble_eq_true rfl) (by decide) (c_Reader_innermost hcq3) (Or.inl rfl) ?_
  refine A_pc (pc' := 9) rfl ?_
  refine A_stk (st' := [vI q3]) rfl ?_
  refine A_pc (pc' := 9) rfl ?_
  refine A_istore_n (Ls' := [(1, vI q3), (0, vA 5)]) rfl rfl (by decide) rfl ?_
  refine A_iload_n 0 rfl rfl rfl ?_
  refine A_bipush (v := 13) rfl (by decide) ?_
  refine A_icmp_ne (tgt := 33) rfl (by decide) (fun hc5 => ?_) (fun hc5 => ?_)
  · rw [if_neg hc5] at h
    refine A_iload_n 0 rfl rfl rfl ?_
    refine A_bipush (v := 15) rfl (by decide) ?_
    refine A_icmp_eq (tgt := 41) rfl (by decide) (fun hc6 => ?_) (fun hc6 => ?_)
    · rw [if_pos hc6] at h
      refine A_aload_n 1 rfl rfl rfl ?_
      refine A_dup rfl rfl ?_
      refine A_getI rfl fl_Reader_27 rfl (by decide) (Or.inl rfl) ?_
      refine A_iconst (v := 1) rfl (by decide) ?_
      refine A_isub rfl ?_
      refine A_pc (pc' := 48) rfl ?_
      refine A_putI rfl (Or.inl fl_Reader_27) rfl (by decide) (Or.inl rfl) rfl ?_
      obtain ⟨M7, hM7, h⟩ := kM_out h
      refine A_mem hM7 ?_
      refine A_iconst (v := 1) rfl (by decide) ?_
      obtain ⟨rfl, rfl⟩ := leaf h
      exact A_zret rfl rfl (Or.inr rfl)
    · rw [if_neg hc6] at h
      refine A_pc (pc' := 39) rfl ?_
      refine A_iconst (v := 0) rfl (by decide) ?_
      obtain ⟨rfl, rfl⟩ := leaf h
      exact A_zret rfl rfl (Or.inl rfl)
  · rw [if_pos hc5] at h
    refine A_pc (pc' := 16) rfl ?_
    refine A_aload_n 1 rfl rfl rfl ?_
    refine A_dup rfl rfl ?_
    refine A_getI rfl fl_Reader_27 rfl (by decide) (Or.inl rfl) ?_
    refine A_iconst (v := 1) rfl (by decide) ?_
    refine A_isub rfl ?_
    refine A_pc (pc' := 23) rfl ?_
    refine A_putI rfl (Or.inl fl_Reader_27) rfl (by decide) (Or.inl rfl) rfl ?_
    obtain ⟨M8, hM8, h⟩ := kM_out h
    refine A_mem hM8 ?_
    refine A_aload_n 1 rfl rfl rfl ?_
    refine A_bipush (v := 13) rfl (by decide) ?_
    obtain ⟨q9, M10, hcq9, h⟩ := bnd_out h
    refine A_callV (as := [vI 13]) (st' := []) (r1 := (some (vI q9), M10)) rfl ml_Reader_88 rfl (by decide) (by decide) (Or.inl rfl) rfl rfl (Nat.le_of_ble_eq_true rfl) (by decide) (c_Reader_joinNow hcq9) (Or.inl rfl) ?_
    refine A_pc (pc' := 32) rfl ?_
    refine A_stk (st' := [vI q9]) rfl ?_
    obtain ⟨hg11, h⟩ := g2_out h
    obtain ⟨rfl, rfl⟩ := leaf h
    exact A_zret rfl rfl hg11
def tb_Reader_closesSquare : List (Nat × Instr × Nat) := [(0, .aload_n 0, 1), (1, .iconst 1, 1), (2, .invokevirtual 71, 3), (5, .aload_n 0, 1), (6, .invokevirtual 126, 3), (9, .istore_n 1, 1), (10, .iload_n 1, 1), (11, .invokestatic 130, 3), (14, .ifCond .ne 5, 3), (17, .iconst 0, 1), (18, .ireturn, 1), (19, .aload_n 0, 1), (20, .dup, 1), (21, .getfield 27, 3), (24, .iconst 1, 1), (25, .isub, 1), (26, .putfield 27, 3), (29, .aload_n 0, 1), (30, .iload_n 1, 1), (31, .invokevirtual 88, 3), (34, .ireturn, 1)]
def Y_Reader_closesSquare : ax_Y := (⟨"MethodWarden$Reader", "closesSquare", "()Z"⟩, prog_8_method_11_code, 2, some .boolean, tb_Reader_closesSquare)
theorem yok_Reader_closesSquare : yOK Y_Reader_closesSquare := ⟨by decide +kernel, by decide +kernel, inWG 661 (by decide +kernel) (by decide +kernel), inWG 98 (by decide +kernel) (by decide +kernel), by decide +kernel⟩
theorem ml_Reader_130 : mlS "MethodWarden$Reader" 130 Y_Tok_opensSquare 1 := ⟨⟨yok_Tok_opensSquare, by decide +kernel, by decide⟩, Or.inl (inWG 662 (by decide +kernel) (by decide +kernel)), inWG 663 (by decide +kernel) (by decide +kernel)⟩
def f_Reader_closesSquare  (M : ax_M) : Option (Int32 × ax_M) :=
  bnd (f_Reader_joinDownTo 1 M) (fun q1 M2 => bnd (f_Reader_innermost  M2) (fun q3 M4 => bnd (f_Tok_opensSquare q3 M4) (fun q5 M6 => if q5 = 0 then (some (0, M6)) else (kM (mI M6 5 1 ((gI M6 5 1) - 1)) (fun M8 => bnd (f_Reader_joinNow q3 M8) (fun q9 M10 => g2 q9 (some (q9, M10))))))))
set_option maxHeartbeats 4000000 in
set_option maxRecDepth 100000 in
theorem c_Reader_closesSquare {l : Launch} {g : ax_G}  {M : ax_M} {r : Int32} {M' : ax_M} (h : f_Reader_closesSquare  M = some (r, M')) : Ctr l g true Y_Reader_closesSquare 4 [vA 5] M (some (vI r), M') := by
  refine Ctr.ofAW yok_Reader_closesSquare (Nat.le_of_ble_eq_true rfl) (Or.inl rfl) ?_
  show AW l g true Y_Reader_closesSquare 4 (some (vI r), M') 0 [(0, vA 5)] [] M
  unfold f_Reader_closesSquare at h
  refine A_aload_n 0 rfl rfl rfl ?_
  refine A_iconst (v := 1) rfl (by decide) ?_
  obtain ⟨q1, M2, hcq1, h⟩ := bnd_out h
  refine A_callV (as := [vI 1]) (st' := []) (r1 := (none, M2)) rfl ml_Reader_71 rfl (by decide) (by decide) (Or.inl rfl) rfl rfl (Nat.le_of_ble_eq_true rfl) (by decide) (c_Reader_joinDownTo hcq1) (Or.inl rfl) ?_
  refine A_pc (pc' := 5) rfl ?_
  refine A_stk (st' := []) rfl ?_
  refine A_aload_n 0 rfl rfl rfl ?_
  obtain ⟨q3, M4, hcq3, h⟩ := bnd_out h
  refine A_callV (as := []) (st' := []) (r1 := (some (vI q3), M4)) rfl ml_Reader_126 rfl (by decide) (by decide) (Or.inl rfl) rfl rfl (Nat.le_of_ble_eq_true rfl) (by decide) (c_Reader_innermost hcq3) (Or.inl rfl) ?_
  refine A_pc (pc' := 9) rfl ?_
  refine A_stk (st' := [vI q3]) rfl ?_
  refine A_pc (pc' := 9) rfl ?_
  refine A_istore_n (Ls' := [(1, vI q3), (0, vA 5)]) rfl rfl (by decide) rfl ?_
  refine A_iload_n 0 rfl rfl rfl ?_
  obtain ⟨q5, M6, hcq5, h⟩ := bnd_out h
  refine A_callS (as := [vI q3]) (st' := []) (r1 := (some (vI q5), M6)) rfl ml_Reader_130 rfl rfl (Nat.le_of_ble_eq_true rfl) (by decide) (c_Tok_opensSquare hcq5) (Or.inl rfl) ?_
  refine A_pc (pc' := 14) rfl ?_
  refine A_stk (st' := [vI q5]) rfl ?_
  refine A_if_ne (tgt := 19) rfl (by decide) (fun hc7 => ?_) (fun hc7 => ?_)
  · rw [if_neg hc7] at h
    refine A_aload_n 1 rfl rfl rfl ?_
    refine A_dup rfl rfl ?_
    refine A_getI rfl fl_Reader_27 rfl (by decide) (Or.inl rfl) ?_
    refine A_iconst (v := 1) rfl (by decide) ?_
    refine A_isub rfl ?_
    refine A_pc (pc' := 26) rfl ?_
    refine A_putI rfl (Or.inl fl_Reader_27) rfl (by decide) (Or.inl rfl) rfl ?_
    obtain ⟨M8, hM8, h⟩ := kM_out h
    refine A_mem hM8 ?_
    refine A_aload_n 1 rfl rfl rfl ?_
    refine A_iload_n 0 rfl rfl rfl ?_
    obtain ⟨q9, M10, hcq9, h⟩ := bnd_out h
    refine A_callV (as := [vI q3]) (st' := []) (r1 := (some (vI q9), M10)) rfl ml_Reader_88 rfl (by decide) (by decide) (Or.inl rfl) rfl rfl (Nat.le_of_ble_eq_true rfl) (by decide) (c_Reader_joinNow hcq9) (Or.inl rfl) ?_
    refine A_pc (pc' := 34) rfl ?_
    refine A_stk (st' := [vI q9]) rfl ?_
    obtain ⟨hg11, h⟩ := g2_out h
    obtain ⟨rfl, rfl⟩ := leaf h
    exact A_zret rfl rfl hg11
  · rw [if_pos hc7] at h
    refine A_pc (pc' := 17) rfl ?_
    refine A_iconst (v := 0) rfl (by decide) ?_
    obtain ⟨rfl, rfl⟩ := leaf h
    exact A_zret rfl rfl (Or.inl rfl)
def tb_Reader_takesColon : List (Nat × Instr × Nat) := [(0, .aload_n 0, 1), (1, .iconst 1, 1), (2, .invokevirtual 71, 3), (5, .aload_n 0, 1), (6, .invokevirtual 126, 3), (9, .bipush 20, 2), (11, .if_icmp .eq 5, 3), (14, .iconst 0, 1), (15, .ireturn, 1), (16, .aload_n 0, 1), (17, .dup, 1), (18, .getfield 27, 3), (21, .iconst 1, 1), (22, .isub, 1), (23, .putfield 27, 3), (26, .aload_n 0, 1), (27, .bipush 42, 2), (29, .invokevirtual 82, 3), (32, .ireturn, 1)]
def Y_Reader_takesColon : ax_Y := (⟨"MethodWarden$Reader", "takesColon", "()Z"⟩, prog_8_method_12_code, 1, some .boolean, tb_Reader_takesColon)
theorem yok_Reader_takesColon : yOK Y_Reader_takesColon := ⟨by decide +kernel, by decide +kernel, inWG 668 (by decide +kernel) (by decide +kernel), inWG 98 (by decide +kernel) (by decide +kernel), by decide +kernel⟩
def f_Reader_takesColon  (M : ax_M) : Option (Int32 × ax_M) :=
  bnd (f_Reader_joinDownTo 1 M) (fun q1 M2 => bnd (f_Reader_innermost  M2) (fun q3 M4 => if q3 = 20 then (kM (mI M4 5 1 ((gI M4 5 1) - 1)) (fun M6 => bnd (f_Reader_begin 42 M6) (fun q7 M8 => g2 q7 (some (q7, M8))))) else (some (0, M4))))
set_option maxHeartbeats 4000000 in
set_option maxRecDepth 100000 in
theorem c_Reader_takesColon {l : Launch} {g : ax_G}  {M : ax_M} {r : Int32} {M' : ax_M} (h : f_Reader_takesColon  M = some (r, M')) : Ctr l g true Y_Reader_takesColon 4 [vA 5] M (some (vI r), M') := by
  refine Ctr.ofAW yok_Reader_takesColon (Nat.le_of_ble_eq_true rfl) (Or.inl rfl) ?_
  show AW l g true Y_Reader_takesColon 4 (some (vI r), M') 0 [(0, vA 5)] [] M
  unfold f_Reader_takesColon at h
  refine A_aload_n 0 rfl rfl rfl ?_
  refine A_iconst (v := 1) rfl (by decide) ?_
  obtain ⟨q1, M2, hcq1, h⟩ := bnd_out h
  refine A_callV (as := [vI 1]) (st' := []) (r1 := (none, M2)) rfl ml_Reader_71 rfl (by decide) (by decide) (Or.inl rfl) rfl rfl (Nat.le_of_ble_eq_true rfl) (by decide) (c_Reader_joinDownTo hcq1) (Or.inl rfl) ?_
  refine A_pc (pc' := 5) rfl ?_
  refine A_stk (st' := []) rfl ?_
  refine A_aload_n 0 rfl rfl rfl ?_
  obtain ⟨q3, M4, hcq3, h⟩ := bnd_out h
  refine A_callV (as := []) (st' := []) (r1 := (some (vI q3), M4)) rfl ml_Reader_126 rfl (by decide) (by decide) (Or.inl rfl) rfl rfl (Nat.le_of_ble_eq_true rfl) (by decide) (c_Reader_innermost hcq3) (Or.inl rfl) ?_
  refine A_pc (pc' := 9) rfl ?_
  refine A_stk (st' := [vI q3]) rfl ?_
  refine A_pc (pc' := 9) rfl ?_
  refine A_bipush (v := 20) rfl (by decide) ?_
  refine A_icmp_eq (tgt := 16) rfl (by decide) (fun hc5 => ?_) (fun hc5 => ?_)
  · rw [if_pos hc5] at h
    refine A_aload_n 0 rfl rfl rfl ?_
    refine A_dup rfl rfl ?_
    refine A_getI rfl fl_Reader_27 rfl (by decide) (Or.inl rfl) ?_
    refine A_iconst (v := 1) rfl (by decide) ?_
    refine A_isub rfl ?_
    refine A_pc (pc' := 23) rfl ?_
    refine A_putI rfl (Or.inl fl_Reader_27) rfl (by decide) (Or.inl rfl) rfl ?_
    obtain ⟨M6, hM6, h⟩ := kM_out h
    refine A_mem hM6 ?_
    refine A_aload_n 0 rfl rfl rfl ?_
    refine A_bipush (v := 42) rfl (by decide) ?_
    obtain ⟨q7, M8, hcq7, h⟩ := bnd_out h
    refine A_callV (as := [vI 42]) (st' := []) (r1 := (some (vI q7), M8)) rfl ml_Reader_82 rfl (by decide) (by decide) (Or.inl rfl) rfl rfl (Nat.le_of_ble_eq_true rfl) (by decide) (c_Reader_begin hcq7) (Or.inl rfl) ?_
    refine A_pc (pc' := 32) rfl ?_
    refine A_stk (st' := [vI q7]) rfl ?_
    obtain ⟨hg9, h⟩ := g2_out h
    obtain ⟨rfl, rfl⟩ := leaf h
    exact A_zret rfl rfl hg9
  · rw [if_neg hc5] at h
    refine A_pc (pc' := 14) rfl ?_
    refine A_iconst (v := 0) rfl (by decide) ?_
    obtain ⟨rfl, rfl⟩ := leaf h
    exact A_zret rfl rfl (Or.inl rfl)
def tb_Reader_takesBetween : List (Nat × Instr × Nat) := [(0, .iload_n 1, 1), (1, .invokestatic 122, 3), (4, .istore_n 2, 1), (5, .iload_n 2, 1), (6, .iconst 2, 1), (7, .if_icmp .lt 9, 3), (10, .iload_n 2, 1), (11, .bipush 7, 2), (13, .if_icmp .le 5, 3), (16, .iconst 0, 1), (17, .ireturn, 1), (18, .aload_n 0, 1), (19, .iload_n 2, 1), (20, .invokevirtual 71, 3), (23, .aload_n 0, 1), (24, .iload_n 1, 1), (25, .invokevirtual 82, 3), (28, .ireturn, 1)]
def Y_Reader_takesBetween : ax_Y := (⟨"MethodWarden$Reader", "takesBetween", "(I)Z"⟩, prog_8_method_8_code, 3, some .boolean, tb_Reader_takesBetween)
theorem yok_Reader_takesBetween : yOK Y_Reader_takesBetween := ⟨by decide +kernel, by decide +kernel, inWG 676 (by decide +kernel) (by decide +kernel), inWG 98 (by decide +kernel) (by decide +kernel), by decide +kernel⟩
def f_Reader_takesBetween (a1 : Int32) (M : ax_M) : Option (Int32 × ax_M) :=
  bnd (f_Tok_rankOf a1 M) (fun q1 M2 => if q1 < 2 then (some (0, M2)) else (if q1 ≤ 7 then (bnd (f_Reader_joinDownTo q1 M2) (fun q5 M6 => bnd (f_Reader_begin a1 M6) (fun q7 M8 => g2 q7 (some (q7, M8))))) else (some (0, M2))))
set_option maxHeartbeats 4000000 in
set_option maxRecDepth 100000 in
theorem c_Reader_takesBetween {l : Launch} {g : ax_G} {a1 : Int32} {M : ax_M} {r : Int32} {M' : ax_M} (h : f_Reader_takesBetween a1 M = some (r, M')) : Ctr l g true Y_Reader_takesBetween 4 [vA 5, vI a1] M (some (vI r), M') := by
  refine Ctr.ofAW yok_Reader_takesBetween (Nat.le_of_ble_eq_true rfl) (Or.inl rfl) ?_
  show AW l g true Y_Reader_takesBetween 4 (some (vI r), M') 0 [(0, vA 5), (1, vI a1)] [] M
  unfold f_Reader_takesBetween at h
  refine A_iload_n 1 rfl rfl rfl ?_
  obtain ⟨q1, M2, hcq1, h⟩ := bnd_out h
  refine A_callS (as := [vI a1]) (st' := []) (r1 := (some (vI q1), M2)) rfl ml_Reader_122 rfl rfl (Nat.le_of_ble_eq_true rfl) (by decide) (c_Tok_rankOf hcq1) (Or.inl rfl) ?_
  refine A_pc (pc' := 4) rfl ?_
  refine A_stk (st' := [vI q1]) rfl ?_
  refine A_istore_n (Ls' := [(2, vI q1), (0, vA 5), (1, vI a1)]) rfl rfl (by decide) rfl ?_
  refine A_iload_n 0 rfl rfl rfl ?_
  refine A_iconst (v := 2) rfl (by decide) ?_
  refine A_pc (pc' := 7) rfl ?_
  refine A_icmp_lt (tgt := 16) rfl (by decide) (fun hc3 => ?_) (fun hc3 => ?_)
  · rw [if_pos hc3] at h
    refine A_iconst (v := 0) rfl (by decide) ?_
    obtain ⟨rfl, rfl⟩ := leaf h
    exact A_zret rfl rfl (Or.inl rfl)
  · rw [if_neg hc3] at h
    refine A_pc (pc' := 10) rfl ?_
    refine A_iload_n 0 rfl rfl rfl ?_
    refine A_bipush (v := 7) rfl (by decide) ?_
    refine A_icmp_le (tgt := 18) rfl (by decide) (fun hc4 => ?_) (fun hc4 => ?_)
    · rw [if_pos hc4] at h
      refine A_aload_n 1 rfl rfl rfl ?_
      refine A_iload_n 0 rfl rfl rfl ?_
      obtain ⟨q5, M6, hcq5, h⟩ := bnd_out h
      refine A_callV (as := [vI q1]) (st' := []) (r1 := (none, M6)) rfl ml_Reader_71 rfl (by decide) (by decide) (Or.inl rfl) rfl rfl (Nat.le_of_ble_eq_true rfl) (by decide) (c_Reader_joinDownTo hcq5) (Or.inl rfl) ?_
      refine A_pc (pc' := 23) rfl ?_
      refine A_stk (st' := []) rfl ?_
      refine A_aload_n 1 rfl rfl rfl ?_
      refine A_iload_n 2 rfl rfl rfl ?_
      refine A_pc (pc' := 25) rfl ?_
      obtain ⟨q7, M8, hcq7, h⟩ := bnd_out h
      refine A_callV (as := [vI a1]) (st' := []) (r1 := (some (vI q7), M8)) rfl ml_Reader_82 rfl (by decide) (by decide) (Or.inl rfl) rfl rfl (Nat.le_of_ble_eq_true rfl) (by decide) (c_Reader_begin hcq7) (Or.inl rfl) ?_
      refine A_pc (pc' := 28) rfl ?_
      refine A_stk (st' := [vI q7]) rfl ?_
      obtain ⟨hg9, h⟩ := g2_out h
      obtain ⟨rfl, rfl⟩ := leaf h
      exact A_zret rfl rfl hg9
    · rw [if_neg hc4] at h
      refine A_pc (pc' := 16) rfl ?_
      refine A_iconst (v := 0) rfl (by decide) ?_
      obtain ⟨rfl, rfl⟩ := leaf h
      exact A_zret rfl rfl (Or.inl rfl)
def tb_Reader_takesBehindValue : List (Nat × Instr × Nat) := [(0, .iload_n 1, 1), (1, .tableswitch 161 16 40 #[115, 144, 120, 125, 150, 161, 161, 161, 161, 161, 161, 161, 161, 161, 161, 161, 161, 161, 161, 130, 137, 150, 144, 144, 144], 115), (116, .aload_n 0, 1), (117, .invokevirtual 107, 3), (120, .ireturn, 1), (121, .aload_n 0, 1), (122, .invokevirtual 110, 3), (125, .ireturn, 1), (126, .aload_n 0, 1), (127, .invokevirtual 113, 3), (130, .ireturn, 1), (131, .aload_n 0, 1), (132, .bipush 14, 2), (134, .invokevirtual 116, 3), (137, .ireturn, 1), (138, .aload_n 0, 1), (139, .bipush 43, 2), (141, .invokevirtual 116, 3), (144, .ireturn, 1), (145, .aload_n 0, 1), (146, .iload_n 1, 1), (147, .invokevirtual 82, 3), (150, .ireturn, 1), (151, .aload_n 0, 1), (152, .iconst 2, 1), (153, .invokevirtual 71, 3), (156, .aload_n 0, 1), (157, .iload_n 1, 1), (158, .invokevirtual 82, 3), (161, .ireturn, 1), (162, .aload_n 0, 1), (163, .iload_n 1, 1), (164, .invokevirtual 119, 3), (167, .ireturn, 1)]
def Y_Reader_takesBehindValue : ax_Y := (⟨"MethodWarden$Reader", "takesBehindValue", "(I)Z"⟩, prog_8_method_7_code, 2, some .boolean, tb_Reader_takesBehindValue)
theorem yok_Reader_takesBehindValue : yOK Y_Reader_takesBehindValue := ⟨by decide +kernel, by decide +kernel, inWG 649 (by decide +kernel) (by decide +kernel), inWG 98 (by decide +kernel) (by decide +kernel), by decide +kernel⟩
theorem ml_Reader_107 : mlV "MethodWarden$Reader" 107 Y_Reader_closesRound 0 := ⟨⟨yok_Reader_closesRound, by decide +kernel, by decide⟩, Or.inl (inWG 650 (by decide +kernel) (by decide +kernel)), inWG 652 (by decide +kernel) (by decide +kernel), inWG 21 (by decide +kernel) (by decide +kernel)⟩
theorem ml_Reader_110 : mlV "MethodWarden$Reader" 110 Y_Reader_closesSquare 0 := ⟨⟨yok_Reader_closesSquare, by decide +kernel, by decide⟩, Or.inl (inWG 658 (by decide +kernel) (by decide +kernel)), inWG 660 (by decide +kernel) (by decide +kernel), inWG 23 (by decide +kernel) (by decide +kernel)⟩
theorem ml_Reader_113 : mlV "MethodWarden$Reader" 113 Y_Reader_takesColon 0 := ⟨⟨yok_Reader_takesColon, by decide +kernel, by decide⟩, Or.inl (inWG 665 (by decide +kernel) (by decide +kernel)), inWG 667 (by decide +kernel) (by decide +kernel), inWG 24 (by decide +kernel) (by decide +kernel)⟩
theorem ml_Reader_116 : mlV "MethodWarden$Reader" 116 Y_Reader_waitsForSize 1 := ⟨⟨yok_Reader_waitsForSize, by decide +kernel, by decide⟩, Or.inl (inWG 669 (by decide +kernel) (by decide +kernel)), inWG 671 (by decide +kernel) (by decide +kernel), inWG 25 (by decide +kernel) (by decide +kernel)⟩
theorem ml_Reader_119 : mlV "MethodWarden$Reader" 119 Y_Reader_takesBetween 1 := ⟨⟨yok_Reader_takesBetween, by decide +kernel, by decide⟩, Or.inl (inWG 673 (by decide +kernel) (by decide +kernel)), inWG 675 (by decide +kernel) (by decide +kernel), inWG 26 (by decide +kernel) (by decide +kernel)⟩
def f_Reader_takesBehindValue (a1 : Int32) (M : ax_M) : Option (Int32 × ax_M) :=
  if a1 = 16 then (bnd (f_Reader_closesRound  M) (fun q2 M3 => g2 q2 (some (q2, M3)))) else (if a1 = 17 then (bnd (f_Reader_begin a1 M) (fun q6 M7 => g2 q6 (some (q6, M7)))) else (if a1 = 18 then (bnd (f_Reader_closesSquare  M) (fun q10 M11 => g2 q10 (some (q10, M11)))) else (if a1 = 19 then (bnd (f_Reader_takesColon  M) (fun q14 M15 => g2 q14 (some (q14, M15)))) else (if a1 = 20 then (bnd (f_Reader_joinDownTo 2 M) (fun q18 M19 => bnd (f_Reader_begin a1 M19) (fun q20 M21 => g2 q20 (some (q20, M21))))) else (if a1 = 35 then (bnd (f_Reader_waitsForSize 14 M) (fun q24 M25 => g2 q24 (some (q24, M25)))) else (if a1 = 36 then (bnd (f_Reader_waitsForSize 43 M) (fun q28 M29 => g2 q28 (some (q28, M29)))) else (if a1 = 37 then (bnd (f_Reader_joinDownTo 2 M) (fun q32 M33 => bnd (f_Reader_begin a1 M33) (fun q34 M35 => g2 q34 (some (q34, M35))))) else (if a1 = 38 then (bnd (f_Reader_begin a1 M) (fun q38 M39 => g2 q38 (some (q38, M39)))) else (if a1 = 39 then (bnd (f_Reader_begin a1 M) (fun q42 M43 => g2 q42 (some (q42, M43)))) else (if a1 = 40 then (bnd (f_Reader_begin a1 M) (fun q46 M47 => g2 q46 (some (q46, M47)))) else (bnd (f_Reader_takesBetween a1 M) (fun q49 M50 => g2 q49 (some (q49, M50))))))))))))))
set_option maxHeartbeats 4000000 in
set_option maxRecDepth 100000 in
theorem c_Reader_takesBehindValue {l : Launch} {g : ax_G} {a1 : Int32} {M : ax_M} {r : Int32} {M' : ax_M} (h : f_Reader_takesBehindValue a1 M = some (r, M')) : Ctr l g true Y_Reader_takesBehindValue 5 [vA 5, vI a1] M (some (vI r), M') := by
  refine Ctr.ofAW yok_Reader_takesBehindValue (Nat.le_of_ble_eq_true rfl) (Or.inl rfl) ?_
  show AW l g true Y_Reader_takesBehindValue 5 (some (vI r), M') 0 [(0, vA 5), (1, vI a1)] [] M
  unfold f_Reader_takesBehindValue at h
  refine A_iload_n 1 rfl rfl rfl ?_
  by_cases hc1 : a1 = 16
  · rw [if_pos hc1] at h
    refine A_tableIn (tgt := 116) (off := 115) rfl (by rw [hc1]; decide) (by rw [hc1]; decide) (by rw [hc1]; rfl) (by decide) ?_
    refine A_aload_n 0 rfl rfl rfl ?_
    obtain ⟨q2, M3, hcq2, h⟩ := bnd_out h
    refine A_callV (as := []) (st' := []) (r1 := (some (vI q2), M3)) rfl ml_Reader_107 rfl (by decide) (by decide) (Or.inl rfl) rfl rfl (Nat.le_of_ble_eq_true rfl) (by decide) (c_Reader_closesRound hcq2) (Or.inl rfl) ?_
    refine A_pc (pc' := 120) rfl ?_
    refine A_stk (st' := [vI q2]) rfl ?_
    obtain ⟨hg4, h⟩ := g2_out h
    obtain ⟨rfl, rfl⟩ := leaf h
    exact A_zret rfl rfl hg4
  · rw [if_neg hc1] at h
    by_cases hc5 : a1 = 17
    · rw [if_pos hc5] at h
      refine A_tableIn (tgt := 145) (off := 144) rfl (by rw [hc5]; decide) (by rw [hc5]; decide) (by rw [hc5]; rfl) (by decide) ?_
      refine A_aload_n 0 rfl rfl rfl ?_
      refine A_iload_n 1 rfl rfl rfl ?_
      obtain ⟨q6, M7, hcq6, h⟩ := bnd_out h
      refine A_callV (as := [vI a1]) (st' := []) (r1 := (some (vI q6), M7)) rfl ml_Reader_82 rfl (by decide) (by decide) (Or.inl rfl) rfl rfl (Nat.le_of_ble_eq_true rfl) (by decide) (c_Reader_begin hcq6) (Or.inl rfl) ?_
      refine A_pc (pc' := 150) rfl ?_
      refine A_stk (st' := [vI q6]) rfl ?_
      obtain ⟨hg8, h⟩ := g2_out h
      obtain ⟨rfl, rfl⟩ := leaf h
      exact A_zret rfl rfl hg8
    · rw [if_neg hc5] at h
      by_cases hc9 : a1 = 18
      · rw [if_pos hc9] at h
        refine A_tableIn (tgt := 121) (off := 120) rfl (by rw [hc9]; decide) (by rw [hc9]; decide) (by rw [hc9]; rfl) (by decide) ?_
        refine A_aload_n 0 rfl rfl rfl ?_
        obtain ⟨q10, M11, hcq10, h⟩ := bnd_out h
        refine A_callV (as := []) (st' := []) (r1 := (some (vI q10), M11)) rfl ml_Reader_110 rfl (by decide) (by decide) (Or.inl rfl) rfl rfl (Nat.le_of_ble_eq_true rfl) (by decide) (c_Reader_closesSquare hcq10) (Or.inl rfl) ?_
        refine A_pc (pc' := 125) rfl ?_
        refine A_stk (st' := [vI q10]) rfl ?_
        obtain ⟨hg12, h⟩ := g2_out h
        obtain ⟨rfl, rfl⟩ := leaf h
        exact A_zret rfl rfl hg12
      · rw [if_neg hc9] at h
        by_cases hc13 : a1 = 19
        · rw [if_pos hc13] at h
          refine A_tableIn (tgt := 126) (off := 125) rfl (by rw [hc13]; decide) (by rw [hc13]; decide) (by rw [hc13]; rfl) (by decide) ?_
          refine A_aload_n 0 rfl rfl rfl ?_
          obtain ⟨q14, M15, hcq14, h⟩ := bnd_out h
          refine A_callV (as := []) (st' := []) (r1 := (some (vI q14), M15)) rfl ml_Reader_113 rfl (by decide) (by decide) (Or.inl rfl) rfl rfl (Nat.le_of_ble_eq_true rfl) (by decide) (c_Reader_takesColon hcq14) (Or.inl rfl) ?_
          refine A_pc (pc' := 130) rfl ?_
          refine A_stk (st' := [vI q14]) rfl ?_
          obtain ⟨hg16, h⟩ := g2_out h
          obtain ⟨rfl, rfl⟩ := leaf h
          exact A_zret rfl rfl hg16
        · rw [if_neg hc13] at h
          by_cases hc17 : a1 = 20
          · rw [if_pos hc17] at h
            refine A_tableIn (tgt := 151) (off := 150) rfl (by rw [hc17]; decide) (by rw [hc17]; decide) (by rw [hc17]; rfl) (by decide) ?_
            refine A_aload_n 0 rfl rfl rfl ?_
            refine A_iconst (v := 2) rfl (by decide) ?_
            obtain ⟨q18, M19, hcq18, h⟩ := bnd_out h
            refine A_callV (as := [vI 2]) (st' := []) (r1 := (none, M19)) rfl ml_Reader_71 rfl (by decide) (by decide) (Or.inl rfl) rfl rfl (Nat.le_of_ble_eq_true rfl) (by decide) (c_Reader_joinDownTo hcq18) (Or.inl rfl) ?_
            refine A_pc (pc' := 156) rfl ?_
            refine A_stk (st' := []) rfl ?_
            refine A_aload_n 0 rfl rfl rfl ?_
            refine A_iload_n 1 rfl rfl rfl ?_
            refine A_pc (pc' := 158) rfl ?_
            obtain ⟨q20, M21, hcq20, h⟩ := bnd_out h
            refine A_callV (as := [vI a1]) (st' := []) (r1 := (some (vI q20), M21)) rfl ml_Reader_82 rfl (by decide) (by decide) (Or.inl rfl) rfl rfl (Nat.le_of_ble_eq_true rfl) (by decide) (c_Reader_begin hcq20) (Or.inl rfl) ?_
            refine A_pc (pc' := 161) rfl ?_
            refine A_stk (st' := [vI q20]) rfl ?_
            obtain ⟨hg22, h⟩ := g2_out h
            obtain ⟨rfl, rfl⟩ := leaf h
            exact A_zret rfl rfl hg22
          · rw [if_neg hc17] at h
            by_cases hc23 : a1 = 35
            · rw [if_pos hc23] at h
              refine A_tableIn (tgt := 131) (off := 130) rfl (by rw [hc23]; decide) (by rw [hc23]; decide) (by rw [hc23]; rfl) (by decide) ?_
              refine A_aload_n 0 rfl rfl rfl ?_
              refine A_bipush (v := 14) rfl (by decide) ?_
              obtain ⟨q24, M25, hcq24, h⟩ := bnd_out h
              refine A_callV (as := [vI 14]) (st' := []) (r1 := (some (vI q24), M25)) rfl ml_Reader_116 rfl (by decide) (by decide) (Or.inl rfl) rfl rfl (Nat.le_of_ble_eq_true rfl) (by decide) (c_Reader_waitsForSize hcq24) (Or.inl rfl) ?_
              refine A_pc (pc' := 137) rfl ?_
              refine A_stk (st' := [vI q24]) rfl ?_
              obtain ⟨hg26, h⟩ := g2_out h
              obtain ⟨rfl, rfl⟩ := leaf h
              exact A_zret rfl rfl hg26
            · rw [if_neg hc23] at h
              by_cases hc27 : a1 = 36
              · rw [if_pos hc27] at h
                refine A_tableIn (tgt := 138) (off := 137) rfl (by rw [hc27]; decide) (by rw [hc27]; decide) (by rw [hc27]; rfl) (by decide) ?_
                refine A_aload_n 0 rfl rfl rfl ?_
                refine A_bipush (v := 43) rfl (by decide) ?_
                obtain ⟨q28, M29, hcq28, h⟩ := bnd_out h
                refine A_callV (as := [vI 43]) (st' := []) (r1 := (some (vI q28), M29)) rfl ml_Reader_116 rfl (by decide) (by decide) (Or.inl rfl) rfl rfl (Nat.le_of_ble_eq_true rfl) (by decide) (c_Reader_waitsForSize hcq28) (Or.inl rfl) ?_
                refine A_pc (pc' := 144) rfl ?_
                refine A_stk (st' := [vI q28]) rfl ?_
                obtain ⟨hg30, h⟩ := g2_out h
                obtain ⟨rfl, rfl⟩ := leaf h
                exact A_zret rfl rfl hg30
              · rw [if_neg hc27] at h
                by_cases hc31 : a1 = 37
                · rw [if_pos hc31] at h
                  refine A_tableIn (tgt := 151) (off := 150) rfl (by rw [hc31]; decide) (by rw [hc31]; decide) (by rw [hc31]; rfl) (by decide) ?_
                  refine A_aload_n 0 rfl rfl rfl ?_
                  refine A_iconst (v := 2) rfl (by decide) ?_
                  obtain ⟨q32, M33, hcq32, h⟩ := bnd_out h
                  refine A_callV (as := [vI 2]) (st' := []) (r1 := (none, M33)) rfl ml_Reader_71 rfl (by decide) (by decide) (Or.inl rfl) rfl rfl (Nat.le_of_ble_eq_true rfl) (by decide) (c_Reader_joinDownTo hcq32) (Or.inl rfl) ?_
                  refine A_pc (pc' := 156) rfl ?_
                  refine A_stk (st' := []) rfl ?_
                  refine A_aload_n 0 rfl rfl rfl ?_
                  refine A_iload_n 1 rfl rfl rfl ?_
                  refine A_pc (pc' := 158) rfl ?_
                  obtain ⟨q34, M35, hcq34, h⟩ := bnd_out h
                  refine A_callV (as := [vI a1]) (st' := []) (r1 := (some (vI q34), M35)) rfl ml_Reader_82 rfl (by decide) (by decide) (Or.inl rfl) rfl rfl (Nat.le_of_ble_eq_true rfl) (by decide) (c_Reader_begin hcq34) (Or.inl rfl) ?_
                  refine A_pc (pc' := 161) rfl ?_
                  refine A_stk (st' := [vI q34]) rfl ?_
                  obtain ⟨hg36, h⟩ := g2_out h
                  obtain ⟨rfl, rfl⟩ := leaf h
                  exact A_zret rfl rfl hg36
                · rw [if_neg hc31] at h
                  by_cases hc37 : a1 = 38
                  · rw [if_pos hc37] at h
                    refine A_tableIn (tgt := 145) (off := 144) rfl (by rw [hc37]; decide) (by rw [hc37]; decide) (by rw [hc37]; rfl) (by decide) ?_
                    refine A_aload_n 0 rfl rfl rfl ?_
                    refine A_iload_n 1 rfl rfl rfl ?_
                    obtain ⟨q38, M39, hcq38, h⟩ := bnd_out h
                    refine A_callV (as := [vI a1]) (st' := []) (r1 := (some (vI q38), M39)) rfl ml_Reader_82 rfl (by decide) (by decide) (Or.inl rfl) rfl rfl (Nat.le_of_ble_eq_true rfl) (by decide) (c_Reader_begin hcq38) (Or.inl rfl) ?_
                    refine A_pc (pc' := 150) rfl ?_
                    refine A_stk (st' := [vI q38]) rfl ?_
                    obtain ⟨hg40, h⟩ := g2_out h
                    obtain ⟨rfl, rfl⟩ := leaf h
                    exact A_zret rfl rfl hg40
                  · rw [if_neg hc37] at h
                    by_cases hc41 : a1 = 39
                    · rw [if_pos hc41] at h
                      refine A_tableIn (tgt := 145) (off := 144) rfl (by rw [hc41]; decide) (by rw [hc41]; decide) (by rw [hc41]; rfl) (by decide) ?_
                      refine A_aload_n 0 rfl rfl rfl ?_
                      refine A_iload_n 1 rfl rfl rfl ?_
                      obtain ⟨q42, M43, hcq42, h⟩ := bnd_out h
                      refine A_callV (as := [vI a1]) (st' := []) (r1 := (some (vI q42), M43)) rfl ml_Reader_82 rfl (by decide) (by decide) (Or.inl rfl) rfl rfl (Nat.le_of_ble_eq_true rfl) (by decide) (c_Reader_begin hcq42) (Or.inl rfl) ?_
                      refine A_pc (pc' := 150) rfl ?_
                      refine A_stk (st' := [vI q42]) rfl ?_
                      obtain ⟨hg44, h⟩ := g2_out h
                      obtain ⟨rfl, rfl⟩ := leaf h
                      exact A_zret rfl rfl hg44
                    · rw [if_neg hc41] at h
                      by_cases hc45 : a1 = 40
                      · rw [if_pos hc45] at h
                        refine A_tableIn (tgt := 145) (off := 144) rfl (by rw [hc45]; decide) (by rw [hc45]; decide) (by rw [hc45]; rfl) (by decide) ?_
                        refine A_aload_n 0 rfl rfl rfl ?_
                        refine A_iload_n 1 rfl rfl rfl ?_
                        obtain ⟨q46, M47, hcq46, h⟩ := bnd_out h
                        refine A_callV (as := [vI a1]) (st' := []) (r1 := (some (vI q46), M47)) rfl ml_Reader_82 rfl (by decide) (by decide) (Or.inl rfl) rfl rfl (Nat.le_of_ble_eq_true rfl) (by decide) (c_Reader_begin hcq46) (Or.inl rfl) ?_
                        refine A_pc (pc' := 150) rfl ?_
                        refine A_stk (st' := [vI q46]) rfl ?_
                        obtain ⟨hg48, h⟩ := g2_out h
                        obtain ⟨rfl, rfl⟩ := leaf h
                        exact A_zret rfl rfl hg48
                      · rw [if_neg hc45] at h
                        refine A_tableDef (tgt := 162) [16, 17, 18, 19, 20, 35, 36, 37, 38, 39, 40] rfl (by decide) (by decide) (fa_cons (ne_i hc1 (by decide)) (fa_cons (ne_i hc5 (by decide)) (fa_cons (ne_i hc9 (by decide)) (fa_cons (ne_i hc13 (by decide)) (fa_cons (ne_i hc17 (by decide)) (fa_cons (ne_i hc23 (by decide)) (fa_cons (ne_i hc27 (by decide)) (fa_cons (ne_i hc31 (by decide)) (fa_cons (ne_i hc37 (by decide)) (fa_cons (ne_i hc41 (by decide)) (fa_cons (ne_i hc45 (by decide)) fa_nil))))))))))) (by decide) ?_
                        refine A_aload_n 0 rfl rfl rfl ?_
                        refine A_iload_n 1 rfl rfl rfl ?_
                        obtain ⟨q49, M50, hcq49, h⟩ := bnd_out h
                        refine A_callV (as := [vI a1]) (st' := []) (r1 := (some (vI q49), M50)) rfl ml_Reader_119 rfl (by decide) (by decide) (Or.inl rfl) rfl rfl (Nat.le_of_ble_eq_true rfl) (by decide) (c_Reader_takesBetween hcq49) (Or.inl rfl) ?_
                        refine A_pc (pc' := 167) rfl ?_
                        refine A_stk (st' := [vI q49]) rfl ?_
                        obtain ⟨hg51, h⟩ := g2_out h
                        obtain ⟨rfl, rfl⟩ := leaf h
                        exact A_zret rfl rfl hg51
def tb_Reader_takes : List (Nat × Instr × Nat) := [(0, .iload_n 1, 1), (1, .iconst 1, 1), (2, .if_icmp .ne 5, 3), (5, .iconst 0, 1), (6, .ireturn, 1), (7, .iload_n 1, 1), (8, .invokestatic 75, 3), (11, .ifCond .eq 13, 3), (14, .aload_n 0, 1), (15, .dup, 1), (16, .getfield 34, 3), (19, .iconst 1, 1), (20, .iadd, 1), (21, .putfield 34, 3), (24, .aload_n 0, 1), (25, .getfield 34, 3), (28, .bipush 20, 2), (30, .if_icmp .le 5, 3), (33, .iconst 0, 1), (34, .ireturn, 1), (35, .aload_n 0, 1), (36, .getfield 37, 3), (39, .tableswitch 80 0 3 #[29, 80, 36, 57], 29), (68, .aload_n 0, 1), (69, .iload_n 1, 1), (70, .lload_n 2, 1), (71, .invokevirtual 79, 3), (74, .ireturn, 1), (75, .iload_n 1, 1), (76, .bipush 15, 2), (78, .if_icmp .ne 16, 3), (81, .aload_n 0, 1), (82, .bipush 13, 2), (84, .invokevirtual 82, 3), (87, .ifCond .eq 7, 3), (90, .iconst 1, 1), (91, .goto 4, 3), (94, .iconst 0, 1), (95, .ireturn, 1), (96, .iload_n 1, 1), (97, .bipush 14, 2), (99, .if_icmp .ne 18, 3), (102, .aload_n 0, 1), (103, .aload_n 0, 1), (104, .getfield 85, 3), (107, .invokevirtual 88, 3), (110, .ifCond .eq 7, 3), (113, .iconst 1, 1), (114, .goto 4, 3), (117, .iconst 0, 1), (118, .ireturn, 1), (119, .aload_n 0, 1), (120, .iload_n 1, 1), (121, .invokevirtual 91, 3), (124, .ireturn, 1)]
def Y_Reader_takes : ax_Y := (⟨"MethodWarden$Reader", "takes", "(IJ)Z"⟩, prog_8_method_4_code, 4, some .boolean, tb_Reader_takes)
theorem yok_Reader_takes : yOK Y_Reader_takes := ⟨by decide +kernel, by decide +kernel, inWG 618 (by decide +kernel) (by decide +kernel), inWG 98 (by decide +kernel) (by decide +kernel), by decide +kernel⟩
theorem fl_Reader_34 : fldOK "MethodWarden$Reader" 34 2 6 false := ⟨_, _, _, cls_Reader, by decide, by decide, rfl, Or.inl (inWG 163 (by decide +kernel) (by decide +kernel))⟩
theorem ml_Reader_75 : mlS "MethodWarden$Reader" 75 Y_Tok_isPart 1 := ⟨⟨yok_Tok_isPart, by decide +kernel, by decide⟩, Or.inl (inWG 619 (by decide +kernel) (by decide +kernel)), inWG 620 (by decide +kernel) (by decide +kernel)⟩
theorem ml_Reader_79 : mlV "MethodWarden$Reader" 79 Y_Reader_takesForValue 2 := ⟨⟨yok_Reader_takesForValue, by decide +kernel, by decide⟩, Or.inl (inWG 622 (by decide +kernel) (by decide +kernel)), inWG 624 (by decide +kernel) (by decide +kernel), inWG 16 (by decide +kernel) (by decide +kernel)⟩
theorem ml_Reader_91 : mlV "MethodWarden$Reader" 91 Y_Reader_takesBehindValue 1 := ⟨⟨yok_Reader_takesBehindValue, by decide +kernel, by decide⟩, Or.inl (inWG 646 (by decide +kernel) (by decide +kernel)), inWG 648 (by decide +kernel) (by decide +kernel), inWG 20 (by decide +kernel) (by decide +kernel)⟩
def f_Reader_takes_24 (l1 : Int32) (l2 : Int64) (M : ax_M) : Option (Int32 × ax_M) :=
  if (gI M 5 6) ≤ 20 then (kM (gI M 5 4) (fun x6 => if x6 = 0 then (bnd (f_Reader_takesForValue l1 l2 M) (fun q8 M9 => g2 q8 (some (q8, M9)))) else (if x6 = 2 then (if l1 = 15 then (bnd (f_Reader_begin 13 M) (fun q13 M14 => if q13 = 0 then (some (0, M14)) else (some (1, M14)))) else (some (0, M))) else (if x6 = 3 then (if l1 = 14 then (bnd (f_Reader_joinNow (gI M 5 5) M) (fun q18 M19 => if q18 = 0 then (some (0, M19)) else (some (1, M19)))) else (some (0, M))) else (bnd (f_Reader_takesBehindValue l1 M) (fun q21 M22 => g2 q21 (some (q21, M22)))))))) else (some (0, M))
set_option maxHeartbeats 4000000 in
set_option maxRecDepth 100000 in
theorem o_Reader_takes_24 {l : Launch} {g : ax_G} (l1 : Int32) (l2 : Int64) (M : ax_M) (r : Int32) (M' : ax_M) (h : f_Reader_takes_24  l1 l2 M = some (r, M')) : AW l g true Y_Reader_takes 6 (some (vI r), M') 24 [(0, vA 5), (1, vI l1), (2, vJ l2)] [] M := by
  unfold f_Reader_takes_24 at h
  refine A_aload_n 0 rfl rfl rfl ?_
  refine A_getI rfl fl_Reader_34 rfl (by decide) (Or.inl rfl) ?_
  refine A_bipush (v := 20) rfl (by decide) ?_
  refine A_icmp_le (tgt := 35) rfl (by decide) (fun hc5 => ?_) (fun hc5 => ?_)
  · rw [if_pos hc5] at h
    refine A_aload_n 0 rfl rfl rfl ?_
    refine A_getI rfl fl_Reader_37 rfl (by decide) (Or.inl rfl) ?_
    obtain ⟨x6, hx6, h⟩ := kM_out h
    refine A_nI hx6 ?_
    by_cases hc7 : x6 = 0
    · rw [if_pos hc7] at h
      refine A_tableIn (tgt := 68) (off := 29) rfl (by rw [hc7]; decide) (by rw [hc7]; decide) (by rw [hc7]; rfl) (by decide) ?_
      refine A_aload_n 0 rfl rfl rfl ?_
      refine A_iload_n 1 rfl rfl rfl ?_
      refine A_lload_n 2 rfl rfl rfl ?_
      obtain ⟨q8, M9, hcq8, h⟩ := bnd_out h
      refine A_callV (as := [vI l1, vJ l2]) (st' := []) (r1 := (some (vI q8), M9)) rfl ml_Reader_79 rfl (by decide) (by decide) (Or.inl rfl) rfl rfl (Nat.le_of_ble_eq_true rfl) (by decide) (c_Reader_takesForValue hcq8) (Or.inl rfl) ?_
      refine A_pc (pc' := 74) rfl ?_
      refine A_stk (st' := [vI q8]) rfl ?_
      obtain ⟨hg10, h⟩ := g2_out h
      obtain ⟨rfl, rfl⟩ := leaf h
      exact A_zret rfl rfl hg10
    · rw [if_neg hc7] at h
      by_cases hc11 : x6 = 2
      · rw [if_pos hc11] at h
        refine A_tableIn (tgt := 75) (off := 36) rfl (by rw [hc11]; decide) (by rw [hc11]; decide) (by rw [hc11]; rfl) (by decide) ?_
        refine A_iload_n 1 rfl rfl rfl ?_
        refine A_bipush (v := 15) rfl (by decide) ?_
        refine A_icmp_ne (tgt := 94) rfl (by decide) (fun hc12 => ?_) (fun hc12 => ?_)
        · rw [if_neg hc12] at h
          refine A_iconst (v := 0) rfl (by decide) ?_
          obtain ⟨rfl, rfl⟩ := leaf h
          exact A_zret rfl rfl (Or.inl rfl)
        · rw [if_pos hc12] at h
          refine A_pc (pc' := 81) rfl ?_
          refine A_aload_n 0 rfl rfl rfl ?_
          refine A_bipush (v := 13) rfl (by decide) ?_
          obtain ⟨q13, M14, hcq13, h⟩ := bnd_out h
          refine A_callV (as := [vI 13]) (st' := []) (r1 := (some (vI q13), M14)) rfl ml_Reader_82 rfl (by decide) (by decide) (Or.inl rfl) rfl rfl (Nat.le_of_ble_eq_true rfl) (by decide) (c_Reader_begin hcq13) (Or.inl rfl) ?_
          refine A_pc (pc' := 87) rfl ?_
          refine A_stk (st' := [vI q13]) rfl ?_
          refine A_if_eq (tgt := 94) rfl (by decide) (fun hc15 => ?_) (fun hc15 => ?_)
          · rw [if_pos hc15] at h
            refine A_iconst (v := 0) rfl (by decide) ?_
            obtain ⟨rfl, rfl⟩ := leaf h
            exact A_zret rfl rfl (Or.inl rfl)
          · rw [if_neg hc15] at h
            refine A_pc (pc' := 90) rfl ?_
            refine A_iconst (v := 1) rfl (by decide) ?_
            refine A_goto (tgt := 95) rfl (by decide) ?_
            obtain ⟨rfl, rfl⟩ := leaf h
            exact A_zret rfl rfl (Or.inr rfl)
      · rw [if_neg hc11] at h
        by_cases hc16 : x6 = 3
        · rw [if_pos hc16] at h
          refine A_tableIn (tgt := 96) (off := 57) rfl (by rw [hc16]; decide) (by rw [hc16]; decide) (by rw [hc16]; rfl) (by decide) ?_
          refine A_iload_n 1 rfl rfl rfl ?_
          refine A_bipush (v := 14) rfl (by decide) ?_
          refine A_icmp_ne (tgt := 117) rfl (by decide) (fun hc17 => ?_) (fun hc17 => ?_)
          · rw [if_neg hc17] at h
            refine A_iconst (v := 0) rfl (by decide) ?_
            obtain ⟨rfl, rfl⟩ := leaf h
            exact A_zret rfl rfl (Or.inl rfl)
          · rw [if_pos hc17] at h
            refine A_pc (pc' := 102) rfl ?_
            refine A_aload_n 0 rfl rfl rfl ?_
            refine A_aload_n 0 rfl rfl rfl ?_
            refine A_getI rfl fl_Reader_85 rfl (by decide) (Or.inl rfl) ?_
            obtain ⟨q18, M19, hcq18, h⟩ := bnd_out h
            refine A_callV (as := [vI (gI M 5 5)]) (st' := []) (r1 := (some (vI q18), M19)) rfl ml_Reader_88 rfl (by decide) (by decide) (Or.inl rfl) rfl rfl (Nat.le_of_ble_eq_true rfl) (by decide) (c_Reader_joinNow hcq18) (Or.inl rfl) ?_
            refine A_pc (pc' := 110) rfl ?_
            refine A_stk (st' := [vI q18]) rfl ?_
            refine A_if_eq (tgt := 117) rfl (by decide) (fun hc20 => ?_) (fun hc20 => ?_)
            · rw [if_pos hc20] at h
              refine A_iconst (v := 0) rfl (by decide) ?_
              obtain ⟨rfl, rfl⟩ := leaf h
              exact A_zret rfl rfl (Or.inl rfl)
            · rw [if_neg hc20] at h
              refine A_pc (pc' := 113) rfl ?_
              refine A_iconst (v := 1) rfl (by decide) ?_
              refine A_goto (tgt := 118) rfl (by decide) ?_
              obtain ⟨rfl, rfl⟩ := leaf h
              exact A_zret rfl rfl (Or.inr rfl)
        · rw [if_neg hc16] at h
          refine A_tableDef (tgt := 119) [0, 2, 3] rfl (by decide) (by decide) (fa_cons (ne_i hc7 (by decide)) (fa_cons (ne_i hc11 (by decide)) (fa_cons (ne_i hc16 (by decide)) fa_nil))) (by decide) ?_
          refine A_aload_n 0 rfl rfl rfl ?_
          refine A_iload_n 1 rfl rfl rfl ?_
          obtain ⟨q21, M22, hcq21, h⟩ := bnd_out h
          refine A_callV (as := [vI l1]) (st' := []) (r1 := (some (vI q21), M22)) rfl ml_Reader_91 rfl (by decide) (by decide) (Or.inl rfl) rfl rfl (Nat.le_of_ble_eq_true rfl) (by decide) (c_Reader_takesBehindValue hcq21) (Or.inl rfl) ?_
          refine A_pc (pc' := 124) rfl ?_
          refine A_stk (st' := [vI q21]) rfl ?_
          obtain ⟨hg23, h⟩ := g2_out h
          obtain ⟨rfl, rfl⟩ := leaf h
          exact A_zret rfl rfl hg23
  · rw [if_neg hc5] at h
    refine A_pc (pc' := 33) rfl ?_
    refine A_iconst (v := 0) rfl (by decide) ?_
    obtain ⟨rfl, rfl⟩ := leaf h
    exact A_zret rfl rfl (Or.inl rfl)
def f_Reader_takes (a1 : Int32) (a2 : Int64) (M : ax_M) : Option (Int32 × ax_M) :=
  if a1 = 1 then (some (0, M)) else (bnd (f_Tok_isPart a1 M) (fun q2 M3 => if q2 = 0 then (f_Reader_takes_24 a1 a2 M3) else (kM (mI M3 5 6 ((gI M3 5 6) + 1)) (fun M24 => f_Reader_takes_24 a1 a2 M24))))
set_option maxHeartbeats 4000000 in
set_option maxRecDepth 100000 in
theorem c_Reader_takes {l : Launch} {g : ax_G} {a1 : Int32} {a2 : Int64} {M : ax_M} {r : Int32} {M' : ax_M} (h : f_Reader_takes a1 a2 M = some (r, M')) : Ctr l g true Y_Reader_takes 6 [vA 5, vI a1, vJ a2] M (some (vI r), M') := by
  refine Ctr.ofAW yok_Reader_takes (Nat.le_of_ble_eq_true rfl) (Or.inl rfl) ?_
  show AW l g true Y_Reader_takes 6 (some (vI r), M') 0 [(0, vA 5), (1, vI a1), (2, vJ a2)] [] M
  unfold f_Reader_takes at h
  refine A_iload_n 1 rfl rfl rfl ?_
  refine A_iconst (v := 1) rfl (by decide) ?_
  refine A_icmp_ne (tgt := 7) rfl (by decide) (fun hc1 => ?_) (fun hc1 => ?_)
  · rw [if_neg hc1] at h
    refine A_iload_n 1 rfl rfl rfl ?_
    obtain ⟨q2, M3, hcq2, h⟩ := bnd_out h
    refine A_callS (as := [vI a1]) (st' := []) (r1 := (some (vI q2), M3)) rfl ml_Reader_75 rfl rfl (Nat.le_of_ble_eq_true rfl) (by decide) (c_Tok_isPart hcq2) (Or.inl rfl) ?_
    refine A_pc (pc' := 11) rfl ?_
    refine A_stk (st' := [vI q2]) rfl ?_
    refine A_if_eq (tgt := 24) rfl (by decide) (fun hc4 => ?_) (fun hc4 => ?_)
    · rw [if_pos hc4] at h
      refine A_pc (pc' := 24) rfl ?_
      refine A_sub (Ls' := [(0, vA 5), (1, vI a1), (2, vJ a2)]) [0, 1, 2] rfl ?_
      exact o_Reader_takes_24  _ _ _ _ _ h
    · rw [if_neg hc4] at h
      refine A_pc (pc' := 14) rfl ?_
      refine A_aload_n 0 rfl rfl rfl ?_
      refine A_dup rfl rfl ?_
      refine A_getI rfl fl_Reader_34 rfl (by decide) (Or.inl rfl) ?_
      refine A_iconst (v := 1) rfl (by decide) ?_
      refine A_iadd rfl ?_
      refine A_pc (pc' := 21) rfl ?_
      refine A_putI rfl (Or.inl fl_Reader_34) rfl (by decide) (Or.inl rfl) rfl ?_
      obtain ⟨M24, hM24, h⟩ := kM_out h
      refine A_mem hM24 ?_
      refine A_pc (pc' := 24) rfl ?_
      refine A_sub (Ls' := [(0, vA 5), (1, vI a1), (2, vJ a2)]) [0, 1, 2] rfl ?_
      exact o_Reader_takes_24  _ _ _ _ _ h
  · rw [if_pos hc1] at h
    refine A_pc (pc' := 5) rfl ?_
    refine A_iconst (v := 0) rfl (by decide) ?_
    obtain ⟨rfl, rfl⟩ := leaf h
    exact A_zret rfl rfl (Or.inl rfl)
def tb_Reader_read : List (Nat × Instr × Nat) := [(0, .aload_n 2, 1), (1, .invokevirtual 18, 3), (4, .aload_n 0, 1), (5, .aload_n 2, 1), (6, .putfield 23, 3), (9, .aload_n 0, 1), (10, .iconst 0, 1), (11, .putfield 27, 3), (14, .aload_n 0, 1), (15, .iconst 0, 1), (16, .putfield 31, 3), (19, .aload_n 0, 1), (20, .iconst 0, 1), (21, .putfield 34, 3), (24, .aload_n 0, 1), (25, .iconst 0, 1), (26, .putfield 37, 3), (29, .aload_n 1, 1), (30, .invokevirtual 40, 3), (33, .iconst 0, 1), (34, .istore_n 3, 1), (35, .iload_n 3, 1), (36, .bipush 48, 2), (38, .if_icmp .gt 56, 3), (41, .aload_n 1, 1), (42, .invokevirtual 45, 3), (45, .aload_n 1, 1), (46, .getfield 48, 3), (49, .ifCond .ne 19, 3), (52, .aload_n 0, 1), (53, .invokevirtual 51, 3), (56, .ifCond .eq 7, 3), (59, .iconst (-1), 1), (60, .goto 7, 3), (63, .aload_n 1, 1), (64, .getfield 55, 3), (67, .ireturn, 1), (68, .aload_n 0, 1), (69, .aload_n 1, 1), (70, .getfield 48, 3), (73, .aload_n 1, 1), (74, .getfield 58, 3), (77, .invokevirtual 62, 3), (80, .ifCond .ne 8, 3), (83, .aload_n 1, 1), (84, .getfield 66, 3), (87, .ireturn, 1), (88, .iinc 3 1, 3), (91, .goto (-56), 3), (94, .aload_n 1, 1), (95, .getfield 55, 3), (98, .ireturn, 1)]
def Y_Reader_read : ax_Y := (⟨"MethodWarden$Reader", "read", "(LMethodWarden$Text;LMethodWarden$Expression;)I"⟩, prog_8_method_2_code, 4, some .int, tb_Reader_read)
theorem yok_Reader_read : yOK Y_Reader_read := ⟨by decide +kernel, by decide +kernel, inWG 461 (by decide +kernel) (by decide +kernel), inWG 98 (by decide +kernel) (by decide +kernel), by decide +kernel⟩
theorem fl_Reader_55 : fldOK "MethodWarden$Reader" 55 1 1 false := ⟨_, _, _, cls_Text, by decide, by decide, rfl, Or.inr ⟨"MethodWarden", inNW 129 (by decide +kernel) (by decide +kernel)⟩⟩
theorem fl_Reader_48 : fldOK "MethodWarden$Reader" 48 1 3 false := ⟨_, _, _, cls_Text, by decide, by decide, rfl, Or.inr ⟨"MethodWarden", inNW 131 (by decide +kernel) (by decide +kernel)⟩⟩
theorem fl_Reader_58 : fldOK "MethodWarden$Reader" 58 1 5 false := ⟨_, _, _, cls_Text, by decide, by decide, rfl, Or.inr ⟨"MethodWarden", inNW 135 (by decide +kernel) (by decide +kernel)⟩⟩
theorem fl_Reader_66 : fldOK "MethodWarden$Reader" 66 1 4 false := ⟨_, _, _, cls_Text, by decide, by decide, rfl, Or.inr ⟨"MethodWarden", inNW 133 (by decide +kernel) (by decide +kernel)⟩⟩
theorem ml_Reader_18 : mlV "MethodWarden$Reader" 18 Y_Expr_clear 0 := ⟨⟨yok_Expr_clear, by decide +kernel, by decide⟩, Or.inl (inWG 462 (by decide +kernel) (by decide +kernel)), inWG 463 (by decide +kernel) (by decide +kernel), inWG 464 (by decide +kernel) (by decide +kernel)⟩
theorem ml_Reader_40 : mlV "MethodWarden$Reader" 40 Y_Text_rewind 0 := ⟨⟨yok_Text_rewind, by decide +kernel, by decide⟩, Or.inl (inWG 466 (by decide +kernel) (by decide +kernel)), inWG 467 (by decide +kernel) (by decide +kernel), inWG 468 (by decide +kernel) (by decide +kernel)⟩
theorem ml_Reader_45 : mlV "MethodWarden$Reader" 45 Y_Text_cutNext 0 := ⟨⟨yok_Text_cutNext, by decide +kernel, by decide⟩, Or.inl (inWG 470 (by decide +kernel) (by decide +kernel)), inWG 471 (by decide +kernel) (by decide +kernel), inWG 472 (by decide +kernel) (by decide +kernel)⟩
theorem ml_Reader_62 : mlV "MethodWarden$Reader" 62 Y_Reader_takes 2 := ⟨⟨yok_Reader_takes, by decide +kernel, by decide⟩, Or.inl (inWG 615 (by decide +kernel) (by decide +kernel)), inWG 617 (by decide +kernel) (by decide +kernel), inWG 15 (by decide +kernel) (by decide +kernel)⟩
theorem ml_Reader_51 : mlV "MethodWarden$Reader" 51 Y_Reader_isFinished 0 := ⟨⟨yok_Reader_isFinished, by decide +kernel, by decide⟩, Or.inl (inWG 585 (by decide +kernel) (by decide +kernel)), inWG 587 (by decide +kernel) (by decide +kernel), inWG 10 (by decide +kernel) (by decide +kernel)⟩
def f_Reader_read_35_b (K35 : Int32 → ax_M → Option (Int32 × ax_M)) (l3 : Int32) (M : ax_M) : Option (Int32 × ax_M) :=
  if 48 < l3 then (some (gI M 3 1, M)) else (bnd (f_Text_cutNext  M) (fun q12 M13 => if (gI M13 3 3) = 0 then (bnd (f_Reader_isFinished  M13) (fun q19 M20 => if q19 = 0 then (some (gI M20 3 1, M20)) else (some ((-1), M20)))) else (bnd (f_Reader_takes (gI M13 3 3) (gJ M13 3 5) M13) (fun q15 M16 => if q15 = 0 then (some (gI M16 3 4, M16)) else (kM (l3 + 1) (fun x18 => K35 x18 M16))))))
def f_Reader_read_35 : Nat → Int32 → ax_M → Option (Int32 × ax_M)
  | 0, _, _ => none
  | n + 1, l3, M => f_Reader_read_35_b  (f_Reader_read_35 n) l3 M
set_option maxHeartbeats 4000000 in
set_option maxRecDepth 100000 in
theorem o_Reader_read_35_b {l : Launch} {g : ax_G} (K35 : Int32 → ax_M → Option (Int32 × ax_M)) (hK35 : ∀ (l3 : Int32) (M : ax_M) (r : Int32) (M' : ax_M), K35 l3 M = some (r, M') → AW l g true Y_Reader_read 10 (some (vI r), M') 35 [(0, vA 5), (1, vA 3), (3, vI l3)] [] M) (l3 : Int32) (M : ax_M) (r : Int32) (M' : ax_M) (h : f_Reader_read_35_b  K35 l3 M = some (r, M')) : AW l g true Y_Reader_read 10 (some (vI r), M') 35 [(0, vA 5), (1, vA 3), (3, vI l3)] [] M := by
  unfold f_Reader_read_35_b at h
  refine A_iload_n 2 rfl rfl rfl ?_
  refine A_bipush (v := 48) rfl (by decide) ?_
  refine A_icmp_gt (tgt := 94) rfl (by decide) (fun hc11 => ?_) (fun hc11 => ?_)
  · rw [if_pos hc11] at h
    refine A_aload_n 1 rfl rfl rfl ?_
    refine A_getI rfl fl_Reader_55 rfl (by decide) (Or.inl rfl) ?_
    obtain ⟨rfl, rfl⟩ := leaf h
    exact A_iret rfl rfl
  · rw [if_neg hc11] at h
    refine A_pc (pc' := 41) rfl ?_
    refine A_aload_n 1 rfl rfl rfl ?_
    obtain ⟨q12, M13, hcq12, h⟩ := bnd_out h
    refine A_callV (as := []) (st' := []) (r1 := (none, M13)) rfl ml_Reader_45 rfl (by decide) (by decide) (Or.inl rfl) rfl rfl (Nat.le_of_ble_eq_true rfl) (by decide) (c_Text_cutNext hcq12) (Or.inl rfl) ?_
    refine A_pc (pc' := 45) rfl ?_
    refine A_stk (st' := []) rfl ?_
    refine A_aload_n 1 rfl rfl rfl ?_
    refine A_getI rfl fl_Reader_48 rfl (by decide) (Or.inl rfl) ?_
    refine A_if_ne (tgt := 68) rfl (by decide) (fun hc14 => ?_) (fun hc14 => ?_)
    · rw [if_neg hc14] at h
      refine A_aload_n 0 rfl rfl rfl ?_
      refine A_aload_n 1 rfl rfl rfl ?_
      refine A_getI rfl fl_Reader_48 rfl (by decide) (Or.inl rfl) ?_
      refine A_aload_n 1 rfl rfl rfl ?_
      refine A_getJ rfl fl_Reader_58 rfl (by decide) (Or.inl rfl) ?_
      refine A_pc (pc' := 77) rfl ?_
      obtain ⟨q15, M16, hcq15, h⟩ := bnd_out h
      refine A_callV (as := [vI (gI M13 3 3), vJ (gJ M13 3 5)]) (st' := []) (r1 := (some (vI q15), M16)) rfl ml_Reader_62 rfl (by decide) (by decide) (Or.inl rfl) rfl rfl (Nat.le_of_ble_eq_true rfl) (by decide) (c_Reader_takes hcq15) (Or.inl rfl) ?_
      refine A_pc (pc' := 80) rfl ?_
      refine A_stk (st' := [vI q15]) rfl ?_
      refine A_if_ne (tgt := 88) rfl (by decide) (fun hc17 => ?_) (fun hc17 => ?_)
      · rw [if_neg hc17] at h
        obtain ⟨x18, hx18, h⟩ := kM_out h
        refine A_iinc 2 (v := x18) (Ls' := [(3, vI x18), (0, vA 5), (1, vA 3)]) rfl rfl ((iiN (k := 1) (by decide) _).trans hx18) (by decide) rfl ?_
        refine A_goto (tgt := 35) rfl (by decide) ?_
        refine A_pc (pc' := 35) rfl ?_
        refine A_sub (Ls' := [(0, vA 5), (1, vA 3), (3, vI x18)]) [1, 2, 0] rfl ?_
        exact hK35 _ _ _ _ h
      · rw [if_pos hc17] at h
        refine A_pc (pc' := 83) rfl ?_
        refine A_aload_n 1 rfl rfl rfl ?_
        refine A_getI rfl fl_Reader_66 rfl (by decide) (Or.inl rfl) ?_
        obtain ⟨rfl, rfl⟩ := leaf h
        exact A_iret rfl rfl
    · rw [if_pos hc14] at h
      refine A_pc (pc' := 52) rfl ?_
      refine A_aload_n 0 rfl rfl rfl ?_
      obtain ⟨q19, M20, hcq19, h⟩ := bnd_out h
      refine A_callV (as := []) (st' := []) (r1 := (some (vI q19), M20)) rfl ml_Reader_51 rfl (by decide) (by decide) (Or.inl rfl) rfl rfl (Nat.le_of_ble_eq_true rfl) (by decide) (c_Reader_isFinished hcq19) (Or.inl rfl) ?_
      refine A_pc (pc' := 56) rfl ?_
      refine A_stk (st' := [vI q19]) rfl ?_
      refine A_if_eq (tgt := 63) rfl (by decide) (fun hc21 => ?_) (fun hc21 => ?_)
      · rw [if_pos hc21] at h
        refine A_aload_n 1 rfl rfl rfl ?_
        refine A_getI rfl fl_Reader_55 rfl (by decide) (Or.inl rfl) ?_
        obtain ⟨rfl, rfl⟩ := leaf h
        exact A_iret rfl rfl
      · rw [if_neg hc21] at h
        refine A_pc (pc' := 59) rfl ?_
        refine A_iconst (v := (-1)) rfl (by decide) ?_
        refine A_goto (tgt := 67) rfl (by decide) ?_
        obtain ⟨rfl, rfl⟩ := leaf h
        exact A_iret rfl rfl
theorem o_Reader_read_35 {l : Launch} {g : ax_G} : ∀ (n : Nat) (l3 : Int32) (M : ax_M) (r : Int32) (M' : ax_M), f_Reader_read_35  n l3 M = some (r, M') → AW l g true Y_Reader_read 10 (some (vI r), M') 35 [(0, vA 5), (1, vA 3), (3, vI l3)] [] M := by
  intro n
  induction n with
  | zero =>
    intro l3 M r M' h
    cases h
  | succ n ih =>
    intro l3 M r M' h
    exact o_Reader_read_35_b  _ ih _ _ _ _ h
def f_Reader_read (a2 : Nat) (M : ax_M) : Option (Int32 × ax_M) :=
  gk a2 3 (bnd (f_Expr_clear a2 M) (fun q2 M3 => kM (mA M3 5 7 a2) (fun M4 => kM (mI M4 5 1 0) (fun M5 => kM (mI M5 5 3 0) (fun M6 => kM (mI M6 5 6 0) (fun M7 => kM (mI M7 5 4 0) (fun M8 => bnd (f_Text_rewind  M8) (fun q9 M10 => f_Reader_read_35 64 0 M10))))))))
set_option maxHeartbeats 4000000 in
set_option maxRecDepth 100000 in
theorem c_Reader_read {l : Launch} {g : ax_G} {a2 : Nat} {M : ax_M} {r : Int32} {M' : ax_M} (h : f_Reader_read a2 M = some (r, M')) : Ctr l g true Y_Reader_read 10 [vA 5, vA 3, vA a2] M (some (vI r), M') := by
  refine Ctr.ofAW yok_Reader_read (Nat.le_of_ble_eq_true rfl) (Or.inl rfl) ?_
  show AW l g true Y_Reader_read 10 (some (vI r), M') 0 [(0, vA 5), (1, vA 3), (2, vA a2)] [] M
  unfold f_Reader_read at h
  refine A_aload_n 2 rfl rfl rfl ?_
  obtain ⟨hg1, h⟩ := gk_out h
  obtain ⟨q2, M3, hcq2, h⟩ := bnd_out h
  refine A_callV (as := []) (st' := []) (r1 := (none, M3)) rfl ml_Reader_18 rfl (by decide) hg1 (Or.inl rfl) rfl rfl (Nat.le_of_ble_eq_true rfl) (by decide) (c_Expr_clear hcq2) (Or.inl rfl) ?_
  refine A_pc (pc' := 4) rfl ?_
  refine A_stk (st' := []) rfl ?_
  refine A_aload_n 0 rfl rfl rfl ?_
  refine A_aload_n 2 rfl rfl rfl ?_
  refine A_putA rfl (Or.inl fl_Reader_23) rfl (by decide) (Or.inl rfl) rfl (Or.inr rfl) ?_
  obtain ⟨M4, hM4, h⟩ := kM_out h
  refine A_mem hM4 ?_
  refine A_pc (pc' := 9) rfl ?_
  refine A_aload_n 0 rfl rfl rfl ?_
  refine A_iconst (v := 0) rfl (by decide) ?_
  refine A_putI rfl (Or.inl fl_Reader_27) rfl (by decide) (Or.inl rfl) rfl ?_
  obtain ⟨M5, hM5, h⟩ := kM_out h
  refine A_mem hM5 ?_
  refine A_aload_n 0 rfl rfl rfl ?_
  refine A_iconst (v := 0) rfl (by decide) ?_
  refine A_putI rfl (Or.inl fl_Reader_31) rfl (by decide) (Or.inl rfl) rfl ?_
  obtain ⟨M6, hM6, h⟩ := kM_out h
  refine A_mem hM6 ?_
  refine A_pc (pc' := 19) rfl ?_
  refine A_aload_n 0 rfl rfl rfl ?_
  refine A_iconst (v := 0) rfl (by decide) ?_
  refine A_putI rfl (Or.inl fl_Reader_34) rfl (by decide) (Or.inl rfl) rfl ?_
  obtain ⟨M7, hM7, h⟩ := kM_out h
  refine A_mem hM7 ?_
  refine A_aload_n 0 rfl rfl rfl ?_
  refine A_iconst (v := 0) rfl (by decide) ?_
  refine A_putI rfl (Or.inl fl_Reader_37) rfl (by decide) (Or.inl rfl) rfl ?_
  obtain ⟨M8, hM8, h⟩ := kM_out h
  refine A_mem hM8 ?_
  refine A_pc (pc' := 29) rfl ?_
  refine A_aload_n 1 rfl rfl rfl ?_
  obtain ⟨q9, M10, hcq9, h⟩ := bnd_out h
  refine A_callV (as := []) (st' := []) (r1 := (none, M10)) rfl ml_Reader_40 rfl (by decide) (by decide) (Or.inl rfl) rfl rfl (Nat.le_of_ble_eq_true rfl) (by decide) (c_Text_rewind hcq9) (Or.inl rfl) ?_
  refine A_pc (pc' := 33) rfl ?_
  refine A_stk (st' := []) rfl ?_
  refine A_iconst (v := 0) rfl (by decide) ?_
  refine A_istore_n (Ls' := [(3, vI 0), (0, vA 5), (1, vA 3), (2, vA a2)]) rfl rfl (by decide) rfl ?_
  refine A_pc (pc' := 35) rfl ?_
  refine A_sub (Ls' := [(0, vA 5), (1, vA 3), (3, vI 0)]) [1, 2, 0] rfl ?_
  exact o_Reader_read_35  _ _ _ _ _ h
end
section
/-! Worker, what is worked out at one part. Printed by gen_methods.py. -/
def tb_Worker_setArguments : List (Nat × Instr × Nat) := [(0, .aload_n 0, 1), (1, .iload_n 1, 1), (2, .putfield 40, 3), (5, .aload_n 0, 1), (6, .lload_n 2, 1), (7, .putfield 44, 3), (10, .return_, 1)]
def Y_Worker_setArguments : ax_Y := (⟨"MethodWarden$Worker", "setArguments", "(IJ)V"⟩, prog_12_method_2_code, 4, none, tb_Worker_setArguments)
theorem yok_Worker_setArguments : yOK Y_Worker_setArguments := ⟨by decide +kernel, by decide +kernel, inWG 806 (by decide +kernel) (by decide +kernel), inWG 102 (by decide +kernel) (by decide +kernel), by decide +kernel⟩
theorem fl_Worker_40 : fldOK "MethodWarden$Worker" 40 6 4 false := ⟨_, _, _, cls_Worker, by decide, by decide, rfl, Or.inl (inWG 290 (by decide +kernel) (by decide +kernel))⟩
theorem fl_Worker_44 : fldOK "MethodWarden$Worker" 44 6 5 false := ⟨_, _, _, cls_Worker, by decide, by decide, rfl, Or.inl (inWG 291 (by decide +kernel) (by decide +kernel))⟩
def f_Worker_setArguments (a1 : Int32) (a2 : Int64) (M : ax_M) : Option (Unit × ax_M) :=
  kM (mI M 68 4 a1) (fun M1 => kM (mJ M1 68 5 a2) (fun M2 => some ((), M2)))
set_option maxHeartbeats 4000000 in
set_option maxRecDepth 100000 in
theorem c_Worker_setArguments {l : Launch} {g : ax_G} {a1 : Int32} {a2 : Int64} {M : ax_M} {r : Unit} {M' : ax_M} (h : f_Worker_setArguments a1 a2 M = some (r, M')) : Ctr l g true Y_Worker_setArguments 1 [vA 68, vI a1, vJ a2] M (none, M') := by
  refine Ctr.ofAW yok_Worker_setArguments (Nat.le_of_ble_eq_true rfl) (Or.inl rfl) ?_
  show AW l g true Y_Worker_setArguments 1 (none, M') 0 [(0, vA 68), (1, vI a1), (2, vJ a2)] [] M
  unfold f_Worker_setArguments at h
  refine A_aload_n 0 rfl rfl rfl ?_
  refine A_iload_n 1 rfl rfl rfl ?_
  refine A_putI rfl (Or.inl fl_Worker_40) rfl (by decide) (Or.inl rfl) rfl ?_
  obtain ⟨M1, hM1, h⟩ := kM_out h
  refine A_mem hM1 ?_
  refine A_aload_n 0 rfl rfl rfl ?_
  refine A_lload_n 2 rfl rfl rfl ?_
  refine A_pc (pc' := 7) rfl ?_
  refine A_putJ rfl (Or.inl fl_Worker_44) rfl (by decide) (Or.inl rfl) rfl ?_
  obtain ⟨M2, hM2, h⟩ := kM_out h
  refine A_mem hM2 ?_
  obtain ⟨rfl, rfl⟩ := leaf h
  exact A_vret rfl rfl
def tb_Worker_setLists : List (Nat × Instr × Nat) := [(0, .aload_n 0, 1), (1, .aload_n 1, 1), (2, .putfield 33, 3), (5, .aload_n 0, 1), (6, .aload_n 2, 1), (7, .putfield 48, 3), (10, .return_, 1)]
def Y_Worker_setLists : ax_Y := (⟨"MethodWarden$Worker", "setLists", "(LMethodWarden$Items;LMethodWarden$Value;)V"⟩, prog_12_method_3_code, 3, none, tb_Worker_setLists)
theorem yok_Worker_setLists : yOK Y_Worker_setLists := ⟨by decide +kernel, by decide +kernel, inWG 836 (by decide +kernel) (by decide +kernel), inWG 102 (by decide +kernel) (by decide +kernel), by decide +kernel⟩
theorem fl_Worker_33 : fldOK "MethodWarden$Worker" 33 6 6 false := ⟨_, _, _, cls_Worker, by decide, by decide, rfl, Or.inl (inWG 292 (by decide +kernel) (by decide +kernel))⟩
theorem fl_Worker_48 : fldOK "MethodWarden$Worker" 48 6 7 false := ⟨_, _, _, cls_Worker, by decide, by decide, rfl, Or.inl (inWG 293 (by decide +kernel) (by decide +kernel))⟩
def f_Worker_setLists (a1 : Nat) (a2 : Nat) (M : ax_M) : Option (Unit × ax_M) :=
  kM (mA M 68 6 a1) (fun M1 => kM (mA M1 68 7 a2) (fun M2 => some ((), M2)))
set_option maxHeartbeats 4000000 in
set_option maxRecDepth 100000 in
theorem c_Worker_setLists {l : Launch} {g : ax_G} {a1 : Nat} {a2 : Nat} {M : ax_M} {r : Unit} {M' : ax_M} (h : f_Worker_setLists a1 a2 M = some (r, M')) : Ctr l g true Y_Worker_setLists 1 [vA 68, vA a1, vA a2] M (none, M') := by
  refine Ctr.ofAW yok_Worker_setLists (Nat.le_of_ble_eq_true rfl) (Or.inl rfl) ?_
  show AW l g true Y_Worker_setLists 1 (none, M') 0 [(0, vA 68), (1, vA a1), (2, vA a2)] [] M
  unfold f_Worker_setLists at h
  refine A_aload_n 0 rfl rfl rfl ?_
  refine A_aload_n 1 rfl rfl rfl ?_
  refine A_putA rfl (Or.inl fl_Worker_33) rfl (by decide) (Or.inl rfl) rfl (Or.inr rfl) ?_
  obtain ⟨M1, hM1, h⟩ := kM_out h
  refine A_mem hM1 ?_
  refine A_aload_n 0 rfl rfl rfl ?_
  refine A_aload_n 2 rfl rfl rfl ?_
  refine A_pc (pc' := 7) rfl ?_
  refine A_putA rfl (Or.inl fl_Worker_48) rfl (by decide) (Or.inl rfl) rfl (Or.inr rfl) ?_
  obtain ⟨M2, hM2, h⟩ := kM_out h
  refine A_mem hM2 ?_
  obtain ⟨rfl, rfl⟩ := leaf h
  exact A_vret rfl rfl
def tb_Worker_valueOfLeaf : List (Nat × Instr × Nat) := [(0, .iload_n 1, 1), (1, .tableswitch 198 2 12 #[59, 67, 74, 81, 88, 94, 125, 135, 145, 169, 188], 59), (60, .aload 4, 2), (62, .lload_n 2, 1), (63, .l2i, 1), (64, .invokevirtual 121, 3), (67, .areturn, 1), (68, .aload 4, 2), (70, .lload_n 2, 1), (71, .invokevirtual 124, 3), (74, .areturn, 1), (75, .aload 4, 2), (77, .iconst 1, 1), (78, .invokevirtual 128, 3), (81, .areturn, 1), (82, .aload 4, 2), (84, .iconst 0, 1), (85, .invokevirtual 128, 3), (88, .areturn, 1), (89, .aload 4, 2), (91, .invokevirtual 132, 3), (94, .areturn, 1), (95, .aload_n 0, 1), (96, .getfield 29, 3), (99, .invokevirtual 136, 3), (102, .ifCond .eq 11, 3), (105, .aload 4, 2), (107, .invokevirtual 132, 3), (110, .goto 15, 3), (113, .aload 4, 2), (115, .aload_n 0, 1), (116, .getfield 29, 3), (119, .getfield 141, 3), (122, .invokevirtual 121, 3), (125, .areturn, 1), (126, .aload 4, 2), (128, .aload_n 0, 1), (129, .getfield 40, 3), (132, .invokevirtual 121, 3), (135, .areturn, 1), (136, .aload 4, 2), (138, .aload_n 0, 1), (139, .getfield 44, 3), (142, .invokevirtual 124, 3), (145, .areturn, 1), (146, .aload_n 0, 1), (147, .getfield 144, 3), (150, .ifCond .eq 15, 3), (153, .aload 4, 2), (155, .aload_n 0, 1), (156, .getfield 148, 3), (159, .invokevirtual 121, 3), (162, .goto 7, 3), (165, .aload_n 0, 1), (166, .getfield 18, 3), (169, .areturn, 1), (170, .aload_n 0, 1), (171, .getfield 48, 3), (174, .ifnull 10, 3), (177, .aload_n 0, 1), (178, .getfield 48, 3), (181, .goto 7, 3), (184, .aload_n 0, 1), (185, .getfield 18, 3), (188, .areturn, 1), (189, .aload 4, 2), (191, .aload_n 0, 1), (192, .getfield 33, 3), (195, .invokevirtual 151, 3), (198, .areturn, 1), (199, .aload_n 0, 1), (200, .getfield 18, 3), (203, .areturn, 1)]
def Y_Worker_valueOfLeaf : ax_Y := (⟨"MethodWarden$Worker", "valueOfLeaf", "(IJLMethodWarden$Value;)LMethodWarden$Value;"⟩, prog_12_method_7_code, 5, some (.object "MethodWarden$Value"), tb_Worker_valueOfLeaf)
theorem yok_Worker_valueOfLeaf : yOK Y_Worker_valueOfLeaf := ⟨by decide +kernel, by decide +kernel, inWG 911 (by decide +kernel) (by decide +kernel), inWG 102 (by decide +kernel) (by decide +kernel), by decide +kernel⟩
theorem fl_Worker_29 : fldOK "MethodWarden$Worker" 29 6 0 true := ⟨_, _, _, cls_Worker, by decide, by decide, rfl, Or.inl (inWG 286 (by decide +kernel) (by decide +kernel))⟩
theorem fl_Worker_141 : fldOK "MethodWarden$Worker" 141 4 2 false := ⟨_, _, _, cls_Ctx, by decide, by decide, rfl, Or.inr ⟨"MethodWarden", inNW 227 (by decide +kernel) (by decide +kernel)⟩⟩
theorem fl_Worker_144 : fldOK "MethodWarden$Worker" 144 6 8 false := ⟨_, _, _, cls_Worker, by decide, by decide, rfl, Or.inl (inWG 294 (by decide +kernel) (by decide +kernel))⟩
theorem fl_Worker_18 : fldOK "MethodWarden$Worker" 18 6 2 true := ⟨_, _, _, cls_Worker, by decide, by decide, rfl, Or.inl (inWG 288 (by decide +kernel) (by decide +kernel))⟩
theorem fl_Worker_148 : fldOK "MethodWarden$Worker" 148 6 9 false := ⟨_, _, _, cls_Worker, by decide, by decide, rfl, Or.inl (inWG 295 (by decide +kernel) (by decide +kernel))⟩
theorem ml_Worker_121 : mlV "MethodWarden$Worker" 121 Y_Val_beInt 1 := ⟨⟨yok_Val_beInt, by decide +kernel, by decide⟩, Or.inl (inWG 899 (by decide +kernel) (by decide +kernel)), inWG 900 (by decide +kernel) (by decide +kernel), inWG 901 (by decide +kernel) (by decide +kernel)⟩
theorem ml_Worker_124 : mlV "MethodWarden$Worker" 124 Y_Val_beLong 1 := ⟨⟨yok_Val_beLong, by decide +kernel, by decide⟩, Or.inl (inWG 912 (by decide +kernel) (by decide +kernel)), inWG 913 (by decide +kernel) (by decide +kernel), inWG 914 (by decide +kernel) (by decide +kernel)⟩
theorem ml_Worker_128 : mlV "MethodWarden$Worker" 128 Y_Val_beTruth 1 := ⟨⟨yok_Val_beTruth, by decide +kernel, by decide⟩, Or.inl (inWG 916 (by decide +kernel) (by decide +kernel)), inWG 917 (by decide +kernel) (by decide +kernel), inWG 918 (by decide +kernel) (by decide +kernel)⟩
theorem ml_Worker_132 : mlV "MethodWarden$Worker" 132 Y_Val_beNothing 0 := ⟨⟨yok_Val_beNothing, by decide +kernel, by decide⟩, Or.inl (inWG 903 (by decide +kernel) (by decide +kernel)), inWG 904 (by decide +kernel) (by decide +kernel), inWG 905 (by decide +kernel) (by decide +kernel)⟩
theorem ml_Worker_136 : mlV "MethodWarden$Worker" 136 Y_Ctx_isNobody 0 := ⟨⟨yok_Ctx_isNobody, by decide +kernel, by decide⟩, Or.inl (inWG 920 (by decide +kernel) (by decide +kernel)), inWG 721 (by decide +kernel) (by decide +kernel), inWG 722 (by decide +kernel) (by decide +kernel)⟩
theorem ml_Worker_151 : mlV "MethodWarden$Worker" 151 Y_Val_beList 1 := ⟨⟨yok_Val_beList, by decide +kernel, by decide⟩, Or.inl (inWG 921 (by decide +kernel) (by decide +kernel)), inWG 922 (by decide +kernel) (by decide +kernel), inWG 923 (by decide +kernel) (by decide +kernel)⟩
def f_Worker_valueOfLeaf (a1 : Int32) (a2 : Int64) (a3 : Nat) (M : ax_M) : Option (Nat × ax_M) :=
  if a1 = 2 then (gk a3 7 (bnd (f_Val_beInt a3 (Int64.toInt32 a2) M) (fun q3 M4 => some (q3, M4)))) else (if a1 = 3 then (gk a3 7 (bnd (f_Val_beLong a3 a2 M) (fun q7 M8 => some (q7, M8)))) else (if a1 = 4 then (gk a3 7 (bnd (f_Val_beTruth a3 1 M) (fun q11 M12 => some (q11, M12)))) else (if a1 = 5 then (gk a3 7 (bnd (f_Val_beTruth a3 0 M) (fun q15 M16 => some (q15, M16)))) else (if a1 = 6 then (gk a3 7 (bnd (f_Val_beNothing a3 M) (fun q19 M20 => some (q19, M20)))) else (if a1 = 7 then (bnd (f_Ctx_isNobody  M) (fun q22 M23 => if q22 = 0 then (gk a3 7 (bnd (f_Val_beInt a3 (gI M23 63 2) M23) (fun q26 M27 => some (q26, M27)))) else (gk a3 7 (bnd (f_Val_beNothing a3 M23) (fun q29 M30 => some (q29, M30)))))) else (if a1 = 8 then (gk a3 7 (bnd (f_Val_beInt a3 (gI M 68 4) M) (fun q33 M34 => some (q33, M34)))) else (if a1 = 9 then (gk a3 7 (bnd (f_Val_beLong a3 (gJ M 68 5) M) (fun q37 M38 => some (q37, M38)))) else (if a1 = 10 then (if (gI M 68 8) = 0 then (some (70, M)) else (gk a3 7 (bnd (f_Val_beInt a3 (gI M 68 9) M) (fun q42 M43 => some (q42, M43))))) else (if a1 = 11 then (kM (gA M 68 7) (fun r45 => if r45 = 0 then (some (70, M)) else (kM (gA M 68 7) (fun r47 => some (r47, M))))) else (if a1 = 12 then (kM (gA M 68 6) (fun r49 => gk a3 7 (bnd (f_Val_beList a3 r49 M) (fun q51 M52 => some (q51, M52))))) else (some (70, M))))))))))))
set_option maxHeartbeats 4000000 in
set_option maxRecDepth 100000 in
theorem c_Worker_valueOfLeaf {l : Launch} {g : ax_G} {a1 : Int32} {a2 : Int64} {a3 : Nat} {M : ax_M} {r : Nat} {M' : ax_M} (h : f_Worker_valueOfLeaf a1 a2 a3 M = some (r, M')) : Ctr l g true Y_Worker_valueOfLeaf 3 [vA 68, vI a1, vJ a2, vA a3] M (some (vA r), M') := by
  refine Ctr.ofAW yok_Worker_valueOfLeaf (Nat.le_of_ble_eq_true rfl) (Or.inl rfl) ?_
  show AW l g true Y_Worker_valueOfLeaf 3 (some (vA r), M') 0 [(0, vA 68), (1, vI a1), (2, vJ a2), (4, vA a3)] [] M
  unfold f_Worker_valueOfLeaf at h
  refine A_iload_n 1 rfl rfl rfl ?_
  by_cases hc1 : a1 = 2
  · rw [if_pos hc1] at h
    refine A_tableIn (tgt := 60) (off := 59) rfl (by rw [hc1]; decide) (by rw [hc1]; decide) (by rw [hc1]; rfl) (by decide) ?_
    refine A_aload 3 rfl rfl ?_
    refine A_lload_n 2 rfl rfl rfl ?_
    refine A_l2i rfl ?_
    obtain ⟨hg2, h⟩ := gk_out h
    obtain ⟨q3, M4, hcq3, h⟩ := bnd_out h
    refine A_callV (as := [vI (Int64.toInt32 a2)]) (st' := []) (r1 := (some (vA q3), M4)) rfl ml_Worker_121 rfl (by decide) hg2 (Or.inl rfl) rfl rfl (Nat.le_of_ble_eq_true rfl) (by decide) (c_Val_beInt hcq3) (Or.inl rfl) ?_
    refine A_pc (pc' := 67) rfl ?_
    refine A_stk (st' := [vA q3]) rfl ?_
    obtain ⟨rfl, rfl⟩ := leaf h
    exact A_aret rfl rfl
  · rw [if_neg hc1] at h
    by_cases hc5 : a1 = 3
    · rw [if_pos hc5] at h
      refine A_tableIn (tgt := 68) (off := 67) rfl (by rw [hc5]; decide) (by rw [hc5]; decide) (by rw [hc5]; rfl) (by decide) ?_
      refine A_aload 3 rfl rfl ?_
      refine A_lload_n 2 rfl rfl rfl ?_
      obtain ⟨hg6, h⟩ := gk_out h
      obtain ⟨q7, M8, hcq7, h⟩ := bnd_out h
      refine A_callV (as := [vJ a2]) (st' := []) (r1 := (some (vA q7), M8)) rfl ml_Worker_124 rfl (by decide) hg6 (Or.inl rfl) rfl rfl (Nat.le_of_ble_eq_true rfl) (by decide) (c_Val_beLong hcq7) (Or.inl rfl) ?_
      refine A_pc (pc' := 74) rfl ?_
      refine A_stk (st' := [vA q7]) rfl ?_
      obtain ⟨rfl, rfl⟩ := leaf h
      exact A_aret rfl rfl
    · rw [if_neg hc5] at h
      by_cases hc9 : a1 = 4
      · rw [if_pos hc9] at h
        refine A_tableIn (tgt := 75) (off := 74) rfl (by rw [hc9]; decide) (by rw [hc9]; decide) (by rw [hc9]; rfl) (by decide) ?_
        refine A_aload 3 rfl rfl ?_
        refine A_iconst (v := 1) rfl (by decide) ?_
        obtain ⟨hg10, h⟩ := gk_out h
        obtain ⟨q11, M12, hcq11, h⟩ := bnd_out h
        refine A_callV (as := [vI 1]) (st' := []) (r1 := (some (vA q11), M12)) rfl ml_Worker_128 rfl (by decide) hg10 (Or.inl rfl) rfl rfl (Nat.le_of_ble_eq_true rfl) (by decide) (c_Val_beTruth hcq11) (Or.inl rfl) ?_
        refine A_pc (pc' := 81) rfl ?_
        refine A_stk (st' := [vA q11]) rfl ?_
        obtain ⟨rfl, rfl⟩ := leaf h
        exact A_aret rfl rfl
      · rw [if_neg hc9] at h
        by_cases hc13 : a1 = 5
        · rw [if_pos hc13] at h
          refine A_tableIn (tgt := 82) (off := 81) rfl (by rw [hc13]; decide) (by rw [hc13]; decide) (by rw [hc13]; rfl) (by decide) ?_
          refine A_aload 3 rfl rfl ?_
          refine A_iconst (v := 0) rfl (by decide) ?_
          obtain ⟨hg14, h⟩ := gk_out h
          obtain ⟨q15, M16, hcq15, h⟩ := bnd_out h
          refine A_callV (as := [vI 0]) (st' := []) (r1 := (some (vA q15), M16)) rfl ml_Worker_128 rfl (by decide) hg14 (Or.inl rfl) rfl rfl (Nat.le_of_ble_eq_true rfl) (by decide) (c_Val_beTruth hcq15) (Or.inl rfl) ?_
          refine A_pc (pc' := 88) rfl ?_
          refine A_stk (st' := [vA q15]) rfl ?_
          obtain ⟨rfl, rfl⟩ := leaf h
          exact A_aret rfl rfl
        · rw [if_neg hc13] at h
          by_cases hc17 : a1 = 6
          · rw [if_pos hc17] at h
            refine A_tableIn (tgt := 89) (off := 88) rfl (by rw [hc17]; decide) (by rw [hc17]; decide) (by rw [hc17]; rfl) (by decide) ?_
            refine A_aload 3 rfl rfl ?_
            obtain ⟨hg18, h⟩ := gk_out h
            obtain ⟨q19, M20, hcq19, h⟩ := bnd_out h
            refine A_callV (as := []) (st' := []) (r1 := (some (vA q19), M20)) rfl ml_Worker_132 rfl (by decide) hg18 (Or.inl rfl) rfl rfl (Nat.le_of_ble_eq_true rfl) (by decide) (c_Val_beNothing hcq19) (Or.inl rfl) ?_
            refine A_pc (pc' := 94) rfl ?_
            refine A_stk (st' := [vA q19]) rfl ?_
            obtain ⟨rfl, rfl⟩ := leaf h
            exact A_aret rfl rfl
          · rw [if_neg hc17] at h
            by_cases hc21 : a1 = 7
            · rw [if_pos hc21] at h
              refine A_tableIn (tgt := 95) (off := 94) rfl (by rw [hc21]; decide) (by rw [hc21]; decide) (by rw [hc21]; rfl) (by decide) ?_
              refine A_aload_n 0 rfl rfl rfl ?_
              refine A_getL (r := 63) rfl fl_Worker_29 rfl (by decide) rfl rfl ?_
              obtain ⟨q22, M23, hcq22, h⟩ := bnd_out h
              refine A_callV (as := []) (st' := []) (r1 := (some (vI q22), M23)) rfl ml_Worker_136 rfl (by decide) (by decide) (Or.inl rfl) rfl rfl (Nat.le_of_ble_eq_true rfl) (by decide) (c_Ctx_isNobody hcq22) (Or.inl rfl) ?_
              refine A_pc (pc' := 102) rfl ?_
              refine A_stk (st' := [vI q22]) rfl ?_
              refine A_if_eq (tgt := 113) rfl (by decide) (fun hc24 => ?_) (fun hc24 => ?_)
              · rw [if_pos hc24] at h
                refine A_aload 3 rfl rfl ?_
                refine A_aload_n 0 rfl rfl rfl ?_
                refine A_getL (r := 63) rfl fl_Worker_29 rfl (by decide) rfl rfl ?_
                refine A_getI rfl fl_Worker_141 rfl (by decide) (Or.inl rfl) ?_
                obtain ⟨hg25, h⟩ := gk_out h
                obtain ⟨q26, M27, hcq26, h⟩ := bnd_out h
                refine A_callV (as := [vI (gI M23 63 2)]) (st' := []) (r1 := (some (vA q26), M27)) rfl ml_Worker_121 rfl (by decide) hg25 (Or.inl rfl) rfl rfl (Nat.le_of_ble_eq_true rfl) (by decide) (c_Val_beInt hcq26) (Or.inl rfl) ?_
                refine A_pc (pc' := 125) rfl ?_
                refine A_stk (st' := [vA q26]) rfl ?_
                refine A_pc (pc' := 125) rfl ?_
                obtain ⟨rfl, rfl⟩ := leaf h
                exact A_aret rfl rfl
              · rw [if_neg hc24] at h
                refine A_pc (pc' := 105) rfl ?_
                refine A_aload 3 rfl rfl ?_
                obtain ⟨hg28, h⟩ := gk_out h
                obtain ⟨q29, M30, hcq29, h⟩ := bnd_out h
                refine A_callV (as := []) (st' := []) (r1 := (some (vA q29), M30)) rfl ml_Worker_132 rfl (by decide) hg28 (Or.inl rfl) rfl rfl (Nat.le_of_ble_eq_true rfl) (by decide) (c_Val_beNothing hcq29) (Or.inl rfl) ?_
                refine A_pc (pc' := 110) rfl ?_
                refine A_stk (st' := [vA q29]) rfl ?_
                refine A_goto (tgt := 125) rfl (by decide) ?_
                obtain ⟨rfl, rfl⟩ := leaf h
                exact A_aret rfl rfl
            · rw [if_neg hc21] at h
              by_cases hc31 : a1 = 8
              · rw [if_pos hc31] at h
                refine A_tableIn (tgt := 126) (off := 125) rfl (by rw [hc31]; decide) (by rw [hc31]; decide) (by rw [hc31]; rfl) (by decide) ?_
                refine A_aload 3 rfl rfl ?_
                refine A_aload_n 0 rfl rfl rfl ?_
                refine A_getI rfl fl_Worker_40 rfl (by decide) (Or.inl rfl) ?_
                obtain ⟨hg32, h⟩ := gk_out h
                obtain ⟨q33, M34, hcq33, h⟩ := bnd_out h
                refine A_callV (as := [vI (gI M 68 4)]) (st' := []) (r1 := (some (vA q33), M34)) rfl ml_Worker_121 rfl (by decide) hg32 (Or.inl rfl) rfl rfl (Nat.le_of_ble_eq_true rfl) (by decide) (c_Val_beInt hcq33) (Or.inl rfl) ?_
                refine A_pc (pc' := 135) rfl ?_
                refine A_stk (st' := [vA q33]) rfl ?_
                obtain ⟨rfl, rfl⟩ := leaf h
                exact A_aret rfl rfl
              · rw [if_neg hc31] at h
                by_cases hc35 : a1 = 9
                · rw [if_pos hc35] at h
                  refine A_tableIn (tgt := 136) (off := 135) rfl (by rw [hc35]; decide) (by rw [hc35]; decide) (by rw [hc35]; rfl) (by decide) ?_
                  refine A_aload 3 rfl rfl ?_
                  refine A_aload_n 0 rfl rfl rfl ?_
                  refine A_getJ rfl fl_Worker_44 rfl (by decide) (Or.inl rfl) ?_
                  obtain ⟨hg36, h⟩ := gk_out h
                  obtain ⟨q37, M38, hcq37, h⟩ := bnd_out h
                  refine A_callV (as := [vJ (gJ M 68 5)]) (st' := []) (r1 := (some (vA q37), M38)) rfl ml_Worker_124 rfl (by decide) hg36 (Or.inl rfl) rfl rfl (Nat.le_of_ble_eq_true rfl) (by decide) (c_Val_beLong hcq37) (Or.inl rfl) ?_
                  refine A_pc (pc' := 145) rfl ?_
                  refine A_stk (st' := [vA q37]) rfl ?_
                  obtain ⟨rfl, rfl⟩ := leaf h
                  exact A_aret rfl rfl
                · rw [if_neg hc35] at h
                  by_cases hc39 : a1 = 10
                  · rw [if_pos hc39] at h
                    refine A_tableIn (tgt := 146) (off := 145) rfl (by rw [hc39]; decide) (by rw [hc39]; decide) (by rw [hc39]; rfl) (by decide) ?_
                    refine A_aload_n 0 rfl rfl rfl ?_
                    refine A_getI rfl fl_Worker_144 rfl (by decide) (Or.inl rfl) ?_
                    refine A_if_eq (tgt := 165) rfl (by decide) (fun hc40 => ?_) (fun hc40 => ?_)
                    · rw [if_pos hc40] at h
                      refine A_aload_n 0 rfl rfl rfl ?_
                      refine A_getL (r := 70) rfl fl_Worker_18 rfl (by decide) rfl rfl ?_
                      obtain ⟨rfl, rfl⟩ := leaf h
                      exact A_aret rfl rfl
                    · rw [if_neg hc40] at h
                      refine A_pc (pc' := 153) rfl ?_
                      refine A_aload 3 rfl rfl ?_
                      refine A_aload_n 0 rfl rfl rfl ?_
                      refine A_getI rfl fl_Worker_148 rfl (by decide) (Or.inl rfl) ?_
                      obtain ⟨hg41, h⟩ := gk_out h
                      obtain ⟨q42, M43, hcq42, h⟩ := bnd_out h
                      refine A_callV (as := [vI (gI M 68 9)]) (st' := []) (r1 := (some (vA q42), M43)) rfl ml_Worker_121 rfl (by decide) hg41 (Or.inl rfl) rfl rfl (Nat.le_of_ble_eq_true rfl) (by decide) (c_Val_beInt hcq42) (Or.inl rfl) ?_
                      refine A_pc (pc' := 162) rfl ?_
                      refine A_stk (st' := [vA q42]) rfl ?_
                      refine A_goto (tgt := 169) rfl (by decide) ?_
                      refine A_pc (pc' := 169) rfl ?_
                      obtain ⟨rfl, rfl⟩ := leaf h
                      exact A_aret rfl rfl
                  · rw [if_neg hc39] at h
                    by_cases hc44 : a1 = 11
                    · rw [if_pos hc44] at h
                      refine A_tableIn (tgt := 170) (off := 169) rfl (by rw [hc44]; decide) (by rw [hc44]; decide) (by rw [hc44]; rfl) (by decide) ?_
                      refine A_aload_n 0 rfl rfl rfl ?_
                      refine A_getA rfl fl_Worker_48 rfl (by decide) (Or.inl rfl) ?_
                      obtain ⟨r45, hr45, h⟩ := kM_out h
                      refine A_nA hr45 ?_
                      refine A_ifnull (tgt := 184) rfl (by decide) (fun hc46 => ?_) (fun hc46 => ?_)
                      · rw [if_pos hc46] at h
                        refine A_aload_n 0 rfl rfl rfl ?_
                        refine A_getL (r := 70) rfl fl_Worker_18 rfl (by decide) rfl rfl ?_
                        obtain ⟨rfl, rfl⟩ := leaf h
                        exact A_aret rfl rfl
                      · rw [if_neg hc46] at h
                        refine A_pc (pc' := 177) rfl ?_
                        refine A_aload_n 0 rfl rfl rfl ?_
                        refine A_getA rfl fl_Worker_48 rfl (by decide) (Or.inl rfl) ?_
                        obtain ⟨r47, hr47, h⟩ := kM_out h
                        refine A_nA hr47 ?_
                        refine A_goto (tgt := 188) rfl (by decide) ?_
                        obtain ⟨rfl, rfl⟩ := leaf h
                        exact A_aret rfl rfl
                    · rw [if_neg hc44] at h
                      by_cases hc48 : a1 = 12
                      · rw [if_pos hc48] at h
                        refine A_tableIn (tgt := 189) (off := 188) rfl (by rw [hc48]; decide) (by rw [hc48]; decide) (by rw [hc48]; rfl) (by decide) ?_
                        refine A_aload 3 rfl rfl ?_
                        refine A_aload_n 0 rfl rfl rfl ?_
                        refine A_getA rfl fl_Worker_33 rfl (by decide) (Or.inl rfl) ?_
                        obtain ⟨r49, hr49, h⟩ := kM_out h
                        refine A_nA hr49 ?_
                        obtain ⟨hg50, h⟩ := gk_out h
                        obtain ⟨q51, M52, hcq51, h⟩ := bnd_out h
                        refine A_callV (as := [vA r49]) (st' := []) (r1 := (some (vA q51), M52)) rfl ml_Worker_151 rfl (by decide) hg50 (Or.inl rfl) rfl rfl (Nat.le_of_ble_eq_true rfl) (by decide) (c_Val_beList hcq51) (Or.inl rfl) ?_
                        refine A_pc (pc' := 198) rfl ?_
                        refine A_stk (st' := [vA q51]) rfl ?_
                        obtain ⟨rfl, rfl⟩ := leaf h
                        exact A_aret rfl rfl
                      · rw [if_neg hc48] at h
                        refine A_tableDef (tgt := 199) [2, 3, 4, 5, 6, 7, 8, 9, 10, 11, 12] rfl (by decide) (by decide) (fa_cons (ne_i hc1 (by decide)) (fa_cons (ne_i hc5 (by decide)) (fa_cons (ne_i hc9 (by decide)) (fa_cons (ne_i hc13 (by decide)) (fa_cons (ne_i hc17 (by decide)) (fa_cons (ne_i hc21 (by decide)) (fa_cons (ne_i hc31 (by decide)) (fa_cons (ne_i hc35 (by decide)) (fa_cons (ne_i hc39 (by decide)) (fa_cons (ne_i hc44 (by decide)) (fa_cons (ne_i hc48 (by decide)) fa_nil))))))))))) (by decide) ?_
                        refine A_aload_n 0 rfl rfl rfl ?_
                        refine A_getL (r := 70) rfl fl_Worker_18 rfl (by decide) rfl rfl ?_
                        obtain ⟨rfl, rfl⟩ := leaf h
                        exact A_aret rfl rfl
def tb_Worker_negated : List (Nat × Instr × Nat) := [(0, .aload_n 1, 1), (1, .invokevirtual 199, 3), (4, .ifCond .ne 8, 3), (7, .aload_n 0, 1), (8, .getfield 18, 3), (11, .areturn, 1), (12, .aload_n 1, 1), (13, .getfield 211, 3), (16, .iconst 2, 1), (17, .if_icmp .ne 16, 3), (20, .aload_n 2, 1), (21, .aload_n 1, 1), (22, .getfield 202, 3), (25, .lneg, 1), (26, .l2i, 1), (27, .invokevirtual 121, 3), (30, .goto 12, 3), (33, .aload_n 2, 1), (34, .aload_n 1, 1), (35, .getfield 202, 3), (38, .lneg, 1), (39, .invokevirtual 124, 3), (42, .areturn, 1)]
def Y_Worker_negated : ax_Y := (⟨"MethodWarden$Worker", "negated", "(LMethodWarden$Value;LMethodWarden$Value;)LMethodWarden$Value;"⟩, prog_12_method_16_code, 3, some (.object "MethodWarden$Value"), tb_Worker_negated)
theorem yok_Worker_negated : yOK Y_Worker_negated := ⟨by decide +kernel, by decide +kernel, inWG 938 (by decide +kernel) (by decide +kernel), inWG 102 (by decide +kernel) (by decide +kernel), by decide +kernel⟩
theorem fl_Worker_211 : fldOK "MethodWarden$Worker" 211 7 0 false := ⟨_, _, _, cls_Val, by decide, by decide, rfl, Or.inr ⟨"MethodWarden", inNW 270 (by decide +kernel) (by decide +kernel)⟩⟩
theorem fl_Worker_202 : fldOK "MethodWarden$Worker" 202 7 1 false := ⟨_, _, _, cls_Val, by decide, by decide, rfl, Or.inr ⟨"MethodWarden", inNW 273 (by decide +kernel) (by decide +kernel)⟩⟩
theorem ml_Worker_199 : mlV "MethodWarden$Worker" 199 Y_Val_isNumber 0 := ⟨⟨yok_Val_isNumber, by decide +kernel, by decide⟩, Or.inl (inWG 939 (by decide +kernel) (by decide +kernel)), inWG 940 (by decide +kernel) (by decide +kernel), inWG 941 (by decide +kernel) (by decide +kernel)⟩
def f_Worker_negated (a1 : Nat) (a2 : Nat) (M : ax_M) : Option (Nat × ax_M) :=
  gk a1 7 (bnd (f_Val_isNumber a1 M) (fun q2 M3 => if q2 = 0 then (some (70, M3)) else (if (gI M3 a1 0) = 2 then (gk a2 7 (bnd (f_Val_beInt a2 (Int64.toInt32 (-(gJ M3 a1 1))) M3) (fun q10 M11 => some (q10, M11)))) else (gk a2 7 (bnd (f_Val_beLong a2 (-(gJ M3 a1 1)) M3) (fun q7 M8 => some (q7, M8)))))))
set_option maxHeartbeats 4000000 in
set_option maxRecDepth 100000 in
theorem c_Worker_negated {l : Launch} {g : ax_G} {a1 : Nat} {a2 : Nat} {M : ax_M} {r : Nat} {M' : ax_M} (h : f_Worker_negated a1 a2 M = some (r, M')) : Ctr l g true Y_Worker_negated 2 [vA 68, vA a1, vA a2] M (some (vA r), M') := by
  refine Ctr.ofAW yok_Worker_negated (Nat.le_of_ble_eq_true rfl) (Or.inl rfl) ?_
  show AW l g true Y_Worker_negated 2 (some (vA r), M') 0 [(0, vA 68), (1, vA a1), (2, vA a2)] [] M
  unfold f_Worker_negated at h
  refine A_aload_n 1 rfl rfl rfl ?_
  obtain ⟨hg1, h⟩ := gk_out h
  obtain ⟨q2, M3, hcq2, h⟩ := bnd_out h
  refine A_callV (as := []) (st' := []) (r1 := (some (vI q2), M3)) rfl ml_Worker_199 rfl (by decide) hg1 (Or.inl rfl) rfl rfl (Nat.le_of_ble_eq_true rfl) (by decide) (c_Val_isNumber hcq2) (Or.inl rfl) ?_
  refine A_pc (pc' := 4) rfl ?_
  refine A_stk (st' := [vI q2]) rfl ?_
  refine A_if_ne (tgt := 12) rfl (by decide) (fun hc4 => ?_) (fun hc4 => ?_)
  · rw [if_neg hc4] at h
    refine A_aload_n 1 rfl rfl rfl ?_
    refine A_getI rfl fl_Worker_211 rfl hg1 (Or.inl rfl) ?_
    refine A_iconst (v := 2) rfl (by decide) ?_
    refine A_icmp_ne (tgt := 33) rfl (by decide) (fun hc5 => ?_) (fun hc5 => ?_)
    · rw [if_neg hc5] at h
      refine A_aload_n 2 rfl rfl rfl ?_
      refine A_aload_n 1 rfl rfl rfl ?_
      refine A_getJ rfl fl_Worker_202 rfl hg1 (Or.inl rfl) ?_
      refine A_lneg rfl ?_
      obtain ⟨hg6, h⟩ := gk_out h
      obtain ⟨q7, M8, hcq7, h⟩ := bnd_out h
      refine A_callV (as := [vJ (-(gJ M3 a1 1))]) (st' := []) (r1 := (some (vA q7), M8)) rfl ml_Worker_124 rfl (by decide) hg6 (Or.inl rfl) rfl rfl (Nat.le_of_ble_eq_true rfl) (by decide) (c_Val_beLong hcq7) (Or.inl rfl) ?_
      refine A_pc (pc' := 42) rfl ?_
      refine A_stk (st' := [vA q7]) rfl ?_
      refine A_pc (pc' := 42) rfl ?_
      obtain ⟨rfl, rfl⟩ := leaf h
      exact A_aret rfl rfl
    · rw [if_pos hc5] at h
      refine A_pc (pc' := 20) rfl ?_
      refine A_aload_n 2 rfl rfl rfl ?_
      refine A_aload_n 1 rfl rfl rfl ?_
      refine A_getJ rfl fl_Worker_202 rfl hg1 (Or.inl rfl) ?_
      refine A_lneg rfl ?_
      refine A_l2i rfl ?_
      refine A_pc (pc' := 27) rfl ?_
      obtain ⟨hg9, h⟩ := gk_out h
      obtain ⟨q10, M11, hcq10, h⟩ := bnd_out h
      refine A_callV (as := [vI (Int64.toInt32 (-(gJ M3 a1 1)))]) (st' := []) (r1 := (some (vA q10), M11)) rfl ml_Worker_121 rfl (by decide) hg9 (Or.inl rfl) rfl rfl (Nat.le_of_ble_eq_true rfl) (by decide) (c_Val_beInt hcq10) (Or.inl rfl) ?_
      refine A_pc (pc' := 30) rfl ?_
      refine A_stk (st' := [vA q10]) rfl ?_
      refine A_goto (tgt := 42) rfl (by decide) ?_
      obtain ⟨rfl, rfl⟩ := leaf h
      exact A_aret rfl rfl
  · rw [if_pos hc4] at h
    refine A_pc (pc' := 7) rfl ?_
    refine A_aload_n 0 rfl rfl rfl ?_
    refine A_getL (r := 70) rfl fl_Worker_18 rfl (by decide) rfl rfl ?_
    obtain ⟨rfl, rfl⟩ := leaf h
    exact A_aret rfl rfl
def tb_Worker_sizeOf : List (Nat × Instr × Nat) := [(0, .aload_n 1, 1), (1, .invokevirtual 167, 3), (4, .ifCond .eq 17, 3), (7, .aload_n 2, 1), (8, .aload_n 1, 1), (9, .getfield 173, 3), (12, .getfield 183, 3), (15, .invokevirtual 121, 3), (18, .goto 7, 3), (21, .aload_n 0, 1), (22, .getfield 18, 3), (25, .areturn, 1)]
def Y_Worker_sizeOf : ax_Y := (⟨"MethodWarden$Worker", "sizeOf", "(LMethodWarden$Value;LMethodWarden$Value;)LMethodWarden$Value;"⟩, prog_12_method_17_code, 3, some (.object "MethodWarden$Value"), tb_Worker_sizeOf)
theorem yok_Worker_sizeOf : yOK Y_Worker_sizeOf := ⟨by decide +kernel, by decide +kernel, inWG 952 (by decide +kernel) (by decide +kernel), inWG 102 (by decide +kernel) (by decide +kernel), by decide +kernel⟩
theorem fl_Worker_173 : fldOK "MethodWarden$Worker" 173 7 2 true := ⟨_, _, _, cls_Val, by decide, by decide, rfl, Or.inr ⟨"MethodWarden", inNW 276 (by decide +kernel) (by decide +kernel)⟩⟩
theorem fl_Worker_183 : fldOK "MethodWarden$Worker" 183 5 1 false := ⟨_, _, _, cls_Items, by decide, by decide, rfl, Or.inr ⟨"MethodWarden", inNW 247 (by decide +kernel) (by decide +kernel)⟩⟩
theorem ml_Worker_167 : mlV "MethodWarden$Worker" 167 Y_Val_isList 0 := ⟨⟨yok_Val_isList, by decide +kernel, by decide⟩, Or.inl (inWG 886 (by decide +kernel) (by decide +kernel)), inWG 887 (by decide +kernel) (by decide +kernel), inWG 888 (by decide +kernel) (by decide +kernel)⟩
def f_Worker_sizeOf (a1 : Nat) (a2 : Nat) (M : ax_M) : Option (Nat × ax_M) :=
  gk a1 7 (bnd (f_Val_isList a1 M) (fun q2 M3 => if q2 = 0 then (some (70, M3)) else (gk a2 7 (bnd (f_Val_beInt a2 (gI M3 (a1 + 1) 1) M3) (fun q6 M7 => some (q6, M7))))))
set_option maxHeartbeats 4000000 in
set_option maxRecDepth 100000 in
theorem c_Worker_sizeOf {l : Launch} {g : ax_G} {a1 : Nat} {a2 : Nat} {M : ax_M} {r : Nat} {M' : ax_M} (h : f_Worker_sizeOf a1 a2 M = some (r, M')) : Ctr l g true Y_Worker_sizeOf 2 [vA 68, vA a1, vA a2] M (some (vA r), M') := by
  refine Ctr.ofAW yok_Worker_sizeOf (Nat.le_of_ble_eq_true rfl) (Or.inl rfl) ?_
  show AW l g true Y_Worker_sizeOf 2 (some (vA r), M') 0 [(0, vA 68), (1, vA a1), (2, vA a2)] [] M
  unfold f_Worker_sizeOf at h
  refine A_aload_n 1 rfl rfl rfl ?_
  obtain ⟨hg1, h⟩ := gk_out h
  obtain ⟨q2, M3, hcq2, h⟩ := bnd_out h
  refine A_callV (as := []) (st' := []) (r1 := (some (vI q2), M3)) rfl ml_Worker_167 rfl (by decide) hg1 (Or.inl rfl) rfl rfl (Nat.le_of_ble_eq_true rfl) (by decide) (c_Val_isList hcq2) (Or.inl rfl) ?_
  refine A_pc (pc' := 4) rfl ?_
  refine A_stk (st' := [vI q2]) rfl ?_
  refine A_if_eq (tgt := 21) rfl (by decide) (fun hc4 => ?_) (fun hc4 => ?_)
  · rw [if_pos hc4] at h
    refine A_aload_n 0 rfl rfl rfl ?_
    refine A_getL (r := 70) rfl fl_Worker_18 rfl (by decide) rfl rfl ?_
    obtain ⟨rfl, rfl⟩ := leaf h
    exact A_aret rfl rfl
  · rw [if_neg hc4] at h
    refine A_pc (pc' := 7) rfl ?_
    refine A_aload_n 2 rfl rfl rfl ?_
    refine A_aload_n 1 rfl rfl rfl ?_
    refine A_getL (r := a1 + 1) rfl fl_Worker_173 rfl hg1 rfl rfl ?_
    refine A_getI rfl fl_Worker_183 rfl (lf_Val_1 hg1).1 (Or.inl rfl) ?_
    obtain ⟨hg5, h⟩ := gk_out h
    obtain ⟨q6, M7, hcq6, h⟩ := bnd_out h
    refine A_callV (as := [vI (gI M3 (a1 + 1) 1)]) (st' := []) (r1 := (some (vA q6), M7)) rfl ml_Worker_121 rfl (by decide) hg5 (Or.inl rfl) rfl rfl (Nat.le_of_ble_eq_true rfl) (by decide) (c_Val_beInt hcq6) (Or.inl rfl) ?_
    refine A_pc (pc' := 18) rfl ?_
    refine A_stk (st' := [vA q6]) rfl ?_
    refine A_pc (pc' := 18) rfl ?_
    refine A_goto (tgt := 25) rfl (by decide) ?_
    obtain ⟨rfl, rfl⟩ := leaf h
    exact A_aret rfl rfl
def tb_Worker_valueOfOne : List (Nat × Instr × Nat) := [(0, .iload_n 1, 1), (1, .lookupswitch 144 #[(13, 89), (14, 137), (34, 58), (41, 51), (43, 119)], 51), (52, .aload_n 0, 1), (53, .aload_n 2, 1), (54, .aload_n 3, 1), (55, .invokevirtual 195, 3), (58, .areturn, 1), (59, .aload_n 2, 1), (60, .invokevirtual 155, 3), (63, .ifCond .eq 22, 3), (66, .aload_n 3, 1), (67, .aload_n 2, 1), (68, .invokevirtual 158, 3), (71, .ifCond .ne 7, 3), (74, .iconst 1, 1), (75, .goto 4, 3), (78, .iconst 0, 1), (79, .invokevirtual 128, 3), (82, .goto 7, 3), (85, .aload_n 0, 1), (86, .getfield 18, 3), (89, .areturn, 1), (90, .aload_n 2, 1), (91, .invokevirtual 199, 3), (94, .ifCond .eq 21, 3), (97, .aload_n 3, 1), (98, .aload_n 0, 1), (99, .getfield 29, 3), (102, .aload_n 2, 1), (103, .getfield 202, 3), (106, .invokevirtual 204, 3), (109, .invokevirtual 128, 3), (112, .goto 7, 3), (115, .aload_n 0, 1), (116, .getfield 18, 3), (119, .areturn, 1), (120, .aload_n 2, 1), (121, .invokevirtual 164, 3), (124, .ifCond .eq 7, 3), (127, .aload_n 2, 1), (128, .goto 9, 3), (131, .aload_n 0, 1), (132, .aload_n 2, 1), (133, .aload_n 3, 1), (134, .invokevirtual 208, 3), (137, .areturn, 1), (138, .aload_n 0, 1), (139, .aload_n 2, 1), (140, .aload_n 3, 1), (141, .invokevirtual 208, 3), (144, .areturn, 1), (145, .aload_n 0, 1), (146, .getfield 18, 3), (149, .areturn, 1)]
def Y_Worker_valueOfOne : ax_Y := (⟨"MethodWarden$Worker", "valueOfOne", "(ILMethodWarden$Value;LMethodWarden$Value;)LMethodWarden$Value;"⟩, prog_12_method_15_code, 4, some (.object "MethodWarden$Value"), tb_Worker_valueOfOne)
theorem yok_Worker_valueOfOne : yOK Y_Worker_valueOfOne := ⟨by decide +kernel, by decide +kernel, inWG 934 (by decide +kernel) (by decide +kernel), inWG 102 (by decide +kernel) (by decide +kernel), by decide +kernel⟩
theorem ml_Worker_204 : mlV "MethodWarden$Worker" 204 Y_Ctx_reaches 1 := ⟨⟨yok_Ctx_reaches, by decide +kernel, by decide⟩, Or.inl (inWG 943 (by decide +kernel) (by decide +kernel)), inWG 944 (by decide +kernel) (by decide +kernel), inWG 945 (by decide +kernel) (by decide +kernel)⟩
theorem ml_Worker_208 : mlV "MethodWarden$Worker" 208 Y_Worker_sizeOf 2 := ⟨⟨yok_Worker_sizeOf, by decide +kernel, by decide⟩, Or.inl (inWG 949 (by decide +kernel) (by decide +kernel)), inWG 951 (by decide +kernel) (by decide +kernel), inWG 44 (by decide +kernel) (by decide +kernel)⟩
theorem ml_Worker_155 : mlV "MethodWarden$Worker" 155 Y_Val_isTruth 0 := ⟨⟨yok_Val_isTruth, by decide +kernel, by decide⟩, Or.inl (inWG 862 (by decide +kernel) (by decide +kernel)), inWG 863 (by decide +kernel) (by decide +kernel), inWG 864 (by decide +kernel) (by decide +kernel)⟩
theorem ml_Worker_158 : mlV "MethodWarden$Worker" 158 Y_Val_isTrue 0 := ⟨⟨yok_Val_isTrue, by decide +kernel, by decide⟩, Or.inl (inWG 866 (by decide +kernel) (by decide +kernel)), inWG 867 (by decide +kernel) (by decide +kernel), inWG 868 (by decide +kernel) (by decide +kernel)⟩
theorem ml_Worker_195 : mlV "MethodWarden$Worker" 195 Y_Worker_negated 2 := ⟨⟨yok_Worker_negated, by decide +kernel, by decide⟩, Or.inl (inWG 935 (by decide +kernel) (by decide +kernel)), inWG 937 (by decide +kernel) (by decide +kernel), inWG 43 (by decide +kernel) (by decide +kernel)⟩
theorem ml_Worker_164 : mlV "MethodWarden$Worker" 164 Y_Val_isNothing 0 := ⟨⟨yok_Val_isNothing, by decide +kernel, by decide⟩, Or.inl (inWG 878 (by decide +kernel) (by decide +kernel)), inWG 879 (by decide +kernel) (by decide +kernel), inWG 880 (by decide +kernel) (by decide +kernel)⟩
def f_Worker_valueOfOne (a1 : Int32) (a2 : Nat) (a3 : Nat) (M : ax_M) : Option (Nat × ax_M) :=
  if a1 = 13 then (gk a2 7 (bnd (f_Val_isNumber a2 M) (fun q3 M4 => if q3 = 0 then (some (70, M4)) else (bnd (f_Ctx_reaches (gJ M4 a2 1) M4) (fun q6 M7 => gk a3 7 (bnd (f_Val_beTruth a3 q6 M7) (fun q9 M10 => some (q9, M10)))))))) else (if a1 = 14 then (bnd (f_Worker_sizeOf a2 a3 M) (fun q12 M13 => some (q12, M13))) else (if a1 = 34 then (gk a2 7 (bnd (f_Val_isTruth a2 M) (fun q16 M17 => if q16 = 0 then (some (70, M17)) else (bnd (f_Val_isTrue a2 M17) (fun q19 M20 => if q19 = 0 then (gk a3 7 (bnd (f_Val_beTruth a3 1 M20) (fun q26 M27 => some (q26, M27)))) else (gk a3 7 (bnd (f_Val_beTruth a3 0 M20) (fun q23 M24 => some (q23, M24))))))))) else (if a1 = 41 then (bnd (f_Worker_negated a2 a3 M) (fun q29 M30 => some (q29, M30))) else (if a1 = 43 then (gk a2 7 (bnd (f_Val_isNothing a2 M) (fun q33 M34 => if q33 = 0 then (bnd (f_Worker_sizeOf a2 a3 M34) (fun q36 M37 => some (q36, M37))) else (some (a2, M34))))) else (some (70, M))))))
set_option maxHeartbeats 4000000 in
set_option maxRecDepth 100000 in
theorem c_Worker_valueOfOne {l : Launch} {g : ax_G} {a1 : Int32} {a2 : Nat} {a3 : Nat} {M : ax_M} {r : Nat} {M' : ax_M} (h : f_Worker_valueOfOne a1 a2 a3 M = some (r, M')) : Ctr l g true Y_Worker_valueOfOne 3 [vA 68, vI a1, vA a2, vA a3] M (some (vA r), M') := by
  refine Ctr.ofAW yok_Worker_valueOfOne (Nat.le_of_ble_eq_true rfl) (Or.inl rfl) ?_
  show AW l g true Y_Worker_valueOfOne 3 (some (vA r), M') 0 [(0, vA 68), (1, vI a1), (2, vA a2), (3, vA a3)] [] M
  unfold f_Worker_valueOfOne at h
  refine A_iload_n 1 rfl rfl rfl ?_
  by_cases hc1 : a1 = 13
  · rw [if_pos hc1] at h
    refine A_lookup (tgt := 90) (off := 89) rfl (by decide) (by rw [hc1]; decide) (by decide) ?_
    refine A_aload_n 2 rfl rfl rfl ?_
    obtain ⟨hg2, h⟩ := gk_out h
    obtain ⟨q3, M4, hcq3, h⟩ := bnd_out h
    refine A_callV (as := []) (st' := []) (r1 := (some (vI q3), M4)) rfl ml_Worker_199 rfl (by decide) hg2 (Or.inl rfl) rfl rfl (Nat.le_of_ble_eq_true rfl) (by decide) (c_Val_isNumber hcq3) (Or.inl rfl) ?_
    refine A_pc (pc' := 94) rfl ?_
    refine A_stk (st' := [vI q3]) rfl ?_
    refine A_if_eq (tgt := 115) rfl (by decide) (fun hc5 => ?_) (fun hc5 => ?_)
    · rw [if_pos hc5] at h
      refine A_aload_n 0 rfl rfl rfl ?_
      refine A_getL (r := 70) rfl fl_Worker_18 rfl (by decide) rfl rfl ?_
      obtain ⟨rfl, rfl⟩ := leaf h
      exact A_aret rfl rfl
    · rw [if_neg hc5] at h
      refine A_pc (pc' := 97) rfl ?_
      refine A_aload_n 3 rfl rfl rfl ?_
      refine A_aload_n 0 rfl rfl rfl ?_
      refine A_getL (r := 63) rfl fl_Worker_29 rfl (by decide) rfl rfl ?_
      refine A_aload_n 2 rfl rfl rfl ?_
      refine A_getJ rfl fl_Worker_202 rfl hg2 (Or.inl rfl) ?_
      refine A_pc (pc' := 106) rfl ?_
      obtain ⟨q6, M7, hcq6, h⟩ := bnd_out h
      refine A_callV (as := [vJ (gJ M4 a2 1)]) (st' := [vA a3]) (r1 := (some (vI q6), M7)) rfl ml_Worker_204 rfl (by decide) (by decide) (Or.inl rfl) rfl rfl (Nat.le_of_ble_eq_true rfl) (by decide) (c_Ctx_reaches hcq6) (Or.inl rfl) ?_
      refine A_pc (pc' := 109) rfl ?_
      refine A_stk (st' := [vI q6, vA a3]) rfl ?_
      obtain ⟨hg8, h⟩ := gk_out h
      obtain ⟨q9, M10, hcq9, h⟩ := bnd_out h
      refine A_callV (as := [vI q6]) (st' := []) (r1 := (some (vA q9), M10)) rfl ml_Worker_128 rfl (by decide) hg8 (Or.inl rfl) rfl rfl (Nat.le_of_ble_eq_true rfl) (by decide) (c_Val_beTruth hcq9) (Or.inl rfl) ?_
      refine A_pc (pc' := 112) rfl ?_
      refine A_stk (st' := [vA q9]) rfl ?_
      refine A_goto (tgt := 119) rfl (by decide) ?_
      obtain ⟨rfl, rfl⟩ := leaf h
      exact A_aret rfl rfl
  · rw [if_neg hc1] at h
    by_cases hc11 : a1 = 14
    · rw [if_pos hc11] at h
      refine A_lookup (tgt := 138) (off := 137) rfl (by decide) (by rw [hc11]; decide) (by decide) ?_
      refine A_aload_n 0 rfl rfl rfl ?_
      refine A_aload_n 2 rfl rfl rfl ?_
      refine A_aload_n 3 rfl rfl rfl ?_
      obtain ⟨q12, M13, hcq12, h⟩ := bnd_out h
      refine A_callV (as := [vA a2, vA a3]) (st' := []) (r1 := (some (vA q12), M13)) rfl ml_Worker_208 rfl (by decide) (by decide) (Or.inl rfl) rfl rfl (Nat.le_of_ble_eq_true rfl) (by decide) (c_Worker_sizeOf hcq12) (Or.inl rfl) ?_
      refine A_pc (pc' := 144) rfl ?_
      refine A_stk (st' := [vA q12]) rfl ?_
      obtain ⟨rfl, rfl⟩ := leaf h
      exact A_aret rfl rfl
    · rw [if_neg hc11] at h
      by_cases hc14 : a1 = 34
      · rw [if_pos hc14] at h
        refine A_lookup (tgt := 59) (off := 58) rfl (by decide) (by rw [hc14]; decide) (by decide) ?_
        refine A_aload_n 2 rfl rfl rfl ?_
        obtain ⟨hg15, h⟩ := gk_out h
        obtain ⟨q16, M17, hcq16, h⟩ := bnd_out h
        refine A_callV (as := []) (st' := []) (r1 := (some (vI q16), M17)) rfl ml_Worker_155 rfl (by decide) hg15 (Or.inl rfl) rfl rfl (Nat.le_of_ble_eq_true rfl) (by decide) (c_Val_isTruth hcq16) (Or.inl rfl) ?_
        refine A_pc (pc' := 63) rfl ?_
        refine A_stk (st' := [vI q16]) rfl ?_
        refine A_if_eq (tgt := 85) rfl (by decide) (fun hc18 => ?_) (fun hc18 => ?_)
        · rw [if_pos hc18] at h
          refine A_aload_n 0 rfl rfl rfl ?_
          refine A_getL (r := 70) rfl fl_Worker_18 rfl (by decide) rfl rfl ?_
          obtain ⟨rfl, rfl⟩ := leaf h
          exact A_aret rfl rfl
        · rw [if_neg hc18] at h
          refine A_pc (pc' := 66) rfl ?_
          refine A_aload_n 3 rfl rfl rfl ?_
          refine A_aload_n 2 rfl rfl rfl ?_
          obtain ⟨q19, M20, hcq19, h⟩ := bnd_out h
          refine A_callV (as := []) (st' := [vA a3]) (r1 := (some (vI q19), M20)) rfl ml_Worker_158 rfl (by decide) hg15 (Or.inl rfl) rfl rfl (Nat.le_of_ble_eq_true rfl) (by decide) (c_Val_isTrue hcq19) (Or.inl rfl) ?_
          refine A_pc (pc' := 71) rfl ?_
          refine A_stk (st' := [vI q19, vA a3]) rfl ?_
          refine A_if_ne (tgt := 78) rfl (by decide) (fun hc21 => ?_) (fun hc21 => ?_)
          · rw [if_neg hc21] at h
            refine A_iconst (v := 0) rfl (by decide) ?_
            obtain ⟨hg22, h⟩ := gk_out h
            obtain ⟨q23, M24, hcq23, h⟩ := bnd_out h
            refine A_callV (as := [vI 0]) (st' := []) (r1 := (some (vA q23), M24)) rfl ml_Worker_128 rfl (by decide) hg22 (Or.inl rfl) rfl rfl (Nat.le_of_ble_eq_true rfl) (by decide) (c_Val_beTruth hcq23) (Or.inl rfl) ?_
            refine A_pc (pc' := 82) rfl ?_
            refine A_stk (st' := [vA q23]) rfl ?_
            refine A_goto (tgt := 89) rfl (by decide) ?_
            obtain ⟨rfl, rfl⟩ := leaf h
            exact A_aret rfl rfl
          · rw [if_pos hc21] at h
            refine A_pc (pc' := 74) rfl ?_
            refine A_iconst (v := 1) rfl (by decide) ?_
            refine A_goto (tgt := 79) rfl (by decide) ?_
            obtain ⟨hg25, h⟩ := gk_out h
            obtain ⟨q26, M27, hcq26, h⟩ := bnd_out h
            refine A_callV (as := [vI 1]) (st' := []) (r1 := (some (vA q26), M27)) rfl ml_Worker_128 rfl (by decide) hg25 (Or.inl rfl) rfl rfl (Nat.le_of_ble_eq_true rfl) (by decide) (c_Val_beTruth hcq26) (Or.inl rfl) ?_
            refine A_pc (pc' := 82) rfl ?_
            refine A_stk (st' := [vA q26]) rfl ?_
            refine A_goto (tgt := 89) rfl (by decide) ?_
            obtain ⟨rfl, rfl⟩ := leaf h
            exact A_aret rfl rfl
      · rw [if_neg hc14] at h
        by_cases hc28 : a1 = 41
        · rw [if_pos hc28] at h
          refine A_lookup (tgt := 52) (off := 51) rfl (by decide) (by rw [hc28]; decide) (by decide) ?_
          refine A_aload_n 0 rfl rfl rfl ?_
          refine A_aload_n 2 rfl rfl rfl ?_
          refine A_aload_n 3 rfl rfl rfl ?_
          obtain ⟨q29, M30, hcq29, h⟩ := bnd_out h
          refine A_callV (as := [vA a2, vA a3]) (st' := []) (r1 := (some (vA q29), M30)) rfl ml_Worker_195 rfl (by decide) (by decide) (Or.inl rfl) rfl rfl (Nat.le_of_ble_eq_true rfl) (by decide) (c_Worker_negated hcq29) (Or.inl rfl) ?_
          refine A_pc (pc' := 58) rfl ?_
          refine A_stk (st' := [vA q29]) rfl ?_
          obtain ⟨rfl, rfl⟩ := leaf h
          exact A_aret rfl rfl
        · rw [if_neg hc28] at h
          by_cases hc31 : a1 = 43
          · rw [if_pos hc31] at h
            refine A_lookup (tgt := 120) (off := 119) rfl (by decide) (by rw [hc31]; decide) (by decide) ?_
            refine A_aload_n 2 rfl rfl rfl ?_
            obtain ⟨hg32, h⟩ := gk_out h
            obtain ⟨q33, M34, hcq33, h⟩ := bnd_out h
            refine A_callV (as := []) (st' := []) (r1 := (some (vI q33), M34)) rfl ml_Worker_164 rfl (by decide) hg32 (Or.inl rfl) rfl rfl (Nat.le_of_ble_eq_true rfl) (by decide) (c_Val_isNothing hcq33) (Or.inl rfl) ?_
            refine A_pc (pc' := 124) rfl ?_
            refine A_stk (st' := [vI q33]) rfl ?_
            refine A_if_eq (tgt := 131) rfl (by decide) (fun hc35 => ?_) (fun hc35 => ?_)
            · rw [if_pos hc35] at h
              refine A_aload_n 0 rfl rfl rfl ?_
              refine A_aload_n 2 rfl rfl rfl ?_
              refine A_aload_n 3 rfl rfl rfl ?_
              obtain ⟨q36, M37, hcq36, h⟩ := bnd_out h
              refine A_callV (as := [vA a2, vA a3]) (st' := []) (r1 := (some (vA q36), M37)) rfl ml_Worker_208 rfl (by decide) (by decide) (Or.inl rfl) rfl rfl (Nat.le_of_ble_eq_true rfl) (by decide) (c_Worker_sizeOf hcq36) (Or.inl rfl) ?_
              refine A_pc (pc' := 137) rfl ?_
              refine A_stk (st' := [vA q36]) rfl ?_
              obtain ⟨rfl, rfl⟩ := leaf h
              exact A_aret rfl rfl
            · rw [if_neg hc35] at h
              refine A_pc (pc' := 127) rfl ?_
              refine A_aload_n 2 rfl rfl rfl ?_
              refine A_goto (tgt := 137) rfl (by decide) ?_
              obtain ⟨rfl, rfl⟩ := leaf h
              exact A_aret rfl rfl
          · rw [if_neg hc31] at h
            refine A_lookup (tgt := 145) rfl (by decide) (lk_def _ _ _ (fa_cons (ne_i hc1 (by decide)) (fa_cons (ne_i hc11 (by decide)) (fa_cons (ne_i hc14 (by decide)) (fa_cons (ne_i hc28 (by decide)) (fa_cons (ne_i hc31 (by decide)) fa_nil)))))) (by decide) ?_
            refine A_aload_n 0 rfl rfl rfl ?_
            refine A_getL (r := 70) rfl fl_Worker_18 rfl (by decide) rfl rfl ?_
            obtain ⟨rfl, rfl⟩ := leaf h
            exact A_aret rfl rfl
def tb_Worker_itemOf : List (Nat × Instr × Nat) := [(0, .aload_n 1, 1), (1, .invokevirtual 167, 3), (4, .ifCond .eq 24, 3), (7, .aload_n 2, 1), (8, .invokevirtual 199, 3), (11, .ifCond .eq 17, 3), (14, .aload_n 1, 1), (15, .getfield 173, 3), (18, .aload_n 2, 1), (19, .getfield 202, 3), (22, .invokevirtual 224, 3), (25, .ifCond .ne 8, 3), (28, .aload_n 0, 1), (29, .getfield 18, 3), (32, .areturn, 1), (33, .aload_n 3, 1), (34, .aload_n 1, 1), (35, .getfield 173, 3), (38, .aload_n 2, 1), (39, .getfield 202, 3), (42, .l2i, 1), (43, .invokevirtual 184, 3), (46, .invokevirtual 121, 3), (49, .areturn, 1)]
def Y_Worker_itemOf : ax_Y := (⟨"MethodWarden$Worker", "itemOf", "(LMethodWarden$Value;LMethodWarden$Value;LMethodWarden$Value;)LMethodWarden$Value;"⟩, prog_12_method_19_code, 4, some (.object "MethodWarden$Value"), tb_Worker_itemOf)
theorem yok_Worker_itemOf : yOK Y_Worker_itemOf := ⟨by decide +kernel, by decide +kernel, inWG 970 (by decide +kernel) (by decide +kernel), inWG 102 (by decide +kernel) (by decide +kernel), by decide +kernel⟩
theorem ml_Worker_224 : mlV "MethodWarden$Worker" 224 Y_Items_has 1 := ⟨⟨yok_Items_has, by decide +kernel, by decide⟩, Or.inl (inWG 971 (by decide +kernel) (by decide +kernel)), inWG 972 (by decide +kernel) (by decide +kernel), inWG 973 (by decide +kernel) (by decide +kernel)⟩
theorem ml_Worker_184 : mlV "MethodWarden$Worker" 184 Y_Items_get 1 := ⟨⟨yok_Items_get, by decide +kernel, by decide⟩, Or.inl (inWG 846 (by decide +kernel) (by decide +kernel)), inWG 847 (by decide +kernel) (by decide +kernel), inWG 848 (by decide +kernel) (by decide +kernel)⟩
def f_Worker_itemOf (a1 : Nat) (a2 : Nat) (a3 : Nat) (M : ax_M) : Option (Nat × ax_M) :=
  gk a1 7 (bnd (f_Val_isList a1 M) (fun q2 M3 => if q2 = 0 then (some (70, M3)) else (gk a2 7 (bnd (f_Val_isNumber a2 M3) (fun q6 M7 => if q6 = 0 then (some (70, M7)) else (bnd (f_Items_has (a1 + 1) (gJ M7 a2 1) M7) (fun q9 M10 => if q9 = 0 then (some (70, M10)) else (bnd (f_Items_get (a1 + 1) (Int64.toInt32 (gJ M10 a2 1)) M10) (fun q12 M13 => gk a3 7 (bnd (f_Val_beInt a3 q12 M13) (fun q15 M16 => some (q15, M16))))))))))))
set_option maxHeartbeats 4000000 in
set_option maxRecDepth 100000 in
theorem c_Worker_itemOf {l : Launch} {g : ax_G} {a1 : Nat} {a2 : Nat} {a3 : Nat} {M : ax_M} {r : Nat} {M' : ax_M} (h : f_Worker_itemOf a1 a2 a3 M = some (r, M')) : Ctr l g true Y_Worker_itemOf 2 [vA 68, vA a1, vA a2, vA a3] M (some (vA r), M') := by
  refine Ctr.ofAW yok_Worker_itemOf (Nat.le_of_ble_eq_true rfl) (Or.inl rfl) ?_
  show AW l g true Y_Worker_itemOf 2 (some (vA r), M') 0 [(0, vA 68), (1, vA a1), (2, vA a2), (3, vA a3)] [] M
  unfold f_Worker_itemOf at h
  refine A_aload_n 1 rfl rfl rfl ?_
  obtain ⟨hg1, h⟩ := gk_out h
  obtain ⟨q2, M3, hcq2, h⟩ := bnd_out h
  refine A_callV (as := []) (st' := []) (r1 := (some (vI q2), M3)) rfl ml_Worker_167 rfl (by decide) hg1 (Or.inl rfl) rfl rfl (Nat.le_of_ble_eq_true rfl) (by decide) (c_Val_isList hcq2) (Or.inl rfl) ?_
  refine A_pc (pc' := 4) rfl ?_
  refine A_stk (st' := [vI q2]) rfl ?_
  refine A_if_eq (tgt := 28) rfl (by decide) (fun hc4 => ?_) (fun hc4 => ?_)
  · rw [if_pos hc4] at h
    refine A_aload_n 0 rfl rfl rfl ?_
    refine A_getL (r := 70) rfl fl_Worker_18 rfl (by decide) rfl rfl ?_
    obtain ⟨rfl, rfl⟩ := leaf h
    exact A_aret rfl rfl
  · rw [if_neg hc4] at h
    refine A_pc (pc' := 7) rfl ?_
    refine A_aload_n 2 rfl rfl rfl ?_
    obtain ⟨hg5, h⟩ := gk_out h
    obtain ⟨q6, M7, hcq6, h⟩ := bnd_out h
    refine A_callV (as := []) (st' := []) (r1 := (some (vI q6), M7)) rfl ml_Worker_199 rfl (by decide) hg5 (Or.inl rfl) rfl rfl (Nat.le_of_ble_eq_true rfl) (by decide) (c_Val_isNumber hcq6) (Or.inl rfl) ?_
    refine A_pc (pc' := 11) rfl ?_
    refine A_stk (st' := [vI q6]) rfl ?_
    refine A_if_eq (tgt := 28) rfl (by decide) (fun hc8 => ?_) (fun hc8 => ?_)
    · rw [if_pos hc8] at h
      refine A_aload_n 0 rfl rfl rfl ?_
      refine A_getL (r := 70) rfl fl_Worker_18 rfl (by decide) rfl rfl ?_
      obtain ⟨rfl, rfl⟩ := leaf h
      exact A_aret rfl rfl
    · rw [if_neg hc8] at h
      refine A_pc (pc' := 14) rfl ?_
      refine A_aload_n 1 rfl rfl rfl ?_
      refine A_getL (r := a1 + 1) rfl fl_Worker_173 rfl hg1 rfl rfl ?_
      refine A_aload_n 2 rfl rfl rfl ?_
      refine A_getJ rfl fl_Worker_202 rfl hg5 (Or.inl rfl) ?_
      obtain ⟨q9, M10, hcq9, h⟩ := bnd_out h
      refine A_callV (as := [vJ (gJ M7 a2 1)]) (st' := []) (r1 := (some (vI q9), M10)) rfl ml_Worker_224 rfl (by decide) (lf_Val_1 hg1).1 (Or.inl rfl) rfl rfl (Nat.le_of_ble_eq_true rfl) (by decide) (c_Items_has hcq9) (Or.inl rfl) ?_
      refine A_pc (pc' := 25) rfl ?_
      refine A_stk (st' := [vI q9]) rfl ?_
      refine A_pc (pc' := 25) rfl ?_
      refine A_if_ne (tgt := 33) rfl (by decide) (fun hc11 => ?_) (fun hc11 => ?_)
      · rw [if_neg hc11] at h
        refine A_aload_n 3 rfl rfl rfl ?_
        refine A_aload_n 1 rfl rfl rfl ?_
        refine A_getL (r := a1 + 1) rfl fl_Worker_173 rfl hg1 rfl rfl ?_
        refine A_aload_n 2 rfl rfl rfl ?_
        refine A_getJ rfl fl_Worker_202 rfl hg5 (Or.inl rfl) ?_
        refine A_pc (pc' := 42) rfl ?_
        refine A_l2i rfl ?_
        obtain ⟨q12, M13, hcq12, h⟩ := bnd_out h
        refine A_callV (as := [vI (Int64.toInt32 (gJ M10 a2 1))]) (st' := [vA a3]) (r1 := (some (vI q12), M13)) rfl ml_Worker_184 rfl (by decide) (lf_Val_1 hg1).1 (Or.inl rfl) rfl rfl (Nat.le_of_ble_eq_true rfl) (by decide) (c_Items_get hcq12) (Or.inl rfl) ?_
        refine A_pc (pc' := 46) rfl ?_
        refine A_stk (st' := [vI q12, vA a3]) rfl ?_
        obtain ⟨hg14, h⟩ := gk_out h
        obtain ⟨q15, M16, hcq15, h⟩ := bnd_out h
        refine A_callV (as := [vI q12]) (st' := []) (r1 := (some (vA q15), M16)) rfl ml_Worker_121 rfl (by decide) hg14 (Or.inl rfl) rfl rfl (Nat.le_of_ble_eq_true rfl) (by decide) (c_Val_beInt hcq15) (Or.inl rfl) ?_
        refine A_pc (pc' := 49) rfl ?_
        refine A_stk (st' := [vA q15]) rfl ?_
        obtain ⟨rfl, rfl⟩ := leaf h
        exact A_aret rfl rfl
      · rw [if_pos hc11] at h
        refine A_pc (pc' := 28) rfl ?_
        refine A_aload_n 0 rfl rfl rfl ?_
        refine A_getL (r := 70) rfl fl_Worker_18 rfl (by decide) rfl rfl ?_
        obtain ⟨rfl, rfl⟩ := leaf h
        exact A_aret rfl rfl
def tb_Worker_reckoned : List (Nat × Instr × Nat) := [(0, .iload_n 0, 1), (1, .tableswitch 75 29 33 #[35, 39, 43, 47, 61], 35), (36, .lload_n 1, 1), (37, .lload_n 3, 1), (38, .ladd, 1), (39, .lreturn, 1), (40, .lload_n 1, 1), (41, .lload_n 3, 1), (42, .lsub, 1), (43, .lreturn, 1), (44, .lload_n 1, 1), (45, .lload_n 3, 1), (46, .lmul, 1), (47, .lreturn, 1), (48, .lload_n 3, 1), (49, .lconst 0, 1), (50, .lcmp, 1), (51, .ifCond .ne 7, 3), (54, .lconst 0, 1), (55, .goto 6, 3), (58, .lload_n 1, 1), (59, .lload_n 3, 1), (60, .ldiv, 1), (61, .lreturn, 1), (62, .lload_n 3, 1), (63, .lconst 0, 1), (64, .lcmp, 1), (65, .ifCond .ne 7, 3), (68, .lconst 0, 1), (69, .goto 6, 3), (72, .lload_n 1, 1), (73, .lload_n 3, 1), (74, .lrem, 1), (75, .lreturn, 1), (76, .lconst 0, 1), (77, .lreturn, 1)]
def Y_Worker_reckoned : ax_Y := (⟨"MethodWarden$Worker", "reckoned", "(IJJ)J"⟩, prog_12_method_21_code, 5, some .long, tb_Worker_reckoned)
theorem yok_Worker_reckoned : yOK Y_Worker_reckoned := ⟨by decide +kernel, by decide +kernel, inWG 981 (by decide +kernel) (by decide +kernel), inWG 102 (by decide +kernel) (by decide +kernel), by decide +kernel⟩
def f_Worker_reckoned (a0 : Int32) (a1 : Int64) (a2 : Int64) (M : ax_M) : Option (Int64 × ax_M) :=
  if a0 = 29 then (some (a1 + a2, M)) else (if a0 = 30 then (some (a1 - a2, M)) else (if a0 = 31 then (some (a1 * a2, M)) else (if a0 = 32 then (if (lg_cmp a2 0) = 0 then (some (0, M)) else (gz a2 (some (a1 / a2, M)))) else (if a0 = 33 then (if (lg_cmp a2 0) = 0 then (some (0, M)) else (gz a2 (some (a1 - a1 / a2 * a2, M)))) else (some (0, M))))))
set_option maxHeartbeats 4000000 in
set_option maxRecDepth 100000 in
theorem c_Worker_reckoned {l : Launch} {g : ax_G} {a0 : Int32} {a1 : Int64} {a2 : Int64} {M : ax_M} {r : Int64} {M' : ax_M} (h : f_Worker_reckoned a0 a1 a2 M = some (r, M')) : Ctr l g true Y_Worker_reckoned 1 [vI a0, vJ a1, vJ a2] M (some (vJ r), M') := by
  refine Ctr.ofAW yok_Worker_reckoned (Nat.le_of_ble_eq_true rfl) (Or.inl rfl) ?_
  show AW l g true Y_Worker_reckoned 1 (some (vJ r), M') 0 [(0, vI a0), (1, vJ a1), (3, vJ a2)] [] M
  unfold f_Worker_reckoned at h
  refine A_iload_n 0 rfl rfl rfl ?_
  by_cases hc1 : a0 = 29
  · rw [if_pos hc1] at h
    refine A_tableIn (tgt := 36) (off := 35) rfl (by rw [hc1]; decide) (by rw [hc1]; decide) (by rw [hc1]; rfl) (by decide) ?_
    refine A_lload_n 1 rfl rfl rfl ?_
    refine A_lload_n 2 rfl rfl rfl ?_
    refine A_ladd rfl ?_
    obtain ⟨rfl, rfl⟩ := leaf h
    exact A_lret rfl rfl
  · rw [if_neg hc1] at h
    by_cases hc2 : a0 = 30
    · rw [if_pos hc2] at h
      refine A_tableIn (tgt := 40) (off := 39) rfl (by rw [hc2]; decide) (by rw [hc2]; decide) (by rw [hc2]; rfl) (by decide) ?_
      refine A_lload_n 1 rfl rfl rfl ?_
      refine A_lload_n 2 rfl rfl rfl ?_
      refine A_lsub rfl ?_
      obtain ⟨rfl, rfl⟩ := leaf h
      exact A_lret rfl rfl
    · rw [if_neg hc2] at h
      by_cases hc3 : a0 = 31
      · rw [if_pos hc3] at h
        refine A_tableIn (tgt := 44) (off := 43) rfl (by rw [hc3]; decide) (by rw [hc3]; decide) (by rw [hc3]; rfl) (by decide) ?_
        refine A_lload_n 1 rfl rfl rfl ?_
        refine A_lload_n 2 rfl rfl rfl ?_
        refine A_lmul rfl ?_
        obtain ⟨rfl, rfl⟩ := leaf h
        exact A_lret rfl rfl
      · rw [if_neg hc3] at h
        by_cases hc4 : a0 = 32
        · rw [if_pos hc4] at h
          refine A_tableIn (tgt := 48) (off := 47) rfl (by rw [hc4]; decide) (by rw [hc4]; decide) (by rw [hc4]; rfl) (by decide) ?_
          refine A_lload_n 2 rfl rfl rfl ?_
          refine A_lconst (v := 0) rfl (by decide) ?_
          refine A_lcmp rfl ?_
          refine A_if_ne (tgt := 58) rfl (by decide) (fun hc5 => ?_) (fun hc5 => ?_)
          · rw [if_neg hc5] at h
            refine A_lload_n 1 rfl rfl rfl ?_
            refine A_lload_n 2 rfl rfl rfl ?_
            obtain ⟨hg6, h⟩ := gz_out h
            refine A_ldiv rfl hg6 ?_
            obtain ⟨rfl, rfl⟩ := leaf h
            exact A_lret rfl rfl
          · rw [if_pos hc5] at h
            refine A_pc (pc' := 54) rfl ?_
            refine A_lconst (v := 0) rfl (by decide) ?_
            refine A_goto (tgt := 61) rfl (by decide) ?_
            obtain ⟨rfl, rfl⟩ := leaf h
            exact A_lret rfl rfl
        · rw [if_neg hc4] at h
          by_cases hc7 : a0 = 33
          · rw [if_pos hc7] at h
            refine A_tableIn (tgt := 62) (off := 61) rfl (by rw [hc7]; decide) (by rw [hc7]; decide) (by rw [hc7]; rfl) (by decide) ?_
            refine A_lload_n 2 rfl rfl rfl ?_
            refine A_lconst (v := 0) rfl (by decide) ?_
            refine A_lcmp rfl ?_
            refine A_if_ne (tgt := 72) rfl (by decide) (fun hc8 => ?_) (fun hc8 => ?_)
            · rw [if_neg hc8] at h
              refine A_lload_n 1 rfl rfl rfl ?_
              refine A_lload_n 2 rfl rfl rfl ?_
              obtain ⟨hg9, h⟩ := gz_out h
              refine A_lrem rfl hg9 ?_
              obtain ⟨rfl, rfl⟩ := leaf h
              exact A_lret rfl rfl
            · rw [if_pos hc8] at h
              refine A_pc (pc' := 68) rfl ?_
              refine A_lconst (v := 0) rfl (by decide) ?_
              refine A_goto (tgt := 75) rfl (by decide) ?_
              obtain ⟨rfl, rfl⟩ := leaf h
              exact A_lret rfl rfl
          · rw [if_neg hc7] at h
            refine A_tableDef (tgt := 76) [29, 30, 31, 32, 33] rfl (by decide) (by decide) (fa_cons (ne_i hc1 (by decide)) (fa_cons (ne_i hc2 (by decide)) (fa_cons (ne_i hc3 (by decide)) (fa_cons (ne_i hc4 (by decide)) (fa_cons (ne_i hc7 (by decide)) fa_nil))))) (by decide) ?_
            refine A_lconst (v := 0) rfl (by decide) ?_
            obtain ⟨rfl, rfl⟩ := leaf h
            exact A_lret rfl rfl
def tb_Worker_valueOfNumbers : List (Nat × Instr × Nat) := [(0, .iload_n 1, 1), (1, .tableswitch 123 25 28 #[31, 54, 77, 100], 31), (32, .aload 4, 2), (34, .aload_n 2, 1), (35, .getfield 202, 3), (38, .aload_n 3, 1), (39, .getfield 202, 3), (42, .lcmp, 1), (43, .ifCond .ge 7, 3), (46, .iconst 1, 1), (47, .goto 4, 3), (50, .iconst 0, 1), (51, .invokevirtual 128, 3), (54, .areturn, 1), (55, .aload 4, 2), (57, .aload_n 2, 1), (58, .getfield 202, 3), (61, .aload_n 3, 1), (62, .getfield 202, 3), (65, .lcmp, 1), (66, .ifCond .gt 7, 3), (69, .iconst 1, 1), (70, .goto 4, 3), (73, .iconst 0, 1), (74, .invokevirtual 128, 3), (77, .areturn, 1), (78, .aload 4, 2), (80, .aload_n 2, 1), (81, .getfield 202, 3), (84, .aload_n 3, 1), (85, .getfield 202, 3), (88, .lcmp, 1), (89, .ifCond .le 7, 3), (92, .iconst 1, 1), (93, .goto 4, 3), (96, .iconst 0, 1), (97, .invokevirtual 128, 3), (100, .areturn, 1), (101, .aload 4, 2), (103, .aload_n 2, 1), (104, .getfield 202, 3), (107, .aload_n 3, 1), (108, .getfield 202, 3), (111, .lcmp, 1), (112, .ifCond .lt 7, 3), (115, .iconst 1, 1), (116, .goto 4, 3), (119, .iconst 0, 1), (120, .invokevirtual 128, 3), (123, .areturn, 1), (124, .aload_n 3, 1), (125, .getfield 202, 3), (128, .lconst 0, 1), (129, .lcmp, 1), (130, .ifCond .ne 20, 3), (133, .iload_n 1, 1), (134, .bipush 32, 2), (136, .if_icmp .eq 9, 3), (139, .iload_n 1, 1), (140, .bipush 33, 2), (142, .if_icmp .ne 8, 3), (145, .aload_n 0, 1), (146, .getfield 18, 3), (149, .areturn, 1), (150, .iload_n 1, 1), (151, .aload_n 2, 1), (152, .getfield 202, 3), (155, .aload_n 3, 1), (156, .getfield 202, 3), (159, .invokestatic 227, 3), (162, .lstore 5, 2), (164, .aload_n 2, 1), (165, .getfield 211, 3), (168, .iconst 2, 1), (169, .if_icmp .ne 15, 3), (172, .aload_n 3, 1), (173, .getfield 211, 3), (176, .iconst 2, 1), (177, .if_icmp .ne 7, 3), (180, .iconst 1, 1), (181, .goto 4, 3), (184, .iconst 0, 1), (185, .istore 7, 2), (187, .iload 7, 2), (189, .ifCond .eq 14, 3), (192, .aload 4, 2), (194, .lload 5, 2), (196, .l2i, 1), (197, .invokevirtual 121, 3), (200, .goto 10, 3), (203, .aload 4, 2), (205, .lload 5, 2), (207, .invokevirtual 124, 3), (210, .areturn, 1)]
def Y_Worker_valueOfNumbers : ax_Y := (⟨"MethodWarden$Worker", "valueOfNumbers", "(ILMethodWarden$Value;LMethodWarden$Value;LMethodWarden$Value;)LMethodWarden$Value;"⟩, prog_12_method_20_code, 8, some (.object "MethodWarden$Value"), tb_Worker_valueOfNumbers)
theorem yok_Worker_valueOfNumbers : yOK Y_Worker_valueOfNumbers := ⟨by decide +kernel, by decide +kernel, inWG 978 (by decide +kernel) (by decide +kernel), inWG 102 (by decide +kernel) (by decide +kernel), by decide +kernel⟩
theorem ml_Worker_227 : mlS "MethodWarden$Worker" 227 Y_Worker_reckoned 3 := ⟨⟨yok_Worker_reckoned, by decide +kernel, by decide⟩, Or.inl (inWG 979 (by decide +kernel) (by decide +kernel)), inWG 980 (by decide +kernel) (by decide +kernel)⟩
def f_Worker_valueOfNumbers_150 (l1 : Int32) (l2 : Nat) (l3 : Nat) (l4 : Nat) (M : ax_M) : Option (Nat × ax_M) :=
  gk l2 7 (gk l3 7 (bnd (f_Worker_reckoned l1 (gJ M l2 1) (gJ M l3 1) M) (fun q45 M46 => if (gI M46 l2 0) = 2 then (if (gI M46 l3 0) = 2 then (if ((1 : Int32) = 0) then (gk l4 7 (bnd (f_Val_beLong l4 q45 M46) (fun q65 M66 => some (q65, M66)))) else (gk l4 7 (bnd (f_Val_beInt l4 (Int64.toInt32 q45) M46) (fun q68 M69 => some (q68, M69))))) else (if ((0 : Int32) = 0) then (gk l4 7 (bnd (f_Val_beLong l4 q45 M46) (fun q58 M59 => some (q58, M59)))) else (gk l4 7 (bnd (f_Val_beInt l4 (Int64.toInt32 q45) M46) (fun q61 M62 => some (q61, M62)))))) else (if ((0 : Int32) = 0) then (gk l4 7 (bnd (f_Val_beLong l4 q45 M46) (fun q50 M51 => some (q50, M51)))) else (gk l4 7 (bnd (f_Val_beInt l4 (Int64.toInt32 q45) M46) (fun q53 M54 => some (q53, M54))))))))
set_option maxHeartbeats 4000000 in
set_option maxRecDepth 100000 in
theorem o_Worker_valueOfNumbers_150 {l : Launch} {g : ax_G} (l1 : Int32) (l2 : Nat) (l3 : Nat) (l4 : Nat) (M : ax_M) (r : Nat) (M' : ax_M) (h : f_Worker_valueOfNumbers_150  l1 l2 l3 l4 M = some (r, M')) : AW l g true Y_Worker_valueOfNumbers 2 (some (vA r), M') 150 [(1, vI l1), (2, vA l2), (3, vA l3), (4, vA l4)] [] M := by
  unfold f_Worker_valueOfNumbers_150 at h
  refine A_iload_n 0 rfl rfl rfl ?_
  refine A_aload_n 1 rfl rfl rfl ?_
  obtain ⟨hg43, h⟩ := gk_out h
  refine A_getJ rfl fl_Worker_202 rfl hg43 (Or.inl rfl) ?_
  refine A_aload_n 2 rfl rfl rfl ?_
  obtain ⟨hg44, h⟩ := gk_out h
  refine A_getJ rfl fl_Worker_202 rfl hg44 (Or.inl rfl) ?_
  refine A_pc (pc' := 159) rfl ?_
  obtain ⟨q45, M46, hcq45, h⟩ := bnd_out h
  refine A_callS (as := [vI l1, vJ (gJ M l2 1), vJ (gJ M l3 1)]) (st' := []) (r1 := (some (vJ q45), M46)) rfl ml_Worker_227 rfl rfl (Nat.le_of_ble_eq_true rfl) (by decide) (c_Worker_reckoned hcq45) (Or.inl rfl) ?_
  refine A_pc (pc' := 162) rfl ?_
  refine A_stk (st' := [vJ q45]) rfl ?_
  refine A_lstore (Ls' := [(5, vJ q45), (1, vI l1), (2, vA l2), (3, vA l3), (4, vA l4)]) rfl (by decide) rfl ?_
  refine A_aload_n 2 rfl rfl rfl ?_
  refine A_getI rfl fl_Worker_211 rfl hg43 (Or.inl rfl) ?_
  refine A_iconst (v := 2) rfl (by decide) ?_
  refine A_icmp_ne (tgt := 184) rfl (by decide) (fun hc47 => ?_) (fun hc47 => ?_)
  · rw [if_neg hc47] at h
    refine A_iconst (v := 0) rfl (by decide) ?_
    refine A_istore (Ls' := [(7, vI 0), (5, vJ q45), (1, vI l1), (2, vA l2), (3, vA l3), (4, vA l4)]) rfl (by decide) rfl ?_
    refine A_iload 0 rfl rfl ?_
    refine A_if_eq (tgt := 203) rfl (by decide) (fun hc48 => ?_) (fun hc48 => ?_)
    · rw [if_pos hc48] at h
      refine A_aload 5 rfl rfl ?_
      refine A_lload 1 rfl rfl ?_
      obtain ⟨hg49, h⟩ := gk_out h
      obtain ⟨q50, M51, hcq50, h⟩ := bnd_out h
      refine A_callV (as := [vJ q45]) (st' := []) (r1 := (some (vA q50), M51)) rfl ml_Worker_124 rfl (by decide) hg49 (Or.inl rfl) rfl rfl (Nat.le_of_ble_eq_true rfl) (by decide) (c_Val_beLong hcq50) (Or.inl rfl) ?_
      refine A_pc (pc' := 210) rfl ?_
      refine A_stk (st' := [vA q50]) rfl ?_
      obtain ⟨rfl, rfl⟩ := leaf h
      exact A_aret rfl rfl
    · rw [if_neg hc48] at h
      refine A_pc (pc' := 192) rfl ?_
      refine A_aload 5 rfl rfl ?_
      refine A_lload 1 rfl rfl ?_
      refine A_l2i rfl ?_
      obtain ⟨hg52, h⟩ := gk_out h
      obtain ⟨q53, M54, hcq53, h⟩ := bnd_out h
      refine A_callV (as := [vI (Int64.toInt32 q45)]) (st' := []) (r1 := (some (vA q53), M54)) rfl ml_Worker_121 rfl (by decide) hg52 (Or.inl rfl) rfl rfl (Nat.le_of_ble_eq_true rfl) (by decide) (c_Val_beInt hcq53) (Or.inl rfl) ?_
      refine A_pc (pc' := 200) rfl ?_
      refine A_stk (st' := [vA q53]) rfl ?_
      refine A_goto (tgt := 210) rfl (by decide) ?_
      refine A_pc (pc' := 210) rfl ?_
      obtain ⟨rfl, rfl⟩ := leaf h
      exact A_aret rfl rfl
  · rw [if_pos hc47] at h
    refine A_pc (pc' := 172) rfl ?_
    refine A_aload_n 3 rfl rfl rfl ?_
    refine A_getI rfl fl_Worker_211 rfl hg44 (Or.inl rfl) ?_
    refine A_iconst (v := 2) rfl (by decide) ?_
    refine A_icmp_ne (tgt := 184) rfl (by decide) (fun hc55 => ?_) (fun hc55 => ?_)
    · rw [if_neg hc55] at h
      refine A_iconst (v := 0) rfl (by decide) ?_
      refine A_istore (Ls' := [(7, vI 0), (5, vJ q45), (1, vI l1), (2, vA l2), (3, vA l3), (4, vA l4)]) rfl (by decide) rfl ?_
      refine A_iload 0 rfl rfl ?_
      refine A_if_eq (tgt := 203) rfl (by decide) (fun hc56 => ?_) (fun hc56 => ?_)
      · rw [if_pos hc56] at h
        refine A_aload 5 rfl rfl ?_
        refine A_lload 1 rfl rfl ?_
        obtain ⟨hg57, h⟩ := gk_out h
        obtain ⟨q58, M59, hcq58, h⟩ := bnd_out h
        refine A_callV (as := [vJ q45]) (st' := []) (r1 := (some (vA q58), M59)) rfl ml_Worker_124 rfl (by decide) hg57 (Or.inl rfl) rfl rfl (Nat.le_of_ble_eq_true rfl) (by decide) (c_Val_beLong hcq58) (Or.inl rfl) ?_
        refine A_pc (pc' := 210) rfl ?_
        refine A_stk (st' := [vA q58]) rfl ?_
        obtain ⟨rfl, rfl⟩ := leaf h
        exact A_aret rfl rfl
      · rw [if_neg hc56] at h
        refine A_pc (pc' := 192) rfl ?_
        refine A_aload 5 rfl rfl ?_
        refine A_lload 1 rfl rfl ?_
        refine A_l2i rfl ?_
        obtain ⟨hg60, h⟩ := gk_out h
        obtain ⟨q61, M62, hcq61, h⟩ := bnd_out h
        refine A_callV (as := [vI (Int64.toInt32 q45)]) (st' := []) (r1 := (some (vA q61), M62)) rfl ml_Worker_121 rfl (by decide) hg60 (Or.inl rfl) rfl rfl (Nat.le_of_ble_eq_true rfl) (by decide) (c_Val_beInt hcq61) (Or.inl rfl) ?_
        refine A_pc (pc' := 200) rfl ?_
        refine A_stk (st' := [vA q61]) rfl ?_
        refine A_goto (tgt := 210) rfl (by decide) ?_
        refine A_pc (pc' := 210) rfl ?_
        obtain ⟨rfl, rfl⟩ := leaf h
        exact A_aret rfl rfl
    · rw [if_pos hc55] at h
      refine A_pc (pc' := 180) rfl ?_
      refine A_iconst (v := 1) rfl (by decide) ?_
      refine A_goto (tgt := 185) rfl (by decide) ?_
      refine A_istore (Ls' := [(7, vI 1), (5, vJ q45), (1, vI l1), (2, vA l2), (3, vA l3), (4, vA l4)]) rfl (by decide) rfl ?_
      refine A_iload 0 rfl rfl ?_
      refine A_if_eq (tgt := 203) rfl (by decide) (fun hc63 => ?_) (fun hc63 => ?_)
      · rw [if_pos hc63] at h
        refine A_aload 5 rfl rfl ?_
        refine A_lload 1 rfl rfl ?_
        obtain ⟨hg64, h⟩ := gk_out h
        obtain ⟨q65, M66, hcq65, h⟩ := bnd_out h
        refine A_callV (as := [vJ q45]) (st' := []) (r1 := (some (vA q65), M66)) rfl ml_Worker_124 rfl (by decide) hg64 (Or.inl rfl) rfl rfl (Nat.le_of_ble_eq_true rfl) (by decide) (c_Val_beLong hcq65) (Or.inl rfl) ?_
        refine A_pc (pc' := 210) rfl ?_
        refine A_stk (st' := [vA q65]) rfl ?_
        obtain ⟨rfl, rfl⟩ := leaf h
        exact A_aret rfl rfl
      · rw [if_neg hc63] at h
        refine A_pc (pc' := 192) rfl ?_
        refine A_aload 5 rfl rfl ?_
        refine A_lload 1 rfl rfl ?_
        refine A_l2i rfl ?_
        obtain ⟨hg67, h⟩ := gk_out h
        obtain ⟨q68, M69, hcq68, h⟩ := bnd_out h
        refine A_callV (as := [vI (Int64.toInt32 q45)]) (st' := []) (r1 := (some (vA q68), M69)) rfl ml_Worker_121 rfl (by decide) hg67 (Or.inl rfl) rfl rfl (Nat.le_of_ble_eq_true rfl) (by decide) (c_Val_beInt hcq68) (Or.inl rfl) ?_
        refine A_pc (pc' := 200) rfl ?_
        refine A_stk (st' := [vA q68]) rfl ?_
        refine A_goto (tgt := 210) rfl (by decide) ?_
        refine A_pc (pc' := 210) rfl ?_
        obtain ⟨rfl, rfl⟩ := leaf h
        exact A_aret rfl rfl
def f_Worker_valueOfNumbers (a1 : Int32) (a2 : Nat) (a3 : Nat) (a4 : Nat) (M : ax_M) : Option (Nat × ax_M) :=
  if a1 = 25 then (gk a2 7 (gk a3 7 (if 0 ≤ (lg_cmp (gJ M a2 1) (gJ M a3 1)) then (gk a4 7 (bnd (f_Val_beTruth a4 0 M) (fun q6 M7 => some (q6, M7)))) else (gk a4 7 (bnd (f_Val_beTruth a4 1 M) (fun q9 M10 => some (q9, M10))))))) else (if a1 = 26 then (gk a2 7 (gk a3 7 (if 0 < (lg_cmp (gJ M a2 1) (gJ M a3 1)) then (gk a4 7 (bnd (f_Val_beTruth a4 0 M) (fun q16 M17 => some (q16, M17)))) else (gk a4 7 (bnd (f_Val_beTruth a4 1 M) (fun q19 M20 => some (q19, M20))))))) else (if a1 = 27 then (gk a2 7 (gk a3 7 (if (lg_cmp (gJ M a2 1) (gJ M a3 1)) ≤ 0 then (gk a4 7 (bnd (f_Val_beTruth a4 0 M) (fun q26 M27 => some (q26, M27)))) else (gk a4 7 (bnd (f_Val_beTruth a4 1 M) (fun q29 M30 => some (q29, M30))))))) else (if a1 = 28 then (gk a2 7 (gk a3 7 (if (lg_cmp (gJ M a2 1) (gJ M a3 1)) < 0 then (gk a4 7 (bnd (f_Val_beTruth a4 0 M) (fun q36 M37 => some (q36, M37)))) else (gk a4 7 (bnd (f_Val_beTruth a4 1 M) (fun q39 M40 => some (q39, M40))))))) else (gk a3 7 (if (lg_cmp (gJ M a3 1) 0) = 0 then (if a1 = 32 then (some (70, M)) else (if a1 = 33 then (some (70, M)) else (f_Worker_valueOfNumbers_150 a1 a2 a3 a4 M))) else (f_Worker_valueOfNumbers_150 a1 a2 a3 a4 M))))))
set_option maxHeartbeats 4000000 in
set_option maxRecDepth 100000 in
theorem c_Worker_valueOfNumbers {l : Launch} {g : ax_G} {a1 : Int32} {a2 : Nat} {a3 : Nat} {a4 : Nat} {M : ax_M} {r : Nat} {M' : ax_M} (h : f_Worker_valueOfNumbers a1 a2 a3 a4 M = some (r, M')) : Ctr l g true Y_Worker_valueOfNumbers 2 [vA 68, vI a1, vA a2, vA a3, vA a4] M (some (vA r), M') := by
  refine Ctr.ofAW yok_Worker_valueOfNumbers (Nat.le_of_ble_eq_true rfl) (Or.inl rfl) ?_
  show AW l g true Y_Worker_valueOfNumbers 2 (some (vA r), M') 0 [(0, vA 68), (1, vI a1), (2, vA a2), (3, vA a3), (4, vA a4)] [] M
  unfold f_Worker_valueOfNumbers at h
  refine A_iload_n 1 rfl rfl rfl ?_
  by_cases hc1 : a1 = 25
  · rw [if_pos hc1] at h
    refine A_tableIn (tgt := 32) (off := 31) rfl (by rw [hc1]; decide) (by rw [hc1]; decide) (by rw [hc1]; rfl) (by decide) ?_
    refine A_aload 4 rfl rfl ?_
    refine A_aload_n 2 rfl rfl rfl ?_
    obtain ⟨hg2, h⟩ := gk_out h
    refine A_getJ rfl fl_Worker_202 rfl hg2 (Or.inl rfl) ?_
    refine A_aload_n 3 rfl rfl rfl ?_
    obtain ⟨hg3, h⟩ := gk_out h
    refine A_getJ rfl fl_Worker_202 rfl hg3 (Or.inl rfl) ?_
    refine A_pc (pc' := 42) rfl ?_
    refine A_lcmp rfl ?_
    refine A_if_ge (tgt := 50) rfl (by decide) (fun hc4 => ?_) (fun hc4 => ?_)
    · rw [if_pos hc4] at h
      refine A_iconst (v := 0) rfl (by decide) ?_
      obtain ⟨hg5, h⟩ := gk_out h
      obtain ⟨q6, M7, hcq6, h⟩ := bnd_out h
      refine A_callV (as := [vI 0]) (st' := []) (r1 := (some (vA q6), M7)) rfl ml_Worker_128 rfl (by decide) hg5 (Or.inl rfl) rfl rfl (Nat.le_of_ble_eq_true rfl) (by decide) (c_Val_beTruth hcq6) (Or.inl rfl) ?_
      refine A_pc (pc' := 54) rfl ?_
      refine A_stk (st' := [vA q6]) rfl ?_
      obtain ⟨rfl, rfl⟩ := leaf h
      exact A_aret rfl rfl
    · rw [if_neg hc4] at h
      refine A_pc (pc' := 46) rfl ?_
      refine A_iconst (v := 1) rfl (by decide) ?_
      refine A_goto (tgt := 51) rfl (by decide) ?_
      obtain ⟨hg8, h⟩ := gk_out h
      obtain ⟨q9, M10, hcq9, h⟩ := bnd_out h
      refine A_callV (as := [vI 1]) (st' := []) (r1 := (some (vA q9), M10)) rfl ml_Worker_128 rfl (by decide) hg8 (Or.inl rfl) rfl rfl (Nat.le_of_ble_eq_true rfl) (by decide) (c_Val_beTruth hcq9) (Or.inl rfl) ?_
      refine A_pc (pc' := 54) rfl ?_
      refine A_stk (st' := [vA q9]) rfl ?_
      obtain ⟨rfl, rfl⟩ := leaf h
      exact A_aret rfl rfl
  · rw [if_neg hc1] at h
    by_cases hc11 : a1 = 26
    · rw [if_pos hc11] at h
      refine A_tableIn (tgt := 55) (off := 54) rfl (by rw [hc11]; decide) (by rw [hc11]; decide) (by rw [hc11]; rfl) (by decide) ?_
      refine A_aload 4 rfl rfl ?_
      refine A_aload_n 2 rfl rfl rfl ?_
      obtain ⟨hg12, h⟩ := gk_out h
      refine A_getJ rfl fl_Worker_202 rfl hg12 (Or.inl rfl) ?_
      refine A_aload_n 3 rfl rfl rfl ?_
      obtain ⟨hg13, h⟩ := gk_out h
      refine A_getJ rfl fl_Worker_202 rfl hg13 (Or.inl rfl) ?_
      refine A_pc (pc' := 65) rfl ?_
      refine A_lcmp rfl ?_
      refine A_if_gt (tgt := 73) rfl (by decide) (fun hc14 => ?_) (fun hc14 => ?_)
      · rw [if_pos hc14] at h
        refine A_iconst (v := 0) rfl (by decide) ?_
        obtain ⟨hg15, h⟩ := gk_out h
        obtain ⟨q16, M17, hcq16, h⟩ := bnd_out h
        refine A_callV (as := [vI 0]) (st' := []) (r1 := (some (vA q16), M17)) rfl ml_Worker_128 rfl (by decide) hg15 (Or.inl rfl) rfl rfl (Nat.le_of_ble_eq_true rfl) (by decide) (c_Val_beTruth hcq16) (Or.inl rfl) ?_
        refine A_pc (pc' := 77) rfl ?_
        refine A_stk (st' := [vA q16]) rfl ?_
        obtain ⟨rfl, rfl⟩ := leaf h
        exact A_aret rfl rfl
      · rw [if_neg hc14] at h
        refine A_pc (pc' := 69) rfl ?_
        refine A_iconst (v := 1) rfl (by decide) ?_
        refine A_goto (tgt := 74) rfl (by decide) ?_
        obtain ⟨hg18, h⟩ := gk_out h
        obtain ⟨q19, M20, hcq19, h⟩ := bnd_out h
        refine A_callV (as := [vI 1]) (st' := []) (r1 := (some (vA q19), M20)) rfl ml_Worker_128 rfl (by decide) hg18 (Or.inl rfl) rfl rfl (Nat.le_of_ble_eq_true rfl) (by decide) (c_Val_beTruth hcq19) (Or.inl rfl) ?_
        refine A_pc (pc' := 77) rfl ?_
        refine A_stk (st' := [vA q19]) rfl ?_
        obtain ⟨rfl, rfl⟩ := leaf h
        exact A_aret rfl rfl
    · rw [if_neg hc11] at h
      by_cases hc21 : a1 = 27
      · rw [if_pos hc21] at h
        refine A_tableIn (tgt := 78) (off := 77) rfl (by rw [hc21]; decide) (by rw [hc21]; decide) (by rw [hc21]; rfl) (by decide) ?_
        refine A_aload 4 rfl rfl ?_
        refine A_aload_n 2 rfl rfl rfl ?_
        obtain ⟨hg22, h⟩ := gk_out h
        refine A_getJ rfl fl_Worker_202 rfl hg22 (Or.inl rfl) ?_
        refine A_aload_n 3 rfl rfl rfl ?_
        obtain ⟨hg23, h⟩ := gk_out h
        refine A_getJ rfl fl_Worker_202 rfl hg23 (Or.inl rfl) ?_
        refine A_pc (pc' := 88) rfl ?_
        refine A_lcmp rfl ?_
        refine A_if_le (tgt := 96) rfl (by decide) (fun hc24 => ?_) (fun hc24 => ?_)
        · rw [if_pos hc24] at h
          refine A_iconst (v := 0) rfl (by decide) ?_
          obtain ⟨hg25, h⟩ := gk_out h
          obtain ⟨q26, M27, hcq26, h⟩ := bnd_out h
          refine A_callV (as := [vI 0]) (st' := []) (r1 := (some (vA q26), M27)) rfl ml_Worker_128 rfl (by decide) hg25 (Or.inl rfl) rfl rfl (Nat.le_of_ble_eq_true rfl) (by decide) (c_Val_beTruth hcq26) (Or.inl rfl) ?_
          refine A_pc (pc' := 100) rfl ?_
          refine A_stk (st' := [vA q26]) rfl ?_
          obtain ⟨rfl, rfl⟩ := leaf h
          exact A_aret rfl rfl
        · rw [if_neg hc24] at h
          refine A_pc (pc' := 92) rfl ?_
          refine A_iconst (v := 1) rfl (by decide) ?_
          refine A_goto (tgt := 97) rfl (by decide) ?_
          obtain ⟨hg28, h⟩ := gk_out h
          obtain ⟨q29, M30, hcq29, h⟩ := bnd_out h
          refine A_callV (as := [vI 1]) (st' := []) (r1 := (some (vA q29), M30)) rfl ml_Worker_128 rfl (by decide) hg28 (Or.inl rfl) rfl rfl (Nat.le_of_ble_eq_true rfl) (by decide) (c_Val_beTruth hcq29) (Or.inl rfl) ?_
          refine A_pc (pc' := 100) rfl ?_
          refine A_stk (st' := [vA q29]) rfl ?_
          obtain ⟨rfl, rfl⟩ := leaf h
          exact A_aret rfl rfl
      · rw [if_neg hc21] at h
        by_cases hc31 : a1 = 28
        · rw [if_pos hc31] at h
          refine A_tableIn (tgt := 101) (off := 100) rfl (by rw [hc31]; decide) (by rw [hc31]; decide) (by rw [hc31]; rfl) (by decide) ?_
          refine A_aload 4 rfl rfl ?_
          refine A_aload_n 2 rfl rfl rfl ?_
          obtain ⟨hg32, h⟩ := gk_out h
          refine A_getJ rfl fl_Worker_202 rfl hg32 (Or.inl rfl) ?_
          refine A_aload_n 3 rfl rfl rfl ?_
          obtain ⟨hg33, h⟩ := gk_out h
          refine A_getJ rfl fl_Worker_202 rfl hg33 (Or.inl rfl) ?_
          refine A_pc (pc' := 111) rfl ?_
          refine A_lcmp rfl ?_
          refine A_if_lt (tgt := 119) rfl (by decide) (fun hc34 => ?_) (fun hc34 => ?_)
          · rw [if_pos hc34] at h
            refine A_iconst (v := 0) rfl (by decide) ?_
            obtain ⟨hg35, h⟩ := gk_out h
            obtain ⟨q36, M37, hcq36, h⟩ := bnd_out h
            refine A_callV (as := [vI 0]) (st' := []) (r1 := (some (vA q36), M37)) rfl ml_Worker_128 rfl (by decide) hg35 (Or.inl rfl) rfl rfl (Nat.le_of_ble_eq_true rfl) (by decide) (c_Val_beTruth hcq36) (Or.inl rfl) ?_
            refine A_pc (pc' := 123) rfl ?_
            refine A_stk (st' := [vA q36]) rfl ?_
            obtain ⟨rfl, rfl⟩ := leaf h
            exact A_aret rfl rfl
          · rw [if_neg hc34] at h
            refine A_pc (pc' := 115) rfl ?_
            refine A_iconst (v := 1) rfl (by decide) ?_
            refine A_goto (tgt := 120) rfl (by decide) ?_
            obtain ⟨hg38, h⟩ := gk_out h
            obtain ⟨q39, M40, hcq39, h⟩ := bnd_out h
            refine A_callV (as := [vI 1]) (st' := []) (r1 := (some (vA q39), M40)) rfl ml_Worker_128 rfl (by decide) hg38 (Or.inl rfl) rfl rfl (Nat.le_of_ble_eq_true rfl) (by decide) (c_Val_beTruth hcq39) (Or.inl rfl) ?_
            refine A_pc (pc' := 123) rfl ?_
            refine A_stk (st' := [vA q39]) rfl ?_
            obtain ⟨rfl, rfl⟩ := leaf h
            exact A_aret rfl rfl
        · rw [if_neg hc31] at h
          refine A_tableDef (tgt := 124) [25, 26, 27, 28] rfl (by decide) (by decide) (fa_cons (ne_i hc1 (by decide)) (fa_cons (ne_i hc11 (by decide)) (fa_cons (ne_i hc21 (by decide)) (fa_cons (ne_i hc31 (by decide)) fa_nil)))) (by decide) ?_
          refine A_aload_n 3 rfl rfl rfl ?_
          obtain ⟨hg41, h⟩ := gk_out h
          refine A_getJ rfl fl_Worker_202 rfl hg41 (Or.inl rfl) ?_
          refine A_lconst (v := 0) rfl (by decide) ?_
          refine A_lcmp rfl ?_
          refine A_if_ne (tgt := 150) rfl (by decide) (fun hc42 => ?_) (fun hc42 => ?_)
          · rw [if_neg hc42] at h
            refine A_pc (pc' := 150) rfl ?_
            refine A_sub (Ls' := [(1, vI a1), (2, vA a2), (3, vA a3), (4, vA a4)]) [1, 2, 3, 4] rfl ?_
            exact o_Worker_valueOfNumbers_150  _ _ _ _ _ _ _ h
          · rw [if_pos hc42] at h
            refine A_pc (pc' := 133) rfl ?_
            refine A_iload_n 1 rfl rfl rfl ?_
            refine A_bipush (v := 32) rfl (by decide) ?_
            refine A_icmp_eq (tgt := 145) rfl (by decide) (fun hc70 => ?_) (fun hc70 => ?_)
            · rw [if_pos hc70] at h
              refine A_aload_n 0 rfl rfl rfl ?_
              refine A_getL (r := 70) rfl fl_Worker_18 rfl (by decide) rfl rfl ?_
              obtain ⟨rfl, rfl⟩ := leaf h
              exact A_aret rfl rfl
            · rw [if_neg hc70] at h
              refine A_pc (pc' := 139) rfl ?_
              refine A_iload_n 1 rfl rfl rfl ?_
              refine A_bipush (v := 33) rfl (by decide) ?_
              refine A_icmp_ne (tgt := 150) rfl (by decide) (fun hc71 => ?_) (fun hc71 => ?_)
              · rw [if_neg hc71] at h
                refine A_pc (pc' := 150) rfl ?_
                refine A_sub (Ls' := [(1, vI a1), (2, vA a2), (3, vA a3), (4, vA a4)]) [1, 2, 3, 4] rfl ?_
                exact o_Worker_valueOfNumbers_150  _ _ _ _ _ _ _ h
              · rw [if_pos hc71] at h
                refine A_pc (pc' := 145) rfl ?_
                refine A_aload_n 0 rfl rfl rfl ?_
                refine A_getL (r := 70) rfl fl_Worker_18 rfl (by decide) rfl rfl ?_
                obtain ⟨rfl, rfl⟩ := leaf h
                exact A_aret rfl rfl
def tb_Worker_valueOfTwo : List (Nat × Instr × Nat) := [(0, .iload_n 1, 1), (1, .lookupswitch 74 #[(17, 65), (23, 35), (24, 46)], 35), (36, .aload 4, 2), (38, .aload_n 2, 1), (39, .aload_n 3, 1), (40, .invokevirtual 213, 3), (43, .invokevirtual 128, 3), (46, .areturn, 1), (47, .aload 4, 2), (49, .aload_n 2, 1), (50, .aload_n 3, 1), (51, .invokevirtual 213, 3), (54, .ifCond .ne 7, 3), (57, .iconst 1, 1), (58, .goto 4, 3), (61, .iconst 0, 1), (62, .invokevirtual 128, 3), (65, .areturn, 1), (66, .aload_n 0, 1), (67, .aload_n 2, 1), (68, .aload_n 3, 1), (69, .aload 4, 2), (71, .invokevirtual 217, 3), (74, .areturn, 1), (75, .aload_n 2, 1), (76, .invokevirtual 199, 3), (79, .ifCond .eq 22, 3), (82, .aload_n 3, 1), (83, .invokevirtual 199, 3), (86, .ifCond .eq 15, 3), (89, .aload_n 0, 1), (90, .iload_n 1, 1), (91, .aload_n 2, 1), (92, .aload_n 3, 1), (93, .aload 4, 2), (95, .invokevirtual 221, 3), (98, .goto 7, 3), (101, .aload_n 0, 1), (102, .getfield 18, 3), (105, .areturn, 1)]
def Y_Worker_valueOfTwo : ax_Y := (⟨"MethodWarden$Worker", "valueOfTwo", "(ILMethodWarden$Value;LMethodWarden$Value;LMethodWarden$Value;)LMethodWarden$Value;"⟩, prog_12_method_18_code, 5, some (.object "MethodWarden$Value"), tb_Worker_valueOfTwo)
theorem yok_Worker_valueOfTwo : yOK Y_Worker_valueOfTwo := ⟨by decide +kernel, by decide +kernel, inWG 956 (by decide +kernel) (by decide +kernel), inWG 102 (by decide +kernel) (by decide +kernel), by decide +kernel⟩
theorem ml_Worker_217 : mlV "MethodWarden$Worker" 217 Y_Worker_itemOf 3 := ⟨⟨yok_Worker_itemOf, by decide +kernel, by decide⟩, Or.inl (inWG 967 (by decide +kernel) (by decide +kernel)), inWG 969 (by decide +kernel) (by decide +kernel), inWG 46 (by decide +kernel) (by decide +kernel)⟩
theorem ml_Worker_213 : mlV "MethodWarden$Worker" 213 Y_Val_sameAs 1 := ⟨⟨yok_Val_sameAs, by decide +kernel, by decide⟩, Or.inl (inWG 957 (by decide +kernel) (by decide +kernel)), inWG 958 (by decide +kernel) (by decide +kernel), inWG 959 (by decide +kernel) (by decide +kernel)⟩
theorem ml_Worker_221 : mlV "MethodWarden$Worker" 221 Y_Worker_valueOfNumbers 4 := ⟨⟨yok_Worker_valueOfNumbers, by decide +kernel, by decide⟩, Or.inl (inWG 975 (by decide +kernel) (by decide +kernel)), inWG 977 (by decide +kernel) (by decide +kernel), inWG 47 (by decide +kernel) (by decide +kernel)⟩
def f_Worker_valueOfTwo (a1 : Int32) (a2 : Nat) (a3 : Nat) (a4 : Nat) (M : ax_M) : Option (Nat × ax_M) :=
  if a1 = 17 then (bnd (f_Worker_itemOf a2 a3 a4 M) (fun q2 M3 => some (q2, M3))) else (if a1 = 23 then (gk a2 7 (bnd (f_Val_sameAs a2 a3 M) (fun q6 M7 => gk a4 7 (bnd (f_Val_beTruth a4 q6 M7) (fun q9 M10 => some (q9, M10)))))) else (if a1 = 24 then (gk a2 7 (bnd (f_Val_sameAs a2 a3 M) (fun q13 M14 => if q13 = 0 then (gk a4 7 (bnd (f_Val_beTruth a4 1 M14) (fun q20 M21 => some (q20, M21)))) else (gk a4 7 (bnd (f_Val_beTruth a4 0 M14) (fun q17 M18 => some (q17, M18))))))) else (gk a2 7 (bnd (f_Val_isNumber a2 M) (fun q23 M24 => if q23 = 0 then (some (70, M24)) else (gk a3 7 (bnd (f_Val_isNumber a3 M24) (fun q27 M28 => if q27 = 0 then (some (70, M28)) else (bnd (f_Worker_valueOfNumbers a1 a2 a3 a4 M28) (fun q30 M31 => some (q30, M31)))))))))))
set_option maxHeartbeats 4000000 in
set_option maxRecDepth 100000 in
theorem c_Worker_valueOfTwo {l : Launch} {g : ax_G} {a1 : Int32} {a2 : Nat} {a3 : Nat} {a4 : Nat} {M : ax_M} {r : Nat} {M' : ax_M} (h : f_Worker_valueOfTwo a1 a2 a3 a4 M = some (r, M')) : Ctr l g true Y_Worker_valueOfTwo 3 [vA 68, vI a1, vA a2, vA a3, vA a4] M (some (vA r), M') := by
  refine Ctr.ofAW yok_Worker_valueOfTwo (Nat.le_of_ble_eq_true rfl) (Or.inl rfl) ?_
  show AW l g true Y_Worker_valueOfTwo 3 (some (vA r), M') 0 [(0, vA 68), (1, vI a1), (2, vA a2), (3, vA a3), (4, vA a4)] [] M
  unfold f_Worker_valueOfTwo at h
  refine A_iload_n 1 rfl rfl rfl ?_
  by_cases hc1 : a1 = 17
  · rw [if_pos hc1] at h
    refine A_lookup (tgt := 66) (off := 65) rfl (by decide) (by rw [hc1]; decide) (by decide) ?_
    refine A_aload_n 0 rfl rfl rfl ?_
    refine A_aload_n 2 rfl rfl rfl ?_
    refine A_aload_n 3 rfl rfl rfl ?_
    refine A_aload 4 rfl rfl ?_
    obtain ⟨q2, M3, hcq2, h⟩ := bnd_out h
    refine A_callV (as := [vA a2, vA a3, vA a4]) (st' := []) (r1 := (some (vA q2), M3)) rfl ml_Worker_217 rfl (by decide) (by decide) (Or.inl rfl) rfl rfl (Nat.le_of_ble_eq_true rfl) (by decide) (c_Worker_itemOf hcq2) (Or.inl rfl) ?_
    refine A_pc (pc' := 74) rfl ?_
    refine A_stk (st' := [vA q2]) rfl ?_
    refine A_pc (pc' := 74) rfl ?_
    obtain ⟨rfl, rfl⟩ := leaf h
    exact A_aret rfl rfl
  · rw [if_neg hc1] at h
    by_cases hc4 : a1 = 23
    · rw [if_pos hc4] at h
      refine A_lookup (tgt := 36) (off := 35) rfl (by decide) (by rw [hc4]; decide) (by decide) ?_
      refine A_aload 4 rfl rfl ?_
      refine A_aload_n 2 rfl rfl rfl ?_
      refine A_aload_n 3 rfl rfl rfl ?_
      obtain ⟨hg5, h⟩ := gk_out h
      obtain ⟨q6, M7, hcq6, h⟩ := bnd_out h
      refine A_callV (as := [vA a3]) (st' := [vA a4]) (r1 := (some (vI q6), M7)) rfl ml_Worker_213 rfl (by decide) hg5 (Or.inl rfl) rfl rfl (Nat.le_of_ble_eq_true rfl) (by decide) (c_Val_sameAs hcq6) (Or.inl rfl) ?_
      refine A_pc (pc' := 43) rfl ?_
      refine A_stk (st' := [vI q6, vA a4]) rfl ?_
      obtain ⟨hg8, h⟩ := gk_out h
      obtain ⟨q9, M10, hcq9, h⟩ := bnd_out h
      refine A_callV (as := [vI q6]) (st' := []) (r1 := (some (vA q9), M10)) rfl ml_Worker_128 rfl (by decide) hg8 (Or.inl rfl) rfl rfl (Nat.le_of_ble_eq_true rfl) (by decide) (c_Val_beTruth hcq9) (Or.inl rfl) ?_
      refine A_pc (pc' := 46) rfl ?_
      refine A_stk (st' := [vA q9]) rfl ?_
      refine A_pc (pc' := 46) rfl ?_
      obtain ⟨rfl, rfl⟩ := leaf h
      exact A_aret rfl rfl
    · rw [if_neg hc4] at h
      by_cases hc11 : a1 = 24
      · rw [if_pos hc11] at h
        refine A_lookup (tgt := 47) (off := 46) rfl (by decide) (by rw [hc11]; decide) (by decide) ?_
        refine A_aload 4 rfl rfl ?_
        refine A_aload_n 2 rfl rfl rfl ?_
        refine A_aload_n 3 rfl rfl rfl ?_
        obtain ⟨hg12, h⟩ := gk_out h
        obtain ⟨q13, M14, hcq13, h⟩ := bnd_out h
        refine A_callV (as := [vA a3]) (st' := [vA a4]) (r1 := (some (vI q13), M14)) rfl ml_Worker_213 rfl (by decide) hg12 (Or.inl rfl) rfl rfl (Nat.le_of_ble_eq_true rfl) (by decide) (c_Val_sameAs hcq13) (Or.inl rfl) ?_
        refine A_pc (pc' := 54) rfl ?_
        refine A_stk (st' := [vI q13, vA a4]) rfl ?_
        refine A_if_ne (tgt := 61) rfl (by decide) (fun hc15 => ?_) (fun hc15 => ?_)
        · rw [if_neg hc15] at h
          refine A_iconst (v := 0) rfl (by decide) ?_
          obtain ⟨hg16, h⟩ := gk_out h
          obtain ⟨q17, M18, hcq17, h⟩ := bnd_out h
          refine A_callV (as := [vI 0]) (st' := []) (r1 := (some (vA q17), M18)) rfl ml_Worker_128 rfl (by decide) hg16 (Or.inl rfl) rfl rfl (Nat.le_of_ble_eq_true rfl) (by decide) (c_Val_beTruth hcq17) (Or.inl rfl) ?_
          refine A_pc (pc' := 65) rfl ?_
          refine A_stk (st' := [vA q17]) rfl ?_
          obtain ⟨rfl, rfl⟩ := leaf h
          exact A_aret rfl rfl
        · rw [if_pos hc15] at h
          refine A_pc (pc' := 57) rfl ?_
          refine A_iconst (v := 1) rfl (by decide) ?_
          refine A_goto (tgt := 62) rfl (by decide) ?_
          obtain ⟨hg19, h⟩ := gk_out h
          obtain ⟨q20, M21, hcq20, h⟩ := bnd_out h
          refine A_callV (as := [vI 1]) (st' := []) (r1 := (some (vA q20), M21)) rfl ml_Worker_128 rfl (by decide) hg19 (Or.inl rfl) rfl rfl (Nat.le_of_ble_eq_true rfl) (by decide) (c_Val_beTruth hcq20) (Or.inl rfl) ?_
          refine A_pc (pc' := 65) rfl ?_
          refine A_stk (st' := [vA q20]) rfl ?_
          obtain ⟨rfl, rfl⟩ := leaf h
          exact A_aret rfl rfl
      · rw [if_neg hc11] at h
        refine A_lookup (tgt := 75) rfl (by decide) (lk_def _ _ _ (fa_cons (ne_i hc1 (by decide)) (fa_cons (ne_i hc4 (by decide)) (fa_cons (ne_i hc11 (by decide)) fa_nil)))) (by decide) ?_
        refine A_aload_n 2 rfl rfl rfl ?_
        obtain ⟨hg22, h⟩ := gk_out h
        obtain ⟨q23, M24, hcq23, h⟩ := bnd_out h
        refine A_callV (as := []) (st' := []) (r1 := (some (vI q23), M24)) rfl ml_Worker_199 rfl (by decide) hg22 (Or.inl rfl) rfl rfl (Nat.le_of_ble_eq_true rfl) (by decide) (c_Val_isNumber hcq23) (Or.inl rfl) ?_
        refine A_pc (pc' := 79) rfl ?_
        refine A_stk (st' := [vI q23]) rfl ?_
        refine A_if_eq (tgt := 101) rfl (by decide) (fun hc25 => ?_) (fun hc25 => ?_)
        · rw [if_pos hc25] at h
          refine A_aload_n 0 rfl rfl rfl ?_
          refine A_getL (r := 70) rfl fl_Worker_18 rfl (by decide) rfl rfl ?_
          obtain ⟨rfl, rfl⟩ := leaf h
          exact A_aret rfl rfl
        · rw [if_neg hc25] at h
          refine A_pc (pc' := 82) rfl ?_
          refine A_aload_n 3 rfl rfl rfl ?_
          obtain ⟨hg26, h⟩ := gk_out h
          obtain ⟨q27, M28, hcq27, h⟩ := bnd_out h
          refine A_callV (as := []) (st' := []) (r1 := (some (vI q27), M28)) rfl ml_Worker_199 rfl (by decide) hg26 (Or.inl rfl) rfl rfl (Nat.le_of_ble_eq_true rfl) (by decide) (c_Val_isNumber hcq27) (Or.inl rfl) ?_
          refine A_pc (pc' := 86) rfl ?_
          refine A_stk (st' := [vI q27]) rfl ?_
          refine A_if_eq (tgt := 101) rfl (by decide) (fun hc29 => ?_) (fun hc29 => ?_)
          · rw [if_pos hc29] at h
            refine A_aload_n 0 rfl rfl rfl ?_
            refine A_getL (r := 70) rfl fl_Worker_18 rfl (by decide) rfl rfl ?_
            obtain ⟨rfl, rfl⟩ := leaf h
            exact A_aret rfl rfl
          · rw [if_neg hc29] at h
            refine A_pc (pc' := 89) rfl ?_
            refine A_aload_n 0 rfl rfl rfl ?_
            refine A_iload_n 1 rfl rfl rfl ?_
            refine A_aload_n 2 rfl rfl rfl ?_
            refine A_aload_n 3 rfl rfl rfl ?_
            refine A_aload 4 rfl rfl ?_
            refine A_pc (pc' := 95) rfl ?_
            obtain ⟨q30, M31, hcq30, h⟩ := bnd_out h
            refine A_callV (as := [vI a1, vA a2, vA a3, vA a4]) (st' := []) (r1 := (some (vA q30), M31)) rfl ml_Worker_221 rfl (by decide) (by decide) (Or.inl rfl) rfl rfl (Nat.le_of_ble_eq_true rfl) (by decide) (c_Worker_valueOfNumbers hcq30) (Or.inl rfl) ?_
            refine A_pc (pc' := 98) rfl ?_
            refine A_stk (st' := [vA q30]) rfl ?_
            refine A_goto (tgt := 105) rfl (by decide) ?_
            obtain ⟨rfl, rfl⟩ := leaf h
            exact A_aret rfl rfl
end
