section
-- ===== PART A: goes FIRST, ahead of the names: the tables' words, and 'selects' of the private methods out of them =====
/-- a private method of a class that the tables say can be made, by its rows of tables_1 -/
def lw_okq (q : MethodName × Nat) : Prop := (q.1.cls ≠ "java/lang/invoke/MethodHandle" ∧ q.1.cls ≠ "java/lang/invoke/VarHandle") ∧ Cond.instantiable q.1.cls q.2 ∈ tables_1 ∧ Cond.privateMethod q.1 ∈ tables_1 ∧ Cond.instanceMethod q.1 ∈ tables_1
theorem lw_p0 : lw_okq (⟨"MethodWarden$Text", "cutNumber", "()I"⟩, 6) := ⟨⟨by decide +kernel, by decide +kernel⟩, List.mem_of_getElem? (i := 27) (by decide +kernel), List.mem_of_getElem? (i := 383) (by decide +kernel), List.mem_of_getElem? (i := 384) (by decide +kernel)⟩
theorem lw_p1 : lw_okq (⟨"MethodWarden$Text", "passes", "(C)Z"⟩, 6) := ⟨⟨by decide +kernel, by decide +kernel⟩, List.mem_of_getElem? (i := 27) (by decide +kernel), List.mem_of_getElem? (i := 389) (by decide +kernel), List.mem_of_getElem? (i := 390) (by decide +kernel)⟩
theorem lw_p2 : lw_okq (⟨"MethodWarden$Text", "cutWord", "()I"⟩, 6) := ⟨⟨by decide +kernel, by decide +kernel⟩, List.mem_of_getElem? (i := 27) (by decide +kernel), List.mem_of_getElem? (i := 397) (by decide +kernel), List.mem_of_getElem? (i := 398) (by decide +kernel)⟩
theorem lw_p3 : lw_okq (⟨"MethodWarden$Text", "shortWord", "()I"⟩, 6) := ⟨⟨by decide +kernel, by decide +kernel⟩, List.mem_of_getElem? (i := 27) (by decide +kernel), List.mem_of_getElem? (i := 401) (by decide +kernel), List.mem_of_getElem? (i := 402) (by decide +kernel)⟩
theorem lw_p4 : lw_okq (⟨"MethodWarden$Text", "reads", "(Ljava/lang/String;)Z"⟩, 6) := ⟨⟨by decide +kernel, by decide +kernel⟩, List.mem_of_getElem? (i := 27) (by decide +kernel), List.mem_of_getElem? (i := 406) (by decide +kernel), List.mem_of_getElem? (i := 407) (by decide +kernel)⟩
theorem lw_p5 : lw_okq (⟨"MethodWarden$Text", "longWord", "()I"⟩, 6) := ⟨⟨by decide +kernel, by decide +kernel⟩, List.mem_of_getElem? (i := 27) (by decide +kernel), List.mem_of_getElem? (i := 462) (by decide +kernel), List.mem_of_getElem? (i := 463) (by decide +kernel)⟩
theorem lw_p6 : lw_okq (⟨"MethodWarden$Text", "cutSign", "()I"⟩, 6) := ⟨⟨by decide +kernel, by decide +kernel⟩, List.mem_of_getElem? (i := 27) (by decide +kernel), List.mem_of_getElem? (i := 472) (by decide +kernel), List.mem_of_getElem? (i := 473) (by decide +kernel)⟩
theorem lw_p7 : lw_okq (⟨"MethodWarden$Text", "cutLongSign", "(C)I"⟩, 6) := ⟨⟨by decide +kernel, by decide +kernel⟩, List.mem_of_getElem? (i := 27) (by decide +kernel), List.mem_of_getElem? (i := 476) (by decide +kernel), List.mem_of_getElem? (i := 477) (by decide +kernel)⟩
theorem lw_p8 : lw_okq (⟨"MethodWarden$Text", "cutQuestion", "()I"⟩, 6) := ⟨⟨by decide +kernel, by decide +kernel⟩, List.mem_of_getElem? (i := 27) (by decide +kernel), List.mem_of_getElem? (i := 480) (by decide +kernel), List.mem_of_getElem? (i := 481) (by decide +kernel)⟩
theorem lw_p9 : lw_okq (⟨"MethodWarden$Text", "cutDot", "()I"⟩, 6) := ⟨⟨by decide +kernel, by decide +kernel⟩, List.mem_of_getElem? (i := 27) (by decide +kernel), List.mem_of_getElem? (i := 484) (by decide +kernel), List.mem_of_getElem? (i := 485) (by decide +kernel)⟩
theorem lw_p10 : lw_okq (⟨"MethodWarden$Reader", "isFinished", "()Z"⟩, 8) := ⟨⟨by decide +kernel, by decide +kernel⟩, List.mem_of_getElem? (i := 57) (by decide +kernel), List.mem_of_getElem? (i := 491) (by decide +kernel), List.mem_of_getElem? (i := 492) (by decide +kernel)⟩
theorem lw_p11 : lw_okq (⟨"MethodWarden$Reader", "joinDownTo", "(I)V"⟩, 8) := ⟨⟨by decide +kernel, by decide +kernel⟩, List.mem_of_getElem? (i := 57) (by decide +kernel), List.mem_of_getElem? (i := 495) (by decide +kernel), List.mem_of_getElem? (i := 496) (by decide +kernel)⟩
theorem lw_p12 : lw_okq (⟨"MethodWarden$Reader", "join", "(I)V"⟩, 8) := ⟨⟨by decide +kernel, by decide +kernel⟩, List.mem_of_getElem? (i := 57) (by decide +kernel), List.mem_of_getElem? (i := 502) (by decide +kernel), List.mem_of_getElem? (i := 503) (by decide +kernel)⟩
theorem lw_p13 : lw_okq (⟨"MethodWarden$Reader", "popOperand", "()I"⟩, 8) := ⟨⟨by decide +kernel, by decide +kernel⟩, List.mem_of_getElem? (i := 57) (by decide +kernel), List.mem_of_getElem? (i := 506) (by decide +kernel), List.mem_of_getElem? (i := 507) (by decide +kernel)⟩
theorem lw_p14 : lw_okq (⟨"MethodWarden$Reader", "pushOperand", "(I)V"⟩, 8) := ⟨⟨by decide +kernel, by decide +kernel⟩, List.mem_of_getElem? (i := 57) (by decide +kernel), List.mem_of_getElem? (i := 517) (by decide +kernel), List.mem_of_getElem? (i := 518) (by decide +kernel)⟩
theorem lw_p15 : lw_okq (⟨"MethodWarden$Reader", "takes", "(IJ)Z"⟩, 8) := ⟨⟨by decide +kernel, by decide +kernel⟩, List.mem_of_getElem? (i := 57) (by decide +kernel), List.mem_of_getElem? (i := 521) (by decide +kernel), List.mem_of_getElem? (i := 522) (by decide +kernel)⟩
def lw_privs_1 : List (MethodName × Nat) := [(⟨"MethodWarden$Text", "cutNumber", "()I"⟩, 6), (⟨"MethodWarden$Text", "passes", "(C)Z"⟩, 6), (⟨"MethodWarden$Text", "cutWord", "()I"⟩, 6), (⟨"MethodWarden$Text", "shortWord", "()I"⟩, 6), (⟨"MethodWarden$Text", "reads", "(Ljava/lang/String;)Z"⟩, 6), (⟨"MethodWarden$Text", "longWord", "()I"⟩, 6), (⟨"MethodWarden$Text", "cutSign", "()I"⟩, 6), (⟨"MethodWarden$Text", "cutLongSign", "(C)I"⟩, 6), (⟨"MethodWarden$Text", "cutQuestion", "()I"⟩, 6), (⟨"MethodWarden$Text", "cutDot", "()I"⟩, 6), (⟨"MethodWarden$Reader", "isFinished", "()Z"⟩, 8), (⟨"MethodWarden$Reader", "joinDownTo", "(I)V"⟩, 8), (⟨"MethodWarden$Reader", "join", "(I)V"⟩, 8), (⟨"MethodWarden$Reader", "popOperand", "()I"⟩, 8), (⟨"MethodWarden$Reader", "pushOperand", "(I)V"⟩, 8), (⟨"MethodWarden$Reader", "takes", "(IJ)Z"⟩, 8)]
theorem lw_r1 : ∀ q ∈ lw_privs_1, lw_okq q := List.forall_mem_cons.mpr ⟨lw_p0, List.forall_mem_cons.mpr ⟨lw_p1, List.forall_mem_cons.mpr ⟨lw_p2, List.forall_mem_cons.mpr ⟨lw_p3, List.forall_mem_cons.mpr ⟨lw_p4, List.forall_mem_cons.mpr ⟨lw_p5, List.forall_mem_cons.mpr ⟨lw_p6, List.forall_mem_cons.mpr ⟨lw_p7, List.forall_mem_cons.mpr ⟨lw_p8, List.forall_mem_cons.mpr ⟨lw_p9, List.forall_mem_cons.mpr ⟨lw_p10, List.forall_mem_cons.mpr ⟨lw_p11, List.forall_mem_cons.mpr ⟨lw_p12, List.forall_mem_cons.mpr ⟨lw_p13, List.forall_mem_cons.mpr ⟨lw_p14, List.forall_mem_cons.mpr ⟨lw_p15, fun _ h => absurd h List.not_mem_nil⟩⟩⟩⟩⟩⟩⟩⟩⟩⟩⟩⟩⟩⟩⟩⟩
theorem lw_p16 : lw_okq (⟨"MethodWarden$Reader", "takesForValue", "(IJ)Z"⟩, 8) := ⟨⟨by decide +kernel, by decide +kernel⟩, List.mem_of_getElem? (i := 57) (by decide +kernel), List.mem_of_getElem? (i := 528) (by decide +kernel), List.mem_of_getElem? (i := 529) (by decide +kernel)⟩
theorem lw_p17 : lw_okq (⟨"MethodWarden$Reader", "begin", "(I)Z"⟩, 8) := ⟨⟨by decide +kernel, by decide +kernel⟩, List.mem_of_getElem? (i := 57) (by decide +kernel), List.mem_of_getElem? (i := 532) (by decide +kernel), List.mem_of_getElem? (i := 533) (by decide +kernel)⟩
theorem lw_p18 : lw_okq (⟨"MethodWarden$Reader", "takesLeaf", "(IJ)Z"⟩, 8) := ⟨⟨by decide +kernel, by decide +kernel⟩, List.mem_of_getElem? (i := 57) (by decide +kernel), List.mem_of_getElem? (i := 539) (by decide +kernel), List.mem_of_getElem? (i := 540) (by decide +kernel)⟩
theorem lw_p19 : lw_okq (⟨"MethodWarden$Reader", "joinNow", "(I)Z"⟩, 8) := ⟨⟨by decide +kernel, by decide +kernel⟩, List.mem_of_getElem? (i := 57) (by decide +kernel), List.mem_of_getElem? (i := 548) (by decide +kernel), List.mem_of_getElem? (i := 549) (by decide +kernel)⟩
theorem lw_p20 : lw_okq (⟨"MethodWarden$Reader", "takesBehindValue", "(I)Z"⟩, 8) := ⟨⟨by decide +kernel, by decide +kernel⟩, List.mem_of_getElem? (i := 57) (by decide +kernel), List.mem_of_getElem? (i := 552) (by decide +kernel), List.mem_of_getElem? (i := 553) (by decide +kernel)⟩
theorem lw_p21 : lw_okq (⟨"MethodWarden$Reader", "closesRound", "()Z"⟩, 8) := ⟨⟨by decide +kernel, by decide +kernel⟩, List.mem_of_getElem? (i := 57) (by decide +kernel), List.mem_of_getElem? (i := 556) (by decide +kernel), List.mem_of_getElem? (i := 557) (by decide +kernel)⟩
theorem lw_p22 : lw_okq (⟨"MethodWarden$Reader", "innermost", "()I"⟩, 8) := ⟨⟨by decide +kernel, by decide +kernel⟩, List.mem_of_getElem? (i := 57) (by decide +kernel), List.mem_of_getElem? (i := 560) (by decide +kernel), List.mem_of_getElem? (i := 561) (by decide +kernel)⟩
theorem lw_p23 : lw_okq (⟨"MethodWarden$Reader", "closesSquare", "()Z"⟩, 8) := ⟨⟨by decide +kernel, by decide +kernel⟩, List.mem_of_getElem? (i := 57) (by decide +kernel), List.mem_of_getElem? (i := 564) (by decide +kernel), List.mem_of_getElem? (i := 565) (by decide +kernel)⟩
theorem lw_p24 : lw_okq (⟨"MethodWarden$Reader", "takesColon", "()Z"⟩, 8) := ⟨⟨by decide +kernel, by decide +kernel⟩, List.mem_of_getElem? (i := 57) (by decide +kernel), List.mem_of_getElem? (i := 571) (by decide +kernel), List.mem_of_getElem? (i := 572) (by decide +kernel)⟩
theorem lw_p25 : lw_okq (⟨"MethodWarden$Reader", "waitsForSize", "(I)Z"⟩, 8) := ⟨⟨by decide +kernel, by decide +kernel⟩, List.mem_of_getElem? (i := 57) (by decide +kernel), List.mem_of_getElem? (i := 575) (by decide +kernel), List.mem_of_getElem? (i := 576) (by decide +kernel)⟩
theorem lw_p26 : lw_okq (⟨"MethodWarden$Reader", "takesBetween", "(I)Z"⟩, 8) := ⟨⟨by decide +kernel, by decide +kernel⟩, List.mem_of_getElem? (i := 57) (by decide +kernel), List.mem_of_getElem? (i := 579) (by decide +kernel), List.mem_of_getElem? (i := 580) (by decide +kernel)⟩
theorem lw_p27 : lw_okq (⟨"MethodWarden", "isGuard", "(II)Z"⟩, 9) := ⟨⟨by decide +kernel, by decide +kernel⟩, List.mem_of_getElem? (i := 19) (by decide +kernel), List.mem_of_getElem? (i := 655) (by decide +kernel), List.mem_of_getElem? (i := 656) (by decide +kernel)⟩
theorem lw_p28 : lw_okq (⟨"MethodWarden", "hasExpression", "(I)Z"⟩, 9) := ⟨⟨by decide +kernel, by decide +kernel⟩, List.mem_of_getElem? (i := 19) (by decide +kernel), List.mem_of_getElem? (i := 659) (by decide +kernel), List.mem_of_getElem? (i := 660) (by decide +kernel)⟩
theorem lw_p29 : lw_okq (⟨"MethodWarden", "isRule", "(I)Z"⟩, 9) := ⟨⟨by decide +kernel, by decide +kernel⟩, List.mem_of_getElem? (i := 19) (by decide +kernel), List.mem_of_getElem? (i := 682) (by decide +kernel), List.mem_of_getElem? (i := 683) (by decide +kernel)⟩
theorem lw_p30 : lw_okq (⟨"MethodWarden$Gate", "run", "(II)I"⟩, 10) := ⟨⟨by decide +kernel, by decide +kernel⟩, List.mem_of_getElem? (i := 226) (by decide +kernel), List.mem_of_getElem? (i := 717) (by decide +kernel), List.mem_of_getElem? (i := 718) (by decide +kernel)⟩
theorem lw_p31 : lw_okq (⟨"MethodWarden$Gate", "guardOf", "(I)LMethodWarden$Guard;"⟩, 10) := ⟨⟨by decide +kernel, by decide +kernel⟩, List.mem_of_getElem? (i := 226) (by decide +kernel), List.mem_of_getElem? (i := 721) (by decide +kernel), List.mem_of_getElem? (i := 722) (by decide +kernel)⟩
def lw_privs_2 : List (MethodName × Nat) := [(⟨"MethodWarden$Reader", "takesForValue", "(IJ)Z"⟩, 8), (⟨"MethodWarden$Reader", "begin", "(I)Z"⟩, 8), (⟨"MethodWarden$Reader", "takesLeaf", "(IJ)Z"⟩, 8), (⟨"MethodWarden$Reader", "joinNow", "(I)Z"⟩, 8), (⟨"MethodWarden$Reader", "takesBehindValue", "(I)Z"⟩, 8), (⟨"MethodWarden$Reader", "closesRound", "()Z"⟩, 8), (⟨"MethodWarden$Reader", "innermost", "()I"⟩, 8), (⟨"MethodWarden$Reader", "closesSquare", "()Z"⟩, 8), (⟨"MethodWarden$Reader", "takesColon", "()Z"⟩, 8), (⟨"MethodWarden$Reader", "waitsForSize", "(I)Z"⟩, 8), (⟨"MethodWarden$Reader", "takesBetween", "(I)Z"⟩, 8), (⟨"MethodWarden", "isGuard", "(II)Z"⟩, 9), (⟨"MethodWarden", "hasExpression", "(I)Z"⟩, 9), (⟨"MethodWarden", "isRule", "(I)Z"⟩, 9), (⟨"MethodWarden$Gate", "run", "(II)I"⟩, 10), (⟨"MethodWarden$Gate", "guardOf", "(I)LMethodWarden$Guard;"⟩, 10)]
theorem lw_r2 : ∀ q ∈ lw_privs_2, lw_okq q := List.forall_mem_cons.mpr ⟨lw_p16, List.forall_mem_cons.mpr ⟨lw_p17, List.forall_mem_cons.mpr ⟨lw_p18, List.forall_mem_cons.mpr ⟨lw_p19, List.forall_mem_cons.mpr ⟨lw_p20, List.forall_mem_cons.mpr ⟨lw_p21, List.forall_mem_cons.mpr ⟨lw_p22, List.forall_mem_cons.mpr ⟨lw_p23, List.forall_mem_cons.mpr ⟨lw_p24, List.forall_mem_cons.mpr ⟨lw_p25, List.forall_mem_cons.mpr ⟨lw_p26, List.forall_mem_cons.mpr ⟨lw_p27, List.forall_mem_cons.mpr ⟨lw_p28, List.forall_mem_cons.mpr ⟨lw_p29, List.forall_mem_cons.mpr ⟨lw_p30, List.forall_mem_cons.mpr ⟨lw_p31, fun _ h => absurd h List.not_mem_nil⟩⟩⟩⟩⟩⟩⟩⟩⟩⟩⟩⟩⟩⟩⟩⟩
theorem lw_p32 : lw_okq (⟨"MethodWarden$Gate", "letIn", "(LMethodWarden$Method;LMethodWarden$Guard;LMethodWarden$Items;)I"⟩, 10) := ⟨⟨by decide +kernel, by decide +kernel⟩, List.mem_of_getElem? (i := 226) (by decide +kernel), List.mem_of_getElem? (i := 726) (by decide +kernel), List.mem_of_getElem? (i := 727) (by decide +kernel)⟩
theorem lw_p33 : lw_okq (⟨"MethodWarden$Worker", "sift", "(IILMethodWarden$Items;LMethodWarden$Items;)Z"⟩, 11) := ⟨⟨by decide +kernel, by decide +kernel⟩, List.mem_of_getElem? (i := 160) (by decide +kernel), List.mem_of_getElem? (i := 747) (by decide +kernel), List.mem_of_getElem? (i := 748) (by decide +kernel)⟩
theorem lw_p34 : lw_okq (⟨"MethodWarden$Worker", "answerFor", "(III)LMethodWarden$Value;"⟩, 11) := ⟨⟨by decide +kernel, by decide +kernel⟩, List.mem_of_getElem? (i := 160) (by decide +kernel), List.mem_of_getElem? (i := 756) (by decide +kernel), List.mem_of_getElem? (i := 757) (by decide +kernel)⟩
theorem lw_p35 : lw_okq (⟨"MethodWarden$Worker", "valueOf", "(II)LMethodWarden$Value;"⟩, 11) := ⟨⟨by decide +kernel, by decide +kernel⟩, List.mem_of_getElem? (i := 160) (by decide +kernel), List.mem_of_getElem? (i := 760) (by decide +kernel), List.mem_of_getElem? (i := 761) (by decide +kernel)⟩
theorem lw_p36 : lw_okq (⟨"MethodWarden$Worker", "valueOfLogic", "(IZ)LMethodWarden$Value;"⟩, 11) := ⟨⟨by decide +kernel, by decide +kernel⟩, List.mem_of_getElem? (i := 160) (by decide +kernel), List.mem_of_getElem? (i := 764) (by decide +kernel), List.mem_of_getElem? (i := 765) (by decide +kernel)⟩
theorem lw_p37 : lw_okq (⟨"MethodWarden$Worker", "valueOfChoice", "(I)LMethodWarden$Value;"⟩, 11) := ⟨⟨by decide +kernel, by decide +kernel⟩, List.mem_of_getElem? (i := 160) (by decide +kernel), List.mem_of_getElem? (i := 776) (by decide +kernel), List.mem_of_getElem? (i := 777) (by decide +kernel)⟩
theorem lw_p38 : lw_okq (⟨"MethodWarden$Worker", "valueOfIfNothing", "(I)LMethodWarden$Value;"⟩, 11) := ⟨⟨by decide +kernel, by decide +kernel⟩, List.mem_of_getElem? (i := 160) (by decide +kernel), List.mem_of_getElem? (i := 780) (by decide +kernel), List.mem_of_getElem? (i := 781) (by decide +kernel)⟩
theorem lw_p39 : lw_okq (⟨"MethodWarden$Worker", "valueOfSearch", "(II)LMethodWarden$Value;"⟩, 11) := ⟨⟨by decide +kernel, by decide +kernel⟩, List.mem_of_getElem? (i := 160) (by decide +kernel), List.mem_of_getElem? (i := 788) (by decide +kernel), List.mem_of_getElem? (i := 789) (by decide +kernel)⟩
theorem lw_p40 : lw_okq (⟨"MethodWarden$Worker", "find", "(IILMethodWarden$Items;ZLMethodWarden$Value;)LMethodWarden$Value;"⟩, 11) := ⟨⟨by decide +kernel, by decide +kernel⟩, List.mem_of_getElem? (i := 160) (by decide +kernel), List.mem_of_getElem? (i := 801) (by decide +kernel), List.mem_of_getElem? (i := 802) (by decide +kernel)⟩
theorem lw_p41 : lw_okq (⟨"MethodWarden$Worker", "valueOfLeaf", "(IJLMethodWarden$Value;)LMethodWarden$Value;"⟩, 11) := ⟨⟨by decide +kernel, by decide +kernel⟩, List.mem_of_getElem? (i := 160) (by decide +kernel), List.mem_of_getElem? (i := 814) (by decide +kernel), List.mem_of_getElem? (i := 815) (by decide +kernel)⟩
theorem lw_p42 : lw_okq (⟨"MethodWarden$Worker", "valueOfOne", "(ILMethodWarden$Value;LMethodWarden$Value;)LMethodWarden$Value;"⟩, 11) := ⟨⟨by decide +kernel, by decide +kernel⟩, List.mem_of_getElem? (i := 160) (by decide +kernel), List.mem_of_getElem? (i := 837) (by decide +kernel), List.mem_of_getElem? (i := 838) (by decide +kernel)⟩
theorem lw_p43 : lw_okq (⟨"MethodWarden$Worker", "negated", "(LMethodWarden$Value;LMethodWarden$Value;)LMethodWarden$Value;"⟩, 11) := ⟨⟨by decide +kernel, by decide +kernel⟩, List.mem_of_getElem? (i := 160) (by decide +kernel), List.mem_of_getElem? (i := 841) (by decide +kernel), List.mem_of_getElem? (i := 842) (by decide +kernel)⟩
theorem lw_p44 : lw_okq (⟨"MethodWarden$Worker", "sizeOf", "(LMethodWarden$Value;LMethodWarden$Value;)LMethodWarden$Value;"⟩, 11) := ⟨⟨by decide +kernel, by decide +kernel⟩, List.mem_of_getElem? (i := 160) (by decide +kernel), List.mem_of_getElem? (i := 855) (by decide +kernel), List.mem_of_getElem? (i := 856) (by decide +kernel)⟩
theorem lw_p45 : lw_okq (⟨"MethodWarden$Worker", "valueOfTwo", "(ILMethodWarden$Value;LMethodWarden$Value;LMethodWarden$Value;)LMethodWarden$Value;"⟩, 11) := ⟨⟨by decide +kernel, by decide +kernel⟩, List.mem_of_getElem? (i := 160) (by decide +kernel), List.mem_of_getElem? (i := 859) (by decide +kernel), List.mem_of_getElem? (i := 860) (by decide +kernel)⟩
theorem lw_p46 : lw_okq (⟨"MethodWarden$Worker", "itemOf", "(LMethodWarden$Value;LMethodWarden$Value;LMethodWarden$Value;)LMethodWarden$Value;"⟩, 11) := ⟨⟨by decide +kernel, by decide +kernel⟩, List.mem_of_getElem? (i := 160) (by decide +kernel), List.mem_of_getElem? (i := 873) (by decide +kernel), List.mem_of_getElem? (i := 874) (by decide +kernel)⟩
theorem lw_p47 : lw_okq (⟨"MethodWarden$Worker", "valueOfNumbers", "(ILMethodWarden$Value;LMethodWarden$Value;LMethodWarden$Value;)LMethodWarden$Value;"⟩, 11) := ⟨⟨by decide +kernel, by decide +kernel⟩, List.mem_of_getElem? (i := 160) (by decide +kernel), List.mem_of_getElem? (i := 881) (by decide +kernel), List.mem_of_getElem? (i := 882) (by decide +kernel)⟩
def lw_privs_3 : List (MethodName × Nat) := [(⟨"MethodWarden$Gate", "letIn", "(LMethodWarden$Method;LMethodWarden$Guard;LMethodWarden$Items;)I"⟩, 10), (⟨"MethodWarden$Worker", "sift", "(IILMethodWarden$Items;LMethodWarden$Items;)Z"⟩, 11), (⟨"MethodWarden$Worker", "answerFor", "(III)LMethodWarden$Value;"⟩, 11), (⟨"MethodWarden$Worker", "valueOf", "(II)LMethodWarden$Value;"⟩, 11), (⟨"MethodWarden$Worker", "valueOfLogic", "(IZ)LMethodWarden$Value;"⟩, 11), (⟨"MethodWarden$Worker", "valueOfChoice", "(I)LMethodWarden$Value;"⟩, 11), (⟨"MethodWarden$Worker", "valueOfIfNothing", "(I)LMethodWarden$Value;"⟩, 11), (⟨"MethodWarden$Worker", "valueOfSearch", "(II)LMethodWarden$Value;"⟩, 11), (⟨"MethodWarden$Worker", "find", "(IILMethodWarden$Items;ZLMethodWarden$Value;)LMethodWarden$Value;"⟩, 11), (⟨"MethodWarden$Worker", "valueOfLeaf", "(IJLMethodWarden$Value;)LMethodWarden$Value;"⟩, 11), (⟨"MethodWarden$Worker", "valueOfOne", "(ILMethodWarden$Value;LMethodWarden$Value;)LMethodWarden$Value;"⟩, 11), (⟨"MethodWarden$Worker", "negated", "(LMethodWarden$Value;LMethodWarden$Value;)LMethodWarden$Value;"⟩, 11), (⟨"MethodWarden$Worker", "sizeOf", "(LMethodWarden$Value;LMethodWarden$Value;)LMethodWarden$Value;"⟩, 11), (⟨"MethodWarden$Worker", "valueOfTwo", "(ILMethodWarden$Value;LMethodWarden$Value;LMethodWarden$Value;)LMethodWarden$Value;"⟩, 11), (⟨"MethodWarden$Worker", "itemOf", "(LMethodWarden$Value;LMethodWarden$Value;LMethodWarden$Value;)LMethodWarden$Value;"⟩, 11), (⟨"MethodWarden$Worker", "valueOfNumbers", "(ILMethodWarden$Value;LMethodWarden$Value;LMethodWarden$Value;)LMethodWarden$Value;"⟩, 11)]
theorem lw_r3 : ∀ q ∈ lw_privs_3, lw_okq q := List.forall_mem_cons.mpr ⟨lw_p32, List.forall_mem_cons.mpr ⟨lw_p33, List.forall_mem_cons.mpr ⟨lw_p34, List.forall_mem_cons.mpr ⟨lw_p35, List.forall_mem_cons.mpr ⟨lw_p36, List.forall_mem_cons.mpr ⟨lw_p37, List.forall_mem_cons.mpr ⟨lw_p38, List.forall_mem_cons.mpr ⟨lw_p39, List.forall_mem_cons.mpr ⟨lw_p40, List.forall_mem_cons.mpr ⟨lw_p41, List.forall_mem_cons.mpr ⟨lw_p42, List.forall_mem_cons.mpr ⟨lw_p43, List.forall_mem_cons.mpr ⟨lw_p44, List.forall_mem_cons.mpr ⟨lw_p45, List.forall_mem_cons.mpr ⟨lw_p46, List.forall_mem_cons.mpr ⟨lw_p47, fun _ h => absurd h List.not_mem_nil⟩⟩⟩⟩⟩⟩⟩⟩⟩⟩⟩⟩⟩⟩⟩⟩
theorem lw_p48 : lw_okq (⟨"MethodWarden$Gate", "work", "(LMethodWarden$Method;I)I"⟩, 10) := ⟨⟨by decide +kernel, by decide +kernel⟩, List.mem_of_getElem? (i := 226) (by decide +kernel), List.mem_of_getElem? (i := 904) (by decide +kernel), List.mem_of_getElem? (i := 905) (by decide +kernel)⟩
theorem lw_p49 : lw_okq (⟨"MethodWarden$Gate", "throwing", "(I)I"⟩, 10) := ⟨⟨by decide +kernel, by decide +kernel⟩, List.mem_of_getElem? (i := 226) (by decide +kernel), List.mem_of_getElem? (i := 919) (by decide +kernel), List.mem_of_getElem? (i := 920) (by decide +kernel)⟩
theorem lw_p50 : lw_okq (⟨"MethodWarden$Gate", "callOn", "(II)I"⟩, 10) := ⟨⟨by decide +kernel, by decide +kernel⟩, List.mem_of_getElem? (i := 226) (by decide +kernel), List.mem_of_getElem? (i := 925) (by decide +kernel), List.mem_of_getElem? (i := 926) (by decide +kernel)⟩
theorem lw_p51 : lw_okq (⟨"MethodWarden$Gate", "letOut", "(LMethodWarden$Method;LMethodWarden$Items;)I"⟩, 10) := ⟨⟨by decide +kernel, by decide +kernel⟩, List.mem_of_getElem? (i := 226) (by decide +kernel), List.mem_of_getElem? (i := 932) (by decide +kernel), List.mem_of_getElem? (i := 933) (by decide +kernel)⟩
theorem lw_p52 : lw_okq (⟨"MethodWardenModel", "read", "()I"⟩, 61) := ⟨⟨by decide +kernel, by decide +kernel⟩, List.mem_of_getElem? (i := 987) (by decide +kernel), List.mem_of_getElem? (i := 1186) (by decide +kernel), List.mem_of_getElem? (i := 1187) (by decide +kernel)⟩
theorem lw_p53 : lw_okq (⟨"MethodWardenModel", "at", "(I)I"⟩, 61) := ⟨⟨by decide +kernel, by decide +kernel⟩, List.mem_of_getElem? (i := 987) (by decide +kernel), List.mem_of_getElem? (i := 1190) (by decide +kernel), List.mem_of_getElem? (i := 1191) (by decide +kernel)⟩
theorem lw_p54 : lw_okq (⟨"MethodWardenModel", "reduce", "(I)V"⟩, 61) := ⟨⟨by decide +kernel, by decide +kernel⟩, List.mem_of_getElem? (i := 987) (by decide +kernel), List.mem_of_getElem? (i := 1194) (by decide +kernel), List.mem_of_getElem? (i := 1195) (by decide +kernel)⟩
theorem lw_p55 : lw_okq (⟨"MethodWardenModel", "rank", "(I)I"⟩, 61) := ⟨⟨by decide +kernel, by decide +kernel⟩, List.mem_of_getElem? (i := 987) (by decide +kernel), List.mem_of_getElem? (i := 1198) (by decide +kernel), List.mem_of_getElem? (i := 1199) (by decide +kernel)⟩
theorem lw_p56 : lw_okq (⟨"MethodWardenModel", "emit", "(IJ)V"⟩, 61) := ⟨⟨by decide +kernel, by decide +kernel⟩, List.mem_of_getElem? (i := 987) (by decide +kernel), List.mem_of_getElem? (i := 1202) (by decide +kernel), List.mem_of_getElem? (i := 1203) (by decide +kernel)⟩
theorem lw_p57 : lw_okq (⟨"MethodWardenModel", "digit", "(I)Z"⟩, 61) := ⟨⟨by decide +kernel, by decide +kernel⟩, List.mem_of_getElem? (i := 987) (by decide +kernel), List.mem_of_getElem? (i := 1206) (by decide +kernel), List.mem_of_getElem? (i := 1207) (by decide +kernel)⟩
theorem lw_p58 : lw_okq (⟨"MethodWardenModel", "numeral", "()I"⟩, 61) := ⟨⟨by decide +kernel, by decide +kernel⟩, List.mem_of_getElem? (i := 987) (by decide +kernel), List.mem_of_getElem? (i := 1210) (by decide +kernel), List.mem_of_getElem? (i := 1211) (by decide +kernel)⟩
theorem lw_p59 : lw_okq (⟨"MethodWardenModel", "small", "(I)Z"⟩, 61) := ⟨⟨by decide +kernel, by decide +kernel⟩, List.mem_of_getElem? (i := 987) (by decide +kernel), List.mem_of_getElem? (i := 1217) (by decide +kernel), List.mem_of_getElem? (i := 1218) (by decide +kernel)⟩
theorem lw_p60 : lw_okq (⟨"MethodWardenModel", "word", "()I"⟩, 61) := ⟨⟨by decide +kernel, by decide +kernel⟩, List.mem_of_getElem? (i := 987) (by decide +kernel), List.mem_of_getElem? (i := 1221) (by decide +kernel), List.mem_of_getElem? (i := 1222) (by decide +kernel)⟩
theorem lw_p61 : lw_okq (⟨"MethodWardenModel", "letters", "(IIII)I"⟩, 61) := ⟨⟨by decide +kernel, by decide +kernel⟩, List.mem_of_getElem? (i := 987) (by decide +kernel), List.mem_of_getElem? (i := 1225) (by decide +kernel), List.mem_of_getElem? (i := 1226) (by decide +kernel)⟩
theorem lw_p62 : lw_okq (⟨"MethodWardenModel", "signToken", "()I"⟩, 61) := ⟨⟨by decide +kernel, by decide +kernel⟩, List.mem_of_getElem? (i := 987) (by decide +kernel), List.mem_of_getElem? (i := 1229) (by decide +kernel), List.mem_of_getElem? (i := 1230) (by decide +kernel)⟩
theorem lw_p63 : lw_okq (⟨"MethodWardenModel", "take", "(I)Z"⟩, 61) := ⟨⟨by decide +kernel, by decide +kernel⟩, List.mem_of_getElem? (i := 987) (by decide +kernel), List.mem_of_getElem? (i := 1233) (by decide +kernel), List.mem_of_getElem? (i := 1234) (by decide +kernel)⟩
def lw_privs_4 : List (MethodName × Nat) := [(⟨"MethodWarden$Gate", "work", "(LMethodWarden$Method;I)I"⟩, 10), (⟨"MethodWarden$Gate", "throwing", "(I)I"⟩, 10), (⟨"MethodWarden$Gate", "callOn", "(II)I"⟩, 10), (⟨"MethodWarden$Gate", "letOut", "(LMethodWarden$Method;LMethodWarden$Items;)I"⟩, 10), (⟨"MethodWardenModel", "read", "()I"⟩, 61), (⟨"MethodWardenModel", "at", "(I)I"⟩, 61), (⟨"MethodWardenModel", "reduce", "(I)V"⟩, 61), (⟨"MethodWardenModel", "rank", "(I)I"⟩, 61), (⟨"MethodWardenModel", "emit", "(IJ)V"⟩, 61), (⟨"MethodWardenModel", "digit", "(I)Z"⟩, 61), (⟨"MethodWardenModel", "numeral", "()I"⟩, 61), (⟨"MethodWardenModel", "small", "(I)Z"⟩, 61), (⟨"MethodWardenModel", "word", "()I"⟩, 61), (⟨"MethodWardenModel", "letters", "(IIII)I"⟩, 61), (⟨"MethodWardenModel", "signToken", "()I"⟩, 61), (⟨"MethodWardenModel", "take", "(I)Z"⟩, 61)]
theorem lw_r4 : ∀ q ∈ lw_privs_4, lw_okq q := List.forall_mem_cons.mpr ⟨lw_p48, List.forall_mem_cons.mpr ⟨lw_p49, List.forall_mem_cons.mpr ⟨lw_p50, List.forall_mem_cons.mpr ⟨lw_p51, List.forall_mem_cons.mpr ⟨lw_p52, List.forall_mem_cons.mpr ⟨lw_p53, List.forall_mem_cons.mpr ⟨lw_p54, List.forall_mem_cons.mpr ⟨lw_p55, List.forall_mem_cons.mpr ⟨lw_p56, List.forall_mem_cons.mpr ⟨lw_p57, List.forall_mem_cons.mpr ⟨lw_p58, List.forall_mem_cons.mpr ⟨lw_p59, List.forall_mem_cons.mpr ⟨lw_p60, List.forall_mem_cons.mpr ⟨lw_p61, List.forall_mem_cons.mpr ⟨lw_p62, List.forall_mem_cons.mpr ⟨lw_p63, fun _ h => absurd h List.not_mem_nil⟩⟩⟩⟩⟩⟩⟩⟩⟩⟩⟩⟩⟩⟩⟩⟩
theorem lw_p64 : lw_okq (⟨"MethodWardenModel", "wait", "(I)V"⟩, 61) := ⟨⟨by decide +kernel, by decide +kernel⟩, List.mem_of_getElem? (i := 987) (by decide +kernel), List.mem_of_getElem? (i := 1237) (by decide +kernel), List.mem_of_getElem? (i := 1238) (by decide +kernel)⟩
theorem lw_p65 : lw_okq (⟨"MethodWardenModel", "shut", "(I)Z"⟩, 61) := ⟨⟨by decide +kernel, by decide +kernel⟩, List.mem_of_getElem? (i := 987) (by decide +kernel), List.mem_of_getElem? (i := 1241) (by decide +kernel), List.mem_of_getElem? (i := 1242) (by decide +kernel)⟩
theorem lw_p66 : lw_okq (⟨"MethodWardenModel", "waiting", "()I"⟩, 61) := ⟨⟨by decide +kernel, by decide +kernel⟩, List.mem_of_getElem? (i := 987) (by decide +kernel), List.mem_of_getElem? (i := 1245) (by decide +kernel), List.mem_of_getElem? (i := 1246) (by decide +kernel)⟩
theorem lw_p67 : lw_okq (⟨"MethodWardenModel", "closure", "(I)I"⟩, 61) := ⟨⟨by decide +kernel, by decide +kernel⟩, List.mem_of_getElem? (i := 987) (by decide +kernel), List.mem_of_getElem? (i := 1253) (by decide +kernel), List.mem_of_getElem? (i := 1254) (by decide +kernel)⟩
theorem lw_p68 : lw_okq (⟨"MethodWardenModel", "written", "(I)Z"⟩, 61) := ⟨⟨by decide +kernel, by decide +kernel⟩, List.mem_of_getElem? (i := 987) (by decide +kernel), List.mem_of_getElem? (i := 1279) (by decide +kernel), List.mem_of_getElem? (i := 1280) (by decide +kernel)⟩
theorem lw_p69 : lw_okq (⟨"MethodWardenModel", "giveList", "()V"⟩, 61) := ⟨⟨by decide +kernel, by decide +kernel⟩, List.mem_of_getElem? (i := 987) (by decide +kernel), List.mem_of_getElem? (i := 1295) (by decide +kernel), List.mem_of_getElem? (i := 1296) (by decide +kernel)⟩
theorem lw_p70 : lw_okq (⟨"MethodWardenModel", "open", "(I)V"⟩, 61) := ⟨⟨by decide +kernel, by decide +kernel⟩, List.mem_of_getElem? (i := 987) (by decide +kernel), List.mem_of_getElem? (i := 1299) (by decide +kernel), List.mem_of_getElem? (i := 1300) (by decide +kernel)⟩
theorem lw_p71 : lw_okq (⟨"MethodWardenModel", "enter", "()I"⟩, 61) := ⟨⟨by decide +kernel, by decide +kernel⟩, List.mem_of_getElem? (i := 987) (by decide +kernel), List.mem_of_getElem? (i := 1303) (by decide +kernel), List.mem_of_getElem? (i := 1304) (by decide +kernel)⟩
theorem lw_p72 : lw_okq (⟨"MethodWardenModel", "guardOf", "(I)I"⟩, 61) := ⟨⟨by decide +kernel, by decide +kernel⟩, List.mem_of_getElem? (i := 987) (by decide +kernel), List.mem_of_getElem? (i := 1307) (by decide +kernel), List.mem_of_getElem? (i := 1308) (by decide +kernel)⟩
theorem lw_p73 : lw_okq (⟨"MethodWardenModel", "see", "()V"⟩, 61) := ⟨⟨by decide +kernel, by decide +kernel⟩, List.mem_of_getElem? (i := 987) (by decide +kernel), List.mem_of_getElem? (i := 1311) (by decide +kernel), List.mem_of_getElem? (i := 1312) (by decide +kernel)⟩
theorem lw_p74 : lw_okq (⟨"MethodWardenModel", "sift", "(II)I"⟩, 61) := ⟨⟨by decide +kernel, by decide +kernel⟩, List.mem_of_getElem? (i := 987) (by decide +kernel), List.mem_of_getElem? (i := 1315) (by decide +kernel), List.mem_of_getElem? (i := 1316) (by decide +kernel)⟩
theorem lw_p75 : lw_okq (⟨"MethodWardenModel", "work", "(I)V"⟩, 61) := ⟨⟨by decide +kernel, by decide +kernel⟩, List.mem_of_getElem? (i := 987) (by decide +kernel), List.mem_of_getElem? (i := 1319) (by decide +kernel), List.mem_of_getElem? (i := 1320) (by decide +kernel)⟩
theorem lw_p76 : lw_okq (⟨"MethodWardenModel", "begin", "(II)I"⟩, 61) := ⟨⟨by decide +kernel, by decide +kernel⟩, List.mem_of_getElem? (i := 987) (by decide +kernel), List.mem_of_getElem? (i := 1323) (by decide +kernel), List.mem_of_getElem? (i := 1324) (by decide +kernel)⟩
theorem lw_p77 : lw_okq (⟨"MethodWardenModel", "push", "(IJ)V"⟩, 61) := ⟨⟨by decide +kernel, by decide +kernel⟩, List.mem_of_getElem? (i := 987) (by decide +kernel), List.mem_of_getElem? (i := 1327) (by decide +kernel), List.mem_of_getElem? (i := 1328) (by decide +kernel)⟩
theorem lw_p78 : lw_okq (⟨"MethodWardenModel", "again", "(II)I"⟩, 61) := ⟨⟨by decide +kernel, by decide +kernel⟩, List.mem_of_getElem? (i := 987) (by decide +kernel), List.mem_of_getElem? (i := 1331) (by decide +kernel), List.mem_of_getElem? (i := 1332) (by decide +kernel)⟩
theorem lw_p79 : lw_okq (⟨"MethodWardenModel", "pushItems", "(II)V"⟩, 61) := ⟨⟨by decide +kernel, by decide +kernel⟩, List.mem_of_getElem? (i := 987) (by decide +kernel), List.mem_of_getElem? (i := 1335) (by decide +kernel), List.mem_of_getElem? (i := 1336) (by decide +kernel)⟩
def lw_privs_5 : List (MethodName × Nat) := [(⟨"MethodWardenModel", "wait", "(I)V"⟩, 61), (⟨"MethodWardenModel", "shut", "(I)Z"⟩, 61), (⟨"MethodWardenModel", "waiting", "()I"⟩, 61), (⟨"MethodWardenModel", "closure", "(I)I"⟩, 61), (⟨"MethodWardenModel", "written", "(I)Z"⟩, 61), (⟨"MethodWardenModel", "giveList", "()V"⟩, 61), (⟨"MethodWardenModel", "open", "(I)V"⟩, 61), (⟨"MethodWardenModel", "enter", "()I"⟩, 61), (⟨"MethodWardenModel", "guardOf", "(I)I"⟩, 61), (⟨"MethodWardenModel", "see", "()V"⟩, 61), (⟨"MethodWardenModel", "sift", "(II)I"⟩, 61), (⟨"MethodWardenModel", "work", "(I)V"⟩, 61), (⟨"MethodWardenModel", "begin", "(II)I"⟩, 61), (⟨"MethodWardenModel", "push", "(IJ)V"⟩, 61), (⟨"MethodWardenModel", "again", "(II)I"⟩, 61), (⟨"MethodWardenModel", "pushItems", "(II)V"⟩, 61)]
theorem lw_r5 : ∀ q ∈ lw_privs_5, lw_okq q := List.forall_mem_cons.mpr ⟨lw_p64, List.forall_mem_cons.mpr ⟨lw_p65, List.forall_mem_cons.mpr ⟨lw_p66, List.forall_mem_cons.mpr ⟨lw_p67, List.forall_mem_cons.mpr ⟨lw_p68, List.forall_mem_cons.mpr ⟨lw_p69, List.forall_mem_cons.mpr ⟨lw_p70, List.forall_mem_cons.mpr ⟨lw_p71, List.forall_mem_cons.mpr ⟨lw_p72, List.forall_mem_cons.mpr ⟨lw_p73, List.forall_mem_cons.mpr ⟨lw_p74, List.forall_mem_cons.mpr ⟨lw_p75, List.forall_mem_cons.mpr ⟨lw_p76, List.forall_mem_cons.mpr ⟨lw_p77, List.forall_mem_cons.mpr ⟨lw_p78, List.forall_mem_cons.mpr ⟨lw_p79, fun _ h => absurd h List.not_mem_nil⟩⟩⟩⟩⟩⟩⟩⟩⟩⟩⟩⟩⟩⟩⟩⟩
theorem lw_p80 : lw_okq (⟨"MethodWardenModel", "leaf", "(IJ)V"⟩, 61) := ⟨⟨by decide +kernel, by decide +kernel⟩, List.mem_of_getElem? (i := 987) (by decide +kernel), List.mem_of_getElem? (i := 1339) (by decide +kernel), List.mem_of_getElem? (i := 1340) (by decide +kernel)⟩
theorem lw_p81 : lw_okq (⟨"MethodWardenModel", "pushTruth", "(Z)V"⟩, 61) := ⟨⟨by decide +kernel, by decide +kernel⟩, List.mem_of_getElem? (i := 987) (by decide +kernel), List.mem_of_getElem? (i := 1343) (by decide +kernel), List.mem_of_getElem? (i := 1344) (by decide +kernel)⟩
theorem lw_p82 : lw_okq (⟨"MethodWardenModel", "single", "(I)V"⟩, 61) := ⟨⟨by decide +kernel, by decide +kernel⟩, List.mem_of_getElem? (i := 987) (by decide +kernel), List.mem_of_getElem? (i := 1347) (by decide +kernel), List.mem_of_getElem? (i := 1348) (by decide +kernel)⟩
theorem lw_p83 : lw_okq (⟨"MethodWardenModel", "isNumber", "(I)Z"⟩, 61) := ⟨⟨by decide +kernel, by decide +kernel⟩, List.mem_of_getElem? (i := 987) (by decide +kernel), List.mem_of_getElem? (i := 1351) (by decide +kernel), List.mem_of_getElem? (i := 1352) (by decide +kernel)⟩
theorem lw_p84 : lw_okq (⟨"MethodWardenModel", "choose", "(I)V"⟩, 61) := ⟨⟨by decide +kernel, by decide +kernel⟩, List.mem_of_getElem? (i := 987) (by decide +kernel), List.mem_of_getElem? (i := 1356) (by decide +kernel), List.mem_of_getElem? (i := 1357) (by decide +kernel)⟩
theorem lw_p85 : lw_okq (⟨"MethodWardenModel", "keep", "(I)V"⟩, 61) := ⟨⟨by decide +kernel, by decide +kernel⟩, List.mem_of_getElem? (i := 987) (by decide +kernel), List.mem_of_getElem? (i := 1360) (by decide +kernel), List.mem_of_getElem? (i := 1361) (by decide +kernel)⟩
theorem lw_p86 : lw_okq (⟨"MethodWardenModel", "pair", "(I)V"⟩, 61) := ⟨⟨by decide +kernel, by decide +kernel⟩, List.mem_of_getElem? (i := 987) (by decide +kernel), List.mem_of_getElem? (i := 1364) (by decide +kernel), List.mem_of_getElem? (i := 1365) (by decide +kernel)⟩
theorem lw_p87 : lw_okq (⟨"MethodWardenModel", "alike", "(I)Z"⟩, 61) := ⟨⟨by decide +kernel, by decide +kernel⟩, List.mem_of_getElem? (i := 987) (by decide +kernel), List.mem_of_getElem? (i := 1368) (by decide +kernel), List.mem_of_getElem? (i := 1369) (by decide +kernel)⟩
theorem lw_p88 : lw_okq (⟨"MethodWardenModel", "ordered", "(IJJ)Z"⟩, 61) := ⟨⟨by decide +kernel, by decide +kernel⟩, List.mem_of_getElem? (i := 987) (by decide +kernel), List.mem_of_getElem? (i := 1372) (by decide +kernel), List.mem_of_getElem? (i := 1373) (by decide +kernel)⟩
theorem lw_p89 : lw_okq (⟨"MethodWardenModel", "calculated", "(IJJ)J"⟩, 61) := ⟨⟨by decide +kernel, by decide +kernel⟩, List.mem_of_getElem? (i := 987) (by decide +kernel), List.mem_of_getElem? (i := 1376) (by decide +kernel), List.mem_of_getElem? (i := 1377) (by decide +kernel)⟩
theorem lw_p90 : lw_okq (⟨"MethodWardenModel", "opens", "(I)Z"⟩, 61) := ⟨⟨by decide +kernel, by decide +kernel⟩, List.mem_of_getElem? (i := 987) (by decide +kernel), List.mem_of_getElem? (i := 1380) (by decide +kernel), List.mem_of_getElem? (i := 1381) (by decide +kernel)⟩
theorem lw_p91 : lw_okq (⟨"MethodWardenModel", "holds", "(I)Z"⟩, 61) := ⟨⟨by decide +kernel, by decide +kernel⟩, List.mem_of_getElem? (i := 987) (by decide +kernel), List.mem_of_getElem? (i := 1384) (by decide +kernel), List.mem_of_getElem? (i := 1385) (by decide +kernel)⟩
theorem lw_p92 : lw_okq (⟨"MethodWardenModel", "give", "(I)I"⟩, 61) := ⟨⟨by decide +kernel, by decide +kernel⟩, List.mem_of_getElem? (i := 987) (by decide +kernel), List.mem_of_getElem? (i := 1388) (by decide +kernel), List.mem_of_getElem? (i := 1389) (by decide +kernel)⟩
theorem lw_p93 : lw_okq (⟨"MethodWardenModel", "leave", "(I)I"⟩, 61) := ⟨⟨by decide +kernel, by decide +kernel⟩, List.mem_of_getElem? (i := 987) (by decide +kernel), List.mem_of_getElem? (i := 1392) (by decide +kernel), List.mem_of_getElem? (i := 1393) (by decide +kernel)⟩
theorem lw_p94 : lw_okq (⟨"MethodWardenModel", "sifted", "(I)Z"⟩, 61) := ⟨⟨by decide +kernel, by decide +kernel⟩, List.mem_of_getElem? (i := 987) (by decide +kernel), List.mem_of_getElem? (i := 1396) (by decide +kernel), List.mem_of_getElem? (i := 1397) (by decide +kernel)⟩
def lw_privs_6 : List (MethodName × Nat) := [(⟨"MethodWardenModel", "leaf", "(IJ)V"⟩, 61), (⟨"MethodWardenModel", "pushTruth", "(Z)V"⟩, 61), (⟨"MethodWardenModel", "single", "(I)V"⟩, 61), (⟨"MethodWardenModel", "isNumber", "(I)Z"⟩, 61), (⟨"MethodWardenModel", "choose", "(I)V"⟩, 61), (⟨"MethodWardenModel", "keep", "(I)V"⟩, 61), (⟨"MethodWardenModel", "pair", "(I)V"⟩, 61), (⟨"MethodWardenModel", "alike", "(I)Z"⟩, 61), (⟨"MethodWardenModel", "ordered", "(IJJ)Z"⟩, 61), (⟨"MethodWardenModel", "calculated", "(IJJ)J"⟩, 61), (⟨"MethodWardenModel", "opens", "(I)Z"⟩, 61), (⟨"MethodWardenModel", "holds", "(I)Z"⟩, 61), (⟨"MethodWardenModel", "give", "(I)I"⟩, 61), (⟨"MethodWardenModel", "leave", "(I)I"⟩, 61), (⟨"MethodWardenModel", "sifted", "(I)Z"⟩, 61)]
theorem lw_r6 : ∀ q ∈ lw_privs_6, lw_okq q := List.forall_mem_cons.mpr ⟨lw_p80, List.forall_mem_cons.mpr ⟨lw_p81, List.forall_mem_cons.mpr ⟨lw_p82, List.forall_mem_cons.mpr ⟨lw_p83, List.forall_mem_cons.mpr ⟨lw_p84, List.forall_mem_cons.mpr ⟨lw_p85, List.forall_mem_cons.mpr ⟨lw_p86, List.forall_mem_cons.mpr ⟨lw_p87, List.forall_mem_cons.mpr ⟨lw_p88, List.forall_mem_cons.mpr ⟨lw_p89, List.forall_mem_cons.mpr ⟨lw_p90, List.forall_mem_cons.mpr ⟨lw_p91, List.forall_mem_cons.mpr ⟨lw_p92, List.forall_mem_cons.mpr ⟨lw_p93, List.forall_mem_cons.mpr ⟨lw_p94, fun _ h => absurd h List.not_mem_nil⟩⟩⟩⟩⟩⟩⟩⟩⟩⟩⟩⟩⟩⟩⟩
def lw_privs : List (MethodName × Nat) := lw_privs_1 ++ (lw_privs_2 ++ (lw_privs_3 ++ (lw_privs_4 ++ (lw_privs_5 ++ (lw_privs_6)))))
def lw_tbl : List Cond := k2_sels lw_privs ++ tables_1
theorem lw_privs_ok : ∀ q ∈ lw_privs, lw_okq q := by
  show ∀ q ∈ lw_privs_1 ++ (lw_privs_2 ++ (lw_privs_3 ++ (lw_privs_4 ++ (lw_privs_5 ++ (lw_privs_6))))), lw_okq q
  exact List.forall_mem_append.mpr ⟨lw_r1, List.forall_mem_append.mpr ⟨lw_r2, List.forall_mem_append.mpr ⟨lw_r3, List.forall_mem_append.mpr ⟨lw_r4, List.forall_mem_append.mpr ⟨lw_r5, lw_r6⟩⟩⟩⟩⟩
end
section
/-! Tables of the claim: classes, fields, the cells that the constructors make, String constants. Printed by gen_tables.py. -/
def TC0 : u_T := fun k => match k with
  | 0 => ("MethodWarden", "text", "LMethodWarden$Text;", true)
  | 1 => ("MethodWarden", "reader", "LMethodWarden$Reader;", true)
  | 2 => ("MethodWarden", "expressions", "[LMethodWarden$Expression;", true)
  | 3 => ("MethodWarden", "spare", "LMethodWarden$Expression;", false)
  | 4 => ("MethodWarden", "context", "LMethodWarden$Context;", true)
  | 5 => ("MethodWarden", "list", "LMethodWarden$Items;", true)
  | 6 => ("MethodWarden", "worker", "LMethodWarden$Worker;", true)
  | 7 => ("MethodWarden", "gate", "LMethodWarden$Gate;", true)
  | _ => ("MethodWarden", "latestAsked", "J", false)
def TC1 : u_T := fun k => match k with
  | 0 => ("MethodWarden$Text", "characters", "[C", true)
  | 1 => ("MethodWarden$Text", "length", "I", false)
  | 2 => ("MethodWarden$Text", "at", "I", false)
  | 3 => ("MethodWarden$Text", "token", "I", false)
  | 4 => ("MethodWarden$Text", "start", "I", false)
  | _ => ("MethodWarden$Text", "number", "J", false)
def TC2 : u_T := fun k => match k with
  | 0 => ("MethodWarden$Reader", "begun", "[I", true)
  | 1 => ("MethodWarden$Reader", "begunCount", "I", false)
  | 2 => ("MethodWarden$Reader", "operands", "[I", true)
  | 3 => ("MethodWarden$Reader", "operandCount", "I", false)
  | 4 => ("MethodWarden$Reader", "wanted", "I", false)
  | 5 => ("MethodWarden$Reader", "sizeSort", "I", false)
  | 6 => ("MethodWarden$Reader", "partCount", "I", false)
  | _ => ("MethodWarden$Reader", "made", "LMethodWarden$Expression;", false)
def TC3 : u_T := fun k => match k with
  | 0 => ("MethodWarden$Expression", "sort", "[I", true)
  | 1 => ("MethodWarden$Expression", "first", "[I", true)
  | 2 => ("MethodWarden$Expression", "second", "[I", true)
  | 3 => ("MethodWarden$Expression", "third", "[I", true)
  | 4 => ("MethodWarden$Expression", "number", "[J", true)
  | _ => ("MethodWarden$Expression", "size", "I", false)
def TC4 : u_T := fun k => match k with
  | 0 => ("MethodWarden$Context", "direct", "[I", true)
  | 1 => ("MethodWarden$Context", "whole", "[I", true)
  | 2 => ("MethodWarden$Context", "user", "I", false)
  | _ => ("MethodWarden$Context", "roles", "I", false)
def TC5 : u_T := fun k => match k with
  | 0 => ("MethodWarden$Items", "row", "[I", true)
  | _ => ("MethodWarden$Items", "size", "I", false)
def TC6 : u_T := fun k => match k with
  | 0 => ("MethodWarden$Worker", "context", "LMethodWarden$Context;", true)
  | 1 => ("MethodWarden$Worker", "rows", "[LMethodWarden$Value;", true)
  | 2 => ("MethodWarden$Worker", "error", "LMethodWarden$Value;", true)
  | 3 => ("MethodWarden$Worker", "expression", "LMethodWarden$Expression;", false)
  | 4 => ("MethodWarden$Worker", "a", "I", false)
  | 5 => ("MethodWarden$Worker", "b", "J", false)
  | 6 => ("MethodWarden$Worker", "list", "LMethodWarden$Items;", false)
  | 7 => ("MethodWarden$Worker", "ret", "LMethodWarden$Value;", false)
  | 8 => ("MethodWarden$Worker", "looking", "Z", false)
  | 9 => ("MethodWarden$Worker", "item", "I", false)
  | _ => ("MethodWarden$Worker", "kept", "LMethodWarden$Items;", true)
def TC7 : u_T := fun k => match k with
  | 0 => ("MethodWarden$Value", "sort", "I", false)
  | 1 => ("MethodWarden$Value", "number", "J", false)
  | _ => ("MethodWarden$Value", "items", "LMethodWarden$Items;", true)
def TC8 : u_T := fun k => match k with
  | 0 => ("MethodWarden$Gate", "context", "LMethodWarden$Context;", true)
  | 1 => ("MethodWarden$Gate", "worker", "LMethodWarden$Worker;", true)
  | 2 => ("MethodWarden$Gate", "expressions", "[LMethodWarden$Expression;", true)
  | 3 => ("MethodWarden$Gate", "methods", "[LMethodWarden$Method;", true)
  | 4 => ("MethodWarden$Gate", "guards", "[LMethodWarden$Guard;", true)
  | 5 => ("MethodWarden$Gate", "lists", "[LMethodWarden$Items;", true)
  | 6 => ("MethodWarden$Gate", "cameBack", "LMethodWarden$Value;", true)
  | 7 => ("MethodWarden$Gate", "a", "I", false)
  | 8 => ("MethodWarden$Gate", "thrown", "I", false)
  | _ => ("MethodWarden$Gate", "latestEnd", "I", false)
def TC9 : u_T := fun k => match k with
  | 0 => ("MethodWarden$Method", "in", "I", false)
  | 1 => ("MethodWarden$Method", "check", "I", false)
  | 2 => ("MethodWarden$Method", "out", "I", false)
  | 3 => ("MethodWarden$Method", "how", "I", false)
  | 4 => ("MethodWarden$Method", "k", "I", false)
  | 5 => ("MethodWarden$Method", "extra", "I", false)
  | _ => ("MethodWarden$Method", "times", "[I", true)
def TC10 : u_T := fun k => match k with
  | 0 => ("MethodWarden$Guard", "form", "I", false)
  | _ => ("MethodWarden$Guard", "detail", "I", false)
def TC11 : u_T := fun k => match k with
  | 0 => ("MethodWardenModel", "text", "[I", false)
  | 1 => ("MethodWardenModel", "length", "I", false)
  | 2 => ("MethodWardenModel", "code", "[I", false)
  | 3 => ("MethodWardenModel", "arg", "[J", false)
  | 4 => ("MethodWardenModel", "codes", "[I", false)
  | 5 => ("MethodWardenModel", "pos", "I", false)
  | 6 => ("MethodWardenModel", "number", "J", false)
  | 7 => ("MethodWardenModel", "state", "I", false)
  | 8 => ("MethodWardenModel", "sign", "[I", false)
  | 9 => ("MethodWardenModel", "begun", "[I", false)
  | 10 => ("MethodWardenModel", "signs", "I", false)
  | 11 => ("MethodWardenModel", "parts", "I", false)
  | 12 => ("MethodWardenModel", "includes", "[I", false)
  | 13 => ("MethodWardenModel", "user", "I", false)
  | 14 => ("MethodWardenModel", "roles", "I", false)
  | 15 => ("MethodWardenModel", "given", "[I", false)
  | 16 => ("MethodWardenModel", "givens", "I", false)
  | 17 => ("MethodWardenModel", "guardKind", "[I", false)
  | 18 => ("MethodWardenModel", "guardX", "[I", false)
  | 19 => ("MethodWardenModel", "ruleIn", "[I", false)
  | 20 => ("MethodWardenModel", "ruleCheck", "[I", false)
  | 21 => ("MethodWardenModel", "ruleOut", "[I", false)
  | 22 => ("MethodWardenModel", "how", "[I", false)
  | 23 => ("MethodWardenModel", "howK", "[I", false)
  | 24 => ("MethodWardenModel", "extra", "[I", false)
  | 25 => ("MethodWardenModel", "counts", "[I", false)
  | 26 => ("MethodWardenModel", "kinds", "[I", false)
  | 27 => ("MethodWardenModel", "nums", "[J", false)
  | 28 => ("MethodWardenModel", "items", "[I", false)
  | 29 => ("MethodWardenModel", "top", "I", false)
  | 30 => ("MethodWardenModel", "loopItems", "[I", false)
  | 31 => ("MethodWardenModel", "loopCount", "[I", false)
  | 32 => ("MethodWardenModel", "loopAt", "[I", false)
  | 33 => ("MethodWardenModel", "loopKept", "[I", false)
  | 34 => ("MethodWardenModel", "loopKeeps", "[I", false)
  | 35 => ("MethodWardenModel", "loopHad", "[Z", false)
  | 36 => ("MethodWardenModel", "loopIt", "[I", false)
  | 37 => ("MethodWardenModel", "loops", "I", false)
  | 38 => ("MethodWardenModel", "itKnown", "Z", false)
  | 39 => ("MethodWardenModel", "it", "I", false)
  | 40 => ("MethodWardenModel", "argA", "I", false)
  | 41 => ("MethodWardenModel", "argB", "J", false)
  | 42 => ("MethodWardenModel", "seen", "[I", false)
  | 43 => ("MethodWardenModel", "seens", "I", false)
  | 44 => ("MethodWardenModel", "retKind", "I", false)
  | 45 => ("MethodWardenModel", "retNumber", "I", false)
  | 46 => ("MethodWardenModel", "ret", "[I", false)
  | 47 => ("MethodWardenModel", "frameMethod", "[I", false)
  | 48 => ("MethodWardenModel", "frameList", "[I", false)
  | 49 => ("MethodWardenModel", "frameCount", "[I", false)
  | 50 => ("MethodWardenModel", "frameUser", "[I", false)
  | 51 => ("MethodWardenModel", "frameRoles", "[I", false)
  | 52 => ("MethodWardenModel", "depth", "I", false)
  | 53 => ("MethodWardenModel", "kept", "[I", false)
  | 54 => ("MethodWardenModel", "backKind", "I", false)
  | 55 => ("MethodWardenModel", "backNumber", "I", false)
  | 56 => ("MethodWardenModel", "back", "[I", false)
  | 57 => ("MethodWardenModel", "shownKind", "I", false)
  | 58 => ("MethodWardenModel", "shownNumber", "I", false)
  | 59 => ("MethodWardenModel", "shown", "[I", false)
  | _ => ("MethodWardenModel", "answer", "J", false)
abbrev classes : List vw_C := [("MethodWarden", TC0, 9), ("MethodWarden$Text", TC1, 6), ("MethodWarden$Reader", TC2, 8), ("MethodWarden$Expression", TC3, 6), ("MethodWarden$Context", TC4, 4), ("MethodWarden$Items", TC5, 2), ("MethodWarden$Worker", TC6, 11), ("MethodWarden$Value", TC7, 3), ("MethodWarden$Gate", TC8, 10), ("MethodWarden$Method", TC9, 7), ("MethodWarden$Guard", TC10, 2), ("MethodWardenModel", TC11, 61)]
def FTYS : List (List FieldType) := [[(.object "MethodWarden$Text"), (.object "MethodWarden$Reader"), (.array (.object "MethodWarden$Expression")), (.object "MethodWarden$Expression"), (.object "MethodWarden$Context"), (.object "MethodWarden$Items"), (.object "MethodWarden$Worker"), (.object "MethodWarden$Gate"), .long],
  [(.array .char), .int, .int, .int, .int, .long],
  [(.array .int), .int, (.array .int), .int, .int, .int, .int, (.object "MethodWarden$Expression")],
  [(.array .int), (.array .int), (.array .int), (.array .int), (.array .long), .int],
  [(.array .int), (.array .int), .int, .int],
  [(.array .int), .int],
  [(.object "MethodWarden$Context"), (.array (.object "MethodWarden$Value")), (.object "MethodWarden$Value"), (.object "MethodWarden$Expression"), .int, .long, (.object "MethodWarden$Items"), (.object "MethodWarden$Value"), .boolean, .int, (.object "MethodWarden$Items")],
  [.int, .long, (.object "MethodWarden$Items")],
  [(.object "MethodWarden$Context"), (.object "MethodWarden$Worker"), (.array (.object "MethodWarden$Expression")), (.array (.object "MethodWarden$Method")), (.array (.object "MethodWarden$Guard")), (.array (.object "MethodWarden$Items")), (.object "MethodWarden$Value"), .int, .int, .int],
  [.int, .int, .int, .int, .int, .int, (.array .int)],
  [.int, .int],
  [(.array .int), .int, (.array .int), (.array .long), (.array .int), .int, .long, .int, (.array .int), (.array .int), .int, .int, (.array .int), .int, .int, (.array .int), .int, (.array .int), (.array .int), (.array .int), (.array .int), (.array .int), (.array .int), (.array .int), (.array .int), (.array .int), (.array .int), (.array .long), (.array .int), .int, (.array .int), (.array .int), (.array .int), (.array .int), (.array .int), (.array .boolean), (.array .int), .int, .boolean, .int, .int, .long, (.array .int), .int, .int, .int, (.array .int), (.array .int), (.array .int), (.array .int), (.array .int), (.array .int), .int, (.array .int), .int, .int, (.array .int), .int, .int, (.array .int), .long]]
def FTY (ci k : Nat) : FieldType := (FTYS.getD ci []).getD k .int
def FTCS : List (List Nat) := [[2, 2, 2, 2, 2, 2, 2, 2, 1],
  [2, 0, 0, 0, 0, 1],
  [2, 0, 2, 0, 0, 0, 0, 2],
  [2, 2, 2, 2, 2, 0],
  [2, 2, 0, 0],
  [2, 0],
  [2, 2, 2, 2, 0, 1, 2, 2, 0, 0, 2],
  [0, 1, 2],
  [2, 2, 2, 2, 2, 2, 2, 0, 0, 0],
  [0, 0, 0, 0, 0, 0, 2],
  [0, 0],
  [2, 0, 2, 2, 2, 0, 1, 0, 2, 2, 0, 0, 2, 0, 0, 2, 0, 2, 2, 2, 2, 2, 2, 2, 2, 2, 2, 2, 2, 0, 2, 2, 2, 2, 2, 2, 2, 0, 0, 0, 0, 1, 2, 0, 0, 0, 2, 2, 2, 2, 2, 2, 0, 2, 0, 0, 2, 0, 0, 2, 1]]
def FTC (ci k : Nat) : Nat := (FTCS.getD ci []).getD k 0
def LYOS : List (List (Nat × Nat)) := [[(1, 3), (1, 5), (1, 8), (0, 0), (1, 63), (1, 66), (1, 68), (1, 135), (0, 0)],
  [(2, 1), (0, 0), (0, 0), (0, 0), (0, 0), (0, 0)],
  [(2, 1), (0, 0), (2, 2), (0, 0), (0, 0), (0, 0), (0, 0), (0, 0)],
  [(2, 1), (2, 2), (2, 3), (2, 4), (2, 5), (0, 0)],
  [(2, 1), (2, 2), (0, 0), (0, 0)],
  [(2, 1), (0, 0)],
  [(1, 63), (1, 69), (1, 70), (0, 0), (0, 0), (0, 0), (0, 0), (0, 0), (0, 0), (0, 0), (1, 73)],
  [(0, 0), (0, 0), (2, 1)],
  [(1, 63), (1, 68), (1, 8), (1, 136), (1, 137), (1, 138), (1, 139), (0, 0), (0, 0), (0, 0)],
  [(0, 0), (0, 0), (0, 0), (0, 0), (0, 0), (0, 0), (2, 1)],
  [(0, 0), (0, 0)],
  [(1, 185), (0, 0), (1, 186), (1, 187), (1, 188), (0, 0), (0, 0), (0, 0), (1, 189), (1, 190), (0, 0), (0, 0), (1, 191), (0, 0), (0, 0), (1, 192), (0, 0), (1, 193), (1, 194), (1, 195), (1, 196), (1, 197), (1, 198), (1, 199), (1, 200), (1, 201), (1, 202), (1, 203), (1, 204), (0, 0), (1, 205), (1, 206), (1, 207), (1, 208), (1, 209), (1, 210), (1, 211), (0, 0), (0, 0), (0, 0), (0, 0), (0, 0), (1, 212), (0, 0), (0, 0), (0, 0), (1, 213), (1, 214), (1, 215), (1, 216), (1, 217), (1, 218), (0, 0), (1, 219), (0, 0), (0, 0), (1, 220), (0, 0), (0, 0), (1, 221), (0, 0)]]
/-- which references stay as the constructors left them, and what they are: 1 a number, 2 beside the cell -/
def LYS (K k : Nat) : Bool := if K < 100 then decide (((LYOS.getD K []).getD k (0, 0)).1 ≠ 0) else decide (105 ≤ K ∧ K ≤ 108)
def LYO (K k c : Nat) : Nat := if K < 100 then (match (LYOS.getD K []).getD k (0, 0) with | (2, v) => c + v | (_, v) => v) else if K = 105 then 75 + 3 * k else if K = 106 then 142 + 2 * k else if K = 107 then 158 + k else 168 + 2 * k
def NT : Nat := 220
def SHK : List Nat := [999, 999, 0, 1, 102, 2, 100, 100, 104, 3, 100, 100, 100, 100, 101, 3, 100, 100, 100, 100, 101, 3, 100, 100, 100, 100, 101, 3, 100, 100, 100, 100, 101, 3, 100, 100, 100, 100, 101, 3, 100, 100, 100, 100, 101, 3, 100, 100, 100, 100, 101, 3, 100, 100, 100, 100, 101, 3, 100, 100, 100, 100, 101, 4, 100, 100, 5, 100, 6, 105, 7, 5, 100, 5, 100, 7, 5, 100, 7, 5, 100, 7, 5, 100, 7, 5, 100, 7, 5, 100, 7, 5, 100, 7, 5, 100, 7, 5, 100, 7, 5, 100, 7, 5, 100, 7, 5, 100, 7, 5, 100, 7, 5, 100, 7, 5, 100, 7, 5, 100, 7, 5, 100, 7, 5, 100, 7, 5, 100, 7, 5, 100, 7, 5, 100, 8, 106, 107, 108, 7, 5, 100, 9, 100, 9, 100, 9, 100, 9, 100, 9, 100, 9, 100, 9, 100, 9, 100, 10, 10, 10, 10, 10, 10, 10, 10, 10, 10, 5, 100, 5, 100, 5, 100, 5, 100, 5, 100, 5, 100, 5, 100, 5, 100, 11, 100, 100, 101, 100, 100, 100, 100, 100, 100, 100, 100, 100, 100, 100, 100, 100, 100, 100, 101, 100, 100, 100, 100, 100, 100, 103, 100, 100, 100, 100, 100, 100, 100, 100, 100, 100, 100]
def SHN : List Nat := [0, 0, 9, 6, 48, 8, 48, 20, 8, 6, 20, 20, 20, 20, 20, 6, 20, 20, 20, 20, 20, 6, 20, 20, 20, 20, 20, 6, 20, 20, 20, 20, 20, 6, 20, 20, 20, 20, 20, 6, 20, 20, 20, 20, 20, 6, 20, 20, 20, 20, 20, 6, 20, 20, 20, 20, 20, 6, 20, 20, 20, 20, 20, 4, 16, 16, 2, 5, 11, 20, 3, 2, 5, 2, 5, 3, 2, 5, 3, 2, 5, 3, 2, 5, 3, 2, 5, 3, 2, 5, 3, 2, 5, 3, 2, 5, 3, 2, 5, 3, 2, 5, 3, 2, 5, 3, 2, 5, 3, 2, 5, 3, 2, 5, 3, 2, 5, 3, 2, 5, 3, 2, 5, 3, 2, 5, 3, 2, 5, 3, 2, 5, 3, 2, 5, 10, 8, 10, 8, 3, 2, 5, 7, 6, 7, 6, 7, 6, 7, 6, 7, 6, 7, 6, 7, 6, 7, 6, 2, 2, 2, 2, 2, 2, 2, 2, 2, 2, 2, 5, 2, 5, 2, 5, 2, 5, 2, 5, 2, 5, 2, 5, 2, 5, 61, 48, 432, 432, 9, 48, 48, 16, 5, 10, 10, 8, 8, 8, 8, 8, 8, 48, 48, 48, 240, 80, 16, 16, 80, 16, 16, 16, 5, 5, 8, 40, 8, 8, 8, 5, 5, 5]
theorem shk_len : SHK.length = NT + 2 := by decide +kernel
theorem shn_len : SHN.length = NT + 2 := by decide +kernel
theorem shk_0 : SHK.getD 0 999 = 999 := rfl
theorem shk_1 : SHK.getD 1 999 = 999 := rfl
theorem nt_small : NT + 2 ≤ 1000 := by decide
def ATS : List FieldType := [.int, .long, .char, .boolean, (.object "MethodWarden$Expression"), (.object "MethodWarden$Value"), (.object "MethodWarden$Method"), (.object "MethodWarden$Guard"), (.object "MethodWarden$Items")]
theorem ats_small : ATS.length < 800 := by decide
def AON : List String := ["MethodWarden$Expression", "MethodWarden$Value", "MethodWarden$Method", "MethodWarden$Guard", "MethodWarden$Items"]
def STW : List (String × Nat × String) := [("MethodWarden$Text", 66, "a"), ("MethodWarden$Text", 72, "b"), ("MethodWarden$Text", 74, "me"), ("MethodWarden$Text", 76, "it"), ("MethodWarden$Text", 78, "ret"), ("MethodWarden$Text", 80, "true"), ("MethodWarden$Text", 82, "false"), ("MethodWarden$Text", 84, "null"), ("MethodWarden$Text", 86, "list"), ("MethodWarden$Text", 88, "role"), ("MethodWarden$Text", 90, "size")]
def NST : Nat := 11
def STO (i : Nat) : String := (STW.getD i ("", 0, "")).1
def STI (i : Nat) : Nat := (STW.getD i ("", 0, "")).2.1
def STX (i : Nat) : String := (STW.getD i ("", 0, "")).2.2
def STLEN : List Nat := [1, 1, 2, 2, 3, 4, 5, 4, 4, 4, 4]
def STBYT : List (List Int32) := [[97], [98], [109, 101], [105, 116], [114, 101, 116], [116, 114, 117, 101], [102, 97, 108, 115, 101], [110, 117, 108, 108], [108, 105, 115, 116], [114, 111, 108, 101], [115, 105, 122, 101]]
/-- the words that every contract takes along, and those of nest mates, which go with the state -/
def isNest : Cond → Bool
  | .fieldLinkNest _ _ _ _ _ _ => true
  | .methodLinkNest _ _ _ _ => true
  | _ => false
def NW : List Cond := lw_tbl.filter isNest
theorem nw_kind : ∀ w ∈ NW, (∃ a i b n d h, w = .fieldLinkNest a i b n d h) ∨ (∃ a i x h, w = .methodLinkNest a i x h) := by
  intro w hw
  have h := (List.mem_filter.mp hw).2
  cases w <;> first | (exact Or.inl ⟨_, _, _, _, _, _, rfl⟩) | (exact Or.inr ⟨_, _, _, _, rfl⟩) | (exact Bool.noConfusion h)
def WG : List Cond := lw_tbl.filter goodWord
theorem wg_ok (w : Cond) (h : goodWord w = true) : (w.onTables && w.keeps) = true ∨ ∃ ty, w = .arrayClass ty := good_of_word h
theorem inWG {w : Cond} (i : Nat) (h : lw_tbl[i]? = some w) (hg : goodWord w = true) : w ∈ WG := List.mem_filter.mpr ⟨List.mem_of_getElem? h, hg⟩
theorem inNW {w : Cond} (i : Nat) (h : lw_tbl[i]? = some w) (hg : isNest w = true) : w ∈ NW := List.mem_filter.mpr ⟨List.mem_of_getElem? h, hg⟩
theorem inWGs (ws : List Cond) (ps : List Nat) (hp : ws = ps.filterMap (fun i => lw_tbl[i]?)) (h : ws.all goodWord = true) : ∀ w ∈ ws, w ∈ WG := by
  intro w hw
  have h1 := List.all_eq_true.mp h w hw
  rw [hp] at hw
  obtain ⟨i, -, hi⟩ := List.mem_filterMap.mp hw
  exact inWG i hi h1
end
section
/-! The engine: a memory of ints, longs and references by cell and place; AW: the machine at a frame over such a memory; a row an instruction. -/
abbrev ax_V : Type := Int32 ⊕ Int64 ⊕ Nat
abbrev ax_M : Type := (Nat → Nat → Int32) × (Nat → Nat → Int64) × (Nat → Nat → Nat) × Nat
abbrev ax_G : Type := va_G × (Nat → ClassId) × Nat × Nat × Nat × (Nat → Int32) × (Nat → Nat) × (Nat → Nat)
abbrev ax_Y : Type := MethodName × ByteArray × Nat × Option FieldType × List (Nat × Instr × Nat)
abbrev vI (x : Int32) : ax_V := .inl x
abbrev vJ (x : Int64) : ax_V := .inr (.inl x)
abbrev vA (r : Nat) : ax_V := .inr (.inr r)
def ax_up {α : Type} (f : Nat → Nat → α) (c k : Nat) (v : α) : Nat → Nat → α := fun a j => if a = c ∧ j = k then v else f a j
def mI (M : ax_M) (c k : Nat) (v : Int32) : ax_M := (ax_up M.1 c k v, M.2)
def mJ (M : ax_M) (c k : Nat) (v : Int64) : ax_M := (M.1, ax_up M.2.1 c k v, M.2.2)
def mA (M : ax_M) (c k : Nat) (v : Nat) : ax_M := (M.1, M.2.1, ax_up M.2.2.1 c k v, M.2.2.2)
def mS (M : ax_M) : ax_M := (M.1, M.2.1, M.2.2.1, M.2.2.2 + 1)
def gI (M : ax_M) (c k : Nat) : Int32 := M.1 c k
def gJ (M : ax_M) (c k : Nat) : Int64 := M.2.1 c k
def gA (M : ax_M) (c k : Nat) : Nat := M.2.2.1 c k
def gn (M : ax_M) : Nat := M.2.2.2
def kd (c : Nat) : Nat := SHK.getD c 999
def ln (c : Nat) : Nat := SHN.getD c 0
/-- the sum of the first n cells' places -/
def szs : List Nat → Nat → Nat
  | _, 0 => 0
  | [], _ + 1 => 0
  | a :: l, n + 1 => a + szs l n
def SZ (n : Nat) : Nat := szs (SHN.drop 2) n
abbrev gD (g : ax_G) : va_G := g.1
abbrev gdA (g : ax_G) : Nat → ClassId := g.2.1
abbrev gb (g : ax_G) : Nat := g.2.2.1
abbrev gs (g : ax_G) : Nat := g.2.2.2.1
abbrev gL (g : ax_G) : Nat := g.2.2.2.2.1
abbrev gx (g : ax_G) : Nat → Int32 := g.2.2.2.2.2.1
abbrev gK (g : ax_G) : Nat → Nat := g.2.2.2.2.2.2.1
abbrev gV (g : ax_G) : Nat → Nat := g.2.2.2.2.2.2.2
/-- the address of a reference -/
def am (g : ax_G) (r : Nat) : Nat := if r = 1 then gs g else if r < 1000 then gb g + (r - 2) else if r < 2000 then gK g (r - 1000) else gV g (r - 2000)
def rv (g : ax_G) (r : Nat) : Value := if r = 0 then .null else .ref (am g r)
def ro (g : ax_G) (r : Nat) : Option Nat := if r = 0 then none else some (am g r)
def cv (g : ax_G) (v : ax_V) : Value := match v with
  | .inl x => .int x
  | .inr (.inl x) => .long x
  | .inr (.inr r) => rv g r
def ct (v : ax_V) : Nat := match v with
  | .inr (.inl _) => 2
  | _ => 1
theorem rv_ro (g : ax_G) (r : Nat) : va_rf (ro g r) = rv g r := by
  unfold ro rv
  split <;> rfl
theorem cv_I (g : ax_G) (x : Int32) : cv g (vI x) = .int x := rfl
theorem cv_J (g : ax_G) (x : Int64) : cv g (vJ x) = .long x := rfl
theorem cv_A (g : ax_G) (r : Nat) : cv g (vA r) = rv g r := rfl
theorem rv_pos {g : ax_G} {r : Nat} (h : ¬ r = 0) : rv g r = .ref (am g r) := if_neg h
theorem rv_0 {g : ax_G} : rv g 0 = .null := if_pos rfl
theorem rv_cat (g : ax_G) (r : Nat) : (rv g r).category = 1 := by
  unfold rv
  split <;> rfl
theorem cv_cat (g : ax_G) (v : ax_V) : (cv g v).category = ct v := by
  rcases v with x | x | r
  · rfl
  · rfl
  · exact rv_cat g r
def ax_cl (g : ax_G) (q : Nat × ax_V) : Nat × Value := (q.1, cv g q.2)
/-- the value of a field: 1 long, 2 reference, else int -/
def fv (g : ax_G) (M : ax_M) (c k : Nat) : Value := if FTC (kd c) k = 1 then .long (gJ M c k) else if FTC (kd c) k = 2 then rv g (gA M c k) else .int (gI M c k)
def cont (g : ax_G) (M : ax_M) (c : Nat) : (Nat → Int32) ⊕ (Nat → Int64) ⊕ (Nat → UInt32) ⊕ (Nat → UInt64) ⊕ (Nat → Option Nat) :=
  if kd c = 101 then .inr (.inl (gJ M c)) else if kd c < 104 then .inl (gI M c) else .inr (.inr (.inr (.inr (fun k => ro g (gA M c k)))))
def ent (g : ax_G) (M : ax_M) (c : Nat) : va_E :=
  if kd c < 100 then .inr (kd c, (List.range (ln c)).map (fv g M c)) else .inl (gdA g (kd c - 100), (ln c, cont g M c))
def WS (g : ax_G) (M : ax_M) : va_W := (List.range (gn M)).map (fun a => (gb g + a, ent g M (a + 2)))
/-- references that stay as the constructors left them -/
def Lay (M : ax_M) : Prop := ∀ c k, c < NT + 2 → k < ln c → LYS (kd c) k = true → gA M c k = LYO (kd c) k c
def hok (g : ax_G) (ly : Bool) (M : ax_M) (H : Heap) : Prop :=
  va_P (gD g) classes (WS g M) H ∧ H.size = gb g + gn M ∧ gn M ≤ NT ∧ (∀ c k, gn M + 2 ≤ c → gI M c k = 0 ∧ gJ M c k = 0 ∧ gA M c k = 0) ∧ (ly = true → gn M = NT ∧ Lay M)
def tysOf (g : ax_G) : List (ClassId × FieldType) := (List.range ATS.length).map (fun t => (gdA g t, ATS.getD t .int))
def sok (g : ax_G) (U : State) : Prop :=
  va_K (gD g) classes (tysOf g) U ∧ (∀ w ∈ NW, va_Nw w U) ∧ (∀ i, i < NST → vk_R (STO i) (STI i) (STX i) (gK g i) U) ∧ va_X (gs g) (gL g) (gx g) U U.heap ∧ gs g < gb g ∧ gb g ≤ U.heap.size ∧
    vk_S NST STLEN STBYT (gK g) (gV g) (fun q => gb g ≤ q) U U.heap ∧ (∀ C ∈ AON, va_AO C U) ∧ va_Z "java/lang/String" "COMPACT_STRINGS" "Z" (.int 1) (fun q => gb g ≤ q) U U.heap ∧
    (va_Z "jdk/internal/util/Preconditions" "SIOOBE_FORMATTER" "Ljava/util/function/BiFunction;" .null (fun q => gb g ≤ q) U U.heap ∨ va_Z "jdk/internal/util/Preconditions" "SIOOBE_FORMATTER" "Ljava/util/function/BiFunction;" (.ref (gV g 1000)) (fun q => gb g ≤ q) U U.heap)
abbrev ax_A (g : ax_G) : Nat → Prop := fun q => gb g ≤ q
theorem nw_warm {w : Cond} (hw : w ∈ NW) {s U : State} (hW : s.WarmedH U.vm) (h : va_Nw w s) : va_Nw w U := by
  have h1 := nw_kind w hw
  rcases h1 with ⟨a, i, b, n, d, hh, rfl⟩ | ⟨a, i, x, hh, rfl⟩
  · exact va_Nw.warmF hW h
  · exact va_Nw.warmM hW h
theorem nw_same {w : Cond} (hw : w ∈ NW) {s U : State} (hv : s.vm = U.vm) (h : va_Nw w s) : va_Nw w U := by
  have h1 := nw_kind w hw
  rcases h1 with ⟨a, i, b, n, d, hh, rfl⟩ | ⟨a, i, x, hh, rfl⟩
  · exact va_Nw.same rfl hv h
  · exact va_Nw.same rfl hv h
theorem sok.warm {g : ax_G} {s U : State} (hW : s.WarmedH U.vm) (hb : gb g ≤ U.heap.size) (hq : ∀ q, q < gb g → U.heap[q]? = s.heap[q]?) (h : sok g s) : sok g U := by
  obtain ⟨h1, h2, h3, h4, h5, h6, h7, h8, h9, h10⟩ := h
  refine ⟨va_K.moved hW.alike h1, fun w hw => nw_warm hw hW (h2 w hw), fun i hi => vk_R.warm hW (h3 i hi), (va_X.moved hW.alike h4).kept (hq _ h5), h5, hb, (vk_S.moved hW.alike h7).kept (fun a _ hn => hq a (Nat.not_le.mp hn)), fun C hC => va_AO.moved hW.alike (h8 C hC), (va_Z.moved hW.alike h9).kept (fun a _ hn => hq a (Nat.not_le.mp hn)), h10.imp (fun z => (va_Z.moved hW.alike z).kept (fun a _ hn => hq a (Nat.not_le.mp hn))) (fun z => (va_Z.moved hW.alike z).kept (fun a _ hn => hq a (Nat.not_le.mp hn)))⟩
theorem sok.calling {g : ax_G} {U : State} {f : JFrame} {mk : MethodId} {a : Array Value} (h : sok g U) : sok g (U.calling f mk a) := by
  obtain ⟨h1, h2, h3, h4, h5, h6, h7, h8, h9, h10⟩ := h
  exact ⟨va_K.moved (u := U) (U := U.calling f mk a) (Vm.Alike.refl U.vm) h1, fun w hw => nw_same hw (s := U) (U := U.calling f mk a) rfl (h2 w hw), fun i hi => vk_R.same (u := U) (U := U.calling f mk a) rfl (h3 i hi), va_X.moved (u := U) (U := U.calling f mk a) (Vm.Alike.refl U.vm) h4, h5, h6, vk_S.moved (u := U) (U := U.calling f mk a) (Vm.Alike.refl U.vm) h7, fun C hC => va_AO.moved (u := U) (U := U.calling f mk a) (Vm.Alike.refl U.vm) (h8 C hC), va_Z.moved (u := U) (U := U.calling f mk a) (Vm.Alike.refl U.vm) h9, h10.imp (va_Z.moved (u := U) (U := U.calling f mk a) (Vm.Alike.refl U.vm)) (va_Z.moved (u := U) (U := U.calling f mk a) (Vm.Alike.refl U.vm))⟩
/-! the world as a list -/
theorem am_cell {g : ax_G} {c : Nat} (h : 2 ≤ c) (h1 : c < 1000) : am g c = gb g + (c - 2) := by
  unfold am
  rw [if_neg (by omega), if_pos h1]
theorem kd_lt {c K : Nat} (h : kd c = K) (hK : K ≠ 999) : 2 ≤ c ∧ c < NT + 2 := by
  unfold kd at h
  have h2 : SHK.length = NT + 2 := shk_len
  rcases Nat.lt_or_ge c (NT + 2) with h1 | h1
  · refine ⟨?_, h1⟩
    rcases Nat.lt_or_ge c 2 with h3 | h3
    · exfalso
      have h4 : c = 0 ∨ c = 1 := by omega
      rcases h4 with rfl | rfl
      · exact hK (h.symm.trans shk_0)
      · exact hK (h.symm.trans shk_1)
    · exact h3
  · exfalso
    rw [List.getD_eq_getElem?_getD, List.getElem?_eq_none (by omega)] at h
    exact hK h.symm
theorem ws_len (g : ax_G) (M : ax_M) : (WS g M).length = gn M := by simp [WS]
theorem ws_get {g : ax_G} {M : ax_M} {c : Nat} (h : 2 ≤ c) (h1 : c < gn M + 2) (h2 : c < 1000) : (WS g M)[c - 2]? = some (am g c, ent g M c) := by
  unfold WS
  rw [List.getElem?_map, List.getElem?_range (by omega), am_cell h h2]
  show some (gb g + (c - 2), ent g M (c - 2 + 2)) = _
  rw [show c - 2 + 2 = c by omega]
theorem ws_D (g : ax_G) (M : ax_M) : va_D (ax_A g) (WS g M) := by
  have key : ∀ (k : Nat) (q : Nat × va_E), (WS g M)[k]? = some q → q.1 = gb g + k := by
    intro k q hk
    unfold WS at hk
    rw [List.getElem?_map] at hk
    have hl : k < (List.range (gn M)).length := by
      rcases Nat.lt_or_ge k (List.range (gn M)).length with h | h
      · exact h
      · rw [List.getElem?_eq_none h] at hk
        cases hk
    rw [List.length_range] at hl
    rw [List.getElem?_range hl] at hk
    cases hk
    rfl
  refine ⟨fun i j p q hi hj e => ?_, fun k q hk => ?_⟩
  · have h1 := key i p hi
    have h2 := key j q hj
    omega
  · have h1 := key k q hk
    show gb g ≤ q.1
    omega
theorem ws_set {g : ax_G} {M M' : ax_M} {c : Nat} (h : 2 ≤ c) (h1 : c < gn M + 2) (h2 : c < 1000) (hn : gn M' = gn M) (ho : ∀ a, a ≠ c → ent g M' a = ent g M a) : (WS g M).set (c - 2) (am g c, ent g M' c) = WS g M' := by
  apply List.ext_getElem?
  intro k
  rcases Nat.lt_or_ge k (gn M) with hk | hk
  · have e1 := ws_get (g := g) (M := M) (c := k + 2) (by omega) (by omega)
    by_cases hkc : k = c - 2
    · subst hkc
      rw [List.getElem?_set_self (by rw [ws_len]; omega), ws_get h (by rw [hn]; exact h1) h2]
    · rw [List.getElem?_set_ne (Ne.symm hkc)]
      unfold WS
      rw [List.getElem?_map, List.getElem?_map, hn, List.getElem?_range hk]
      show some (gb g + k, ent g M (k + 2)) = some (gb g + k, ent g M' (k + 2))
      rw [ho (k + 2) (by omega)]
  · rw [List.getElem?_eq_none (by rw [List.length_set, ws_len]; exact hk), List.getElem?_eq_none (by rw [ws_len, hn]; exact hk)]
theorem fv_other {g : ax_G} {M M' : ax_M} {a : Nat} (hI : ∀ k, gI M' a k = gI M a k) (hJ : ∀ k, gJ M' a k = gJ M a k) (hA : ∀ k, gA M' a k = gA M a k) (k : Nat) : fv g M' a k = fv g M a k := by
  unfold fv
  rw [hI, hJ, hA]
theorem ent_other {g : ax_G} {M M' : ax_M} {a : Nat} (hI : ∀ k, gI M' a k = gI M a k) (hJ : ∀ k, gJ M' a k = gJ M a k) (hA : ∀ k, gA M' a k = gA M a k) : ent g M' a = ent g M a := by
  have e1 : fv g M' a = fv g M a := funext (fv_other hI hJ hA)
  have e2 : cont g M' a = cont g M a := by
    unfold cont
    rw [show gI M' a = gI M a from funext hI, show gJ M' a = gJ M a from funext hJ, show gA M' a = gA M a from funext hA]
  unfold ent
  rw [e1, e2]
theorem gI_mI (M : ax_M) (c k : Nat) (v : Int32) (a j : Nat) : gI (mI M c k v) a j = if a = c ∧ j = k then v else gI M a j := rfl
theorem gJ_mI (M : ax_M) (c k : Nat) (v : Int32) (a j : Nat) : gJ (mI M c k v) a j = gJ M a j := rfl
theorem gA_mI (M : ax_M) (c k : Nat) (v : Int32) (a j : Nat) : gA (mI M c k v) a j = gA M a j := rfl
theorem gn_mI (M : ax_M) (c k : Nat) (v : Int32) : gn (mI M c k v) = gn M := rfl
theorem gI_mJ (M : ax_M) (c k : Nat) (v : Int64) (a j : Nat) : gI (mJ M c k v) a j = gI M a j := rfl
theorem gJ_mJ (M : ax_M) (c k : Nat) (v : Int64) (a j : Nat) : gJ (mJ M c k v) a j = if a = c ∧ j = k then v else gJ M a j := rfl
theorem gA_mJ (M : ax_M) (c k : Nat) (v : Int64) (a j : Nat) : gA (mJ M c k v) a j = gA M a j := rfl
theorem gn_mJ (M : ax_M) (c k : Nat) (v : Int64) : gn (mJ M c k v) = gn M := rfl
theorem gI_mA (M : ax_M) (c k : Nat) (v : Nat) (a j : Nat) : gI (mA M c k v) a j = gI M a j := rfl
theorem gJ_mA (M : ax_M) (c k : Nat) (v : Nat) (a j : Nat) : gJ (mA M c k v) a j = gJ M a j := rfl
theorem gA_mA (M : ax_M) (c k : Nat) (v : Nat) (a j : Nat) : gA (mA M c k v) a j = if a = c ∧ j = k then v else gA M a j := rfl
theorem gn_mA (M : ax_M) (c k : Nat) (v : Nat) : gn (mA M c k v) = gn M := rfl
theorem ent_mI {g : ax_G} {M : ax_M} {c k : Nat} {v : Int32} {a : Nat} (h : a ≠ c) : ent g (mI M c k v) a = ent g M a :=
  ent_other (fun j => by rw [gI_mI, if_neg (fun q => h q.1)]) (fun _ => rfl) (fun _ => rfl)
theorem ent_mJ {g : ax_G} {M : ax_M} {c k : Nat} {v : Int64} {a : Nat} (h : a ≠ c) : ent g (mJ M c k v) a = ent g M a :=
  ent_other (fun _ => rfl) (fun j => by rw [gJ_mJ, if_neg (fun q => h q.1)]) (fun _ => rfl)
theorem ent_mA {g : ax_G} {M : ax_M} {c k : Nat} {v : Nat} {a : Nat} (h : a ≠ c) : ent g (mA M c k v) a = ent g M a :=
  ent_other (fun _ => rfl) (fun _ => rfl) (fun j => by rw [gA_mA, if_neg (fun q => h q.1)])
/-- an object's fields behind a store -/
theorem fs_set {g : ax_G} {M M' : ax_M} {c N k : Nat} {v : Value} (hk : k < N) (hv : fv g M' c k = v) (ho : ∀ j, j ≠ k → fv g M' c j = fv g M c j) : ((List.range N).map (fv g M c)).set k v = (List.range N).map (fv g M' c) := by
  apply List.ext_getElem?
  intro j
  rcases Nat.lt_or_ge j N with hj | hj
  · by_cases hjk : j = k
    · subst hjk
      rw [List.getElem?_set_self (by simpa using hj), List.getElem?_map, List.getElem?_range hj]
      show some v = some (fv g M' c j)
      rw [hv]
    · rw [List.getElem?_set_ne (Ne.symm hjk), List.getElem?_map, List.getElem?_map, List.getElem?_range hj]
      show some _ = some _
      rw [ho j hjk]
  · rw [List.getElem?_eq_none (by simpa using hj), List.getElem?_eq_none (by simpa using hj)]
theorem ent_obj {g : ax_G} {M : ax_M} {c ci : Nat} (h : kd c = ci) (h1 : ci < 100) : ent g M c = .inr (ci, (List.range (ln c)).map (fv g M c)) := by
  unfold ent
  rw [h, if_pos h1]
theorem ent_arr {g : ax_G} {M : ax_M} {c t : Nat} (h : kd c = 100 + t) : ent g M c = .inl (gdA g t, (ln c, cont g M c)) := by
  unfold ent
  rw [h, if_neg (by omega), show 100 + t - 100 = t by omega]
theorem fs_at {g : ax_G} {M : ax_M} {c N k : Nat} (hk : k < N) : ((List.range N).map (fv g M c))[k]? = some (fv g M c k) := by
  rw [List.getElem?_map, List.getElem?_range hk]
  rfl
/-! the judgement -/
abbrev yn (Y : ax_Y) : MethodName := Y.1
abbrev yb (Y : ax_Y) : ByteArray := Y.2.1
abbrev yl (Y : ax_Y) : Nat := Y.2.2.1
abbrev yr (Y : ax_Y) : Option FieldType := Y.2.2.2.1
abbrev yt (Y : ax_Y) : List (Nat × Instr × Nat) := Y.2.2.2.2
def codeAt (Y : ax_Y) (pc : Nat) : Option (Instr × Nat) := (yt Y).lookup pc
def yw (Y : ax_Y) : List Cond := Cond.code (yn Y) (yb Y) (yl Y) (yr Y) :: WG
def yOK (Y : ax_Y) : Prop := plainName (yn Y).cls = true ∧ (∀ e ∈ yt Y, decode (yb Y) e.1 = .ok e.2) ∧ Cond.code (yn Y) (yb Y) (yl Y) (yr Y) ∈ WG ∧ Cond.initialized (yn Y).cls ∈ WG ∧ ((yn Y).cls ≠ "java/lang/invoke/MethodHandle" ∧ (yn Y).cls ≠ "java/lang/invoke/VarHandle")
def rtOK (Y : ax_Y) (i : Instr) (r : Option ax_V) : Prop :=
  (i = .ireturn ∧ yr Y = some .int ∧ ∃ x, r = some (vI x)) ∨ (i = .ireturn ∧ yr Y = some .boolean ∧ (r = some (vI 0) ∨ r = some (vI 1))) ∨ (i = .lreturn ∧ yr Y = some .long ∧ ∃ x, r = some (vJ x)) ∨
  (i = .areturn ∧ (∃ n, yr Y = some (.object n)) ∧ ∃ a, r = some (vA a)) ∨ (i = .return_ ∧ yr Y = none ∧ r = none) ∨ (i = .ireturn ∧ ∃ ty x, yr Y = some ty ∧ r = some (vI x) ∧ narrow ty (.int x) = .int x)
def ax_Fix (g : ax_G) (Y : ax_Y) (p : Program) (s : State) (m : MethodId) (args : Array Value) (meth : Method) (c : Code) : Prop :=
  p.tables.exec = Jvm.exec ∧ c.code = yb Y ∧ c.maxLocals = yl Y ∧ s.vm.findClass (yn Y).cls = some m.cls ∧ (∀ w ∈ WG, w.before args s = true) ∧ sok g s ∧ meth.name = (yn Y).name ∧ (∀ e ∈ yt Y, decode (yb Y) e.1 = .ok e.2)
abbrev ax_R : Type := Option ax_V × ax_M
/-- what is made between two counts; nothing in the mode of calls -/
def al (ly : Bool) (a b : Nat) : Nat := match ly with
  | true => 0
  | false => b - a
theorem al_self (ly : Bool) (a : Nat) : al ly a a = 0 := by
  cases ly
  · exact Nat.sub_self a
  · rfl
theorem al_add {ly : Bool} {a b c : Nat} (h : ly = true ∨ (a ≤ b ∧ b ≤ c)) : al ly a b + al ly b c = al ly a c := by
  cases ly
  · rcases h with h | h
    · cases h
    · show b - a + (c - b) = c - a
      omega
  · rfl
theorem al_le {ly : Bool} {a b c : Nat} (h : ly = true ∨ (b ≤ c)) : al ly a b ≤ al ly a c := by
  cases ly
  · rcases h with h | h
    · cases h
    · show b - a ≤ c - a
      omega
  · exact Nat.le_refl _
def AW (l : Launch) (g : ax_G) (ly : Bool) (Y : ax_Y) (d : Nat) (res : ax_R) (pc : Nat) (Ls : List (Nat × ax_V)) (st : List ax_V) (M : ax_M) : Prop :=
  ∀ (p : Program) (e : Env) (R : Room) (s : State) (m : MethodId) (args : Array Value) (below : List Frame) (meth : Method) (c : Code) (Q : State → Prop) (n0 kc ks : Nat),
    ax_Fix g Y p s m args meth c → (d ≤ R.frames ∧ 60 * d ≤ R.locals) → ((ly = true ∨ (n0 ≤ gn M ∧ gn M ≤ gn res.2)) ∧ kc + al ly n0 (gn res.2) ≤ R.cells ∧ ks + al ly (SZ n0) (SZ (gn res.2)) ≤ R.slots) →
    (∀ (H' : Heap) (locs' : List Loc) (ls' : Array Slot) (pc' : Nat), (∃ i, codeAt Y pc' = some (i, 1) ∧ rtOK Y i res.1) → hok g ly res.2 H' → va_S (ax_A g) s.heap H' locs' →
      W p l e R s m args below meth c H' locs' (kc + al ly n0 (gn res.2)) (ks + al ly (SZ n0) (SZ (gn res.2))) Q (F0 m pc' ls' (res.1.map (cv g)).toList)) →
    ∀ (H : Heap) (locs : List Loc) (ls : Array Slot), hok g ly M H → va_S (ax_A g) s.heap H locs → lv_has ls (yl Y) (Ls.map (ax_cl g)) →
      W p l e R s m args below meth c H locs (kc + al ly n0 (gn M)) (ks + al ly (SZ n0) (SZ (gn M))) Q (F0 m pc ls (st.map (cv g)))
def Qx (g : ax_G) (ly : Bool) (res : ax_R) : Array Value → State → Outcome → State → Prop := fun _ st oc t => oc = .returned (res.1.map (cv g)) ∧ hok g ly res.2 t.heap ∧ va_F (ax_A g) st t
def rmx (d c s : Nat) : Room := { frames := d, cells := c, slots := s, locals := 60 * d }
def Ctr (l : Launch) (g : ax_G) (ly : Bool) (Y : ax_Y) (d : Nat) (as : List ax_V) (M : ax_M) (res : ax_R) : Prop :=
  (ly = true ∨ gn M ≤ gn res.2) ∧ Met l (yn Y) (yw Y) (rmx d (al ly (gn M) (gn res.2)) (al ly (SZ (gn M)) (SZ (gn res.2)))) (va_Pc (as.map (cv g)) (fun U => sok g U ∧ hok g ly M U.heap)) (Qx g ly res) (al ly (gn M) (gn res.2)) (al ly (SZ (gn M)) (SZ (gn res.2))) (ax_A g)
theorem cd {Y : ax_Y} {pc : Nat} {x : Instr × Nat} (h : codeAt Y pc = some x) (hy : ∀ e ∈ yt Y, decode (yb Y) e.1 = .ok e.2) : decode (yb Y) pc = .ok x := by
  unfold codeAt at h
  have key : ∀ (t : List (Nat × Instr × Nat)), t.lookup pc = some x → (pc, x) ∈ t := by
    intro t
    induction t with
    | nil => intro h; cases h
    | cons a t ih =>
      intro h
      obtain ⟨i, v⟩ := a
      rw [List.lookup_cons] at h
      by_cases hi : (pc == i) = true
      · rw [hi] at h
        have e1 : pc = i := by simpa using hi
        have e2 : v = x := by simpa using h
        rw [e1, e2]
        exact List.mem_cons_self
      · have hf : (pc == i) = false := by simpa using hi
        rw [hf] at h
        exact List.mem_cons_of_mem _ (ih h)
  have h2 := hy (pc, x) (key _ h)
  exact h2
theorem szs_mono : ∀ (t : List Nat) (a b : Nat), a ≤ b → szs t a ≤ szs t b
  | _, 0, b, _ => by unfold szs; exact Nat.zero_le _
  | [], a + 1, b, _ => by unfold szs; exact Nat.zero_le _
  | x :: t, a + 1, 0, h => by omega
  | x :: t, a + 1, b + 1, h => by
    unfold szs
    have := szs_mono t a b (by omega)
    omega
theorem SZ_mono {a b : Nat} (h : a ≤ b) : SZ a ≤ SZ b := szs_mono _ _ _ h
theorem szs_succ : ∀ (t : List Nat) (a : Nat), a < t.length → szs t (a + 1) = szs t a + t.getD a 0
  | [], a, h => by simp at h
  | x :: t, 0, _ => by simp [szs]
  | x :: t, a + 1, h => by
    have h1 : a < t.length := by simpa using h
    have := szs_succ t a h1
    simp only [szs] at this ⊢
    rw [this]
    simp
    omega
theorem SZ_succ {a : Nat} (h : a < NT) : SZ (a + 1) = SZ a + ln (a + 2) := by
  unfold SZ
  have h2 : SHN.length = NT + 2 := shn_len
  rw [szs_succ _ _ (by rw [List.length_drop]; omega)]
  unfold ln
  simp [List.getD_eq_getElem?_getD, List.getElem?_drop, Nat.add_comm]
def ax_args : Nat → List ax_V → List (Nat × ax_V)
  | _, [] => []
  | i, v :: vs => (i, v) :: ax_args (if ct v = 2 then i + 2 else i + 1) vs
theorem ax_args_map (g : ax_G) : ∀ (as : List ax_V) (i : Nat), (ax_args i as).map (ax_cl g) = lv_args i (as.map (cv g))
  | [], i => rfl
  | v :: vs, i => by
    show ax_cl g (i, v) :: (ax_args (if ct v = 2 then i + 2 else i + 1) vs).map (ax_cl g) = (i, cv g v) :: lv_args (if (cv g v).category = 2 then i + 2 else i + 1) (vs.map (cv g))
    rw [ax_args_map g vs, cv_cat]
    rfl
def ax_wd (as : List ax_V) : Nat := (as.map ct).sum
theorem ax_wd_len (g : ax_G) : ∀ (as : List ax_V), (lg_sl (as.map (cv g))).length = ax_wd as
  | [] => rfl
  | v :: vs => by
    have h1 := ax_wd_len g vs
    unfold lg_sl at h1 ⊢
    rw [List.map_cons, List.flatMap_cons, List.length_append, h1, cv_cat]
    unfold ax_wd
    rw [List.map_cons, List.sum_cons]
    congr 1
    rcases v with x | x | r <;> rfl
theorem Ctr.ofAW {l : Launch} {g : ax_G} {ly : Bool} {Y : ax_Y} {d : Nat} {as : List ax_V} {M : ax_M} {res : ax_R} (hY : yOK Y) (hw : ax_wd as ≤ yl Y) (hn : ly = true ∨ gn M ≤ gn res.2) (h : AW l g ly Y d res 0 (ax_args 0 as) [] M) : Ctr l g ly Y d as M res := by
  refine ⟨hn, ?_⟩
  refine Met.ofW (cc := yb Y) (maxL := yl Y) (ret := yr Y) hY.1 rfl ?_
  intro p e s m args below meth c s₁ B hml hv
  obtain ⟨rfl, hs, hh⟩ := hv
  have hx := B.exec
  have hb := B.bytes
  have hr := B.returns
  have hts := atoms_spec (ws := yw Y) B.pre
  have hown : s.vm.findClass (yn Y).cls = some m.cls := findClass_of_methodNamed B.named
  have hlocks := B.notSynchronized
  have hin : meth.name = (yn Y).name := (name_of_methodNamed B.named B.method).1
  have hl := lv_entry (as.map (cv g)) (n := yl Y) (by rw [ax_wd_len]; exact hw)
  rw [lg_entry_eq]
  generalize (lg_sl (as.map (cv g)) ++ List.replicate (yl Y - (lg_sl (as.map (cv g))).length) Slot.unset).toArray = ls at hl ⊢
  rw [← ax_args_map g] at hl
  have key := h p e (rmx d (al ly (gn M) (gn res.2)) (al ly (SZ (gn M)) (SZ (gn res.2)))) s m _ below meth c (MQ below (Qx g ly res) ((as.map (cv g)).toArray) s (al ly (gn M) (gn res.2)) (al ly (SZ (gn M)) (SZ (gn res.2))) (ax_A g)) (gn M) 0 0
    ⟨hx, hb, hml, hown, fun w hw => hts w (List.mem_cons_of_mem _ hw), hs, hin, hY.2.1⟩ ⟨Nat.le_refl _, Nat.le_refl _⟩ ⟨hn.imp id (fun h => ⟨Nat.le_refl _, h⟩), by rw [Nat.zero_add]; exact Nat.le_refl _, by rw [Nat.zero_add]; exact Nat.le_refl _⟩ ?_ s.heap [] ls hh va_S.rf hl
  · rw [al_self, al_self] at key
    exact key
  · intro H' locs' ls' pc' hret hH hS
    rw [Nat.zero_add, Nat.zero_add]
    obtain ⟨i, hi, hrt⟩ := hret
    have hd := cd hi hY.2.1
    have hq : ∀ t : State, t.heap = H' → s.WarmedH t.vm → Qx g ly res ((as.map (cv g)).toArray) s (.returned (res.1.map (cv g))) t := fun t ht _ => ⟨rfl, by rw [ht]; exact hH, hS.F ht⟩
    rcases hrt with ⟨rfl, h1, x, h2⟩ | ⟨rfl, h1, h2⟩ | ⟨rfl, h1, x, h2⟩ | ⟨rfl, ⟨n, h1⟩, a, h2⟩ | ⟨rfl, h1, h2⟩ | ⟨rfl, ty, x, h1, h2, h3⟩
    · rw [h2] at hq ⊢
      exact W.iret hx hb (hr.trans h1) hq hS.2.2 hd
    · rcases h2 with h2 | h2
      · rw [h2] at hq ⊢
        exact W.zret hx hb (hr.trans h1) (by decide) hq hS.2.2 hd
      · rw [h2] at hq ⊢
        exact W.zret hx hb (hr.trans h1) (by decide) hq hS.2.2 hd
    · rw [h2] at hq ⊢
      exact W.lret hx hb (hr.trans h1) hq hS.2.2 hd
    · rw [h2] at hq ⊢
      refine W.aret (v := rv g a) hx hb (hr.trans h1) (Or.inl ⟨n, rfl⟩) ?_ hq hS.2.2 hd
      unfold rv
      split
      · exact Or.inl rfl
      · exact Or.inr ⟨_, rfl⟩
    · rw [h2] at hq ⊢
      exact W.vret hx hb (hr.trans h1) hq hS.2.2 hd
    · rw [h2] at hq ⊢
      exact W.zret hx hb (hr.trans h1) h3 hq hS.2.2 hd
end
section
section AXR
variable {l : Launch} {g : ax_G} {ly : Bool} {Y : ax_Y} {d : Nat} {res : ax_R} {pc : Nat} {Ls : List (Nat × ax_V)} {st : List ax_V} {M : ax_M}
theorem lx_at {ls : Array Slot} {n j i : Nat} {v : ax_V} (h : lv_has ls n (Ls.map (ax_cl g))) (hj : Ls[j]? = some (i, v)) : ls[i]? = some (.val (cv g v)) := by
  refine lv_at h j ?_
  rw [List.getElem?_map, hj]
  rfl
def ax_st1 (Ls : List (Nat × ax_V)) (i : Nat) (v : ax_V) : List (Nat × ax_V) := (i, v) :: Ls.filter (fun q => !(q.1 == i) && !(q.1 + 1 == i && ct q.2 == 2))
def ax_st2 (Ls : List (Nat × ax_V)) (i : Nat) (v : ax_V) : List (Nat × ax_V) := (i, v) :: Ls.filter (fun q => !(q.1 == i) && (!(q.1 == i + 1) && !(q.1 + 1 == i && ct q.2 == 2)))
theorem ax_st1_map (i : Nat) (v : ax_V) : (i, cv g v) :: (Ls.map (ax_cl g)).filter (fun q => !(q.1 == i) && !(q.1 + 1 == i && q.2.category == 2)) = (ax_st1 Ls i v).map (ax_cl g) := by
  unfold ax_st1
  rw [List.filter_map, List.map_cons]
  congr 2
  apply List.filter_congr
  intro q _
  show (!(q.1 == i) && !(q.1 + 1 == i && (cv g q.2).category == 2)) = _
  rw [cv_cat]
theorem ax_st2_map (i : Nat) (v : ax_V) : (i, cv g v) :: (Ls.map (ax_cl g)).filter (fun q => !(q.1 == i) && (!(q.1 == i + 1) && !(q.1 + 1 == i && q.2.category == 2))) = (ax_st2 Ls i v).map (ax_cl g) := by
  unfold ax_st2
  rw [List.filter_map, List.map_cons]
  congr 2
  apply List.filter_congr
  intro q _
  show (!(q.1 == i) && (!(q.1 == i + 1) && !(q.1 + 1 == i && (cv g q.2).category == 2))) = _
  rw [cv_cat]
theorem A_sub {Ls' : List (Nat × ax_V)} (ks : List Nat) (hs : ks.filterMap (fun k => Ls[k]?) = Ls') (K : AW l g ly Y d res pc Ls' st M) : AW l g ly Y d res pc Ls st M := by
  intro p e R s m args below meth c Q n0 kc ks F hR hN hret H locs ls hH hS hl
  refine K p e R s m args below meth c Q n0 kc ks F hR hN hret H locs ls hH hS ⟨hl.1, hl.2.1, fun q hq => hl.2.2 q ?_⟩
  obtain ⟨z, hz, rfl⟩ := List.mem_map.mp hq
  rw [← hs] at hz
  obtain ⟨k, -, hk⟩ := List.mem_filterMap.mp hz
  exact List.mem_map.mpr ⟨z, List.mem_of_getElem? hk, rfl⟩
theorem A_pc {pc' : Nat} (h : pc = pc') (K : AW l g ly Y d res pc' Ls st M) : AW l g ly Y d res pc Ls st M := h ▸ K
theorem A_stk {st' : List ax_V} (h : st = st') (K : AW l g ly Y d res pc Ls st' M) : AW l g ly Y d res pc Ls st M := h ▸ K
theorem A_mem {M' : ax_M} (h : M = M') (K : AW l g ly Y d res pc Ls st M') : AW l g ly Y d res pc Ls st M := h ▸ K
theorem A_iadd {x y : Int32} (hd : codeAt Y pc = some (.iadd, 1)) (K : AW l g ly Y d res (pc + 1) Ls (vI (x + y) :: st) M) : AW l g ly Y d res pc Ls (vI y :: vI x :: st) M := by
  intro p e R s m args below meth c Q n0 kc ks F hR hN hret H locs ls hH hS hl
  exact lv_iadd F.1 F.2.1 (cd hd F.2.2.2.2.2.2.2) (K p e R s m args below meth c Q n0 kc ks F hR hN hret H locs ls hH hS hl)
theorem A_isub {x y : Int32} (hd : codeAt Y pc = some (.isub, 1)) (K : AW l g ly Y d res (pc + 1) Ls (vI (x - y) :: st) M) : AW l g ly Y d res pc Ls (vI y :: vI x :: st) M := by
  intro p e R s m args below meth c Q n0 kc ks F hR hN hret H locs ls hH hS hl
  exact lv_isub F.1 F.2.1 (cd hd F.2.2.2.2.2.2.2) (K p e R s m args below meth c Q n0 kc ks F hR hN hret H locs ls hH hS hl)
theorem A_imul {x y : Int32} (hd : codeAt Y pc = some (.imul, 1)) (K : AW l g ly Y d res (pc + 1) Ls (vI (x * y) :: st) M) : AW l g ly Y d res pc Ls (vI y :: vI x :: st) M := by
  intro p e R s m args below meth c Q n0 kc ks F hR hN hret H locs ls hH hS hl
  exact lv_imul F.1 F.2.1 (cd hd F.2.2.2.2.2.2.2) (K p e R s m args below meth c Q n0 kc ks F hR hN hret H locs ls hH hS hl)
theorem A_iand {x y : Int32} (hd : codeAt Y pc = some (.iand, 1)) (K : AW l g ly Y d res (pc + 1) Ls (vI (x &&& y) :: st) M) : AW l g ly Y d res pc Ls (vI y :: vI x :: st) M := by
  intro p e R s m args below meth c Q n0 kc ks F hR hN hret H locs ls hH hS hl
  exact lv_iand F.1 F.2.1 (cd hd F.2.2.2.2.2.2.2) (K p e R s m args below meth c Q n0 kc ks F hR hN hret H locs ls hH hS hl)
theorem A_ior {x y : Int32} (hd : codeAt Y pc = some (.ior, 1)) (K : AW l g ly Y d res (pc + 1) Ls (vI (x ||| y) :: st) M) : AW l g ly Y d res pc Ls (vI y :: vI x :: st) M := by
  intro p e R s m args below meth c Q n0 kc ks F hR hN hret H locs ls hH hS hl
  exact lv_ior F.1 F.2.1 (cd hd F.2.2.2.2.2.2.2) (K p e R s m args below meth c Q n0 kc ks F hR hN hret H locs ls hH hS hl)
theorem A_ixor {x y : Int32} (hd : codeAt Y pc = some (.ixor, 1)) (K : AW l g ly Y d res (pc + 1) Ls (vI (x ^^^ y) :: st) M) : AW l g ly Y d res pc Ls (vI y :: vI x :: st) M := by
  intro p e R s m args below meth c Q n0 kc ks F hR hN hret H locs ls hH hS hl
  exact lv_ixor F.1 F.2.1 (cd hd F.2.2.2.2.2.2.2) (K p e R s m args below meth c Q n0 kc ks F hR hN hret H locs ls hH hS hl)
theorem A_ishl {x y : Int32} (hd : codeAt Y pc = some (.ishl, 1)) (K : AW l g ly Y d res (pc + 1) Ls (vI (x <<< (y &&& 31)) :: st) M) : AW l g ly Y d res pc Ls (vI y :: vI x :: st) M := by
  intro p e R s m args below meth c Q n0 kc ks F hR hN hret H locs ls hH hS hl
  exact lv_ishl F.1 F.2.1 (cd hd F.2.2.2.2.2.2.2) (K p e R s m args below meth c Q n0 kc ks F hR hN hret H locs ls hH hS hl)
theorem A_ishr {x y : Int32} (hd : codeAt Y pc = some (.ishr, 1)) (K : AW l g ly Y d res (pc + 1) Ls (vI (x >>> (y &&& 31)) :: st) M) : AW l g ly Y d res pc Ls (vI y :: vI x :: st) M := by
  intro p e R s m args below meth c Q n0 kc ks F hR hN hret H locs ls hH hS hl
  exact lv_ishr F.1 F.2.1 (cd hd F.2.2.2.2.2.2.2) (K p e R s m args below meth c Q n0 kc ks F hR hN hret H locs ls hH hS hl)
theorem A_ladd {x y : Int64} (hd : codeAt Y pc = some (.ladd, 1)) (K : AW l g ly Y d res (pc + 1) Ls (vJ (x + y) :: st) M) : AW l g ly Y d res pc Ls (vJ y :: vJ x :: st) M := by
  intro p e R s m args below meth c Q n0 kc ks F hR hN hret H locs ls hH hS hl
  exact lv_ladd F.1 F.2.1 (cd hd F.2.2.2.2.2.2.2) (K p e R s m args below meth c Q n0 kc ks F hR hN hret H locs ls hH hS hl)
theorem A_lsub {x y : Int64} (hd : codeAt Y pc = some (.lsub, 1)) (K : AW l g ly Y d res (pc + 1) Ls (vJ (x - y) :: st) M) : AW l g ly Y d res pc Ls (vJ y :: vJ x :: st) M := by
  intro p e R s m args below meth c Q n0 kc ks F hR hN hret H locs ls hH hS hl
  exact lv_lsub F.1 F.2.1 (cd hd F.2.2.2.2.2.2.2) (K p e R s m args below meth c Q n0 kc ks F hR hN hret H locs ls hH hS hl)
theorem A_lmul {x y : Int64} (hd : codeAt Y pc = some (.lmul, 1)) (K : AW l g ly Y d res (pc + 1) Ls (vJ (x * y) :: st) M) : AW l g ly Y d res pc Ls (vJ y :: vJ x :: st) M := by
  intro p e R s m args below meth c Q n0 kc ks F hR hN hret H locs ls hH hS hl
  exact lv_lmul F.1 F.2.1 (cd hd F.2.2.2.2.2.2.2) (K p e R s m args below meth c Q n0 kc ks F hR hN hret H locs ls hH hS hl)
theorem A_land {x y : Int64} (hd : codeAt Y pc = some (.land, 1)) (K : AW l g ly Y d res (pc + 1) Ls (vJ (x &&& y) :: st) M) : AW l g ly Y d res pc Ls (vJ y :: vJ x :: st) M := by
  intro p e R s m args below meth c Q n0 kc ks F hR hN hret H locs ls hH hS hl
  exact lv_land F.1 F.2.1 (cd hd F.2.2.2.2.2.2.2) (K p e R s m args below meth c Q n0 kc ks F hR hN hret H locs ls hH hS hl)
theorem A_lor {x y : Int64} (hd : codeAt Y pc = some (.lor, 1)) (K : AW l g ly Y d res (pc + 1) Ls (vJ (x ||| y) :: st) M) : AW l g ly Y d res pc Ls (vJ y :: vJ x :: st) M := by
  intro p e R s m args below meth c Q n0 kc ks F hR hN hret H locs ls hH hS hl
  exact lv_lor F.1 F.2.1 (cd hd F.2.2.2.2.2.2.2) (K p e R s m args below meth c Q n0 kc ks F hR hN hret H locs ls hH hS hl)
theorem A_ineg {x : Int32} (hd : codeAt Y pc = some (.ineg, 1)) (K : AW l g ly Y d res (pc + 1) Ls (vI (-x) :: st) M) : AW l g ly Y d res pc Ls (vI x :: st) M := by
  intro p e R s m args below meth c Q n0 kc ks F hR hN hret H locs ls hH hS hl
  exact lv_ineg F.1 F.2.1 (cd hd F.2.2.2.2.2.2.2) (K p e R s m args below meth c Q n0 kc ks F hR hN hret H locs ls hH hS hl)
theorem A_lneg {x : Int64} (hd : codeAt Y pc = some (.lneg, 1)) (K : AW l g ly Y d res (pc + 1) Ls (vJ (-x) :: st) M) : AW l g ly Y d res pc Ls (vJ x :: st) M := by
  intro p e R s m args below meth c Q n0 kc ks F hR hN hret H locs ls hH hS hl
  exact lv_lneg F.1 F.2.1 (cd hd F.2.2.2.2.2.2.2) (K p e R s m args below meth c Q n0 kc ks F hR hN hret H locs ls hH hS hl)
theorem A_ldiv {x y : Int64} (hd : codeAt Y pc = some (.ldiv, 1)) (hne : ¬ y = 0) (K : AW l g ly Y d res (pc + 1) Ls (vJ (x / y) :: st) M) : AW l g ly Y d res pc Ls (vJ y :: vJ x :: st) M := by
  intro p e R s m args below meth c Q n0 kc ks F hR hN hret H locs ls hH hS hl
  exact lv_ldiv F.1 F.2.1 (cd hd F.2.2.2.2.2.2.2) hne (K p e R s m args below meth c Q n0 kc ks F hR hN hret H locs ls hH hS hl)
theorem A_lrem {x y : Int64} (hd : codeAt Y pc = some (.lrem, 1)) (hne : ¬ y = 0) (K : AW l g ly Y d res (pc + 1) Ls (vJ (x - x / y * y) :: st) M) : AW l g ly Y d res pc Ls (vJ y :: vJ x :: st) M := by
  intro p e R s m args below meth c Q n0 kc ks F hR hN hret H locs ls hH hS hl
  exact lv_lrem F.1 F.2.1 (cd hd F.2.2.2.2.2.2.2) hne (K p e R s m args below meth c Q n0 kc ks F hR hN hret H locs ls hH hS hl)
theorem A_idiv {x y : Int32} (hd : codeAt Y pc = some (.idiv, 1)) (hne : ¬ y = 0) (K : AW l g ly Y d res (pc + 1) Ls (vI (x / y) :: st) M) : AW l g ly Y d res pc Ls (vI y :: vI x :: st) M := by
  intro p e R s m args below meth c Q n0 kc ks F hR hN hret H locs ls hH hS hl
  exact lv_idiv F.1 F.2.1 (cd hd F.2.2.2.2.2.2.2) hne (K p e R s m args below meth c Q n0 kc ks F hR hN hret H locs ls hH hS hl)
theorem A_irem {x y : Int32} (hd : codeAt Y pc = some (.irem, 1)) (hne : ¬ y = 0) (K : AW l g ly Y d res (pc + 1) Ls (vI (x - x / y * y) :: st) M) : AW l g ly Y d res pc Ls (vI y :: vI x :: st) M := by
  intro p e R s m args below meth c Q n0 kc ks F hR hN hret H locs ls hH hS hl
  exact lv_irem F.1 F.2.1 (cd hd F.2.2.2.2.2.2.2) hne (K p e R s m args below meth c Q n0 kc ks F hR hN hret H locs ls hH hS hl)
theorem A_lshl {x : Int64} {y : Int32} (hd : codeAt Y pc = some (.lshl, 1))  (K : AW l g ly Y d res (pc + 1) Ls (vJ (x <<< (y.toInt64 &&& 63)) :: st) M) : AW l g ly Y d res pc Ls (vI y :: vJ x :: st) M := by
  intro p e R s m args below meth c Q n0 kc ks F hR hN hret H locs ls hH hS hl
  exact lv_lshl F.1 F.2.1 (cd hd F.2.2.2.2.2.2.2) rfl (K p e R s m args below meth c Q n0 kc ks F hR hN hret H locs ls hH hS hl)
theorem A_i2l {x : Int32} (hd : codeAt Y pc = some (.i2l, 1))  (K : AW l g ly Y d res (pc + 1) Ls (vJ (x.toInt64) :: st) M) : AW l g ly Y d res pc Ls (vI x :: st) M := by
  intro p e R s m args below meth c Q n0 kc ks F hR hN hret H locs ls hH hS hl
  exact lv_i2l F.1 F.2.1 (cd hd F.2.2.2.2.2.2.2) rfl (K p e R s m args below meth c Q n0 kc ks F hR hN hret H locs ls hH hS hl)
theorem A_l2i {x : Int64} (hd : codeAt Y pc = some (.l2i, 1))  (K : AW l g ly Y d res (pc + 1) Ls (vI (x.toInt32) :: st) M) : AW l g ly Y d res pc Ls (vJ x :: st) M := by
  intro p e R s m args below meth c Q n0 kc ks F hR hN hret H locs ls hH hS hl
  exact lv_l2i F.1 F.2.1 (cd hd F.2.2.2.2.2.2.2) rfl (K p e R s m args below meth c Q n0 kc ks F hR hN hret H locs ls hH hS hl)
theorem A_i2c {x : Int32} (hd : codeAt Y pc = some (.i2c, 1))  (K : AW l g ly Y d res (pc + 1) Ls (vI ((x.toUInt32 % 65536).toInt32) :: st) M) : AW l g ly Y d res pc Ls (vI x :: st) M := by
  intro p e R s m args below meth c Q n0 kc ks F hR hN hret H locs ls hH hS hl
  exact lv_i2c F.1 F.2.1 (cd hd F.2.2.2.2.2.2.2) rfl (K p e R s m args below meth c Q n0 kc ks F hR hN hret H locs ls hH hS hl)
theorem A_lcmp {x y : Int64} (hd : codeAt Y pc = some (.lcmp, 1)) (K : AW l g ly Y d res (pc + 1) Ls (vI (lg_cmp x y) :: st) M) : AW l g ly Y d res pc Ls (vJ y :: vJ x :: st) M := by
  intro p e R s m args below meth c Q n0 kc ks F hR hN hret H locs ls hH hS hl
  exact W.lcmp F.1 F.2.1 (cd hd F.2.2.2.2.2.2.2) (K p e R s m args below meth c Q n0 kc ks F hR hN hret H locs ls hH hS hl)
theorem A_iconst {n : Int} {v : Int32} (hd : codeAt Y pc = some (.iconst n, 1)) (hv : Int32.ofInt n = v) (K : AW l g ly Y d res (pc + 1) Ls (vI v :: st) M) : AW l g ly Y d res pc Ls (st) M := by
  intro p e R s m args below meth c Q n0 kc ks F hR hN hret H locs ls hH hS hl
  exact lv_iconst F.1 F.2.1 (cd hd F.2.2.2.2.2.2.2) hv (K p e R s m args below meth c Q n0 kc ks F hR hN hret H locs ls hH hS hl)
theorem A_bipush {n : Int} {v : Int32} (hd : codeAt Y pc = some (.bipush n, 2)) (hv : (Int8.ofInt n).toInt32 = v) (K : AW l g ly Y d res (pc + 2) Ls (vI v :: st) M) : AW l g ly Y d res pc Ls (st) M := by
  intro p e R s m args below meth c Q n0 kc ks F hR hN hret H locs ls hH hS hl
  exact lv_bipush F.1 F.2.1 (cd hd F.2.2.2.2.2.2.2) hv (K p e R s m args below meth c Q n0 kc ks F hR hN hret H locs ls hH hS hl)
theorem A_sipush {n : Int} {v : Int32} (hd : codeAt Y pc = some (.sipush n, 3)) (hv : (Int16.ofInt n).toInt32 = v) (K : AW l g ly Y d res (pc + 3) Ls (vI v :: st) M) : AW l g ly Y d res pc Ls (st) M := by
  intro p e R s m args below meth c Q n0 kc ks F hR hN hret H locs ls hH hS hl
  exact lv_sipush F.1 F.2.1 (cd hd F.2.2.2.2.2.2.2) hv (K p e R s m args below meth c Q n0 kc ks F hR hN hret H locs ls hH hS hl)
theorem A_lconst {n : Fin 2} {v : Int64} (hd : codeAt Y pc = some (.lconst n, 1)) (hv : Int64.ofNat (n : Nat) = v) (K : AW l g ly Y d res (pc + 1) Ls (vJ v :: st) M) : AW l g ly Y d res pc Ls (st) M := by
  intro p e R s m args below meth c Q n0 kc ks F hR hN hret H locs ls hH hS hl
  exact lv_lconst F.1 F.2.1 (cd hd F.2.2.2.2.2.2.2) hv (K p e R s m args below meth c Q n0 kc ks F hR hN hret H locs ls hH hS hl)
theorem A_null (hd : codeAt Y pc = some (.aconst_null, 1)) (K : AW l g ly Y d res (pc + 1) Ls (vA 0 :: st) M) : AW l g ly Y d res pc Ls (st) M := by
  intro p e R s m args below meth c Q n0 kc ks F hR hN hret H locs ls hH hS hl
  exact lv_null F.1 F.2.1 (cd hd F.2.2.2.2.2.2.2) (K p e R s m args below meth c Q n0 kc ks F hR hN hret H locs ls hH hS hl)
theorem A_dup {a : ax_V} (hd : codeAt Y pc = some (.dup, 1)) (ha : ct a = 1) (K : AW l g ly Y d res (pc + 1) Ls (a :: a :: st) M) : AW l g ly Y d res pc Ls (a :: st) M := by
  intro p e R s m args below meth c Q n0 kc ks F hR hN hret H locs ls hH hS hl
  exact lv_dup F.1 F.2.1 (cd hd F.2.2.2.2.2.2.2) (by rw [cv_cat]; exact ha) (K p e R s m args below meth c Q n0 kc ks F hR hN hret H locs ls hH hS hl)
theorem A_pop {a : ax_V} (hd : codeAt Y pc = some (.pop, 1)) (ha : ct a = 1) (K : AW l g ly Y d res (pc + 1) Ls (st) M) : AW l g ly Y d res pc Ls (a :: st) M := by
  intro p e R s m args below meth c Q n0 kc ks F hR hN hret H locs ls hH hS hl
  exact lv_pop F.1 F.2.1 (cd hd F.2.2.2.2.2.2.2) (by rw [cv_cat]; exact ha) (K p e R s m args below meth c Q n0 kc ks F hR hN hret H locs ls hH hS hl)
theorem A_dup_x1 {a b : ax_V} (hd : codeAt Y pc = some (.dup_x1, 1)) (ha : ct a = 1) (hb : ct b = 1) (K : AW l g ly Y d res (pc + 1) Ls (a :: b :: a :: st) M) : AW l g ly Y d res pc Ls (a :: b :: st) M := by
  intro p e R s m args below meth c Q n0 kc ks F hR hN hret H locs ls hH hS hl
  exact lv_dup_x1 F.1 F.2.1 (cd hd F.2.2.2.2.2.2.2) (by rw [cv_cat]; exact ha) (by rw [cv_cat]; exact hb) (K p e R s m args below meth c Q n0 kc ks F hR hN hret H locs ls hH hS hl)
theorem A_dup_x2 {a b f : ax_V} (hd : codeAt Y pc = some (.dup_x2, 1)) (ha : ct a = 1) (hb : ct b = 1) (hf : ct f = 1) (K : AW l g ly Y d res (pc + 1) Ls (a :: b :: f :: a :: st) M) : AW l g ly Y d res pc Ls (a :: b :: f :: st) M := by
  intro p e R s m args below meth c Q n0 kc ks F hR hN hret H locs ls hH hS hl
  exact lv_dup_x2 F.1 F.2.1 (cd hd F.2.2.2.2.2.2.2) (by rw [cv_cat]; exact ha) (by rw [cv_cat]; exact hb) (by rw [cv_cat]; exact hf) (K p e R s m args below meth c Q n0 kc ks F hR hN hret H locs ls hH hS hl)
theorem A_dup2 {a b : ax_V} (hd : codeAt Y pc = some (.dup2, 1)) (ha : ct a = 1) (hb : ct b = 1) (K : AW l g ly Y d res (pc + 1) Ls (a :: b :: a :: b :: st) M) : AW l g ly Y d res pc Ls (a :: b :: st) M := by
  intro p e R s m args below meth c Q n0 kc ks F hR hN hret H locs ls hH hS hl
  exact lv_dup2_11 F.1 F.2.1 (cd hd F.2.2.2.2.2.2.2) (by rw [cv_cat]; exact ha) (by rw [cv_cat]; exact hb) (K p e R s m args below meth c Q n0 kc ks F hR hN hret H locs ls hH hS hl)
theorem A_dup2l {a : ax_V} (hd : codeAt Y pc = some (.dup2, 1)) (ha : ct a = 2) (K : AW l g ly Y d res (pc + 1) Ls (a :: a :: st) M) : AW l g ly Y d res pc Ls (a :: st) M := by
  intro p e R s m args below meth c Q n0 kc ks F hR hN hret H locs ls hH hS hl
  exact lv_dup2_2 F.1 F.2.1 (cd hd F.2.2.2.2.2.2.2) (by rw [cv_cat]; exact ha) (K p e R s m args below meth c Q n0 kc ks F hR hN hret H locs ls hH hS hl)
theorem A_iload {i : Nat} {x : Int32} (j : Nat) (hd : codeAt Y pc = some (.iload i, 2)) (hj : Ls[j]? = some (i, vI x)) (K : AW l g ly Y d res (pc + 2) Ls (vI x :: st) M) : AW l g ly Y d res pc Ls st M := by
  intro p e R s m args below meth c Q n0 kc ks F hR hN hret H locs ls hH hS hl
  exact lv_iload F.1 F.2.1 (cd hd F.2.2.2.2.2.2.2) (lx_at hl hj) (K p e R s m args below meth c Q n0 kc ks F hR hN hret H locs ls hH hS hl)
theorem A_iload_n {k : Fin 4} {i : Nat} {x : Int32} (j : Nat) (hd : codeAt Y pc = some (.iload_n k, 1)) (hi : (k : Nat) = i) (hj : Ls[j]? = some (i, vI x)) (K : AW l g ly Y d res (pc + 1) Ls (vI x :: st) M) : AW l g ly Y d res pc Ls st M := by
  intro p e R s m args below meth c Q n0 kc ks F hR hN hret H locs ls hH hS hl
  exact lv_iload_n F.1 F.2.1 (cd hd F.2.2.2.2.2.2.2) hi (lx_at hl hj) (K p e R s m args below meth c Q n0 kc ks F hR hN hret H locs ls hH hS hl)
theorem A_lload {i : Nat} {x : Int64} (j : Nat) (hd : codeAt Y pc = some (.lload i, 2)) (hj : Ls[j]? = some (i, vJ x)) (K : AW l g ly Y d res (pc + 2) Ls (vJ x :: st) M) : AW l g ly Y d res pc Ls st M := by
  intro p e R s m args below meth c Q n0 kc ks F hR hN hret H locs ls hH hS hl
  exact lv_lload F.1 F.2.1 (cd hd F.2.2.2.2.2.2.2) (lx_at hl hj) (K p e R s m args below meth c Q n0 kc ks F hR hN hret H locs ls hH hS hl)
theorem A_lload_n {k : Fin 4} {i : Nat} {x : Int64} (j : Nat) (hd : codeAt Y pc = some (.lload_n k, 1)) (hi : (k : Nat) = i) (hj : Ls[j]? = some (i, vJ x)) (K : AW l g ly Y d res (pc + 1) Ls (vJ x :: st) M) : AW l g ly Y d res pc Ls st M := by
  intro p e R s m args below meth c Q n0 kc ks F hR hN hret H locs ls hH hS hl
  exact lv_lload_n F.1 F.2.1 (cd hd F.2.2.2.2.2.2.2) hi (lx_at hl hj) (K p e R s m args below meth c Q n0 kc ks F hR hN hret H locs ls hH hS hl)
theorem A_aload {i r : Nat} (j : Nat) (hd : codeAt Y pc = some (.aload i, 2)) (hj : Ls[j]? = some (i, vA r)) (K : AW l g ly Y d res (pc + 2) Ls (vA r :: st) M) : AW l g ly Y d res pc Ls st M := by
  intro p e R s m args below meth c Q n0 kc ks F hR hN hret H locs ls hH hS hl
  have h1 := lx_at hl hj
  have h2 := (K p e R s m args below meth c Q n0 kc ks F hR hN hret H locs ls hH hS hl)
  rw [cv_A] at h1
  rw [List.map_cons, cv_A] at h2
  by_cases hr : r = 0
  · subst hr
    rw [rv_0] at h1 h2
    exact lv_aloadN F.1 F.2.1 (cd hd F.2.2.2.2.2.2.2) h1 h2
  · rw [rv_pos hr] at h1 h2
    exact lv_aload F.1 F.2.1 (cd hd F.2.2.2.2.2.2.2) h1 h2
theorem A_aload_n {k : Fin 4} {i r : Nat} (j : Nat) (hd : codeAt Y pc = some (.aload_n k, 1)) (hi : (k : Nat) = i) (hj : Ls[j]? = some (i, vA r)) (K : AW l g ly Y d res (pc + 1) Ls (vA r :: st) M) : AW l g ly Y d res pc Ls st M := by
  intro p e R s m args below meth c Q n0 kc ks F hR hN hret H locs ls hH hS hl
  have h1 := lx_at hl hj
  have h2 := (K p e R s m args below meth c Q n0 kc ks F hR hN hret H locs ls hH hS hl)
  rw [cv_A] at h1
  rw [List.map_cons, cv_A] at h2
  by_cases hr : r = 0
  · subst hr
    rw [rv_0] at h1 h2
    exact lv_aload_nN F.1 F.2.1 (cd hd F.2.2.2.2.2.2.2) hi h1 h2
  · rw [rv_pos hr] at h1 h2
    exact lv_aload_n F.1 F.2.1 (cd hd F.2.2.2.2.2.2.2) hi h1 h2
theorem A_istore {i : Nat} {x : Int32} {Ls' : List (Nat × ax_V)} (hd : codeAt Y pc = some (.istore i, 2)) (hn : i < yl Y) (hL : ax_st1 Ls i (vI x) = Ls') (K : AW l g ly Y d res (pc + 2) Ls' st M) : AW l g ly Y d res pc Ls (vI x :: st) M := by
  intro p e R s m args below meth c Q n0 kc ks F hR hN hret H locs ls hH hS hl
  subst hL
  exact lv_istore F.1 F.2.1 (cd hd F.2.2.2.2.2.2.2) hl hn (ax_st1_map i (vI x)) (fun ls2 hl2 => K p e R s m args below meth c Q n0 kc ks F hR hN hret H locs ls2 hH hS hl2)
theorem A_istore_n {k : Fin 4} {i : Nat} {x : Int32} {Ls' : List (Nat × ax_V)} (hd : codeAt Y pc = some (.istore_n k, 1)) (hi : (k : Nat) = i) (hn : i < yl Y) (hL : ax_st1 Ls i (vI x) = Ls') (K : AW l g ly Y d res (pc + 1) Ls' st M) : AW l g ly Y d res pc Ls (vI x :: st) M := by
  intro p e R s m args below meth c Q n0 kc ks F hR hN hret H locs ls hH hS hl
  subst hL
  exact lv_istore_n F.1 F.2.1 (cd hd F.2.2.2.2.2.2.2) hi hl hn (ax_st1_map i (vI x)) (fun ls2 hl2 => K p e R s m args below meth c Q n0 kc ks F hR hN hret H locs ls2 hH hS hl2)
theorem A_lstore {i : Nat} {x : Int64} {Ls' : List (Nat × ax_V)} (hd : codeAt Y pc = some (.lstore i, 2)) (hn : i + 1 < yl Y) (hL : ax_st2 Ls i (vJ x) = Ls') (K : AW l g ly Y d res (pc + 2) Ls' st M) : AW l g ly Y d res pc Ls (vJ x :: st) M := by
  intro p e R s m args below meth c Q n0 kc ks F hR hN hret H locs ls hH hS hl
  subst hL
  exact lv_lstore F.1 F.2.1 (cd hd F.2.2.2.2.2.2.2) hl hn (ax_st2_map i (vJ x)) (fun ls2 hl2 => K p e R s m args below meth c Q n0 kc ks F hR hN hret H locs ls2 hH hS hl2)
theorem A_lstore_n {k : Fin 4} {i : Nat} {x : Int64} {Ls' : List (Nat × ax_V)} (hd : codeAt Y pc = some (.lstore_n k, 1)) (hi : (k : Nat) = i) (hn : i + 1 < yl Y) (hL : ax_st2 Ls i (vJ x) = Ls') (K : AW l g ly Y d res (pc + 1) Ls' st M) : AW l g ly Y d res pc Ls (vJ x :: st) M := by
  intro p e R s m args below meth c Q n0 kc ks F hR hN hret H locs ls hH hS hl
  subst hL
  exact lv_lstore_n F.1 F.2.1 (cd hd F.2.2.2.2.2.2.2) hi hl hn (ax_st2_map i (vJ x)) (fun ls2 hl2 => K p e R s m args below meth c Q n0 kc ks F hR hN hret H locs ls2 hH hS hl2)
theorem A_astore {i r : Nat} {Ls' : List (Nat × ax_V)} (hd : codeAt Y pc = some (.astore i, 2)) (hn : i < yl Y) (hL : ax_st1 Ls i (vA r) = Ls') (K : AW l g ly Y d res (pc + 2) Ls' st M) : AW l g ly Y d res pc Ls (vA r :: st) M := by
  intro p e R s m args below meth c Q n0 kc ks F hR hN hret H locs ls hH hS hl
  subst hL
  have h1 := ax_st1_map (g := g) (Ls := Ls) i (vA r)
  rw [List.map_cons]
  rw [cv_A] at h1 ⊢
  by_cases hr : r = 0
  · rw [hr, rv_0] at h1 ⊢
    exact lv_astoreN F.1 F.2.1 (cd hd F.2.2.2.2.2.2.2) hl hn h1 (fun ls2 hl2 => K p e R s m args below meth c Q n0 kc ks F hR hN hret H locs ls2 hH hS (hr ▸ hl2))
  · rw [rv_pos hr] at h1 ⊢
    exact lv_astore F.1 F.2.1 (cd hd F.2.2.2.2.2.2.2) hl hn h1 (fun ls2 hl2 => K p e R s m args below meth c Q n0 kc ks F hR hN hret H locs ls2 hH hS hl2)
theorem A_astore_n {k : Fin 4} {i r : Nat} {Ls' : List (Nat × ax_V)} (hd : codeAt Y pc = some (.astore_n k, 1)) (hi : (k : Nat) = i) (hn : i < yl Y) (hL : ax_st1 Ls i (vA r) = Ls') (K : AW l g ly Y d res (pc + 1) Ls' st M) : AW l g ly Y d res pc Ls (vA r :: st) M := by
  intro p e R s m args below meth c Q n0 kc ks F hR hN hret H locs ls hH hS hl
  subst hL
  have h1 := ax_st1_map (g := g) (Ls := Ls) i (vA r)
  rw [List.map_cons]
  rw [cv_A] at h1 ⊢
  by_cases hr : r = 0
  · rw [hr, rv_0] at h1 ⊢
    exact lv_astore_nN F.1 F.2.1 (cd hd F.2.2.2.2.2.2.2) hi hl hn h1 (fun ls2 hl2 => K p e R s m args below meth c Q n0 kc ks F hR hN hret H locs ls2 hH hS (hr ▸ hl2))
  · rw [rv_pos hr] at h1 ⊢
    exact lv_astore_n F.1 F.2.1 (cd hd F.2.2.2.2.2.2.2) hi hl hn h1 (fun ls2 hl2 => K p e R s m args below meth c Q n0 kc ks F hR hN hret H locs ls2 hH hS hl2)
theorem A_iinc {i : Nat} {n : Int} {x v : Int32} {Ls' : List (Nat × ax_V)} (j : Nat) (hd : codeAt Y pc = some (.iinc i n, 3)) (hj : Ls[j]? = some (i, vI x)) (hv : x + Int32.ofInt n = v) (hn : i < yl Y) (hL : ax_st1 Ls i (vI v) = Ls') (K : AW l g ly Y d res (pc + 3) Ls' st M) : AW l g ly Y d res pc Ls st M := by
  intro p e R s m args below meth c Q n0 kc ks F hR hN hret H locs ls hH hS hl
  subst hL
  exact lv_iinc (k := j) F.1 F.2.1 (cd hd F.2.2.2.2.2.2.2) hl (by rw [List.getElem?_map, hj]; rfl) hv hn (ax_st1_map i (vI v)) (fun ls2 hl2 => K p e R s m args below meth c Q n0 kc ks F hR hN hret H locs ls2 hH hS hl2)
theorem A_if_eq {x : Int32} {off : Int} {tgt : Nat} (hd : codeAt Y pc = some (.ifCond .eq off, 3)) (ht : (pc : Int) + off = (tgt : Int)) (kt : x = 0 → AW l g ly Y d res tgt Ls st M) (kf : ¬ x = 0 → AW l g ly Y d res (pc + 3) Ls st M) : AW l g ly Y d res pc Ls (vI x :: st) M := by
  intro p e R s m args below meth c Q n0 kc ks F hR hN hret H locs ls hH hS hl
  exact lv_if_eq F.1 F.2.1 (cd hd F.2.2.2.2.2.2.2) ht (fun h => kt h p e R s m args below meth c Q n0 kc ks F hR hN hret H locs ls hH hS hl) (fun h => kf h p e R s m args below meth c Q n0 kc ks F hR hN hret H locs ls hH hS hl)
theorem A_if_ne {x : Int32} {off : Int} {tgt : Nat} (hd : codeAt Y pc = some (.ifCond .ne off, 3)) (ht : (pc : Int) + off = (tgt : Int)) (kt : ¬ x = 0 → AW l g ly Y d res tgt Ls st M) (kf : x = 0 → AW l g ly Y d res (pc + 3) Ls st M) : AW l g ly Y d res pc Ls (vI x :: st) M := by
  intro p e R s m args below meth c Q n0 kc ks F hR hN hret H locs ls hH hS hl
  exact lv_if_ne F.1 F.2.1 (cd hd F.2.2.2.2.2.2.2) ht (fun h => kt h p e R s m args below meth c Q n0 kc ks F hR hN hret H locs ls hH hS hl) (fun h => kf h p e R s m args below meth c Q n0 kc ks F hR hN hret H locs ls hH hS hl)
theorem A_if_lt {x : Int32} {off : Int} {tgt : Nat} (hd : codeAt Y pc = some (.ifCond .lt off, 3)) (ht : (pc : Int) + off = (tgt : Int)) (kt : x < 0 → AW l g ly Y d res tgt Ls st M) (kf : ¬ x < 0 → AW l g ly Y d res (pc + 3) Ls st M) : AW l g ly Y d res pc Ls (vI x :: st) M := by
  intro p e R s m args below meth c Q n0 kc ks F hR hN hret H locs ls hH hS hl
  exact lv_if_lt F.1 F.2.1 (cd hd F.2.2.2.2.2.2.2) ht (fun h => kt h p e R s m args below meth c Q n0 kc ks F hR hN hret H locs ls hH hS hl) (fun h => kf h p e R s m args below meth c Q n0 kc ks F hR hN hret H locs ls hH hS hl)
theorem A_if_ge {x : Int32} {off : Int} {tgt : Nat} (hd : codeAt Y pc = some (.ifCond .ge off, 3)) (ht : (pc : Int) + off = (tgt : Int)) (kt : 0 ≤ x → AW l g ly Y d res tgt Ls st M) (kf : ¬ 0 ≤ x → AW l g ly Y d res (pc + 3) Ls st M) : AW l g ly Y d res pc Ls (vI x :: st) M := by
  intro p e R s m args below meth c Q n0 kc ks F hR hN hret H locs ls hH hS hl
  exact lv_if_ge F.1 F.2.1 (cd hd F.2.2.2.2.2.2.2) ht (fun h => kt h p e R s m args below meth c Q n0 kc ks F hR hN hret H locs ls hH hS hl) (fun h => kf h p e R s m args below meth c Q n0 kc ks F hR hN hret H locs ls hH hS hl)
theorem A_if_gt {x : Int32} {off : Int} {tgt : Nat} (hd : codeAt Y pc = some (.ifCond .gt off, 3)) (ht : (pc : Int) + off = (tgt : Int)) (kt : 0 < x → AW l g ly Y d res tgt Ls st M) (kf : ¬ 0 < x → AW l g ly Y d res (pc + 3) Ls st M) : AW l g ly Y d res pc Ls (vI x :: st) M := by
  intro p e R s m args below meth c Q n0 kc ks F hR hN hret H locs ls hH hS hl
  exact lv_if_gt F.1 F.2.1 (cd hd F.2.2.2.2.2.2.2) ht (fun h => kt h p e R s m args below meth c Q n0 kc ks F hR hN hret H locs ls hH hS hl) (fun h => kf h p e R s m args below meth c Q n0 kc ks F hR hN hret H locs ls hH hS hl)
theorem A_if_le {x : Int32} {off : Int} {tgt : Nat} (hd : codeAt Y pc = some (.ifCond .le off, 3)) (ht : (pc : Int) + off = (tgt : Int)) (kt : x ≤ 0 → AW l g ly Y d res tgt Ls st M) (kf : ¬ x ≤ 0 → AW l g ly Y d res (pc + 3) Ls st M) : AW l g ly Y d res pc Ls (vI x :: st) M := by
  intro p e R s m args below meth c Q n0 kc ks F hR hN hret H locs ls hH hS hl
  exact lv_if_le F.1 F.2.1 (cd hd F.2.2.2.2.2.2.2) ht (fun h => kt h p e R s m args below meth c Q n0 kc ks F hR hN hret H locs ls hH hS hl) (fun h => kf h p e R s m args below meth c Q n0 kc ks F hR hN hret H locs ls hH hS hl)
theorem A_icmp_eq {x y : Int32} {off : Int} {tgt : Nat} (hd : codeAt Y pc = some (.if_icmp .eq off, 3)) (ht : (pc : Int) + off = (tgt : Int)) (kt : x = y → AW l g ly Y d res tgt Ls st M) (kf : ¬ x = y → AW l g ly Y d res (pc + 3) Ls st M) : AW l g ly Y d res pc Ls (vI y :: vI x :: st) M := by
  intro p e R s m args below meth c Q n0 kc ks F hR hN hret H locs ls hH hS hl
  exact lv_icmp_eq F.1 F.2.1 (cd hd F.2.2.2.2.2.2.2) ht (fun h => kt h p e R s m args below meth c Q n0 kc ks F hR hN hret H locs ls hH hS hl) (fun h => kf h p e R s m args below meth c Q n0 kc ks F hR hN hret H locs ls hH hS hl)
theorem A_icmp_ne {x y : Int32} {off : Int} {tgt : Nat} (hd : codeAt Y pc = some (.if_icmp .ne off, 3)) (ht : (pc : Int) + off = (tgt : Int)) (kt : ¬ x = y → AW l g ly Y d res tgt Ls st M) (kf : x = y → AW l g ly Y d res (pc + 3) Ls st M) : AW l g ly Y d res pc Ls (vI y :: vI x :: st) M := by
  intro p e R s m args below meth c Q n0 kc ks F hR hN hret H locs ls hH hS hl
  exact lv_icmp_ne F.1 F.2.1 (cd hd F.2.2.2.2.2.2.2) ht (fun h => kt h p e R s m args below meth c Q n0 kc ks F hR hN hret H locs ls hH hS hl) (fun h => kf h p e R s m args below meth c Q n0 kc ks F hR hN hret H locs ls hH hS hl)
theorem A_icmp_lt {x y : Int32} {off : Int} {tgt : Nat} (hd : codeAt Y pc = some (.if_icmp .lt off, 3)) (ht : (pc : Int) + off = (tgt : Int)) (kt : x < y → AW l g ly Y d res tgt Ls st M) (kf : ¬ x < y → AW l g ly Y d res (pc + 3) Ls st M) : AW l g ly Y d res pc Ls (vI y :: vI x :: st) M := by
  intro p e R s m args below meth c Q n0 kc ks F hR hN hret H locs ls hH hS hl
  exact lv_icmp_lt F.1 F.2.1 (cd hd F.2.2.2.2.2.2.2) ht (fun h => kt h p e R s m args below meth c Q n0 kc ks F hR hN hret H locs ls hH hS hl) (fun h => kf h p e R s m args below meth c Q n0 kc ks F hR hN hret H locs ls hH hS hl)
theorem A_icmp_ge {x y : Int32} {off : Int} {tgt : Nat} (hd : codeAt Y pc = some (.if_icmp .ge off, 3)) (ht : (pc : Int) + off = (tgt : Int)) (kt : y ≤ x → AW l g ly Y d res tgt Ls st M) (kf : ¬ y ≤ x → AW l g ly Y d res (pc + 3) Ls st M) : AW l g ly Y d res pc Ls (vI y :: vI x :: st) M := by
  intro p e R s m args below meth c Q n0 kc ks F hR hN hret H locs ls hH hS hl
  exact lv_icmp_ge F.1 F.2.1 (cd hd F.2.2.2.2.2.2.2) ht (fun h => kt h p e R s m args below meth c Q n0 kc ks F hR hN hret H locs ls hH hS hl) (fun h => kf h p e R s m args below meth c Q n0 kc ks F hR hN hret H locs ls hH hS hl)
theorem A_icmp_gt {x y : Int32} {off : Int} {tgt : Nat} (hd : codeAt Y pc = some (.if_icmp .gt off, 3)) (ht : (pc : Int) + off = (tgt : Int)) (kt : y < x → AW l g ly Y d res tgt Ls st M) (kf : ¬ y < x → AW l g ly Y d res (pc + 3) Ls st M) : AW l g ly Y d res pc Ls (vI y :: vI x :: st) M := by
  intro p e R s m args below meth c Q n0 kc ks F hR hN hret H locs ls hH hS hl
  exact lv_icmp_gt F.1 F.2.1 (cd hd F.2.2.2.2.2.2.2) ht (fun h => kt h p e R s m args below meth c Q n0 kc ks F hR hN hret H locs ls hH hS hl) (fun h => kf h p e R s m args below meth c Q n0 kc ks F hR hN hret H locs ls hH hS hl)
theorem A_icmp_le {x y : Int32} {off : Int} {tgt : Nat} (hd : codeAt Y pc = some (.if_icmp .le off, 3)) (ht : (pc : Int) + off = (tgt : Int)) (kt : x ≤ y → AW l g ly Y d res tgt Ls st M) (kf : ¬ x ≤ y → AW l g ly Y d res (pc + 3) Ls st M) : AW l g ly Y d res pc Ls (vI y :: vI x :: st) M := by
  intro p e R s m args below meth c Q n0 kc ks F hR hN hret H locs ls hH hS hl
  exact lv_icmp_le F.1 F.2.1 (cd hd F.2.2.2.2.2.2.2) ht (fun h => kt h p e R s m args below meth c Q n0 kc ks F hR hN hret H locs ls hH hS hl) (fun h => kf h p e R s m args below meth c Q n0 kc ks F hR hN hret H locs ls hH hS hl)
theorem A_ifnull {r : Nat} {off : Int} {tgt : Nat} (hd : codeAt Y pc = some (.ifnull off, 3)) (ht : (pc : Int) + off = (tgt : Int)) (kt : r = 0 → AW l g ly Y d res tgt Ls st M) (kf : ¬ r = 0 → AW l g ly Y d res (pc + 3) Ls st M) : AW l g ly Y d res pc Ls (vA r :: st) M := by
  intro p e R s m args below meth c Q n0 kc ks F hR hN hret H locs ls hH hS hl
  rw [List.map_cons, cv_A]
  by_cases hr : r = 0
  · rw [hr, rv_0]
    exact lv_ifnullN F.1 F.2.1 (cd hd F.2.2.2.2.2.2.2) ht (kt hr p e R s m args below meth c Q n0 kc ks F hR hN hret H locs ls hH hS hl)
  · rw [rv_pos hr]
    exact lv_ifnull F.1 F.2.1 (cd hd F.2.2.2.2.2.2.2) (kf hr p e R s m args below meth c Q n0 kc ks F hR hN hret H locs ls hH hS hl)
theorem A_ifnonnull {r : Nat} {off : Int} {tgt : Nat} (hd : codeAt Y pc = some (.ifnonnull off, 3)) (ht : (pc : Int) + off = (tgt : Int)) (kt : ¬ r = 0 → AW l g ly Y d res tgt Ls st M) (kf : r = 0 → AW l g ly Y d res (pc + 3) Ls st M) : AW l g ly Y d res pc Ls (vA r :: st) M := by
  intro p e R s m args below meth c Q n0 kc ks F hR hN hret H locs ls hH hS hl
  rw [List.map_cons, cv_A]
  by_cases hr : r = 0
  · rw [hr, rv_0]
    exact lv_ifnonnullN F.1 F.2.1 (cd hd F.2.2.2.2.2.2.2) (kf hr p e R s m args below meth c Q n0 kc ks F hR hN hret H locs ls hH hS hl)
  · rw [rv_pos hr]
    exact lv_ifnonnull F.1 F.2.1 (cd hd F.2.2.2.2.2.2.2) ht (kt hr p e R s m args below meth c Q n0 kc ks F hR hN hret H locs ls hH hS hl)
theorem A_goto {off : Int} {tgt : Nat} (hd : codeAt Y pc = some (.goto off, 3)) (ht : (pc : Int) + off = (tgt : Int)) (K : AW l g ly Y d res tgt Ls st M) : AW l g ly Y d res pc Ls st M := by
  intro p e R s m args below meth c Q n0 kc ks F hR hN hret H locs ls hH hS hl
  exact lv_goto F.1 F.2.1 (cd hd F.2.2.2.2.2.2.2) ht (K p e R s m args below meth c Q n0 kc ks F hR hN hret H locs ls hH hS hl)
theorem A_lookup {dflt : Int} {ps : Array (Int × Int)} {n : Nat} {x : Int32} {off : Int} {tgt : Nat} (hd : codeAt Y pc = some (.lookupswitch dflt ps, n)) (hp : (ps.toList.zip (ps.toList.drop 1)).all (fun (a, next) => a.1 < next.1) = true) (ho : Op.lookupswitch.offset ps.toList dflt x.toInt = off) (ht : (pc : Int) + off = (tgt : Int)) (K : AW l g ly Y d res tgt Ls st M) : AW l g ly Y d res pc Ls (vI x :: st) M := by
  intro p e R s m args below meth c Q n0 kc ks F hR hN hret H locs ls hH hS hl
  exact lv_lookup F.1 F.2.1 (cd hd F.2.2.2.2.2.2.2) hp ho ht (K p e R s m args below meth c Q n0 kc ks F hR hN hret H locs ls hH hS hl)
theorem A_tableIn {dflt lo hi : Int} {offs : Array Int} {n : Nat} {x : Int32} {off : Int} {tgt : Nat} (hd : codeAt Y pc = some (.tableswitch dflt lo hi offs, n)) (h1 : ¬ x.toInt < lo) (h2 : ¬ hi < x.toInt) (ho : offs[(x.toInt - lo).toNat]? = some off) (ht : (pc : Int) + off = (tgt : Int)) (K : AW l g ly Y d res tgt Ls st M) : AW l g ly Y d res pc Ls (vI x :: st) M := by
  intro p e R s m args below meth c Q n0 kc ks F hR hN hret H locs ls hH hS hl
  exact lv_tableIn F.1 F.2.1 (cd hd F.2.2.2.2.2.2.2) h1 h2 ho ht (K p e R s m args below meth c Q n0 kc ks F hR hN hret H locs ls hH hS hl)
theorem A_tableOut {dflt lo hi : Int} {offs : Array Int} {n : Nat} {x : Int32} {tgt : Nat} (hd : codeAt Y pc = some (.tableswitch dflt lo hi offs, n)) (h : x.toInt < lo ∨ hi < x.toInt) (ht : (pc : Int) + dflt = (tgt : Int)) (K : AW l g ly Y d res tgt Ls st M) : AW l g ly Y d res pc Ls (vI x :: st) M := by
  intro p e R s m args below meth c Q n0 kc ks F hR hN hret H locs ls hH hS hl
  exact lv_tableOut F.1 F.2.1 (cd hd F.2.2.2.2.2.2.2) h ht (K p e R s m args below meth c Q n0 kc ks F hR hN hret H locs ls hH hS hl)
theorem A_ret {i : Instr} {r : Option ax_V} (hd : codeAt Y pc = some (i, 1)) (hr : rtOK Y i r) (hs : st = r.toList) : AW l g ly Y d (r, M) pc Ls st M := by
  intro p e R s m args below meth c Q n0 kc ks F hR hN hret H locs ls hH hS hl
  subst hs
  have h1 := hret H locs ls pc ⟨i, hd, hr⟩ hH hS
  have h2 : (r.toList).map (cv g) = (r.map (cv g)).toList := by cases r <;> rfl
  rw [h2]
  exact h1
theorem A_iret {x : Int32} (hd : codeAt Y pc = some (.ireturn, 1)) (hr : yr Y = some .int) : AW l g ly Y d (some (vI x), M) pc Ls [vI x] M := A_ret hd (Or.inl ⟨rfl, hr, x, rfl⟩) rfl
theorem A_zret {x : Int32} (hd : codeAt Y pc = some (.ireturn, 1)) (hr : yr Y = some .boolean) (hx : x = 0 ∨ x = 1) : AW l g ly Y d (some (vI x), M) pc Ls [vI x] M := A_ret hd (Or.inr (Or.inl ⟨rfl, hr, by rcases hx with rfl | rfl <;> simp⟩)) rfl
theorem A_lret {x : Int64} (hd : codeAt Y pc = some (.lreturn, 1)) (hr : yr Y = some .long) : AW l g ly Y d (some (vJ x), M) pc Ls [vJ x] M := A_ret hd (Or.inr (Or.inr (Or.inl ⟨rfl, hr, x, rfl⟩))) rfl
theorem A_aret {a : Nat} {n : String} (hd : codeAt Y pc = some (.areturn, 1)) (hr : yr Y = some (.object n)) : AW l g ly Y d (some (vA a), M) pc Ls [vA a] M := A_ret hd (Or.inr (Or.inr (Or.inr (Or.inl ⟨rfl, ⟨n, hr⟩, a, rfl⟩)))) rfl
theorem A_vret (hd : codeAt Y pc = some (.return_, 1)) (hr : yr Y = none) : AW l g ly Y d (none, M) pc Ls [] M := A_ret hd (Or.inr (Or.inr (Or.inr (Or.inr (Or.inl ⟨rfl, hr, rfl⟩))))) rfl
theorem A_nret {x : Int32} {ty : FieldType} (hd : codeAt Y pc = some (.ireturn, 1)) (hr : yr Y = some ty) (hx : narrow ty (.int x) = .int x) : AW l g ly Y d (some (vI x), M) pc Ls [vI x] M := A_ret hd (Or.inr (Or.inr (Or.inr (Or.inr (Or.inr ⟨rfl, ty, x, hr, rfl, hx⟩))))) rfl
theorem A_ldc {idx : Nat} {v : Int32} (hd : codeAt Y pc = some (.ldc idx, 2)) (hw : Cond.constant (yn Y).cls idx v ∈ WG) (K : AW l g ly Y d res (pc + 2) Ls (vI v :: st) M) : AW l g ly Y d res pc Ls st M := by
  intro p e R s m args below meth c Q n0 kc ks F hR hN hret H locs ls hH hS hl
  exact lv_ldc F.1 F.2.1 F.2.2.2.1 (F.2.2.2.2.1 _ hw) (cd hd F.2.2.2.2.2.2.2) (K p e R s m args below meth c Q n0 kc ks F hR hN hret H locs ls hH hS hl)
theorem A_ldc2 {idx : Nat} {v : Int64} (hd : codeAt Y pc = some (.ldc2_w idx, 3)) (hw : Cond.constantLong (yn Y).cls idx v ∈ WG) (K : AW l g ly Y d res (pc + 3) Ls (vJ v :: st) M) : AW l g ly Y d res pc Ls st M := by
  intro p e R s m args below meth c Q n0 kc ks F hR hN hret H locs ls hH hS hl
  exact lv_ldc2 F.1 F.2.1 F.2.2.2.1 (F.2.2.2.2.1 _ hw) (cd hd F.2.2.2.2.2.2.2) (K p e R s m args below meth c Q n0 kc ks F hR hN hret H locs ls hH hS hl)
theorem A_sld {i : Int32} (hd : codeAt Y pc = some (.iaload, 1)) (hi : vp_in i (gL g)) (K : AW l g ly Y d res (pc + 1) Ls (vI (gx g i.toNatClampNeg) :: st) M) : AW l g ly Y d res pc Ls (vI i :: vA 1 :: st) M := by
  intro p e R s m args below meth c Q n0 kc ks F hR hN hret H locs ls hH hS hl
  have hs := F.2.2.2.2.2.1
  exact va_sld F.1 F.2.1 hs.2.2.2.1 (Nat.lt_of_lt_of_le hs.2.2.2.2.1 hs.2.2.2.2.2.1) (fun h => absurd hs.2.2.2.2.1 (Nat.not_lt.mpr h)) hS hi (cd hd F.2.2.2.2.2.2.2) (K p e R s m args below meth c Q n0 kc ks F hR hN hret H locs ls hH hS hl)
theorem A_slen (hd : codeAt Y pc = some (.arraylength, 1)) (K : AW l g ly Y d res (pc + 1) Ls (vI (Int32.ofNat (gL g)) :: st) M) : AW l g ly Y d res pc Ls (vA 1 :: st) M := by
  intro p e R s m args below meth c Q n0 kc ks F hR hN hret H locs ls hH hS hl
  have hs := F.2.2.2.2.2.1
  exact va_slen F.1 F.2.1 hs.2.2.2.1 (Nat.lt_of_lt_of_le hs.2.2.2.2.1 hs.2.2.2.2.2.1) (fun h => absurd hs.2.2.2.2.1 (Nat.not_lt.mpr h)) hS (cd hd F.2.2.2.2.2.2.2) (K p e R s m args below meth c Q n0 kc ks F hR hN hret H locs ls hH hS hl)
end AXR
end
section
/-! fields, arrays, new cells, calls -/
def clsOK (ci : Nat) (C : String) (T : u_T) (N : Nat) : Prop :=
  classes[ci]? = some (C, T, N) ∧ (∀ w ∈ u_ws C T N, w ∈ WG) ∧ (∀ k, k < N → parseFieldDescriptor (T k).2.2.1 = some (FTY ci k)) ∧ (∀ a, a < N → ∀ b, b < N → a ≠ b → (T a).2.1 ≠ (T b).2.1) ∧ ci < 100 ∧ (∀ c, kd c = ci → ln c = N)
def fldOK (own : String) (idx ci k : Nat) (fin : Bool) : Prop := ∃ (C : String) (T : u_T) (N : Nat), clsOK ci C T N ∧ k < N ∧ (T k).1 = C ∧ (T k).2.2.2 = fin ∧
  (Cond.fieldLink own idx C (T k).2.1 (T k).2.2.1 ∈ WG ∨ ∃ host, Cond.fieldLinkNest own idx C (T k).2.1 (T k).2.2.1 host ∈ NW)
def fldFin (own : String) (idx ci k : Nat) : Prop := ∃ (T : u_T) (N : Nat), clsOK ci own T N ∧ k < N ∧ (T k).1 = own ∧ (T k).2.2.2 = true ∧ Cond.fieldLink own idx own (T k).2.1 (T k).2.2.1 ∈ WG
def live (ly : Bool) (M : ax_M) (c : Nat) : Prop := ly = true ∨ c < gn M + 2
theorem hok.cell {g : ax_G} {ly : Bool} {M : ax_M} {H : Heap} {c K : Nat} (h : hok g ly M H) (hk : kd c = K) (hK : K ≠ 999) (hv : live ly M c) : 2 ≤ c ∧ c < gn M + 2 ∧ c < 1000 ∧ (WS g M)[c - 2]? = some (am g c, ent g M c) ∧ rv g c = .ref (am g c) := by
  obtain ⟨h1, h2⟩ := kd_lt hk hK
  have h3 : NT + 2 ≤ 1000 := nt_small
  have h4 : c < gn M + 2 := by
    rcases hv with hv | hv
    · have h5 := (h.2.2.2.2 hv).1
      omega
    · exact hv
  exact ⟨h1, h4, by omega, ws_get h1 h4 (by omega), rv_pos (by omega)⟩
theorem hok.at {g : ax_G} {ly : Bool} {M : ax_M} {H : Heap} {c K : Nat} (h : hok g ly M H) (hk : kd c = K) (hK : K ≠ 999) (hv : live ly M c) : va_at (gD g) classes (am g c, ent g M c) H := by
  obtain ⟨-, -, -, h5, -⟩ := h.cell hk hK hv
  exact h.1 _ _ h5
/-- behind a store in one cell -/
theorem hok.put {g : ax_G} {ly : Bool} {M M' : ax_M} {H H1 : Heap} {c K : Nat} (h : hok g ly M H) (hk : kd c = K) (hK : K ≠ 999) (hv : live ly M c) (hn : gn M' = gn M) (ho : ∀ a, a ≠ c → ent g M' a = ent g M a)
    (hz : ∀ a k, a ≠ c → gI M' a k = gI M a k ∧ gJ M' a k = gJ M a k ∧ gA M' a k = gA M a k) (hlay : ly = true → Lay M → Lay M') (hat : va_at (gD g) classes (am g c, ent g M' c) H1) (hs : H1.size = H.size) (oq : ∀ q, q ≠ am g c → H1[q]? = H[q]?) : hok g ly M' H1 := by
  obtain ⟨h1, h2, h3, h4, -⟩ := h.cell hk hK hv
  refine ⟨?_, by rw [hs, hn]; exact h.2.1, by rw [hn]; exact h.2.2.1, fun a k ha => ?_, fun q => ?_⟩
  · have h5 := va_P.set h.1 (ws_D g M) h4 hat oq
    rw [ws_set h1 h2 h3 hn ho] at h5
    exact h5
  · rw [hn] at ha
    obtain ⟨z1, z2, z3⟩ := hz a k (by omega)
    obtain ⟨y1, y2, y3⟩ := h.2.2.2.1 a k ha
    exact ⟨z1.trans y1, z2.trans y2, z3.trans y3⟩
  · obtain ⟨q1, q2⟩ := h.2.2.2.2 q
    exact ⟨hn.trans q1, hlay q q2⟩
section AXF
variable {l : Launch} {g : ax_G} {ly : Bool} {Y : ax_Y} {d : Nat} {res : ax_R} {pc : Nat} {Ls : List (Nat × ax_V)} {st : List ax_V} {M : ax_M}
theorem A_get {c idx ci k : Nat} {fin : Bool} {v : ax_V} (hd : codeAt Y pc = some (.getfield idx, 3)) (hf : fldOK (yn Y).cls idx ci k fin) (hk : kd c = ci) (hv : live ly M c) (hval : fv g M c k = cv g v) (K : AW l g ly Y d res (pc + 3) Ls (v :: st) M) : AW l g ly Y d res pc Ls (vA c :: st) M := by
  intro p e R s m args below meth c0 Q n0 kc ks F hR hN hret H locs ls hH hS hl
  obtain ⟨C, T, N, ⟨k1, k2, k3, k4, k5, k6⟩, hkN, hC, -, hlk⟩ := hf
  obtain ⟨-, -, -, he, hr⟩ := hH.cell hk (by omega) hv
  rw [ent_obj hk k5, k6 c hk] at he
  rw [List.map_cons, cv_A, hr]
  have hs := F.2.2.2.2.2.1
  have h9 := (K p e R s m args below meth c0 Q n0 kc ks F hR hN hret H locs ls hH hS hl)
  rw [List.map_cons, ← hval] at h9
  rcases hlk with hlk | ⟨host, hlk⟩
  · exact va_get F.1 F.2.1 F.2.2.2.2.1 k2 F.2.2.2.1 hs.1 hH.1 (c - 2) he k1 k hkN (F.2.2.2.2.1 _ hlk) (by rw [hC]; exact fun _ h => h) (fs_at hkN) (cd hd F.2.2.2.2.2.2.2) h9
  · exact va_getN F.1 F.2.1 F.2.2.2.2.1 k2 F.2.2.2.1 hs.1 hH.1 (c - 2) he k1 k hkN (va_Nw.use rfl (hs.2.1 _ hlk)) (by rw [hC]; exact fun _ h => h) (fs_at hkN) (cd hd F.2.2.2.2.2.2.2) h9
theorem A_getI {c idx ci k : Nat} {fin : Bool} (hd : codeAt Y pc = some (.getfield idx, 3)) (hf : fldOK (yn Y).cls idx ci k fin) (ht : FTC ci k = 0) (hk : kd c = ci) (hv : live ly M c) (K : AW l g ly Y d res (pc + 3) Ls (vI (gI M c k) :: st) M) : AW l g ly Y d res pc Ls (vA c :: st) M :=
  A_get hd hf hk hv (by unfold fv; rw [hk, ht]; rfl) K
theorem A_getJ {c idx ci k : Nat} {fin : Bool} (hd : codeAt Y pc = some (.getfield idx, 3)) (hf : fldOK (yn Y).cls idx ci k fin) (ht : FTC ci k = 1) (hk : kd c = ci) (hv : live ly M c) (K : AW l g ly Y d res (pc + 3) Ls (vJ (gJ M c k) :: st) M) : AW l g ly Y d res pc Ls (vA c :: st) M :=
  A_get hd hf hk hv (by unfold fv; rw [hk, ht]; rfl) K
theorem A_getA {c idx ci k : Nat} {fin : Bool} (hd : codeAt Y pc = some (.getfield idx, 3)) (hf : fldOK (yn Y).cls idx ci k fin) (ht : FTC ci k = 2) (hk : kd c = ci) (hv : live ly M c) (K : AW l g ly Y d res (pc + 3) Ls (vA (gA M c k) :: st) M) : AW l g ly Y d res pc Ls (vA c :: st) M :=
  A_get hd hf hk hv (by unfold fv; rw [hk, ht]; rfl) K
theorem A_lay {P : ax_M → Prop} (h : Lay M → AW l g true Y d res pc Ls st M) : AW l g true Y d res pc Ls st M := by
  intro p e R s m args below meth c Q n0 kc ks F hR hN hret H locs ls hH hS hl
  exact h (hH.2.2.2.2 rfl).2 p e R s m args below meth c Q n0 kc ks F hR hN hret H locs ls hH hS hl
/-- a reference that the constructors left -/
theorem A_getL {c idx ci k r : Nat} {fin : Bool} (hd : codeAt Y pc = some (.getfield idx, 3)) (hf : fldOK (yn Y).cls idx ci k fin) (ht : FTC ci k = 2) (hk : kd c = ci) (hy : LYS ci k = true) (hr : LYO ci k c = r) (K : AW l g true Y d res (pc + 3) Ls (vA r :: st) M) : AW l g true Y d res pc Ls (vA c :: st) M := by
  refine A_lay (P := fun _ => True) fun hL => ?_
  refine A_getA hd hf ht hk (Or.inl rfl) ?_
  obtain ⟨C, T, N, ⟨k1, k2, k3, k4, k5, k6⟩, hkN, -⟩ := hf
  have h1 := hL c k (kd_lt hk (by omega)).2 (by rw [k6 c hk]; exact hkN) (by rw [hk]; exact hy)
  rw [hk, hr] at h1
  rw [h1]
  exact K

/-- a store in a field -/
theorem A_put {c idx ci k : Nat} {v : ax_V} {M' : ax_M} (hd : codeAt Y pc = some (.putfield idx, 3)) (hf : fldOK (yn Y).cls idx ci k false ∨ (fldFin (yn Y).cls idx ci k ∧ (yn Y).name = "<init>")) (hk : kd c = ci) (hv : live ly M c) (hty : narrow (FTY ci k) (cv g v) = cv g v ∧ fits (FTY ci k) (cv g v) = true)
    (hn : gn M' = gn M) (hz : ∀ a j, a ≠ c → gI M' a j = gI M a j ∧ gJ M' a j = gJ M a j ∧ gA M' a j = gA M a j) (hlay : ly = true → Lay M → Lay M') (hval : fv g M' c k = cv g v) (hoth : ∀ j, j ≠ k → fv g M' c j = fv g M c j)
    (K : AW l g ly Y d res (pc + 3) Ls st M') : AW l g ly Y d res pc Ls (v :: vA c :: st) M := by
  intro p e R s m args below meth c0 Q n0 kc ks F hR hN hret H locs ls hH hS hl
  have hs := F.2.2.2.2.2.1
  have hts := F.2.2.2.2.1
  have hown := F.2.2.2.1
  have hf2 : ∃ (C : String) (T : u_T) (N : Nat), clsOK ci C T N ∧ k < N ∧ (T k).1 = C ∧ (((T k).2.2.2 = false ∧ (Cond.fieldLink (yn Y).cls idx C (T k).2.1 (T k).2.2.1 ∈ WG ∨ ∃ host, Cond.fieldLinkNest (yn Y).cls idx C (T k).2.1 (T k).2.2.1 host ∈ NW)) ∨ ((T k).2.2.2 = true ∧ C = (yn Y).cls ∧ Cond.fieldLink (yn Y).cls idx C (T k).2.1 (T k).2.2.1 ∈ WG ∧ (yn Y).name = "<init>")) := by
    rcases hf with ⟨C, T, N, h1, h2, h3, h4, h5⟩ | ⟨⟨T, N, h1, h2, h3, h4, h5⟩, h6⟩
    · exact ⟨C, T, N, h1, h2, h3, Or.inl ⟨h4, h5⟩⟩
    · exact ⟨_, T, N, h1, h2, h3, Or.inr ⟨h4, rfl, h5, h6⟩⟩
  obtain ⟨C, T, N, ⟨k1, k2, k3, k4, k5, k6⟩, hkN, hC, hcase⟩ := hf2
  obtain ⟨-, -, -, he, hr⟩ := hH.cell hk (by omega) hv
  have he0 := hH.at hk (by omega) hv
  have hAc : ax_A g (am g c) := (ws_D g M).2 (c - 2) (am g c, ent g M c) he
  rw [List.map_cons, List.map_cons, cv_A, hr]
  rw [ent_obj hk k5, k6 c hk] at he0
  have hap := va_apart (own := (yn Y).cls) hts k2 (FTY ci) k3 k4 hs.1 k1
  obtain ⟨r, h1, cell, q1, q2, q3, q4⟩ := he0
  have hr2 : r = (C, T, N) := Option.some.inj (h1.symm.trans k1)
  subst hr2
  obtain ⟨hSl, hfc, kC, hkC, hkind⟩ := hs.1.1 ci _ k1
  obtain ⟨cf, kf, fi, f, hi, hsl⟩ := hSl k hkN
  have hlay2 := hts _ (k2 _ (u_in_lay hkN))
  have hst := (u_facts hfc hkC (u_lays hts k2 hkN) hi).1
  have hgo : ∀ H' : Heap, H'[am g c]? = some (cell.setSlot f.slot (cv g v)) → H'.size = H.size → (∀ q, q ≠ am g c → H'[q]? = H[q]?) → W p l e R s m args below meth c0 H' (locs ++ [⟨am g c, f.slot⟩]) (kc + al ly n0 (gn M)) (ks + al ly (SZ n0) (SZ (gn M))) Q (F0 m (pc + 3) ls (st.map (cv g))) := by
    intro H' e1 e2 e3
    rw [hsl] at e1 ⊢
    have hk9 := K p e R s m args below meth c0 Q n0 kc ks F hR (by rw [hn]; exact hN) hret H' (locs ++ [⟨am g c, (gD g).2 ci k⟩]) ls ?_ (hS.put e2 e3 ((ws_D g M).2 _ _ he)) hl
    · rw [hn] at hk9
      exact hk9
    · refine hH.put hk (by omega) hv hn (fun a ha => ent_other (fun j => (hz a j ha).1) (fun j => (hz a j ha).2.1) (fun j => (hz a j ha).2.2)) hz hlay ?_ e2 e3
      rw [ent_obj hk k5, k6 c hk, ← fs_set hkN hval hoth]
      exact ⟨_, k1, t_OB.to (V := updV (vp_V ((List.range N).map (fv g M c))) k (cv g v)) ⟨_, e1, q2, q3, t_set q4 hap hkN (cv g v)⟩ (fun j _ => vp_updV_set (by simpa using hkN) (cv g v) j)⟩
  unfold u_lay at hlay2
  rcases hcase with ⟨hfin, hlk⟩ | ⟨hfin, hCo, hlk, hini⟩
  · rw [if_neg (by rw [hfin]; decide)] at hlay2
    have h6 := u_store hfc hkC hkind hlay2 hi (k3 k hkN) hty.1 hty.2
    rw [hC] at hi
    rcases hlk with hlk | ⟨host, hlk⟩
    · exact W.putK F.1 F.2.1 (f := f) ⟨hown, hts _ hlk, ⟨_, _, _, hi⟩, hst⟩ (by rw [q2]; exact h6) q1 q3 (by rw [hsl]; exact k2_hasslot (q4 k hkN)) rfl rfl (cd hd F.2.2.2.2.2.2.2) hgo
    · exact va_WputK F.1 F.2.1 (f := f) hown (va_Nw.use rfl (hs.2.1 _ hlk)) hi hst (by rw [q2]; exact h6) q1 q3 (by rw [hsl]; exact k2_hasslot (q4 k hkN)) rfl rfl (cd hd F.2.2.2.2.2.2.2) hgo
  · rw [if_pos hfin] at hlay2
    have hcf : m.cls = cf := by
      obtain ⟨_, _, c', _, _, _, -, -, hf', -, -, -, hown2, -⟩ := Cond.laysFinal_spec hlay2
      have e1 : c' = cf := by have := hi.symm.trans hf'; simp at this; exact this.1.symm
      rw [hC, hCo] at hown2
      rw [← e1]; exact Option.some.inj (hown.symm.trans hown2)
    have h6 := u_fits hfc hkC hkind (Or.inr hlay2) hi (k3 k hkN) hty.1 hty.2
    rw [hC] at hi
    exact W.putFinK F.1 F.2.1 hown (hts _ hlk) hi hst hcf (F.2.2.2.2.2.2.1.trans hini) (by rw [q2]; exact h6) q1 q3 (by rw [hsl]; exact k2_hasslot (q4 k hkN)) rfl rfl (cd hd F.2.2.2.2.2.2.2) hgo
theorem fv_I {g : ax_G} {M : ax_M} {c k ci : Nat} (hk : kd c = ci) (ht : FTC ci k = 0) : fv g M c k = .int (gI M c k) := by unfold fv; rw [hk, ht]; rfl
theorem fv_J {g : ax_G} {M : ax_M} {c k ci : Nat} (hk : kd c = ci) (ht : FTC ci k = 1) : fv g M c k = .long (gJ M c k) := by unfold fv; rw [hk, ht]; rfl
theorem fv_A {g : ax_G} {M : ax_M} {c k ci : Nat} (hk : kd c = ci) (ht : FTC ci k = 2) : fv g M c k = rv g (gA M c k) := by unfold fv; rw [hk, ht]; rfl
theorem fv_mI {g : ax_G} {M : ax_M} {c k j : Nat} {x : Int32} (h : j ≠ k) : fv g (mI M c k x) c j = fv g M c j := by
  unfold fv
  rw [gI_mI, gJ_mI, gA_mI, if_neg (show ¬ (c = c ∧ j = k) from fun q => h q.2)]
theorem fv_mJ {g : ax_G} {M : ax_M} {c k j : Nat} {x : Int64} (h : j ≠ k) : fv g (mJ M c k x) c j = fv g M c j := by
  unfold fv
  rw [gI_mJ, gJ_mJ, gA_mJ, if_neg (show ¬ (c = c ∧ j = k) from fun q => h q.2)]
theorem fv_mA {g : ax_G} {M : ax_M} {c k j : Nat} {x : Nat} (h : j ≠ k) : fv g (mA M c k x) c j = fv g M c j := by
  unfold fv
  rw [gI_mA, gJ_mA, gA_mA, if_neg (show ¬ (c = c ∧ j = k) from fun q => h q.2)]
theorem A_putI {c idx ci k : Nat} {x : Int32} (hd : codeAt Y pc = some (.putfield idx, 3)) (hf : fldOK (yn Y).cls idx ci k false ∨ (fldFin (yn Y).cls idx ci k ∧ (yn Y).name = "<init>")) (ht : FTC ci k = 0) (hk : kd c = ci) (hv : live ly M c) (hty : FTY ci k = .int) (K : AW l g ly Y d res (pc + 3) Ls st (mI M c k x)) : AW l g ly Y d res pc Ls (vI x :: vA c :: st) M :=
  A_put (M' := mI M c k x) hd hf hk hv (by rw [hty]; exact ⟨rfl, rfl⟩) rfl (fun a j ha => ⟨by rw [gI_mI, if_neg (fun q => ha q.1)], rfl, rfl⟩) (fun _ h => h) (by rw [fv_I hk ht, gI_mI, if_pos ⟨rfl, rfl⟩]; rfl) (fun j hj => fv_mI hj) K
theorem A_putZ {c idx ci k : Nat} {x : Int32} (hd : codeAt Y pc = some (.putfield idx, 3)) (hf : fldOK (yn Y).cls idx ci k false ∨ (fldFin (yn Y).cls idx ci k ∧ (yn Y).name = "<init>")) (ht : FTC ci k = 0) (hk : kd c = ci) (hv : live ly M c) (hty : FTY ci k = .boolean) (hx : x = 0 ∨ x = 1) (K : AW l g ly Y d res (pc + 3) Ls st (mI M c k x)) : AW l g ly Y d res pc Ls (vI x :: vA c :: st) M :=
  A_put (M' := mI M c k x) hd hf hk hv (by rw [hty]; rcases hx with rfl | rfl <;> exact ⟨rfl, rfl⟩) rfl (fun a j ha => ⟨by rw [gI_mI, if_neg (fun q => ha q.1)], rfl, rfl⟩) (fun _ h => h) (by rw [fv_I hk ht, gI_mI, if_pos ⟨rfl, rfl⟩]; rfl) (fun j hj => fv_mI hj) K
theorem A_putJ {c idx ci k : Nat} {x : Int64} (hd : codeAt Y pc = some (.putfield idx, 3)) (hf : fldOK (yn Y).cls idx ci k false ∨ (fldFin (yn Y).cls idx ci k ∧ (yn Y).name = "<init>")) (ht : FTC ci k = 1) (hk : kd c = ci) (hv : live ly M c) (hty : FTY ci k = .long) (K : AW l g ly Y d res (pc + 3) Ls st (mJ M c k x)) : AW l g ly Y d res pc Ls (vJ x :: vA c :: st) M :=
  A_put (M' := mJ M c k x) hd hf hk hv (by rw [hty]; exact ⟨rfl, rfl⟩) rfl (fun a j ha => ⟨rfl, by rw [gJ_mJ, if_neg (fun q => ha q.1)], rfl⟩) (fun _ h => h) (by rw [fv_J hk ht, gJ_mJ, if_pos ⟨rfl, rfl⟩]; rfl) (fun j hj => fv_mJ hj) K
def isRefT (t : FieldType) : Bool := match t with
  | .object _ => true
  | .array _ => true
  | _ => false
theorem rv_fits {g : ax_G} {t : FieldType} (h : isRefT t = true) (r : Nat) : narrow t (rv g r) = rv g r ∧ fits t (rv g r) = true := by
  unfold rv
  cases t <;> first | (exact absurd h (by decide)) | (split <;> exact ⟨rfl, rfl⟩)
theorem A_putA {c idx ci k r : Nat} (hd : codeAt Y pc = some (.putfield idx, 3)) (hf : fldOK (yn Y).cls idx ci k false ∨ (fldFin (yn Y).cls idx ci k ∧ (yn Y).name = "<init>")) (ht : FTC ci k = 2) (hk : kd c = ci) (hv : live ly M c) (hty : isRefT (FTY ci k) = true) (hly : ly = false ∨ LYS ci k = false) (K : AW l g ly Y d res (pc + 3) Ls st (mA M c k r)) : AW l g ly Y d res pc Ls (vA r :: vA c :: st) M := by
  refine A_put (M' := mA M c k r) hd hf hk hv (rv_fits hty r) rfl (fun a j ha => ⟨rfl, rfl, by rw [gA_mA, if_neg (fun q => ha q.1)]⟩) (fun hl hL => ?_) (by rw [fv_A hk ht, gA_mA, if_pos ⟨rfl, rfl⟩]; rfl) (fun j hj => fv_mA hj) K
  rcases hly with hly | hly
  · rw [hl] at hly
    cases hly
  · intro a j h1 h2 h3
    rw [gA_mA]
    split
    next h4 =>
      rw [h4.1, h4.2, hk, hly] at h3
      cases h3
    next => exact hL a j h1 h2 h3
/-! arrays: kind 100 + t -/
theorem tys_at {g : ax_G} {t : Nat} (h : t < ATS.length) : (tysOf g)[t]? = some (gdA g t, ATS.getD t .int) := by
  unfold tysOf
  rw [List.getElem?_map, List.getElem?_range h]
  rfl
theorem cont_I {g : ax_G} {M : ax_M} {c : Nat} (h : kd c = 100 ∨ kd c = 102 ∨ kd c = 103) : cont g M c = .inl (gI M c) := by
  unfold cont
  rcases h with h | h | h <;> (rw [h]; rfl)
theorem cont_J {g : ax_G} {M : ax_M} {c : Nat} (h : kd c = 101) : cont g M c = .inr (.inl (gJ M c)) := by
  unfold cont
  rw [h]
  rfl
theorem cont_A {g : ax_G} {M : ax_M} {c t : Nat} (h : kd c = 100 + t) (ht : 4 ≤ t) : cont g M c = .inr (.inr (.inr (.inr (fun k => ro g (gA M c k))))) := by
  unfold cont
  rw [h, if_neg (by omega), if_neg (by omega)]
theorem A_iald {c n : Nat} {i : Int32} (hd : codeAt Y pc = some (.iaload, 1)) (hk : kd c = 100) (hn : ln c = n) (hv : live ly M c) (hi : vp_in i n) (K : AW l g ly Y d res (pc + 1) Ls (vI (gI M c i.toNatClampNeg) :: st) M) : AW l g ly Y d res pc Ls (vI i :: vA c :: st) M := by
  intro p e R s m args below meth c0 Q n0 kc ks F hR hN hret H locs ls hH hS hl
  obtain ⟨-, -, -, he, hr⟩ := hH.cell hk (by omega) hv
  rw [ent_arr (t := 0) hk, cont_I (by simp [hk]), hn] at he
  rw [List.map_cons, List.map_cons, cv_A, hr]
  exact va_iald F.1 F.2.1 F.2.2.2.2.2.1.1 hH.1 (c - 2) 0 he ((tys_at (by decide)).trans rfl) hi (cd hd F.2.2.2.2.2.2.2) (K p e R s m args below meth c0 Q n0 kc ks F hR hN hret H locs ls hH hS hl)
theorem A_cald {c n : Nat} {i : Int32} (hd : codeAt Y pc = some (.caload, 1)) (hk : kd c = 102) (hn : ln c = n) (hv : live ly M c) (hi : vp_in i n) (K : AW l g ly Y d res (pc + 1) Ls (vI (gI M c i.toNatClampNeg) :: st) M) : AW l g ly Y d res pc Ls (vI i :: vA c :: st) M := by
  intro p e R s m args below meth c0 Q n0 kc ks F hR hN hret H locs ls hH hS hl
  obtain ⟨-, -, -, he, hr⟩ := hH.cell hk (by omega) hv
  rw [ent_arr (t := 2) hk, cont_I (by simp [hk]), hn] at he
  rw [List.map_cons, List.map_cons, cv_A, hr]
  exact va_cald F.1 F.2.1 F.2.2.2.2.2.1.1 hH.1 (c - 2) 2 he ((tys_at (by decide)).trans rfl) hi (cd hd F.2.2.2.2.2.2.2) (K p e R s m args below meth c0 Q n0 kc ks F hR hN hret H locs ls hH hS hl)
theorem A_zald {c n : Nat} {i : Int32} (hd : codeAt Y pc = some (.baload, 1)) (hk : kd c = 103) (hn : ln c = n) (hv : live ly M c) (hi : vp_in i n) (K : AW l g ly Y d res (pc + 1) Ls (vI (gI M c i.toNatClampNeg) :: st) M) : AW l g ly Y d res pc Ls (vI i :: vA c :: st) M := by
  intro p e R s m args below meth c0 Q n0 kc ks F hR hN hret H locs ls hH hS hl
  obtain ⟨-, -, -, he, hr⟩ := hH.cell hk (by omega) hv
  rw [ent_arr (t := 3) hk, cont_I (by simp [hk]), hn] at he
  rw [List.map_cons, List.map_cons, cv_A, hr]
  exact va_zald F.1 F.2.1 F.2.2.2.2.2.1.1 hH.1 (c - 2) 3 he ((tys_at (by decide)).trans rfl) hi (cd hd F.2.2.2.2.2.2.2) (K p e R s m args below meth c0 Q n0 kc ks F hR hN hret H locs ls hH hS hl)
theorem A_lald {c n : Nat} {i : Int32} (hd : codeAt Y pc = some (.laload, 1)) (hk : kd c = 101) (hn : ln c = n) (hv : live ly M c) (hi : vp_in i n) (K : AW l g ly Y d res (pc + 1) Ls (vJ (gJ M c i.toNatClampNeg) :: st) M) : AW l g ly Y d res pc Ls (vI i :: vA c :: st) M := by
  intro p e R s m args below meth c0 Q n0 kc ks F hR hN hret H locs ls hH hS hl
  obtain ⟨-, -, -, he, hr⟩ := hH.cell hk (by omega) hv
  rw [ent_arr (t := 1) hk, cont_J hk, hn] at he
  rw [List.map_cons, List.map_cons, cv_A, hr]
  exact va_lald F.1 F.2.1 F.2.2.2.2.2.1.1 hH.1 (c - 2) 1 he ((tys_at (by decide)).trans rfl) hi (cd hd F.2.2.2.2.2.2.2) (K p e R s m args below meth c0 Q n0 kc ks F hR hN hret H locs ls hH hS hl)
theorem A_aald {c n t : Nat} {i : Int32} {C : String} (hd : codeAt Y pc = some (.aaload, 1)) (hk : kd c = 100 + t) (ht : 4 ≤ t ∧ t < ATS.length ∧ ATS.getD t .int = .object C) (hn : ln c = n) (hv : live ly M c) (hi : vp_in i n) (K : AW l g ly Y d res (pc + 1) Ls (vA (gA M c i.toNatClampNeg) :: st) M) : AW l g ly Y d res pc Ls (vI i :: vA c :: st) M := by
  intro p e R s m args below meth c0 Q n0 kc ks F hR hN hret H locs ls hH hS hl
  have h9 : ATS.length < 800 := ats_small
  obtain ⟨-, -, -, he, hr⟩ := hH.cell hk (by omega) hv
  rw [ent_arr hk, cont_A hk ht.1, hn] at he
  rw [List.map_cons, List.map_cons, cv_A, hr]
  have h8 := (K p e R s m args below meth c0 Q n0 kc ks F hR hN hret H locs ls hH hS hl)
  rw [List.map_cons, cv_A, ← rv_ro] at h8
  exact va_aldq (C := C) F.1 F.2.1 F.2.2.2.2.2.1.1 hH.1 (c - 2) t he ((tys_at ht.2.1).trans (by rw [ht.2.2])) hi (cd hd F.2.2.2.2.2.2.2) h8
theorem A_aldL {c n t r : Nat} {i : Int32} {C : String} (hd : codeAt Y pc = some (.aaload, 1)) (hk : kd c = 100 + t) (ht : 4 ≤ t ∧ t < ATS.length ∧ ATS.getD t .int = .object C) (hn : ln c = n) (hi : vp_in i n) (hy : LYS (100 + t) i.toNatClampNeg = true) (hr : LYO (100 + t) i.toNatClampNeg c = r) (K : AW l g true Y d res (pc + 1) Ls (vA r :: st) M) : AW l g true Y d res pc Ls (vI i :: vA c :: st) M := by
  refine A_lay (P := fun _ => True) fun hL => ?_
  refine A_aald hd hk ht hn (Or.inl rfl) hi ?_
  have h9 : ATS.length < 800 := ats_small
  have h1 := hL c i.toNatClampNeg (kd_lt hk (by omega)).2 (by rw [hn]; exact Nat.not_le.mp fun q => hi (Or.inr q)) (by rw [hk]; exact hy)
  rw [hk, hr] at h1
  rw [h1]
  exact K
theorem A_iast {c n : Nat} {i : Int32} {x : Int32} (hd : codeAt Y pc = some (.iastore, 1)) (hk : kd c = 100) (hn : ln c = n) (hv : live ly M c) (hi : vp_in i n) (K : AW l g ly Y d res (pc + 1) Ls st (mI M c i.toNatClampNeg x)) : AW l g ly Y d res pc Ls (vI x :: vI i :: vA c :: st) M := by
  intro p e R s m args below meth c0 Q n0 kc ks F hR hN hret H locs ls hH hS hl
  obtain ⟨-, -, -, he, hr⟩ := hH.cell hk (by omega) hv
  have he0 := hH.at hk (by omega) hv
  have hAc : ax_A g (am g c) := (ws_D g M).2 (c - 2) (am g c, ent g M c) he
  rw [ent_arr (t := 0) hk, cont_I (by simp [hk]), hn] at he0
  rw [List.map_cons, List.map_cons, List.map_cons, cv_A, hr]
  refine W.iast F.1 F.2.1 he0 ((F.2.2.2.2.2.1.1.2 0 _ (tys_at (by decide))).1 n (fun j => .int (gI M c j))) (fun q => by cases q) (by show ¬ (i < 0 ∨ (arrV _ _ _).slots.size ≤ _); rw [arrV_size]; exact hi) rfl rfl (cd hd F.2.2.2.2.2.2.2) fun H1 e1 z oq => ?_
  refine K p e R s m args below meth c0 Q n0 kc ks F hR hN hret H1 _ ls ?_ (hS.put z oq hAc) hl
  refine hH.put hk (by omega) hv rfl (fun a ha => ent_mI ha) (fun a j ha => ⟨by rw [gI_mI, if_neg (fun q => ha q.1)], rfl, rfl⟩) (fun _ h => h) ?_ z oq
  rw [ent_arr (t := 0) hk, cont_I (by simp [hk]), hn]
  show H1[am g c]? = some (vp_cell _ _)
  rw [e1, vp_cell_i, vp_cell_i, arrV_store]
  congr 2
  funext q
  show updV (fun j => .int (gI M c j)) i.toNatClampNeg (.int x) q = .int (gI (mI M c i.toNatClampNeg x) c q)
  rw [gI_mI]
  unfold updV
  by_cases hq : q = i.toNatClampNeg
  · rw [if_pos hq, if_pos ⟨rfl, hq⟩]
  · rw [if_neg hq, if_neg (fun z => hq z.2)]
theorem A_cast {c n : Nat} {i : Int32} {x : Int32} (hd : codeAt Y pc = some (.castore, 1)) (hk : kd c = 102) (hn : ln c = n) (hv : live ly M c) (hi : vp_in i n) (hx : narrow .char (.int x) = .int x) (K : AW l g ly Y d res (pc + 1) Ls st (mI M c i.toNatClampNeg x)) : AW l g ly Y d res pc Ls (vI x :: vI i :: vA c :: st) M := by
  intro p e R s m args below meth c0 Q n0 kc ks F hR hN hret H locs ls hH hS hl
  obtain ⟨-, -, -, he, hr⟩ := hH.cell hk (by omega) hv
  have he0 := hH.at hk (by omega) hv
  have hAc : ax_A g (am g c) := (ws_D g M).2 (c - 2) (am g c, ent g M c) he
  rw [ent_arr (t := 2) hk, cont_I (by simp [hk]), hn] at he0
  rw [List.map_cons, List.map_cons, List.map_cons, cv_A, hr]
  refine W.cast F.1 F.2.1 he0 ((F.2.2.2.2.2.1.1.2 2 _ (tys_at (by decide))).1 n (fun j => .int (gI M c j))) (fun q => by cases q) (by show ¬ (i < 0 ∨ (arrV _ _ _).slots.size ≤ _); rw [arrV_size]; exact hi) rfl rfl (cd hd F.2.2.2.2.2.2.2) fun H1 e1 z oq => ?_
  rw [hx] at e1
  refine K p e R s m args below meth c0 Q n0 kc ks F hR hN hret H1 _ ls ?_ (hS.put z oq hAc) hl
  refine hH.put hk (by omega) hv rfl (fun a ha => ent_mI ha) (fun a j ha => ⟨by rw [gI_mI, if_neg (fun q => ha q.1)], rfl, rfl⟩) (fun _ h => h) ?_ z oq
  rw [ent_arr (t := 2) hk, cont_I (by simp [hk]), hn]
  show H1[am g c]? = some (vp_cell _ _)
  rw [e1, vp_cell_i, vp_cell_i, arrV_store]
  congr 2
  funext q
  show updV (fun j => .int (gI M c j)) i.toNatClampNeg (.int x) q = .int (gI (mI M c i.toNatClampNeg x) c q)
  rw [gI_mI]
  unfold updV
  by_cases hq : q = i.toNatClampNeg
  · rw [if_pos hq, if_pos ⟨rfl, hq⟩]
  · rw [if_neg hq, if_neg (fun z => hq z.2)]
theorem A_zast {c n : Nat} {i : Int32} {x : Int32} (hd : codeAt Y pc = some (.bastore, 1)) (hk : kd c = 103) (hn : ln c = n) (hv : live ly M c) (hi : vp_in i n) (hx : narrow .boolean (.int x) = .int x) (K : AW l g ly Y d res (pc + 1) Ls st (mI M c i.toNatClampNeg x)) : AW l g ly Y d res pc Ls (vI x :: vI i :: vA c :: st) M := by
  intro p e R s m args below meth c0 Q n0 kc ks F hR hN hret H locs ls hH hS hl
  obtain ⟨-, -, -, he, hr⟩ := hH.cell hk (by omega) hv
  have he0 := hH.at hk (by omega) hv
  have hAc : ax_A g (am g c) := (ws_D g M).2 (c - 2) (am g c, ent g M c) he
  rw [ent_arr (t := 3) hk, cont_I (by simp [hk]), hn] at he0
  rw [List.map_cons, List.map_cons, List.map_cons, cv_A, hr]
  refine W.zast F.1 F.2.1 he0 ((F.2.2.2.2.2.1.1.2 3 _ (tys_at (by decide))).1 n (fun j => .int (gI M c j))) (fun q => by cases q) (by show ¬ (i < 0 ∨ (arrV _ _ _).slots.size ≤ _); rw [arrV_size]; exact hi) rfl rfl (cd hd F.2.2.2.2.2.2.2) fun H1 e1 z oq => ?_
  rw [hx] at e1
  refine K p e R s m args below meth c0 Q n0 kc ks F hR hN hret H1 _ ls ?_ (hS.put z oq hAc) hl
  refine hH.put hk (by omega) hv rfl (fun a ha => ent_mI ha) (fun a j ha => ⟨by rw [gI_mI, if_neg (fun q => ha q.1)], rfl, rfl⟩) (fun _ h => h) ?_ z oq
  rw [ent_arr (t := 3) hk, cont_I (by simp [hk]), hn]
  show H1[am g c]? = some (vp_cell _ _)
  rw [e1, vp_cell_i, vp_cell_i, arrV_store]
  congr 2
  funext q
  show updV (fun j => .int (gI M c j)) i.toNatClampNeg (.int x) q = .int (gI (mI M c i.toNatClampNeg x) c q)
  rw [gI_mI]
  unfold updV
  by_cases hq : q = i.toNatClampNeg
  · rw [if_pos hq, if_pos ⟨rfl, hq⟩]
  · rw [if_neg hq, if_neg (fun z => hq z.2)]
theorem A_last {c n : Nat} {i : Int32} {x : Int64} (hd : codeAt Y pc = some (.lastore, 1)) (hk : kd c = 101) (hn : ln c = n) (hv : live ly M c) (hi : vp_in i n) (K : AW l g ly Y d res (pc + 1) Ls st (mJ M c i.toNatClampNeg x)) : AW l g ly Y d res pc Ls (vJ x :: vI i :: vA c :: st) M := by
  intro p e R s m args below meth c0 Q n0 kc ks F hR hN hret H locs ls hH hS hl
  obtain ⟨-, -, -, he, hr⟩ := hH.cell hk (by omega) hv
  have he0 := hH.at hk (by omega) hv
  have hAc : ax_A g (am g c) := (ws_D g M).2 (c - 2) (am g c, ent g M c) he
  rw [ent_arr (t := 1) hk, cont_J hk, hn] at he0
  rw [List.map_cons, List.map_cons, List.map_cons, cv_A, hr]
  refine W.last F.1 F.2.1 he0 ((F.2.2.2.2.2.1.1.2 1 _ (tys_at (by decide))).1 n (fun j => .long (gJ M c j))) (fun q => by cases q) (by show ¬ (i < 0 ∨ (arrV _ _ _).slots.size ≤ _); rw [arrV_size]; exact hi) rfl rfl (cd hd F.2.2.2.2.2.2.2) fun H1 e1 z oq => ?_
  refine K p e R s m args below meth c0 Q n0 kc ks F hR hN hret H1 _ ls ?_ (hS.put z oq hAc) hl
  refine hH.put hk (by omega) hv rfl (fun a ha => ent_mJ ha) (fun a j ha => ⟨rfl, by rw [gJ_mJ, if_neg (fun q => ha q.1)], rfl⟩) (fun _ h => h) ?_ z oq
  rw [ent_arr (t := 1) hk, cont_J hk, hn]
  show H1[am g c]? = some (vp_cell _ _)
  rw [e1, vp_cell_l, vp_cell_l, arrV_store]
  congr 2
  funext q
  show updV (fun j => .long (gJ M c j)) i.toNatClampNeg (.long x) q = .long (gJ (mJ M c i.toNatClampNeg x) c q)
  rw [gJ_mJ]
  unfold updV
  by_cases hq : q = i.toNatClampNeg
  · rw [if_pos hq, if_pos ⟨rfl, hq⟩]
  · rw [if_neg hq, if_neg (fun z => hq z.2)]
theorem A_aast {c n t r ci : Nat} {i : Int32} {C : String} {T : u_T} {N : Nat} (hd : codeAt Y pc = some (.aastore, 1)) (hk : kd c = 100 + t) (ht : 4 ≤ t ∧ t < ATS.length ∧ ATS.getD t .int = .object C) (hn : ln c = n) (hv : live ly M c) (hi : vp_in i n) (hc : clsOK ci C T N) (hr1 : kd r = ci) (hv1 : live ly M r) (hly : ly = false ∨ ∀ j, LYS (100 + t) j = false) (K : AW l g ly Y d res (pc + 1) Ls st (mA M c i.toNatClampNeg r)) : AW l g ly Y d res pc Ls (vA r :: vI i :: vA c :: st) M := by
  intro p e R s m args below meth c0 Q n0 kc ks F hR hN hret H locs ls hH hS hl
  have h9 : ATS.length < 800 := ats_small
  obtain ⟨k1, k2, k3, k4, k5, k6⟩ := hc
  obtain ⟨-, -, -, he, hr⟩ := hH.cell hk (by omega) hv
  obtain ⟨hr2, -, -, -, hr3⟩ := hH.cell hr1 (by omega) hv1
  have he0 := hH.at hk (by omega) hv
  have hAc : ax_A g (am g c) := (ws_D g M).2 (c - 2) (am g c, ent g M c) he
  have he1 := hH.at hr1 (by omega) hv1
  have hK := F.2.2.2.2.2.1.1
  rw [ent_arr hk, cont_A hk ht.1, hn] at he0
  rw [ent_obj hr1 k5] at he1
  rw [List.map_cons, List.map_cons, List.map_cons, cv_A, cv_A, hr, hr3]
  have hlt : i.toNatClampNeg < n := Nat.not_le.mp fun q => hi (Or.inr q)
  have h0 : ¬ i < 0 := fun q => hi (Or.inl q)
  obtain ⟨r', hr', cellV, g1, g2, g3, -⟩ := he1
  have hcls := (hK.1 ci _ k1).2
  have hRA := (hK.2 t _ (tys_at ht.2.1)).2
  rw [ht.2.2] at hRA
  obtain ⟨kA, comp, j1, j2, j3, -⟩ := hRA
  have hcomp : comp = (gD g).1 ci := Option.some.inj (j3.symm.trans hcls.1)
  subst hcomp
  obtain ⟨kC, hkC, -⟩ := hcls.2
  refine W.aast F.1 F.2.1 he0 (fun q h => by cases h) (fun h => by cases h) j1 j2 rfl hkC ⟨h0, by show _ < (arrV _ _ _).slots.size; rw [arrV_size]; exact hlt⟩ g1 (fun q h => by rw [g3] at h; cases h) (by rw [g2]; exact hkC) (by rw [g2]; exact va_assign hcls) rfl rfl (cd hd F.2.2.2.2.2.2.2) fun H1 e1 z oq => ?_
  refine K p e R s m args below meth c0 Q n0 kc ks F hR hN hret H1 _ ls ?_ (hS.put z oq hAc) hl
  refine hH.put hk (by omega) hv rfl (fun a ha => ent_mA ha) (fun a j ha => ⟨rfl, rfl, by rw [gA_mA, if_neg (fun q => ha q.1)]⟩) (fun hl2 hL => ?_) ?_ z oq
  · rcases hly with hly | hly
    · rw [hl2] at hly
      cases hly
    · intro a j y1 y2 y3
      rw [gA_mA]
      split
      next y4 =>
        rw [y4.1, hk, hly] at y3
        cases y3
      next => exact hL a j y1 y2 y3
  · rw [ent_arr hk, cont_A hk ht.1, hn]
    show H1[am g c]? = some (vp_cell _ _)
    rw [e1, vp_cell_q, vp_cell_q, arrV_store]
    congr 2
    funext q
    show updV (fun j => va_rf (ro g (gA M c j))) i.toNatClampNeg (.ref (am g r)) q = va_rf (ro g (gA (mA M c i.toNatClampNeg r) c q))
    rw [gA_mA, rv_ro]
    unfold updV
    by_cases hq : q = i.toNatClampNeg
    · rw [if_pos hq, if_pos ⟨rfl, hq⟩, hr3]
    · rw [if_neg hq, if_neg (fun z => hq z.2)]
      exact rv_ro g (gA M c q)
end AXF
end
section
/-! calls -/
def mlD (Z : ax_Y) (n : Nat) : Prop := yOK Z ∧ (parseMethodDescriptor (yn Z).desc).map (fun d => d.parameters.length) = some n ∧ yl Z ≤ 41
def mlL (own : String) (idx : Nat) (Z : ax_Y) : Prop := Cond.methodLink own idx (yn Z) ∈ WG ∨ ∃ host, Cond.methodLinkNest own idx (yn Z) host ∈ NW
def mlV (own : String) (idx : Nat) (Z : ax_Y) (n : Nat) : Prop := mlD Z n ∧ mlL own idx Z ∧ Cond.instanceMethod (yn Z) ∈ WG ∧ Cond.selects (yn Z).cls (yn Z) (yn Z) ∈ WG
def mlS (own : String) (idx : Nat) (Z : ax_Y) (n : Nat) : Prop := mlD Z n ∧ mlL own idx Z ∧ Cond.static (yn Z) ∈ WG
def mlI (own : String) (idx : Nat) (Z : ax_Y) (n : Nat) : Prop := mlD Z n ∧ mlL own idx Z ∧ Cond.instanceMethod (yn Z) ∈ WG ∧ (yn Z).name = "<init>"
theorem wg_good : ∀ w ∈ WG, (w.onTables && w.keeps) = true ∨ ∃ ty, w = .arrayClass ty := by
  intro w hw
  have h := (List.mem_filter.mp hw).2
  exact wg_ok w h
theorem ax_good {Z : ax_Y} (h : yOK Z) : GoodIn WG (yw Z) := by
  intro w hw
  rcases List.mem_cons.mp hw with rfl | hw
  · exact ⟨h.2.2.1, wg_good _ h.2.2.1⟩
  · exact ⟨hw, wg_good _ hw⟩
section AXC
variable {p : Program} {l : Launch} {e : Env} {R : Room} {s : State} {m : MethodId} {args : Array Value} {below : List Frame} {meth : Method} {c : Code} {H : Heap} {locs : List Loc} {cells slots : Nat} {Q : State → Prop}
theorem ax_after {g : ax_G} {ly : Bool} {res : ax_R} {mc ms pc : Nat} {ls : Array Slot} {rest st0 : List Value} {a : Array Value} (hr : va_Run p l e R s m args below meth c H locs cells slots mc ms (F0 m pc ls st0) rest (Qx g ly res a) (ax_A g)) (hS : va_S (ax_A g) s.heap H locs)
    (kk : ∀ (H1 : Heap) (locs1 : List Loc), hok g ly res.2 H1 → va_S (ax_A g) s.heap H1 locs1 → W p l e R s m args below meth c H1 locs1 (cells + mc) (slots + ms) Q (F0 m (pc + 3) ls ((res.1.map (cv g)).toList ++ rest))) : W p l e R s m args below meth c H locs cells slots Q (F0 m pc ls st0) := by
  intro T hT X
  obtain ⟨v, st₀, t, T', L, h0, X', hL, e1, e2, ⟨hv, hh, hz, hk⟩, st⟩ := hr T hT X
  cases hv
  rw [h0] at hz hk
  obtain ⟨t2, a1, b1⟩ := kk T'.heap (locs ++ L) (by rw [e1]; exact hh) ⟨Nat.le_trans hS.1 (by rw [e1]; exact hz), fun q h1 h2 => by rw [e1, hk q (Nat.lt_of_lt_of_le h1 hS.1) h2]; exact hS.2.1 q h1 h2, fun q hq => by
    rcases List.mem_append.mp hq with h | h
    · exact hS.2.2 q h
    · exact hL q h⟩ T' rfl X'
  exact ⟨t2, st t2 a1, b1⟩
/-- a callee's start, from the caller's heap -/
theorem ax_pre {g : ax_G} {ly : Bool} {M : ax_M} {as : List Value} (hs : sok g s) (hS : va_S (ax_A g) s.heap H locs) (hH : hok g ly M H) : PreS s H (va_Pc as (fun U => sok g U ∧ hok g ly M U.heap)) as := by
  refine ⟨fun a U f mk q => ⟨q.1, q.2.1.calling, q.2.2⟩, fun U hU hW => ⟨rfl, ?_, by rw [hU]; exact hH⟩⟩
  refine hs.warm hW (by rw [hU]; exact Nat.le_trans hs.2.2.2.2.2.1 hS.1) (fun q hq => ?_)
  rw [hU]
  exact hS.2.1 q (Nat.lt_of_lt_of_le hq hs.2.2.2.2.2.1) (Nat.not_le.mpr hq)
end AXC
theorem ax_cats (g : ax_G) : ∀ (st : List ax_V), ((st.map (cv g)).map fun v => v.category).sum = ax_wd st
  | [] => rfl
  | v :: vs => by
    have h := ax_cats g vs
    rw [List.map_cons, List.map_cons, List.sum_cons, h, cv_cat]
    rfl
theorem mono0 {m : MethodId} {pc : Nat} {ls : Array Slot} {st rest : List Value} (h : (rest.map fun v => v.category).sum ≤ 8) : 2 * (F0 m pc ls st).monitorRoom + (rest.map fun v => v.category).sum ≤ 8 := lv_room h
section AXD
variable {l : Launch} {g : ax_G} {ly : Bool} {Y : ax_Y} {d : Nat} {res : ax_R} {pc : Nat} {Ls : List (Nat × ax_V)} {st : List ax_V} {M : ax_M}
theorem ax_K {p : Program} {e : Env} {R : Room} {s : State} {m : MethodId} {args : Array Value} {below : List Frame} {meth : Method} {c : Code} {Q : State → Prop} {n0 kc ks : Nat} {r1 : ax_R} {st' : List ax_V} {H1 : Heap} {locs1 : List Loc} {ls : Array Slot}
    (F : ax_Fix g Y p s m args meth c) (hR : d ≤ R.frames ∧ 60 * d ≤ R.locals) (hN : (ly = true ∨ (n0 ≤ gn M ∧ gn M ≤ gn res.2)) ∧ kc + al ly n0 (gn res.2) ≤ R.cells ∧ ks + al ly (SZ n0) (SZ (gn res.2)) ≤ R.slots)
    (hret : ∀ (H' : Heap) (locs' : List Loc) (ls' : Array Slot) (pc' : Nat), (∃ i, codeAt Y pc' = some (i, 1) ∧ rtOK Y i res.1) → hok g ly res.2 H' → va_S (ax_A g) s.heap H' locs' →
      W p l e R s m args below meth c H' locs' (kc + al ly n0 (gn res.2)) (ks + al ly (SZ n0) (SZ (gn res.2))) Q (F0 m pc' ls' (res.1.map (cv g)).toList))
    (h1 : ly = true ∨ gn M ≤ gn r1.2) (h2 : ly = true ∨ gn r1.2 ≤ gn res.2) (K : AW l g ly Y d res (pc + 3) Ls (r1.1.toList ++ st') r1.2) (hH : hok g ly r1.2 H1) (hS : va_S (ax_A g) s.heap H1 locs1) (hl : lv_has ls (yl Y) (Ls.map (ax_cl g))) :
    W p l e R s m args below meth c H1 locs1 (kc + al ly n0 (gn M) + al ly (gn M) (gn r1.2)) (ks + al ly (SZ n0) (SZ (gn M)) + al ly (SZ (gn M)) (SZ (gn r1.2))) Q (F0 m (pc + 3) ls ((r1.1.map (cv g)).toList ++ st'.map (cv g))) := by
  have hm : ly = true ∨ (n0 ≤ gn M ∧ gn M ≤ gn r1.2) := by
    rcases hN.1 with h | h
    · exact Or.inl h
    · rcases h1 with h1 | h1
      · exact Or.inl h1
      · exact Or.inr ⟨h.1, h1⟩
  have hm2 : ly = true ∨ (SZ n0 ≤ SZ (gn M) ∧ SZ (gn M) ≤ SZ (gn r1.2)) := hm.imp id (fun h => ⟨SZ_mono h.1, SZ_mono h.2⟩)
  rw [Nat.add_assoc, al_add hm, Nat.add_assoc, al_add hm2]
  have h9 := K p e R s m args below meth c Q n0 kc ks F hR ⟨?_, hN.2⟩ hret H1 locs1 ls hH hS hl
  · have h8 : (r1.1.toList ++ st').map (cv g) = (r1.1.map (cv g)).toList ++ st'.map (cv g) := by
      rw [List.map_append]
      cases r1.1 <;> rfl
    rw [h8] at h9
    exact h9
  · rcases hm with h | h
    · exact Or.inl h
    · rcases h2 with h2 | h2
      · exact Or.inl h2
      · exact Or.inr ⟨Nat.le_trans h.1 h.2, h2⟩
theorem ax_room {R : Room} {n0 kc ks : Nat} {r1 : ax_R} (hN : (ly = true ∨ (n0 ≤ gn M ∧ gn M ≤ gn res.2)) ∧ kc + al ly n0 (gn res.2) ≤ R.cells ∧ ks + al ly (SZ n0) (SZ (gn res.2)) ≤ R.slots) (h1 : ly = true ∨ gn M ≤ gn r1.2) (h2 : ly = true ∨ gn r1.2 ≤ gn res.2) :
    kc + al ly n0 (gn M) + al ly (gn M) (gn r1.2) ≤ R.cells ∧ ks + al ly (SZ n0) (SZ (gn M)) + al ly (SZ (gn M)) (SZ (gn r1.2)) ≤ R.slots := by
  have hm : ly = true ∨ (n0 ≤ gn M ∧ gn M ≤ gn r1.2) := by
    rcases hN.1 with h | h
    · exact Or.inl h
    · rcases h1 with h1 | h1
      · exact Or.inl h1
      · exact Or.inr ⟨h.1, h1⟩
  have hm2 : ly = true ∨ (SZ n0 ≤ SZ (gn M) ∧ SZ (gn M) ≤ SZ (gn r1.2)) := hm.imp id (fun h => ⟨SZ_mono h.1, SZ_mono h.2⟩)
  rw [Nat.add_assoc, al_add hm, Nat.add_assoc, al_add hm2]
  have a1 : al ly n0 (gn r1.2) ≤ al ly n0 (gn res.2) := al_le h2
  have a2 : al ly (SZ n0) (SZ (gn r1.2)) ≤ al ly (SZ n0) (SZ (gn res.2)) := al_le (h2.imp id SZ_mono)
  exact ⟨by omega, by omega⟩
theorem ax_rm {R : Room} {d' : Nat} {Z : ax_Y} {a b : Nat} (hR : d ≤ R.frames ∧ 60 * d ≤ R.locals) (hd : d' + 1 ≤ d) (hy : yl Z ≤ 41) : (rmx d' a b).frames + 1 ≤ R.frames ∧ 8 + (yl Z + 11) + (rmx d' a b).locals ≤ R.locals := by
  refine ⟨?_, ?_⟩
  · show d' + 1 ≤ R.frames
    omega
  · show 8 + (yl Z + 11) + 60 * d' ≤ R.locals
    omega
theorem A_callV {idx n ci r d' N : Nat} {Z : ax_Y} {T : u_T} {as st' : List ax_V} {r1 : ax_R} (hd : codeAt Y pc = some (.invokevirtual idx, 3)) (hm : mlV (yn Y).cls idx Z n) (hc : classes[ci]? = some ((yn Z).cls, T, N)) (hci : ci < 100) (hk : kd r = ci) (hv : live ly M r) (hlen : as.length = n) (hst : st = as.reverse ++ vA r :: st') (hcat : ax_wd st' ≤ 8) (hd' : d' + 1 ≤ d)
    (hC : Ctr l g ly Z d' (vA r :: as) M r1) (hge : ly = true ∨ gn r1.2 ≤ gn res.2) (K : AW l g ly Y d res (pc + 3) Ls (r1.1.toList ++ st') r1.2) : AW l g ly Y d res pc Ls st M := by
  intro p e R s m args below meth c0 Q n0 kc ks F hR hN hret H locs ls hH hS hl
  obtain ⟨⟨hZ, hdesc, hyl⟩, hlk, hin, hsel⟩ := hm
  obtain ⟨hC1, hM⟩ := hC
  have hs := F.2.2.2.2.2.1
  have hts := F.2.2.2.2.1
  obtain ⟨-, -, -, he, hrv⟩ := hH.cell hk (by omega) hv
  rw [ent_obj hk hci] at he
  have hrecv := va_recv hs.1 hH.1 hc he
  have hpre := ax_pre (as := (vA r :: as).map (cv g)) hs hS hH
  have hrm := ax_rm (a := al ly (gn M) (gn r1.2)) (b := al ly (SZ (gn M)) (SZ (gn r1.2))) hR hd' hyl
  have hf := ax_room (r1 := r1) hN hC1 hge
  subst hst
  have hstk : (as.reverse ++ vA r :: st').map (cv g) = (as.map (cv g)).reverse ++ .ref (am g r) :: st'.map (cv g) := by
    rw [List.map_append, List.map_reverse, List.map_cons, cv_A, hrv]
  have hargs : (vA r :: as).map (cv g) = .ref (am g r) :: as.map (cv g) := by rw [List.map_cons, cv_A, hrv]
  rw [hargs] at hM hpre
  have hpv : PreV s H (yn Z).cls (am g r) (va_Pc (.ref (am g r) :: as.map (cv g)) (fun U => sok g U ∧ hok g ly M U.heap)) (as.map (cv g)) := ⟨hpre.1, hrecv, hpre.2⟩
  have hdd : (yn Z).cls ≠ "java/lang/invoke/MethodHandle" ∧ (yn Z).cls ≠ "java/lang/invoke/VarHandle" ∧ (parseMethodDescriptor (yn Z).desc).map (fun d => d.parameters.length) = some n := ⟨hZ.2.2.2.2.1, hZ.2.2.2.2.2, hdesc⟩
  have hrun : va_Run p l e R s m args below meth c0 H locs (kc + al ly n0 (gn M)) (ks + al ly (SZ n0) (SZ (gn M))) (al ly (gn M) (gn r1.2)) (al ly (SZ (gn M)) (SZ (gn r1.2))) (F0 m pc ls ((as.reverse ++ vA r :: st').map (cv g))) (st'.map (cv g)) (Qx g ly r1 (Value.ref (am g r) :: as.map (cv g)).toArray) (ax_A g) := by
    rcases hlk with hlk | ⟨host, hlk⟩
    · exact va_runV (As := as.map (cv g)) (rest := st'.map (cv g)) ⟨F.1, F.2.1, F.2.2.1, F.2.2.2.1, hts⟩ hM ⟨callB_of n hts (ax_good hZ) rfl rfl rfl (hts _ hZ.2.2.2.1) (hts _ hlk) hdd hrm, hts _ hin, hts _ hsel⟩ hpv rfl (by rw [List.length_map]; exact hlen) hl.1 hstk (mono0 (by rw [ax_cats]; exact hcat)) (cd hd F.2.2.2.2.2.2.2) hf
    · exact va_runVN (As := as.map (cv g)) (rest := st'.map (cv g)) ⟨F.1, F.2.1, F.2.2.1, F.2.2.2.1, hts⟩ hM ⟨va_cnB n hts (ax_good hZ) rfl rfl rfl (hs.2.1 _ hlk) (hts _ hZ.2.2.2.1) hdd hrm, hts _ hin, hts _ hsel⟩ hpv rfl (by rw [List.length_map]; exact hlen) hl.1 hstk (mono0 (by rw [ax_cats]; exact hcat)) (cd hd F.2.2.2.2.2.2.2) hf
  exact ax_after hrun hS (fun H1 locs1 hH1 hS1 => ax_K F hR hN hret hC1 hge K hH1 hS1 hl)
theorem A_callS {idx n d' : Nat} {Z : ax_Y} {as st' : List ax_V} {r1 : ax_R} (hd : codeAt Y pc = some (.invokestatic idx, 3)) (hm : mlS (yn Y).cls idx Z n) (hlen : as.length = n) (hst : st = as.reverse ++ st') (hcat : ax_wd st' ≤ 8) (hd' : d' + 1 ≤ d)
    (hC : Ctr l g ly Z d' as M r1) (hge : ly = true ∨ gn r1.2 ≤ gn res.2) (K : AW l g ly Y d res (pc + 3) Ls (r1.1.toList ++ st') r1.2) : AW l g ly Y d res pc Ls st M := by
  intro p e R s m args below meth c0 Q n0 kc ks F hR hN hret H locs ls hH hS hl
  obtain ⟨⟨hZ, hdesc, hyl⟩, hlk, hst2⟩ := hm
  obtain ⟨hC1, hM⟩ := hC
  have hs := F.2.2.2.2.2.1
  have hts := F.2.2.2.2.1
  have hpre := ax_pre (as := as.map (cv g)) hs hS hH
  have hrm := ax_rm (a := al ly (gn M) (gn r1.2)) (b := al ly (SZ (gn M)) (SZ (gn r1.2))) hR hd' hyl
  have hf := ax_room (r1 := r1) hN hC1 hge
  subst hst
  have hstk : (as.reverse ++ st').map (cv g) = (as.map (cv g)).reverse ++ st'.map (cv g) := by
    rw [List.map_append, List.map_reverse]
  have hdd : (yn Z).cls ≠ "java/lang/invoke/MethodHandle" ∧ (yn Z).cls ≠ "java/lang/invoke/VarHandle" ∧ (parseMethodDescriptor (yn Z).desc).map (fun d => d.parameters.length) = some n := ⟨hZ.2.2.2.2.1, hZ.2.2.2.2.2, hdesc⟩
  have hrun : va_Run p l e R s m args below meth c0 H locs (kc + al ly n0 (gn M)) (ks + al ly (SZ n0) (SZ (gn M))) (al ly (gn M) (gn r1.2)) (al ly (SZ (gn M)) (SZ (gn r1.2))) (F0 m pc ls ((as.reverse ++ st').map (cv g))) (st'.map (cv g)) (Qx g ly r1 (as.map (cv g)).toArray) (ax_A g) := by
    rcases hlk with hlk | ⟨host, hlk⟩
    · exact va_runS (As := as.map (cv g)) (rest := st'.map (cv g)) ⟨F.1, F.2.1, F.2.2.1, F.2.2.2.1, hts⟩ hM ⟨callB_of n hts (ax_good hZ) rfl rfl rfl (hts _ hZ.2.2.2.1) (hts _ hlk) hdd hrm, hts _ hst2⟩ hpre rfl (by rw [List.length_map]; exact hlen) hl.1 hstk (mono0 (by rw [ax_cats]; exact hcat)) (cd hd F.2.2.2.2.2.2.2) hf
    · exact va_runSN (As := as.map (cv g)) (rest := st'.map (cv g)) ⟨F.1, F.2.1, F.2.2.1, F.2.2.2.1, hts⟩ hM ⟨va_cnB n hts (ax_good hZ) rfl rfl rfl (hs.2.1 _ hlk) (hts _ hZ.2.2.2.1) hdd hrm, hts _ hst2, trivial⟩ hpre rfl (by rw [List.length_map]; exact hlen) hl.1 hstk (mono0 (by rw [ax_cats]; exact hcat)) (cd hd F.2.2.2.2.2.2.2) hf
  exact ax_after hrun hS (fun H1 locs1 hH1 hS1 => ax_K F hR hN hret hC1 hge K hH1 hS1 hl)
theorem A_callI {idx n r d' : Nat} {Z : ax_Y} {as st' : List ax_V} {r1 : ax_R} (hd : codeAt Y pc = some (.invokespecial idx, 3)) (hm : mlI (yn Y).cls idx Z n) (hr0 : ¬ r = 0) (hret0 : yr Z = none) (hlen : as.length = n) (hst : st = as.reverse ++ vA r :: st') (hcat : ax_wd st' ≤ 8) (hd' : d' + 1 ≤ d)
    (hC : Ctr l g ly Z d' (vA r :: as) M r1) (hge : ly = true ∨ gn r1.2 ≤ gn res.2) (K : AW l g ly Y d res (pc + 3) Ls (r1.1.toList ++ st') r1.2) : AW l g ly Y d res pc Ls st M := by
  intro p e R s m args below meth c0 Q n0 kc ks F hR hN hret H locs ls hH hS hl
  obtain ⟨⟨hZ, hdesc, hyl⟩, hlk, hin, hini⟩ := hm
  obtain ⟨hC1, hM⟩ := hC
  have hs := F.2.2.2.2.2.1
  have hts := F.2.2.2.2.1
  have hrv : rv g r = .ref (am g r) := rv_pos hr0
  have hpre := ax_pre (as := (vA r :: as).map (cv g)) hs hS hH
  have hrm := ax_rm (a := al ly (gn M) (gn r1.2)) (b := al ly (SZ (gn M)) (SZ (gn r1.2))) hR hd' hyl
  have hf := ax_room (r1 := r1) hN hC1 hge
  subst hst
  have hstk : (as.reverse ++ vA r :: st').map (cv g) = (as.map (cv g)).reverse ++ .ref (am g r) :: st'.map (cv g) := by
    rw [List.map_append, List.map_reverse, List.map_cons, cv_A, hrv]
  have hargs : (vA r :: as).map (cv g) = .ref (am g r) :: as.map (cv g) := by rw [List.map_cons, cv_A, hrv]
  rw [hargs] at hM hpre
  have hdd : (yn Z).cls ≠ "java/lang/invoke/MethodHandle" ∧ (yn Z).cls ≠ "java/lang/invoke/VarHandle" ∧ (parseMethodDescriptor (yn Z).desc).map (fun d => d.parameters.length) = some n := ⟨hZ.2.2.2.2.1, hZ.2.2.2.2.2, hdesc⟩
  have hyw : yw Z = Cond.code (yn Z) (yb Z) (yl Z) none :: WG := by unfold yw; rw [hret0]
  have hrun : va_Run p l e R s m args below meth c0 H locs (kc + al ly n0 (gn M)) (ks + al ly (SZ n0) (SZ (gn M))) (al ly (gn M) (gn r1.2)) (al ly (SZ (gn M)) (SZ (gn r1.2))) (F0 m pc ls ((as.reverse ++ vA r :: st').map (cv g))) (st'.map (cv g)) (Qx g ly r1 (Value.ref (am g r) :: as.map (cv g)).toArray) (ax_A g) := by
    rcases hlk with hlk | ⟨host, hlk⟩
    · exact va_runI (As := as.map (cv g)) (rest := st'.map (cv g)) ⟨F.1, F.2.1, F.2.2.1, F.2.2.2.1, hts⟩ hM ⟨callB_of n hts (ax_good hZ) hyw rfl rfl (hts _ hZ.2.2.2.1) (hts _ hlk) hdd hrm, hini, hts _ hin⟩ hpre rfl (by rw [List.length_map]; exact hlen) hl.1 hstk (mono0 (by rw [ax_cats]; exact hcat)) (cd hd F.2.2.2.2.2.2.2) hf
    · exact va_runIN (As := as.map (cv g)) (rest := st'.map (cv g)) ⟨F.1, F.2.1, F.2.2.1, F.2.2.2.1, hts⟩ hM ⟨va_cnB n hts (ax_good hZ) hyw rfl rfl (hs.2.1 _ hlk) (hts _ hZ.2.2.2.1) hdd hrm, hini, hts _ hin⟩ hpre rfl (by rw [List.length_map]; exact hlen) hl.1 hstk (mono0 (by rw [ax_cats]; exact hcat)) (cd hd F.2.2.2.2.2.2.2) hf
  exact ax_after hrun hS (fun H1 locs1 hH1 hS1 => ax_K F hR hN hret hC1 hge K hH1 hS1 hl)
theorem A_objInit {idx r : Nat} (hd : codeAt Y pc = some (.invokespecial idx, 3)) (h1 : Cond.methodLink (yn Y).cls idx Lib.objectInit ∈ WG) (h2 : Cond.instanceMethod Lib.objectInit ∈ WG) (h3 : Cond.code Lib.objectInit ⟨#[0xb1]⟩ 1 none ∈ WG) (hr0 : ¬ r = 0) (hd0 : 1 ≤ d) (hcat : ax_wd st ≤ 8) (K : AW l g ly Y d res (pc + 3) Ls st M) : AW l g ly Y d res pc Ls (vA r :: st) M := by
  intro p e R s m args below meth c0 Q n0 kc ks F hR hN hret H locs ls hH hS hl
  have hts := F.2.2.2.2.1
  rw [List.map_cons, cv_A, rv_pos hr0]
  refine W.objInit F.1 F.2.1 F.2.2.2.1 (hts _ h1) (hts _ h2) (hts _ h3) rfl (by rw [F.2.2.1]; exact hl.1) rfl (cd hd F.2.2.2.2.2.2.2) (by omega) ?_ (K p e R s m args below meth c0 Q n0 kc ks F hR hN hret H locs ls hH hS hl)
  have h4 : 2 * (F0 m pc ls (Value.ref (am g r) :: st.map (cv g))).monitorRoom + ((st.map (cv g)).map fun v => v.category).sum ≤ 8 := mono0 (by rw [ax_cats]; exact hcat)
  omega
end AXD
/-! new cells -/
theorem ent_mS {g : ax_G} {M : ax_M} (a : Nat) : ent g (mS M) a = ent g M a := ent_other (fun _ => rfl) (fun _ => rfl) (fun _ => rfl)
theorem ws_mS (g : ax_G) (M : ax_M) : WS g (mS M) = WS g M ++ [(gb g + gn M, ent g M (gn M + 2))] := by
  unfold WS
  show (List.range (gn M + 1)).map _ = _
  rw [List.range_succ, List.map_append]
  congr 1
theorem hok.grow {g : ax_G} {M : ax_M} {H H1 : Heap} (h : hok g false M H) (hn : gn M < NT) (hat : va_at (gD g) classes (gb g + gn M, ent g M (gn M + 2)) H1) (hs : H1.size = H.size + 1) (oq : ∀ q, q < H.size → H1[q]? = H[q]?) : hok g false (mS M) H1 := by
  refine ⟨?_, ?_, ?_, fun a k ha => ?_, fun q => by cases q⟩
  · rw [ws_mS]
    refine va_P.app (h.1.kept fun k q hk => oq q.1 ((h.1 k q hk).lt)) (fun k q hk => ?_)
    have hz : k < 1 := (List.getElem?_eq_some_iff.mp hk).1
    rw [show k = 0 by omega] at hk
    cases hk
    exact hat
  · rw [hs, h.2.1]
    rfl
  · exact hn
  · exact h.2.2.2.1 a k (by have : gn (mS M) = gn M + 1 := rfl; omega)
theorem fv_new {g : ax_G} {ly : Bool} {M : ax_M} {H : Heap} (h : hok g ly M H) {ci k : Nat} (hk : kd (gn M + 2) = ci) : fv g M (gn M + 2) k = if FTC ci k = 1 then .long 0 else if FTC ci k = 2 then .null else .int 0 := by
  obtain ⟨h1, h2, h3⟩ := h.2.2.2.1 (gn M + 2) k (Nat.le_refl _)
  unfold fv
  rw [hk, h1, h2, h3, rv_0]
section AXN
variable {l : Launch} {g : ax_G} {Y : ax_Y} {d : Nat} {res : ax_R} {pc : Nat} {Ls : List (Nat × ax_V)} {st : List ax_V} {M : ax_M}
theorem al_s {a b : Nat} (h : a ≤ b) : al false a (b + 1) = al false a b + 1 := by
  show b + 1 - a = b - a + 1
  omega
theorem ax_new {p : Program} {e : Env} {R : Room} {s : State} {m : MethodId} {args : Array Value} {below : List Frame} {meth : Method} {c : Code} {Q : State → Prop} {n0 kc ks k : Nat} {H1 : Heap} {locs : List Loc} {ls : Array Slot}
    (F : ax_Fix g Y p s m args meth c) (hR : d ≤ R.frames ∧ 60 * d ≤ R.locals) (hN : (false = true ∨ (n0 ≤ gn M ∧ gn M ≤ gn res.2)) ∧ kc + al false n0 (gn res.2) ≤ R.cells ∧ ks + al false (SZ n0) (SZ (gn res.2)) ≤ R.slots)
    (hret : ∀ (H' : Heap) (locs' : List Loc) (ls' : Array Slot) (pc' : Nat), (∃ i, codeAt Y pc' = some (i, 1) ∧ rtOK Y i res.1) → hok g false res.2 H' → va_S (ax_A g) s.heap H' locs' →
      W p l e R s m args below meth c H' locs' (kc + al false n0 (gn res.2)) (ks + al false (SZ n0) (SZ (gn res.2))) Q (F0 m pc' ls' (res.1.map (cv g)).toList))
    (hle : gn M + 1 ≤ gn res.2) (hnt : gn M < NT) (hk : ln (gn M + 2) = k) {n : Nat} (K : AW l g false Y d res (pc + n) Ls (vA (gn M + 2) :: st) (mS M)) (hH : hok g false (mS M) H1) (hS : va_S (ax_A g) s.heap H1 locs) (hl : lv_has ls (yl Y) (Ls.map (ax_cl g))) :
    W p l e R s m args below meth c H1 locs (kc + al false n0 (gn M) + 1) (ks + al false (SZ n0) (SZ (gn M)) + k) Q (F0 m (pc + n) ls (.ref (gb g + gn M) :: st.map (cv g))) := by
  rcases hN.1 with hb | hb
  · cases hb
  have h9 := K p e R s m args below meth c Q n0 kc ks F hR ⟨Or.inr ⟨Nat.le_succ_of_le hb.1, hle⟩, hN.2⟩ hret H1 locs ls hH hS hl
  have e1 : al false n0 (gn (mS M)) = al false n0 (gn M) + 1 := al_s hb.1
  have hm := SZ_mono hb.1
  have e2 : al false (SZ n0) (SZ (gn (mS M))) = al false (SZ n0) (SZ (gn M)) + k := by
    show SZ (gn M + 1) - SZ n0 = SZ (gn M) - SZ n0 + k
    rw [SZ_succ hnt, hk]
    omega
  have h3 : NT + 2 ≤ 1000 := nt_small
  have e3 : cv g (vA (gn M + 2)) = .ref (gb g + gn M) := by
    rw [cv_A, rv_pos (by omega), am_cell (by omega) (by omega)]
    rfl
  rw [e1, e2, List.map_cons, e3, ← Nat.add_assoc, ← Nat.add_assoc] at h9
  exact h9
theorem ax_newR {R : Room} {n0 kc ks k : Nat} (hN : (false = true ∨ (n0 ≤ gn M ∧ gn M ≤ gn res.2)) ∧ kc + al false n0 (gn res.2) ≤ R.cells ∧ ks + al false (SZ n0) (SZ (gn res.2)) ≤ R.slots) (hle : gn M + 1 ≤ gn res.2) (hnt : gn M < NT) (hk : ln (gn M + 2) = k) : kc + al false n0 (gn M) + 1 ≤ R.cells ∧ ks + al false (SZ n0) (SZ (gn M)) + k ≤ R.slots := by
  rcases hN.1 with hb | hb
  · cases hb
  have h1 : al false n0 (gn res.2) = gn res.2 - n0 := rfl
  have h2 : al false n0 (gn M) = gn M - n0 := rfl
  have h3 : al false (SZ n0) (SZ (gn res.2)) = SZ (gn res.2) - SZ n0 := rfl
  have h4 : al false (SZ n0) (SZ (gn M)) = SZ (gn M) - SZ n0 := rfl
  have h5 := SZ_mono hle
  rw [SZ_succ hnt, hk] at h5
  have h6 := SZ_mono hb.1
  have h7 := hN.2
  rw [h1, h3] at h7
  rw [h2, h4]
  omega
theorem va_S.grow {A : Nat → Prop} {H0 H H1 : Heap} {locs : List Loc} (hS : va_S A H0 H locs) (hs : H1.size = H.size + 1) (oq : ∀ q, q < H.size → H1[q]? = H[q]?) : va_S A H0 H1 locs :=
  ⟨Nat.le_trans hS.1 (by omega), fun x h1 h2 => (oq x (Nat.lt_of_lt_of_le h1 hS.1)).trans (hS.2.1 x h1 h2), hS.2.2⟩
theorem A_new {idx ci N : Nat} {C : String} {T : u_T} (hd : codeAt Y pc = some (.new idx, 3)) (hc : clsOK ci C T N) (hw1 : Cond.classLink (yn Y).cls idx C ∈ WG) (hw2 : Cond.instantiable C N ∈ WG) (hw3 : Cond.initialized C ∈ WG) (hdef : ∀ j, j < N → defaultValue (FTY ci j) = if FTC ci j = 1 then .long 0 else if FTC ci j = 2 then .null else .int 0)
    (hk : kd (gn M + 2) = ci) (hle : gn M + 1 ≤ gn res.2) (K : AW l g false Y d res (pc + 3) Ls (vA (gn M + 2) :: st) (mS M)) : AW l g false Y d res pc Ls st M := by
  intro p e R s m args below meth c0 Q n0 kc ks F hR hN hret H locs ls hH hS hl
  obtain ⟨k1, k2, k3, k4, k5, k6⟩ := hc
  have hts := F.2.2.2.2.1
  have hs := F.2.2.2.2.2.1
  have hnt : gn M < NT := by
    have := (kd_lt hk (by omega)).2
    omega
  have hln : ln (gn M + 2) = N := k6 _ hk
  have hrm := ax_newR (res := res) hN hle hnt hln
  have hKn := hs.1.1 ci _ k1
  refine W.newcK F.1 F.2.1 F.2.2.2.1 (hts _ hw1) (hts _ hw2) (hts _ hw3) rfl (cd hd F.2.2.2.2.2.2.2) hrm.1 hrm.2 hKn.2.1 hH.2.1 fun H1 kC hkC e1 z1 o1 => ?_
  have o2 : ∀ q, q < H.size → H1[q]? = H[q]? := fun q hq => o1 q (by rw [← hH.2.1]; exact hq)
  have z2 : H1.size = H.size + 1 := by rw [z1, hH.2.1]
  refine ax_new (n := 3) F hR hN hret hle hnt hln K (hH.grow hnt ?_ z2 o2) (hS.grow z2 o2) hl
  rw [ent_obj hk k5, hln]
  refine ⟨_, k1, (u_born (FTY ci) hts k2 hKn hkC e1 k3).to fun j hj => ?_⟩
  rw [hdef j hj, ← fv_new hH hk]
  unfold vp_V
  rw [List.getD_eq_getElem?_getD, fs_at hj]
  rfl
theorem A_newa {t n : Nat} {a : ArrayType} {ty : FieldType} {i : Int32} (hd : codeAt Y pc = some (.newarray a, 2)) (hty : newarray.typeOf a = ty) (hw : Cond.arrayClass ty ∈ WG) (ht : t < 4 ∧ ATS.getD t .int = ty ∧ t < ATS.length) (hk : kd (gn M + 2) = 100 + t) (hn : ln (gn M + 2) = n) (hi : i.toNatClampNeg = n ∧ ¬ i < 0 ∧ n * componentBytes ty ≤ 536870912)
    (hdv : defaultValue ty = if t = 1 then .long 0 else .int 0) (hra : ∀ (U : State) (cA : ClassId), va_RA U cA ty → U.vm.findClass ("[" ++ ty.toString) = some cA) (hle : gn M + 1 ≤ gn res.2) (K : AW l g false Y d res (pc + 2) Ls (vA (gn M + 2) :: st) (mS M)) : AW l g false Y d res pc Ls (vI i :: st) M := by
  intro p e R s m args below meth c0 Q n0 kc ks F hR hN hret H locs ls hH hS hl
  subst hty
  have hts := F.2.2.2.2.1
  have hs := F.2.2.2.2.2.1
  have hnt : gn M < NT := by
    have := (kd_lt hk (by omega)).2
    omega
  have hrm := ax_newR (res := res) hN hle hnt hn
  refine va_newaK F.1 F.2.1 (hts _ hw) rfl (cd hd F.2.2.2.2.2.2.2) rfl hi.2.1 hi.1 hi.2.2 hrm.1 hrm.2 hH.2.1 fun H1 cA e1 z1 o1 hAr hNm => ?_
  have o2 : ∀ q, q < H.size → H1[q]? = H[q]? := fun q hq => o1 q (by rw [← hH.2.1]; exact hq)
  have z2 : H1.size = H.size + 1 := by rw [z1, hH.2.1]
  refine ax_new (n := 2) F hR hN hret hle hnt hn K (hH.grow hnt ?_ z2 o2) (hS.grow z2 o2) hl
  have h5 := (hs.1.2 t _ (tys_at ht.2.2)).2
  rw [ht.2.1] at h5
  have hcA : cA = gdA g t := Option.some.inj (hNm.symm.trans (hra _ _ h5))
  have hz := hH.2.2.2.1 (gn M + 2)
  rw [ent_arr hk, hn]
  show H1[gb g + gn M]? = some (vp_cell _ _)
  rw [e1, hdv, hcA]
  by_cases h1 : t = 1
  · subst h1
    rw [cont_J hk, vp_cell_l, if_pos rfl]
    congr 2
    funext j
    rw [(hz j (Nat.le_refl _)).2.1]
  · rw [cont_I (by omega), vp_cell_i, if_neg h1]
    congr 2
    funext j
    rw [(hz j (Nat.le_refl _)).1]
theorem A_anew {t n idx : Nat} {C : String} {i : Int32} (hd : codeAt Y pc = some (.anewarray idx, 3)) (hw : Cond.classLink (yn Y).cls idx C ∈ WG) (hAO : C ∈ AON) (ht : 4 ≤ t ∧ t < ATS.length ∧ ATS.getD t .int = .object C) (hk : kd (gn M + 2) = 100 + t) (hn : ln (gn M + 2) = n) (hi : i.toNatClampNeg = n ∧ ¬ i < 0 ∧ n * 4 ≤ 536870912)
    (hle : gn M + 1 ≤ gn res.2) (K : AW l g false Y d res (pc + 3) Ls (vA (gn M + 2) :: st) (mS M)) : AW l g false Y d res pc Ls (vI i :: st) M := by
  intro p e R s m args below meth c0 Q n0 kc ks F hR hN hret H locs ls hH hS hl
  have hts := F.2.2.2.2.1
  have hs := F.2.2.2.2.2.1
  have h9 : ATS.length < 800 := ats_small
  have hnt : gn M < NT := by
    have := (kd_lt hk (by omega)).2
    omega
  have hrm := ax_newR (res := res) hN hle hnt hn
  obtain ⟨hi1, hi2, hi3⟩ := hi
  subst hi1
  refine W.anew F.1 F.2.1 F.2.2.2.1 (hts _ hw) (va_AO.use (hs.2.2.2.2.2.2.2.1 C hAO)) rfl (cd hd F.2.2.2.2.2.2.2) rfl hi2 hi3 hrm.1 hrm.2 fun cA kA comp f1 f2 f3 f4 => ?_
  generalize hH1 : H.push ({ cls := cA, slots := Array.replicate i.toNatClampNeg .null, vm := .none } : Cell) = H1
  have z2 : H1.size = H.size + 1 := by rw [← hH1, Array.size_push]
  have e1 : H1[H.size]? = some (arrV cA i.toNatClampNeg (fun _ => .null)) := by rw [← hH1, Array.getElem?_push_size, ← arrV_new]
  have o2 : ∀ q : Nat, q < H.size → H1[q]? = H[q]? := fun q hq => by rw [← hH1, Array.getElem?_push, if_neg (Nat.ne_of_lt hq)]
  rw [hH.2.1] at e1
  have h8 := ax_new (n := 3) F hR hN hret hle hnt hn K (H1 := H1) (locs := locs) (ls := ls) (hH.grow hnt ?_ z2 o2) (hS.grow z2 o2) hl
  · rw [hH.2.1]
    exact h8
  · have h5 := (hs.1.2 t _ (tys_at ht.2.1)).2
    rw [ht.2.2] at h5
    obtain ⟨kA2, comp2, -, -, -, j4⟩ := h5
    have hcA : cA = gdA g t := Option.some.inj (f1.symm.trans j4)
    have hz := hH.2.2.2.1 (gn M + 2)
    rw [ent_arr hk, hn, cont_A hk ht.1]
    show H1[gb g + gn M]? = some (vp_cell _ _)
    rw [e1, hcA, vp_cell_q]
    congr 2
    funext j
    rw [(hz j (Nat.le_refl _)).2.2]
    rfl
end AXN
end
section
/-! Words for functions that follow the code, and facts of classes and cells. Printed by gen_facts.py. -/
def kM {α β : Type} (a : α) (f : α → Option β) : Option β := f a
theorem kM_out {α β : Type} {a : α} {f : α → Option β} {r : Option β} (h : kM a f = r) : ∃ b, a = b ∧ f b = r := ⟨a, rfl, h⟩
def bnd {α β : Type} (o : Option (α × ax_M)) (f : α → ax_M → Option β) : Option β := match o with
  | some q => f q.1 q.2
  | none => none
theorem bnd_out {α β : Type} {o : Option (α × ax_M)} {f : α → ax_M → Option β} {r : β} (h : bnd o f = some r) : ∃ a m, o = some (a, m) ∧ f a m = some r := by
  cases o with
  | none => cases h
  | some q => exact ⟨q.1, q.2, rfl, h⟩
def gk {β : Type} (r K : Nat) (x : Option β) : Option β := if kd r = K then x else none
theorem gk_out {β : Type} {r K : Nat} {x : Option β} {b : β} (h : gk r K x = some b) : kd r = K ∧ x = some b := by
  unfold gk at h
  split at h
  next hk => exact ⟨hk, h⟩
  next => cases h
def gl {β : Type} (M : ax_M) (r : Nat) (x : Option β) : Option β := if r < gn M + 2 then x else none
theorem gl_out {β : Type} {M : ax_M} {r : Nat} {x : Option β} {b : β} (h : gl M r x = some b) : r < gn M + 2 ∧ x = some b := by
  unfold gl at h
  split at h
  next hk => exact ⟨hk, h⟩
  next => cases h
def gi {β : Type} (i : Int32) (n : Nat) (x : Option β) : Option β := if i < 0 ∨ n ≤ i.toNatClampNeg then none else x
theorem gi_out {β : Type} {i : Int32} {n : Nat} {x : Option β} {b : β} (h : gi i n x = some b) : vp_in i n ∧ x = some b := by
  unfold gi at h
  split at h
  next => cases h
  next hk => exact ⟨hk, h⟩
def gz {β : Type} (y : Int64) (x : Option β) : Option β := if y = 0 then none else x
theorem gz_out {β : Type} {y : Int64} {x : Option β} {b : β} (h : gz y x = some b) : ¬ y = 0 ∧ x = some b := by
  unfold gz at h
  split at h
  next => cases h
  next hk => exact ⟨hk, h⟩
def gzi {β : Type} (y : Int32) (x : Option β) : Option β := if y = 0 then none else x
theorem gzi_out {β : Type} {y : Int32} {x : Option β} {b : β} (h : gzi y x = some b) : ¬ y = 0 ∧ x = some b := by
  unfold gzi at h
  split at h
  next => cases h
  next hk => exact ⟨hk, h⟩
theorem nb_of {x : Int32} (h : x = 0 ∨ x = 1) : narrow .boolean (.int x) = .int x := by
  rcases h with rfl | rfl <;> rfl
def g2 {β : Type} (y : Int32) (x : Option β) : Option β := if y = 0 ∨ y = 1 then x else none
theorem g2_out {β : Type} {y : Int32} {x : Option β} {b : β} (h : g2 y x = some b) : (y = 0 ∨ y = 1) ∧ x = some b := by
  unfold g2 at h
  split at h
  next hk => exact ⟨hk, h⟩
  next => cases h
def gc {β : Type} (y : Int32) (x : Option β) : Option β := if narrow .char (.int y) = .int y then x else none
theorem gc_out {β : Type} {y : Int32} {x : Option β} {b : β} (h : gc y x = some b) : narrow .char (.int y) = .int y ∧ x = some b := by
  unfold gc at h
  split at h
  next hk => exact ⟨hk, h⟩
  next => cases h
def ge {β : Type} (a b : Nat) (x : Option β) : Option β := if a = b then x else none
theorem ge_out {β : Type} {a c : Nat} {x : Option β} {b : β} (h : ge a c x = some b) : a = c ∧ x = some b := by
  unfold ge at h
  split at h
  next hk => exact ⟨hk, h⟩
  next => cases h
def gle {β : Type} (a b : Nat) (x : Option β) : Option β := if a ≤ b then x else none
theorem gle_out {β : Type} {a c : Nat} {x : Option β} {b : β} (h : gle a c x = some b) : a ≤ c ∧ x = some b := by
  unfold gle at h
  split at h
  next hk => exact ⟨hk, h⟩
  next => cases h
/-- a constructor's function: the count at the end is nf -/
def nfw {α : Type} (nf : Nat) (M : ax_M) (o : Option (α × ax_M)) : Option (α × ax_M) := match o with
  | some q => if gn q.2 = nf ∧ gn M ≤ nf then some q else none
  | none => none
theorem nfw_out {α : Type} {nf : Nat} {M M' : ax_M} {o : Option (α × ax_M)} {r : α} (h : nfw nf M o = some (r, M')) : gn M' = nf ∧ gn M ≤ nf ∧ o = some (r, M') := by
  cases o with
  | none => cases h
  | some q =>
    unfold nfw at h
    dsimp only at h
    split at h
    next hk =>
      cases h
      exact ⟨hk.1, hk.2, rfl⟩
    next => cases h
theorem leaf {α : Type} {a c : α} {b m : ax_M} (h : (some (a, b) : Option (α × ax_M)) = some (c, m)) : a = c ∧ b = m := by
  cases h
  exact ⟨rfl, rfl⟩
theorem vin_lt {i : Int32} {n : Nat} (h : vp_in i n) : i.toNatClampNeg < n := Nat.not_le.mp fun q => h (Or.inr q)
theorem vin_d {i : Int32} {n : Nat} (h : ¬ (i < 0 ∨ n ≤ i.toNatClampNeg)) : vp_in i n := h
theorem iiN {n : Int} {k : Int32} (h : Int32.ofInt n = k) (x : Int32) : x + Int32.ofInt n = x + k := by rw [h]
theorem ne_i {x v : Int32} {k : Int} (h : ¬ x = v) (hv : v.toInt = k) : x.toInt ≠ k := fun e => h (Int32.toInt_inj.mp (e.trans hv.symm))
theorem fa_nil {p : Int → Prop} : ∀ v ∈ ([] : List Int), p v := fun _ h => absurd h List.not_mem_nil
theorem fa_cons {p : Int → Prop} {a : Int} {l : List Int} (h : p a) (t : ∀ v ∈ l, p v) : ∀ v ∈ a :: l, p v := List.forall_mem_cons.mpr ⟨h, t⟩
theorem lk_def : ∀ (ps : List (Int × Int)) (dflt k : Int), (∀ v ∈ ps.map (·.1), k ≠ v) → Op.lookupswitch.offset ps dflt k = dflt
  | [], _, _, _ => rfl
  | (a, o) :: r, dflt, k, h => by
    rw [Op.lookupswitch.offset_cons, if_neg (fun e => h a (by simp) e.symm)]
    exact lk_def r dflt k (fun v hv => h v (by simp at hv ⊢; exact Or.inr hv))
section AXS
variable {l : Launch} {g : ax_G} {ly : Bool} {Y : ax_Y} {d : Nat} {res : ax_R} {pc : Nat} {Ls : List (Nat × ax_V)} {st : List ax_V} {M : ax_M}
theorem A_nI {x y : Int32} (e : x = y) (K : AW l g ly Y d res pc Ls (vI y :: st) M) : AW l g ly Y d res pc Ls (vI x :: st) M := e ▸ K
theorem A_nJ {x y : Int64} (e : x = y) (K : AW l g ly Y d res pc Ls (vJ y :: st) M) : AW l g ly Y d res pc Ls (vJ x :: st) M := e ▸ K
theorem A_nA {x y : Nat} (e : x = y) (K : AW l g ly Y d res pc Ls (vA y :: st) M) : AW l g ly Y d res pc Ls (vA x :: st) M := e ▸ K
theorem A_tableDef {dflt lo hi : Int} {offs : Array Int} {n : Nat} {x : Int32} {tgt : Nat} (vs : List Int) (hd : codeAt Y pc = some (.tableswitch dflt lo hi offs, n)) (hlen : lo + (offs.size : Int) = hi + 1) (hc : (List.range offs.size).all (fun j => offs[j]? == some dflt || vs.contains (lo + (j : Int))) = true) (hx : ∀ v ∈ vs, x.toInt ≠ v) (ht : (pc : Int) + dflt = (tgt : Int)) (K : AW l g ly Y d res tgt Ls st M) : AW l g ly Y d res pc Ls (vI x :: st) M := by
  by_cases h1 : x.toInt < lo
  · exact A_tableOut hd (Or.inl h1) ht K
  · by_cases h2 : hi < x.toInt
    · exact A_tableOut hd (Or.inr h2) ht K
    · refine A_tableIn hd h1 h2 (off := dflt) ?_ ht K
      have hj : (x.toInt - lo).toNat < offs.size := by omega
      have h3 := List.all_eq_true.mp hc _ (List.mem_range.mpr hj)
      rw [Bool.or_eq_true] at h3
      rcases h3 with h3 | h3
      · exact eq_of_beq h3
      · exfalso
        have h4 : (lo + (((x.toInt - lo).toNat : Nat) : Int)) ∈ vs := List.contains_iff_mem.mp h3
        exact hx _ h4 (by omega)
end AXS
theorem kl_MW : ∀ c, c < NT + 2 → kd c = 0 → ln c = 9 := by decide +kernel
theorem cls_MW : clsOK 0 "MethodWarden" TC0 9 := ⟨rfl, inWGs _ [424, 426, 428, 430, 432, 434, 436, 438, 440] (by decide +kernel) (by decide +kernel), by decide +kernel, by decide +kernel, by decide, fun c h => kl_MW c (kd_lt h (by decide)).2 h⟩
theorem kl_Text : ∀ c, c < NT + 2 → kd c = 1 → ln c = 6 := by decide +kernel
theorem cls_Text : clsOK 1 "MethodWarden$Text" TC1 6 := ⟨rfl, inWGs _ [137, 139, 141, 143, 145, 147] (by decide +kernel) (by decide +kernel), by decide +kernel, by decide +kernel, by decide, fun c h => kl_Text c (kd_lt h (by decide)).2 h⟩
theorem kl_Reader : ∀ c, c < NT + 2 → kd c = 2 → ln c = 8 := by decide +kernel
theorem cls_Reader : clsOK 2 "MethodWarden$Reader" TC2 8 := ⟨rfl, inWGs _ [165, 167, 169, 171, 173, 175, 177, 179] (by decide +kernel) (by decide +kernel), by decide +kernel, by decide +kernel, by decide, fun c h => kl_Reader c (kd_lt h (by decide)).2 h⟩
theorem kl_Expr : ∀ c, c < NT + 2 → kd c = 3 → ln c = 6 := by decide +kernel
theorem cls_Expr : clsOK 3 "MethodWarden$Expression" TC3 6 := ⟨rfl, inWGs _ [202, 204, 206, 208, 210, 212] (by decide +kernel) (by decide +kernel), by decide +kernel, by decide +kernel, by decide, fun c h => kl_Expr c (kd_lt h (by decide)).2 h⟩
theorem kl_Ctx : ∀ c, c < NT + 2 → kd c = 4 → ln c = 4 := by decide +kernel
theorem cls_Ctx : clsOK 4 "MethodWarden$Context" TC4 4 := ⟨rfl, inWGs _ [230, 232, 234, 236] (by decide +kernel) (by decide +kernel), by decide +kernel, by decide +kernel, by decide, fun c h => kl_Ctx c (kd_lt h (by decide)).2 h⟩
theorem kl_Items : ∀ c, c < NT + 2 → kd c = 5 → ln c = 2 := by decide +kernel
theorem cls_Items : clsOK 5 "MethodWarden$Items" TC5 2 := ⟨rfl, inWGs _ [249, 251] (by decide +kernel) (by decide +kernel), by decide +kernel, by decide +kernel, by decide, fun c h => kl_Items c (kd_lt h (by decide)).2 h⟩
theorem kl_Worker : ∀ c, c < NT + 2 → kd c = 6 → ln c = 11 := by decide +kernel
theorem cls_Worker : clsOK 6 "MethodWarden$Worker" TC6 11 := ⟨rfl, inWGs _ [297, 299, 301, 303, 305, 307, 309, 311, 313, 315, 317] (by decide +kernel) (by decide +kernel), by decide +kernel, by decide +kernel, by decide, fun c h => kl_Worker c (kd_lt h (by decide)).2 h⟩
theorem kl_Val : ∀ c, c < NT + 2 → kd c = 7 → ln c = 3 := by decide +kernel
theorem cls_Val : clsOK 7 "MethodWarden$Value" TC7 3 := ⟨rfl, inWGs _ [277, 279, 281] (by decide +kernel) (by decide +kernel), by decide +kernel, by decide +kernel, by decide, fun c h => kl_Val c (kd_lt h (by decide)).2 h⟩
theorem kl_Gate : ∀ c, c < NT + 2 → kd c = 8 → ln c = 10 := by decide +kernel
theorem cls_Gate : clsOK 8 "MethodWarden$Gate" TC8 10 := ⟨rfl, inWGs _ [394, 396, 398, 400, 402, 404, 406, 408, 410, 412] (by decide +kernel) (by decide +kernel), by decide +kernel, by decide +kernel, by decide, fun c h => kl_Gate c (kd_lt h (by decide)).2 h⟩
theorem kl_Meth : ∀ c, c < NT + 2 → kd c = 9 → ln c = 7 := by decide +kernel
theorem cls_Meth : clsOK 9 "MethodWarden$Method" TC9 7 := ⟨rfl, inWGs _ [352, 354, 356, 358, 360, 362, 364] (by decide +kernel) (by decide +kernel), by decide +kernel, by decide +kernel, by decide, fun c h => kl_Meth c (kd_lt h (by decide)).2 h⟩
theorem kl_Guard : ∀ c, c < NT + 2 → kd c = 10 → ln c = 2 := by decide +kernel
theorem cls_Guard : clsOK 10 "MethodWarden$Guard" TC10 2 := ⟨rfl, inWGs _ [376, 378] (by decide +kernel) (by decide +kernel), by decide +kernel, by decide +kernel, by decide, fun c h => kl_Guard c (kd_lt h (by decide)).2 h⟩
theorem kl_Mod : ∀ c, c < NT + 2 → kd c = 11 → ln c = 61 := by decide +kernel
theorem cls_Mod : clsOK 11 "MethodWardenModel" TC11 61 := ⟨rfl, inWGs _ [1148, 1150, 1152, 1154, 1156, 1158, 1160, 1162, 1164, 1166, 1168, 1170, 1172, 1174, 1176, 1178, 1180, 1182, 1184, 1186, 1188, 1190, 1192, 1194, 1196, 1198, 1200, 1202, 1204, 1206, 1208, 1210, 1212, 1214, 1216, 1218, 1220, 1222, 1224, 1226, 1228, 1230, 1232, 1234, 1236, 1238, 1240, 1242, 1244, 1246, 1248, 1250, 1252, 1254, 1256, 1258, 1260, 1262, 1264, 1266, 1268] (by decide +kernel) (by decide +kernel), by decide +kernel, by decide +kernel, by decide, fun c h => kl_Mod c (kd_lt h (by decide)).2 h⟩
theorem lf_Expr_1_0 : ∀ c, c < NT + 2 → kd c = 3 → kd (c + 1) = 100 ∧ ln (c + 1) = 20 := by decide +kernel
theorem lf_Expr_1 {c : Nat} (h : kd c = 3) : kd (c + 1) = 100 ∧ ln (c + 1) = 20 := lf_Expr_1_0 c (kd_lt h (by decide)).2 h
theorem lf_Expr_2_0 : ∀ c, c < NT + 2 → kd c = 3 → kd (c + 2) = 100 ∧ ln (c + 2) = 20 := by decide +kernel
theorem lf_Expr_2 {c : Nat} (h : kd c = 3) : kd (c + 2) = 100 ∧ ln (c + 2) = 20 := lf_Expr_2_0 c (kd_lt h (by decide)).2 h
theorem lf_Expr_3_0 : ∀ c, c < NT + 2 → kd c = 3 → kd (c + 3) = 100 ∧ ln (c + 3) = 20 := by decide +kernel
theorem lf_Expr_3 {c : Nat} (h : kd c = 3) : kd (c + 3) = 100 ∧ ln (c + 3) = 20 := lf_Expr_3_0 c (kd_lt h (by decide)).2 h
theorem lf_Expr_4_0 : ∀ c, c < NT + 2 → kd c = 3 → kd (c + 4) = 100 ∧ ln (c + 4) = 20 := by decide +kernel
theorem lf_Expr_4 {c : Nat} (h : kd c = 3) : kd (c + 4) = 100 ∧ ln (c + 4) = 20 := lf_Expr_4_0 c (kd_lt h (by decide)).2 h
theorem lf_Expr_5_0 : ∀ c, c < NT + 2 → kd c = 3 → kd (c + 5) = 101 ∧ ln (c + 5) = 20 := by decide +kernel
theorem lf_Expr_5 {c : Nat} (h : kd c = 3) : kd (c + 5) = 101 ∧ ln (c + 5) = 20 := lf_Expr_5_0 c (kd_lt h (by decide)).2 h
theorem lf_Items_1_0 : ∀ c, c < NT + 2 → kd c = 5 → kd (c + 1) = 100 ∧ ln (c + 1) = 5 := by decide +kernel
theorem lf_Items_1 {c : Nat} (h : kd c = 5) : kd (c + 1) = 100 ∧ ln (c + 1) = 5 := lf_Items_1_0 c (kd_lt h (by decide)).2 h
theorem lf_Val_1_0 : ∀ c, c < NT + 2 → kd c = 7 → kd (c + 1) = 5 ∧ ln (c + 1) = 2 := by decide +kernel
theorem lf_Val_1 {c : Nat} (h : kd c = 7) : kd (c + 1) = 5 ∧ ln (c + 1) = 2 := lf_Val_1_0 c (kd_lt h (by decide)).2 h
theorem lf_Meth_1_0 : ∀ c, c < NT + 2 → kd c = 9 → kd (c + 1) = 100 ∧ ln (c + 1) = 6 := by decide +kernel
theorem lf_Meth_1 {c : Nat} (h : kd c = 9) : kd (c + 1) = 100 ∧ ln (c + 1) = 6 := lf_Meth_1_0 c (kd_lt h (by decide)).2 h
theorem la_105 : ∀ k, k < 20 → kd (75 + 3 * k) = 7 := by decide +kernel
theorem la_106 : ∀ k, k < 8 → kd (142 + 2 * k) = 9 := by decide +kernel
theorem la_107 : ∀ k, k < 10 → kd (158 + k) = 10 := by decide +kernel
theorem la_108 : ∀ k, k < 8 → kd (168 + 2 * k) = 5 := by decide +kernel
end
section
/-! String constants: length and charAt -/
def f_Str_length (w : Nat) (M : ax_M) : Option (Int32 × ax_M) := if 1000 ≤ w ∧ w < 1000 + NST then some (nI (STLEN.getD (w - 1000) 0), M) else none
def f_Str_charAt (w : Nat) (i : Int32) (M : ax_M) : Option (Int32 × ax_M) := if (1000 ≤ w ∧ w < 1000 + NST) ∧ ¬ (i < 0 ∨ STLEN.getD (w - 1000) 0 ≤ i.toNatClampNeg) then some ((STBYT.getD (w - 1000) []).getD i.toNatClampNeg 0, M) else none
theorem st_small : NST = 11 := rfl
def tb_Str_length : List (Nat × Instr × Nat) := [(0, .aload_n 0, 1), (1, .getfield 9, 3), (4, .arraylength, 1), (5, .aload_n 0, 1), (6, .invokevirtual 335, 3), (9, .ishr, 1), (10, .ireturn, 1)]
def Y_Str_length : ax_Y := (⟨"java/lang/String", "length", "()I"⟩, prog_15_method_54_code, 1, some .int, tb_Str_length)
theorem yok_Str_length : yOK Y_Str_length := ⟨by decide +kernel, by decide +kernel, inWG 507 (by decide +kernel) (by decide +kernel), inWG 108 (by decide +kernel) (by decide +kernel), by decide +kernel⟩
def tb_Str_coder : List (Nat × Instr × Nat) := [(0, .getstatic 38, 3), (3, .ifCond .eq 10, 3), (6, .aload_n 0, 1), (7, .getfield 15, 3), (10, .goto 4, 3), (13, .iconst 1, 1), (14, .ireturn, 1)]
def Y_Str_coder : ax_Y := (⟨"java/lang/String", "coder", "()B"⟩, prog_15_method_152_code, 1, some .byte, tb_Str_coder)
theorem yok_Str_coder : yOK Y_Str_coder := ⟨by decide +kernel, by decide +kernel, inWG 511 (by decide +kernel) (by decide +kernel), inWG 108 (by decide +kernel) (by decide +kernel), by decide +kernel⟩
def tb_Str_charAt : List (Nat × Instr × Nat) := [(0, .aload_n 0, 1), (1, .invokevirtual 492, 3), (4, .ifCond .eq 12, 3), (7, .aload_n 0, 1), (8, .getfield 9, 3), (11, .iload_n 1, 1), (12, .invokestatic 495, 3), (15, .ireturn, 1)]
def Y_Str_charAt : ax_Y := (⟨"java/lang/String", "charAt", "(I)C"⟩, prog_15_method_56_code, 2, some .char, tb_Str_charAt)
theorem yok_Str_charAt : yOK Y_Str_charAt := ⟨by decide +kernel, by decide +kernel, inWG 517 (by decide +kernel) (by decide +kernel), inWG 108 (by decide +kernel) (by decide +kernel), by decide +kernel⟩
def tb_Str_isLatin1 : List (Nat × Instr × Nat) := [(0, .getstatic 38, 3), (3, .ifCond .eq 14, 3), (6, .aload_n 0, 1), (7, .getfield 15, 3), (10, .ifCond .ne 7, 3), (13, .iconst 1, 1), (14, .goto 4, 3), (17, .iconst 0, 1), (18, .ireturn, 1)]
def Y_Str_isLatin1 : ax_Y := (⟨"java/lang/String", "isLatin1", "()Z"⟩, prog_15_method_154_code, 1, some .boolean, tb_Str_isLatin1)
theorem yok_Str_isLatin1 : yOK Y_Str_isLatin1 := ⟨by decide +kernel, by decide +kernel, inWG 521 (by decide +kernel) (by decide +kernel), inWG 108 (by decide +kernel) (by decide +kernel), by decide +kernel⟩
def tb_Lat_charAt : List (Nat × Instr × Nat) := [(0, .iload_n 1, 1), (1, .aload_n 0, 1), (2, .arraylength, 1), (3, .invokestatic 9, 3), (6, .aload_n 0, 1), (7, .iload_n 1, 1), (8, .baload, 1), (9, .sipush 255, 3), (12, .iand, 1), (13, .i2c, 1), (14, .ireturn, 1)]
def Y_Lat_charAt : ax_Y := (⟨"java/lang/StringLatin1", "charAt", "([BI)C"⟩, prog_16_method_2_code, 2, some .char, tb_Lat_charAt)
theorem yok_Lat_charAt : yOK Y_Lat_charAt := ⟨by decide +kernel, by decide +kernel, inWG 524 (by decide +kernel) (by decide +kernel), inWG 109 (by decide +kernel) (by decide +kernel), by decide +kernel⟩
def tb_Str_checkIndex : List (Nat × Instr × Nat) := [(0, .iload_n 0, 1), (1, .iload_n 1, 1), (2, .getstatic 1053, 3), (5, .invokestatic 1059, 3), (8, .pop, 1), (9, .return_, 1)]
def Y_Str_checkIndex : ax_Y := (⟨"java/lang/String", "checkIndex", "(II)V"⟩, prog_15_method_155_code, 2, none, tb_Str_checkIndex)
theorem yok_Str_checkIndex : yOK Y_Str_checkIndex := ⟨by decide +kernel, by decide +kernel, inWG 527 (by decide +kernel) (by decide +kernel), inWG 108 (by decide +kernel) (by decide +kernel), by decide +kernel⟩
def tb_Pre_checkIndex : List (Nat × Instr × Nat) := [(0, .iload_n 0, 1), (1, .ifCond .lt 8, 3), (4, .iload_n 0, 1), (5, .iload_n 1, 1), (6, .if_icmp .lt 10, 3), (16, .iload_n 0, 1), (17, .ireturn, 1)]
def Y_Pre_checkIndex : ax_Y := (⟨"jdk/internal/util/Preconditions", "checkIndex", "(IILjava/util/function/BiFunction;)I"⟩, prog_18_method_11_code, 3, some .int, tb_Pre_checkIndex)
theorem yok_Pre_checkIndex : yOK Y_Pre_checkIndex := ⟨by decide +kernel, by decide +kernel, inWG 532 (by decide +kernel) (by decide +kernel), inWG 110 (by decide +kernel) (by decide +kernel), by decide +kernel⟩
theorem ml_Str_335 : mlV "java/lang/String" 335 Y_Str_coder 0 := ⟨⟨yok_Str_coder, by decide +kernel, by decide⟩, Or.inl (inWG 508 (by decide +kernel) (by decide +kernel)), (inWG 509 (by decide +kernel) (by decide +kernel)), (inWG 510 (by decide +kernel) (by decide +kernel))⟩
theorem ml_Str_492 : mlV "java/lang/String" 492 Y_Str_isLatin1 0 := ⟨⟨yok_Str_isLatin1, by decide +kernel, by decide⟩, Or.inl (inWG 518 (by decide +kernel) (by decide +kernel)), (inWG 519 (by decide +kernel) (by decide +kernel)), (inWG 520 (by decide +kernel) (by decide +kernel))⟩
theorem ml_Str_495 : mlS "java/lang/String" 495 Y_Lat_charAt 2 := ⟨⟨yok_Lat_charAt, by decide +kernel, by decide⟩, Or.inl (inWG 522 (by decide +kernel) (by decide +kernel)), (inWG 523 (by decide +kernel) (by decide +kernel))⟩
theorem ml_Lat_9 : mlS "java/lang/StringLatin1" 9 Y_Str_checkIndex 2 := ⟨⟨yok_Str_checkIndex, by decide +kernel, by decide⟩, Or.inl (inWG 525 (by decide +kernel) (by decide +kernel)), (inWG 526 (by decide +kernel) (by decide +kernel))⟩
theorem ml_Str_1059 : mlS "java/lang/String" 1059 Y_Pre_checkIndex 3 := ⟨⟨yok_Pre_checkIndex, by decide +kernel, by decide⟩, Or.inl (inWG 530 (by decide +kernel) (by decide +kernel)), (inWG 531 (by decide +kernel) (by decide +kernel))⟩
section AXT
variable {l : Launch} {g : ax_G} {ly : Bool} {Y : ax_Y} {d : Nat} {res : ax_R} {pc : Nat} {Ls : List (Nat × ax_V)} {st : List ax_V} {M : ax_M}
theorem cv_st {i : Nat} (hi : i < NST) : cv g (vA (1000 + i)) = .ref (gK g i) := by
  have h0 := st_small
  rw [cv_A, rv_pos (by omega)]
  unfold am
  rw [if_neg (by omega), if_neg (by omega), if_pos (by omega), show 1000 + i - 1000 = i by omega]
theorem cv_sv (i : Nat) : cv g (vA (2000 + i)) = .ref (gV g i) := by
  rw [cv_A, rv_pos (by omega)]
  unfold am
  rw [if_neg (by omega), if_neg (by omega), if_neg (by omega), show 2000 + i - 2000 = i by omega]
theorem A_ldcS {idx i : Nat} (hd : codeAt Y pc = some (.ldc idx, 2)) (h1 : STO i = (yn Y).cls) (h2 : STI i = idx) (hi : i < NST) (K : AW l g ly Y d res (pc + 2) Ls (vA (1000 + i) :: st) M) : AW l g ly Y d res pc Ls st M := by
  intro p e R s m args below meth c0 Q n0 kc ks F hR hN hret H locs ls hH hS hl
  have hs := F.2.2.2.2.2.1
  have h3 := hs.2.2.1 i hi
  rw [h1, h2] at h3
  have h9 := K p e R s m args below meth c0 Q n0 kc ks F hR hN hret H locs ls hH hS hl
  rw [List.map_cons, cv_st hi] at h9
  exact va_ldcS F.1 F.2.1 F.2.2.2.1 h3 (cd hd F.2.2.2.2.2.2.2) h9
theorem A_strVal {i : Nat} (hd : codeAt Y pc = some (.getfield 9, 3)) (hy : (yn Y).cls = "java/lang/String") (hi : i < NST) (K : AW l g ly Y d res (pc + 3) Ls (vA (2000 + i) :: st) M) : AW l g ly Y d res pc Ls (vA (1000 + i) :: st) M := by
  intro p e R s m args below meth c0 Q n0 kc ks F hR hN hret H locs ls hH hS hl
  have hs := F.2.2.2.2.2.1
  have h9 := K p e R s m args below meth c0 Q n0 kc ks F hR hN hret H locs ls hH hS hl
  rw [List.map_cons, cv_sv] at h9
  rw [List.map_cons, cv_st hi]
  have ho := F.2.2.2.1
  rw [hy] at ho
  exact vk_getf F.1 F.2.1 (hs.2.2.2.2.2.2.1.1 i hi).2.2.1 hS ho (F.2.2.2.2.1 _ (inWG 1519 (by decide +kernel) (by decide +kernel))) (fun _ h => h) (cd hd F.2.2.2.2.2.2.2) h9
theorem A_strCod {i : Nat} (hd : codeAt Y pc = some (.getfield 15, 3)) (hy : (yn Y).cls = "java/lang/String") (hi : i < NST) (K : AW l g ly Y d res (pc + 3) Ls (vI 0 :: st) M) : AW l g ly Y d res pc Ls (vA (1000 + i) :: st) M := by
  intro p e R s m args below meth c0 Q n0 kc ks F hR hN hret H locs ls hH hS hl
  have hs := F.2.2.2.2.2.1
  have h9 := K p e R s m args below meth c0 Q n0 kc ks F hR hN hret H locs ls hH hS hl
  rw [List.map_cons, cv_st hi]
  have ho := F.2.2.2.1
  rw [hy] at ho
  exact vk_getf F.1 F.2.1 (hs.2.2.2.2.2.2.1.1 i hi).2.1 hS ho (F.2.2.2.2.1 _ (inWG 1520 (by decide +kernel) (by decide +kernel))) (fun _ h => h) (cd hd F.2.2.2.2.2.2.2) h9
theorem A_strLen {i : Nat} (hd : codeAt Y pc = some (.arraylength, 1)) (hi : i < NST) (K : AW l g ly Y d res (pc + 1) Ls (vI (nI (STLEN.getD i 0)) :: st) M) : AW l g ly Y d res pc Ls (vA (2000 + i) :: st) M := by
  intro p e R s m args below meth c0 Q n0 kc ks F hR hN hret H locs ls hH hS hl
  have hs := F.2.2.2.2.2.1
  have h9 := K p e R s m args below meth c0 Q n0 kc ks F hR hN hret H locs ls hH hS hl
  rw [List.map_cons, cv_sv]
  exact va_tlen F.1 F.2.1 (hs.2.2.2.2.2.2.1.1 i hi).2.2.2 hS rfl (cd hd F.2.2.2.2.2.2.2) h9
theorem A_strByt {i : Nat} {j : Int32} (hd : codeAt Y pc = some (.baload, 1)) (hi : i < NST) (hj : vp_in j (STLEN.getD i 0)) (K : AW l g ly Y d res (pc + 1) Ls (vI ((STBYT.getD i []).getD j.toNatClampNeg 0) :: st) M) : AW l g ly Y d res pc Ls (vI j :: vA (2000 + i) :: st) M := by
  intro p e R s m args below meth c0 Q n0 kc ks F hR hN hret H locs ls hH hS hl
  have hs := F.2.2.2.2.2.1
  have h9 := K p e R s m args below meth c0 Q n0 kc ks F hR hN hret H locs ls hH hS hl
  rw [List.map_cons, List.map_cons, cv_sv]
  exact va_tb F.1 F.2.1 (hs.2.2.2.2.2.2.1.1 i hi).2.2.2 hS hj rfl (cd hd F.2.2.2.2.2.2.2) h9
theorem A_getCS (hd : codeAt Y pc = some (.getstatic 38, 3)) (hy : (yn Y).cls = "java/lang/String") (K : AW l g ly Y d res (pc + 3) Ls (vI 1 :: st) M) : AW l g ly Y d res pc Ls st M := by
  intro p e R s m args below meth c0 Q n0 kc ks F hR hN hret H locs ls hH hS hl
  have hs := F.2.2.2.2.2.1
  have h9 := K p e R s m args below meth c0 Q n0 kc ks F hR hN hret H locs ls hH hS hl
  have ho := F.2.2.2.1
  rw [hy] at ho
  exact va_gets F.1 F.2.1 hs.2.2.2.2.2.2.2.2.1 hS ho (F.2.2.2.2.1 _ (inWG 512 (by decide +kernel) (by decide +kernel))) (fun _ h => h) (cd hd F.2.2.2.2.2.2.2) h9
theorem A_getSF (hd : codeAt Y pc = some (.getstatic 1053, 3)) (hy : (yn Y).cls = "java/lang/String") (K : ∀ r, AW l g ly Y d res (pc + 3) Ls (vA r :: st) M) : AW l g ly Y d res pc Ls st M := by
  intro p e R s m args below meth c0 Q n0 kc ks F hR hN hret H locs ls hH hS hl
  have hs := F.2.2.2.2.2.1
  have ho := F.2.2.2.1
  rw [hy] at ho
  rcases hs.2.2.2.2.2.2.2.2.2 with hz | hz
  · have h9 := K 0 p e R s m args below meth c0 Q n0 kc ks F hR hN hret H locs ls hH hS hl
    exact va_gets F.1 F.2.1 hz hS ho (F.2.2.2.2.1 _ (inWG 528 (by decide +kernel) (by decide +kernel))) (fun _ h => h) (cd hd F.2.2.2.2.2.2.2) h9
  · have h9 := K (2000 + 1000) p e R s m args below meth c0 Q n0 kc ks F hR hN hret H locs ls hH hS hl
    rw [List.map_cons, cv_sv] at h9
    exact va_gets F.1 F.2.1 hz hS ho (F.2.2.2.2.1 _ (inWG 528 (by decide +kernel) (by decide +kernel))) (fun _ h => h) (cd hd F.2.2.2.2.2.2.2) h9
theorem A_callW {idx n i0 r d' : Nat} {Z : ax_Y} {as st' : List ax_V} {r1 : ax_R} (hd : codeAt Y pc = some (.invokevirtual idx, 3)) (hm : mlV (yn Y).cls idx Z n) (hc : (yn Z).cls = "java/lang/String") (hi0 : i0 < NST) (hr0 : r = 1000 + i0) (hlen : as.length = n) (hst : st = as.reverse ++ vA r :: st') (hcat : ax_wd st' ≤ 8) (hd' : d' + 1 ≤ d)
    (hC : Ctr l g ly Z d' (vA r :: as) M r1) (hge : ly = true ∨ gn r1.2 ≤ gn res.2) (K : AW l g ly Y d res (pc + 3) Ls (r1.1.toList ++ st') r1.2) : AW l g ly Y d res pc Ls st M := by
  intro p e R s m args below meth c0 Q n0 kc ks F hR hN hret H locs ls hH hS hl
  obtain ⟨⟨hZ, hdesc, hyl⟩, hlk, hin, hsel⟩ := hm
  obtain ⟨hC1, hM⟩ := hC
  have hs := F.2.2.2.2.2.1
  have hts := F.2.2.2.2.1
  have hrv : rv g r = .ref (am g r) := rv_pos (by omega)
  have hrecv : ∃ cell : Cell, H[am g r]? = some cell ∧ cell.vm.isStatics = false ∧ s.vm.findClass (yn Z).cls = some cell.cls := by
    have h1 : rv g r = .ref (gK g i0) := by rw [hr0]; exact cv_st hi0
    have h2 : am g r = gK g i0 := Value.ref.inj (hrv.symm.trans h1)
    rw [h2, hc]
    exact vk_recv hs.2.2.2.2.2.2.1 hi0 hS
  have hpre := ax_pre (as := (vA r :: as).map (cv g)) hs hS hH
  have hrm := ax_rm (a := al ly (gn M) (gn r1.2)) (b := al ly (SZ (gn M)) (SZ (gn r1.2))) hR hd' hyl
  have hf := ax_room (r1 := r1) hN hC1 hge
  subst hst
  have hstk : (as.reverse ++ vA r :: st').map (cv g) = (as.map (cv g)).reverse ++ .ref (am g r) :: st'.map (cv g) := by
    rw [List.map_append, List.map_reverse, List.map_cons, cv_A, hrv]
  have hargs : (vA r :: as).map (cv g) = .ref (am g r) :: as.map (cv g) := by rw [List.map_cons, cv_A, hrv]
  rw [hargs] at hM hpre
  have hpv : PreV s H (yn Z).cls (am g r) (va_Pc (.ref (am g r) :: as.map (cv g)) (fun U => sok g U ∧ hok g ly M U.heap)) (as.map (cv g)) := ⟨hpre.1, hrecv, hpre.2⟩
  have hdd : (yn Z).cls ≠ "java/lang/invoke/MethodHandle" ∧ (yn Z).cls ≠ "java/lang/invoke/VarHandle" ∧ (parseMethodDescriptor (yn Z).desc).map (fun d => d.parameters.length) = some n := ⟨hZ.2.2.2.2.1, hZ.2.2.2.2.2, hdesc⟩
  have hrun : va_Run p l e R s m args below meth c0 H locs (kc + al ly n0 (gn M)) (ks + al ly (SZ n0) (SZ (gn M))) (al ly (gn M) (gn r1.2)) (al ly (SZ (gn M)) (SZ (gn r1.2))) (F0 m pc ls ((as.reverse ++ vA r :: st').map (cv g))) (st'.map (cv g)) (Qx g ly r1 (Value.ref (am g r) :: as.map (cv g)).toArray) (ax_A g) := by
    rcases hlk with hlk | ⟨host, hlk⟩
    · exact va_runV (As := as.map (cv g)) (rest := st'.map (cv g)) ⟨F.1, F.2.1, F.2.2.1, F.2.2.2.1, hts⟩ hM ⟨callB_of n hts (ax_good hZ) rfl rfl rfl (hts _ hZ.2.2.2.1) (hts _ hlk) hdd hrm, hts _ hin, hts _ hsel⟩ hpv rfl (by rw [List.length_map]; exact hlen) hl.1 hstk (mono0 (by rw [ax_cats]; exact hcat)) (cd hd F.2.2.2.2.2.2.2) hf
    · exact va_runVN (As := as.map (cv g)) (rest := st'.map (cv g)) ⟨F.1, F.2.1, F.2.2.1, F.2.2.2.1, hts⟩ hM ⟨va_cnB n hts (ax_good hZ) rfl rfl rfl (hs.2.1 _ hlk) (hts _ hZ.2.2.2.1) hdd hrm, hts _ hin, hts _ hsel⟩ hpv rfl (by rw [List.length_map]; exact hlen) hl.1 hstk (mono0 (by rw [ax_cats]; exact hcat)) (cd hd F.2.2.2.2.2.2.2) hf
  exact ax_after hrun hS (fun H1 locs1 hH1 hS1 => ax_K F hR hN hret hC1 hge K hH1 hS1 hl)
theorem c_Pre_checkIndex {i n : Int32} {r : Nat} (h1 : ¬ i < 0) (h2 : i < n) : Ctr l g ly Y_Pre_checkIndex 1 [vI i, vI n, vA r] M (some (vI i), M) := by
  refine Ctr.ofAW yok_Pre_checkIndex (Nat.le_of_ble_eq_true rfl) (Or.inr (Nat.le_refl _)) ?_
  show AW l g ly Y_Pre_checkIndex 1 (some (vI i), M) 0 [(0, vI i), (1, vI n), (2, vA r)] [] M
  refine A_iload_n 0 rfl rfl rfl ?_
  refine A_if_lt (tgt := 9) rfl (by decide) (fun h => absurd h h1) (fun _ => ?_)
  refine A_iload_n 0 rfl rfl rfl ?_
  refine A_iload_n 1 rfl rfl rfl ?_
  refine A_icmp_lt (tgt := 16) rfl (by decide) (fun _ => ?_) (fun h => absurd h2 h)
  refine A_iload_n 0 rfl rfl rfl ?_
  exact A_iret rfl rfl
theorem c_Str_checkIndex {i n : Int32} (h1 : ¬ i < 0) (h2 : i < n) : Ctr l g ly Y_Str_checkIndex 2 [vI i, vI n] M (none, M) := by
  refine Ctr.ofAW yok_Str_checkIndex (Nat.le_of_ble_eq_true rfl) (Or.inr (Nat.le_refl _)) ?_
  show AW l g ly Y_Str_checkIndex 2 (none, M) 0 [(0, vI i), (1, vI n)] [] M
  refine A_iload_n 0 rfl rfl rfl ?_
  refine A_iload_n 1 rfl rfl rfl ?_
  refine A_getSF rfl rfl (fun r => ?_)
  refine A_callS (as := [vI i, vI n, vA r]) (st' := []) (r1 := (some (vI i), M)) rfl ml_Str_1059 rfl rfl (Nat.le_of_ble_eq_true rfl) (by decide) (c_Pre_checkIndex h1 h2) (Or.inr (Nat.le_refl _)) ?_
  refine A_stk (st' := [vI i]) rfl ?_
  refine A_pop rfl rfl ?_
  exact A_vret rfl rfl
theorem c_Str_coder {i : Nat} (hi : i < NST) : Ctr l g ly Y_Str_coder 1 [vA (1000 + i)] M (some (vI 0), M) := by
  refine Ctr.ofAW yok_Str_coder (Nat.le_of_ble_eq_true rfl) (Or.inr (Nat.le_refl _)) ?_
  show AW l g ly Y_Str_coder 1 (some (vI 0), M) 0 [(0, vA (1000 + i))] [] M
  refine A_getCS rfl rfl ?_
  refine A_if_eq (tgt := 13) rfl (by decide) (fun h => absurd h (by decide)) (fun _ => ?_)
  refine A_aload_n 0 rfl rfl rfl ?_
  refine A_strCod rfl rfl hi ?_
  refine A_goto (tgt := 14) rfl (by decide) ?_
  exact A_nret rfl rfl (by decide)
theorem c_Str_isLatin1 {i : Nat} (hi : i < NST) : Ctr l g ly Y_Str_isLatin1 1 [vA (1000 + i)] M (some (vI 1), M) := by
  refine Ctr.ofAW yok_Str_isLatin1 (Nat.le_of_ble_eq_true rfl) (Or.inr (Nat.le_refl _)) ?_
  show AW l g ly Y_Str_isLatin1 1 (some (vI 1), M) 0 [(0, vA (1000 + i))] [] M
  refine A_getCS rfl rfl ?_
  refine A_if_eq (tgt := 17) rfl (by decide) (fun h => absurd h (by decide)) (fun _ => ?_)
  refine A_aload_n 0 rfl rfl rfl ?_
  refine A_strCod rfl rfl hi ?_
  refine A_if_ne (tgt := 17) rfl (by decide) (fun h => absurd rfl h) (fun _ => ?_)
  refine A_iconst (v := 1) rfl (by decide) ?_
  refine A_goto (tgt := 18) rfl (by decide) ?_
  exact A_zret rfl rfl (Or.inr rfl)
theorem st_bytes : ∀ i, i < NST → ∀ j, j < STLEN.getD i 0 → ((((STBYT.getD i []).getD j 0 &&& 255).toUInt32 % 65536).toInt32 = (STBYT.getD i []).getD j 0) ∧ narrow .char (.int ((STBYT.getD i []).getD j 0)) = .int ((STBYT.getD i []).getD j 0) := by decide +kernel
theorem st_len31 : ∀ i, i < NST → STLEN.getD i 0 < 10 := by decide +kernel
theorem vin_ni {j : Int32} {n : Nat} (h : vp_in j n) (hn : n < 2 ^ 31) : ¬ j < 0 ∧ j < nI n := by
  obtain ⟨k, hk, rfl⟩ := vp_in_of h hn
  exact ⟨nI_pos (by omega), nI_lt hk hn⟩
theorem c_Lat_charAt {i : Nat} {j : Int32} (hi : i < NST) (hj : vp_in j (STLEN.getD i 0)) : Ctr l g ly Y_Lat_charAt 3 [vA (2000 + i), vI j] M (some (vI ((STBYT.getD i []).getD j.toNatClampNeg 0)), M) := by
  obtain ⟨h1, h2⟩ := vin_ni hj (by have := st_len31 i hi; omega)
  obtain ⟨h3, h4⟩ := st_bytes i hi _ (vin_lt hj)
  refine Ctr.ofAW yok_Lat_charAt (Nat.le_of_ble_eq_true rfl) (Or.inr (Nat.le_refl _)) ?_
  show AW l g ly Y_Lat_charAt 3 (some (vI ((STBYT.getD i []).getD j.toNatClampNeg 0)), M) 0 [(0, vA (2000 + i)), (1, vI j)] [] M
  refine A_iload_n 1 rfl rfl rfl ?_
  refine A_aload_n 0 rfl rfl rfl ?_
  refine A_strLen rfl hi ?_
  refine A_callS (as := [vI j, vI (nI (STLEN.getD i 0))]) (st' := []) (r1 := (none, M)) rfl ml_Lat_9 rfl rfl (Nat.le_of_ble_eq_true rfl) (by decide) (c_Str_checkIndex h1 h2) (Or.inr (Nat.le_refl _)) ?_
  refine A_stk (st' := []) rfl ?_
  refine A_aload_n 0 rfl rfl rfl ?_
  refine A_iload_n 1 rfl rfl rfl ?_
  refine A_strByt rfl hi hj ?_
  refine A_sipush (v := 255) rfl (by decide) ?_
  refine A_iand rfl ?_
  refine A_i2c rfl ?_
  refine A_nI h3 ?_
  exact A_nret rfl rfl h4
theorem c_Str_length {i : Nat} (hi : i < NST) : Ctr l g ly Y_Str_length 3 [vA (1000 + i)] M (some (vI (nI (STLEN.getD i 0))), M) := by
  refine Ctr.ofAW yok_Str_length (Nat.le_of_ble_eq_true rfl) (Or.inr (Nat.le_refl _)) ?_
  show AW l g ly Y_Str_length 3 (some (vI (nI (STLEN.getD i 0))), M) 0 [(0, vA (1000 + i))] [] M
  refine A_aload_n 0 rfl rfl rfl ?_
  refine A_strVal rfl rfl hi ?_
  refine A_strLen rfl hi ?_
  refine A_aload_n 0 rfl rfl rfl ?_
  refine A_callW (i0 := i) (as := []) (st' := [vI (nI (STLEN.getD i 0))]) (r1 := (some (vI 0), M)) rfl ml_Str_335 rfl hi rfl rfl rfl (Nat.le_of_ble_eq_true rfl) (by decide) (c_Str_coder hi) (Or.inr (Nat.le_refl _)) ?_
  refine A_stk (st' := [vI 0, vI (nI (STLEN.getD i 0))]) rfl ?_
  refine A_ishr rfl ?_
  refine A_nI (sb_shr0 _) ?_
  exact A_iret rfl rfl
theorem c_Str_charAt {i : Nat} {j : Int32} (hi : i < NST) (hj : vp_in j (STLEN.getD i 0)) : Ctr l g ly Y_Str_charAt 4 [vA (1000 + i), vI j] M (some (vI ((STBYT.getD i []).getD j.toNatClampNeg 0)), M) := by
  obtain ⟨h3, h4⟩ := st_bytes i hi _ (vin_lt hj)
  refine Ctr.ofAW yok_Str_charAt (Nat.le_of_ble_eq_true rfl) (Or.inr (Nat.le_refl _)) ?_
  show AW l g ly Y_Str_charAt 4 (some (vI ((STBYT.getD i []).getD j.toNatClampNeg 0)), M) 0 [(0, vA (1000 + i)), (1, vI j)] [] M
  refine A_aload_n 0 rfl rfl rfl ?_
  refine A_callW (i0 := i) (as := []) (st' := []) (r1 := (some (vI 1), M)) rfl ml_Str_492 rfl hi rfl rfl rfl (Nat.le_of_ble_eq_true rfl) (by decide) (c_Str_isLatin1 hi) (Or.inr (Nat.le_refl _)) ?_
  refine A_stk (st' := [vI 1]) rfl ?_
  refine A_if_eq (tgt := 16) rfl (by decide) (fun h => absurd h (by decide)) (fun _ => ?_)
  refine A_aload_n 0 rfl rfl rfl ?_
  refine A_strVal rfl rfl hi ?_
  refine A_iload_n 1 rfl rfl rfl ?_
  refine A_callS (as := [vA (2000 + i), vI j]) (st' := []) (r1 := (some (vI ((STBYT.getD i []).getD j.toNatClampNeg 0)), M)) rfl ml_Str_495 rfl rfl (Nat.le_of_ble_eq_true rfl) (by decide) (c_Lat_charAt hi hj) (Or.inr (Nat.le_refl _)) ?_
  refine A_stk (st' := [vI ((STBYT.getD i []).getD j.toNatClampNeg 0)]) rfl ?_
  exact A_nret rfl rfl h4
theorem A_strLength {idx w : Nat} {x : Int32} {M' : ax_M} {st' : List ax_V} (hd : codeAt Y pc = some (.invokevirtual idx, 3)) (hl : Cond.methodLink (yn Y).cls idx ⟨"java/lang/String", "length", "()I"⟩ ∈ WG) (hcat : ax_wd st' ≤ 8) (hd' : 6 ≤ d) (h : f_Str_length w M = some (x, M')) (K : AW l g ly Y d res (pc + 3) Ls (vI x :: st') M') : AW l g ly Y d res pc Ls (vA w :: st') M := by
  unfold f_Str_length at h
  split at h
  next hw =>
    obtain ⟨rfl, rfl⟩ := leaf h
    obtain ⟨i, rfl⟩ : ∃ i, w = 1000 + i := ⟨w - 1000, by omega⟩
    have hi : i < NST := by omega
    rw [show 1000 + i - 1000 = i by omega] at K
    intro p e R s m args below meth c0 Q n0 kc ks F hR hN hret H locs ls hH hS hl2
    exact A_callW (i0 := i) (as := []) (st' := st') (r1 := (some (vI (nI (STLEN.getD i 0))), M)) hd ⟨⟨yok_Str_length, by decide +kernel, by decide⟩, Or.inl hl, (inWG 505 (by decide +kernel) (by decide +kernel)), (inWG 506 (by decide +kernel) (by decide +kernel))⟩ rfl hi rfl rfl rfl hcat (by omega) (c_Str_length hi) (hN.1.imp id (fun z => z.2)) K p e R s m args below meth c0 Q n0 kc ks F hR hN hret H locs ls hH hS hl2
  next => cases h
theorem A_strCharAt {idx w : Nat} {i x : Int32} {M' : ax_M} {st' : List ax_V} (hd : codeAt Y pc = some (.invokevirtual idx, 3)) (hl : Cond.methodLink (yn Y).cls idx ⟨"java/lang/String", "charAt", "(I)C"⟩ ∈ WG) (hcat : ax_wd st' ≤ 8) (hd' : 6 ≤ d) (h : f_Str_charAt w i M = some (x, M')) (K : AW l g ly Y d res (pc + 3) Ls (vI x :: st') M') : AW l g ly Y d res pc Ls (vI i :: vA w :: st') M := by
  unfold f_Str_charAt at h
  split at h
  next hw =>
    obtain ⟨rfl, rfl⟩ := leaf h
    obtain ⟨hw, hj⟩ := hw
    obtain ⟨k, rfl⟩ : ∃ k, w = 1000 + k := ⟨w - 1000, by omega⟩
    have hi : k < NST := by omega
    rw [show 1000 + k - 1000 = k by omega] at K hj
    intro p e R s m args below meth c0 Q n0 kc ks F hR hN hret H locs ls hH hS hl2
    exact A_callW (n := 1) (i0 := k) (as := [vI i]) (st' := st') (r1 := (some (vI ((STBYT.getD k []).getD i.toNatClampNeg 0)), M)) hd ⟨⟨yok_Str_charAt, by decide +kernel, by decide⟩, Or.inl hl, (inWG 515 (by decide +kernel) (by decide +kernel)), (inWG 516 (by decide +kernel) (by decide +kernel))⟩ rfl hi rfl rfl rfl hcat (by omega) (c_Str_charAt hi hj) (hN.1.imp id (fun z => z.2)) K p e R s m args below meth c0 Q n0 kc ks F hR hN hret H locs ls hH hS hl2
  next => cases h
end AXT
end
