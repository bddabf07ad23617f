-- ===== PART A: goes FIRST, ahead of the names: the tables' words, and 'selects' of the private methods out of them =====
/-- a private method of a class that the tables say can be made, by its rows of tables_1 -/
def lw_okq (q : MethodName × Nat) : Prop := (q.1.cls ≠ "java/lang/invoke/MethodHandle" ∧ q.1.cls ≠ "java/lang/invoke/VarHandle") ∧ Cond.instantiable q.1.cls q.2 ∈ tables_1 ∧ Cond.privateMethod q.1 ∈ tables_1 ∧ Cond.instanceMethod q.1 ∈ tables_1
theorem lw_p0 : lw_okq (⟨"HeadCount", "append", "(I)V"⟩, 6) := ⟨⟨by decide +kernel, by decide +kernel⟩, List.mem_of_getElem? (i := 19) (by decide +kernel), List.mem_of_getElem? (i := 120) (by decide +kernel), List.mem_of_getElem? (i := 121) (by decide +kernel)⟩
theorem lw_p1 : lw_okq (⟨"HeadCount$Parser", "start", "([CI)V"⟩, 8) := ⟨⟨by decide +kernel, by decide +kernel⟩, List.mem_of_getElem? (i := 27) (by decide +kernel), List.mem_of_getElem? (i := 144) (by decide +kernel), List.mem_of_getElem? (i := 145) (by decide +kernel)⟩
theorem lw_p2 : lw_okq (⟨"HeadCount$Parser", "row", "(CI)LHeadCount$Node;"⟩, 8) := ⟨⟨by decide +kernel, by decide +kernel⟩, List.mem_of_getElem? (i := 27) (by decide +kernel), List.mem_of_getElem? (i := 148) (by decide +kernel), List.mem_of_getElem? (i := 149) (by decide +kernel)⟩
theorem lw_p3 : lw_okq (⟨"HeadCount$Parser", "item", "(CI)LHeadCount$Node;"⟩, 8) := ⟨⟨by decide +kernel, by decide +kernel⟩, List.mem_of_getElem? (i := 27) (by decide +kernel), List.mem_of_getElem? (i := 152) (by decide +kernel), List.mem_of_getElem? (i := 153) (by decide +kernel)⟩
theorem lw_p4 : lw_okq (⟨"HeadCount$Parser", "one", "(I)LHeadCount$Node;"⟩, 8) := ⟨⟨by decide +kernel, by decide +kernel⟩, List.mem_of_getElem? (i := 27) (by decide +kernel), List.mem_of_getElem? (i := 156) (by decide +kernel), List.mem_of_getElem? (i := 157) (by decide +kernel)⟩
theorem lw_p5 : lw_okq (⟨"java/lang/Throwable", "fillInStackTrace", "(I)Ljava/lang/Throwable;"⟩, 6) := ⟨⟨by decide +kernel, by decide +kernel⟩, List.mem_of_getElem? (i := 200) (by decide +kernel), List.mem_of_getElem? (i := 198) (by decide +kernel), List.mem_of_getElem? (i := 199) (by decide +kernel)⟩
theorem lw_p6 : lw_okq (⟨"HeadCount$Parser", "peek", "()C"⟩, 8) := ⟨⟨by decide +kernel, by decide +kernel⟩, List.mem_of_getElem? (i := 27) (by decide +kernel), List.mem_of_getElem? (i := 229) (by decide +kernel), List.mem_of_getElem? (i := 230) (by decide +kernel)⟩
theorem lw_p7 : lw_okq (⟨"HeadCount$Parser", "not", "(I)LHeadCount$Node;"⟩, 8) := ⟨⟨by decide +kernel, by decide +kernel⟩, List.mem_of_getElem? (i := 27) (by decide +kernel), List.mem_of_getElem? (i := 233) (by decide +kernel), List.mem_of_getElem? (i := 234) (by decide +kernel)⟩
theorem lw_p8 : lw_okq (⟨"HeadCount$Parser", "next", "()C"⟩, 8) := ⟨⟨by decide +kernel, by decide +kernel⟩, List.mem_of_getElem? (i := 27) (by decide +kernel), List.mem_of_getElem? (i := 237) (by decide +kernel), List.mem_of_getElem? (i := 238) (by decide +kernel)⟩
theorem lw_p9 : lw_okq (⟨"HeadCount$Parser", "make", "(C)LHeadCount$Node;"⟩, 8) := ⟨⟨by decide +kernel, by decide +kernel⟩, List.mem_of_getElem? (i := 27) (by decide +kernel), List.mem_of_getElem? (i := 241) (by decide +kernel), List.mem_of_getElem? (i := 242) (by decide +kernel)⟩
theorem lw_p10 : lw_okq (⟨"HeadCount$Parser", "quantified", "(I)LHeadCount$Node;"⟩, 8) := ⟨⟨by decide +kernel, by decide +kernel⟩, List.mem_of_getElem? (i := 27) (by decide +kernel), List.mem_of_getElem? (i := 282) (by decide +kernel), List.mem_of_getElem? (i := 283) (by decide +kernel)⟩
theorem lw_p11 : lw_okq (⟨"HeadCount$Parser", "bracketed", "(I)LHeadCount$Node;"⟩, 8) := ⟨⟨by decide +kernel, by decide +kernel⟩, List.mem_of_getElem? (i := 27) (by decide +kernel), List.mem_of_getElem? (i := 363) (by decide +kernel), List.mem_of_getElem? (i := 364) (by decide +kernel)⟩
theorem lw_p12 : lw_okq (⟨"HeadCount$Parser", "take", "(C)Z"⟩, 8) := ⟨⟨by decide +kernel, by decide +kernel⟩, List.mem_of_getElem? (i := 27) (by decide +kernel), List.mem_of_getElem? (i := 367) (by decide +kernel), List.mem_of_getElem? (i := 368) (by decide +kernel)⟩
theorem lw_p13 : lw_okq (⟨"HeadCount$Parser", "comparisonOfSets", "(I)LHeadCount$Node;"⟩, 8) := ⟨⟨by decide +kernel, by decide +kernel⟩, List.mem_of_getElem? (i := 27) (by decide +kernel), List.mem_of_getElem? (i := 371) (by decide +kernel), List.mem_of_getElem? (i := 372) (by decide +kernel)⟩
theorem lw_p14 : lw_okq (⟨"HeadCount$Parser", "startsWithDivisor", "()Z"⟩, 8) := ⟨⟨by decide +kernel, by decide +kernel⟩, List.mem_of_getElem? (i := 27) (by decide +kernel), List.mem_of_getElem? (i := 375) (by decide +kernel), List.mem_of_getElem? (i := 376) (by decide +kernel)⟩
theorem lw_p15 : lw_okq (⟨"HeadCount$Parser", "number", "()I"⟩, 8) := ⟨⟨by decide +kernel, by decide +kernel⟩, List.mem_of_getElem? (i := 27) (by decide +kernel), List.mem_of_getElem? (i := 382) (by decide +kernel), List.mem_of_getElem? (i := 383) (by decide +kernel)⟩
def lw_privs_1 : List (MethodName × Nat) := [(⟨"HeadCount", "append", "(I)V"⟩, 6), (⟨"HeadCount$Parser", "start", "([CI)V"⟩, 8), (⟨"HeadCount$Parser", "row", "(CI)LHeadCount$Node;"⟩, 8), (⟨"HeadCount$Parser", "item", "(CI)LHeadCount$Node;"⟩, 8), (⟨"HeadCount$Parser", "one", "(I)LHeadCount$Node;"⟩, 8), (⟨"java/lang/Throwable", "fillInStackTrace", "(I)Ljava/lang/Throwable;"⟩, 6), (⟨"HeadCount$Parser", "peek", "()C"⟩, 8), (⟨"HeadCount$Parser", "not", "(I)LHeadCount$Node;"⟩, 8), (⟨"HeadCount$Parser", "next", "()C"⟩, 8), (⟨"HeadCount$Parser", "make", "(C)LHeadCount$Node;"⟩, 8), (⟨"HeadCount$Parser", "quantified", "(I)LHeadCount$Node;"⟩, 8), (⟨"HeadCount$Parser", "bracketed", "(I)LHeadCount$Node;"⟩, 8), (⟨"HeadCount$Parser", "take", "(C)Z"⟩, 8), (⟨"HeadCount$Parser", "comparisonOfSets", "(I)LHeadCount$Node;"⟩, 8), (⟨"HeadCount$Parser", "startsWithDivisor", "()Z"⟩, 8), (⟨"HeadCount$Parser", "number", "()I"⟩, 8)]
theorem lw_r1 : ∀ q ∈ lw_privs_1, lw_okq q := List.forall_mem_cons.mpr ⟨lw_p0, List.forall_mem_cons.mpr ⟨lw_p1, List.forall_mem_cons.mpr ⟨lw_p2, List.forall_mem_cons.mpr ⟨lw_p3, List.forall_mem_cons.mpr ⟨lw_p4, List.forall_mem_cons.mpr ⟨lw_p5, List.forall_mem_cons.mpr ⟨lw_p6, List.forall_mem_cons.mpr ⟨lw_p7, List.forall_mem_cons.mpr ⟨lw_p8, List.forall_mem_cons.mpr ⟨lw_p9, List.forall_mem_cons.mpr ⟨lw_p10, List.forall_mem_cons.mpr ⟨lw_p11, List.forall_mem_cons.mpr ⟨lw_p12, List.forall_mem_cons.mpr ⟨lw_p13, List.forall_mem_cons.mpr ⟨lw_p14, List.forall_mem_cons.mpr ⟨lw_p15, fun _ h => absurd h List.not_mem_nil⟩⟩⟩⟩⟩⟩⟩⟩⟩⟩⟩⟩⟩⟩⟩⟩
theorem lw_p16 : lw_okq (⟨"HeadCount$Parser", "divided", "(I)LHeadCount$Node;"⟩, 8) := ⟨⟨by decide +kernel, by decide +kernel⟩, List.mem_of_getElem? (i := 27) (by decide +kernel), List.mem_of_getElem? (i := 386) (by decide +kernel), List.mem_of_getElem? (i := 387) (by decide +kernel)⟩
theorem lw_p17 : lw_okq (⟨"HeadCount$Parser", "addSum", "(LHeadCount$Node;II)V"⟩, 8) := ⟨⟨by decide +kernel, by decide +kernel⟩, List.mem_of_getElem? (i := 27) (by decide +kernel), List.mem_of_getElem? (i := 390) (by decide +kernel), List.mem_of_getElem? (i := 391) (by decide +kernel)⟩
theorem lw_p18 : lw_okq (⟨"HeadCount$Parser", "addPart", "(LHeadCount$Node;II)V"⟩, 8) := ⟨⟨by decide +kernel, by decide +kernel⟩, List.mem_of_getElem? (i := 27) (by decide +kernel), List.mem_of_getElem? (i := 394) (by decide +kernel), List.mem_of_getElem? (i := 395) (by decide +kernel)⟩
theorem lw_p19 : lw_okq (⟨"HeadCount$Parser", "thing", "(I)LHeadCount$Node;"⟩, 8) := ⟨⟨by decide +kernel, by decide +kernel⟩, List.mem_of_getElem? (i := 27) (by decide +kernel), List.mem_of_getElem? (i := 398) (by decide +kernel), List.mem_of_getElem? (i := 399) (by decide +kernel)⟩
theorem lw_p20 : lw_okq (⟨"HeadCount$Parser", "single", "(I)LHeadCount$Node;"⟩, 8) := ⟨⟨by decide +kernel, by decide +kernel⟩, List.mem_of_getElem? (i := 27) (by decide +kernel), List.mem_of_getElem? (i := 402) (by decide +kernel), List.mem_of_getElem? (i := 403) (by decide +kernel)⟩
theorem lw_p21 : lw_okq (⟨"HeadCount$Parser", "boundVariable", "(C)I"⟩, 8) := ⟨⟨by decide +kernel, by decide +kernel⟩, List.mem_of_getElem? (i := 27) (by decide +kernel), List.mem_of_getElem? (i := 406) (by decide +kernel), List.mem_of_getElem? (i := 407) (by decide +kernel)⟩
theorem lw_p22 : lw_okq (⟨"HeadCount$Parser", "comparisonOfSums", "(I)LHeadCount$Node;"⟩, 8) := ⟨⟨by decide +kernel, by decide +kernel⟩, List.mem_of_getElem? (i := 27) (by decide +kernel), List.mem_of_getElem? (i := 410) (by decide +kernel), List.mem_of_getElem? (i := 411) (by decide +kernel)⟩
theorem lw_p23 : lw_okq (⟨"HeadCount", "needSentence", "()V"⟩, 6) := ⟨⟨by decide +kernel, by decide +kernel⟩, List.mem_of_getElem? (i := 19) (by decide +kernel), List.mem_of_getElem? (i := 422) (by decide +kernel), List.mem_of_getElem? (i := 423) (by decide +kernel)⟩
theorem lw_p24 : lw_okq (⟨"HeadCount", "isTrueIn", "(I)Z"⟩, 6) := ⟨⟨by decide +kernel, by decide +kernel⟩, List.mem_of_getElem? (i := 19) (by decide +kernel), List.mem_of_getElem? (i := 448) (by decide +kernel), List.mem_of_getElem? (i := 449) (by decide +kernel)⟩
theorem lw_p25 : lw_okq (⟨"HeadCount", "waysIn", "(I)I"⟩, 6) := ⟨⟨by decide +kernel, by decide +kernel⟩, List.mem_of_getElem? (i := 19) (by decide +kernel), List.mem_of_getElem? (i := 452) (by decide +kernel), List.mem_of_getElem? (i := 453) (by decide +kernel)⟩
theorem lw_p26 : lw_okq (⟨"HeadCount$World", "isTrue", "(LHeadCount$Node;)Z"⟩, 3) := ⟨⟨by decide +kernel, by decide +kernel⟩, List.mem_of_getElem? (i := 75) (by decide +kernel), List.mem_of_getElem? (i := 460) (by decide +kernel), List.mem_of_getElem? (i := 461) (by decide +kernel)⟩
theorem lw_p27 : lw_okq (⟨"HeadCount$World", "anyIs", "(ZLHeadCount$Node;)Z"⟩, 3) := ⟨⟨by decide +kernel, by decide +kernel⟩, List.mem_of_getElem? (i := 75) (by decide +kernel), List.mem_of_getElem? (i := 464) (by decide +kernel), List.mem_of_getElem? (i := 465) (by decide +kernel)⟩
theorem lw_p28 : lw_okq (⟨"HeadCount$World", "anyChoiceMakes", "(ZLHeadCount$Node;)Z"⟩, 3) := ⟨⟨by decide +kernel, by decide +kernel⟩, List.mem_of_getElem? (i := 75) (by decide +kernel), List.mem_of_getElem? (i := 468) (by decide +kernel), List.mem_of_getElem? (i := 469) (by decide +kernel)⟩
theorem lw_p29 : lw_okq (⟨"HeadCount$World", "value", "(I)I"⟩, 3) := ⟨⟨by decide +kernel, by decide +kernel⟩, List.mem_of_getElem? (i := 75) (by decide +kernel), List.mem_of_getElem? (i := 472) (by decide +kernel), List.mem_of_getElem? (i := 473) (by decide +kernel)⟩
theorem lw_p30 : lw_okq (⟨"HeadCount$World", "bind", "(II)V"⟩, 3) := ⟨⟨by decide +kernel, by decide +kernel⟩, List.mem_of_getElem? (i := 75) (by decide +kernel), List.mem_of_getElem? (i := 482) (by decide +kernel), List.mem_of_getElem? (i := 483) (by decide +kernel)⟩
theorem lw_p31 : lw_okq (⟨"HeadCount$World", "isTrueOfSets", "(LHeadCount$Node;)Z"⟩, 3) := ⟨⟨by decide +kernel, by decide +kernel⟩, List.mem_of_getElem? (i := 75) (by decide +kernel), List.mem_of_getElem? (i := 486) (by decide +kernel), List.mem_of_getElem? (i := 487) (by decide +kernel)⟩
def lw_privs_2 : List (MethodName × Nat) := [(⟨"HeadCount$Parser", "divided", "(I)LHeadCount$Node;"⟩, 8), (⟨"HeadCount$Parser", "addSum", "(LHeadCount$Node;II)V"⟩, 8), (⟨"HeadCount$Parser", "addPart", "(LHeadCount$Node;II)V"⟩, 8), (⟨"HeadCount$Parser", "thing", "(I)LHeadCount$Node;"⟩, 8), (⟨"HeadCount$Parser", "single", "(I)LHeadCount$Node;"⟩, 8), (⟨"HeadCount$Parser", "boundVariable", "(C)I"⟩, 8), (⟨"HeadCount$Parser", "comparisonOfSums", "(I)LHeadCount$Node;"⟩, 8), (⟨"HeadCount", "needSentence", "()V"⟩, 6), (⟨"HeadCount", "isTrueIn", "(I)Z"⟩, 6), (⟨"HeadCount", "waysIn", "(I)I"⟩, 6), (⟨"HeadCount$World", "isTrue", "(LHeadCount$Node;)Z"⟩, 3), (⟨"HeadCount$World", "anyIs", "(ZLHeadCount$Node;)Z"⟩, 3), (⟨"HeadCount$World", "anyChoiceMakes", "(ZLHeadCount$Node;)Z"⟩, 3), (⟨"HeadCount$World", "value", "(I)I"⟩, 3), (⟨"HeadCount$World", "bind", "(II)V"⟩, 3), (⟨"HeadCount$World", "isTrueOfSets", "(LHeadCount$Node;)Z"⟩, 3)]
theorem lw_r2 : ∀ q ∈ lw_privs_2, lw_okq q := List.forall_mem_cons.mpr ⟨lw_p16, List.forall_mem_cons.mpr ⟨lw_p17, List.forall_mem_cons.mpr ⟨lw_p18, List.forall_mem_cons.mpr ⟨lw_p19, List.forall_mem_cons.mpr ⟨lw_p20, List.forall_mem_cons.mpr ⟨lw_p21, List.forall_mem_cons.mpr ⟨lw_p22, List.forall_mem_cons.mpr ⟨lw_p23, List.forall_mem_cons.mpr ⟨lw_p24, List.forall_mem_cons.mpr ⟨lw_p25, List.forall_mem_cons.mpr ⟨lw_p26, List.forall_mem_cons.mpr ⟨lw_p27, List.forall_mem_cons.mpr ⟨lw_p28, List.forall_mem_cons.mpr ⟨lw_p29, List.forall_mem_cons.mpr ⟨lw_p30, List.forall_mem_cons.mpr ⟨lw_p31, fun _ h => absurd h List.not_mem_nil⟩⟩⟩⟩⟩⟩⟩⟩⟩⟩⟩⟩⟩⟩⟩⟩
theorem lw_p32 : lw_okq (⟨"HeadCount$World", "elements", "(LHeadCount$Node;)I"⟩, 3) := ⟨⟨by decide +kernel, by decide +kernel⟩, List.mem_of_getElem? (i := 75) (by decide +kernel), List.mem_of_getElem? (i := 490) (by decide +kernel), List.mem_of_getElem? (i := 491) (by decide +kernel)⟩
theorem lw_p33 : lw_okq (⟨"HeadCount$World", "union", "(LHeadCount$Node;)I"⟩, 3) := ⟨⟨by decide +kernel, by decide +kernel⟩, List.mem_of_getElem? (i := 75) (by decide +kernel), List.mem_of_getElem? (i := 494) (by decide +kernel), List.mem_of_getElem? (i := 495) (by decide +kernel)⟩
theorem lw_p34 : lw_okq (⟨"HeadCount$World", "meet", "(LHeadCount$Node;)I"⟩, 3) := ⟨⟨by decide +kernel, by decide +kernel⟩, List.mem_of_getElem? (i := 75) (by decide +kernel), List.mem_of_getElem? (i := 498) (by decide +kernel), List.mem_of_getElem? (i := 499) (by decide +kernel)⟩
theorem lw_p35 : lw_okq (⟨"HeadCount$World", "isTrueOfSum", "(LHeadCount$Node;)Z"⟩, 3) := ⟨⟨by decide +kernel, by decide +kernel⟩, List.mem_of_getElem? (i := 75) (by decide +kernel), List.mem_of_getElem? (i := 502) (by decide +kernel), List.mem_of_getElem? (i := 503) (by decide +kernel)⟩
theorem lw_p36 : lw_okq (⟨"HeadCount$World", "amount", "(LHeadCount$Node;)I"⟩, 3) := ⟨⟨by decide +kernel, by decide +kernel⟩, List.mem_of_getElem? (i := 75) (by decide +kernel), List.mem_of_getElem? (i := 506) (by decide +kernel), List.mem_of_getElem? (i := 507) (by decide +kernel)⟩
theorem lw_p37 : lw_okq (⟨"HeadCountModel", "isSentence", "()Z"⟩, 41) := ⟨⟨by decide +kernel, by decide +kernel⟩, List.mem_of_getElem? (i := 531) (by decide +kernel), List.mem_of_getElem? (i := 682) (by decide +kernel), List.mem_of_getElem? (i := 683) (by decide +kernel)⟩
theorem lw_p38 : lw_okq (⟨"HeadCountModel", "next", "(C)I"⟩, 41) := ⟨⟨by decide +kernel, by decide +kernel⟩, List.mem_of_getElem? (i := 531) (by decide +kernel), List.mem_of_getElem? (i := 686) (by decide +kernel), List.mem_of_getElem? (i := 687) (by decide +kernel)⟩
theorem lw_p39 : lw_okq (⟨"HeadCountModel", "one", "(C)I"⟩, 41) := ⟨⟨by decide +kernel, by decide +kernel⟩, List.mem_of_getElem? (i := 531) (by decide +kernel), List.mem_of_getElem? (i := 690) (by decide +kernel), List.mem_of_getElem? (i := 691) (by decide +kernel)⟩
theorem lw_p40 : lw_okq (⟨"HeadCountModel", "deeper", "(I)Z"⟩, 41) := ⟨⟨by decide +kernel, by decide +kernel⟩, List.mem_of_getElem? (i := 531) (by decide +kernel), List.mem_of_getElem? (i := 694) (by decide +kernel), List.mem_of_getElem? (i := 695) (by decide +kernel)⟩
theorem lw_p41 : lw_okq (⟨"HeadCountModel", "push", "(I)V"⟩, 41) := ⟨⟨by decide +kernel, by decide +kernel⟩, List.mem_of_getElem? (i := 531) (by decide +kernel), List.mem_of_getElem? (i := 698) (by decide +kernel), List.mem_of_getElem? (i := 699) (by decide +kernel)⟩
theorem lw_p42 : lw_okq (⟨"HeadCountModel", "sum", "(C)I"⟩, 41) := ⟨⟨by decide +kernel, by decide +kernel⟩, List.mem_of_getElem? (i := 531) (by decide +kernel), List.mem_of_getElem? (i := 702) (by decide +kernel), List.mem_of_getElem? (i := 703) (by decide +kernel)⟩
theorem lw_p43 : lw_okq (⟨"HeadCountModel", "part", "(C)I"⟩, 41) := ⟨⟨by decide +kernel, by decide +kernel⟩, List.mem_of_getElem? (i := 531) (by decide +kernel), List.mem_of_getElem? (i := 706) (by decide +kernel), List.mem_of_getElem? (i := 707) (by decide +kernel)⟩
theorem lw_p44 : lw_okq (⟨"HeadCountModel", "thing", "(C)I"⟩, 41) := ⟨⟨by decide +kernel, by decide +kernel⟩, List.mem_of_getElem? (i := 531) (by decide +kernel), List.mem_of_getElem? (i := 713) (by decide +kernel), List.mem_of_getElem? (i := 714) (by decide +kernel)⟩
theorem lw_p45 : lw_okq (⟨"HeadCountModel", "emit", "(II)V"⟩, 41) := ⟨⟨by decide +kernel, by decide +kernel⟩, List.mem_of_getElem? (i := 531) (by decide +kernel), List.mem_of_getElem? (i := 720) (by decide +kernel), List.mem_of_getElem? (i := 721) (by decide +kernel)⟩
theorem lw_p46 : lw_okq (⟨"HeadCountModel", "wholePart", "()V"⟩, 41) := ⟨⟨by decide +kernel, by decide +kernel⟩, List.mem_of_getElem? (i := 531) (by decide +kernel), List.mem_of_getElem? (i := 724) (by decide +kernel), List.mem_of_getElem? (i := 725) (by decide +kernel)⟩
theorem lw_p47 : lw_okq (⟨"HeadCountModel", "afterOne", "(C)I"⟩, 41) := ⟨⟨by decide +kernel, by decide +kernel⟩, List.mem_of_getElem? (i := 531) (by decide +kernel), List.mem_of_getElem? (i := 728) (by decide +kernel), List.mem_of_getElem? (i := 729) (by decide +kernel)⟩
def lw_privs_3 : List (MethodName × Nat) := [(⟨"HeadCount$World", "elements", "(LHeadCount$Node;)I"⟩, 3), (⟨"HeadCount$World", "union", "(LHeadCount$Node;)I"⟩, 3), (⟨"HeadCount$World", "meet", "(LHeadCount$Node;)I"⟩, 3), (⟨"HeadCount$World", "isTrueOfSum", "(LHeadCount$Node;)Z"⟩, 3), (⟨"HeadCount$World", "amount", "(LHeadCount$Node;)I"⟩, 3), (⟨"HeadCountModel", "isSentence", "()Z"⟩, 41), (⟨"HeadCountModel", "next", "(C)I"⟩, 41), (⟨"HeadCountModel", "one", "(C)I"⟩, 41), (⟨"HeadCountModel", "deeper", "(I)Z"⟩, 41), (⟨"HeadCountModel", "push", "(I)V"⟩, 41), (⟨"HeadCountModel", "sum", "(C)I"⟩, 41), (⟨"HeadCountModel", "part", "(C)I"⟩, 41), (⟨"HeadCountModel", "thing", "(C)I"⟩, 41), (⟨"HeadCountModel", "emit", "(II)V"⟩, 41), (⟨"HeadCountModel", "wholePart", "()V"⟩, 41), (⟨"HeadCountModel", "afterOne", "(C)I"⟩, 41)]
theorem lw_r3 : ∀ q ∈ lw_privs_3, lw_okq q := List.forall_mem_cons.mpr ⟨lw_p32, List.forall_mem_cons.mpr ⟨lw_p33, List.forall_mem_cons.mpr ⟨lw_p34, List.forall_mem_cons.mpr ⟨lw_p35, List.forall_mem_cons.mpr ⟨lw_p36, List.forall_mem_cons.mpr ⟨lw_p37, List.forall_mem_cons.mpr ⟨lw_p38, List.forall_mem_cons.mpr ⟨lw_p39, List.forall_mem_cons.mpr ⟨lw_p40, List.forall_mem_cons.mpr ⟨lw_p41, List.forall_mem_cons.mpr ⟨lw_p42, List.forall_mem_cons.mpr ⟨lw_p43, List.forall_mem_cons.mpr ⟨lw_p44, List.forall_mem_cons.mpr ⟨lw_p45, List.forall_mem_cons.mpr ⟨lw_p46, List.forall_mem_cons.mpr ⟨lw_p47, fun _ h => absurd h List.not_mem_nil⟩⟩⟩⟩⟩⟩⟩⟩⟩⟩⟩⟩⟩⟩⟩⟩
theorem lw_p48 : lw_okq (⟨"HeadCountModel", "settle", "(II)V"⟩, 41) := ⟨⟨by decide +kernel, by decide +kernel⟩, List.mem_of_getElem? (i := 531) (by decide +kernel), List.mem_of_getElem? (i := 732) (by decide +kernel), List.mem_of_getElem? (i := 733) (by decide +kernel)⟩
theorem lw_p49 : lw_okq (⟨"HeadCountModel", "upper", "()I"⟩, 41) := ⟨⟨by decide +kernel, by decide +kernel⟩, List.mem_of_getElem? (i := 531) (by decide +kernel), List.mem_of_getElem? (i := 736) (by decide +kernel), List.mem_of_getElem? (i := 737) (by decide +kernel)⟩
theorem lw_p50 : lw_okq (⟨"HeadCountModel", "close", "()V"⟩, 41) := ⟨⟨by decide +kernel, by decide +kernel⟩, List.mem_of_getElem? (i := 531) (by decide +kernel), List.mem_of_getElem? (i := 740) (by decide +kernel), List.mem_of_getElem? (i := 741) (by decide +kernel)⟩
theorem lw_p51 : lw_okq (⟨"HeadCountModel", "wholeOne", "()I"⟩, 41) := ⟨⟨by decide +kernel, by decide +kernel⟩, List.mem_of_getElem? (i := 531) (by decide +kernel), List.mem_of_getElem? (i := 744) (by decide +kernel), List.mem_of_getElem? (i := 745) (by decide +kernel)⟩
theorem lw_p52 : lw_okq (⟨"HeadCountModel", "bound", "(C)I"⟩, 41) := ⟨⟨by decide +kernel, by decide +kernel⟩, List.mem_of_getElem? (i := 531) (by decide +kernel), List.mem_of_getElem? (i := 748) (by decide +kernel), List.mem_of_getElem? (i := 749) (by decide +kernel)⟩
theorem lw_p53 : lw_okq (⟨"HeadCountModel", "afterNumber", "(C)I"⟩, 41) := ⟨⟨by decide +kernel, by decide +kernel⟩, List.mem_of_getElem? (i := 531) (by decide +kernel), List.mem_of_getElem? (i := 752) (by decide +kernel), List.mem_of_getElem? (i := 753) (by decide +kernel)⟩
theorem lw_p54 : lw_okq (⟨"HeadCountModel", "afterPart", "(C)I"⟩, 41) := ⟨⟨by decide +kernel, by decide +kernel⟩, List.mem_of_getElem? (i := 531) (by decide +kernel), List.mem_of_getElem? (i := 756) (by decide +kernel), List.mem_of_getElem? (i := 757) (by decide +kernel)⟩
theorem lw_p55 : lw_okq (⟨"HeadCountModel", "single", "(C)I"⟩, 41) := ⟨⟨by decide +kernel, by decide +kernel⟩, List.mem_of_getElem? (i := 531) (by decide +kernel), List.mem_of_getElem? (i := 760) (by decide +kernel), List.mem_of_getElem? (i := 761) (by decide +kernel)⟩
theorem lw_p56 : lw_okq (⟨"HeadCountModel", "wholeSingle", "()I"⟩, 41) := ⟨⟨by decide +kernel, by decide +kernel⟩, List.mem_of_getElem? (i := 531) (by decide +kernel), List.mem_of_getElem? (i := 764) (by decide +kernel), List.mem_of_getElem? (i := 765) (by decide +kernel)⟩
theorem lw_p57 : lw_okq (⟨"HeadCountModel", "afterSingle", "(C)I"⟩, 41) := ⟨⟨by decide +kernel, by decide +kernel⟩, List.mem_of_getElem? (i := 531) (by decide +kernel), List.mem_of_getElem? (i := 768) (by decide +kernel), List.mem_of_getElem? (i := 769) (by decide +kernel)⟩
theorem lw_p58 : lw_okq (⟨"HeadCountModel", "run", "(IZ)Z"⟩, 41) := ⟨⟨by decide +kernel, by decide +kernel⟩, List.mem_of_getElem? (i := 531) (by decide +kernel), List.mem_of_getElem? (i := 779) (by decide +kernel), List.mem_of_getElem? (i := 780) (by decide +kernel)⟩
theorem lw_p59 : lw_okq (⟨"HeadCountModel", "pop", "()I"⟩, 41) := ⟨⟨by decide +kernel, by decide +kernel⟩, List.mem_of_getElem? (i := 531) (by decide +kernel), List.mem_of_getElem? (i := 783) (by decide +kernel), List.mem_of_getElem? (i := 784) (by decide +kernel)⟩
theorem lw_p60 : lw_okq (⟨"HeadCountModel", "ends", "(IIZ)Z"⟩, 41) := ⟨⟨by decide +kernel, by decide +kernel⟩, List.mem_of_getElem? (i := 531) (by decide +kernel), List.mem_of_getElem? (i := 787) (by decide +kernel), List.mem_of_getElem? (i := 788) (by decide +kernel)⟩
theorem lw_p61 : lw_okq (⟨"HeadCountModel", "lastOf", "(I)I"⟩, 41) := ⟨⟨by decide +kernel, by decide +kernel⟩, List.mem_of_getElem? (i := 531) (by decide +kernel), List.mem_of_getElem? (i := 791) (by decide +kernel), List.mem_of_getElem? (i := 792) (by decide +kernel)⟩
theorem lw_p62 : lw_okq (⟨"HeadCountModel", "put", "(I)V"⟩, 41) := ⟨⟨by decide +kernel, by decide +kernel⟩, List.mem_of_getElem? (i := 531) (by decide +kernel), List.mem_of_getElem? (i := 795) (by decide +kernel), List.mem_of_getElem? (i := 796) (by decide +kernel)⟩
theorem lw_p63 : lw_okq (⟨"HeadCountModel", "doSum", "(II)V"⟩, 41) := ⟨⟨by decide +kernel, by decide +kernel⟩, List.mem_of_getElem? (i := 531) (by decide +kernel), List.mem_of_getElem? (i := 799) (by decide +kernel), List.mem_of_getElem? (i := 800) (by decide +kernel)⟩
def lw_privs_4 : List (MethodName × Nat) := [(⟨"HeadCountModel", "settle", "(II)V"⟩, 41), (⟨"HeadCountModel", "upper", "()I"⟩, 41), (⟨"HeadCountModel", "close", "()V"⟩, 41), (⟨"HeadCountModel", "wholeOne", "()I"⟩, 41), (⟨"HeadCountModel", "bound", "(C)I"⟩, 41), (⟨"HeadCountModel", "afterNumber", "(C)I"⟩, 41), (⟨"HeadCountModel", "afterPart", "(C)I"⟩, 41), (⟨"HeadCountModel", "single", "(C)I"⟩, 41), (⟨"HeadCountModel", "wholeSingle", "()I"⟩, 41), (⟨"HeadCountModel", "afterSingle", "(C)I"⟩, 41), (⟨"HeadCountModel", "run", "(IZ)Z"⟩, 41), (⟨"HeadCountModel", "pop", "()I"⟩, 41), (⟨"HeadCountModel", "ends", "(IIZ)Z"⟩, 41), (⟨"HeadCountModel", "lastOf", "(I)I"⟩, 41), (⟨"HeadCountModel", "put", "(I)V"⟩, 41), (⟨"HeadCountModel", "doSum", "(II)V"⟩, 41)]
theorem lw_r4 : ∀ q ∈ lw_privs_4, lw_okq q := List.forall_mem_cons.mpr ⟨lw_p48, List.forall_mem_cons.mpr ⟨lw_p49, List.forall_mem_cons.mpr ⟨lw_p50, List.forall_mem_cons.mpr ⟨lw_p51, List.forall_mem_cons.mpr ⟨lw_p52, List.forall_mem_cons.mpr ⟨lw_p53, List.forall_mem_cons.mpr ⟨lw_p54, List.forall_mem_cons.mpr ⟨lw_p55, List.forall_mem_cons.mpr ⟨lw_p56, List.forall_mem_cons.mpr ⟨lw_p57, List.forall_mem_cons.mpr ⟨lw_p58, List.forall_mem_cons.mpr ⟨lw_p59, List.forall_mem_cons.mpr ⟨lw_p60, List.forall_mem_cons.mpr ⟨lw_p61, List.forall_mem_cons.mpr ⟨lw_p62, List.forall_mem_cons.mpr ⟨lw_p63, fun _ h => absurd h List.not_mem_nil⟩⟩⟩⟩⟩⟩⟩⟩⟩⟩⟩⟩⟩⟩⟩⟩
theorem lw_p64 : lw_okq (⟨"HeadCountModel", "doOther", "(I)V"⟩, 41) := ⟨⟨by decide +kernel, by decide +kernel⟩, List.mem_of_getElem? (i := 531) (by decide +kernel), List.mem_of_getElem? (i := 806) (by decide +kernel), List.mem_of_getElem? (i := 807) (by decide +kernel)⟩
theorem lw_p65 : lw_okq (⟨"HeadCountModel", "isLoop", "()Z"⟩, 41) := ⟨⟨by decide +kernel, by decide +kernel⟩, List.mem_of_getElem? (i := 531) (by decide +kernel), List.mem_of_getElem? (i := 818) (by decide +kernel), List.mem_of_getElem? (i := 819) (by decide +kernel)⟩
def lw_privs_5 : List (MethodName × Nat) := [(⟨"HeadCountModel", "doOther", "(I)V"⟩, 41), (⟨"HeadCountModel", "isLoop", "()Z"⟩, 41)]
theorem lw_r5 : ∀ q ∈ lw_privs_5, lw_okq q := List.forall_mem_cons.mpr ⟨lw_p64, List.forall_mem_cons.mpr ⟨lw_p65, fun _ h => absurd h List.not_mem_nil⟩⟩
def lw_privs : List (MethodName × Nat) := lw_privs_1 ++ (lw_privs_2 ++ (lw_privs_3 ++ (lw_privs_4 ++ (lw_privs_5))))
def lw_tbl : List Cond := k2_sels lw_privs ++ tables_1
theorem lw_privs_ok : ∀ q ∈ lw_privs, lw_okq q := by
  show ∀ q ∈ lw_privs_1 ++ (lw_privs_2 ++ (lw_privs_3 ++ (lw_privs_4 ++ (lw_privs_5)))), lw_okq q
  exact List.forall_mem_append.mpr ⟨lw_r1, List.forall_mem_append.mpr ⟨lw_r2, List.forall_mem_append.mpr ⟨lw_r3, List.forall_mem_append.mpr ⟨lw_r4, lw_r5⟩⟩⟩⟩

def R_H : String := "HeadCount"
def fl_H : List (String × String × String × Bool) := [("HeadCount", "text", "[C", true), ("HeadCount", "used", "I", false), ("HeadCount", "parser", "LHeadCount$Parser;", true), ("HeadCount", "world", "LHeadCount$World;", true), ("HeadCount", "sentence", "LHeadCount$Node;", false), ("HeadCount", "counted", "[I", true)]
def F_H : u_T := fun k => fl_H.getD k ("", "", "", false)
def jl_H : List Nat := [99, 101, 103, 105, 107, 109]
theorem cu_H : ∀ k, k < 6 → tables_1[(jl_H.getD k 0)]? = some (u_lay R_H F_H k) ∧ goodWord (u_lay R_H F_H k) = true := by decide +kernel
def R_P : String := "HeadCount$Parser"
def fl_P : List (String × String × String × Bool) := [("HeadCount$Parser", "signs", "[C", true), ("HeadCount$Parser", "count", "I", false), ("HeadCount$Parser", "at", "I", false), ("HeadCount$Parser", "quantifiers", "I", false), ("HeadCount$Parser", "bound", "[Z", true), ("HeadCount$Parser", "nodes", "[LHeadCount$Node;", false), ("HeadCount$Parser", "nodesInForce", "[LHeadCount$Node;", false), ("HeadCount$Parser", "made", "I", false)]
def F_P : u_T := fun k => fl_P.getD k ("", "", "", false)
def jl_P : List Nat := [54, 56, 58, 60, 62, 64, 66, 68]
theorem cu_P : ∀ k, k < 8 → tables_1[(jl_P.getD k 0)]? = some (u_lay R_P F_P k) ∧ goodWord (u_lay R_P F_P k) = true := by decide +kernel
def R_O : String := "HeadCount$World"
def fl_O : List (String × String × String × Bool) := [("HeadCount$World", "size", "I", false), ("HeadCount$World", "allElements", "I", false), ("HeadCount$World", "values", "[I", true)]
def F_O : u_T := fun k => fl_O.getD k ("", "", "", false)
def jl_O : List Nat := [85, 87, 89]
theorem cu_O : ∀ k, k < 3 → tables_1[(jl_O.getD k 0)]? = some (u_lay R_O F_O k) ∧ goodWord (u_lay R_O F_O k) = true := by decide +kernel
def R_N : String := "HeadCount$Node"
def fl_N : List (String × String × String × Bool) := [("HeadCount$Node", "sign", "C", false), ("HeadCount$Node", "number", "I", false), ("HeadCount$Node", "variable", "I", false), ("HeadCount$Node", "first", "LHeadCount$Node;", false), ("HeadCount$Node", "next", "LHeadCount$Node;", false)]
def F_N : u_T := fun k => fl_N.getD k ("", "", "", false)
def jl_N : List Nat := [266, 268, 270, 272, 274]
theorem cu_N : ∀ k, k < 5 → tables_1[(jl_N.getD k 0)]? = some (u_lay R_N F_N k) ∧ goodWord (u_lay R_N F_N k) = true := by decide +kernel
def R_M : String := "HeadCountModel"
def fl_M : List (String × String × String × Bool) := [("HeadCountModel", "code", "I", false), ("HeadCountModel", "typed", "I", false), ("HeadCountModel", "text", "[C", true), ("HeadCountModel", "there", "Z", false), ("HeadCountModel", "length", "I", false), ("HeadCountModel", "loops", "I", false), ("HeadCountModel", "order", "[I", true), ("HeadCountModel", "arg", "[I", true), ("HeadCountModel", "every", "[Z", true), ("HeadCountModel", "overSets", "[Z", true), ("HeadCountModel", "opens", "Z", false), ("HeadCountModel", "freshOpens", "Z", false), ("HeadCountModel", "freshLength", "I", false), ("HeadCountModel", "freshLoops", "I", false), ("HeadCountModel", "freshOrder", "[I", true), ("HeadCountModel", "freshArg", "[I", true), ("HeadCountModel", "freshEvery", "[Z", true), ("HeadCountModel", "freshSets", "[Z", true), ("HeadCountModel", "state", "I", false), ("HeadCountModel", "open", "I", false), ("HeadCountModel", "pile", "[I", true), ("HeadCountModel", "variable", "[I", true), ("HeadCountModel", "before", "[I", true), ("HeadCountModel", "binds", "[I", true), ("HeadCountModel", "depth", "I", false), ("HeadCountModel", "universal", "Z", false), ("HeadCountModel", "figure", "I", false), ("HeadCountModel", "figures", "I", false), ("HeadCountModel", "times", "Z", false), ("HeadCountModel", "factor", "I", false), ("HeadCountModel", "minus", "Z", false), ("HeadCountModel", "firstPart", "Z", false), ("HeadCountModel", "bare", "Z", false), ("HeadCountModel", "relation", "I", false), ("HeadCountModel", "divisor", "I", false), ("HeadCountModel", "size", "I", false), ("HeadCountModel", "value", "[I", true), ("HeadCountModel", "start", "[I", true), ("HeadCountModel", "high", "I", false), ("HeadCountModel", "stack", "[I", true), ("HeadCountModel", "good", "I", false)]
def F_M : u_T := fun k => fl_M.getD k ("", "", "", false)
def jl_M : List Nat := [577, 579, 581, 583, 585, 587, 589, 591, 593, 595, 597, 599, 601, 603, 605, 607, 609, 611, 613, 615, 617, 619, 621, 623, 625, 627, 629, 631, 633, 635, 637, 639, 641, 643, 645, 647, 649, 651, 653, 655, 657]
theorem cu_M : ∀ k, k < 41 → tables_1[(jl_M.getD k 0)]? = some (u_lay R_M F_M k) ∧ goodWord (u_lay R_M F_M k) = true := by decide +kernel
def hcCl : List vw_C := [(R_H, F_H, 6), (R_P, F_P, 8), (R_O, F_O, 3), (R_N, F_N, 5), (R_M, F_M, 41)]
def rfT : List (List Nat) := [[0, 2, 3, 4, 5], [0, 4, 5, 6], [2], [3, 4], [2, 6, 7, 8, 9, 14, 15, 16, 17, 20, 21, 22, 23, 36, 37, 39]]
def fR (c k : Nat) : Bool := (rfT.getD c []).contains k
def ndC : Nat := 3
theorem ndCl : hcCl[ndC]? = some (R_N, F_N, 5) := rfl
theorem hk_H : hcCl[0]? = some (R_H, F_H, 6) := rfl
theorem hk_P : hcCl[1]? = some (R_P, F_P, 8) := rfl
theorem hk_O : hcCl[2]? = some (R_O, F_O, 3) := rfl
theorem hk_N : hcCl[3]? = some (R_N, F_N, 5) := rfl
theorem hk_M : hcCl[4]? = some (R_M, F_M, 41) := rfl
theorem hcOk : ∀ r ∈ hcCl, (∀ k, k < r.2.2 → (parseFieldDescriptor (r.2.1 k).2.2.1).isSome = true) ∧ (∀ a, a < r.2.2 → ∀ b, b < r.2.2 → a ≠ b → (r.2.1 a).2.1 ≠ (r.2.1 b).2.1) := by decide +kernel
def hcD : vw_C := ("", fun _ => ("", "", "", false), 0)
theorem hc_lt {c : Nat} {r : vw_C} (h : hcCl[c]? = some r) : c < 5 ∧ r = hcCl.getD c hcD := ⟨(List.getElem?_eq_some_iff.mp h).1, by rw [List.getD_eq_getElem?_getD, h]; rfl⟩
theorem hcDef0 : ∀ c, c < 5 → ∀ k, k < (hcCl.getD c hcD).2.2 → defaultValue ((parseFieldDescriptor ((hcCl.getD c hcD).2.1 k).2.2.1).getD .int) = (bif fR c k then Value.null else .int 0) := by decide +kernel
theorem hcDef (c : Nat) (r : vw_C) (h : hcCl[c]? = some r) (k : Nat) (hk : k < r.2.2) : defaultValue ((parseFieldDescriptor (r.2.1 k).2.2.1).getD .int) = (bif fR c k then Value.null else .int 0) := by
  obtain ⟨h1, rfl⟩ := hc_lt h
  exact hcDef0 c h1 k hk
theorem cu_of {R : String} {F : u_T} {n : Nat} {j : Nat → Nat} (h : ∀ k, k < n → tables_1[j k]? = some (u_lay R F k) ∧ goodWord (u_lay R F k) = true) : ∀ w ∈ u_ws R F n, w ∈ lw_tbl ∧ goodWord w = true := by
  intro w hw
  obtain ⟨k, hk, rfl⟩ := List.mem_map.mp hw
  obtain ⟨h1, h2⟩ := h k (List.mem_range.mp hk)
  exact ⟨List.mem_append_right _ (List.mem_of_getElem? h1), h2⟩
theorem cuW (c : Nat) (r : vw_C) (h : hcCl[c]? = some r) : ∀ w ∈ u_ws r.1 r.2.1 r.2.2, w ∈ lw_tbl ∧ goodWord w = true := by
  obtain ⟨h1, rfl⟩ := hc_lt h
  have h2 : c = 0 ∨ c = 1 ∨ c = 2 ∨ c = 3 ∨ c = 4 := by omega
  rcases h2 with rfl | rfl | rfl | rfl | rfl
  · exact cu_of cu_H
  · exact cu_of cu_P
  · exact cu_of cu_O
  · exact cu_of cu_N
  · exact cu_of cu_M
theorem ka_boolean : Cond.arrayClass .boolean ∈ lw_tbl := List.mem_append_right _ (List.mem_of_getElem? (i := 73) (by decide +kernel))
theorem ka_byte : Cond.arrayClass .byte ∈ lw_tbl := List.mem_append_right _ (List.mem_of_getElem? (i := 72) (by decide +kernel))
theorem ka_char : Cond.arrayClass .char ∈ lw_tbl := List.mem_append_right _ (List.mem_of_getElem? (i := 71) (by decide +kernel))
theorem ka_int : Cond.arrayClass .int ∈ lw_tbl := List.mem_append_right _ (List.mem_of_getElem? (i := 92) (by decide +kernel))
theorem ka_long : Cond.arrayClass .long ∈ lw_tbl := List.mem_append_right _ (List.mem_of_getElem? (i := 822) (by decide +kernel))
theorem ki_H : Cond.initialized "HeadCount" ∈ lw_tbl := List.mem_append_right _ (List.mem_of_getElem? (i := 1) (by decide +kernel))
theorem ki_P : Cond.initialized "HeadCount$Parser" ∈ lw_tbl := List.mem_append_right _ (List.mem_of_getElem? (i := 2) (by decide +kernel))
theorem ki_O : Cond.initialized "HeadCount$World" ∈ lw_tbl := List.mem_append_right _ (List.mem_of_getElem? (i := 4) (by decide +kernel))
theorem ki_N : Cond.initialized "HeadCount$Node" ∈ lw_tbl := List.mem_append_right _ (List.mem_of_getElem? (i := 10) (by decide +kernel))
theorem ki_M : Cond.initialized "HeadCountModel" ∈ lw_tbl := List.mem_append_right _ (List.mem_of_getElem? (i := 5) (by decide +kernel))
theorem ki_S : Cond.initialized "java/lang/String" ∈ lw_tbl := List.mem_append_right _ (List.mem_of_getElem? (i := 3) (by decide +kernel))
theorem kn_H : Cond.instantiable "HeadCount" 6 ∈ lw_tbl := List.mem_append_right _ (List.mem_of_getElem? (i := 19) (by decide +kernel))
theorem kn_P : Cond.instantiable "HeadCount$Parser" 8 ∈ lw_tbl := List.mem_append_right _ (List.mem_of_getElem? (i := 27) (by decide +kernel))
theorem kn_O : Cond.instantiable "HeadCount$World" 3 ∈ lw_tbl := List.mem_append_right _ (List.mem_of_getElem? (i := 75) (by decide +kernel))
theorem kn_N : Cond.instantiable "HeadCount$Node" 5 ∈ lw_tbl := List.mem_append_right _ (List.mem_of_getElem? (i := 244) (by decide +kernel))
theorem kn_M : Cond.instantiable "HeadCountModel" 41 ∈ lw_tbl := List.mem_append_right _ (List.mem_of_getElem? (i := 531) (by decide +kernel))
def yH_init : MethodName := ⟨"HeadCount", "<init>", "()V"⟩
abbrev bH_init : ByteArray := prog_1_method_1_code
def yP_init : MethodName := ⟨"HeadCount$Parser", "<init>", "()V"⟩
abbrev bP_init : ByteArray := prog_3_method_1_code
def yS_length : MethodName := ⟨"java/lang/String", "length", "()I"⟩
abbrev bS_length : ByteArray := prog_14_method_54_code
def yS_coder : MethodName := ⟨"java/lang/String", "coder", "()B"⟩
abbrev bS_coder : ByteArray := prog_14_method_152_code
def yO_init : MethodName := ⟨"HeadCount$World", "<init>", "()V"⟩
abbrev bO_init : ByteArray := prog_4_method_1_code
def yH_write : MethodName := ⟨"HeadCount", "write", "(J)Z"⟩
abbrev bH_write : ByteArray := prog_1_method_2_code
def yH_byteAt : MethodName := ⟨"HeadCount", "byteAt", "(JI)I"⟩
abbrev bH_byteAt : ByteArray := prog_1_method_9_code
def yH_append : MethodName := ⟨"HeadCount", "append", "(I)V"⟩
abbrev bH_append : ByteArray := prog_1_method_10_code
def yH_wipe : MethodName := ⟨"HeadCount", "wipe", "()I"⟩
abbrev bH_wipe : ByteArray := prog_1_method_3_code
def yH_length : MethodName := ⟨"HeadCount", "length", "()I"⟩
abbrev bH_length : ByteArray := prog_1_method_8_code
def yL_read : MethodName := ⟨"HeadCountLaw", "read", "(LHeadCount;[J)I"⟩
abbrev bL_read : ByteArray := method_3_code
def yH_read : MethodName := ⟨"HeadCount", "read", "()I"⟩
abbrev bH_read : ByteArray := prog_1_method_4_code
def yP_parse : MethodName := ⟨"HeadCount$Parser", "parse", "([CI)LHeadCount$Node;"⟩
abbrev bP_parse : ByteArray := prog_3_method_2_code
def yP_start : MethodName := ⟨"HeadCount$Parser", "start", "([CI)V"⟩
abbrev bP_start : ByteArray := prog_3_method_3_code
def yP_row : MethodName := ⟨"HeadCount$Parser", "row", "(CI)LHeadCount$Node;"⟩
abbrev bP_row : ByteArray := prog_3_method_4_code
def yP_item : MethodName := ⟨"HeadCount$Parser", "item", "(CI)LHeadCount$Node;"⟩
abbrev bP_item : ByteArray := prog_3_method_5_code
def yP_one : MethodName := ⟨"HeadCount$Parser", "one", "(I)LHeadCount$Node;"⟩
abbrev bP_one : ByteArray := prog_3_method_6_code
def yP_insist : MethodName := ⟨"HeadCount$Parser", "insist", "(Z)V"⟩
abbrev bP_insist : ByteArray := prog_3_method_25_code
def yP_peek : MethodName := ⟨"HeadCount$Parser", "peek", "()C"⟩
abbrev bP_peek : ByteArray := prog_3_method_21_code
def yP_not : MethodName := ⟨"HeadCount$Parser", "not", "(I)LHeadCount$Node;"⟩
abbrev bP_not : ByteArray := prog_3_method_7_code
def yP_next : MethodName := ⟨"HeadCount$Parser", "next", "()C"⟩
abbrev bP_next : ByteArray := prog_3_method_22_code
def yP_make : MethodName := ⟨"HeadCount$Parser", "make", "(C)LHeadCount$Node;"⟩
abbrev bP_make : ByteArray := prog_3_method_24_code
def yN_init : MethodName := ⟨"HeadCount$Node", "<init>", "()V"⟩
abbrev bN_init : ByteArray := prog_2_method_1_code
def yN_reset : MethodName := ⟨"HeadCount$Node", "reset", "(C)V"⟩
abbrev bN_reset : ByteArray := prog_2_method_2_code
def yP_quantified : MethodName := ⟨"HeadCount$Parser", "quantified", "(I)LHeadCount$Node;"⟩
abbrev bP_quantified : ByteArray := prog_3_method_8_code
def yS_indexOf : MethodName := ⟨"java/lang/String", "indexOf", "(I)I"⟩
abbrev bS_indexOf : ByteArray := prog_14_method_79_code
def yS_indexOf2 : MethodName := ⟨"java/lang/String", "indexOf", "(II)I"⟩
abbrev bS_indexOf2 : ByteArray := prog_14_method_80_code
def yS_isLatin1 : MethodName := ⟨"java/lang/String", "isLatin1", "()Z"⟩
abbrev bS_isLatin1 : ByteArray := prog_14_method_154_code
def yT_indexOf : MethodName := ⟨"java/lang/StringLatin1", "indexOf", "([BIII)I"⟩
abbrev bT_indexOf : ByteArray := prog_15_method_22_code
def yT_canEncode : MethodName := ⟨"java/lang/StringLatin1", "canEncode", "(I)Z"⟩
abbrev bT_canEncode : ByteArray := prog_15_method_4_code
def yT_indexOfChar : MethodName := ⟨"java/lang/StringLatin1", "indexOfChar", "([BIII)I"⟩
abbrev bT_indexOfChar : ByteArray := prog_15_method_23_code
def yP_bracketed : MethodName := ⟨"HeadCount$Parser", "bracketed", "(I)LHeadCount$Node;"⟩
abbrev bP_bracketed : ByteArray := prog_3_method_9_code
def yP_take : MethodName := ⟨"HeadCount$Parser", "take", "(C)Z"⟩
abbrev bP_take : ByteArray := prog_3_method_23_code
def yP_comparisonOfSets : MethodName := ⟨"HeadCount$Parser", "comparisonOfSets", "(I)LHeadCount$Node;"⟩
abbrev bP_comparisonOfSets : ByteArray := prog_3_method_10_code
def yP_startsWithDivisor : MethodName := ⟨"HeadCount$Parser", "startsWithDivisor", "()Z"⟩
abbrev bP_startsWithDivisor : ByteArray := prog_3_method_11_code
def yP_isDecimal : MethodName := ⟨"HeadCount$Parser", "isDecimal", "(C)Z"⟩
abbrev bP_isDecimal : ByteArray := prog_3_method_20_code
def yP_number : MethodName := ⟨"HeadCount$Parser", "number", "()I"⟩
abbrev bP_number : ByteArray := prog_3_method_19_code
def yP_divided : MethodName := ⟨"HeadCount$Parser", "divided", "(I)LHeadCount$Node;"⟩
abbrev bP_divided : ByteArray := prog_3_method_12_code
def yP_addSum : MethodName := ⟨"HeadCount$Parser", "addSum", "(LHeadCount$Node;II)V"⟩
abbrev bP_addSum : ByteArray := prog_3_method_14_code
def yP_addPart : MethodName := ⟨"HeadCount$Parser", "addPart", "(LHeadCount$Node;II)V"⟩
abbrev bP_addPart : ByteArray := prog_3_method_15_code
def yP_thing : MethodName := ⟨"HeadCount$Parser", "thing", "(I)LHeadCount$Node;"⟩
abbrev bP_thing : ByteArray := prog_3_method_16_code
def yP_single : MethodName := ⟨"HeadCount$Parser", "single", "(I)LHeadCount$Node;"⟩
abbrev bP_single : ByteArray := prog_3_method_17_code
def yP_boundVariable : MethodName := ⟨"HeadCount$Parser", "boundVariable", "(C)I"⟩
abbrev bP_boundVariable : ByteArray := prog_3_method_18_code
def yP_comparisonOfSums : MethodName := ⟨"HeadCount$Parser", "comparisonOfSums", "(I)LHeadCount$Node;"⟩
abbrev bP_comparisonOfSums : ByteArray := prog_3_method_13_code
def yL_holds : MethodName := ⟨"HeadCountLaw", "holds", "(LHeadCount;I[J)I"⟩
abbrev bL_holds : ByteArray := method_4_code
def yH_holds : MethodName := ⟨"HeadCount", "holds", "(I)Z"⟩
abbrev bH_holds : ByteArray := prog_1_method_5_code
def yH_needSentence : MethodName := ⟨"HeadCount", "needSentence", "()V"⟩
abbrev bH_needSentence : ByteArray := prog_1_method_11_code
def yH_needWorld : MethodName := ⟨"HeadCount", "needWorld", "(I)V"⟩
abbrev bH_needWorld : ByteArray := prog_1_method_12_code
def yH_isTrueIn : MethodName := ⟨"HeadCount", "isTrueIn", "(I)Z"⟩
abbrev bH_isTrueIn : ByteArray := prog_1_method_14_code
def yH_waysIn : MethodName := ⟨"HeadCount", "waysIn", "(I)I"⟩
abbrev bH_waysIn : ByteArray := prog_1_method_13_code
def yO_count : MethodName := ⟨"HeadCount$World", "count", "(LHeadCount$Node;I)I"⟩
abbrev bO_count : ByteArray := prog_4_method_2_code
def yO_isTrue : MethodName := ⟨"HeadCount$World", "isTrue", "(LHeadCount$Node;)Z"⟩
abbrev bO_isTrue : ByteArray := prog_4_method_5_code
def yO_anyIs : MethodName := ⟨"HeadCount$World", "anyIs", "(ZLHeadCount$Node;)Z"⟩
abbrev bO_anyIs : ByteArray := prog_4_method_6_code
def yO_anyChoiceMakes : MethodName := ⟨"HeadCount$World", "anyChoiceMakes", "(ZLHeadCount$Node;)Z"⟩
abbrev bO_anyChoiceMakes : ByteArray := prog_4_method_7_code
def yO_value : MethodName := ⟨"HeadCount$World", "value", "(I)I"⟩
abbrev bO_value : ByteArray := prog_4_method_14_code
def yO_firstChoice : MethodName := ⟨"HeadCount$World", "firstChoice", "(I)I"⟩
abbrev bO_firstChoice : ByteArray := prog_4_method_4_code
def yO_choices : MethodName := ⟨"HeadCount$World", "choices", "(II)I"⟩
abbrev bO_choices : ByteArray := prog_4_method_3_code
def yO_bind : MethodName := ⟨"HeadCount$World", "bind", "(II)V"⟩
abbrev bO_bind : ByteArray := prog_4_method_15_code
def yO_isTrueOfSets : MethodName := ⟨"HeadCount$World", "isTrueOfSets", "(LHeadCount$Node;)Z"⟩
abbrev bO_isTrueOfSets : ByteArray := prog_4_method_8_code
def yO_elements : MethodName := ⟨"HeadCount$World", "elements", "(LHeadCount$Node;)I"⟩
abbrev bO_elements : ByteArray := prog_4_method_11_code
def yO_union : MethodName := ⟨"HeadCount$World", "union", "(LHeadCount$Node;)I"⟩
abbrev bO_union : ByteArray := prog_4_method_12_code
def yO_meet : MethodName := ⟨"HeadCount$World", "meet", "(LHeadCount$Node;)I"⟩
abbrev bO_meet : ByteArray := prog_4_method_13_code
def yO_isTrueOfSum : MethodName := ⟨"HeadCount$World", "isTrueOfSum", "(LHeadCount$Node;)Z"⟩
abbrev bO_isTrueOfSum : ByteArray := prog_4_method_9_code
def yO_amount : MethodName := ⟨"HeadCount$World", "amount", "(LHeadCount$Node;)I"⟩
abbrev bO_amount : ByteArray := prog_4_method_10_code
def yI_bitCount : MethodName := ⟨"java/lang/Integer", "bitCount", "(I)I"⟩
abbrev bI_bitCount : ByteArray := prog_11_method_49_code
def yL_fails : MethodName := ⟨"HeadCountLaw", "fails", "(LHeadCount;[J)I"⟩
abbrev bL_fails : ByteArray := method_5_code
def yH_fails : MethodName := ⟨"HeadCount", "fails", "()I"⟩
abbrev bH_fails : ByteArray := prog_1_method_6_code
def yL_ways : MethodName := ⟨"HeadCountLaw", "ways", "(LHeadCount;I[J)I"⟩
abbrev bL_ways : ByteArray := method_6_code
def yH_ways : MethodName := ⟨"HeadCount", "ways", "(I)I"⟩
abbrev bH_ways : ByteArray := prog_1_method_7_code
def yM_init : MethodName := ⟨"HeadCountModel", "<init>", "()V"⟩
abbrev bM_init : ByteArray := prog_6_method_1_code
def yM_thrown : MethodName := ⟨"HeadCountModel", "thrown", "()I"⟩
abbrev bM_thrown : ByteArray := prog_6_method_2_code
def yM_write : MethodName := ⟨"HeadCountModel", "write", "(J)Z"⟩
abbrev bM_write : ByteArray := prog_6_method_3_code
def yM_wipe : MethodName := ⟨"HeadCountModel", "wipe", "()I"⟩
abbrev bM_wipe : ByteArray := prog_6_method_4_code
def yM_length : MethodName := ⟨"HeadCountModel", "length", "()I"⟩
abbrev bM_length : ByteArray := prog_6_method_5_code
def yM_read : MethodName := ⟨"HeadCountModel", "read", "()I"⟩
abbrev bM_read : ByteArray := prog_6_method_29_code
def yM_isSentence : MethodName := ⟨"HeadCountModel", "isSentence", "()Z"⟩
abbrev bM_isSentence : ByteArray := prog_6_method_28_code
def yM_next : MethodName := ⟨"HeadCountModel", "next", "(C)I"⟩
abbrev bM_next : ByteArray := prog_6_method_27_code
def yM_one : MethodName := ⟨"HeadCountModel", "one", "(C)I"⟩
abbrev bM_one : ByteArray := prog_6_method_14_code
def yM_deeper : MethodName := ⟨"HeadCountModel", "deeper", "(I)Z"⟩
abbrev bM_deeper : ByteArray := prog_6_method_9_code
def yM_push : MethodName := ⟨"HeadCountModel", "push", "(I)V"⟩
abbrev bM_push : ByteArray := prog_6_method_8_code
def yM_sum : MethodName := ⟨"HeadCountModel", "sum", "(C)I"⟩
abbrev bM_sum : ByteArray := prog_6_method_18_code
def yM_part : MethodName := ⟨"HeadCountModel", "part", "(C)I"⟩
abbrev bM_part : ByteArray := prog_6_method_19_code
def yM_isDigit : MethodName := ⟨"HeadCountModel", "isDigit", "(C)Z"⟩
abbrev bM_isDigit : ByteArray := prog_6_method_13_code
def yM_thing : MethodName := ⟨"HeadCountModel", "thing", "(C)I"⟩
abbrev bM_thing : ByteArray := prog_6_method_21_code
def yM_variableOf : MethodName := ⟨"HeadCountModel", "variableOf", "(C)I"⟩
abbrev bM_variableOf : ByteArray := prog_6_method_12_code
def yM_emit : MethodName := ⟨"HeadCountModel", "emit", "(II)V"⟩
abbrev bM_emit : ByteArray := prog_6_method_6_code
def yM_wholePart : MethodName := ⟨"HeadCountModel", "wholePart", "()V"⟩
abbrev bM_wholePart : ByteArray := prog_6_method_22_code
def yM_afterOne : MethodName := ⟨"HeadCountModel", "afterOne", "(C)I"⟩
abbrev bM_afterOne : ByteArray := prog_6_method_17_code
def yM_settle : MethodName := ⟨"HeadCountModel", "settle", "(II)V"⟩
abbrev bM_settle : ByteArray := prog_6_method_11_code
def yM_upper : MethodName := ⟨"HeadCountModel", "upper", "()I"⟩
abbrev bM_upper : ByteArray := prog_6_method_7_code
def yM_close : MethodName := ⟨"HeadCountModel", "close", "()V"⟩
abbrev bM_close : ByteArray := prog_6_method_10_code
def yM_wholeOne : MethodName := ⟨"HeadCountModel", "wholeOne", "()I"⟩
abbrev bM_wholeOne : ByteArray := prog_6_method_16_code
def yM_bound : MethodName := ⟨"HeadCountModel", "bound", "(C)I"⟩
abbrev bM_bound : ByteArray := prog_6_method_15_code
def yM_afterNumber : MethodName := ⟨"HeadCountModel", "afterNumber", "(C)I"⟩
abbrev bM_afterNumber : ByteArray := prog_6_method_20_code
def yM_afterPart : MethodName := ⟨"HeadCountModel", "afterPart", "(C)I"⟩
abbrev bM_afterPart : ByteArray := prog_6_method_23_code
def yM_single : MethodName := ⟨"HeadCountModel", "single", "(C)I"⟩
abbrev bM_single : ByteArray := prog_6_method_24_code
def yM_wholeSingle : MethodName := ⟨"HeadCountModel", "wholeSingle", "()I"⟩
abbrev bM_wholeSingle : ByteArray := prog_6_method_25_code
def yM_afterSingle : MethodName := ⟨"HeadCountModel", "afterSingle", "(C)I"⟩
abbrev bM_afterSingle : ByteArray := prog_6_method_26_code
def yM_holds : MethodName := ⟨"HeadCountModel", "holds", "(I)Z"⟩
abbrev bM_holds : ByteArray := prog_6_method_40_code
def yM_isSize : MethodName := ⟨"HeadCountModel", "isSize", "(I)Z"⟩
abbrev bM_isSize : ByteArray := prog_6_method_39_code
def yM_run : MethodName := ⟨"HeadCountModel", "run", "(IZ)Z"⟩
abbrev bM_run : ByteArray := prog_6_method_38_code
def yM_pop : MethodName := ⟨"HeadCountModel", "pop", "()I"⟩
abbrev bM_pop : ByteArray := prog_6_method_31_code
def yM_ends : MethodName := ⟨"HeadCountModel", "ends", "(IIZ)Z"⟩
abbrev bM_ends : ByteArray := prog_6_method_36_code
def yM_lastOf : MethodName := ⟨"HeadCountModel", "lastOf", "(I)I"⟩
abbrev bM_lastOf : ByteArray := prog_6_method_35_code
def yM_put : MethodName := ⟨"HeadCountModel", "put", "(I)V"⟩
abbrev bM_put : ByteArray := prog_6_method_30_code
def yM_doSum : MethodName := ⟨"HeadCountModel", "doSum", "(II)V"⟩
abbrev bM_doSum : ByteArray := prog_6_method_33_code
def yM_count : MethodName := ⟨"HeadCountModel", "count", "(I)I"⟩
abbrev bM_count : ByteArray := prog_6_method_32_code
def yM_doOther : MethodName := ⟨"HeadCountModel", "doOther", "(I)V"⟩
abbrev bM_doOther : ByteArray := prog_6_method_34_code
def yM_fails : MethodName := ⟨"HeadCountModel", "fails", "()I"⟩
abbrev bM_fails : ByteArray := prog_6_method_41_code
def yM_ways : MethodName := ⟨"HeadCountModel", "ways", "(I)I"⟩
abbrev bM_ways : ByteArray := prog_6_method_42_code
def yM_isLoop : MethodName := ⟨"HeadCountModel", "isLoop", "()Z"⟩
abbrev bM_isLoop : ByteArray := prog_6_method_37_code
def yL_law : MethodName := ⟨"HeadCountLaw", "law", "([I)Z"⟩
abbrev bL_law : ByteArray := code
