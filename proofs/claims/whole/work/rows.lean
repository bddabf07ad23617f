section
-- ===== PART A: goes FIRST, ahead of the names: the tables' words, and 'selects' of the private methods out of them =====
/-- a private method of a class that the tables say can be made, by its rows of tables_1 -/
def lw_okq (q : MethodName × Nat) : Prop := (q.1.cls ≠ "java/lang/invoke/MethodHandle" ∧ q.1.cls ≠ "java/lang/invoke/VarHandle") ∧ Cond.instantiable q.1.cls q.2 ∈ tables_1 ∧ Cond.privateMethod q.1 ∈ tables_1 ∧ Cond.instanceMethod q.1 ∈ tables_1
theorem lw_p0 : lw_okq (⟨"HeadCount", "append", "(I)V"⟩, 6) := ⟨⟨by decide +kernel, by decide +kernel⟩, List.mem_of_getElem? (i := 19) (by decide +kernel), List.mem_of_getElem? (i := 120) (by decide +kernel), List.mem_of_getElem? (i := 121) (by decide +kernel)⟩
theorem lw_p1 : lw_okq (⟨"HeadCount$Parser", "start", "([CI)V"⟩, 8) := ⟨⟨by decide +kernel, by decide +kernel⟩, List.mem_of_getElem? (i := 27) (by decide +kernel), List.mem_of_getElem? (i := 144) (by decide +kernel), List.mem_of_getElem? (i := 145) (by decide +kernel)⟩
theorem lw_p2 : lw_okq (⟨"HeadCount$Parser", "row", "(CI)LHeadCount$Node;"⟩, 8) := ⟨⟨by decide +kernel, by decide +kernel⟩, List.mem_of_getElem? (i := 27) (by decide +kernel), List.mem_of_getElem? (i := 148) (by decide +kernel), List.mem_of_getElem? (i := 149) (by decide +kernel)⟩
theorem lw_p3 : lw_okq (⟨"HeadCount$Parser", "item", "(CI)LHeadCount$Node;"⟩, 8) := ⟨⟨by decide +kernel, by decide +kernel⟩, List.mem_of_getElem? (i := 27) (by decide +kernel), List.mem_of_getElem? (i := 152) (by decide +kernel), List.mem_of_getElem? (i := 153) (by decide +kernel)⟩
theorem lw_p4 : lw_okq (⟨"HeadCount$Parser", "one", "(I)LHeadCount$Node;"⟩, 8) := ⟨⟨by decide +kernel, by decide +kernel⟩, List.mem_of_getElem? (i := 27) (by decide +kernel), List.mem_of_getElem? (i := 156) (by decide +kernel), List.mem_of_getElem? (i := 157) (by decide +kernel)⟩
theorem lw_p5 : lw_okq (⟨"java/lang/Throwable", "fillInStackTrace", "(I)Ljava/lang/Throwable;"⟩, 6) := ⟨⟨by decide +kernel, by decide +kernel⟩, List.mem_of_getElem? (i := 200) (by decide +kernel), List.mem_of_getElem? (i := 198) (by decide +kernel), List.mem_of_getElem? (i := 199) (by decide +kernel)⟩
theorem lw_p6 : lw_okq (⟨"HeadCount$Parser", "peek", "()C"⟩, 8) := ⟨⟨by decide +kernel, by decide +kernel⟩, List.mem_of_getElem? (i := 27) (by decide +kernel), List.mem_of_getElem? (i := 229) (by decide +kernel), List.mem_of_getElem? (i := 230) (by decide +kernel)⟩
theorem lw_p7 : lw_okq (⟨"HeadCount$Parser", "not", "(I)LHeadCount$Node;"⟩, 8) := ⟨⟨by decide +kernel, by decide +kernel⟩, List.mem_of_getElem? (i := 27) (by decide +kernel), List.mem_of_getElem? (i := 233) (by decide +kernel), List.mem_of_getElem? (i := 234) (by decide +kernel)⟩
theorem lw_p8 : lw_okq (⟨"HeadCount$Parser", "next", "()C"⟩, 8) := ⟨⟨by decide +kernel, by decide +kernel⟩, List.mem_of_getElem? (i := 27) (by decide +kernel), List.mem_of_getElem? (i := 237) (by decide +kernel), List.mem_of_getElem? (i := 238) (by decide +kernel)⟩
theorem lw_p9 : lw_okq (⟨"HeadCount$Parser", "make", "(C)LHeadCount$Node;"⟩, 8) := ⟨⟨by decide +kernel, by decide +kernel⟩, List.mem_of_getElem? (i := 27) (by decide +kernel), List.mem_of_getElem? (i := 241) (by decide +kernel), List.mem_of_getElem? (i := 242) (by decide +kernel)⟩
theorem lw_p10 : lw_okq (⟨"HeadCount$Parser", "quantified", "(I)LHeadCount$Node;"⟩, 8) := ⟨⟨by decide +kernel, by decide +kernel⟩, List.mem_of_getElem? (i := 27) (by decide +kernel), List.mem_of_getElem? (i := 282) (by decide +kernel), List.mem_of_getElem? (i := 283) (by decide +kernel)⟩
theorem lw_p11 : lw_okq (⟨"HeadCount$Parser", "bracketed", "(I)LHeadCount$Node;"⟩, 8) := ⟨⟨by decide +kernel, by decide +kernel⟩, List.mem_of_getElem? (i := 27) (by decide +kernel), List.mem_of_getElem? (i := 363) (by decide +kernel), List.mem_of_getElem? (i := 364) (by decide +kernel)⟩
theorem lw_p12 : lw_okq (⟨"HeadCount$Parser", "take", "(C)Z"⟩, 8) := ⟨⟨by decide +kernel, by decide +kernel⟩, List.mem_of_getElem? (i := 27) (by decide +kernel), List.mem_of_getElem? (i := 367) (by decide +kernel), List.mem_of_getElem? (i := 368) (by decide +kernel)⟩
theorem lw_p13 : lw_okq (⟨"HeadCount$Parser", "comparisonOfSets", "(I)LHeadCount$Node;"⟩, 8) := ⟨⟨by decide +kernel, by decide +kernel⟩, List.mem_of_getElem? (i := 27) (by decide +kernel), List.mem_of_getElem? (i := 371) (by decide +kernel), List.mem_of_getElem? (i := 372) (by decide +kernel)⟩
theorem lw_p14 : lw_okq (⟨"HeadCount$Parser", "startsWithDivisor", "()Z"⟩, 8) := ⟨⟨by decide +kernel, by decide +kernel⟩, List.mem_of_getElem? (i := 27) (by decide +kernel), List.mem_of_getElem? (i := 375) (by decide +kernel), List.mem_of_getElem? (i := 376) (by decide +kernel)⟩
theorem lw_p15 : lw_okq (⟨"HeadCount$Parser", "number", "()I"⟩, 8) := ⟨⟨by decide +kernel, by decide +kernel⟩, List.mem_of_getElem? (i := 27) (by decide +kernel), List.mem_of_getElem? (i := 382) (by decide +kernel), List.mem_of_getElem? (i := 383) (by decide +kernel)⟩
def lw_privs_1 : List (MethodName × Nat) := [(⟨"HeadCount", "append", "(I)V"⟩, 6), (⟨"HeadCount$Parser", "start", "([CI)V"⟩, 8), (⟨"HeadCount$Parser", "row", "(CI)LHeadCount$Node;"⟩, 8), (⟨"HeadCount$Parser", "item", "(CI)LHeadCount$Node;"⟩, 8), (⟨"HeadCount$Parser", "one", "(I)LHeadCount$Node;"⟩, 8), (⟨"java/lang/Throwable", "fillInStackTrace", "(I)Ljava/lang/Throwable;"⟩, 6), (⟨"HeadCount$Parser", "peek", "()C"⟩, 8), (⟨"HeadCount$Parser", "not", "(I)LHeadCount$Node;"⟩, 8), (⟨"HeadCount$Parser", "next", "()C"⟩, 8), (⟨"HeadCount$Parser", "make", "(C)LHeadCount$Node;"⟩, 8), (⟨"HeadCount$Parser", "quantified", "(I)LHeadCount$Node;"⟩, 8), (⟨"HeadCount$Parser", "bracketed", "(I)LHeadCount$Node;"⟩, 8), (⟨"HeadCount$Parser", "take", "(C)Z"⟩, 8), (⟨"HeadCount$Parser", "comparisonOfSets", "(I)LHeadCount$Node;"⟩, 8), (⟨"HeadCount$Parser", "startsWithDivisor", "()Z"⟩, 8), (⟨"HeadCount$Parser", "number", "()I"⟩, 8)]
theorem lw_r1 : ∀ q ∈ lw_privs_1, lw_okq q := List.forall_mem_cons.mpr ⟨lw_p0, List.forall_mem_cons.mpr ⟨lw_p1, List.forall_mem_cons.mpr ⟨lw_p2, List.forall_mem_cons.mpr ⟨lw_p3, List.forall_mem_cons.mpr ⟨lw_p4, List.forall_mem_cons.mpr ⟨lw_p5, List.forall_mem_cons.mpr ⟨lw_p6, List.forall_mem_cons.mpr ⟨lw_p7, List.forall_mem_cons.mpr ⟨lw_p8, List.forall_mem_cons.mpr ⟨lw_p9, List.forall_mem_cons.mpr ⟨lw_p10, List.forall_mem_cons.mpr ⟨lw_p11, List.forall_mem_cons.mpr ⟨lw_p12, List.forall_mem_cons.mpr ⟨lw_p13, List.forall_mem_cons.mpr ⟨lw_p14, List.forall_mem_cons.mpr ⟨lw_p15, fun _ h => absurd h List.not_mem_nil⟩⟩⟩⟩⟩⟩⟩⟩⟩⟩⟩⟩⟩⟩⟩⟩
theorem lw_p16 : lw_okq (⟨"HeadCount$Parser", "divided", "(I)LHeadCount$Node;"⟩, 8) := ⟨⟨by decide +kernel, by decide +kernel⟩, List.mem_of_getElem? (i := 27) (by decide +kernel), List.mem_of_getElem? (i := 386) (by decide +kernel), List.mem_of_getElem? (i := 387) (by decide +kernel)⟩
theorem lw_p17 : lw_okq (⟨"HeadCount$Parser", "addSum", "(LHeadCount$Node;II)V"⟩, 8) := ⟨⟨by decide +kernel, by decide +kernel⟩, List.mem_of_getElem? (i := 27) (by decide +kernel), List.mem_of_getElem? (i := 390) (by decide +kernel), List.mem_of_getElem? (i := 391) (by decide +kernel)⟩
theorem lw_p18 : lw_okq (⟨"HeadCount$Parser", "addPart", "(LHeadCount$Node;II)V"⟩, 8) := ⟨⟨by decide +kernel, by decide +kernel⟩, List.mem_of_getElem? (i := 27) (by decide +kernel), List.mem_of_getElem? (i := 394) (by decide +kernel), List.mem_of_getElem? (i := 395) (by decide +kernel)⟩
theorem lw_p19 : lw_okq (⟨"HeadCount$Parser", "thing", "(I)LHeadCount$Node;"⟩, 8) := ⟨⟨by decide +kernel, by decide +kernel⟩, List.mem_of_getElem? (i := 27) (by decide +kernel), List.mem_of_getElem? (i := 398) (by decide +kernel), List.mem_of_getElem? (i := 399) (by decide +kernel)⟩
theorem lw_p20 : lw_okq (⟨"HeadCount$Parser", "single", "(I)LHeadCount$Node;"⟩, 8) := ⟨⟨by decide +kernel, by decide +kernel⟩, List.mem_of_getElem? (i := 27) (by decide +kernel), List.mem_of_getElem? (i := 402) (by decide +kernel), List.mem_of_getElem? (i := 403) (by decide +kernel)⟩
theorem lw_p21 : lw_okq (⟨"HeadCount$Parser", "boundVariable", "(C)I"⟩, 8) := ⟨⟨by decide +kernel, by decide +kernel⟩, List.mem_of_getElem? (i := 27) (by decide +kernel), List.mem_of_getElem? (i := 406) (by decide +kernel), List.mem_of_getElem? (i := 407) (by decide +kernel)⟩
theorem lw_p22 : lw_okq (⟨"HeadCount$Parser", "comparisonOfSums", "(I)LHeadCount$Node;"⟩, 8) := ⟨⟨by decide +kernel, by decide +kernel⟩, List.mem_of_getElem? (i := 27) (by decide +kernel), List.mem_of_getElem? (i := 410) (by decide +kernel), List.mem_of_getElem? (i := 411) (by decide +kernel)⟩
theorem lw_p23 : lw_okq (⟨"HeadCount", "needSentence", "()V"⟩, 6) := ⟨⟨by decide +kernel, by decide +kernel⟩, List.mem_of_getElem? (i := 19) (by decide +kernel), List.mem_of_getElem? (i := 422) (by decide +kernel), List.mem_of_getElem? (i := 423) (by decide +kernel)⟩
theorem lw_p24 : lw_okq (⟨"HeadCount", "isTrueIn", "(I)Z"⟩, 6) := ⟨⟨by decide +kernel, by decide +kernel⟩, List.mem_of_getElem? (i := 19) (by decide +kernel), List.mem_of_getElem? (i := 448) (by decide +kernel), List.mem_of_getElem? (i := 449) (by decide +kernel)⟩
theorem lw_p25 : lw_okq (⟨"HeadCount", "waysIn", "(I)I"⟩, 6) := ⟨⟨by decide +kernel, by decide +kernel⟩, List.mem_of_getElem? (i := 19) (by decide +kernel), List.mem_of_getElem? (i := 452) (by decide +kernel), List.mem_of_getElem? (i := 453) (by decide +kernel)⟩
theorem lw_p26 : lw_okq (⟨"HeadCount$World", "isTrue", "(LHeadCount$Node;)Z"⟩, 3) := ⟨⟨by decide +kernel, by decide +kernel⟩, List.mem_of_getElem? (i := 75) (by decide +kernel), List.mem_of_getElem? (i := 460) (by decide +kernel), List.mem_of_getElem? (i := 461) (by decide +kernel)⟩
theorem lw_p27 : lw_okq (⟨"HeadCount$World", "anyIs", "(ZLHeadCount$Node;)Z"⟩, 3) := ⟨⟨by decide +kernel, by decide +kernel⟩, List.mem_of_getElem? (i := 75) (by decide +kernel), List.mem_of_getElem? (i := 464) (by decide +kernel), List.mem_of_getElem? (i := 465) (by decide +kernel)⟩
theorem lw_p28 : lw_okq (⟨"HeadCount$World", "anyChoiceMakes", "(ZLHeadCount$Node;)Z"⟩, 3) := ⟨⟨by decide +kernel, by decide +kernel⟩, List.mem_of_getElem? (i := 75) (by decide +kernel), List.mem_of_getElem? (i := 468) (by decide +kernel), List.mem_of_getElem? (i := 469) (by decide +kernel)⟩
theorem lw_p29 : lw_okq (⟨"HeadCount$World", "value", "(I)I"⟩, 3) := ⟨⟨by decide +kernel, by decide +kernel⟩, List.mem_of_getElem? (i := 75) (by decide +kernel), List.mem_of_getElem? (i := 472) (by decide +kernel), List.mem_of_getElem? (i := 473) (by decide +kernel)⟩
theorem lw_p30 : lw_okq (⟨"HeadCount$World", "bind", "(II)V"⟩, 3) := ⟨⟨by decide +kernel, by decide +kernel⟩, List.mem_of_getElem? (i := 75) (by decide +kernel), List.mem_of_getElem? (i := 482) (by decide +kernel), List.mem_of_getElem? (i := 483) (by decide +kernel)⟩
theorem lw_p31 : lw_okq (⟨"HeadCount$World", "isTrueOfSets", "(LHeadCount$Node;)Z"⟩, 3) := ⟨⟨by decide +kernel, by decide +kernel⟩, List.mem_of_getElem? (i := 75) (by decide +kernel), List.mem_of_getElem? (i := 486) (by decide +kernel), List.mem_of_getElem? (i := 487) (by decide +kernel)⟩
def lw_privs_2 : List (MethodName × Nat) := [(⟨"HeadCount$Parser", "divided", "(I)LHeadCount$Node;"⟩, 8), (⟨"HeadCount$Parser", "addSum", "(LHeadCount$Node;II)V"⟩, 8), (⟨"HeadCount$Parser", "addPart", "(LHeadCount$Node;II)V"⟩, 8), (⟨"HeadCount$Parser", "thing", "(I)LHeadCount$Node;"⟩, 8), (⟨"HeadCount$Parser", "single", "(I)LHeadCount$Node;"⟩, 8), (⟨"HeadCount$Parser", "boundVariable", "(C)I"⟩, 8), (⟨"HeadCount$Parser", "comparisonOfSums", "(I)LHeadCount$Node;"⟩, 8), (⟨"HeadCount", "needSentence", "()V"⟩, 6), (⟨"HeadCount", "isTrueIn", "(I)Z"⟩, 6), (⟨"HeadCount", "waysIn", "(I)I"⟩, 6), (⟨"HeadCount$World", "isTrue", "(LHeadCount$Node;)Z"⟩, 3), (⟨"HeadCount$World", "anyIs", "(ZLHeadCount$Node;)Z"⟩, 3), (⟨"HeadCount$World", "anyChoiceMakes", "(ZLHeadCount$Node;)Z"⟩, 3), (⟨"HeadCount$World", "value", "(I)I"⟩, 3), (⟨"HeadCount$World", "bind", "(II)V"⟩, 3), (⟨"HeadCount$World", "isTrueOfSets", "(LHeadCount$Node;)Z"⟩, 3)]
theorem lw_r2 : ∀ q ∈ lw_privs_2, lw_okq q := List.forall_mem_cons.mpr ⟨lw_p16, List.forall_mem_cons.mpr ⟨lw_p17, List.forall_mem_cons.mpr ⟨lw_p18, List.forall_mem_cons.mpr ⟨lw_p19, List.forall_mem_cons.mpr ⟨lw_p20, List.forall_mem_cons.mpr ⟨lw_p21, List.forall_mem_cons.mpr ⟨lw_p22, List.forall_mem_cons.mpr ⟨lw_p23, List.forall_mem_cons.mpr ⟨lw_p24, List.forall_mem_cons.mpr ⟨lw_p25, List.forall_mem_cons.mpr ⟨lw_p26, List.forall_mem_cons.mpr ⟨lw_p27, List.forall_mem_cons.mpr ⟨lw_p28, List.forall_mem_cons.mpr ⟨lw_p29, List.forall_mem_cons.mpr ⟨lw_p30, List.forall_mem_cons.mpr ⟨lw_p31, fun _ h => absurd h List.not_mem_nil⟩⟩⟩⟩⟩⟩⟩⟩⟩⟩⟩⟩⟩⟩⟩⟩
theorem lw_p32 : lw_okq (⟨"HeadCount$World", "elements", "(LHeadCount$Node;)I"⟩, 3) := ⟨⟨by decide +kernel, by decide +kernel⟩, List.mem_of_getElem? (i := 75) (by decide +kernel), List.mem_of_getElem? (i := 490) (by decide +kernel), List.mem_of_getElem? (i := 491) (by decide +kernel)⟩
theorem lw_p33 : lw_okq (⟨"HeadCount$World", "union", "(LHeadCount$Node;)I"⟩, 3) := ⟨⟨by decide +kernel, by decide +kernel⟩, List.mem_of_getElem? (i := 75) (by decide +kernel), List.mem_of_getElem? (i := 494) (by decide +kernel), List.mem_of_getElem? (i := 495) (by decide +kernel)⟩
theorem lw_p34 : lw_okq (⟨"HeadCount$World", "meet", "(LHeadCount$Node;)I"⟩, 3) := ⟨⟨by decide +kernel, by decide +kernel⟩, List.mem_of_getElem? (i := 75) (by decide +kernel), List.mem_of_getElem? (i := 498) (by decide +kernel), List.mem_of_getElem? (i := 499) (by decide +kernel)⟩
theorem lw_p35 : lw_okq (⟨"HeadCount$World", "isTrueOfSum", "(LHeadCount$Node;)Z"⟩, 3) := ⟨⟨by decide +kernel, by decide +kernel⟩, List.mem_of_getElem? (i := 75) (by decide +kernel), List.mem_of_getElem? (i := 502) (by decide +kernel), List.mem_of_getElem? (i := 503) (by decide +kernel)⟩
theorem lw_p36 : lw_okq (⟨"HeadCount$World", "amount", "(LHeadCount$Node;)I"⟩, 3) := ⟨⟨by decide +kernel, by decide +kernel⟩, List.mem_of_getElem? (i := 75) (by decide +kernel), List.mem_of_getElem? (i := 506) (by decide +kernel), List.mem_of_getElem? (i := 507) (by decide +kernel)⟩
theorem lw_p37 : lw_okq (⟨"HeadCountModel", "isSentence", "()Z"⟩, 41) := ⟨⟨by decide +kernel, by decide +kernel⟩, List.mem_of_getElem? (i := 531) (by decide +kernel), List.mem_of_getElem? (i := 682) (by decide +kernel), List.mem_of_getElem? (i := 683) (by decide +kernel)⟩
theorem lw_p38 : lw_okq (⟨"HeadCountModel", "next", "(C)I"⟩, 41) := ⟨⟨by decide +kernel, by decide +kernel⟩, List.mem_of_getElem? (i := 531) (by decide +kernel), List.mem_of_getElem? (i := 686) (by decide +kernel), List.mem_of_getElem? (i := 687) (by decide +kernel)⟩
theorem lw_p39 : lw_okq (⟨"HeadCountModel", "one", "(C)I"⟩, 41) := ⟨⟨by decide +kernel, by decide +kernel⟩, List.mem_of_getElem? (i := 531) (by decide +kernel), List.mem_of_getElem? (i := 690) (by decide +kernel), List.mem_of_getElem? (i := 691) (by decide +kernel)⟩
theorem lw_p40 : lw_okq (⟨"HeadCountModel", "deeper", "(I)Z"⟩, 41) := ⟨⟨by decide +kernel, by decide +kernel⟩, List.mem_of_getElem? (i := 531) (by decide +kernel), List.mem_of_getElem? (i := 694) (by decide +kernel), List.mem_of_getElem? (i := 695) (by decide +kernel)⟩
theorem lw_p41 : lw_okq (⟨"HeadCountModel", "push", "(I)V"⟩, 41) := ⟨⟨by decide +kernel, by decide +kernel⟩, List.mem_of_getElem? (i := 531) (by decide +kernel), List.mem_of_getElem? (i := 698) (by decide +kernel), List.mem_of_getElem? (i := 699) (by decide +kernel)⟩
theorem lw_p42 : lw_okq (⟨"HeadCountModel", "sum", "(C)I"⟩, 41) := ⟨⟨by decide +kernel, by decide +kernel⟩, List.mem_of_getElem? (i := 531) (by decide +kernel), List.mem_of_getElem? (i := 702) (by decide +kernel), List.mem_of_getElem? (i := 703) (by decide +kernel)⟩
theorem lw_p43 : lw_okq (⟨"HeadCountModel", "part", "(C)I"⟩, 41) := ⟨⟨by decide +kernel, by decide +kernel⟩, List.mem_of_getElem? (i := 531) (by decide +kernel), List.mem_of_getElem? (i := 706) (by decide +kernel), List.mem_of_getElem? (i := 707) (by decide +kernel)⟩
theorem lw_p44 : lw_okq (⟨"HeadCountModel", "thing", "(C)I"⟩, 41) := ⟨⟨by decide +kernel, by decide +kernel⟩, List.mem_of_getElem? (i := 531) (by decide +kernel), List.mem_of_getElem? (i := 713) (by decide +kernel), List.mem_of_getElem? (i := 714) (by decide +kernel)⟩
theorem lw_p45 : lw_okq (⟨"HeadCountModel", "emit", "(II)V"⟩, 41) := ⟨⟨by decide +kernel, by decide +kernel⟩, List.mem_of_getElem? (i := 531) (by decide +kernel), List.mem_of_getElem? (i := 720) (by decide +kernel), List.mem_of_getElem? (i := 721) (by decide +kernel)⟩
theorem lw_p46 : lw_okq (⟨"HeadCountModel", "wholePart", "()V"⟩, 41) := ⟨⟨by decide +kernel, by decide +kernel⟩, List.mem_of_getElem? (i := 531) (by decide +kernel), List.mem_of_getElem? (i := 724) (by decide +kernel), List.mem_of_getElem? (i := 725) (by decide +kernel)⟩
theorem lw_p47 : lw_okq (⟨"HeadCountModel", "afterOne", "(C)I"⟩, 41) := ⟨⟨by decide +kernel, by decide +kernel⟩, List.mem_of_getElem? (i := 531) (by decide +kernel), List.mem_of_getElem? (i := 728) (by decide +kernel), List.mem_of_getElem? (i := 729) (by decide +kernel)⟩
def lw_privs_3 : List (MethodName × Nat) := [(⟨"HeadCount$World", "elements", "(LHeadCount$Node;)I"⟩, 3), (⟨"HeadCount$World", "union", "(LHeadCount$Node;)I"⟩, 3), (⟨"HeadCount$World", "meet", "(LHeadCount$Node;)I"⟩, 3), (⟨"HeadCount$World", "isTrueOfSum", "(LHeadCount$Node;)Z"⟩, 3), (⟨"HeadCount$World", "amount", "(LHeadCount$Node;)I"⟩, 3), (⟨"HeadCountModel", "isSentence", "()Z"⟩, 41), (⟨"HeadCountModel", "next", "(C)I"⟩, 41), (⟨"HeadCountModel", "one", "(C)I"⟩, 41), (⟨"HeadCountModel", "deeper", "(I)Z"⟩, 41), (⟨"HeadCountModel", "push", "(I)V"⟩, 41), (⟨"HeadCountModel", "sum", "(C)I"⟩, 41), (⟨"HeadCountModel", "part", "(C)I"⟩, 41), (⟨"HeadCountModel", "thing", "(C)I"⟩, 41), (⟨"HeadCountModel", "emit", "(II)V"⟩, 41), (⟨"HeadCountModel", "wholePart", "()V"⟩, 41), (⟨"HeadCountModel", "afterOne", "(C)I"⟩, 41)]
theorem lw_r3 : ∀ q ∈ lw_privs_3, lw_okq q := List.forall_mem_cons.mpr ⟨lw_p32, List.forall_mem_cons.mpr ⟨lw_p33, List.forall_mem_cons.mpr ⟨lw_p34, List.forall_mem_cons.mpr ⟨lw_p35, List.forall_mem_cons.mpr ⟨lw_p36, List.forall_mem_cons.mpr ⟨lw_p37, List.forall_mem_cons.mpr ⟨lw_p38, List.forall_mem_cons.mpr ⟨lw_p39, List.forall_mem_cons.mpr ⟨lw_p40, List.forall_mem_cons.mpr ⟨lw_p41, List.forall_mem_cons.mpr ⟨lw_p42, List.forall_mem_cons.mpr ⟨lw_p43, List.forall_mem_cons.mpr ⟨lw_p44, List.forall_mem_cons.mpr ⟨lw_p45, List.forall_mem_cons.mpr ⟨lw_p46, List.forall_mem_cons.mpr ⟨lw_p47, fun _ h => absurd h List.not_mem_nil⟩⟩⟩⟩⟩⟩⟩⟩⟩⟩⟩⟩⟩⟩⟩⟩
theorem lw_p48 : lw_okq (⟨"HeadCountModel", "settle", "(II)V"⟩, 41) := ⟨⟨by decide +kernel, by decide +kernel⟩, List.mem_of_getElem? (i := 531) (by decide +kernel), List.mem_of_getElem? (i := 732) (by decide +kernel), List.mem_of_getElem? (i := 733) (by decide +kernel)⟩
theorem lw_p49 : lw_okq (⟨"HeadCountModel", "upper", "()I"⟩, 41) := ⟨⟨by decide +kernel, by decide +kernel⟩, List.mem_of_getElem? (i := 531) (by decide +kernel), List.mem_of_getElem? (i := 736) (by decide +kernel), List.mem_of_getElem? (i := 737) (by decide +kernel)⟩
theorem lw_p50 : lw_okq (⟨"HeadCountModel", "close", "()V"⟩, 41) := ⟨⟨by decide +kernel, by decide +kernel⟩, List.mem_of_getElem? (i := 531) (by decide +kernel), List.mem_of_getElem? (i := 740) (by decide +kernel), List.mem_of_getElem? (i := 741) (by decide +kernel)⟩
theorem lw_p51 : lw_okq (⟨"HeadCountModel", "wholeOne", "()I"⟩, 41) := ⟨⟨by decide +kernel, by decide +kernel⟩, List.mem_of_getElem? (i := 531) (by decide +kernel), List.mem_of_getElem? (i := 744) (by decide +kernel), List.mem_of_getElem? (i := 745) (by decide +kernel)⟩
theorem lw_p52 : lw_okq (⟨"HeadCountModel", "bound", "(C)I"⟩, 41) := ⟨⟨by decide +kernel, by decide +kernel⟩, List.mem_of_getElem? (i := 531) (by decide +kernel), List.mem_of_getElem? (i := 748) (by decide +kernel), List.mem_of_getElem? (i := 749) (by decide +kernel)⟩
theorem lw_p53 : lw_okq (⟨"HeadCountModel", "afterNumber", "(C)I"⟩, 41) := ⟨⟨by decide +kernel, by decide +kernel⟩, List.mem_of_getElem? (i := 531) (by decide +kernel), List.mem_of_getElem? (i := 752) (by decide +kernel), List.mem_of_getElem? (i := 753) (by decide +kernel)⟩
theorem lw_p54 : lw_okq (⟨"HeadCountModel", "afterPart", "(C)I"⟩, 41) := ⟨⟨by decide +kernel, by decide +kernel⟩, List.mem_of_getElem? (i := 531) (by decide +kernel), List.mem_of_getElem? (i := 756) (by decide +kernel), List.mem_of_getElem? (i := 757) (by decide +kernel)⟩
theorem lw_p55 : lw_okq (⟨"HeadCountModel", "single", "(C)I"⟩, 41) := ⟨⟨by decide +kernel, by decide +kernel⟩, List.mem_of_getElem? (i := 531) (by decide +kernel), List.mem_of_getElem? (i := 760) (by decide +kernel), List.mem_of_getElem? (i := 761) (by decide +kernel)⟩
theorem lw_p56 : lw_okq (⟨"HeadCountModel", "wholeSingle", "()I"⟩, 41) := ⟨⟨by decide +kernel, by decide +kernel⟩, List.mem_of_getElem? (i := 531) (by decide +kernel), List.mem_of_getElem? (i := 764) (by decide +kernel), List.mem_of_getElem? (i := 765) (by decide +kernel)⟩
theorem lw_p57 : lw_okq (⟨"HeadCountModel", "afterSingle", "(C)I"⟩, 41) := ⟨⟨by decide +kernel, by decide +kernel⟩, List.mem_of_getElem? (i := 531) (by decide +kernel), List.mem_of_getElem? (i := 768) (by decide +kernel), List.mem_of_getElem? (i := 769) (by decide +kernel)⟩
theorem lw_p58 : lw_okq (⟨"HeadCountModel", "run", "(IZ)Z"⟩, 41) := ⟨⟨by decide +kernel, by decide +kernel⟩, List.mem_of_getElem? (i := 531) (by decide +kernel), List.mem_of_getElem? (i := 779) (by decide +kernel), List.mem_of_getElem? (i := 780) (by decide +kernel)⟩
theorem lw_p59 : lw_okq (⟨"HeadCountModel", "pop", "()I"⟩, 41) := ⟨⟨by decide +kernel, by decide +kernel⟩, List.mem_of_getElem? (i := 531) (by decide +kernel), List.mem_of_getElem? (i := 783) (by decide +kernel), List.mem_of_getElem? (i := 784) (by decide +kernel)⟩
theorem lw_p60 : lw_okq (⟨"HeadCountModel", "ends", "(IIZ)Z"⟩, 41) := ⟨⟨by decide +kernel, by decide +kernel⟩, List.mem_of_getElem? (i := 531) (by decide +kernel), List.mem_of_getElem? (i := 787) (by decide +kernel), List.mem_of_getElem? (i := 788) (by decide +kernel)⟩
theorem lw_p61 : lw_okq (⟨"HeadCountModel", "lastOf", "(I)I"⟩, 41) := ⟨⟨by decide +kernel, by decide +kernel⟩, List.mem_of_getElem? (i := 531) (by decide +kernel), List.mem_of_getElem? (i := 791) (by decide +kernel), List.mem_of_getElem? (i := 792) (by decide +kernel)⟩
theorem lw_p62 : lw_okq (⟨"HeadCountModel", "put", "(I)V"⟩, 41) := ⟨⟨by decide +kernel, by decide +kernel⟩, List.mem_of_getElem? (i := 531) (by decide +kernel), List.mem_of_getElem? (i := 795) (by decide +kernel), List.mem_of_getElem? (i := 796) (by decide +kernel)⟩
theorem lw_p63 : lw_okq (⟨"HeadCountModel", "doSum", "(II)V"⟩, 41) := ⟨⟨by decide +kernel, by decide +kernel⟩, List.mem_of_getElem? (i := 531) (by decide +kernel), List.mem_of_getElem? (i := 799) (by decide +kernel), List.mem_of_getElem? (i := 800) (by decide +kernel)⟩
def lw_privs_4 : List (MethodName × Nat) := [(⟨"HeadCountModel", "settle", "(II)V"⟩, 41), (⟨"HeadCountModel", "upper", "()I"⟩, 41), (⟨"HeadCountModel", "close", "()V"⟩, 41), (⟨"HeadCountModel", "wholeOne", "()I"⟩, 41), (⟨"HeadCountModel", "bound", "(C)I"⟩, 41), (⟨"HeadCountModel", "afterNumber", "(C)I"⟩, 41), (⟨"HeadCountModel", "afterPart", "(C)I"⟩, 41), (⟨"HeadCountModel", "single", "(C)I"⟩, 41), (⟨"HeadCountModel", "wholeSingle", "()I"⟩, 41), (⟨"HeadCountModel", "afterSingle", "(C)I"⟩, 41), (⟨"HeadCountModel", "run", "(IZ)Z"⟩, 41), (⟨"HeadCountModel", "pop", "()I"⟩, 41), (⟨"HeadCountModel", "ends", "(IIZ)Z"⟩, 41), (⟨"HeadCountModel", "lastOf", "(I)I"⟩, 41), (⟨"HeadCountModel", "put", "(I)V"⟩, 41), (⟨"HeadCountModel", "doSum", "(II)V"⟩, 41)]
theorem lw_r4 : ∀ q ∈ lw_privs_4, lw_okq q := List.forall_mem_cons.mpr ⟨lw_p48, List.forall_mem_cons.mpr ⟨lw_p49, List.forall_mem_cons.mpr ⟨lw_p50, List.forall_mem_cons.mpr ⟨lw_p51, List.forall_mem_cons.mpr ⟨lw_p52, List.forall_mem_cons.mpr ⟨lw_p53, List.forall_mem_cons.mpr ⟨lw_p54, List.forall_mem_cons.mpr ⟨lw_p55, List.forall_mem_cons.mpr ⟨lw_p56, List.forall_mem_cons.mpr ⟨lw_p57, List.forall_mem_cons.mpr ⟨lw_p58, List.forall_mem_cons.mpr ⟨lw_p59, List.forall_mem_cons.mpr ⟨lw_p60, List.forall_mem_cons.mpr ⟨lw_p61, List.forall_mem_cons.mpr ⟨lw_p62, List.forall_mem_cons.mpr ⟨lw_p63, fun _ h => absurd h List.not_mem_nil⟩⟩⟩⟩⟩⟩⟩⟩⟩⟩⟩⟩⟩⟩⟩⟩
theorem lw_p64 : lw_okq (⟨"HeadCountModel", "doOther", "(I)V"⟩, 41) := ⟨⟨by decide +kernel, by decide +kernel⟩, List.mem_of_getElem? (i := 531) (by decide +kernel), List.mem_of_getElem? (i := 806) (by decide +kernel), List.mem_of_getElem? (i := 807) (by decide +kernel)⟩
theorem lw_p65 : lw_okq (⟨"HeadCountModel", "isLoop", "()Z"⟩, 41) := ⟨⟨by decide +kernel, by decide +kernel⟩, List.mem_of_getElem? (i := 531) (by decide +kernel), List.mem_of_getElem? (i := 818) (by decide +kernel), List.mem_of_getElem? (i := 819) (by decide +kernel)⟩
def lw_privs_5 : List (MethodName × Nat) := [(⟨"HeadCountModel", "doOther", "(I)V"⟩, 41), (⟨"HeadCountModel", "isLoop", "()Z"⟩, 41)]
theorem lw_r5 : ∀ q ∈ lw_privs_5, lw_okq q := List.forall_mem_cons.mpr ⟨lw_p64, List.forall_mem_cons.mpr ⟨lw_p65, fun _ h => absurd h List.not_mem_nil⟩⟩
def lw_privs : List (MethodName × Nat) := lw_privs_1 ++ (lw_privs_2 ++ (lw_privs_3 ++ (lw_privs_4 ++ (lw_privs_5))))
def lw_tbl : List Cond := k2_sels lw_privs ++ tables_1
theorem lw_privs_ok : ∀ q ∈ lw_privs, lw_okq q := by
  show ∀ q ∈ lw_privs_1 ++ (lw_privs_2 ++ (lw_privs_3 ++ (lw_privs_4 ++ (lw_privs_5)))), lw_okq q
  exact List.forall_mem_append.mpr ⟨lw_r1, List.forall_mem_append.mpr ⟨lw_r2, List.forall_mem_append.mpr ⟨lw_r3, List.forall_mem_append.mpr ⟨lw_r4, lw_r5⟩⟩⟩⟩

def R_H : String := "HeadCount"
def fl_H : List (String × String × String × Bool) := [("HeadCount", "text", "[C", true), ("HeadCount", "used", "I", false), ("HeadCount", "parser", "LHeadCount$Parser;", true), ("HeadCount", "world", "LHeadCount$World;", true), ("HeadCount", "sentence", "LHeadCount$Node;", false), ("HeadCount", "counted", "[I", true)]
def F_H : u_T := fun k => fl_H.getD k ("", "", "", false)
def jl_H : List Nat := [99, 101, 103, 105, 107, 109]
theorem cu_H : ∀ k, k < 6 → tables_1[(jl_H.getD k 0)]? = some (u_lay R_H F_H k) ∧ goodWord (u_lay R_H F_H k) = true := by decide +kernel
def R_P : String := "HeadCount$Parser"
def fl_P : List (String × String × String × Bool) := [("HeadCount$Parser", "signs", "[C", true), ("HeadCount$Parser", "count", "I", false), ("HeadCount$Parser", "at", "I", false), ("HeadCount$Parser", "quantifiers", "I", false), ("HeadCount$Parser", "bound", "[Z", true), ("HeadCount$Parser", "nodes", "[LHeadCount$Node;", false), ("HeadCount$Parser", "nodesInForce", "[LHeadCount$Node;", false), ("HeadCount$Parser", "made", "I", false)]
def F_P : u_T := fun k => fl_P.getD k ("", "", "", false)
def jl_P : List Nat := [54, 56, 58, 60, 62, 64, 66, 68]
theorem cu_P : ∀ k, k < 8 → tables_1[(jl_P.getD k 0)]? = some (u_lay R_P F_P k) ∧ goodWord (u_lay R_P F_P k) = true := by decide +kernel
def R_O : String := "HeadCount$World"
def fl_O : List (String × String × String × Bool) := [("HeadCount$World", "size", "I", false), ("HeadCount$World", "allElements", "I", false), ("HeadCount$World", "values", "[I", true)]
def F_O : u_T := fun k => fl_O.getD k ("", "", "", false)
def jl_O : List Nat := [85, 87, 89]
theorem cu_O : ∀ k, k < 3 → tables_1[(jl_O.getD k 0)]? = some (u_lay R_O F_O k) ∧ goodWord (u_lay R_O F_O k) = true := by decide +kernel
def R_N : String := "HeadCount$Node"
def fl_N : List (String × String × String × Bool) := [("HeadCount$Node", "sign", "C", false), ("HeadCount$Node", "number", "I", false), ("HeadCount$Node", "variable", "I", false), ("HeadCount$Node", "first", "LHeadCount$Node;", false), ("HeadCount$Node", "next", "LHeadCount$Node;", false)]
def F_N : u_T := fun k => fl_N.getD k ("", "", "", false)
def jl_N : List Nat := [266, 268, 270, 272, 274]
theorem cu_N : ∀ k, k < 5 → tables_1[(jl_N.getD k 0)]? = some (u_lay R_N F_N k) ∧ goodWord (u_lay R_N F_N k) = true := by decide +kernel
def R_M : String := "HeadCountModel"
def fl_M : List (String × String × String × Bool) := [("HeadCountModel", "code", "I", false), ("HeadCountModel", "typed", "I", false), ("HeadCountModel", "text", "[C", true), ("HeadCountModel", "there", "Z", false), ("HeadCountModel", "length", "I", false), ("HeadCountModel", "loops", "I", false), ("HeadCountModel", "order", "[I", true), ("HeadCountModel", "arg", "[I", true), ("HeadCountModel", "every", "[Z", true), ("HeadCountModel", "overSets", "[Z", true), ("HeadCountModel", "opens", "Z", false), ("HeadCountModel", "freshOpens", "Z", false), ("HeadCountModel", "freshLength", "I", false), ("HeadCountModel", "freshLoops", "I", false), ("HeadCountModel", "freshOrder", "[I", true), ("HeadCountModel", "freshArg", "[I", true), ("HeadCountModel", "freshEvery", "[Z", true), ("HeadCountModel", "freshSets", "[Z", true), ("HeadCountModel", "state", "I", false), ("HeadCountModel", "open", "I", false), ("HeadCountModel", "pile", "[I", true), ("HeadCountModel", "variable", "[I", true), ("HeadCountModel", "before", "[I", true), ("HeadCountModel", "binds", "[I", true), ("HeadCountModel", "depth", "I", false), ("HeadCountModel", "universal", "Z", false), ("HeadCountModel", "figure", "I", false), ("HeadCountModel", "figures", "I", false), ("HeadCountModel", "times", "Z", false), ("HeadCountModel", "factor", "I", false), ("HeadCountModel", "minus", "Z", false), ("HeadCountModel", "firstPart", "Z", false), ("HeadCountModel", "bare", "Z", false), ("HeadCountModel", "relation", "I", false), ("HeadCountModel", "divisor", "I", false), ("HeadCountModel", "size", "I", false), ("HeadCountModel", "value", "[I", true), ("HeadCountModel", "start", "[I", true), ("HeadCountModel", "high", "I", false), ("HeadCountModel", "stack", "[I", true), ("HeadCountModel", "good", "I", false)]
def F_M : u_T := fun k => fl_M.getD k ("", "", "", false)
def jl_M : List Nat := [577, 579, 581, 583, 585, 587, 589, 591, 593, 595, 597, 599, 601, 603, 605, 607, 609, 611, 613, 615, 617, 619, 621, 623, 625, 627, 629, 631, 633, 635, 637, 639, 641, 643, 645, 647, 649, 651, 653, 655, 657]
theorem cu_M : ∀ k, k < 41 → tables_1[(jl_M.getD k 0)]? = some (u_lay R_M F_M k) ∧ goodWord (u_lay R_M F_M k) = true := by decide +kernel
def hcCl : List vw_C := [(R_H, F_H, 6), (R_P, F_P, 8), (R_O, F_O, 3), (R_N, F_N, 5), (R_M, F_M, 41)]
def rfT : List (List Nat) := [[0, 2, 3, 4, 5], [0, 4, 5, 6], [2], [3, 4], [2, 6, 7, 8, 9, 14, 15, 16, 17, 20, 21, 22, 23, 36, 37, 39]]
def fR (c k : Nat) : Bool := (rfT.getD c []).contains k
def ndC : Nat := 3
theorem ndCl : hcCl[ndC]? = some (R_N, F_N, 5) := rfl
theorem hk_H : hcCl[0]? = some (R_H, F_H, 6) := rfl
theorem hk_P : hcCl[1]? = some (R_P, F_P, 8) := rfl
theorem hk_O : hcCl[2]? = some (R_O, F_O, 3) := rfl
theorem hk_N : hcCl[3]? = some (R_N, F_N, 5) := rfl
theorem hk_M : hcCl[4]? = some (R_M, F_M, 41) := rfl
theorem hcOk : ∀ r ∈ hcCl, (∀ k, k < r.2.2 → (parseFieldDescriptor (r.2.1 k).2.2.1).isSome = true) ∧ (∀ a, a < r.2.2 → ∀ b, b < r.2.2 → a ≠ b → (r.2.1 a).2.1 ≠ (r.2.1 b).2.1) := by decide +kernel
def hcD : vw_C := ("", fun _ => ("", "", "", false), 0)
theorem hc_lt {c : Nat} {r : vw_C} (h : hcCl[c]? = some r) : c < 5 ∧ r = hcCl.getD c hcD := ⟨(List.getElem?_eq_some_iff.mp h).1, by rw [List.getD_eq_getElem?_getD, h]; rfl⟩
theorem hcDef0 : ∀ c, c < 5 → ∀ k, k < (hcCl.getD c hcD).2.2 → defaultValue ((parseFieldDescriptor ((hcCl.getD c hcD).2.1 k).2.2.1).getD .int) = (bif fR c k then Value.null else .int 0) := by decide +kernel
theorem hcDef (c : Nat) (r : vw_C) (h : hcCl[c]? = some r) (k : Nat) (hk : k < r.2.2) : defaultValue ((parseFieldDescriptor (r.2.1 k).2.2.1).getD .int) = (bif fR c k then Value.null else .int 0) := by
  obtain ⟨h1, rfl⟩ := hc_lt h
  exact hcDef0 c h1 k hk
theorem cu_of {R : String} {F : u_T} {n : Nat} {j : Nat → Nat} (h : ∀ k, k < n → tables_1[j k]? = some (u_lay R F k) ∧ goodWord (u_lay R F k) = true) : ∀ w ∈ u_ws R F n, w ∈ lw_tbl ∧ goodWord w = true := by
  intro w hw
  obtain ⟨k, hk, rfl⟩ := List.mem_map.mp hw
  obtain ⟨h1, h2⟩ := h k (List.mem_range.mp hk)
  exact ⟨List.mem_append_right _ (List.mem_of_getElem? h1), h2⟩
theorem cuW (c : Nat) (r : vw_C) (h : hcCl[c]? = some r) : ∀ w ∈ u_ws r.1 r.2.1 r.2.2, w ∈ lw_tbl ∧ goodWord w = true := by
  obtain ⟨h1, rfl⟩ := hc_lt h
  have h2 : c = 0 ∨ c = 1 ∨ c = 2 ∨ c = 3 ∨ c = 4 := by omega
  rcases h2 with rfl | rfl | rfl | rfl | rfl
  · exact cu_of cu_H
  · exact cu_of cu_P
  · exact cu_of cu_O
  · exact cu_of cu_N
  · exact cu_of cu_M
theorem ka_boolean : Cond.arrayClass .boolean ∈ lw_tbl := List.mem_append_right _ (List.mem_of_getElem? (i := 73) (by decide +kernel))
theorem ka_byte : Cond.arrayClass .byte ∈ lw_tbl := List.mem_append_right _ (List.mem_of_getElem? (i := 72) (by decide +kernel))
theorem ka_char : Cond.arrayClass .char ∈ lw_tbl := List.mem_append_right _ (List.mem_of_getElem? (i := 71) (by decide +kernel))
theorem ka_int : Cond.arrayClass .int ∈ lw_tbl := List.mem_append_right _ (List.mem_of_getElem? (i := 92) (by decide +kernel))
theorem ka_long : Cond.arrayClass .long ∈ lw_tbl := List.mem_append_right _ (List.mem_of_getElem? (i := 822) (by decide +kernel))
theorem ki_H : Cond.initialized "HeadCount" ∈ lw_tbl := List.mem_append_right _ (List.mem_of_getElem? (i := 1) (by decide +kernel))
theorem ki_P : Cond.initialized "HeadCount$Parser" ∈ lw_tbl := List.mem_append_right _ (List.mem_of_getElem? (i := 2) (by decide +kernel))
theorem ki_O : Cond.initialized "HeadCount$World" ∈ lw_tbl := List.mem_append_right _ (List.mem_of_getElem? (i := 4) (by decide +kernel))
theorem ki_N : Cond.initialized "HeadCount$Node" ∈ lw_tbl := List.mem_append_right _ (List.mem_of_getElem? (i := 10) (by decide +kernel))
theorem ki_M : Cond.initialized "HeadCountModel" ∈ lw_tbl := List.mem_append_right _ (List.mem_of_getElem? (i := 5) (by decide +kernel))
theorem ki_S : Cond.initialized "java/lang/String" ∈ lw_tbl := List.mem_append_right _ (List.mem_of_getElem? (i := 3) (by decide +kernel))
theorem kn_H : Cond.instantiable "HeadCount" 6 ∈ lw_tbl := List.mem_append_right _ (List.mem_of_getElem? (i := 19) (by decide +kernel))
theorem kn_P : Cond.instantiable "HeadCount$Parser" 8 ∈ lw_tbl := List.mem_append_right _ (List.mem_of_getElem? (i := 27) (by decide +kernel))
theorem kn_O : Cond.instantiable "HeadCount$World" 3 ∈ lw_tbl := List.mem_append_right _ (List.mem_of_getElem? (i := 75) (by decide +kernel))
theorem kn_N : Cond.instantiable "HeadCount$Node" 5 ∈ lw_tbl := List.mem_append_right _ (List.mem_of_getElem? (i := 244) (by decide +kernel))
theorem kn_M : Cond.instantiable "HeadCountModel" 41 ∈ lw_tbl := List.mem_append_right _ (List.mem_of_getElem? (i := 531) (by decide +kernel))
def yH_init : MethodName := ⟨"HeadCount", "<init>", "()V"⟩
abbrev bH_init : ByteArray := prog_1_method_1_code
def yP_init : MethodName := ⟨"HeadCount$Parser", "<init>", "()V"⟩
abbrev bP_init : ByteArray := prog_3_method_1_code
def yS_length : MethodName := ⟨"java/lang/String", "length", "()I"⟩
abbrev bS_length : ByteArray := prog_14_method_54_code
def yS_coder : MethodName := ⟨"java/lang/String", "coder", "()B"⟩
abbrev bS_coder : ByteArray := prog_14_method_152_code
def yO_init : MethodName := ⟨"HeadCount$World", "<init>", "()V"⟩
abbrev bO_init : ByteArray := prog_4_method_1_code
def yH_write : MethodName := ⟨"HeadCount", "write", "(J)Z"⟩
abbrev bH_write : ByteArray := prog_1_method_2_code
def yH_byteAt : MethodName := ⟨"HeadCount", "byteAt", "(JI)I"⟩
abbrev bH_byteAt : ByteArray := prog_1_method_9_code
def yH_append : MethodName := ⟨"HeadCount", "append", "(I)V"⟩
abbrev bH_append : ByteArray := prog_1_method_10_code
def yH_wipe : MethodName := ⟨"HeadCount", "wipe", "()I"⟩
abbrev bH_wipe : ByteArray := prog_1_method_3_code
def yH_length : MethodName := ⟨"HeadCount", "length", "()I"⟩
abbrev bH_length : ByteArray := prog_1_method_8_code
def yL_read : MethodName := ⟨"HeadCountLaw", "read", "(LHeadCount;[J)I"⟩
abbrev bL_read : ByteArray := method_3_code
def yH_read : MethodName := ⟨"HeadCount", "read", "()I"⟩
abbrev bH_read : ByteArray := prog_1_method_4_code
def yP_parse : MethodName := ⟨"HeadCount$Parser", "parse", "([CI)LHeadCount$Node;"⟩
abbrev bP_parse : ByteArray := prog_3_method_2_code
def yP_start : MethodName := ⟨"HeadCount$Parser", "start", "([CI)V"⟩
abbrev bP_start : ByteArray := prog_3_method_3_code
def yP_row : MethodName := ⟨"HeadCount$Parser", "row", "(CI)LHeadCount$Node;"⟩
abbrev bP_row : ByteArray := prog_3_method_4_code
def yP_item : MethodName := ⟨"HeadCount$Parser", "item", "(CI)LHeadCount$Node;"⟩
abbrev bP_item : ByteArray := prog_3_method_5_code
def yP_one : MethodName := ⟨"HeadCount$Parser", "one", "(I)LHeadCount$Node;"⟩
abbrev bP_one : ByteArray := prog_3_method_6_code
def yP_insist : MethodName := ⟨"HeadCount$Parser", "insist", "(Z)V"⟩
abbrev bP_insist : ByteArray := prog_3_method_25_code
def yP_peek : MethodName := ⟨"HeadCount$Parser", "peek", "()C"⟩
abbrev bP_peek : ByteArray := prog_3_method_21_code
def yP_not : MethodName := ⟨"HeadCount$Parser", "not", "(I)LHeadCount$Node;"⟩
abbrev bP_not : ByteArray := prog_3_method_7_code
def yP_next : MethodName := ⟨"HeadCount$Parser", "next", "()C"⟩
abbrev bP_next : ByteArray := prog_3_method_22_code
def yP_make : MethodName := ⟨"HeadCount$Parser", "make", "(C)LHeadCount$Node;"⟩
abbrev bP_make : ByteArray := prog_3_method_24_code
def yN_init : MethodName := ⟨"HeadCount$Node", "<init>", "()V"⟩
abbrev bN_init : ByteArray := prog_2_method_1_code
def yN_reset : MethodName := ⟨"HeadCount$Node", "reset", "(C)V"⟩
abbrev bN_reset : ByteArray := prog_2_method_2_code
def yP_quantified : MethodName := ⟨"HeadCount$Parser", "quantified", "(I)LHeadCount$Node;"⟩
abbrev bP_quantified : ByteArray := prog_3_method_8_code
def yS_indexOf : MethodName := ⟨"java/lang/String", "indexOf", "(I)I"⟩
abbrev bS_indexOf : ByteArray := prog_14_method_79_code
def yS_indexOf2 : MethodName := ⟨"java/lang/String", "indexOf", "(II)I"⟩
abbrev bS_indexOf2 : ByteArray := prog_14_method_80_code
def yS_isLatin1 : MethodName := ⟨"java/lang/String", "isLatin1", "()Z"⟩
abbrev bS_isLatin1 : ByteArray := prog_14_method_154_code
def yT_indexOf : MethodName := ⟨"java/lang/StringLatin1", "indexOf", "([BIII)I"⟩
abbrev bT_indexOf : ByteArray := prog_15_method_22_code
def yT_canEncode : MethodName := ⟨"java/lang/StringLatin1", "canEncode", "(I)Z"⟩
abbrev bT_canEncode : ByteArray := prog_15_method_4_code
def yT_indexOfChar : MethodName := ⟨"java/lang/StringLatin1", "indexOfChar", "([BIII)I"⟩
abbrev bT_indexOfChar : ByteArray := prog_15_method_23_code
def yP_bracketed : MethodName := ⟨"HeadCount$Parser", "bracketed", "(I)LHeadCount$Node;"⟩
abbrev bP_bracketed : ByteArray := prog_3_method_9_code
def yP_take : MethodName := ⟨"HeadCount$Parser", "take", "(C)Z"⟩
abbrev bP_take : ByteArray := prog_3_method_23_code
def yP_comparisonOfSets : MethodName := ⟨"HeadCount$Parser", "comparisonOfSets", "(I)LHeadCount$Node;"⟩
abbrev bP_comparisonOfSets : ByteArray := prog_3_method_10_code
def yP_startsWithDivisor : MethodName := ⟨"HeadCount$Parser", "startsWithDivisor", "()Z"⟩
abbrev bP_startsWithDivisor : ByteArray := prog_3_method_11_code
def yP_isDecimal : MethodName := ⟨"HeadCount$Parser", "isDecimal", "(C)Z"⟩
abbrev bP_isDecimal : ByteArray := prog_3_method_20_code
def yP_number : MethodName := ⟨"HeadCount$Parser", "number", "()I"⟩
abbrev bP_number : ByteArray := prog_3_method_19_code
def yP_divided : MethodName := ⟨"HeadCount$Parser", "divided", "(I)LHeadCount$Node;"⟩
abbrev bP_divided : ByteArray := prog_3_method_12_code
def yP_addSum : MethodName := ⟨"HeadCount$Parser", "addSum", "(LHeadCount$Node;II)V"⟩
abbrev bP_addSum : ByteArray := prog_3_method_14_code
def yP_addPart : MethodName := ⟨"HeadCount$Parser", "addPart", "(LHeadCount$Node;II)V"⟩
abbrev bP_addPart : ByteArray := prog_3_method_15_code
def yP_thing : MethodName := ⟨"HeadCount$Parser", "thing", "(I)LHeadCount$Node;"⟩
abbrev bP_thing : ByteArray := prog_3_method_16_code
def yP_single : MethodName := ⟨"HeadCount$Parser", "single", "(I)LHeadCount$Node;"⟩
abbrev bP_single : ByteArray := prog_3_method_17_code
def yP_boundVariable : MethodName := ⟨"HeadCount$Parser", "boundVariable", "(C)I"⟩
abbrev bP_boundVariable : ByteArray := prog_3_method_18_code
def yP_comparisonOfSums : MethodName := ⟨"HeadCount$Parser", "comparisonOfSums", "(I)LHeadCount$Node;"⟩
abbrev bP_comparisonOfSums : ByteArray := prog_3_method_13_code
def yL_holds : MethodName := ⟨"HeadCountLaw", "holds", "(LHeadCount;I[J)I"⟩
abbrev bL_holds : ByteArray := method_4_code
def yH_holds : MethodName := ⟨"HeadCount", "holds", "(I)Z"⟩
abbrev bH_holds : ByteArray := prog_1_method_5_code
def yH_needSentence : MethodName := ⟨"HeadCount", "needSentence", "()V"⟩
abbrev bH_needSentence : ByteArray := prog_1_method_11_code
def yH_needWorld : MethodName := ⟨"HeadCount", "needWorld", "(I)V"⟩
abbrev bH_needWorld : ByteArray := prog_1_method_12_code
def yH_isTrueIn : MethodName := ⟨"HeadCount", "isTrueIn", "(I)Z"⟩
abbrev bH_isTrueIn : ByteArray := prog_1_method_14_code
def yH_waysIn : MethodName := ⟨"HeadCount", "waysIn", "(I)I"⟩
abbrev bH_waysIn : ByteArray := prog_1_method_13_code
def yO_count : MethodName := ⟨"HeadCount$World", "count", "(LHeadCount$Node;I)I"⟩
abbrev bO_count : ByteArray := prog_4_method_2_code
def yO_isTrue : MethodName := ⟨"HeadCount$World", "isTrue", "(LHeadCount$Node;)Z"⟩
abbrev bO_isTrue : ByteArray := prog_4_method_5_code
def yO_anyIs : MethodName := ⟨"HeadCount$World", "anyIs", "(ZLHeadCount$Node;)Z"⟩
abbrev bO_anyIs : ByteArray := prog_4_method_6_code
def yO_anyChoiceMakes : MethodName := ⟨"HeadCount$World", "anyChoiceMakes", "(ZLHeadCount$Node;)Z"⟩
abbrev bO_anyChoiceMakes : ByteArray := prog_4_method_7_code
def yO_value : MethodName := ⟨"HeadCount$World", "value", "(I)I"⟩
abbrev bO_value : ByteArray := prog_4_method_14_code
def yO_firstChoice : MethodName := ⟨"HeadCount$World", "firstChoice", "(I)I"⟩
abbrev bO_firstChoice : ByteArray := prog_4_method_4_code
def yO_choices : MethodName := ⟨"HeadCount$World", "choices", "(II)I"⟩
abbrev bO_choices : ByteArray := prog_4_method_3_code
def yO_bind : MethodName := ⟨"HeadCount$World", "bind", "(II)V"⟩
abbrev bO_bind : ByteArray := prog_4_method_15_code
def yO_isTrueOfSets : MethodName := ⟨"HeadCount$World", "isTrueOfSets", "(LHeadCount$Node;)Z"⟩
abbrev bO_isTrueOfSets : ByteArray := prog_4_method_8_code
def yO_elements : MethodName := ⟨"HeadCount$World", "elements", "(LHeadCount$Node;)I"⟩
abbrev bO_elements : ByteArray := prog_4_method_11_code
def yO_union : MethodName := ⟨"HeadCount$World", "union", "(LHeadCount$Node;)I"⟩
abbrev bO_union : ByteArray := prog_4_method_12_code
def yO_meet : MethodName := ⟨"HeadCount$World", "meet", "(LHeadCount$Node;)I"⟩
abbrev bO_meet : ByteArray := prog_4_method_13_code
def yO_isTrueOfSum : MethodName := ⟨"HeadCount$World", "isTrueOfSum", "(LHeadCount$Node;)Z"⟩
abbrev bO_isTrueOfSum : ByteArray := prog_4_method_9_code
def yO_amount : MethodName := ⟨"HeadCount$World", "amount", "(LHeadCount$Node;)I"⟩
abbrev bO_amount : ByteArray := prog_4_method_10_code
def yI_bitCount : MethodName := ⟨"java/lang/Integer", "bitCount", "(I)I"⟩
abbrev bI_bitCount : ByteArray := prog_11_method_49_code
def yL_fails : MethodName := ⟨"HeadCountLaw", "fails", "(LHeadCount;[J)I"⟩
abbrev bL_fails : ByteArray := method_5_code
def yH_fails : MethodName := ⟨"HeadCount", "fails", "()I"⟩
abbrev bH_fails : ByteArray := prog_1_method_6_code
def yL_ways : MethodName := ⟨"HeadCountLaw", "ways", "(LHeadCount;I[J)I"⟩
abbrev bL_ways : ByteArray := method_6_code
def yH_ways : MethodName := ⟨"HeadCount", "ways", "(I)I"⟩
abbrev bH_ways : ByteArray := prog_1_method_7_code
def yM_init : MethodName := ⟨"HeadCountModel", "<init>", "()V"⟩
abbrev bM_init : ByteArray := prog_6_method_1_code
def yM_thrown : MethodName := ⟨"HeadCountModel", "thrown", "()I"⟩
abbrev bM_thrown : ByteArray := prog_6_method_2_code
def yM_write : MethodName := ⟨"HeadCountModel", "write", "(J)Z"⟩
abbrev bM_write : ByteArray := prog_6_method_3_code
def yM_wipe : MethodName := ⟨"HeadCountModel", "wipe", "()I"⟩
abbrev bM_wipe : ByteArray := prog_6_method_4_code
def yM_length : MethodName := ⟨"HeadCountModel", "length", "()I"⟩
abbrev bM_length : ByteArray := prog_6_method_5_code
def yM_read : MethodName := ⟨"HeadCountModel", "read", "()I"⟩
abbrev bM_read : ByteArray := prog_6_method_29_code
def yM_isSentence : MethodName := ⟨"HeadCountModel", "isSentence", "()Z"⟩
abbrev bM_isSentence : ByteArray := prog_6_method_28_code
def yM_next : MethodName := ⟨"HeadCountModel", "next", "(C)I"⟩
abbrev bM_next : ByteArray := prog_6_method_27_code
def yM_one : MethodName := ⟨"HeadCountModel", "one", "(C)I"⟩
abbrev bM_one : ByteArray := prog_6_method_14_code
def yM_deeper : MethodName := ⟨"HeadCountModel", "deeper", "(I)Z"⟩
abbrev bM_deeper : ByteArray := prog_6_method_9_code
def yM_push : MethodName := ⟨"HeadCountModel", "push", "(I)V"⟩
abbrev bM_push : ByteArray := prog_6_method_8_code
def yM_sum : MethodName := ⟨"HeadCountModel", "sum", "(C)I"⟩
abbrev bM_sum : ByteArray := prog_6_method_18_code
def yM_part : MethodName := ⟨"HeadCountModel", "part", "(C)I"⟩
abbrev bM_part : ByteArray := prog_6_method_19_code
def yM_isDigit : MethodName := ⟨"HeadCountModel", "isDigit", "(C)Z"⟩
abbrev bM_isDigit : ByteArray := prog_6_method_13_code
def yM_thing : MethodName := ⟨"HeadCountModel", "thing", "(C)I"⟩
abbrev bM_thing : ByteArray := prog_6_method_21_code
def yM_variableOf : MethodName := ⟨"HeadCountModel", "variableOf", "(C)I"⟩
abbrev bM_variableOf : ByteArray := prog_6_method_12_code
def yM_emit : MethodName := ⟨"HeadCountModel", "emit", "(II)V"⟩
abbrev bM_emit : ByteArray := prog_6_method_6_code
def yM_wholePart : MethodName := ⟨"HeadCountModel", "wholePart", "()V"⟩
abbrev bM_wholePart : ByteArray := prog_6_method_22_code
def yM_afterOne : MethodName := ⟨"HeadCountModel", "afterOne", "(C)I"⟩
abbrev bM_afterOne : ByteArray := prog_6_method_17_code
def yM_settle : MethodName := ⟨"HeadCountModel", "settle", "(II)V"⟩
abbrev bM_settle : ByteArray := prog_6_method_11_code
def yM_upper : MethodName := ⟨"HeadCountModel", "upper", "()I"⟩
abbrev bM_upper : ByteArray := prog_6_method_7_code
def yM_close : MethodName := ⟨"HeadCountModel", "close", "()V"⟩
abbrev bM_close : ByteArray := prog_6_method_10_code
def yM_wholeOne : MethodName := ⟨"HeadCountModel", "wholeOne", "()I"⟩
abbrev bM_wholeOne : ByteArray := prog_6_method_16_code
def yM_bound : MethodName := ⟨"HeadCountModel", "bound", "(C)I"⟩
abbrev bM_bound : ByteArray := prog_6_method_15_code
def yM_afterNumber : MethodName := ⟨"HeadCountModel", "afterNumber", "(C)I"⟩
abbrev bM_afterNumber : ByteArray := prog_6_method_20_code
def yM_afterPart : MethodName := ⟨"HeadCountModel", "afterPart", "(C)I"⟩
abbrev bM_afterPart : ByteArray := prog_6_method_23_code
def yM_single : MethodName := ⟨"HeadCountModel", "single", "(C)I"⟩
abbrev bM_single : ByteArray := prog_6_method_24_code
def yM_wholeSingle : MethodName := ⟨"HeadCountModel", "wholeSingle", "()I"⟩
abbrev bM_wholeSingle : ByteArray := prog_6_method_25_code
def yM_afterSingle : MethodName := ⟨"HeadCountModel", "afterSingle", "(C)I"⟩
abbrev bM_afterSingle : ByteArray := prog_6_method_26_code
def yM_holds : MethodName := ⟨"HeadCountModel", "holds", "(I)Z"⟩
abbrev bM_holds : ByteArray := prog_6_method_40_code
def yM_isSize : MethodName := ⟨"HeadCountModel", "isSize", "(I)Z"⟩
abbrev bM_isSize : ByteArray := prog_6_method_39_code
def yM_run : MethodName := ⟨"HeadCountModel", "run", "(IZ)Z"⟩
abbrev bM_run : ByteArray := prog_6_method_38_code
def yM_pop : MethodName := ⟨"HeadCountModel", "pop", "()I"⟩
abbrev bM_pop : ByteArray := prog_6_method_31_code
def yM_ends : MethodName := ⟨"HeadCountModel", "ends", "(IIZ)Z"⟩
abbrev bM_ends : ByteArray := prog_6_method_36_code
def yM_lastOf : MethodName := ⟨"HeadCountModel", "lastOf", "(I)I"⟩
abbrev bM_lastOf : ByteArray := prog_6_method_35_code
def yM_put : MethodName := ⟨"HeadCountModel", "put", "(I)V"⟩
abbrev bM_put : ByteArray := prog_6_method_30_code
def yM_doSum : MethodName := ⟨"HeadCountModel", "doSum", "(II)V"⟩
abbrev bM_doSum : ByteArray := prog_6_method_33_code
def yM_count : MethodName := ⟨"HeadCountModel", "count", "(I)I"⟩
abbrev bM_count : ByteArray := prog_6_method_32_code
def yM_doOther : MethodName := ⟨"HeadCountModel", "doOther", "(I)V"⟩
abbrev bM_doOther : ByteArray := prog_6_method_34_code
def yM_fails : MethodName := ⟨"HeadCountModel", "fails", "()I"⟩
abbrev bM_fails : ByteArray := prog_6_method_41_code
def yM_ways : MethodName := ⟨"HeadCountModel", "ways", "(I)I"⟩
abbrev bM_ways : ByteArray := prog_6_method_42_code
def yM_isLoop : MethodName := ⟨"HeadCountModel", "isLoop", "()Z"⟩
abbrev bM_isLoop : ByteArray := prog_6_method_37_code
def yL_law : MethodName := ⟨"HeadCountLaw", "law", "([I)Z"⟩
abbrev bL_law : ByteArray := code
end
section
/-! The memory of both sides and of the law's own row, as plain functions: ints, references, longs by (cell, place); the kind and the length of a cell; how many cells there are, how many slots were made, and up to where cells may be made. -/
abbrev Mem : Type := (Nat → Nat → Int32) × (Nat → Nat → Option Nat) × (Nat → Nat → Int64) × (Nat → Nat) × (Nat → Nat) × Nat × Nat × (Nat → Nat)
def mI (M : Mem) : Nat → Nat → Int32 := M.1
def mP (M : Mem) : Nat → Nat → Option Nat := M.2.1
def mJ (M : Mem) : Nat → Nat → Int64 := M.2.2.1
def mK (M : Mem) : Nat → Nat := M.2.2.2.1
def mL (M : Mem) : Nat → Nat := M.2.2.2.2.1
def mS (M : Mem) : Nat := M.2.2.2.2.2.1
def mU (M : Mem) : Nat := M.2.2.2.2.2.2.1
def mC (M : Mem) : Nat → Nat := M.2.2.2.2.2.2.2
def fu {α : Type} (f : Nat → Nat → α) (a k : Nat) (v : α) : Nat → Nat → α := fun b j => if b = a ∧ j = k then v else f b j
def fz {α : Type} (f : Nat → Nat → α) (a : Nat) (v : α) : Nat → Nat → α := fun b j => if b = a then v else f b j
def setI (M : Mem) (a k : Nat) (v : Int32) : Mem := (fu M.1 a k v, M.2)
def setP (M : Mem) (a k : Nat) (v : Option Nat) : Mem := (M.1, fu M.2.1 a k v, M.2.2)
def setJ (M : Mem) (a k : Nat) (v : Int64) : Mem := (M.1, M.2.1, fu M.2.2.1 a k v, M.2.2.2)
/-- a new cell at the end: kind kd, length ln, sl slots, all its places 0 or null -/
def newC (M : Mem) (kd ln sl : Nat) : Mem := (fz M.1 (mS M) 0, fz M.2.1 (mS M) none, fz M.2.2.1 (mS M) 0, va_up (mK M) (mS M) kd, va_up (mL M) (mS M) ln, mS M + 1, mU M + sl, mC M)
theorem fu_eq {α : Type} (f : Nat → Nat → α) (a k : Nat) (v : α) : fu f a k v a k = v := by simp [fu]
theorem fu_ne {α : Type} (f : Nat → Nat → α) {a k b j : Nat} (v : α) (h : ¬ (b = a ∧ j = k)) : fu f a k v b j = f b j := by simp [fu, h]
theorem fu_row {α : Type} (f : Nat → Nat → α) {a k b : Nat} (v : α) (h : b ≠ a) : fu f a k v b = f b := by funext j; simp [fu, h]
theorem fz_row {α : Type} (f : Nat → Nat → α) {a b : Nat} (v : α) (h : b ≠ a) : fz f a v b = f b := by funext j; simp [fz, h]
theorem fz_eq {α : Type} (f : Nat → Nat → α) (a : Nat) (v : α) (j : Nat) : fz f a v a j = v := by simp [fz]
section MemSimp
variable (M : Mem) (a k : Nat)
theorem mI_setI (v : Int32) : mI (setI M a k v) = fu (mI M) a k v := rfl
theorem mP_setI (v : Int32) : mP (setI M a k v) = mP M := rfl
theorem mJ_setI (v : Int32) : mJ (setI M a k v) = mJ M := rfl
theorem mK_setI (v : Int32) : mK (setI M a k v) = mK M := rfl
theorem mL_setI (v : Int32) : mL (setI M a k v) = mL M := rfl
theorem mS_setI (v : Int32) : mS (setI M a k v) = mS M := rfl
theorem mU_setI (v : Int32) : mU (setI M a k v) = mU M := rfl
theorem mC_setI (v : Int32) : mC (setI M a k v) = mC M := rfl
theorem mI_setP (v : Option Nat) : mI (setP M a k v) = mI M := rfl
theorem mP_setP (v : Option Nat) : mP (setP M a k v) = fu (mP M) a k v := rfl
theorem mJ_setP (v : Option Nat) : mJ (setP M a k v) = mJ M := rfl
theorem mK_setP (v : Option Nat) : mK (setP M a k v) = mK M := rfl
theorem mL_setP (v : Option Nat) : mL (setP M a k v) = mL M := rfl
theorem mS_setP (v : Option Nat) : mS (setP M a k v) = mS M := rfl
theorem mU_setP (v : Option Nat) : mU (setP M a k v) = mU M := rfl
theorem mC_setP (v : Option Nat) : mC (setP M a k v) = mC M := rfl
theorem mI_setJ (v : Int64) : mI (setJ M a k v) = mI M := rfl
theorem mP_setJ (v : Int64) : mP (setJ M a k v) = mP M := rfl
theorem mJ_setJ (v : Int64) : mJ (setJ M a k v) = fu (mJ M) a k v := rfl
theorem mK_setJ (v : Int64) : mK (setJ M a k v) = mK M := rfl
theorem mL_setJ (v : Int64) : mL (setJ M a k v) = mL M := rfl
theorem mS_setJ (v : Int64) : mS (setJ M a k v) = mS M := rfl
theorem mU_setJ (v : Int64) : mU (setJ M a k v) = mU M := rfl
theorem mC_setJ (v : Int64) : mC (setJ M a k v) = mC M := rfl
variable (kd ln sl : Nat)
theorem mI_newC : mI (newC M kd ln sl) = fz (mI M) (mS M) 0 := rfl
theorem mP_newC : mP (newC M kd ln sl) = fz (mP M) (mS M) none := rfl
theorem mJ_newC : mJ (newC M kd ln sl) = fz (mJ M) (mS M) 0 := rfl
theorem mK_newC : mK (newC M kd ln sl) = va_up (mK M) (mS M) kd := rfl
theorem mL_newC : mL (newC M kd ln sl) = va_up (mL M) (mS M) ln := rfl
theorem mS_newC : mS (newC M kd ln sl) = mS M + 1 := rfl
theorem mU_newC : mU (newC M kd ln sl) = mU M + sl := rfl
theorem mC_newC : mC (newC M kd ln sl) = mC M := rfl
end MemSimp
/-- what a run of a method comes to: nothing (it isn't safe), or an answer, or the number of what is thrown, and the memory behind it -/
abbrev Rz : Type := Option ((Option Value ⊕ Nat) × Mem)
theorem rz_chk {c : Prop} [Decidable c] {X : Rz} {r : (Option Value ⊕ Nat) × Mem} (h : (if c then X else none) = some r) : c ∧ X = some r := by
  by_cases hc : c
  · rw [if_pos hc] at h; exact ⟨hc, h⟩
  · rw [if_neg hc] at h; cases h
theorem rz_br {c : Prop} [Decidable c] {X Y : Rz} {r : (Option Value ⊕ Nat) × Mem} (h : (if c then X else Y) = some r) : (c ∧ X = some r) ∨ (¬ c ∧ Y = some r) := by
  by_cases hc : c
  · rw [if_pos hc] at h; exact Or.inl ⟨hc, h⟩
  · rw [if_neg hc] at h; exact Or.inr ⟨hc, h⟩
/-- a reference that must not be null -/
def rzD (r : Option Nat) (k : Nat → Rz) : Rz := match r with
  | none => none
  | some a => k a
theorem rz_d {r : Option Nat} {k : Nat → Rz} {x : (Option Value ⊕ Nat) × Mem} (h : rzD r k = some x) : ∃ a, r = some a ∧ k a = some x := by
  cases r with
  | none => cases h
  | some a => exact ⟨a, rfl, h⟩
/-- a call: an answer goes on, what is thrown goes out -/
def rzC (c : Rz) (k : Option Value → Mem → Rz) : Rz := match c with
  | none => none
  | some (.inl v, M) => k v M
  | some (.inr x, M) => some (.inr x, M)
theorem rz_c {c : Rz} {k : Option Value → Mem → Rz} {x : (Option Value ⊕ Nat) × Mem} (h : rzC c k = some x) : ∃ r M, c = some (r, M) ∧ ((∃ v, r = .inl v ∧ k v M = some x) ∨ (∃ e, r = .inr e ∧ x = (.inr e, M))) := by
  rcases c with _ | ⟨v | e, M⟩
  · cases h
  · exact ⟨_, _, rfl, Or.inl ⟨v, rfl, h⟩⟩
  · exact ⟨_, _, rfl, Or.inr ⟨e, rfl, (Option.some.inj h).symm⟩⟩
/-- an answer that is an int; a reference; nothing -/
def rzI (v : Option Value) (k : Int32 → Rz) : Rz := match v with
  | some (.int x) => k x
  | _ => none
def rzP (v : Option Value) (k : Option Nat → Rz) : Rz := match v with
  | some .null => k none
  | some (.ref a) => k (some a)
  | _ => none
def rzV (v : Option Value) (k : Rz) : Rz := match v with
  | none => k
  | _ => none
theorem rz_i {v : Option Value} {k : Int32 → Rz} {x : (Option Value ⊕ Nat) × Mem} (h : rzI v k = some x) : ∃ y, v = some (.int y) ∧ k y = some x := by
  unfold rzI at h
  split at h
  · exact ⟨_, rfl, h⟩
  · cases h
theorem rz_p {v : Option Value} {k : Option Nat → Rz} {x : (Option Value ⊕ Nat) × Mem} (h : rzP v k = some x) : ∃ r, v = some (va_rf r) ∧ k r = some x := by
  unfold rzP at h
  split at h
  · exact ⟨none, rfl, h⟩
  · exact ⟨some _, rfl, h⟩
  · cases h
theorem rz_v {v : Option Value} {k : Rz} {x : (Option Value ⊕ Nat) × Mem} (h : rzV v k = some x) : v = none ∧ k = some x := by
  unfold rzV at h
  split at h
  · exact ⟨rfl, h⟩
  · cases h
end
section
/-! The heap holds the memory: what each kind of cell is. G: where the law's own cells begin, the heap as it was there, the numbers and slots of the kinds of objects, the kinds of arrays. -/
abbrev Gx : Type := Nat × Heap × va_G × (Nat → ClassId) × (Nat → Nat)
abbrev gZ (G : Gx) : Nat := G.1
abbrev gH (G : Gx) : Heap := G.2.1
abbrev gD (G : Gx) : va_G := G.2.2.1
abbrev gA (G : Gx) : Nat → ClassId := G.2.2.2.1
abbrev gC (G : Gx) : Nat → Nat := G.2.2.2.2
def fV (M : Mem) (a c k : Nat) : Value := bif fR c k then va_rf (mP M a k) else .int (mI M a k)
def aE (M : Mem) (kd a : Nat) : vp_A := if kd = 24 then (mL M a, .inr (.inl (mJ M a))) else if kd = 25 then (mL M a, .inr (.inr (.inr (.inr (mP M a))))) else (mL M a, .inl (mI M a))
def RealAt (D : va_G) (aC : Nat → ClassId) (M : Mem) (H : Heap) (a : Nat) : Prop :=
  (∀ (c : Nat) (r : vw_C), mK M a = c + 1 → hcCl[c]? = some r → t_OB a (D.1 c) r.2.2 (D.2 c) H (fV M a c)) ∧ (21 ≤ mK M a → H[a]? = some (vp_cell (aC (mK M a)) (aE M (mK M a) a)))
def Real (G : Gx) (M : Mem) (H : Heap) : Prop :=
  H.size = mS M ∧ gZ G ≤ mS M ∧ (∀ q : Nat, q < gZ G → H[q]? = (gH G)[q]?) ∧ ∀ a : Nat, mK M a ≠ 0 → gZ G ≤ a ∧ a < mS M ∧ RealAt (gD G) (gA G) M H a
/-- the most slots that may be made -/
def SLm : Nat := room_1.slots
theorem fV_row {M M' : Mem} {a c : Nat} (hI : mI M' a = mI M a) (hP : mP M' a = mP M a) : fV M' a c = fV M a c := by
  funext k
  simp only [fV, hI, hP]
theorem aE_row {M M' : Mem} {kd a : Nat} (hI : mI M' a = mI M a) (hP : mP M' a = mP M a) (hJ : mJ M' a = mJ M a) (hL : mL M' a = mL M a) : aE M' kd a = aE M kd a := by
  simp only [aE, hI, hP, hJ, hL]
theorem RealAt.kept {D : va_G} {aC : Nat → ClassId} {M M' : Mem} {H H' : Heap} {a : Nat} (h : RealAt D aC M H a) (hq : H'[a]? = H[a]?) (hK : mK M' a = mK M a) (hI : mI M' a = mI M a) (hP : mP M' a = mP M a) (hJ : mJ M' a = mJ M a) (hL : mL M' a = mL M a) : RealAt D aC M' H' a := by
  refine ⟨fun c r h1 h2 => ?_, fun h1 => ?_⟩
  · rw [fV_row hI hP]
    exact (h.1 c r (by rw [← hK]; exact h1) h2).kept hq
  · rw [aE_row hI hP hJ hL, hK, hq]
    exact h.2 (by rw [← hK]; exact h1)
/-- one cell has changed -/
theorem Real.upd {G : Gx} {M M' : Mem} {H H' : Heap} {a : Nat} (h : Real G M H) (ha : mK M a ≠ 0) (hs : H'.size = H.size) (ho : ∀ q : Nat, q ≠ a → H'[q]? = H[q]?)
    (hK : mK M' = mK M) (hL : mL M' = mL M) (hS : mS M' = mS M) (hI : ∀ b, b ≠ a → mI M' b = mI M b) (hP : ∀ b, b ≠ a → mP M' b = mP M b) (hJ : ∀ b, b ≠ a → mJ M' b = mJ M b)
    (hat : RealAt (gD G) (gA G) M' H' a) : Real G M' H' := by
  obtain ⟨h1, h2, h3, h4⟩ := h
  have ha1 := (h4 a ha).1
  refine ⟨by rw [hs, hS]; exact h1, by rw [hS]; exact h2, fun q hq => (ho q (by omega)).trans (h3 q hq), fun b hb => ?_⟩
  rw [hK] at hb
  obtain ⟨g1, g2, g3⟩ := h4 b hb
  refine ⟨g1, by rw [hS]; exact g2, ?_⟩
  by_cases hba : b = a
  · subst hba; exact hat
  · exact g3.kept (ho b hba) (by rw [hK]) (hI b hba) (hP b hba) (hJ b hba) (by rw [hL])
/-- one cell more -/
theorem Real.new {G : Gx} {M : Mem} {H H' : Heap} (h : Real G M H) (kd ln sl : Nat) (hs : H'.size = H.size + 1) (ho : ∀ q : Nat, q < H.size → H'[q]? = H[q]?)
    (hat : kd ≠ 0 → RealAt (gD G) (gA G) (newC M kd ln sl) H' (mS M)) : Real G (newC M kd ln sl) H' := by
  obtain ⟨h1, h2, h3, h4⟩ := h
  refine ⟨by rw [hs, h1, mS_newC], by rw [mS_newC]; omega, fun q hq => (ho q (by omega)).trans (h3 q hq), fun b hb => ?_⟩
  rw [mK_newC] at hb
  by_cases hba : b = mS M
  · subst hba
    rw [va_up_self] at hb
    exact ⟨h2, by rw [mS_newC]; omega, hat hb⟩
  · rw [va_up_ne _ _ hba] at hb
    obtain ⟨g1, g2, g3⟩ := h4 b hb
    refine ⟨g1, by rw [mS_newC]; omega, g3.kept (ho b (by omega)) (by rw [mK_newC, va_up_ne _ _ hba]) (by rw [mI_newC, fz_row _ _ hba]) (by rw [mP_newC, fz_row _ _ hba]) (by rw [mJ_newC, fz_row _ _ hba]) (by rw [mL_newC, va_up_ne _ _ hba])⟩
theorem Real.at {G : Gx} {M : Mem} {H : Heap} {a : Nat} (h : Real G M H) (hk : mK M a ≠ 0) : RealAt (gD G) (gA G) M H a := (h.2.2.2 a hk).2.2
theorem Real.obj {G : Gx} {M : Mem} {H : Heap} {a c : Nat} {r : vw_C} (h : Real G M H) (hk : mK M a = c + 1) (hc : hcCl[c]? = some r) : t_OB a ((gD G).1 c) r.2.2 ((gD G).2 c) H (fV M a c) :=
  (h.at (by rw [hk]; exact Nat.succ_ne_zero c)).1 c r hk hc
theorem Real.arr {G : Gx} {M : Mem} {H : Heap} {a : Nat} (kd : Nat) (h : Real G M H) (hk : mK M a = kd) (h21 : 21 ≤ kd) : H[a]? = some (vp_cell ((gA G) kd) (aE M kd a)) := by
  have h1 := (h.at (by rw [hk]; omega)).2 (by rw [hk]; exact h21)
  rw [hk] at h1
  exact h1
theorem Real.lo {G : Gx} {M : Mem} {H : Heap} {a : Nat} (h : Real G M H) (hk : mK M a ≠ 0) : gZ G ≤ a := (h.2.2.2 a hk).1
theorem fV_setI {M : Mem} {a c k : Nat} {v : Int32} (hr : fR c k = false) : fV (setI M a k v) a c = updV (fV M a c) k (.int v) := by
  funext j
  by_cases hj : j = k
  · subst hj; simp [fV, updV, hr, mI_setI, fu]
  · simp [fV, updV, hj, mI_setI, mP_setI, fu]
theorem fV_setP {M : Mem} {a c k : Nat} {v : Option Nat} (hr : fR c k = true) : fV (setP M a k v) a c = updV (fV M a c) k (va_rf v) := by
  funext j
  by_cases hj : j = k
  · subst hj; simp [fV, updV, hr, mP_setP, fu]
  · simp [fV, updV, hj, mI_setP, mP_setP, fu]
/-- the memory, the places written, the cells and slots made since the method's start M0 -/
def RL (G : Gx) (M0 M : Mem) (H : Heap) (locs : List Loc) (cells slots : Nat) : Prop :=
  Real G M H ∧ (∀ q ∈ locs, gZ G ≤ q.base) ∧ cells + mS M0 = mS M ∧ slots + mU M0 = mU M ∧ mC M = gC G ∧ mS M ≤ mC M 0 ∧ mU M ≤ SLm
theorem RL.put {G : Gx} {M0 M M' : Mem} {H H' : Heap} {locs : List Loc} {cells slots a i : Nat} (h : RL G M0 M H locs cells slots) (ha : gZ G ≤ a) (hS : mS M' = mS M) (hU : mU M' = mU M) (hC : mC M' = mC M) (hR : Real G M' H') : RL G M0 M' H' (locs ++ [⟨a, i⟩]) cells slots :=
  ⟨hR, t_lc (free := fun q => gZ G ≤ q) h.2.1 ha, by rw [hS]; exact h.2.2.1, by rw [hU]; exact h.2.2.2.1, by rw [hC]; exact h.2.2.2.2.1, by rw [hS, hC]; exact h.2.2.2.2.2.1, by rw [hU]; exact h.2.2.2.2.2.2⟩
end
section
/-! rows: reading and writing the memory -/
abbrev gO (G : Gx) : Nat → Prop := fun q => gZ G ≤ q
/-- a static of the library's that holds a reference, in the old part of the heap -/
def StF (C n d : String) (G : Gx) (U : State) : Prop := ∃ (c : ClassId) (k : Class) (i : Nat) (f : Field) (a : Nat) (cell : Cell) (v : Value), U.vm.findClass C = some c ∧ U.fieldFound? C n d = some (c, k, i, f) ∧ f.isStatic = true ∧ k.statics = some a ∧ (gH G)[a]? = some cell ∧ cell.vm.isStatics = true ∧ cell.cls = c ∧ f.slot < cell.slots.size ∧ k.staticTypes[f.slot]? = some f.type ∧ cell.slots[f.slot]? = some v ∧ v.isRef = true ∧ a < gZ G
theorem StF.moved {C n d : String} {G : Gx} {u U : State} (hvm : u.vm.Alike U.vm) (h : StF C n d G u) : StF C n d G U := by
  obtain ⟨c, k, i, f, a, cell, v, h1, h2, h3, h4, h5, h6, h7, h8, h9, h10⟩ := h
  obtain ⟨k', hi', he⟩ := State.fieldFound?_setVm hvm h2
  exact ⟨c, k', i, f, a, cell, v, by rw [hvm.findClass]; exact h1, hi', h3, by rw [he]; exact h4, h5, h6, h7, h8, by rw [he]; exact h9, h10⟩
/-- the text's own signs of the variables -/
def sVar : List Int32 := [105, 106, 107, 88, 89, 90]
/-- what the old part of the heap holds -/
def Old (G : Gx) (s : State) : Prop := (vk_R "HeadCount$Parser" 15 "ijkXYZ" (gC G 1) s ∧ vk_R "HeadCount$World" 9 "ijkXYZ" (gC G 1) s ∧ vk_R "HeadCount$Parser" 154 "the text is no sentence" (gC G 2) s ∧ vk_R "HeadCount" 70 "there is no sentence" (gC G 3) s ∧ vk_R "HeadCount" 77 "no world has so many elements" (gC G 4) s) ∧
  vk_S 1 [6] [sVar] (fun _ => gC G 1) (fun _ => gC G 5) (gO G) s (gH G) ∧ va_Z "java/lang/String" "COMPACT_STRINGS" "Z" (.int 1) (gO G) s (gH G) ∧ StF "java/lang/Throwable" "UNASSIGNED_STACK" "[Ljava/lang/StackTraceElement;" G s ∧ StF "java/lang/Throwable" "SUPPRESSED_SENTINEL" "Ljava/util/List;" G s ∧ va_Nc "java/lang/IllegalArgumentException" "java/lang/IllegalStateException" s ∧ va_Nw (.methodLinkNest "HeadCount$Parser" 147 yN_init "HeadCount") s
theorem Old.moved {G : Gx} {s U : State} (hW : s.WarmedH U.vm) (h : Old G s) : Old G U := by
  obtain ⟨⟨a1, a2, a3, a4, a5⟩, b1, b2, b3, b4, b5, b6⟩ := h
  exact ⟨⟨a1.warm hW, a2.warm hW, a3.warm hW, a4.warm hW, a5.warm hW⟩, b1.moved hW.alike, b2.moved hW.alike, b3.moved hW.alike, b4.moved hW.alike, b5.moved hW.alike, b6.warmM hW⟩
def aTys (G : Gx) : List (ClassId × FieldType) := [((gA G) 21, .int), ((gA G) 22, .char), ((gA G) 23, .boolean), ((gA G) 24, .long), ((gA G) 25, .object "HeadCount$Node")]
/-- what holds at each method's start -/
def Kst (G : Gx) (s : State) : Prop := (∀ w ∈ lw_tbl, goodWord w = true → ∀ a : Array Value, w.before a s = true) ∧ va_K (gD G) hcCl (aTys G) s ∧ va_AO "HeadCount$Node" s ∧ Old G s
theorem Kst.w {G : Gx} {s : State} (h : Kst G s) {w : Cond} (hw : w ∈ lw_tbl) (hg : goodWord w = true) (a : Array Value) : w.before a s = true := h.1 w hw hg a
theorem Kst.moved {G : Gx} {s U : State} (h : Kst G s) (hW : s.WarmedH U.vm) : Kst G U :=
  ⟨fun w hw hg a => word_at hW (good_of_word hg) (h.1 w hw hg #[]), va_K.moved hW.alike h.2.1, h.2.2.1.moved hW.alike, Old.moved hW h.2.2.2⟩
theorem Kst.uw {G : Gx} {s : State} (h : Kst G s) {c : Nat} {r : vw_C} (hc : hcCl[c]? = some r) (a : Array Value) : ∀ w ∈ u_ws r.1 r.2.1 r.2.2, w.before a s = true :=
  fun w hw => h.1 w (cuW c r hc w hw).1 (cuW c r hc w hw).2 a
abbrev inA (i : Int32) (n : Nat) : Prop := ¬ (i < 0 ∨ n ≤ i.toNatClampNeg)
theorem nar_fit {ty : FieldType} {x : Int32} (h : fits ty (.int x) = true) (ht : ty = .int ∨ ty = .char ∨ ty = .boolean) : narrow ty (.int x) = .int x := by
  rcases ht with rfl | rfl | rfl
  · rfl
  · have h1 : (decide (0 ≤ x) && decide (x ≤ 65535)) = true := h
    simp only [Bool.and_eq_true, decide_eq_true_eq] at h1
    obtain ⟨j, hj, rfl⟩ := nI_of2 (M := 65535) (n := 65535) (by decide) (by
      intro q
      rw [Int32.lt_iff_toInt_lt] at q
      have h3 := h1.1
      rw [Int32.le_iff_toInt_le] at h3
      omega) h1.2
    exact (pk_charN (by omega)).1
  · have h1 : (x == 0 || x == 1) = true := h
    simp only [Bool.or_eq_true, beq_iff_eq] at h1
    rcases h1 with rfl | rfl
    · decide
    · decide
theorem nar_ref (r : Option Nat) {ty : FieldType} (ht : (∃ n, ty = .object n) ∨ ∃ t, ty = .array t) : narrow ty (va_rf r) = va_rf r := by
  rcases ht with ⟨n, rfl⟩ | ⟨t, rfl⟩ <;> cases r <;> rfl
theorem fit_ref (r : Option Nat) {ty : FieldType} (ht : (∃ n, ty = .object n) ∨ ∃ t, ty = .array t) : fits ty (va_rf r) = true := by
  rcases ht with ⟨n, rfl⟩ | ⟨t, rfl⟩ <;> cases r <;> rfl
/-- the slots of a kind are apart -/
theorem cuA {G : Gx} {s : State} (hK : Kst G s) {ci : Nat} {C : String} {T : u_T} {N : Nat} (hc : hcCl[ci]? = some (C, T, N)) : ∀ x y, x < N → y < N → x ≠ y → ((gD G).2 ci) x ≠ ((gD G).2 ci) y := by
  have hok := hcOk (C, T, N) (List.mem_of_getElem? hc)
  refine va_apart (own := C) (args := #[]) (hK.uw hc #[]) (fun _ h => h) (fun k => (parseFieldDescriptor (T k).2.2.1).getD .int) (fun k hk => ?_) hok.2 hK.2.1 hc
  have h1 := hok.1 k hk
  cases hp : parseFieldDescriptor (T k).2.2.1 with
  | none => rw [hp] at h1; cases h1
  | some t => rfl
section Rows
variable {p : Program} {l : Launch} {e : Env} {R : Room} {s : State} {m : MethodId} {args : Array Value} {below : List Frame} {meth : Method} {c : Code} {H : Heap} {locs : List Loc} {cells slots : Nat} {Q : State → Prop}
variable {cc : ByteArray} {pc : Nat} {ls : Array Slot} {rest : List Value} {G : Gx} {M0 M : Mem} {a : Nat}
theorem rg_get (hx : p.tables.exec = Jvm.exec) (hb : c.code = cc) {own C : String} {T : u_T} {N ci index : Nat} (hown : s.vm.findClass own = some m.cls) (hK : Kst G s) (hR : RL G M0 M H locs cells slots) (hc : hcCl[ci]? = some (C, T, N)) (k : Nat) (hk : k < N) (hl : Cond.fieldLink own index (T k).1 (T k).2.1 (T k).2.2.1 ∈ lw_tbl) (ha : mK M a = ci + 1) (hdg : decode cc pc = .ok (.getfield index, 3))
    (kk : W p l e R s m args below meth c H locs cells slots Q (F0 m (pc + 3) ls (fV M a ci k :: rest))) : W p l e R s m args below meth c H locs cells slots Q (F0 m pc ls (.ref a :: rest)) := by
  obtain ⟨cell, q1, q2, q3, q4⟩ := hR.1.obj ha hc
  obtain ⟨hS, hfc, kC, hkC, hkind⟩ := hK.2.1.1 ci _ hc
  obtain ⟨cf, kf, fi, f, hi, hsl⟩ := hS k hk
  refine W.getf hx hb hown (hK.w hl rfl args) hi (u_facts hfc hkC (u_lays (hK.uw hc args) (fun _ h => h) hk) hi).1 q1 (by rw [q3]; exact fun h => by cases h) (v := fV M a ci k) ?_ rfl rfl hdg kk
  rw [hsl, q4 k hk]
theorem rg_getI (hx : p.tables.exec = Jvm.exec) (hb : c.code = cc) {own C : String} {T : u_T} {N ci index : Nat} (hown : s.vm.findClass own = some m.cls) (hK : Kst G s) (hR : RL G M0 M H locs cells slots) (hc : hcCl[ci]? = some (C, T, N)) (k : Nat) (hk : k < N) (hl : Cond.fieldLink own index (T k).1 (T k).2.1 (T k).2.2.1 ∈ lw_tbl) (hf : fR ci k = false) (ha : mK M a = ci + 1) (hdg : decode cc pc = .ok (.getfield index, 3))
    (kk : W p l e R s m args below meth c H locs cells slots Q (F0 m (pc + 3) ls (.int (mI M a k) :: rest))) : W p l e R s m args below meth c H locs cells slots Q (F0 m pc ls (.ref a :: rest)) :=
  rg_get hx hb hown hK hR hc k hk hl ha hdg (by
    have h1 : fV M a ci k = .int (mI M a k) := by simp [fV, hf]
    rw [h1]; exact kk)
theorem rg_getP (hx : p.tables.exec = Jvm.exec) (hb : c.code = cc) {own C : String} {T : u_T} {N ci index : Nat} (hown : s.vm.findClass own = some m.cls) (hK : Kst G s) (hR : RL G M0 M H locs cells slots) (hc : hcCl[ci]? = some (C, T, N)) (k : Nat) (hk : k < N) (hl : Cond.fieldLink own index (T k).1 (T k).2.1 (T k).2.2.1 ∈ lw_tbl) (hf : fR ci k = true) (ha : mK M a = ci + 1) (hdg : decode cc pc = .ok (.getfield index, 3))
    (kk : W p l e R s m args below meth c H locs cells slots Q (F0 m (pc + 3) ls (va_rf (mP M a k) :: rest))) : W p l e R s m args below meth c H locs cells slots Q (F0 m pc ls (.ref a :: rest)) :=
  rg_get hx hb hown hK hR hc k hk hl ha hdg (by
    have h1 : fV M a ci k = va_rf (mP M a k) := by simp [fV, hf]
    rw [h1]; exact kk)
/-- a field is written (not a final one) -/
theorem rg_put (hx : p.tables.exec = Jvm.exec) (hb : c.code = cc) {own C : String} {T : u_T} {N ci index : Nat} (hown : s.vm.findClass own = some m.cls) (hK : Kst G s) (hR : RL G M0 M H locs cells slots) (hc : hcCl[ci]? = some (C, T, N)) (k : Nat) (hk : k < N) (hl : Cond.fieldLink own index (T k).1 (T k).2.1 (T k).2.2.1 ∈ lw_tbl) (hfin : (T k).2.2.2 = false) {ty : FieldType} {v : Value} (hd : parseFieldDescriptor (T k).2.2.1 = some ty) (hn : narrow ty v = v) (hfit : fits ty v = true)
    {M' : Mem} (hM : mK M' = mK M ∧ mL M' = mL M ∧ mS M' = mS M ∧ mU M' = mU M ∧ mC M' = mC M ∧ (∀ b, b ≠ a → mI M' b = mI M b) ∧ (∀ b, b ≠ a → mP M' b = mP M b) ∧ (∀ b, mJ M' b = mJ M b)) (hV : fV M' a ci = updV (fV M a ci) k v) (ha : mK M a = ci + 1) (hdg : decode cc pc = .ok (.putfield index, 3))
    (kk : ∀ (H1 : Heap) (locs1 : List Loc), RL G M0 M' H1 locs1 cells slots → W p l e R s m args below meth c H1 locs1 cells slots Q (F0 m (pc + 3) ls rest)) : W p l e R s m args below meth c H locs cells slots Q (F0 m pc ls (v :: .ref a :: rest)) := by
  obtain ⟨cell, q1, q2, q3, q4⟩ := hR.1.obj ha hc
  have hKn := hK.2.1.1 ci _ hc
  obtain ⟨hS, hfc, kC, hkC, hkind⟩ := hKn
  obtain ⟨cf, kf, fi, f, hi, hsl⟩ := hS k hk
  have hap := cuA hK hc
  have hlay := hK.uw hc args _ (u_in_lay hk)
  unfold u_lay at hlay
  rw [if_neg (by rw [hfin]; decide)] at hlay
  have hst := (u_facts hfc hkC (u_lays (hK.uw hc args) (fun _ h => h) hk) hi).1
  have h6 := u_store hfc hkC hkind hlay hi hd hn hfit
  obtain ⟨m1, m2, m3, m4, m5, m6, m7, m8⟩ := hM
  have hne : mK M a ≠ 0 := by rw [ha]; exact Nat.succ_ne_zero _
  refine W.putK hx hb (f := f) ⟨hown, hK.w hl rfl args, ⟨_, _, _, hi⟩, hst⟩ (by rw [q2]; exact h6) q1 q3 (by rw [hsl]; exact k2_hasslot (q4 k hk)) rfl rfl hdg fun H' e1 e2 e3 => ?_
  rw [hsl] at e1
  refine kk H' _ (hR.put (hR.1.lo hne) m3 m4 m5 (hR.1.upd hne e2 e3 m1 m2 m3 m6 m7 (fun b _ => m8 b) ⟨fun c2 r2 g1 g2 => ?_, fun g1 => ?_⟩))
  · rw [m1, ha] at g1
    have hcc : ci = c2 := by omega
    subst hcc
    cases hc.symm.trans g2
    rw [hV]
    exact ⟨_, e1, q2, q3, t_set q4 hap hk v⟩
  · exfalso
    rw [m1, ha] at g1
    have hlt := (List.getElem?_eq_some_iff.mp hc).1
    have hle : hcCl.length ≤ 20 := by decide
    omega
theorem rg_putI (hx : p.tables.exec = Jvm.exec) (hb : c.code = cc) {own C : String} {T : u_T} {N ci index : Nat} (hown : s.vm.findClass own = some m.cls) (hK : Kst G s) (hR : RL G M0 M H locs cells slots) (hc : hcCl[ci]? = some (C, T, N)) (k : Nat) (hk : k < N) (hl : Cond.fieldLink own index (T k).1 (T k).2.1 (T k).2.2.1 ∈ lw_tbl) (hfin : (T k).2.2.2 = false) (hf : fR ci k = false) {ty : FieldType} {x : Int32} (hd : parseFieldDescriptor (T k).2.2.1 = some ty) (hty : ty = .int ∨ ty = .char ∨ ty = .boolean) (hn : fits ty (.int x) = true) (ha : mK M a = ci + 1) (hdg : decode cc pc = .ok (.putfield index, 3))
    (kk : ∀ (H1 : Heap) (locs1 : List Loc), RL G M0 (setI M a k x) H1 locs1 cells slots → W p l e R s m args below meth c H1 locs1 cells slots Q (F0 m (pc + 3) ls rest)) : W p l e R s m args below meth c H locs cells slots Q (F0 m pc ls (.int x :: .ref a :: rest)) :=
  rg_put (M' := setI M a k x) hx hb hown hK hR hc k hk hl hfin hd (nar_fit hn hty) hn ⟨rfl, rfl, rfl, rfl, rfl, fun b hb => by rw [mI_setI, fu_row _ _ hb], fun _ _ => rfl, fun _ => rfl⟩ (fV_setI hf) ha hdg kk
theorem rg_putP (hx : p.tables.exec = Jvm.exec) (hb : c.code = cc) {own C : String} {T : u_T} {N ci index : Nat} (hown : s.vm.findClass own = some m.cls) (hK : Kst G s) (hR : RL G M0 M H locs cells slots) (hc : hcCl[ci]? = some (C, T, N)) (k : Nat) (hk : k < N) (hl : Cond.fieldLink own index (T k).1 (T k).2.1 (T k).2.2.1 ∈ lw_tbl) (hfin : (T k).2.2.2 = false) (hf : fR ci k = true) {ty : FieldType} {r : Option Nat} (hd : parseFieldDescriptor (T k).2.2.1 = some ty) (hty : (∃ n, ty = .object n) ∨ ∃ t, ty = .array t) (ha : mK M a = ci + 1) (hdg : decode cc pc = .ok (.putfield index, 3))
    (kk : ∀ (H1 : Heap) (locs1 : List Loc), RL G M0 (setP M a k r) H1 locs1 cells slots → W p l e R s m args below meth c H1 locs1 cells slots Q (F0 m (pc + 3) ls rest)) : W p l e R s m args below meth c H locs cells slots Q (F0 m pc ls (va_rf r :: .ref a :: rest)) :=
  rg_put (M' := setP M a k r) hx hb hown hK hR hc k hk hl hfin hd (nar_ref r hty) (fit_ref r hty) ⟨rfl, rfl, rfl, rfl, rfl, fun _ _ => rfl, fun b hb => by rw [mP_setP, fu_row _ _ hb], fun _ => rfl⟩ (fV_setP hf) ha hdg kk
/-- a final field in a constructor -/
theorem rg_putF (hx : p.tables.exec = Jvm.exec) (hb : c.code = cc) {own C : String} {T : u_T} {N ci index : Nat} (hown : s.vm.findClass own = some m.cls) (hK : Kst G s) (hR : RL G M0 M H locs cells slots) (hc : hcCl[ci]? = some (C, T, N)) (k : Nat) (hk : k < N) (hl : Cond.fieldLink own index (T k).1 (T k).2.1 (T k).2.2.1 ∈ lw_tbl) (hfin : (T k).2.2.2 = true) (hin2 : meth.name = "<init>") (hdecl : (T k).1 = own) (hf : fR ci k = true) {ty : FieldType} {r : Option Nat} (hd : parseFieldDescriptor (T k).2.2.1 = some ty) (hty : (∃ n, ty = .object n) ∨ ∃ t, ty = .array t) (ha : mK M a = ci + 1) (hdg : decode cc pc = .ok (.putfield index, 3))
    (kk : ∀ (H1 : Heap) (locs1 : List Loc), RL G M0 (setP M a k r) H1 locs1 cells slots → W p l e R s m args below meth c H1 locs1 cells slots Q (F0 m (pc + 3) ls rest)) : W p l e R s m args below meth c H locs cells slots Q (F0 m pc ls (va_rf r :: .ref a :: rest)) := by
  obtain ⟨cell, q1, q2, q3, q4⟩ := hR.1.obj ha hc
  obtain ⟨hS, hfc, kC, hkC, hkind⟩ := hK.2.1.1 ci _ hc
  obtain ⟨cf, kf, fi, f, hi, hsl⟩ := hS k hk
  have hap := cuA hK hc
  have hlay := hK.uw hc args _ (u_in_lay hk)
  unfold u_lay at hlay
  rw [if_pos hfin] at hlay
  have hst := (u_facts hfc hkC (u_lays (hK.uw hc args) (fun _ h => h) hk) hi).1
  have hcf : m.cls = cf := by
    obtain ⟨_, _, c', _, _, _, -, -, hf', -, -, -, hown2, -⟩ := Cond.laysFinal_spec hlay
    have e1 : c' = cf := by have := hi.symm.trans hf'; simp at this; exact this.1.symm
    rw [hdecl] at hown2
    rw [← e1]; exact Option.some.inj (hown.symm.trans hown2)
  have h6 := u_fits hfc hkC hkind (Or.inr hlay) hi hd (nar_ref r hty) (fit_ref r hty)
  have hne : mK M a ≠ 0 := by rw [ha]; exact Nat.succ_ne_zero _
  refine W.putFinK hx hb hown (hK.w hl rfl args) hi hst hcf hin2 (by rw [q2]; exact h6) q1 q3 (by rw [hsl]; exact k2_hasslot (q4 k hk)) rfl rfl hdg fun H' e1 e2 e3 => ?_
  rw [hsl] at e1
  refine kk H' _ (hR.put (hR.1.lo hne) rfl rfl rfl (hR.1.upd hne e2 e3 rfl rfl rfl (fun _ _ => rfl) (fun b hb => by rw [mP_setP, fu_row _ _ hb]) (fun _ _ => rfl) ⟨fun c2 r2 g1 g2 => ?_, fun g1 => ?_⟩))
  · rw [mK_setP, ha] at g1
    have hcc : ci = c2 := by omega
    subst hcc
    cases hc.symm.trans g2
    rw [fV_setP hf]
    exact ⟨_, e1, q2, q3, t_set q4 hap hk (va_rf r)⟩
  · exfalso
    rw [mK_setP, ha] at g1
    have hlt := (List.getElem?_eq_some_iff.mp hc).1
    have hle : hcCl.length ≤ 20 := by decide
    omega
theorem aE_i {cA : ClassId} {kd : Nat} (h : kd ≠ 24 ∧ kd ≠ 25) : vp_cell cA (aE M kd a) = arrV cA (mL M a) (fun j => .int (mI M a j)) := by
  unfold aE
  rw [if_neg h.1, if_neg h.2]
  rfl
theorem aE_l {cA : ClassId} : vp_cell cA (aE M 24 a) = arrV cA (mL M a) (fun j => .long (mJ M a j)) := rfl
theorem aE_p {cA : ClassId} : vp_cell cA (aE M 25 a) = arrV cA (mL M a) (fun j => va_rf (mP M a j)) := rfl
theorem arrK (hK : Kst G s) {k : Nat} {q : ClassId × FieldType} (h : (aTys G)[k]? = some q) (n : Nat) (z : Nat → Value) : s.isArrayOf (arrV q.1 n z) q.2 := (hK.2.1.2 k q h).1 n z
theorem rg_iald (hx : p.tables.exec = Jvm.exec) (hb : c.code = cc) (hK : Kst G s) (hR : RL G M0 M H locs cells slots) {i : Int32} (ha : mK M a = 21) (hin : inA i (mL M a)) (hdg : decode cc pc = .ok (.iaload, 1))
    (kk : W p l e R s m args below meth c H locs cells slots Q (F0 m (pc + 1) ls (.int (mI M a i.toNatClampNeg) :: rest))) : W p l e R s m args below meth c H locs cells slots Q (F0 m pc ls (.int i :: .ref a :: rest)) := by
  have h1 := hR.1.arr 21 ha (by decide)
  rw [aE_i (by decide)] at h1
  have hlt : i.toNatClampNeg < mL M a := Nat.not_le.mp fun q => hin (Or.inr q)
  exact W.iald (v := .int (mI M a i.toNatClampNeg)) hx hb h1 (arrK hK (k := 0) rfl _ _) (fun q => by cases q) (by rw [arrV_size]; exact hin) (by rw [arrV_read _ _ hlt]) rfl rfl hdg kk
theorem rg_cald (hx : p.tables.exec = Jvm.exec) (hb : c.code = cc) (hK : Kst G s) (hR : RL G M0 M H locs cells slots) {i : Int32} (ha : mK M a = 22) (hin : inA i (mL M a)) (hdg : decode cc pc = .ok (.caload, 1))
    (kk : W p l e R s m args below meth c H locs cells slots Q (F0 m (pc + 1) ls (.int (mI M a i.toNatClampNeg) :: rest))) : W p l e R s m args below meth c H locs cells slots Q (F0 m pc ls (.int i :: .ref a :: rest)) := by
  have h1 := hR.1.arr 22 ha (by decide)
  rw [aE_i (by decide)] at h1
  have hlt : i.toNatClampNeg < mL M a := Nat.not_le.mp fun q => hin (Or.inr q)
  exact W.cald (v := .int (mI M a i.toNatClampNeg)) hx hb h1 (arrK hK (k := 1) rfl _ _) (fun q => by cases q) (by rw [arrV_size]; exact hin) (by rw [arrV_read _ _ hlt]) rfl rfl hdg kk
theorem rg_zald (hx : p.tables.exec = Jvm.exec) (hb : c.code = cc) (hK : Kst G s) (hR : RL G M0 M H locs cells slots) {i : Int32} (ha : mK M a = 23) (hin : inA i (mL M a)) (hdg : decode cc pc = .ok (.baload, 1))
    (kk : W p l e R s m args below meth c H locs cells slots Q (F0 m (pc + 1) ls (.int (mI M a i.toNatClampNeg) :: rest))) : W p l e R s m args below meth c H locs cells slots Q (F0 m pc ls (.int i :: .ref a :: rest)) := by
  have h1 := hR.1.arr 23 ha (by decide)
  rw [aE_i (by decide)] at h1
  have hlt : i.toNatClampNeg < mL M a := Nat.not_le.mp fun q => hin (Or.inr q)
  exact W.zald (v := .int (mI M a i.toNatClampNeg)) hx hb h1 (arrK hK (k := 2) rfl _ _) (fun q => by cases q) (by rw [arrV_size]; exact hin) (by rw [arrV_read _ _ hlt]) rfl rfl hdg kk
theorem rg_lald (hx : p.tables.exec = Jvm.exec) (hb : c.code = cc) (hK : Kst G s) (hR : RL G M0 M H locs cells slots) {i : Int32} (ha : mK M a = 24) (hin : inA i (mL M a)) (hdg : decode cc pc = .ok (.laload, 1))
    (kk : W p l e R s m args below meth c H locs cells slots Q (F0 m (pc + 1) ls (.long (mJ M a i.toNatClampNeg) :: rest))) : W p l e R s m args below meth c H locs cells slots Q (F0 m pc ls (.int i :: .ref a :: rest)) := by
  have h1 := hR.1.arr 24 ha (by decide)
  rw [aE_l] at h1
  have hlt : i.toNatClampNeg < mL M a := Nat.not_le.mp fun q => hin (Or.inr q)
  exact W.lald (v := .long (mJ M a i.toNatClampNeg)) hx hb h1 (arrK hK (k := 3) rfl _ _) (fun q => by cases q) (by rw [arrV_size]; exact hin) (by rw [arrV_read _ _ hlt]) rfl rfl hdg kk
theorem rg_aald (hx : p.tables.exec = Jvm.exec) (hb : c.code = cc) (hK : Kst G s) (hR : RL G M0 M H locs cells slots) {i : Int32} (ha : mK M a = 25) (hin : inA i (mL M a)) (hdg : decode cc pc = .ok (.aaload, 1))
    (kk : W p l e R s m args below meth c H locs cells slots Q (F0 m (pc + 1) ls (va_rf (mP M a i.toNatClampNeg) :: rest))) : W p l e R s m args below meth c H locs cells slots Q (F0 m pc ls (.int i :: .ref a :: rest)) := by
  have h1 := hR.1.arr 25 ha (by decide)
  rw [aE_p] at h1
  have hlt : i.toNatClampNeg < mL M a := Nat.not_le.mp fun q => hin (Or.inr q)
  exact W.aald (v := va_rf (mP M a i.toNatClampNeg)) (ty := .object "HeadCount$Node") hx hb h1 (arrK hK (k := 4) rfl _ _) rfl (fun q => by cases q) (by rw [arrV_size]; exact hin) (by rw [arrV_read _ _ hlt]) rfl rfl hdg kk
theorem rg_alen (hx : p.tables.exec = Jvm.exec) (hb : c.code = cc) (hK : Kst G s) (hR : RL G M0 M H locs cells slots) (kd : Nat) (ha : mK M a = kd) (h21 : 21 ≤ kd) (h25 : kd ≤ 25) (hdg : decode cc pc = .ok (.arraylength, 1))
    (kk : W p l e R s m args below meth c H locs cells slots Q (F0 m (pc + 1) ls (.int (nI (mL M a)) :: rest))) : W p l e R s m args below meth c H locs cells slots Q (F0 m pc ls (.ref a :: rest)) := by
  have h1 := hR.1.arr kd ha h21
  have hk : kd = 21 ∨ kd = 22 ∨ kd = 23 ∨ kd = 24 ∨ kd = 25 := by omega
  rcases hk with rfl | rfl | rfl | rfl | rfl
  · rw [aE_i (by decide)] at h1
    exact W.alen (n := nI (mL M a)) hx hb h1 (arrK hK (k := 0) rfl _ _) (by rw [arrV_size] <;> rfl) rfl rfl hdg kk
  · rw [aE_i (by decide)] at h1
    exact W.alen (n := nI (mL M a)) hx hb h1 (arrK hK (k := 1) rfl _ _) (by rw [arrV_size] <;> rfl) rfl rfl hdg kk
  · rw [aE_i (by decide)] at h1
    exact W.alen (n := nI (mL M a)) hx hb h1 (arrK hK (k := 2) rfl _ _) (by rw [arrV_size] <;> rfl) rfl rfl hdg kk
  · rw [aE_l] at h1
    exact W.alen (n := nI (mL M a)) hx hb h1 (arrK hK (k := 3) rfl _ _) (by rw [arrV_size] <;> rfl) rfl rfl hdg kk
  · rw [aE_p] at h1
    exact W.alen (n := nI (mL M a)) hx hb h1 (arrK hK (k := 4) rfl _ _) (by rw [arrV_size] <;> rfl) rfl rfl hdg kk
/-- an array's place is written: what is left to show is the cell itself -/
theorem RL.ast (hR : RL G M0 M H locs cells slots) {kd : Nat} (ha : mK M a = kd) (h21 : 21 ≤ kd) {M' : Mem} {H' : Heap} {i : Nat} (hM : mK M' = mK M ∧ mL M' = mL M ∧ mS M' = mS M ∧ mU M' = mU M ∧ mC M' = mC M ∧ (∀ b, b ≠ a → mI M' b = mI M b) ∧ (∀ b, b ≠ a → mP M' b = mP M b) ∧ (∀ b, b ≠ a → mJ M' b = mJ M b)) (e1 : H'[a]? = some (vp_cell ((gA G) kd) (aE M' kd a))) (e2 : H'.size = H.size) (e3 : ∀ q : Nat, q ≠ a → H'[q]? = H[q]?) : RL G M0 M' H' (locs ++ [⟨a, i⟩]) cells slots := by
  obtain ⟨m1, m2, m3, m4, m5, m6, m7, m8⟩ := hM
  have hne : mK M a ≠ 0 := by rw [ha]; omega
  refine hR.put (hR.1.lo hne) m3 m4 m5 (hR.1.upd hne e2 e3 m1 m2 m3 m6 m7 m8 ⟨fun c2 r2 g1 g2 => ?_, fun g1 => ?_⟩)
  · exfalso
    rw [m1, ha] at g1
    have hlt := (List.getElem?_eq_some_iff.mp g2).1
    have hle : hcCl.length ≤ 20 := by decide
    omega
  · rw [m1, ha]
    exact e1
theorem stI (kd i : Nat) (x : Int32) (cA : ClassId) (h : kd ≠ 24 ∧ kd ≠ 25) : (arrV cA (mL M a) (fun j => Value.int (mI M a j))).setSlot i (.int x) = vp_cell cA (aE (setI M a i x) kd a) := by
  rw [aE_i h, arrV_store]
  congr 1
  funext q
  by_cases hq : q = i
  · subst hq; simp [updV, mI_setI, fu]
  · simp [updV, hq, mI_setI, fu]
theorem stOkI (i : Nat) (x : Int32) : mK (setI M a i x) = mK M ∧ mL (setI M a i x) = mL M ∧ mS (setI M a i x) = mS M ∧ mU (setI M a i x) = mU M ∧ mC (setI M a i x) = mC M ∧ (∀ b, b ≠ a → mI (setI M a i x) b = mI M b) ∧ (∀ b, b ≠ a → mP (setI M a i x) b = mP M b) ∧ (∀ b, b ≠ a → mJ (setI M a i x) b = mJ M b) :=
  ⟨rfl, rfl, rfl, rfl, rfl, fun b hb => by rw [mI_setI, fu_row _ _ hb], fun _ _ => rfl, fun _ _ => rfl⟩
theorem rg_iast (hx : p.tables.exec = Jvm.exec) (hb : c.code = cc) (hK : Kst G s) (hR : RL G M0 M H locs cells slots) {i x : Int32} (ha : mK M a = 21) (hin : inA i (mL M a)) (hdg : decode cc pc = .ok (.iastore, 1))
    (kk : ∀ (H1 : Heap) (locs1 : List Loc), RL G M0 (setI M a i.toNatClampNeg x) H1 locs1 cells slots → W p l e R s m args below meth c H1 locs1 cells slots Q (F0 m (pc + 1) ls rest)) : W p l e R s m args below meth c H locs cells slots Q (F0 m pc ls (.int x :: .int i :: .ref a :: rest)) := by
  have h1 := hR.1.arr 21 ha (by decide)
  rw [aE_i (by decide)] at h1
  refine W.iast hx hb h1 (arrK hK (k := 0) rfl _ _) (fun q => by cases q) (by rw [arrV_size]; exact hin) rfl rfl hdg fun H1 e z oq => ?_
  exact kk H1 _ (hR.ast ha (by decide) (stOkI _ x) (by rw [e, stI 21 _ x _ (by decide)]) z oq)
theorem rg_cast (hx : p.tables.exec = Jvm.exec) (hb : c.code = cc) (hK : Kst G s) (hR : RL G M0 M H locs cells slots) {i x : Int32} (ha : mK M a = 22) (hin : inA i (mL M a)) (hn : fits .char (.int x) = true) (hdg : decode cc pc = .ok (.castore, 1))
    (kk : ∀ (H1 : Heap) (locs1 : List Loc), RL G M0 (setI M a i.toNatClampNeg x) H1 locs1 cells slots → W p l e R s m args below meth c H1 locs1 cells slots Q (F0 m (pc + 1) ls rest)) : W p l e R s m args below meth c H locs cells slots Q (F0 m pc ls (.int x :: .int i :: .ref a :: rest)) := by
  have h1 := hR.1.arr 22 ha (by decide)
  rw [aE_i (by decide)] at h1
  refine W.cast hx hb h1 (arrK hK (k := 1) rfl _ _) (fun q => by cases q) (by rw [arrV_size]; exact hin) rfl rfl hdg fun H1 e z oq => ?_
  rw [nar_fit hn (Or.inr (Or.inl rfl))] at e
  exact kk H1 _ (hR.ast ha (by decide) (stOkI _ x) (by rw [e, stI 22 _ x _ (by decide)]) z oq)
theorem rg_zast (hx : p.tables.exec = Jvm.exec) (hb : c.code = cc) (hK : Kst G s) (hR : RL G M0 M H locs cells slots) {i x : Int32} (ha : mK M a = 23) (hin : inA i (mL M a)) (hn : fits .boolean (.int x) = true) (hdg : decode cc pc = .ok (.bastore, 1))
    (kk : ∀ (H1 : Heap) (locs1 : List Loc), RL G M0 (setI M a i.toNatClampNeg x) H1 locs1 cells slots → W p l e R s m args below meth c H1 locs1 cells slots Q (F0 m (pc + 1) ls rest)) : W p l e R s m args below meth c H locs cells slots Q (F0 m pc ls (.int x :: .int i :: .ref a :: rest)) := by
  have h1 := hR.1.arr 23 ha (by decide)
  rw [aE_i (by decide)] at h1
  refine W.zast hx hb h1 (arrK hK (k := 2) rfl _ _) (fun q => by cases q) (by rw [arrV_size]; exact hin) rfl rfl hdg fun H1 e z oq => ?_
  rw [nar_fit hn (Or.inr (Or.inr rfl))] at e
  exact kk H1 _ (hR.ast ha (by decide) (stOkI _ x) (by rw [e, stI 23 _ x _ (by decide)]) z oq)
theorem rg_last (hx : p.tables.exec = Jvm.exec) (hb : c.code = cc) (hK : Kst G s) (hR : RL G M0 M H locs cells slots) {i : Int32} {x : Int64} (ha : mK M a = 24) (hin : inA i (mL M a)) (hdg : decode cc pc = .ok (.lastore, 1))
    (kk : ∀ (H1 : Heap) (locs1 : List Loc), RL G M0 (setJ M a i.toNatClampNeg x) H1 locs1 cells slots → W p l e R s m args below meth c H1 locs1 cells slots Q (F0 m (pc + 1) ls rest)) : W p l e R s m args below meth c H locs cells slots Q (F0 m pc ls (.long x :: .int i :: .ref a :: rest)) := by
  have h1 := hR.1.arr 24 ha (by decide)
  rw [aE_l] at h1
  refine W.last hx hb h1 (arrK hK (k := 3) rfl _ _) (fun q => by cases q) (by rw [arrV_size]; exact hin) rfl rfl hdg fun H1 e z oq => ?_
  refine kk H1 _ (hR.ast ha (by decide) ⟨rfl, rfl, rfl, rfl, rfl, fun _ _ => rfl, fun _ _ => rfl, fun b hb => by rw [mJ_setJ, fu_row _ _ hb]⟩ ?_ z oq)
  rw [e, aE_l, arrV_store]
  congr 2
  funext q
  by_cases hq : q = i.toNatClampNeg
  · subst hq; simp [updV, mJ_setJ, fu]
  · simp [updV, hq, mJ_setJ, fu]
/-- a Node goes into a row of Nodes -/
theorem rg_aast (hx : p.tables.exec = Jvm.exec) (hb : c.code = cc) (hK : Kst G s) (hR : RL G M0 M H locs cells slots) {i : Int32} {v : Nat} (ha : mK M a = 25) (hin : inA i (mL M a)) (hv : mK M v = ndC + 1) (hdg : decode cc pc = .ok (.aastore, 1))
    (kk : ∀ (H1 : Heap) (locs1 : List Loc), RL G M0 (setP M a i.toNatClampNeg (some v)) H1 locs1 cells slots → W p l e R s m args below meth c H1 locs1 cells slots Q (F0 m (pc + 1) ls rest)) : W p l e R s m args below meth c H locs cells slots Q (F0 m pc ls (.ref v :: .int i :: .ref a :: rest)) := by
  have h1 := hR.1.arr 25 ha (by decide)
  rw [aE_p] at h1
  have hlt : i.toNatClampNeg < mL M a := Nat.not_le.mp fun q => hin (Or.inr q)
  have h0 : ¬ i < 0 := fun q => hin (Or.inl q)
  obtain ⟨cellV, g1, g2, g3, -⟩ := hR.1.obj hv ndCl
  have hcls := (hK.2.1.1 ndC _ ndCl).2
  obtain ⟨kA, comp, k1, k2, k3, -⟩ := (hK.2.1.2 4 _ rfl).2
  have hcomp : comp = (gD G).1 ndC := Option.some.inj (k3.symm.trans hcls.1)
  subst hcomp
  obtain ⟨kC, hkC, -⟩ := hcls.2
  refine W.aast hx hb h1 (fun q h => by cases h) (fun h => by cases h) k1 k2 rfl hkC ⟨h0, by rw [arrV_size]; exact hlt⟩ g1 (fun q h => by rw [g3] at h; cases h) (by rw [g2]; exact hkC) (by rw [g2]; exact va_assign hcls) rfl rfl hdg fun H1 e z oq => ?_
  refine kk H1 _ (hR.ast ha (by decide) ⟨rfl, rfl, rfl, rfl, rfl, fun _ _ => rfl, fun b hb => by rw [mP_setP, fu_row _ _ hb], fun _ _ => rfl⟩ ?_ z oq)
  rw [e, aE_p, arrV_store]
  congr 2
  funext q
  by_cases hq : q = i.toNatClampNeg
  · subst hq; simp [updV, mP_setP, fu, va_rf]
  · simp [updV, hq, mP_setP, fu]
end Rows
end
section
/-! rows: making cells, returning, throwing, calling -/
theorem st_weak {tb : Tables} {e : Env} {mid below : List Frame} {a b : State} (h : Steps tb e (mid ++ below) a b) : Steps tb e below a b := by
  obtain ⟨n, hn, hw⟩ := h
  exact ⟨n, hn, fun k hk => (hw k hk).weaken⟩
/-- the names of what is thrown -/
def exN (x : Nat) : String := if x = 1 then "java/lang/IllegalArgumentException" else "java/lang/IllegalStateException"
def outI (s : State) (r : Option Value ⊕ Nat) (o : Outcome) (t : State) : Prop := match r with
  | .inl v => o = .returned v
  | .inr x => ∃ (q : Addr) (ce : Cell), o = .threw q ∧ t.heap[q]? = some ce ∧ ce.vm = .none ∧ s.vm.findClass (exN x) = some ce.cls
/-- the end of a method that came from M to M' with r -/
def CQ (G : Gx) (below : List Frame) (s : State) (M : Mem) (r : Option Value ⊕ Nat) (M' : Mem) : State → Prop := fun t =>
  ∃ (o : Outcome) (L : List Loc), t.status = .running ∧ Ended t below o ∧ s.WarmedH t.vm ∧ s.sameButNew ({ t with vm := s.vm } : State) L (mS M' - mS M) (mU M' - mU M) ∧ (∀ q ∈ L, gZ G ≤ q.base) ∧ Real G M' t.heap ∧ mS M ≤ mS M' ∧ mU M ≤ mU M' ∧ mC M' = gC G ∧ mS M' ≤ mC M' 0 ∧ mU M' ≤ SLm ∧ outI s r o t
/-- the contract: with d frames left, from M the method y at the arguments as comes to r and M' -/
def CB (l : Launch) (G : Gx) (d : Nat) (y : MethodName) (as : List Value) (M : Mem) (r : Option Value ⊕ Nat) (M' : Mem) : Prop :=
  ∀ (p : Program) (e : Env) (R : Room) (s : State) (m : MethodId) (below : List Frame) (meth : Method) (c : Code),
    p.tables.exec = Jvm.exec → s.methodNamed? y = some m → s.vm.method? m = some meth → meth.code = some c → meth.locks = false → Kst G s → Real G M s.heap → mC M = gC G → mS M ≤ mC M 0 → mU M ≤ SLm → d ≤ R.frames → 64 * d ≤ R.locals → mC M 0 ≤ R.cells + mS M → SLm ≤ R.slots + mU M →
    W p l e R s m as.toArray below meth c s.heap [] 0 0 (CQ G below s M r M') (entryFrame m as.toArray c.maxLocals)
section RowsC
variable {p : Program} {l : Launch} {e : Env} {R : Room} {s : State} {m : MethodId} {args : Array Value} {below : List Frame} {meth : Method} {c : Code} {H : Heap} {locs : List Loc} {cells slots : Nat} {Q : State → Prop}
variable {cc : ByteArray} {pc : Nat} {ls : Array Slot} {rest : List Value} {G : Gx} {M0 M : Mem} {a : Nat}
theorem W.mono {Q2 : State → Prop} {g : JFrame} (k : W p l e R s m args below meth c H locs cells slots Q g) (h : ∀ t, Q t → Q2 t) : W p l e R s m args below meth c H locs cells slots Q2 g := by
  intro T hT X
  obtain ⟨t, a1, b1⟩ := k T hT X
  exact ⟨t, a1, h t b1⟩
theorem cq_of {v : Option Value} (hR : RL G M0 M H locs cells slots) {t : State} (h : MQ below (fun _ _ o t => o = .returned v ∧ t.heap = H) args s cells slots (fun q => gZ G ≤ q) t) : CQ G below s M0 (.inl v) M t := by
  obtain ⟨o, h1, h2, ⟨h3, h4⟩, L, ⟨-, hW, hsm⟩, hL⟩ := h
  obtain ⟨r1, r2, r3, r4, r5, r6, r7⟩ := hR
  have e1 : mS M - mS M0 = cells := by omega
  have e2 : mU M - mU M0 = slots := by omega
  exact ⟨o, L, h1, h2, hW, by rw [e1, e2]; exact hsm, hL, by rw [h4]; exact r1, by omega, by omega, r5, r6, r7, h3⟩
theorem rt_i (hx : p.tables.exec = Jvm.exec) (hb : c.code = cc) (hlk : meth.locks = false) {ty : FieldType} {v : Int32} (hr : meth.sig.returnType = some ty) (hty : ty = .int ∨ ty = .char ∨ ty = .boolean) (hn : fits ty (.int v) = true) (hR : RL G M0 M H locs cells slots) (hdg : decode cc pc = .ok (.ireturn, 1)) : W p l e R s m args below meth c H locs cells slots (CQ G below s M0 (.inl (some (.int v))) M) (F0 m pc ls [.int v]) :=
  (W.zret (Qc := fun _ _ o t => o = .returned (some (.int v)) ∧ t.heap = H) (free := fun q => gZ G ≤ q) hx hb hr (nar_fit hn hty) (fun t ht _ => ⟨rfl, ht⟩) hR.2.1 hdg hlk).mono (fun _ h => cq_of hR h)
theorem rt_a (hx : p.tables.exec = Jvm.exec) (hb : c.code = cc) (hlk : meth.locks = false) {ty : FieldType} {r : Option Nat} (hr : meth.sig.returnType = some ty) (hty : (∃ n, ty = .object n) ∨ ∃ t, ty = .array t) (hR : RL G M0 M H locs cells slots) (hdg : decode cc pc = .ok (.areturn, 1)) : W p l e R s m args below meth c H locs cells slots (CQ G below s M0 (.inl (some (va_rf r))) M) (F0 m pc ls [va_rf r]) :=
  (W.aret (Qc := fun _ _ o t => o = .returned (some (va_rf r)) ∧ t.heap = H) (free := fun q => gZ G ≤ q) hx hb hr hty (by cases r; exact Or.inl rfl; exact Or.inr ⟨_, rfl⟩) (fun t ht _ => ⟨rfl, ht⟩) hR.2.1 hdg hlk).mono (fun _ h => cq_of hR h)
theorem rt_v (hx : p.tables.exec = Jvm.exec) (hb : c.code = cc) (hlk : meth.locks = false) (hr : meth.sig.returnType = none) (hR : RL G M0 M H locs cells slots) (hdg : decode cc pc = .ok (.return_, 1)) : W p l e R s m args below meth c H locs cells slots (CQ G below s M0 (.inl none) M) (F0 m pc ls []) :=
  (W.vret (Qc := fun _ _ o t => o = .returned none ∧ t.heap = H) (free := fun q => gZ G ≤ q) hx hb hr (fun t ht _ => ⟨rfl, ht⟩) hR.2.1 hdg hlk).mono (fun _ h => cq_of hR h)
/-- the frame g, with q thrown over it -/
def WT (p : Program) (l : Launch) (e : Env) (R : Room) (s : State) (m : MethodId) (args : Array Value) (below : List Frame) (meth : Method) (c : Code) (H : Heap) (locs : List Loc) (cells slots : Nat) (Q : State → Prop) (g : JFrame) (q : Addr) : Prop :=
  ∀ T : State, T.heap = H → Stand p l e R s m args below meth c T locs cells slots → ∃ t, Steps p.tables e below ((T.setTop g).pushFrame (.throwing q)) t ∧ Q t
/-- what is thrown leaves the method -/
theorem rt_x (hlk : meth.locks = false) (hex : c.exceptionTable.isEmpty = true) {x : Nat} {q : Addr} {ce : Cell} (hR : RL G M0 M H locs cells slots) (h1 : H[q]? = some ce) (h2 : ce.vm = .none) (h3 : s.vm.findClass (exN x) = some ce.cls) : WT p l e R s m args below meth c H locs cells slots (CQ G below s M0 (.inr x) M) (F0 m pc ls rest) q := by
  intro T hT X
  have hout : ∀ y ∈ c.exceptionTable.toList, covers y pc = false := fun y hy => by
    have he : c.exceptionTable.toList = [] := by simpa [Array.isEmpty] using hex
    rw [he] at hy
    cases hy
  obtain ⟨st1, hrun, hend, hW, hsm⟩ := X.leaveThrown q (g := F0 m pc ls rest) rfl rfl rfl hout hlk
  obtain ⟨r1, r2, r3, r4, r5, r6, r7⟩ := hR
  have e1 : mS M - mS M0 = cells := by omega
  have e2 : mU M - mU M0 = slots := by omega
  have hh : (T.setFrames (.throwing q :: below)).heap = H := hT
  exact ⟨_, st1, .threw q, locs, hrun, hend, hW, by rw [e1, e2]; exact hsm, r2, by rw [hh]; exact r1, by omega, by omega, r5, r6, r7, q, ce, rfl, by rw [hh]; exact h1, h2, h3⟩
/-- the call itself, behind its linking -/
theorem cb_core {T : State} (X : Stand p l e R s m args below meth c T locs cells slots) (hx : p.tables.exec = Jvm.exec) (hT : T.heap = H) {g : JFrame} (hg : g.method = m) (hsize : g.locals.size = c.maxLocals) {ig : Instr} {len : Nat} (hdg : decode c.code g.pc = .ok (ig, len)) {y : MethodName} {mk : MethodId} {methk : Method} {ck : Code} {as : List Value} {r : Option Value ⊕ Nat} {M1 : Mem} (hnamed : s.methodNamed? y = some mk) (hmk : s.vm.method? mk = some methk) (hck : methk.code = some ck) (hlk : methk.locks = false) (hml : ck.maxLocals ≤ 40) (hplain : plainName y.cls = true)
    (hK : Kst G s) (hR : RL G M0 M H locs cells slots) (hW8 : 2 * g.monitorRoom + (g.stack.map fun v => v.category).sum ≤ 8) {d : Nat} (hfr : d + 1 ≤ R.frames) (hlo : 64 * (d + 1) ≤ R.locals) (hrc : gC G 0 ≤ R.cells + mS M0) (hrs : SLm ≤ R.slots + mU M0) (hM : CB l G d y as M r M1) :
    (∃ (v : Option Value) (T' : State) (L : List Loc) (cells1 slots1 : Nat), r = .inl v ∧ Stand p l e R s m args below meth c T' (locs ++ L) cells1 slots1 ∧ RL G M0 M1 T'.heap (locs ++ L) cells1 slots1 ∧ Steps p.tables e below (doInvoke e (T.setTop g) [] mk as.toArray).1 (T'.setTop { g with pc := g.pc + len, stack := v.toList ++ g.stack })) ∨
    (∃ (x : Nat) (q : Addr) (ce : Cell) (T' : State) (L : List Loc) (cells1 slots1 : Nat), r = .inr x ∧ Stand p l e R s m args below meth c T' (locs ++ L) cells1 slots1 ∧ RL G M0 M1 T'.heap (locs ++ L) cells1 slots1 ∧ T'.heap[q]? = some ce ∧ ce.vm = .none ∧ s.vm.findClass (exN x) = some ce.cls ∧ Steps p.tables e below (doInvoke e (T.setTop g) [] mk as.toArray).1 ((T'.setTop g).pushFrame (.throwing q))) := by
  obtain ⟨r1, r2, r3, r4, r5, r6, r7⟩ := hR
  have hmT : T.vm.method? mk = some methk := by rw [X.warmed.alike.method?]; exact hmk
  have hnT : T.methodNamed? y = some mk := X.named hnamed
  have hpk : T.plainMethod mk := State.plainMethod.of_named (plainFor_of_name hplain) hnT hmT
  obtain ⟨Y, hdo⟩ := X.into hg hsize hdg as.toArray (R' := { frames := d, locals := 64 * d, cells := R.cells - cells, slots := R.slots - slots }) hmT hck hlk hpk hfr (by show 2 * g.monitorRoom + (g.stack.map fun v => v.category).sum + (ck.maxLocals + 11) + 64 * d ≤ R.locals; omega) (by show cells + (R.cells - cells) ≤ R.cells; rw [r5] at r6; omega) (by show slots + (R.slots - slots) ≤ R.slots; omega)
  have hKc : Kst G (T.calling g mk as.toArray) := hK.moved (U := T.calling g mk as.toArray) X.warmed
  have hC := hM p e { frames := d, locals := 64 * d, cells := R.cells - cells, slots := R.slots - slots } (T.calling g mk as.toArray) mk (.java g :: below) methk ck hx hnT hmT hck hlk hKc (by show Real G M T.heap; rw [hT]; exact r1) r5 r6 r7 (Nat.le_refl _) (Nat.le_refl _) (by show mC M 0 ≤ R.cells - cells + mS M; rw [r5] at r6 ⊢; omega) (by show SLm ≤ R.slots - slots + mU M; omega)
  obtain ⟨t, hst, o, L, hrun, hend, hW2, hsame, hL, hR1, hle1, hle2, hC1, hS1, hU1, ho⟩ := hC ((T.setTop g).pushFrame (.java (entryFrame mk as.toArray ck.maxLocals))) rfl Y
  have hst2 : Steps p.tables e below (doInvoke e (T.setTop g) [] mk as.toArray).1 t := by
    rw [hdo []]
    exact st_weak (mid := [.java g]) hst
  have hRL : ∀ H1 : Heap, H1 = t.heap → RL G M0 M1 H1 (locs ++ L) (cells + (mS M1 - mS M)) (slots + (mU M1 - mU M)) := fun H1 h1 =>
    ⟨by rw [h1]; exact hR1, t_lL (free := fun q => gZ G ≤ q) r2 hL, by omega, by omega, hC1, hS1, hU1⟩
  cases r with
  | inl v =>
    have ho2 : o = .returned v := ho
    subst ho2
    obtain ⟨T', X', -, -, ht⟩ := X.outOf hg hdg hend hW2 hsame
    have hh : T'.heap = t.heap := by rw [ht]; rfl
    exact Or.inl ⟨v, T', L, _, _, rfl, X', hRL _ hh, by rw [← ht]; exact hst2⟩
  | inr x =>
    obtain ⟨q, ce, ho2, h1, h2, h3⟩ := ho
    subst ho2
    obtain ⟨T', X', -, -, ht⟩ := X.outOfThrown hg hend hW2 hsame
    have hh : T'.heap = t.heap := by rw [ht]; rfl
    have h3' : s.vm.findClass (exN x) = some ce.cls := by
      have h4 : T.vm.findClass (exN x) = some ce.cls := h3
      rw [X.warmed.alike.findClass] at h4
      exact h4
    exact Or.inr ⟨x, q, ce, T', L, _, _, rfl, X', hRL _ hh, by rw [hh]; exact h1, h2, h3', by rw [← ht]; exact hst2⟩
/-- a method's words: of an object's method, of a static one, of a constructor -/
def MV (y : MethodName) (bytes : ByteArray) (maxL n : Nat) (ret : Option FieldType) : Prop := Cond.instanceMethod y ∈ lw_tbl ∧ Cond.selects y.cls y y ∈ lw_tbl ∧ Cond.code y bytes maxL ret ∈ lw_tbl ∧ maxL ≤ 40 ∧ (y.cls ≠ "java/lang/invoke/MethodHandle" ∧ y.cls ≠ "java/lang/invoke/VarHandle") ∧ plainName y.cls = true ∧ (parseMethodDescriptor y.desc).map (fun d => d.parameters.length) = some n
def MS (y : MethodName) (bytes : ByteArray) (maxL n : Nat) (ret : Option FieldType) : Prop := Cond.static y ∈ lw_tbl ∧ Cond.initialized y.cls ∈ lw_tbl ∧ Cond.code y bytes maxL ret ∈ lw_tbl ∧ maxL ≤ 40 ∧ (y.cls ≠ "java/lang/invoke/MethodHandle" ∧ y.cls ≠ "java/lang/invoke/VarHandle") ∧ plainName y.cls = true ∧ (parseMethodDescriptor y.desc).map (fun d => d.parameters.length) = some n
def MN (y : MethodName) (bytes : ByteArray) (maxL n : Nat) : Prop := Cond.instanceMethod y ∈ lw_tbl ∧ y.name = "<init>" ∧ Cond.code y bytes maxL none ∈ lw_tbl ∧ maxL ≤ 40 ∧ (y.cls ≠ "java/lang/invoke/MethodHandle" ∧ y.cls ≠ "java/lang/invoke/VarHandle") ∧ plainName y.cls = true ∧ (parseMethodDescriptor y.desc).map (fun d => d.parameters.length) = some n
theorem len_of {y : MethodName} {n : Nat} (h : (parseMethodDescriptor y.desc).map (fun d => d.parameters.length) = some n) {sig : MethodDescriptor} (hs : parseMethodDescriptor y.desc = some sig) : n = sig.parameters.length := by
  rw [hs] at h
  exact (Option.some.inj h).symm
theorem cat_rf (r : Option Nat) : (va_rf r).category = 1 := by cases r <;> rfl
/-- the room that is left -/
def RM (G : Gx) (R : Room) (M0 : Mem) (d : Nat) : Prop := d + 1 ≤ R.frames ∧ 64 * (d + 1) ≤ R.locals ∧ gC G 0 ≤ R.cells + mS M0 ∧ SLm ≤ R.slots + mU M0
theorem rc_V (hx : p.tables.exec = Jvm.exec) (hb : c.code = cc) (hnl : ls.size = c.maxLocals) {own : String} {index : Nat} (hown : s.vm.findClass own = some m.cls) (hK : Kst G s) (hR : RL G M0 M H locs cells slots) {d : Nat} (hRm : RM G R M0 d) {y : MethodName} {bytes : ByteArray} {maxL n : Nat} {ret : Option FieldType} (hy : MV y bytes maxL n ret) (hl : Cond.methodLink own index y ∈ lw_tbl) {ci : Nat} {rr : vw_C} (hc : hcCl[ci]? = some rr) (hcy : rr.1 = y.cls) {b : Nat} {As : List Value} (hn : As.length = n) (hbk : mK M b = ci + 1) (hcat : (rest.map fun v => v.category).sum ≤ 8) {r : Option Value ⊕ Nat} {M1 : Mem} (hM : CB l G d y (.ref b :: As) M r M1) (hdg : decode cc pc = .ok (.invokevirtual index, 3))
    (kr : ∀ (v : Option Value) (H1 : Heap) (locs1 : List Loc) (cells1 slots1 : Nat), r = .inl v → RL G M0 M1 H1 locs1 cells1 slots1 → W p l e R s m args below meth c H1 locs1 cells1 slots1 Q (F0 m (pc + 3) ls (v.toList ++ rest)))
    (kx : ∀ (x : Nat) (q : Addr) (ce : Cell) (H1 : Heap) (locs1 : List Loc) (cells1 slots1 : Nat), r = .inr x → RL G M0 M1 H1 locs1 cells1 slots1 → H1[q]? = some ce → ce.vm = .none → s.vm.findClass (exN x) = some ce.cls → WT p l e R s m args below meth c H1 locs1 cells1 slots1 Q (F0 m pc ls rest) q) :
    W p l e R s m args below meth c H locs cells slots Q (F0 m pc ls (As.reverse ++ .ref b :: rest)) := by
  intro T hT X
  obtain ⟨y1, y2, y3, y4, y5, y6, y7⟩ := hy
  obtain ⟨d1, d2, d3, d4⟩ := hRm
  obtain ⟨cellB, b1, b2, b3, -⟩ := hR.1.obj hbk hc
  have hcls : s.vm.findClass y.cls = some cellB.cls := by rw [← hcy, b2]; exact (hK.2.1.1 ci rr hc).2.1
  obtain ⟨mk, methM, hnamed, hmethM, hstM, habM⟩ := Cond.instanceMethod_spec (hK.w y1 rfl args)
  obtain ⟨methM', cM, hmethM', hcM, -, hlM, -, hlkM, -, hsigM⟩ := Cond.code_spec hnamed (hK.w y3 rfl args)
  cases hmethM.symm.trans hmethM'
  obtain ⟨c2, r2, m2, q1, q2, q3, q4, kP, hkP, hkPi⟩ := Cond.selects_spec (hK.w y2 rfl args)
  cases hcls.symm.trans q1
  cases (State.methodFound?_of_named hnamed y5).symm.trans q2
  cases hnamed.symm.trans q3
  have hselP : selectMethod e.platform s.vm cellB.cls mk = .method mk := by rw [Launch.admits_selectMethod X.admits]; exact q4
  obtain ⟨vm₁, X₁, hstep₁⟩ := X.invokevirtual hx hown (hK.w hl rfl args) hnamed hmethM hstM hkP hkPi y5 (a := b) (cell := cellB) (by rw [hT]; exact b1)
    (fun z h => by rw [b3] at h; cases h) hselP hmethM habM hkP hkPi (g := F0 m pc ls (As.reverse ++ .ref b :: rest)) rfl (argsL := As) (rest := rest) (hn.trans (len_of y7 hsigM)) rfl (by rw [hb]; exact hdg)
  have hT1 : (T.setVm vm₁).heap = H := hT
  rcases cb_core X₁ hx hT1 (g := F0 m pc ls rest) rfl hnl (by rw [hb]; exact hdg) hnamed hmethM hcM hlkM (by rw [hlM]; exact y4) y6 hK hR (by simpa using hcat) d1 d2 d3 d4 hM with ⟨v, T', L, c1, s1, e1, X', hR1, st⟩ | ⟨x, q, ce, T', L, c1, s1, e1, X', hR1, g1, g2, g3, st⟩
  · obtain ⟨t2, a1, b1⟩ := kr v T'.heap _ _ _ e1 hR1 T' rfl X'
    exact ⟨t2, hstep₁ _ fun acts => by rw [doInvoke_state]; exact st.trans a1, b1⟩
  · obtain ⟨t2, a1, b1⟩ := kx x q ce T'.heap _ _ _ e1 hR1 g1 g2 g3 T' rfl X'
    exact ⟨t2, hstep₁ _ fun acts => by rw [doInvoke_state]; exact st.trans a1, b1⟩
theorem rc_S (hx : p.tables.exec = Jvm.exec) (hb : c.code = cc) (hnl : ls.size = c.maxLocals) {own : String} {index : Nat} (hown : s.vm.findClass own = some m.cls) (hK : Kst G s) (hR : RL G M0 M H locs cells slots) {d : Nat} (hRm : RM G R M0 d) {y : MethodName} {bytes : ByteArray} {maxL n : Nat} {ret : Option FieldType} (hy : MS y bytes maxL n ret) (hl : Cond.methodLink own index y ∈ lw_tbl) {As : List Value} (hn : As.length = n) (hcat : (rest.map fun v => v.category).sum ≤ 8) {r : Option Value ⊕ Nat} {M1 : Mem} (hM : CB l G d y As M r M1) (hdg : decode cc pc = .ok (.invokestatic index, 3))
    (kr : ∀ (v : Option Value) (H1 : Heap) (locs1 : List Loc) (cells1 slots1 : Nat), r = .inl v → RL G M0 M1 H1 locs1 cells1 slots1 → W p l e R s m args below meth c H1 locs1 cells1 slots1 Q (F0 m (pc + 3) ls (v.toList ++ rest)))
    (kx : ∀ (x : Nat) (q : Addr) (ce : Cell) (H1 : Heap) (locs1 : List Loc) (cells1 slots1 : Nat), r = .inr x → RL G M0 M1 H1 locs1 cells1 slots1 → H1[q]? = some ce → ce.vm = .none → s.vm.findClass (exN x) = some ce.cls → WT p l e R s m args below meth c H1 locs1 cells1 slots1 Q (F0 m pc ls rest) q) :
    W p l e R s m args below meth c H locs cells slots Q (F0 m pc ls (As.reverse ++ rest)) := by
  intro T hT X
  obtain ⟨y1, y2, y3, y4, y5, y6, y7⟩ := hy
  obtain ⟨d1, d2, d3, d4⟩ := hRm
  obtain ⟨mk, hnamed⟩ := Cond.code_named (hK.w y3 rfl args)
  obtain ⟨methM, cM, hmethM, hcM, -, hlM, -, hlkM, -, hsigM⟩ := Cond.code_spec hnamed (hK.w y3 rfl args)
  have hstatic : methM.isStatic = true := Cond.static_spec hnamed hmethM (hK.w y1 rfl args)
  obtain ⟨kP, hkP, -⟩ := className_of_methodNamed hnamed
  have hinitP : kP.init = .initialized := Cond.initialized_spec (findClass_of_methodNamed hnamed) hkP (hK.w y2 rfl args)
  obtain ⟨vm₁, X₁, hstep₁⟩ := X.invokestatic hx hown (hK.w hl rfl args) hnamed hmethM hstatic hkP hinitP y5 (g := F0 m pc ls (As.reverse ++ rest)) rfl (argsL := As) (rest := rest) (hn.trans (len_of y7 hsigM)) rfl (by rw [hb]; exact hdg)
  have hT1 : (T.setVm vm₁).heap = H := hT
  rcases cb_core X₁ hx hT1 (g := F0 m pc ls rest) rfl hnl (by rw [hb]; exact hdg) hnamed hmethM hcM hlkM (by rw [hlM]; exact y4) y6 hK hR (by simpa using hcat) d1 d2 d3 d4 hM with ⟨v, T', L, c1, s1, e1, X', hR1, st⟩ | ⟨x, q, ce, T', L, c1, s1, e1, X', hR1, g1, g2, g3, st⟩
  · obtain ⟨t2, a1, b1⟩ := kr v T'.heap _ _ _ e1 hR1 T' rfl X'
    exact ⟨t2, hstep₁ _ fun acts => by rw [doInvoke_state]; exact st.trans a1, b1⟩
  · obtain ⟨t2, a1, b1⟩ := kx x q ce T'.heap _ _ _ e1 hR1 g1 g2 g3 T' rfl X'
    exact ⟨t2, hstep₁ _ fun acts => by rw [doInvoke_state]; exact st.trans a1, b1⟩
theorem rc_I (hx : p.tables.exec = Jvm.exec) (hb : c.code = cc) (hnl : ls.size = c.maxLocals) {own : String} {index : Nat} (hown : s.vm.findClass own = some m.cls) (hK : Kst G s) (hR : RL G M0 M H locs cells slots) {d : Nat} (hRm : RM G R M0 d) {y : MethodName} {bytes : ByteArray} {maxL n : Nat} (hy : MN y bytes maxL n) (hl : Cond.methodLink own index y ∈ lw_tbl) {b : Nat} {As : List Value} (hn : As.length = n) (hcat : (rest.map fun v => v.category).sum ≤ 8) {r : Option Value ⊕ Nat} {M1 : Mem} (hM : CB l G d y (.ref b :: As) M r M1) (hdg : decode cc pc = .ok (.invokespecial index, 3))
    (kr : ∀ (v : Option Value) (H1 : Heap) (locs1 : List Loc) (cells1 slots1 : Nat), r = .inl v → RL G M0 M1 H1 locs1 cells1 slots1 → W p l e R s m args below meth c H1 locs1 cells1 slots1 Q (F0 m (pc + 3) ls (v.toList ++ rest)))
    (kx : ∀ (x : Nat) (q : Addr) (ce : Cell) (H1 : Heap) (locs1 : List Loc) (cells1 slots1 : Nat), r = .inr x → RL G M0 M1 H1 locs1 cells1 slots1 → H1[q]? = some ce → ce.vm = .none → s.vm.findClass (exN x) = some ce.cls → WT p l e R s m args below meth c H1 locs1 cells1 slots1 Q (F0 m pc ls rest) q) :
    W p l e R s m args below meth c H locs cells slots Q (F0 m pc ls (As.reverse ++ .ref b :: rest)) := by
  intro T hT X
  obtain ⟨y1, y2, y3, y4, y5, y6, y7⟩ := hy
  obtain ⟨d1, d2, d3, d4⟩ := hRm
  have hpl : e.platform.magicAccessors = ({} : Platform).magicAccessors := by rw [X.admits.platform]
  obtain ⟨mk, methM, cM, kP, vm₁, hnamed, hmethM, hcM, -, hlM, hlkM, hkP, -, hW₁, hstep₁⟩ := Steps.initColdArgs (e := e) X.here hx X.warmed hpl hown y2 y5 (hK.w hl rfl args) (hK.w y1 rfl args) (hK.w y3 rfl args) (f := F0 m pc ls (As.reverse ++ .ref b :: rest)) rfl (a := b) (argsL := As) (rest := rest) (fun sig h => hn.trans (len_of y7 h)) rfl (by rw [hb]; exact hdg)
  have X₁ := X.noted hW₁
  have hT1 : (T.setVm vm₁).heap = H := hT
  rcases cb_core X₁ hx hT1 (g := F0 m pc ls rest) rfl hnl (by rw [hb]; exact hdg) hnamed hmethM hcM hlkM (by rw [hlM]; exact y4) y6 hK hR (by simpa using hcat) d1 d2 d3 d4 hM with ⟨v, T', L, c1, s1, e1, X', hR1, st⟩ | ⟨x, q, ce, T', L, c1, s1, e1, X', hR1, g1, g2, g3, st⟩
  · obtain ⟨t2, a1, b1⟩ := kr v T'.heap _ _ _ e1 hR1 T' rfl X'
    exact ⟨t2, hstep₁ _ fun acts => by rw [doInvoke_state]; exact st.trans a1, b1⟩
  · obtain ⟨t2, a1, b1⟩ := kx x q ce T'.heap _ _ _ e1 hR1 g1 g2 g3 T' rfl X'
    exact ⟨t2, hstep₁ _ fun acts => by rw [doInvoke_state]; exact st.trans a1, b1⟩
/-- a new object -/
theorem RL.new (hR : RL G M0 M H locs cells slots) {H' : Heap} (kd ln sl : Nat) (h1 : mS M + 1 ≤ mC M 0) (h2 : mU M + sl ≤ SLm) (hs : H'.size = H.size + 1) (ho : ∀ q : Nat, q < H.size → H'[q]? = H[q]?) (hat : kd ≠ 0 → RealAt (gD G) (gA G) (newC M kd ln sl) H' (mS M)) : RL G M0 (newC M kd ln sl) H' locs (cells + 1) (slots + sl) := by
  obtain ⟨r1, r2, r3, r4, r5, r6, r7⟩ := hR
  exact ⟨r1.new kd ln sl hs ho hat, r2, by rw [mS_newC]; omega, by rw [mU_newC]; omega, by rw [mC_newC]; exact r5, by rw [mS_newC, mC_newC]; omega, by rw [mU_newC]; omega⟩
theorem rg_new (hx : p.tables.exec = Jvm.exec) (hb : c.code = cc) {own C : String} {T : u_T} {N ci index : Nat} (hown : s.vm.findClass own = some m.cls) (hK : Kst G s) (hR : RL G M0 M H locs cells slots) {d : Nat} (hRm : RM G R M0 d) (hc : hcCl[ci]? = some (C, T, N)) (hl : Cond.classLink own index C ∈ lw_tbl) (hin : Cond.instantiable C N ∈ lw_tbl) (hini : Cond.initialized C ∈ lw_tbl) (h1 : mS M + 1 ≤ mC M 0) (h2 : mU M + N ≤ SLm) (hdg : decode cc pc = .ok (.new index, 3))
    (kk : ∀ H1 : Heap, RL G M0 (newC M (ci + 1) 0 N) H1 locs (cells + 1) (slots + N) → W p l e R s m args below meth c H1 locs (cells + 1) (slots + N) Q (F0 m (pc + 3) ls (.ref (mS M) :: rest))) : W p l e R s m args below meth c H locs cells slots Q (F0 m pc ls rest) := by
  have hKn := hK.2.1.1 ci _ hc
  obtain ⟨d1, d2, d3, d4⟩ := hRm
  have hR' := hR
  obtain ⟨r1, r2, r3, r4, r5, r6, r7⟩ := hR'
  refine W.newcK hx hb hown (hK.w hl rfl args) (hK.w hin rfl args) (hK.w hini rfl args) rfl hdg (by rw [r5] at h1; omega) (by omega) hKn.2.1 r1.1 fun H1 kC hkC e1 z1 o1 => ?_
  have hok := hcOk (C, T, N) (List.mem_of_getElem? hc)
  refine kk H1 (hR.new (ci + 1) 0 N h1 h2 (by rw [z1, r1.1]) (fun q hq => o1 q (by rw [← r1.1]; exact hq)) (fun _ => ⟨fun c2 r2 g1 g2 => ?_, fun g1 => ?_⟩))
  · rw [mK_newC, va_up_self] at g1
    have hcc : ci = c2 := by omega
    subst hcc
    cases hc.symm.trans g2
    refine (u_born (fun k => (parseFieldDescriptor (T k).2.2.1).getD .int) (hK.uw hc args) (fun _ h => h) hKn hkC e1 (fun k hk => ?_)).to (fun k hk => ?_)
    · have h3 := hok.1 k hk
      cases hp : parseFieldDescriptor (T k).2.2.1 with
      | none => rw [hp] at h3; cases h3
      | some t => rfl
    · have h4 := hcDef ci (C, T, N) hc k hk
      show defaultValue ((parseFieldDescriptor (T k).2.2.1).getD .int) = _
      rw [h4]
      simp only [fV, mI_newC, mP_newC, fz_eq]
      cases fR ci k <;> rfl
  · exfalso
    rw [mK_newC, va_up_self] at g1
    have hlt := (List.getElem?_eq_some_iff.mp hc).1
    have hle : hcCl.length ≤ 20 := by decide
    omega
/-- a new array of numbers; nT: its kind by its type -/
theorem rg_newa (hx : p.tables.exec = Jvm.exec) (hb : c.code = cc) (hK : Kst G s) (hR : RL G M0 M H locs cells slots) {d : Nat} (hRm : RM G R M0 d) {atype : ArrayType} {ty : FieldType} {kd : Nat} (hty : newarray.typeOf atype = ty) (hkd : (kd = 21 ∧ ty = .int) ∨ (kd = 22 ∧ ty = .char) ∨ (kd = 23 ∧ ty = .boolean) ∨ (kd = 24 ∧ ty = .long)) (harr : Cond.arrayClass ty ∈ lw_tbl) {n : Int32} (hn : ¬ n < 0) (hN : n.toNatClampNeg ≤ 1000) (h1 : mS M + 1 ≤ mC M 0) (h2 : mU M + n.toNatClampNeg ≤ SLm) (hdg : decode cc pc = .ok (.newarray atype, 2))
    (kk : ∀ H1 : Heap, RL G M0 (newC M kd n.toNatClampNeg n.toNatClampNeg) H1 locs (cells + 1) (slots + n.toNatClampNeg) → W p l e R s m args below meth c H1 locs (cells + 1) (slots + n.toNatClampNeg) Q (F0 m (pc + 2) ls (.ref (mS M) :: rest))) : W p l e R s m args below meth c H locs cells slots Q (F0 m pc ls (.int n :: rest)) := by
  subst hty
  obtain ⟨d1, d2, d3, d4⟩ := hRm
  have hR' := hR
  obtain ⟨r1, r2, r3, r4, r5, r6, r7⟩ := hR'
  have hbyt : n.toNatClampNeg * componentBytes (newarray.typeOf atype) ≤ 536870912 := by
    have h8 : componentBytes (newarray.typeOf atype) ≤ 8 := by cases atype <;> decide
    have := Nat.mul_le_mul hN h8
    omega
  refine va_newaK hx hb (hK.w harr rfl args) rfl hdg rfl hn rfl hbyt (by rw [r5] at h1; omega) (by omega) r1.1 fun H1 cA e1 z1 o1 hAr hNm => ?_
  refine kk H1 (hR.new kd _ _ h1 h2 (by rw [z1, r1.1]) (fun q hq => o1 q (by rw [← r1.1]; exact hq)) (fun hk0 => ⟨fun c2 r2 g1 g2 => ?_, fun g1 => ?_⟩))
  · exfalso
    rw [mK_newC, va_up_self] at g1
    have hlt := (List.getElem?_eq_some_iff.mp g2).1
    have hle : hcCl.length ≤ 20 := by decide
    omega
  · rw [mK_newC, va_up_self]
    rw [e1]
    rcases hkd with ⟨rfl, ht⟩ | ⟨rfl, ht⟩ | ⟨rfl, ht⟩ | ⟨rfl, ht⟩
    · have hcA : cA = (gA G) 21 := by
        have h3 : s.vm.findClass ("[" ++ FieldType.int.toString) = some ((gA G) 21) := (hK.2.1.2 0 _ rfl).2
        rw [ht] at hNm
        exact Option.some.inj (hNm.symm.trans h3)
      rw [hcA, ht, aE_i (by decide), mL_newC, va_up_self]
      congr 2
      funext j
      rw [mI_newC, fz_eq]; rfl
    · have hcA : cA = (gA G) 22 := by
        have h3 : s.vm.findClass ("[" ++ FieldType.char.toString) = some ((gA G) 22) := (hK.2.1.2 1 _ rfl).2
        rw [ht] at hNm
        exact Option.some.inj (hNm.symm.trans h3)
      rw [hcA, ht, aE_i (by decide), mL_newC, va_up_self]
      congr 2
      funext j
      rw [mI_newC, fz_eq]; rfl
    · have hcA : cA = (gA G) 23 := by
        have h3 : s.vm.findClass ("[" ++ FieldType.boolean.toString) = some ((gA G) 23) := (hK.2.1.2 2 _ rfl).2
        rw [ht] at hNm
        exact Option.some.inj (hNm.symm.trans h3)
      rw [hcA, ht, aE_i (by decide), mL_newC, va_up_self]
      congr 2
      funext j
      rw [mI_newC, fz_eq]; rfl
    · have hcA : cA = (gA G) 24 := by
        have h3 : s.vm.findClass ("[" ++ FieldType.long.toString) = some ((gA G) 24) := (hK.2.1.2 3 _ rfl).2
        rw [ht] at hNm
        exact Option.some.inj (hNm.symm.trans h3)
      rw [hcA, ht, aE_l, mL_newC, va_up_self]
      congr 2
      funext j
      rw [mJ_newC, fz_eq]; rfl
/-- a new row of Nodes -/
theorem rg_newq (hx : p.tables.exec = Jvm.exec) (hb : c.code = cc) {own : String} {index : Nat} (hown : s.vm.findClass own = some m.cls) (hK : Kst G s) (hR : RL G M0 M H locs cells slots) {d : Nat} (hRm : RM G R M0 d) (hl : Cond.classLink own index "HeadCount$Node" ∈ lw_tbl) {n : Int32} (hn : ¬ n < 0) (hN : n.toNatClampNeg ≤ 1000) (h1 : mS M + 1 ≤ mC M 0) (h2 : mU M + n.toNatClampNeg ≤ SLm) (hdg : decode cc pc = .ok (.anewarray index, 3))
    (kk : ∀ H1 : Heap, RL G M0 (newC M 25 n.toNatClampNeg n.toNatClampNeg) H1 locs (cells + 1) (slots + n.toNatClampNeg) → W p l e R s m args below meth c H1 locs (cells + 1) (slots + n.toNatClampNeg) Q (F0 m (pc + 3) ls (.ref (mS M) :: rest))) : W p l e R s m args below meth c H locs cells slots Q (F0 m pc ls (.int n :: rest)) := by
  obtain ⟨d1, d2, d3, d4⟩ := hRm
  have hR' := hR
  obtain ⟨r1, r2, r3, r4, r5, r6, r7⟩ := hR'
  have hsz := r1.1
  refine W.anew hx hb hown (hK.w hl rfl args) (va_AO.use hK.2.2.1) rfl hdg rfl hn (by omega) (by rw [r5] at h1; omega) (by omega) fun cA kA comp f1 f2 f3 f4 => ?_
  generalize hH1 : H.push ({ cls := cA, slots := Array.replicate n.toNatClampNeg .null, vm := .none } : Cell) = H1
  have z1 : H1.size = H.size + 1 := by rw [← hH1, Array.size_push]
  have e1 : H1[H.size]? = some (arrV cA n.toNatClampNeg (fun _ => .null)) := by rw [← hH1, Array.getElem?_push_size, ← arrV_new]
  have o1 : ∀ q : Nat, q < H.size → H1[q]? = H[q]? := fun q hq => by rw [← hH1, Array.getElem?_push, if_neg (Nat.ne_of_lt hq)]
  rw [hsz]
  refine kk H1 (hR.new 25 _ _ h1 h2 z1 o1 (fun hk0 => ⟨fun c2 r2 g1 g2 => ?_, fun g1 => ?_⟩))
  · exfalso
    rw [mK_newC, va_up_self] at g1
    have hlt := (List.getElem?_eq_some_iff.mp g2).1
    have hle : hcCl.length ≤ 20 := by decide
    omega
  · rw [mK_newC, va_up_self, ← hsz, e1]
    have hcA : cA = (gA G) 25 := by
      obtain ⟨kA', comp', k1, k2, k3, k4⟩ := (hK.2.1.2 4 _ rfl).2
      exact Option.some.inj (f1.symm.trans k4)
    rw [hcA, aE_p, mL_newC, ← hsz, va_up_self]
    congr 2
    funext j
    rw [mP_newC, ← hsz, fz_eq]; rfl
end RowsC
end
section
/-! rows: references that may be null -/
/-- null or not -/
def rzN (r : Option Nat) (x : Rz) (k : Nat → Rz) : Rz := match r with
  | none => x
  | some a => k a
theorem rz_n {r : Option Nat} {x : Rz} {k : Nat → Rz} {y : (Option Value ⊕ Nat) × Mem} (h : rzN r x k = some y) : (r = none ∧ x = some y) ∨ (∃ a, r = some a ∧ k a = some y) := by
  cases r with
  | none => exact Or.inl ⟨rfl, h⟩
  | some a => exact Or.inr ⟨a, rfl, h⟩
section RowsR
variable {p : Program} {l : Launch} {e : Env} {R : Room} {s : State} {m : MethodId} {args : Array Value} {below : List Frame} {meth : Method} {c : Code} {H : Heap} {locs : List Loc} {cells slots : Nat} {Q : State → Prop}
variable {cc : ByteArray} {pc : Nat} {ls : Array Slot} {rest : List Value}
theorem lr_aload_n (hx : p.tables.exec = Jvm.exec) (hb : c.code = cc) {k : Fin 4} {i : Nat} {r : Option Nat} (hdg : decode cc pc = .ok (.aload_n k, 1)) (hi : (k : Nat) = i) (hl : ls[i]? = some (.val (va_rf r)))
    (kk : W p l e R s m args below meth c H locs cells slots Q (F0 m (pc + 1) ls (va_rf r :: rest))) : W p l e R s m args below meth c H locs cells slots Q (F0 m pc ls rest) := by
  cases r with
  | none => exact lv_aload_nN hx hb hdg hi hl kk
  | some x => exact lv_aload_n hx hb hdg hi hl kk
theorem lr_aload (hx : p.tables.exec = Jvm.exec) (hb : c.code = cc) {i : Nat} {r : Option Nat} (hdg : decode cc pc = .ok (.aload i, 2)) (hl : ls[i]? = some (.val (va_rf r)))
    (kk : W p l e R s m args below meth c H locs cells slots Q (F0 m (pc + 2) ls (va_rf r :: rest))) : W p l e R s m args below meth c H locs cells slots Q (F0 m pc ls rest) := by
  cases r with
  | none => exact lv_aloadN hx hb hdg hl kk
  | some x => exact lv_aload hx hb hdg hl kk
theorem lr_astore_n (hx : p.tables.exec = Jvm.exec) (hb : c.code = cc) {k : Fin 4} {i nL : Nat} {r : Option Nat} {lv lv' : List (Nat × Value)} (hdg : decode cc pc = .ok (.astore_n k, 1)) (hi : (k : Nat) = i) (h : lv_has ls nL lv) (hn : i < nL) (hl : (i, va_rf r) :: lv.filter (fun q => !(q.1 == i) && !(q.1 + 1 == i && q.2.category == 2)) = lv')
    (kk : ∀ ls' : Array Slot, lv_has ls' nL lv' → W p l e R s m args below meth c H locs cells slots Q (F0 m (pc + 1) ls' rest)) : W p l e R s m args below meth c H locs cells slots Q (F0 m pc ls (va_rf r :: rest)) := by
  cases r with
  | none => exact lv_astore_nN hx hb hdg hi h hn hl kk
  | some x => exact lv_astore_n hx hb hdg hi h hn hl kk
theorem lr_astore (hx : p.tables.exec = Jvm.exec) (hb : c.code = cc) {i nL : Nat} {r : Option Nat} {lv lv' : List (Nat × Value)} (hdg : decode cc pc = .ok (.astore i, 2)) (h : lv_has ls nL lv) (hn : i < nL) (hl : (i, va_rf r) :: lv.filter (fun q => !(q.1 == i) && !(q.1 + 1 == i && q.2.category == 2)) = lv')
    (kk : ∀ ls' : Array Slot, lv_has ls' nL lv' → W p l e R s m args below meth c H locs cells slots Q (F0 m (pc + 2) ls' rest)) : W p l e R s m args below meth c H locs cells slots Q (F0 m pc ls (va_rf r :: rest)) := by
  cases r with
  | none => exact lv_astoreN hx hb hdg h hn hl kk
  | some x => exact lv_astore hx hb hdg h hn hl kk
theorem lr_ifnull (hx : p.tables.exec = Jvm.exec) (hb : c.code = cc) {r : Option Nat} {off : Int} {tgt : Nat} (hdg : decode cc pc = .ok (.ifnull off, 3)) (ht : (pc : Int) + off = (tgt : Int))
    (kt : r = none → W p l e R s m args below meth c H locs cells slots Q (F0 m tgt ls rest)) (kf : ∀ a, r = some a → W p l e R s m args below meth c H locs cells slots Q (F0 m (pc + 3) ls rest)) : W p l e R s m args below meth c H locs cells slots Q (F0 m pc ls (va_rf r :: rest)) := by
  cases r with
  | none => exact lv_ifnullN hx hb hdg ht (kt rfl)
  | some x => exact lv_ifnull hx hb hdg (kf x rfl)
theorem lr_ifnonnull (hx : p.tables.exec = Jvm.exec) (hb : c.code = cc) {r : Option Nat} {off : Int} {tgt : Nat} (hdg : decode cc pc = .ok (.ifnonnull off, 3)) (ht : (pc : Int) + off = (tgt : Int))
    (kt : ∀ a, r = some a → W p l e R s m args below meth c H locs cells slots Q (F0 m tgt ls rest)) (kf : r = none → W p l e R s m args below meth c H locs cells slots Q (F0 m (pc + 3) ls rest)) : W p l e R s m args below meth c H locs cells slots Q (F0 m pc ls (va_rf r :: rest)) := by
  cases r with
  | none => exact lv_ifnonnullN hx hb hdg (kf rfl)
  | some x => exact lv_ifnonnull hx hb hdg ht (kt x rfl)
/-- the value of a variable by its number -/
theorem lv_by {nL : Nat} {lv : List (Nat × Value)} (h : lv_has ls nL lv) {i : Nat} {v : Value} (k : Nat) (hk : lv[k]? = some (i, v)) : ls[i]? = some (.val v) := lv_at h k hk
end RowsR
end
section
theorem kf_H_9 : Cond.fieldLink "HeadCount" 9 "HeadCount" "text" "[C" ∈ lw_tbl := List.mem_append_right _ (List.mem_of_getElem? (i := 93) (by decide +kernel))
theorem kf_H_13 : Cond.fieldLink "HeadCount" 13 "HeadCount" "used" "I" ∈ lw_tbl := List.mem_append_right _ (List.mem_of_getElem? (i := 94) (by decide +kernel))
theorem kf_H_20 : Cond.fieldLink "HeadCount" 20 "HeadCount" "parser" "LHeadCount$Parser;" ∈ lw_tbl := List.mem_append_right _ (List.mem_of_getElem? (i := 95) (by decide +kernel))
theorem kf_H_27 : Cond.fieldLink "HeadCount" 27 "HeadCount" "world" "LHeadCount$World;" ∈ lw_tbl := List.mem_append_right _ (List.mem_of_getElem? (i := 96) (by decide +kernel))
theorem kf_H_31 : Cond.fieldLink "HeadCount" 31 "HeadCount" "sentence" "LHeadCount$Node;" ∈ lw_tbl := List.mem_append_right _ (List.mem_of_getElem? (i := 97) (by decide +kernel))
theorem kf_H_35 : Cond.fieldLink "HeadCount" 35 "HeadCount" "counted" "[I" ∈ lw_tbl := List.mem_append_right _ (List.mem_of_getElem? (i := 98) (by decide +kernel))
theorem kf_H_51 : Cond.fieldLink "HeadCount" 51 "HeadCount$Parser" "quantifiers" "I" ∈ lw_tbl := List.mem_append_right _ (List.mem_of_getElem? (i := 49) (by decide +kernel))
theorem kf_H_84 : Cond.fieldLink "HeadCount" 84 "HeadCount$Node" "sign" "C" ∈ lw_tbl := List.mem_append_right _ (List.mem_of_getElem? (i := 252) (by decide +kernel))
theorem kf_H_90 : Cond.fieldLink "HeadCount" 90 "HeadCount$Node" "variable" "I" ∈ lw_tbl := List.mem_append_right _ (List.mem_of_getElem? (i := 259) (by decide +kernel))
theorem kf_N_7 : Cond.fieldLink "HeadCount$Node" 7 "HeadCount$Node" "sign" "C" ∈ lw_tbl := List.mem_append_right _ (List.mem_of_getElem? (i := 249) (by decide +kernel))
theorem kf_N_13 : Cond.fieldLink "HeadCount$Node" 13 "HeadCount$Node" "number" "I" ∈ lw_tbl := List.mem_append_right _ (List.mem_of_getElem? (i := 253) (by decide +kernel))
theorem kf_N_17 : Cond.fieldLink "HeadCount$Node" 17 "HeadCount$Node" "variable" "I" ∈ lw_tbl := List.mem_append_right _ (List.mem_of_getElem? (i := 256) (by decide +kernel))
theorem kf_N_20 : Cond.fieldLink "HeadCount$Node" 20 "HeadCount$Node" "first" "LHeadCount$Node;" ∈ lw_tbl := List.mem_append_right _ (List.mem_of_getElem? (i := 260) (by decide +kernel))
theorem kf_N_24 : Cond.fieldLink "HeadCount$Node" 24 "HeadCount$Node" "next" "LHeadCount$Node;" ∈ lw_tbl := List.mem_append_right _ (List.mem_of_getElem? (i := 263) (by decide +kernel))
theorem kf_P_9 : Cond.fieldLink "HeadCount$Parser" 9 "HeadCount$Parser" "signs" "[C" ∈ lw_tbl := List.mem_append_right _ (List.mem_of_getElem? (i := 45) (by decide +kernel))
theorem kf_P_23 : Cond.fieldLink "HeadCount$Parser" 23 "HeadCount$Parser" "bound" "[Z" ∈ lw_tbl := List.mem_append_right _ (List.mem_of_getElem? (i := 50) (by decide +kernel))
theorem kf_P_29 : Cond.fieldLink "HeadCount$Parser" 29 "HeadCount$Parser" "nodes" "[LHeadCount$Node;" ∈ lw_tbl := List.mem_append_right _ (List.mem_of_getElem? (i := 51) (by decide +kernel))
theorem kf_P_33 : Cond.fieldLink "HeadCount$Parser" 33 "HeadCount$Parser" "nodesInForce" "[LHeadCount$Node;" ∈ lw_tbl := List.mem_append_right _ (List.mem_of_getElem? (i := 52) (by decide +kernel))
theorem kf_P_44 : Cond.fieldLink "HeadCount$Parser" 44 "HeadCount$Parser" "at" "I" ∈ lw_tbl := List.mem_append_right _ (List.mem_of_getElem? (i := 47) (by decide +kernel))
theorem kf_P_48 : Cond.fieldLink "HeadCount$Parser" 48 "HeadCount$Parser" "count" "I" ∈ lw_tbl := List.mem_append_right _ (List.mem_of_getElem? (i := 46) (by decide +kernel))
theorem kf_P_55 : Cond.fieldLink "HeadCount$Parser" 55 "HeadCount$Parser" "quantifiers" "I" ∈ lw_tbl := List.mem_append_right _ (List.mem_of_getElem? (i := 48) (by decide +kernel))
theorem kf_P_58 : Cond.fieldLink "HeadCount$Parser" 58 "HeadCount$Parser" "made" "I" ∈ lw_tbl := List.mem_append_right _ (List.mem_of_getElem? (i := 53) (by decide +kernel))
theorem kf_P_72 : Cond.fieldLink "HeadCount$Parser" 72 "HeadCount$Node" "first" "LHeadCount$Node;" ∈ lw_tbl := List.mem_append_right _ (List.mem_of_getElem? (i := 262) (by decide +kernel))
theorem kf_P_80 : Cond.fieldLink "HeadCount$Parser" 80 "HeadCount$Node" "next" "LHeadCount$Node;" ∈ lw_tbl := List.mem_append_right _ (List.mem_of_getElem? (i := 264) (by decide +kernel))
theorem kf_P_118 : Cond.fieldLink "HeadCount$Parser" 118 "HeadCount$Node" "variable" "I" ∈ lw_tbl := List.mem_append_right _ (List.mem_of_getElem? (i := 258) (by decide +kernel))
theorem kf_P_127 : Cond.fieldLink "HeadCount$Parser" 127 "HeadCount$Node" "number" "I" ∈ lw_tbl := List.mem_append_right _ (List.mem_of_getElem? (i := 255) (by decide +kernel))
theorem kf_P_133 : Cond.fieldLink "HeadCount$Parser" 133 "HeadCount$Node" "sign" "C" ∈ lw_tbl := List.mem_append_right _ (List.mem_of_getElem? (i := 251) (by decide +kernel))
theorem kf_O_17 : Cond.fieldLink "HeadCount$World" 17 "HeadCount$World" "values" "[I" ∈ lw_tbl := List.mem_append_right _ (List.mem_of_getElem? (i := 84) (by decide +kernel))
theorem kf_O_23 : Cond.fieldLink "HeadCount$World" 23 "HeadCount$World" "size" "I" ∈ lw_tbl := List.mem_append_right _ (List.mem_of_getElem? (i := 82) (by decide +kernel))
theorem kf_O_27 : Cond.fieldLink "HeadCount$World" 27 "HeadCount$World" "allElements" "I" ∈ lw_tbl := List.mem_append_right _ (List.mem_of_getElem? (i := 83) (by decide +kernel))
theorem kf_O_30 : Cond.fieldLink "HeadCount$World" 30 "HeadCount$Node" "sign" "C" ∈ lw_tbl := List.mem_append_right _ (List.mem_of_getElem? (i := 250) (by decide +kernel))
theorem kf_O_40 : Cond.fieldLink "HeadCount$World" 40 "HeadCount$Node" "variable" "I" ∈ lw_tbl := List.mem_append_right _ (List.mem_of_getElem? (i := 257) (by decide +kernel))
theorem kf_O_55 : Cond.fieldLink "HeadCount$World" 55 "HeadCount$Node" "first" "LHeadCount$Node;" ∈ lw_tbl := List.mem_append_right _ (List.mem_of_getElem? (i := 261) (by decide +kernel))
theorem kf_O_72 : Cond.fieldLink "HeadCount$World" 72 "HeadCount$Node" "next" "LHeadCount$Node;" ∈ lw_tbl := List.mem_append_right _ (List.mem_of_getElem? (i := 265) (by decide +kernel))
theorem kf_O_82 : Cond.fieldLink "HeadCount$World" 82 "HeadCount$Node" "number" "I" ∈ lw_tbl := List.mem_append_right _ (List.mem_of_getElem? (i := 254) (by decide +kernel))
theorem kf_M_7 : Cond.fieldLink "HeadCountModel" 7 "HeadCountModel" "text" "[C" ∈ lw_tbl := List.mem_append_right _ (List.mem_of_getElem? (i := 538) (by decide +kernel))
theorem kf_M_13 : Cond.fieldLink "HeadCountModel" 13 "HeadCountModel" "order" "[I" ∈ lw_tbl := List.mem_append_right _ (List.mem_of_getElem? (i := 542) (by decide +kernel))
theorem kf_M_17 : Cond.fieldLink "HeadCountModel" 17 "HeadCountModel" "arg" "[I" ∈ lw_tbl := List.mem_append_right _ (List.mem_of_getElem? (i := 543) (by decide +kernel))
theorem kf_M_20 : Cond.fieldLink "HeadCountModel" 20 "HeadCountModel" "every" "[Z" ∈ lw_tbl := List.mem_append_right _ (List.mem_of_getElem? (i := 544) (by decide +kernel))
theorem kf_M_24 : Cond.fieldLink "HeadCountModel" 24 "HeadCountModel" "overSets" "[Z" ∈ lw_tbl := List.mem_append_right _ (List.mem_of_getElem? (i := 545) (by decide +kernel))
theorem kf_M_27 : Cond.fieldLink "HeadCountModel" 27 "HeadCountModel" "freshOrder" "[I" ∈ lw_tbl := List.mem_append_right _ (List.mem_of_getElem? (i := 550) (by decide +kernel))
theorem kf_M_30 : Cond.fieldLink "HeadCountModel" 30 "HeadCountModel" "freshArg" "[I" ∈ lw_tbl := List.mem_append_right _ (List.mem_of_getElem? (i := 551) (by decide +kernel))
theorem kf_M_33 : Cond.fieldLink "HeadCountModel" 33 "HeadCountModel" "freshEvery" "[Z" ∈ lw_tbl := List.mem_append_right _ (List.mem_of_getElem? (i := 552) (by decide +kernel))
theorem kf_M_36 : Cond.fieldLink "HeadCountModel" 36 "HeadCountModel" "freshSets" "[Z" ∈ lw_tbl := List.mem_append_right _ (List.mem_of_getElem? (i := 553) (by decide +kernel))
theorem kf_M_39 : Cond.fieldLink "HeadCountModel" 39 "HeadCountModel" "pile" "[I" ∈ lw_tbl := List.mem_append_right _ (List.mem_of_getElem? (i := 556) (by decide +kernel))
theorem kf_M_42 : Cond.fieldLink "HeadCountModel" 42 "HeadCountModel" "variable" "[I" ∈ lw_tbl := List.mem_append_right _ (List.mem_of_getElem? (i := 557) (by decide +kernel))
theorem kf_M_45 : Cond.fieldLink "HeadCountModel" 45 "HeadCountModel" "before" "[I" ∈ lw_tbl := List.mem_append_right _ (List.mem_of_getElem? (i := 558) (by decide +kernel))
theorem kf_M_48 : Cond.fieldLink "HeadCountModel" 48 "HeadCountModel" "binds" "[I" ∈ lw_tbl := List.mem_append_right _ (List.mem_of_getElem? (i := 559) (by decide +kernel))
theorem kf_M_51 : Cond.fieldLink "HeadCountModel" 51 "HeadCountModel" "value" "[I" ∈ lw_tbl := List.mem_append_right _ (List.mem_of_getElem? (i := 572) (by decide +kernel))
theorem kf_M_54 : Cond.fieldLink "HeadCountModel" 54 "HeadCountModel" "start" "[I" ∈ lw_tbl := List.mem_append_right _ (List.mem_of_getElem? (i := 573) (by decide +kernel))
theorem kf_M_57 : Cond.fieldLink "HeadCountModel" 57 "HeadCountModel" "stack" "[I" ∈ lw_tbl := List.mem_append_right _ (List.mem_of_getElem? (i := 575) (by decide +kernel))
theorem kf_M_60 : Cond.fieldLink "HeadCountModel" 60 "HeadCountModel" "code" "I" ∈ lw_tbl := List.mem_append_right _ (List.mem_of_getElem? (i := 536) (by decide +kernel))
theorem kf_M_66 : Cond.fieldLink "HeadCountModel" 66 "HeadCountModel" "typed" "I" ∈ lw_tbl := List.mem_append_right _ (List.mem_of_getElem? (i := 537) (by decide +kernel))
theorem kf_M_69 : Cond.fieldLink "HeadCountModel" 69 "HeadCountModel" "freshLength" "I" ∈ lw_tbl := List.mem_append_right _ (List.mem_of_getElem? (i := 548) (by decide +kernel))
theorem kf_M_72 : Cond.fieldLink "HeadCountModel" 72 "HeadCountModel" "open" "I" ∈ lw_tbl := List.mem_append_right _ (List.mem_of_getElem? (i := 555) (by decide +kernel))
theorem kf_M_75 : Cond.fieldLink "HeadCountModel" 75 "HeadCountModel" "depth" "I" ∈ lw_tbl := List.mem_append_right _ (List.mem_of_getElem? (i := 560) (by decide +kernel))
theorem kf_M_94 : Cond.fieldLink "HeadCountModel" 94 "HeadCountModel" "universal" "Z" ∈ lw_tbl := List.mem_append_right _ (List.mem_of_getElem? (i := 561) (by decide +kernel))
theorem kf_M_98 : Cond.fieldLink "HeadCountModel" 98 "HeadCountModel" "freshLoops" "I" ∈ lw_tbl := List.mem_append_right _ (List.mem_of_getElem? (i := 549) (by decide +kernel))
theorem kf_M_101 : Cond.fieldLink "HeadCountModel" 101 "HeadCountModel" "relation" "I" ∈ lw_tbl := List.mem_append_right _ (List.mem_of_getElem? (i := 569) (by decide +kernel))
theorem kf_M_120 : Cond.fieldLink "HeadCountModel" 120 "HeadCountModel" "minus" "Z" ∈ lw_tbl := List.mem_append_right _ (List.mem_of_getElem? (i := 566) (by decide +kernel))
theorem kf_M_123 : Cond.fieldLink "HeadCountModel" 123 "HeadCountModel" "firstPart" "Z" ∈ lw_tbl := List.mem_append_right _ (List.mem_of_getElem? (i := 567) (by decide +kernel))
theorem kf_M_126 : Cond.fieldLink "HeadCountModel" 126 "HeadCountModel" "bare" "Z" ∈ lw_tbl := List.mem_append_right _ (List.mem_of_getElem? (i := 568) (by decide +kernel))
theorem kf_M_132 : Cond.fieldLink "HeadCountModel" 132 "HeadCountModel" "times" "Z" ∈ lw_tbl := List.mem_append_right _ (List.mem_of_getElem? (i := 564) (by decide +kernel))
theorem kf_M_139 : Cond.fieldLink "HeadCountModel" 139 "HeadCountModel" "figure" "I" ∈ lw_tbl := List.mem_append_right _ (List.mem_of_getElem? (i := 562) (by decide +kernel))
theorem kf_M_142 : Cond.fieldLink "HeadCountModel" 142 "HeadCountModel" "figures" "I" ∈ lw_tbl := List.mem_append_right _ (List.mem_of_getElem? (i := 563) (by decide +kernel))
theorem kf_M_148 : Cond.fieldLink "HeadCountModel" 148 "HeadCountModel" "factor" "I" ∈ lw_tbl := List.mem_append_right _ (List.mem_of_getElem? (i := 565) (by decide +kernel))
theorem kf_M_151 : Cond.fieldLink "HeadCountModel" 151 "HeadCountModel" "divisor" "I" ∈ lw_tbl := List.mem_append_right _ (List.mem_of_getElem? (i := 570) (by decide +kernel))
theorem kf_M_166 : Cond.fieldLink "HeadCountModel" 166 "HeadCountModel" "state" "I" ∈ lw_tbl := List.mem_append_right _ (List.mem_of_getElem? (i := 554) (by decide +kernel))
theorem kf_M_184 : Cond.fieldLink "HeadCountModel" 184 "HeadCountModel" "freshOpens" "Z" ∈ lw_tbl := List.mem_append_right _ (List.mem_of_getElem? (i := 547) (by decide +kernel))
theorem kf_M_194 : Cond.fieldLink "HeadCountModel" 194 "HeadCountModel" "there" "Z" ∈ lw_tbl := List.mem_append_right _ (List.mem_of_getElem? (i := 539) (by decide +kernel))
theorem kf_M_197 : Cond.fieldLink "HeadCountModel" 197 "HeadCountModel" "length" "I" ∈ lw_tbl := List.mem_append_right _ (List.mem_of_getElem? (i := 540) (by decide +kernel))
theorem kf_M_200 : Cond.fieldLink "HeadCountModel" 200 "HeadCountModel" "loops" "I" ∈ lw_tbl := List.mem_append_right _ (List.mem_of_getElem? (i := 541) (by decide +kernel))
theorem kf_M_203 : Cond.fieldLink "HeadCountModel" 203 "HeadCountModel" "opens" "Z" ∈ lw_tbl := List.mem_append_right _ (List.mem_of_getElem? (i := 546) (by decide +kernel))
theorem kf_M_206 : Cond.fieldLink "HeadCountModel" 206 "HeadCountModel" "high" "I" ∈ lw_tbl := List.mem_append_right _ (List.mem_of_getElem? (i := 574) (by decide +kernel))
theorem kf_M_216 : Cond.fieldLink "HeadCountModel" 216 "HeadCountModel" "size" "I" ∈ lw_tbl := List.mem_append_right _ (List.mem_of_getElem? (i := 571) (by decide +kernel))
theorem kf_M_222 : Cond.fieldLink "HeadCountModel" 222 "HeadCountModel" "good" "I" ∈ lw_tbl := List.mem_append_right _ (List.mem_of_getElem? (i := 576) (by decide +kernel))
theorem kf_S_9 : Cond.fieldLink "java/lang/String" 9 "java/lang/String" "value" "[B" ∈ lw_tbl := List.mem_append_right _ (List.mem_of_getElem? (i := 824) (by decide +kernel))
theorem kf_S_15 : Cond.fieldLink "java/lang/String" 15 "java/lang/String" "coder" "B" ∈ lw_tbl := List.mem_append_right _ (List.mem_of_getElem? (i := 825) (by decide +kernel))
theorem kf_S_38 : Cond.fieldLink "java/lang/String" 38 "java/lang/String" "COMPACT_STRINGS" "Z" ∈ lw_tbl := List.mem_append_right _ (List.mem_of_getElem? (i := 41) (by decide +kernel))
theorem kf_S_1053 : Cond.fieldLink "java/lang/String" 1053 "jdk/internal/util/Preconditions" "SIOOBE_FORMATTER" "Ljava/util/function/BiFunction;" ∈ lw_tbl := List.mem_append_right _ (List.mem_of_getElem? (i := 331) (by decide +kernel))
theorem kl_H_19 : Cond.methodLink "HeadCount" 19 yP_init ∈ lw_tbl := List.mem_append_right _ (List.mem_of_getElem? (i := 28) (by decide +kernel))
theorem kl_H_26 : Cond.methodLink "HeadCount" 26 yO_init ∈ lw_tbl := List.mem_append_right _ (List.mem_of_getElem? (i := 76) (by decide +kernel))
theorem kl_H_39 : Cond.methodLink "HeadCount" 39 yH_byteAt ∈ lw_tbl := List.mem_append_right _ (List.mem_of_getElem? (i := 116) (by decide +kernel))
theorem kl_H_43 : Cond.methodLink "HeadCount" 43 yH_append ∈ lw_tbl := List.mem_append_right _ (List.mem_of_getElem? (i := 119) (by decide +kernel))
theorem kl_H_47 : Cond.methodLink "HeadCount" 47 yP_parse ∈ lw_tbl := List.mem_append_right _ (List.mem_of_getElem? (i := 139) (by decide +kernel))
theorem kl_H_54 : Cond.methodLink "HeadCount" 54 yH_needSentence ∈ lw_tbl := List.mem_append_right _ (List.mem_of_getElem? (i := 421) (by decide +kernel))
theorem kl_H_57 : Cond.methodLink "HeadCount" 57 yH_needWorld ∈ lw_tbl := List.mem_append_right _ (List.mem_of_getElem? (i := 441) (by decide +kernel))
theorem kl_H_60 : Cond.methodLink "HeadCount" 60 yH_isTrueIn ∈ lw_tbl := List.mem_append_right _ (List.mem_of_getElem? (i := 447) (by decide +kernel))
theorem kl_H_64 : Cond.methodLink "HeadCount" 64 yH_waysIn ∈ lw_tbl := List.mem_append_right _ (List.mem_of_getElem? (i := 451) (by decide +kernel))
theorem kl_H_80 : Cond.methodLink "HeadCount" 80 yO_count ∈ lw_tbl := List.mem_append_right _ (List.mem_of_getElem? (i := 455) (by decide +kernel))
theorem kl_H_93 : Cond.methodLink "HeadCount" 93 yO_choices ∈ lw_tbl := List.mem_append_right _ (List.mem_of_getElem? (i := 515) (by decide +kernel))
theorem kl_P_17 : Cond.methodLink "HeadCount$Parser" 17 yS_length ∈ lw_tbl := List.mem_append_right _ (List.mem_of_getElem? (i := 33) (by decide +kernel))
theorem kl_P_36 : Cond.methodLink "HeadCount$Parser" 36 yP_start ∈ lw_tbl := List.mem_append_right _ (List.mem_of_getElem? (i := 143) (by decide +kernel))
theorem kl_P_40 : Cond.methodLink "HeadCount$Parser" 40 yP_row ∈ lw_tbl := List.mem_append_right _ (List.mem_of_getElem? (i := 147) (by decide +kernel))
theorem kl_P_51 : Cond.methodLink "HeadCount$Parser" 51 yP_insist ∈ lw_tbl := List.mem_append_right _ (List.mem_of_getElem? (i := 159) (by decide +kernel))
theorem kl_P_61 : Cond.methodLink "HeadCount$Parser" 61 yP_item ∈ lw_tbl := List.mem_append_right _ (List.mem_of_getElem? (i := 151) (by decide +kernel))
theorem kl_P_64 : Cond.methodLink "HeadCount$Parser" 64 yP_peek ∈ lw_tbl := List.mem_append_right _ (List.mem_of_getElem? (i := 228) (by decide +kernel))
theorem kl_P_68 : Cond.methodLink "HeadCount$Parser" 68 yP_make ∈ lw_tbl := List.mem_append_right _ (List.mem_of_getElem? (i := 240) (by decide +kernel))
theorem kl_P_76 : Cond.methodLink "HeadCount$Parser" 76 yP_take ∈ lw_tbl := List.mem_append_right _ (List.mem_of_getElem? (i := 366) (by decide +kernel))
theorem kl_P_83 : Cond.methodLink "HeadCount$Parser" 83 yP_one ∈ lw_tbl := List.mem_append_right _ (List.mem_of_getElem? (i := 155) (by decide +kernel))
theorem kl_P_87 : Cond.methodLink "HeadCount$Parser" 87 yP_single ∈ lw_tbl := List.mem_append_right _ (List.mem_of_getElem? (i := 401) (by decide +kernel))
theorem kl_P_90 : Cond.methodLink "HeadCount$Parser" 90 yP_not ∈ lw_tbl := List.mem_append_right _ (List.mem_of_getElem? (i := 232) (by decide +kernel))
theorem kl_P_93 : Cond.methodLink "HeadCount$Parser" 93 yP_quantified ∈ lw_tbl := List.mem_append_right _ (List.mem_of_getElem? (i := 281) (by decide +kernel))
theorem kl_P_96 : Cond.methodLink "HeadCount$Parser" 96 yP_bracketed ∈ lw_tbl := List.mem_append_right _ (List.mem_of_getElem? (i := 362) (by decide +kernel))
theorem kl_P_99 : Cond.methodLink "HeadCount$Parser" 99 yP_comparisonOfSets ∈ lw_tbl := List.mem_append_right _ (List.mem_of_getElem? (i := 370) (by decide +kernel))
theorem kl_P_102 : Cond.methodLink "HeadCount$Parser" 102 yP_startsWithDivisor ∈ lw_tbl := List.mem_append_right _ (List.mem_of_getElem? (i := 374) (by decide +kernel))
theorem kl_P_106 : Cond.methodLink "HeadCount$Parser" 106 yP_divided ∈ lw_tbl := List.mem_append_right _ (List.mem_of_getElem? (i := 385) (by decide +kernel))
theorem kl_P_109 : Cond.methodLink "HeadCount$Parser" 109 yP_comparisonOfSums ∈ lw_tbl := List.mem_append_right _ (List.mem_of_getElem? (i := 409) (by decide +kernel))
theorem kl_P_112 : Cond.methodLink "HeadCount$Parser" 112 yP_next ∈ lw_tbl := List.mem_append_right _ (List.mem_of_getElem? (i := 236) (by decide +kernel))
theorem kl_P_114 : Cond.methodLink "HeadCount$Parser" 114 yS_indexOf ∈ lw_tbl := List.mem_append_right _ (List.mem_of_getElem? (i := 285) (by decide +kernel))
theorem kl_P_121 : Cond.methodLink "HeadCount$Parser" 121 yP_isDecimal ∈ lw_tbl := List.mem_append_right _ (List.mem_of_getElem? (i := 378) (by decide +kernel))
theorem kl_P_124 : Cond.methodLink "HeadCount$Parser" 124 yP_number ∈ lw_tbl := List.mem_append_right _ (List.mem_of_getElem? (i := 381) (by decide +kernel))
theorem kl_P_129 : Cond.methodLink "HeadCount$Parser" 129 yP_addSum ∈ lw_tbl := List.mem_append_right _ (List.mem_of_getElem? (i := 389) (by decide +kernel))
theorem kl_P_137 : Cond.methodLink "HeadCount$Parser" 137 yP_addPart ∈ lw_tbl := List.mem_append_right _ (List.mem_of_getElem? (i := 393) (by decide +kernel))
theorem kl_P_140 : Cond.methodLink "HeadCount$Parser" 140 yP_thing ∈ lw_tbl := List.mem_append_right _ (List.mem_of_getElem? (i := 397) (by decide +kernel))
theorem kl_P_143 : Cond.methodLink "HeadCount$Parser" 143 yP_boundVariable ∈ lw_tbl := List.mem_append_right _ (List.mem_of_getElem? (i := 405) (by decide +kernel))
theorem kl_P_148 : Cond.methodLink "HeadCount$Parser" 148 yN_reset ∈ lw_tbl := List.mem_append_right _ (List.mem_of_getElem? (i := 277) (by decide +kernel))
theorem kl_O_11 : Cond.methodLink "HeadCount$World" 11 yS_length ∈ lw_tbl := List.mem_append_right _ (List.mem_of_getElem? (i := 81) (by decide +kernel))
theorem kl_O_36 : Cond.methodLink "HeadCount$World" 36 yO_isTrue ∈ lw_tbl := List.mem_append_right _ (List.mem_of_getElem? (i := 459) (by decide +kernel))
theorem kl_O_43 : Cond.methodLink "HeadCount$World" 43 yO_firstChoice ∈ lw_tbl := List.mem_append_right _ (List.mem_of_getElem? (i := 475) (by decide +kernel))
theorem kl_O_47 : Cond.methodLink "HeadCount$World" 47 yO_choices ∈ lw_tbl := List.mem_append_right _ (List.mem_of_getElem? (i := 478) (by decide +kernel))
theorem kl_O_51 : Cond.methodLink "HeadCount$World" 51 yO_bind ∈ lw_tbl := List.mem_append_right _ (List.mem_of_getElem? (i := 481) (by decide +kernel))
theorem kl_O_59 : Cond.methodLink "HeadCount$World" 59 yO_anyIs ∈ lw_tbl := List.mem_append_right _ (List.mem_of_getElem? (i := 463) (by decide +kernel))
theorem kl_O_63 : Cond.methodLink "HeadCount$World" 63 yO_anyChoiceMakes ∈ lw_tbl := List.mem_append_right _ (List.mem_of_getElem? (i := 467) (by decide +kernel))
theorem kl_O_66 : Cond.methodLink "HeadCount$World" 66 yO_isTrueOfSets ∈ lw_tbl := List.mem_append_right _ (List.mem_of_getElem? (i := 485) (by decide +kernel))
theorem kl_O_69 : Cond.methodLink "HeadCount$World" 69 yO_isTrueOfSum ∈ lw_tbl := List.mem_append_right _ (List.mem_of_getElem? (i := 501) (by decide +kernel))
theorem kl_O_75 : Cond.methodLink "HeadCount$World" 75 yO_value ∈ lw_tbl := List.mem_append_right _ (List.mem_of_getElem? (i := 471) (by decide +kernel))
theorem kl_O_78 : Cond.methodLink "HeadCount$World" 78 yO_elements ∈ lw_tbl := List.mem_append_right _ (List.mem_of_getElem? (i := 489) (by decide +kernel))
theorem kl_O_85 : Cond.methodLink "HeadCount$World" 85 yO_amount ∈ lw_tbl := List.mem_append_right _ (List.mem_of_getElem? (i := 505) (by decide +kernel))
theorem kl_O_88 : Cond.methodLink "HeadCount$World" 88 yI_bitCount ∈ lw_tbl := List.mem_append_right _ (List.mem_of_getElem? (i := 509) (by decide +kernel))
theorem kl_O_93 : Cond.methodLink "HeadCount$World" 93 yO_union ∈ lw_tbl := List.mem_append_right _ (List.mem_of_getElem? (i := 493) (by decide +kernel))
theorem kl_O_96 : Cond.methodLink "HeadCount$World" 96 yO_meet ∈ lw_tbl := List.mem_append_right _ (List.mem_of_getElem? (i := 497) (by decide +kernel))
theorem kl_L_7 : Cond.methodLink "HeadCountLaw" 7 yH_read ∈ lw_tbl := List.mem_append_right _ (List.mem_of_getElem? (i := 135) (by decide +kernel))
theorem kl_L_15 : Cond.methodLink "HeadCountLaw" 15 yH_holds ∈ lw_tbl := List.mem_append_right _ (List.mem_of_getElem? (i := 417) (by decide +kernel))
theorem kl_L_21 : Cond.methodLink "HeadCountLaw" 21 yH_fails ∈ lw_tbl := List.mem_append_right _ (List.mem_of_getElem? (i := 519) (by decide +kernel))
theorem kl_L_24 : Cond.methodLink "HeadCountLaw" 24 yH_ways ∈ lw_tbl := List.mem_append_right _ (List.mem_of_getElem? (i := 526) (by decide +kernel))
theorem kl_L_28 : Cond.methodLink "HeadCountLaw" 28 yH_init ∈ lw_tbl := List.mem_append_right _ (List.mem_of_getElem? (i := 20) (by decide +kernel))
theorem kl_L_31 : Cond.methodLink "HeadCountLaw" 31 yM_init ∈ lw_tbl := List.mem_append_right _ (List.mem_of_getElem? (i := 532) (by decide +kernel))
theorem kl_L_34 : Cond.methodLink "HeadCountLaw" 34 yH_write ∈ lw_tbl := List.mem_append_right _ (List.mem_of_getElem? (i := 112) (by decide +kernel))
theorem kl_L_38 : Cond.methodLink "HeadCountLaw" 38 yM_write ∈ lw_tbl := List.mem_append_right _ (List.mem_of_getElem? (i := 664) (by decide +kernel))
theorem kl_L_39 : Cond.methodLink "HeadCountLaw" 39 yH_wipe ∈ lw_tbl := List.mem_append_right _ (List.mem_of_getElem? (i := 123) (by decide +kernel))
theorem kl_L_42 : Cond.methodLink "HeadCountLaw" 42 yM_wipe ∈ lw_tbl := List.mem_append_right _ (List.mem_of_getElem? (i := 669) (by decide +kernel))
theorem kl_L_43 : Cond.methodLink "HeadCountLaw" 43 yL_read ∈ lw_tbl := List.mem_append_right _ (List.mem_of_getElem? (i := 131) (by decide +kernel))
theorem kl_L_48 : Cond.methodLink "HeadCountLaw" 48 yM_read ∈ lw_tbl := List.mem_append_right _ (List.mem_of_getElem? (i := 677) (by decide +kernel))
theorem kl_L_49 : Cond.methodLink "HeadCountLaw" 49 yM_thrown ∈ lw_tbl := List.mem_append_right _ (List.mem_of_getElem? (i := 660) (by decide +kernel))
theorem kl_L_52 : Cond.methodLink "HeadCountLaw" 52 yL_holds ∈ lw_tbl := List.mem_append_right _ (List.mem_of_getElem? (i := 413) (by decide +kernel))
theorem kl_L_55 : Cond.methodLink "HeadCountLaw" 55 yM_holds ∈ lw_tbl := List.mem_append_right _ (List.mem_of_getElem? (i := 771) (by decide +kernel))
theorem kl_L_56 : Cond.methodLink "HeadCountLaw" 56 yL_fails ∈ lw_tbl := List.mem_append_right _ (List.mem_of_getElem? (i := 516) (by decide +kernel))
theorem kl_L_58 : Cond.methodLink "HeadCountLaw" 58 yM_fails ∈ lw_tbl := List.mem_append_right _ (List.mem_of_getElem? (i := 809) (by decide +kernel))
theorem kl_L_59 : Cond.methodLink "HeadCountLaw" 59 yL_ways ∈ lw_tbl := List.mem_append_right _ (List.mem_of_getElem? (i := 523) (by decide +kernel))
theorem kl_L_61 : Cond.methodLink "HeadCountLaw" 61 yM_ways ∈ lw_tbl := List.mem_append_right _ (List.mem_of_getElem? (i := 813) (by decide +kernel))
theorem kl_L_62 : Cond.methodLink "HeadCountLaw" 62 yH_length ∈ lw_tbl := List.mem_append_right _ (List.mem_of_getElem? (i := 127) (by decide +kernel))
theorem kl_L_65 : Cond.methodLink "HeadCountLaw" 65 yM_length ∈ lw_tbl := List.mem_append_right _ (List.mem_of_getElem? (i := 673) (by decide +kernel))
theorem kl_M_78 : Cond.methodLink "HeadCountModel" 78 yM_push ∈ lw_tbl := List.mem_append_right _ (List.mem_of_getElem? (i := 697) (by decide +kernel))
theorem kl_M_82 : Cond.methodLink "HeadCountModel" 82 yM_upper ∈ lw_tbl := List.mem_append_right _ (List.mem_of_getElem? (i := 735) (by decide +kernel))
theorem kl_M_86 : Cond.methodLink "HeadCountModel" 86 yM_emit ∈ lw_tbl := List.mem_append_right _ (List.mem_of_getElem? (i := 719) (by decide +kernel))
theorem kl_M_90 : Cond.methodLink "HeadCountModel" 90 yM_deeper ∈ lw_tbl := List.mem_append_right _ (List.mem_of_getElem? (i := 693) (by decide +kernel))
theorem kl_M_104 : Cond.methodLink "HeadCountModel" 104 yM_sum ∈ lw_tbl := List.mem_append_right _ (List.mem_of_getElem? (i := 701) (by decide +kernel))
theorem kl_M_108 : Cond.methodLink "HeadCountModel" 108 yM_variableOf ∈ lw_tbl := List.mem_append_right _ (List.mem_of_getElem? (i := 716) (by decide +kernel))
theorem kl_M_111 : Cond.methodLink "HeadCountModel" 111 yM_close ∈ lw_tbl := List.mem_append_right _ (List.mem_of_getElem? (i := 739) (by decide +kernel))
theorem kl_M_114 : Cond.methodLink "HeadCountModel" 114 yM_settle ∈ lw_tbl := List.mem_append_right _ (List.mem_of_getElem? (i := 731) (by decide +kernel))
theorem kl_M_117 : Cond.methodLink "HeadCountModel" 117 yM_wholeOne ∈ lw_tbl := List.mem_append_right _ (List.mem_of_getElem? (i := 743) (by decide +kernel))
theorem kl_M_129 : Cond.methodLink "HeadCountModel" 129 yM_part ∈ lw_tbl := List.mem_append_right _ (List.mem_of_getElem? (i := 705) (by decide +kernel))
theorem kl_M_135 : Cond.methodLink "HeadCountModel" 135 yM_isDigit ∈ lw_tbl := List.mem_append_right _ (List.mem_of_getElem? (i := 709) (by decide +kernel))
theorem kl_M_145 : Cond.methodLink "HeadCountModel" 145 yM_thing ∈ lw_tbl := List.mem_append_right _ (List.mem_of_getElem? (i := 712) (by decide +kernel))
theorem kl_M_154 : Cond.methodLink "HeadCountModel" 154 yM_wholePart ∈ lw_tbl := List.mem_append_right _ (List.mem_of_getElem? (i := 723) (by decide +kernel))
theorem kl_M_157 : Cond.methodLink "HeadCountModel" 157 yM_afterPart ∈ lw_tbl := List.mem_append_right _ (List.mem_of_getElem? (i := 755) (by decide +kernel))
theorem kl_M_160 : Cond.methodLink "HeadCountModel" 160 yM_afterOne ∈ lw_tbl := List.mem_append_right _ (List.mem_of_getElem? (i := 727) (by decide +kernel))
theorem kl_M_163 : Cond.methodLink "HeadCountModel" 163 yM_wholeSingle ∈ lw_tbl := List.mem_append_right _ (List.mem_of_getElem? (i := 763) (by decide +kernel))
theorem kl_M_169 : Cond.methodLink "HeadCountModel" 169 yM_one ∈ lw_tbl := List.mem_append_right _ (List.mem_of_getElem? (i := 689) (by decide +kernel))
theorem kl_M_172 : Cond.methodLink "HeadCountModel" 172 yM_bound ∈ lw_tbl := List.mem_append_right _ (List.mem_of_getElem? (i := 747) (by decide +kernel))
theorem kl_M_175 : Cond.methodLink "HeadCountModel" 175 yM_afterNumber ∈ lw_tbl := List.mem_append_right _ (List.mem_of_getElem? (i := 751) (by decide +kernel))
theorem kl_M_178 : Cond.methodLink "HeadCountModel" 178 yM_single ∈ lw_tbl := List.mem_append_right _ (List.mem_of_getElem? (i := 759) (by decide +kernel))
theorem kl_M_181 : Cond.methodLink "HeadCountModel" 181 yM_afterSingle ∈ lw_tbl := List.mem_append_right _ (List.mem_of_getElem? (i := 767) (by decide +kernel))
theorem kl_M_187 : Cond.methodLink "HeadCountModel" 187 yM_next ∈ lw_tbl := List.mem_append_right _ (List.mem_of_getElem? (i := 685) (by decide +kernel))
theorem kl_M_190 : Cond.methodLink "HeadCountModel" 190 yM_isSentence ∈ lw_tbl := List.mem_append_right _ (List.mem_of_getElem? (i := 681) (by decide +kernel))
theorem kl_M_209 : Cond.methodLink "HeadCountModel" 209 yM_pop ∈ lw_tbl := List.mem_append_right _ (List.mem_of_getElem? (i := 782) (by decide +kernel))
theorem kl_M_212 : Cond.methodLink "HeadCountModel" 212 yM_count ∈ lw_tbl := List.mem_append_right _ (List.mem_of_getElem? (i := 802) (by decide +kernel))
theorem kl_M_219 : Cond.methodLink "HeadCountModel" 219 yM_put ∈ lw_tbl := List.mem_append_right _ (List.mem_of_getElem? (i := 794) (by decide +kernel))
theorem kl_M_225 : Cond.methodLink "HeadCountModel" 225 yM_lastOf ∈ lw_tbl := List.mem_append_right _ (List.mem_of_getElem? (i := 790) (by decide +kernel))
theorem kl_M_228 : Cond.methodLink "HeadCountModel" 228 yM_ends ∈ lw_tbl := List.mem_append_right _ (List.mem_of_getElem? (i := 786) (by decide +kernel))
theorem kl_M_232 : Cond.methodLink "HeadCountModel" 232 yM_doSum ∈ lw_tbl := List.mem_append_right _ (List.mem_of_getElem? (i := 798) (by decide +kernel))
theorem kl_M_235 : Cond.methodLink "HeadCountModel" 235 yM_doOther ∈ lw_tbl := List.mem_append_right _ (List.mem_of_getElem? (i := 805) (by decide +kernel))
theorem kl_M_238 : Cond.methodLink "HeadCountModel" 238 yM_isSize ∈ lw_tbl := List.mem_append_right _ (List.mem_of_getElem? (i := 775) (by decide +kernel))
theorem kl_M_241 : Cond.methodLink "HeadCountModel" 241 yM_run ∈ lw_tbl := List.mem_append_right _ (List.mem_of_getElem? (i := 778) (by decide +kernel))
theorem kl_M_245 : Cond.methodLink "HeadCountModel" 245 yM_isLoop ∈ lw_tbl := List.mem_append_right _ (List.mem_of_getElem? (i := 817) (by decide +kernel))
theorem kl_S_335 : Cond.methodLink "java/lang/String" 335 yS_coder ∈ lw_tbl := List.mem_append_right _ (List.mem_of_getElem? (i := 37) (by decide +kernel))
theorem kl_S_492 : Cond.methodLink "java/lang/String" 492 yS_isLatin1 ∈ lw_tbl := List.mem_append_right _ (List.mem_of_getElem? (i := 293) (by decide +kernel))
theorem kl_S_505 : Cond.methodLink "java/lang/String" 505 yS_length ∈ lw_tbl := List.mem_append_right _ (List.mem_of_getElem? (i := 297) (by decide +kernel))
theorem kl_S_633 : Cond.methodLink "java/lang/String" 633 yS_indexOf2 ∈ lw_tbl := List.mem_append_right _ (List.mem_of_getElem? (i := 289) (by decide +kernel))
theorem kl_S_637 : Cond.methodLink "java/lang/String" 637 yT_indexOf ∈ lw_tbl := List.mem_append_right _ (List.mem_of_getElem? (i := 298) (by decide +kernel))
theorem kl_T_88 : Cond.methodLink "java/lang/StringLatin1" 88 yT_canEncode ∈ lw_tbl := List.mem_append_right _ (List.mem_of_getElem? (i := 301) (by decide +kernel))
theorem kl_T_95 : Cond.methodLink "java/lang/StringLatin1" 95 yT_indexOfChar ∈ lw_tbl := List.mem_append_right _ (List.mem_of_getElem? (i := 310) (by decide +kernel))
theorem kl_H_1 : Cond.methodLink "HeadCount" 1 objectInit ∈ lw_tbl := List.mem_append_right _ (List.mem_of_getElem? (i := 23) (by decide +kernel))
theorem kl_N_1 : Cond.methodLink "HeadCount$Node" 1 objectInit ∈ lw_tbl := List.mem_append_right _ (List.mem_of_getElem? (i := 248) (by decide +kernel))
theorem kl_P_3 : Cond.methodLink "HeadCount$Parser" 3 objectInit ∈ lw_tbl := List.mem_append_right _ (List.mem_of_getElem? (i := 31) (by decide +kernel))
theorem kl_O_3 : Cond.methodLink "HeadCount$World" 3 objectInit ∈ lw_tbl := List.mem_append_right _ (List.mem_of_getElem? (i := 79) (by decide +kernel))
theorem kl_M_1 : Cond.methodLink "HeadCountModel" 1 objectInit ∈ lw_tbl := List.mem_append_right _ (List.mem_of_getElem? (i := 535) (by decide +kernel))
theorem oi1 : Cond.instanceMethod objectInit ∈ lw_tbl := List.mem_append_right _ (List.mem_of_getElem? (i := 24) (by decide +kernel))
theorem oi2 : Cond.code objectInit ⟨#[0xb1]⟩ 1 none ∈ lw_tbl := List.mem_append_right _ (List.mem_of_getElem? (i := 25) (by decide +kernel))
theorem xi_1 : Cond.instantiable "java/lang/IllegalArgumentException" 6 ∈ lw_tbl := List.mem_append_right _ (List.mem_of_getElem? (i := 163) (by decide +kernel))
theorem xz_1 : Cond.initialized "java/lang/IllegalArgumentException" ∈ lw_tbl := List.mem_append_right _ (List.mem_of_getElem? (i := 9) (by decide +kernel))
theorem xi_2 : Cond.instantiable "java/lang/IllegalStateException" 6 ∈ lw_tbl := List.mem_append_right _ (List.mem_of_getElem? (i := 426) (by decide +kernel))
theorem xz_2 : Cond.initialized "java/lang/IllegalStateException" ∈ lw_tbl := List.mem_append_right _ (List.mem_of_getElem? (i := 16) (by decide +kernel))
theorem km_max : Cond.static Lib.Math.max.name ∈ lw_tbl ∧ Cond.code Lib.Math.max.name Lib.Math.max.code 2 (some .int) ∈ lw_tbl := ⟨List.mem_append_right _ (List.mem_of_getElem? (i := 305) (by decide +kernel)), List.mem_append_right _ (List.mem_of_getElem? (i := 306) (by decide +kernel))⟩
theorem km_min : Cond.static Lib.Math.min.name ∈ lw_tbl ∧ Cond.code Lib.Math.min.name Lib.Math.min.code 2 (some .int) ∈ lw_tbl := ⟨List.mem_append_right _ (List.mem_of_getElem? (i := 308) (by decide +kernel)), List.mem_append_right _ (List.mem_of_getElem? (i := 309) (by decide +kernel))⟩
theorem km_ini : Cond.initialized "java/lang/Math" ∈ lw_tbl := List.mem_append_right _ (List.mem_of_getElem? (i := 12) (by decide +kernel))
theorem kl_T_38 : Cond.methodLink "java/lang/StringLatin1" 38 Lib.Math.min.name ∈ lw_tbl := List.mem_append_right _ (List.mem_of_getElem? (i := 307) (by decide +kernel))
theorem kl_T_92 : Cond.methodLink "java/lang/StringLatin1" 92 Lib.Math.max.name ∈ lw_tbl := List.mem_append_right _ (List.mem_of_getElem? (i := 304) (by decide +kernel))
theorem kq_I_265 : Cond.constant "java/lang/Integer" 265 1431655765 ∈ lw_tbl := List.mem_append_right _ (List.mem_of_getElem? (i := 512) (by decide +kernel))
theorem kq_I_266 : Cond.constant "java/lang/Integer" 266 858993459 ∈ lw_tbl := List.mem_append_right _ (List.mem_of_getElem? (i := 513) (by decide +kernel))
theorem kq_I_267 : Cond.constant "java/lang/Integer" 267 252645135 ∈ lw_tbl := List.mem_append_right _ (List.mem_of_getElem? (i := 514) (by decide +kernel))
theorem kq_L_32 : Cond.constantLong "HeadCountLaw" 32 4294967295 ∈ lw_tbl := List.mem_append_right _ (List.mem_of_getElem? (i := 821) (by decide +kernel))
theorem kq_M_64 : Cond.constantLong "HeadCountModel" 64 255 ∈ lw_tbl := List.mem_append_right _ (List.mem_of_getElem? (i := 668) (by decide +kernel))
theorem kc_H_17 : Cond.classLink "HeadCount" 17 "HeadCount$Parser" ∈ lw_tbl := List.mem_append_right _ (List.mem_of_getElem? (i := 26) (by decide +kernel))
theorem kc_H_24 : Cond.classLink "HeadCount" 24 "HeadCount$World" ∈ lw_tbl := List.mem_append_right _ (List.mem_of_getElem? (i := 74) (by decide +kernel))
theorem kc_H_68 : Cond.classLink "HeadCount" 68 "java/lang/IllegalStateException" ∈ lw_tbl := List.mem_append_right _ (List.mem_of_getElem? (i := 425) (by decide +kernel))
theorem kc_H_75 : Cond.classLink "HeadCount" 75 "java/lang/IllegalArgumentException" ∈ lw_tbl := List.mem_append_right _ (List.mem_of_getElem? (i := 444) (by decide +kernel))
theorem kc_P_27 : Cond.classLink "HeadCount$Parser" 27 "HeadCount$Node" ∈ lw_tbl := List.mem_append_right _ (List.mem_of_getElem? (i := 43) (by decide +kernel))
theorem kc_P_152 : Cond.classLink "HeadCount$Parser" 152 "java/lang/IllegalArgumentException" ∈ lw_tbl := List.mem_append_right _ (List.mem_of_getElem? (i := 162) (by decide +kernel))
theorem kc_L_8 : Cond.classLink "HeadCountLaw" 8 "HeadCount" ∈ lw_tbl := List.mem_append_right _ (List.mem_of_getElem? (i := 18) (by decide +kernel))
theorem kc_L_13 : Cond.classLink "HeadCountLaw" 13 "java/lang/IllegalArgumentException" ∈ lw_tbl := List.mem_append_right _ (List.mem_of_getElem? (i := 134) (by decide +kernel))
theorem kc_L_19 : Cond.classLink "HeadCountLaw" 19 "java/lang/IllegalStateException" ∈ lw_tbl := List.mem_append_right _ (List.mem_of_getElem? (i := 416) (by decide +kernel))
theorem kc_L_29 : Cond.classLink "HeadCountLaw" 29 "HeadCountModel" ∈ lw_tbl := List.mem_append_right _ (List.mem_of_getElem? (i := 530) (by decide +kernel))
end
section
theorem mfH_init : MN yH_init bH_init 1 0 := ⟨List.mem_append_right _ (List.mem_of_getElem? (i := 21) (by decide +kernel)), rfl, List.mem_append_right _ (List.mem_of_getElem? (i := 22) (by decide +kernel)), by decide, ⟨by decide, by decide⟩, by decide, by decide +kernel⟩
theorem mfP_init : MN yP_init bP_init 1 0 := ⟨List.mem_append_right _ (List.mem_of_getElem? (i := 29) (by decide +kernel)), rfl, List.mem_append_right _ (List.mem_of_getElem? (i := 30) (by decide +kernel)), by decide, ⟨by decide, by decide⟩, by decide, by decide +kernel⟩
theorem mfS_length : MV yS_length bS_length 1 0 (some .int) := ⟨List.mem_append_right _ (List.mem_of_getElem? (i := 34) (by decide +kernel)), List.mem_append_right _ (List.mem_of_getElem? (i := 35) (by decide +kernel)), List.mem_append_right _ (List.mem_of_getElem? (i := 36) (by decide +kernel)), by decide, ⟨by decide, by decide⟩, by decide, by decide +kernel⟩
theorem mfS_coder : MV yS_coder bS_coder 1 0 (some .byte) := ⟨List.mem_append_right _ (List.mem_of_getElem? (i := 38) (by decide +kernel)), List.mem_append_right _ (List.mem_of_getElem? (i := 39) (by decide +kernel)), List.mem_append_right _ (List.mem_of_getElem? (i := 40) (by decide +kernel)), by decide, ⟨by decide, by decide⟩, by decide, by decide +kernel⟩
theorem mfO_init : MN yO_init bO_init 1 0 := ⟨List.mem_append_right _ (List.mem_of_getElem? (i := 77) (by decide +kernel)), rfl, List.mem_append_right _ (List.mem_of_getElem? (i := 78) (by decide +kernel)), by decide, ⟨by decide, by decide⟩, by decide, by decide +kernel⟩
theorem mfH_write : MV yH_write bH_write 6 1 (some .boolean) := ⟨List.mem_append_right _ (List.mem_of_getElem? (i := 113) (by decide +kernel)), List.mem_append_right _ (List.mem_of_getElem? (i := 114) (by decide +kernel)), List.mem_append_right _ (List.mem_of_getElem? (i := 115) (by decide +kernel)), by decide, ⟨by decide, by decide⟩, by decide, by decide +kernel⟩
theorem mfH_byteAt : MS yH_byteAt bH_byteAt 3 2 (some .int) := ⟨List.mem_append_right _ (List.mem_of_getElem? (i := 117) (by decide +kernel)), List.mem_append_right _ (List.mem_of_getElem? (i := 1) (by decide +kernel)), List.mem_append_right _ (List.mem_of_getElem? (i := 118) (by decide +kernel)), by decide, ⟨by decide, by decide⟩, by decide, by decide +kernel⟩
theorem mfH_append : MV yH_append bH_append 2 1 none := ⟨List.mem_append_right _ (List.mem_of_getElem? (i := 121) (by decide +kernel)), List.mem_append_left _ (List.mem_of_getElem? (i := 0) (by decide +kernel)), List.mem_append_right _ (List.mem_of_getElem? (i := 122) (by decide +kernel)), by decide, ⟨by decide, by decide⟩, by decide, by decide +kernel⟩
theorem mfH_wipe : MV yH_wipe bH_wipe 2 0 (some .int) := ⟨List.mem_append_right _ (List.mem_of_getElem? (i := 124) (by decide +kernel)), List.mem_append_right _ (List.mem_of_getElem? (i := 125) (by decide +kernel)), List.mem_append_right _ (List.mem_of_getElem? (i := 126) (by decide +kernel)), by decide, ⟨by decide, by decide⟩, by decide, by decide +kernel⟩
theorem mfH_length : MV yH_length bH_length 1 0 (some .int) := ⟨List.mem_append_right _ (List.mem_of_getElem? (i := 128) (by decide +kernel)), List.mem_append_right _ (List.mem_of_getElem? (i := 129) (by decide +kernel)), List.mem_append_right _ (List.mem_of_getElem? (i := 130) (by decide +kernel)), by decide, ⟨by decide, by decide⟩, by decide, by decide +kernel⟩
theorem mfH_read : MV yH_read bH_read 2 0 (some .int) := ⟨List.mem_append_right _ (List.mem_of_getElem? (i := 136) (by decide +kernel)), List.mem_append_right _ (List.mem_of_getElem? (i := 137) (by decide +kernel)), List.mem_append_right _ (List.mem_of_getElem? (i := 138) (by decide +kernel)), by decide, ⟨by decide, by decide⟩, by decide, by decide +kernel⟩
theorem mfP_parse : MV yP_parse bP_parse 5 2 (some (.object "HeadCount$Node")) := ⟨List.mem_append_right _ (List.mem_of_getElem? (i := 140) (by decide +kernel)), List.mem_append_right _ (List.mem_of_getElem? (i := 141) (by decide +kernel)), List.mem_append_right _ (List.mem_of_getElem? (i := 142) (by decide +kernel)), by decide, ⟨by decide, by decide⟩, by decide, by decide +kernel⟩
theorem mfP_start : MV yP_start bP_start 4 2 none := ⟨List.mem_append_right _ (List.mem_of_getElem? (i := 145) (by decide +kernel)), List.mem_append_left _ (List.mem_of_getElem? (i := 1) (by decide +kernel)), List.mem_append_right _ (List.mem_of_getElem? (i := 146) (by decide +kernel)), by decide, ⟨by decide, by decide⟩, by decide, by decide +kernel⟩
theorem mfP_row : MV yP_row bP_row 7 2 (some (.object "HeadCount$Node")) := ⟨List.mem_append_right _ (List.mem_of_getElem? (i := 149) (by decide +kernel)), List.mem_append_left _ (List.mem_of_getElem? (i := 2) (by decide +kernel)), List.mem_append_right _ (List.mem_of_getElem? (i := 150) (by decide +kernel)), by decide, ⟨by decide, by decide⟩, by decide, by decide +kernel⟩
theorem mfP_item : MV yP_item bP_item 3 2 (some (.object "HeadCount$Node")) := ⟨List.mem_append_right _ (List.mem_of_getElem? (i := 153) (by decide +kernel)), List.mem_append_left _ (List.mem_of_getElem? (i := 3) (by decide +kernel)), List.mem_append_right _ (List.mem_of_getElem? (i := 154) (by decide +kernel)), by decide, ⟨by decide, by decide⟩, by decide, by decide +kernel⟩
theorem mfP_one : MV yP_one bP_one 2 1 (some (.object "HeadCount$Node")) := ⟨List.mem_append_right _ (List.mem_of_getElem? (i := 157) (by decide +kernel)), List.mem_append_left _ (List.mem_of_getElem? (i := 4) (by decide +kernel)), List.mem_append_right _ (List.mem_of_getElem? (i := 158) (by decide +kernel)), by decide, ⟨by decide, by decide⟩, by decide, by decide +kernel⟩
theorem mfP_insist : MS yP_insist bP_insist 1 1 none := ⟨List.mem_append_right _ (List.mem_of_getElem? (i := 160) (by decide +kernel)), List.mem_append_right _ (List.mem_of_getElem? (i := 2) (by decide +kernel)), List.mem_append_right _ (List.mem_of_getElem? (i := 161) (by decide +kernel)), by decide, ⟨by decide, by decide⟩, by decide, by decide +kernel⟩
theorem mfP_peek : MV yP_peek bP_peek 1 0 (some .char) := ⟨List.mem_append_right _ (List.mem_of_getElem? (i := 230) (by decide +kernel)), List.mem_append_left _ (List.mem_of_getElem? (i := 6) (by decide +kernel)), List.mem_append_right _ (List.mem_of_getElem? (i := 231) (by decide +kernel)), by decide, ⟨by decide, by decide⟩, by decide, by decide +kernel⟩
theorem mfP_not : MV yP_not bP_not 3 1 (some (.object "HeadCount$Node")) := ⟨List.mem_append_right _ (List.mem_of_getElem? (i := 234) (by decide +kernel)), List.mem_append_left _ (List.mem_of_getElem? (i := 7) (by decide +kernel)), List.mem_append_right _ (List.mem_of_getElem? (i := 235) (by decide +kernel)), by decide, ⟨by decide, by decide⟩, by decide, by decide +kernel⟩
theorem mfP_next : MV yP_next bP_next 2 0 (some .char) := ⟨List.mem_append_right _ (List.mem_of_getElem? (i := 238) (by decide +kernel)), List.mem_append_left _ (List.mem_of_getElem? (i := 8) (by decide +kernel)), List.mem_append_right _ (List.mem_of_getElem? (i := 239) (by decide +kernel)), by decide, ⟨by decide, by decide⟩, by decide, by decide +kernel⟩
theorem mfP_make : MV yP_make bP_make 3 1 (some (.object "HeadCount$Node")) := ⟨List.mem_append_right _ (List.mem_of_getElem? (i := 242) (by decide +kernel)), List.mem_append_left _ (List.mem_of_getElem? (i := 9) (by decide +kernel)), List.mem_append_right _ (List.mem_of_getElem? (i := 243) (by decide +kernel)), by decide, ⟨by decide, by decide⟩, by decide, by decide +kernel⟩
theorem mfN_init : MN yN_init bN_init 1 0 := ⟨List.mem_append_right _ (List.mem_of_getElem? (i := 246) (by decide +kernel)), rfl, List.mem_append_right _ (List.mem_of_getElem? (i := 247) (by decide +kernel)), by decide, ⟨by decide, by decide⟩, by decide, by decide +kernel⟩
theorem mfN_reset : MV yN_reset bN_reset 2 1 none := ⟨List.mem_append_right _ (List.mem_of_getElem? (i := 278) (by decide +kernel)), List.mem_append_right _ (List.mem_of_getElem? (i := 279) (by decide +kernel)), List.mem_append_right _ (List.mem_of_getElem? (i := 280) (by decide +kernel)), by decide, ⟨by decide, by decide⟩, by decide, by decide +kernel⟩
theorem mfP_quantified : MV yP_quantified bP_quantified 5 1 (some (.object "HeadCount$Node")) := ⟨List.mem_append_right _ (List.mem_of_getElem? (i := 283) (by decide +kernel)), List.mem_append_left _ (List.mem_of_getElem? (i := 10) (by decide +kernel)), List.mem_append_right _ (List.mem_of_getElem? (i := 284) (by decide +kernel)), by decide, ⟨by decide, by decide⟩, by decide, by decide +kernel⟩
theorem mfS_indexOf : MV yS_indexOf bS_indexOf 2 1 (some .int) := ⟨List.mem_append_right _ (List.mem_of_getElem? (i := 286) (by decide +kernel)), List.mem_append_right _ (List.mem_of_getElem? (i := 287) (by decide +kernel)), List.mem_append_right _ (List.mem_of_getElem? (i := 288) (by decide +kernel)), by decide, ⟨by decide, by decide⟩, by decide, by decide +kernel⟩
theorem mfS_indexOf2 : MV yS_indexOf2 bS_indexOf2 3 2 (some .int) := ⟨List.mem_append_right _ (List.mem_of_getElem? (i := 290) (by decide +kernel)), List.mem_append_right _ (List.mem_of_getElem? (i := 291) (by decide +kernel)), List.mem_append_right _ (List.mem_of_getElem? (i := 292) (by decide +kernel)), by decide, ⟨by decide, by decide⟩, by decide, by decide +kernel⟩
theorem mfS_isLatin1 : MV yS_isLatin1 bS_isLatin1 1 0 (some .boolean) := ⟨List.mem_append_right _ (List.mem_of_getElem? (i := 294) (by decide +kernel)), List.mem_append_right _ (List.mem_of_getElem? (i := 295) (by decide +kernel)), List.mem_append_right _ (List.mem_of_getElem? (i := 296) (by decide +kernel)), by decide, ⟨by decide, by decide⟩, by decide, by decide +kernel⟩
theorem mfT_indexOf : MS yT_indexOf bT_indexOf 4 4 (some .int) := ⟨List.mem_append_right _ (List.mem_of_getElem? (i := 299) (by decide +kernel)), List.mem_append_right _ (List.mem_of_getElem? (i := 11) (by decide +kernel)), List.mem_append_right _ (List.mem_of_getElem? (i := 300) (by decide +kernel)), by decide, ⟨by decide, by decide⟩, by decide, by decide +kernel⟩
theorem mfT_canEncode : MS yT_canEncode bT_canEncode 1 1 (some .boolean) := ⟨List.mem_append_right _ (List.mem_of_getElem? (i := 302) (by decide +kernel)), List.mem_append_right _ (List.mem_of_getElem? (i := 11) (by decide +kernel)), List.mem_append_right _ (List.mem_of_getElem? (i := 303) (by decide +kernel)), by decide, ⟨by decide, by decide⟩, by decide, by decide +kernel⟩
theorem mfT_indexOfChar : MS yT_indexOfChar bT_indexOfChar 6 4 (some .int) := ⟨List.mem_append_right _ (List.mem_of_getElem? (i := 311) (by decide +kernel)), List.mem_append_right _ (List.mem_of_getElem? (i := 11) (by decide +kernel)), List.mem_append_right _ (List.mem_of_getElem? (i := 312) (by decide +kernel)), by decide, ⟨by decide, by decide⟩, by decide, by decide +kernel⟩
theorem mfP_bracketed : MV yP_bracketed bP_bracketed 3 1 (some (.object "HeadCount$Node")) := ⟨List.mem_append_right _ (List.mem_of_getElem? (i := 364) (by decide +kernel)), List.mem_append_left _ (List.mem_of_getElem? (i := 11) (by decide +kernel)), List.mem_append_right _ (List.mem_of_getElem? (i := 365) (by decide +kernel)), by decide, ⟨by decide, by decide⟩, by decide, by decide +kernel⟩
theorem mfP_take : MV yP_take bP_take 3 1 (some .boolean) := ⟨List.mem_append_right _ (List.mem_of_getElem? (i := 368) (by decide +kernel)), List.mem_append_left _ (List.mem_of_getElem? (i := 12) (by decide +kernel)), List.mem_append_right _ (List.mem_of_getElem? (i := 369) (by decide +kernel)), by decide, ⟨by decide, by decide⟩, by decide, by decide +kernel⟩
theorem mfP_comparisonOfSets : MV yP_comparisonOfSets bP_comparisonOfSets 5 1 (some (.object "HeadCount$Node")) := ⟨List.mem_append_right _ (List.mem_of_getElem? (i := 372) (by decide +kernel)), List.mem_append_left _ (List.mem_of_getElem? (i := 13) (by decide +kernel)), List.mem_append_right _ (List.mem_of_getElem? (i := 373) (by decide +kernel)), by decide, ⟨by decide, by decide⟩, by decide, by decide +kernel⟩
theorem mfP_startsWithDivisor : MV yP_startsWithDivisor bP_startsWithDivisor 3 0 (some .boolean) := ⟨List.mem_append_right _ (List.mem_of_getElem? (i := 376) (by decide +kernel)), List.mem_append_left _ (List.mem_of_getElem? (i := 14) (by decide +kernel)), List.mem_append_right _ (List.mem_of_getElem? (i := 377) (by decide +kernel)), by decide, ⟨by decide, by decide⟩, by decide, by decide +kernel⟩
theorem mfP_isDecimal : MS yP_isDecimal bP_isDecimal 1 1 (some .boolean) := ⟨List.mem_append_right _ (List.mem_of_getElem? (i := 379) (by decide +kernel)), List.mem_append_right _ (List.mem_of_getElem? (i := 2) (by decide +kernel)), List.mem_append_right _ (List.mem_of_getElem? (i := 380) (by decide +kernel)), by decide, ⟨by decide, by decide⟩, by decide, by decide +kernel⟩
theorem mfP_number : MV yP_number bP_number 3 0 (some .int) := ⟨List.mem_append_right _ (List.mem_of_getElem? (i := 383) (by decide +kernel)), List.mem_append_left _ (List.mem_of_getElem? (i := 15) (by decide +kernel)), List.mem_append_right _ (List.mem_of_getElem? (i := 384) (by decide +kernel)), by decide, ⟨by decide, by decide⟩, by decide, by decide +kernel⟩
theorem mfP_divided : MV yP_divided bP_divided 4 1 (some (.object "HeadCount$Node")) := ⟨List.mem_append_right _ (List.mem_of_getElem? (i := 387) (by decide +kernel)), List.mem_append_left _ (List.mem_of_getElem? (i := 16) (by decide +kernel)), List.mem_append_right _ (List.mem_of_getElem? (i := 388) (by decide +kernel)), by decide, ⟨by decide, by decide⟩, by decide, by decide +kernel⟩
theorem mfP_addSum : MV yP_addSum bP_addSum 5 3 none := ⟨List.mem_append_right _ (List.mem_of_getElem? (i := 391) (by decide +kernel)), List.mem_append_left _ (List.mem_of_getElem? (i := 17) (by decide +kernel)), List.mem_append_right _ (List.mem_of_getElem? (i := 392) (by decide +kernel)), by decide, ⟨by decide, by decide⟩, by decide, by decide +kernel⟩
theorem mfP_addPart : MV yP_addPart bP_addPart 7 3 none := ⟨List.mem_append_right _ (List.mem_of_getElem? (i := 395) (by decide +kernel)), List.mem_append_left _ (List.mem_of_getElem? (i := 18) (by decide +kernel)), List.mem_append_right _ (List.mem_of_getElem? (i := 396) (by decide +kernel)), by decide, ⟨by decide, by decide⟩, by decide, by decide +kernel⟩
theorem mfP_thing : MV yP_thing bP_thing 4 1 (some (.object "HeadCount$Node")) := ⟨List.mem_append_right _ (List.mem_of_getElem? (i := 399) (by decide +kernel)), List.mem_append_left _ (List.mem_of_getElem? (i := 19) (by decide +kernel)), List.mem_append_right _ (List.mem_of_getElem? (i := 400) (by decide +kernel)), by decide, ⟨by decide, by decide⟩, by decide, by decide +kernel⟩
theorem mfP_single : MV yP_single bP_single 4 1 (some (.object "HeadCount$Node")) := ⟨List.mem_append_right _ (List.mem_of_getElem? (i := 403) (by decide +kernel)), List.mem_append_left _ (List.mem_of_getElem? (i := 20) (by decide +kernel)), List.mem_append_right _ (List.mem_of_getElem? (i := 404) (by decide +kernel)), by decide, ⟨by decide, by decide⟩, by decide, by decide +kernel⟩
theorem mfP_boundVariable : MV yP_boundVariable bP_boundVariable 3 1 (some .int) := ⟨List.mem_append_right _ (List.mem_of_getElem? (i := 407) (by decide +kernel)), List.mem_append_left _ (List.mem_of_getElem? (i := 21) (by decide +kernel)), List.mem_append_right _ (List.mem_of_getElem? (i := 408) (by decide +kernel)), by decide, ⟨by decide, by decide⟩, by decide, by decide +kernel⟩
theorem mfP_comparisonOfSums : MV yP_comparisonOfSums bP_comparisonOfSums 3 1 (some (.object "HeadCount$Node")) := ⟨List.mem_append_right _ (List.mem_of_getElem? (i := 411) (by decide +kernel)), List.mem_append_left _ (List.mem_of_getElem? (i := 22) (by decide +kernel)), List.mem_append_right _ (List.mem_of_getElem? (i := 412) (by decide +kernel)), by decide, ⟨by decide, by decide⟩, by decide, by decide +kernel⟩
theorem mfH_holds : MV yH_holds bH_holds 2 1 (some .boolean) := ⟨List.mem_append_right _ (List.mem_of_getElem? (i := 418) (by decide +kernel)), List.mem_append_right _ (List.mem_of_getElem? (i := 419) (by decide +kernel)), List.mem_append_right _ (List.mem_of_getElem? (i := 420) (by decide +kernel)), by decide, ⟨by decide, by decide⟩, by decide, by decide +kernel⟩
theorem mfH_needSentence : MV yH_needSentence bH_needSentence 1 0 none := ⟨List.mem_append_right _ (List.mem_of_getElem? (i := 423) (by decide +kernel)), List.mem_append_left _ (List.mem_of_getElem? (i := 23) (by decide +kernel)), List.mem_append_right _ (List.mem_of_getElem? (i := 424) (by decide +kernel)), by decide, ⟨by decide, by decide⟩, by decide, by decide +kernel⟩
theorem mfH_needWorld : MS yH_needWorld bH_needWorld 1 1 none := ⟨List.mem_append_right _ (List.mem_of_getElem? (i := 442) (by decide +kernel)), List.mem_append_right _ (List.mem_of_getElem? (i := 1) (by decide +kernel)), List.mem_append_right _ (List.mem_of_getElem? (i := 443) (by decide +kernel)), by decide, ⟨by decide, by decide⟩, by decide, by decide +kernel⟩
theorem mfH_isTrueIn : MV yH_isTrueIn bH_isTrueIn 3 1 (some .boolean) := ⟨List.mem_append_right _ (List.mem_of_getElem? (i := 449) (by decide +kernel)), List.mem_append_left _ (List.mem_of_getElem? (i := 24) (by decide +kernel)), List.mem_append_right _ (List.mem_of_getElem? (i := 450) (by decide +kernel)), by decide, ⟨by decide, by decide⟩, by decide, by decide +kernel⟩
theorem mfH_waysIn : MV yH_waysIn bH_waysIn 2 1 (some .int) := ⟨List.mem_append_right _ (List.mem_of_getElem? (i := 453) (by decide +kernel)), List.mem_append_left _ (List.mem_of_getElem? (i := 25) (by decide +kernel)), List.mem_append_right _ (List.mem_of_getElem? (i := 454) (by decide +kernel)), by decide, ⟨by decide, by decide⟩, by decide, by decide +kernel⟩
theorem mfO_count : MV yO_count bO_count 7 2 (some .int) := ⟨List.mem_append_right _ (List.mem_of_getElem? (i := 456) (by decide +kernel)), List.mem_append_right _ (List.mem_of_getElem? (i := 457) (by decide +kernel)), List.mem_append_right _ (List.mem_of_getElem? (i := 458) (by decide +kernel)), by decide, ⟨by decide, by decide⟩, by decide, by decide +kernel⟩
theorem mfO_isTrue : MV yO_isTrue bO_isTrue 2 1 (some .boolean) := ⟨List.mem_append_right _ (List.mem_of_getElem? (i := 461) (by decide +kernel)), List.mem_append_left _ (List.mem_of_getElem? (i := 26) (by decide +kernel)), List.mem_append_right _ (List.mem_of_getElem? (i := 462) (by decide +kernel)), by decide, ⟨by decide, by decide⟩, by decide, by decide +kernel⟩
theorem mfO_anyIs : MV yO_anyIs bO_anyIs 4 2 (some .boolean) := ⟨List.mem_append_right _ (List.mem_of_getElem? (i := 465) (by decide +kernel)), List.mem_append_left _ (List.mem_of_getElem? (i := 27) (by decide +kernel)), List.mem_append_right _ (List.mem_of_getElem? (i := 466) (by decide +kernel)), by decide, ⟨by decide, by decide⟩, by decide, by decide +kernel⟩
theorem mfO_anyChoiceMakes : MV yO_anyChoiceMakes bO_anyChoiceMakes 9 2 (some .boolean) := ⟨List.mem_append_right _ (List.mem_of_getElem? (i := 469) (by decide +kernel)), List.mem_append_left _ (List.mem_of_getElem? (i := 28) (by decide +kernel)), List.mem_append_right _ (List.mem_of_getElem? (i := 470) (by decide +kernel)), by decide, ⟨by decide, by decide⟩, by decide, by decide +kernel⟩
theorem mfO_value : MV yO_value bO_value 2 1 (some .int) := ⟨List.mem_append_right _ (List.mem_of_getElem? (i := 473) (by decide +kernel)), List.mem_append_left _ (List.mem_of_getElem? (i := 29) (by decide +kernel)), List.mem_append_right _ (List.mem_of_getElem? (i := 474) (by decide +kernel)), by decide, ⟨by decide, by decide⟩, by decide, by decide +kernel⟩
theorem mfO_firstChoice : MS yO_firstChoice bO_firstChoice 1 1 (some .int) := ⟨List.mem_append_right _ (List.mem_of_getElem? (i := 476) (by decide +kernel)), List.mem_append_right _ (List.mem_of_getElem? (i := 4) (by decide +kernel)), List.mem_append_right _ (List.mem_of_getElem? (i := 477) (by decide +kernel)), by decide, ⟨by decide, by decide⟩, by decide, by decide +kernel⟩
theorem mfO_choices : MS yO_choices bO_choices 2 2 (some .int) := ⟨List.mem_append_right _ (List.mem_of_getElem? (i := 479) (by decide +kernel)), List.mem_append_right _ (List.mem_of_getElem? (i := 4) (by decide +kernel)), List.mem_append_right _ (List.mem_of_getElem? (i := 480) (by decide +kernel)), by decide, ⟨by decide, by decide⟩, by decide, by decide +kernel⟩
theorem mfO_bind : MV yO_bind bO_bind 3 2 none := ⟨List.mem_append_right _ (List.mem_of_getElem? (i := 483) (by decide +kernel)), List.mem_append_left _ (List.mem_of_getElem? (i := 30) (by decide +kernel)), List.mem_append_right _ (List.mem_of_getElem? (i := 484) (by decide +kernel)), by decide, ⟨by decide, by decide⟩, by decide, by decide +kernel⟩
theorem mfO_isTrueOfSets : MV yO_isTrueOfSets bO_isTrueOfSets 5 1 (some .boolean) := ⟨List.mem_append_right _ (List.mem_of_getElem? (i := 487) (by decide +kernel)), List.mem_append_left _ (List.mem_of_getElem? (i := 31) (by decide +kernel)), List.mem_append_right _ (List.mem_of_getElem? (i := 488) (by decide +kernel)), by decide, ⟨by decide, by decide⟩, by decide, by decide +kernel⟩
theorem mfO_elements : MV yO_elements bO_elements 2 1 (some .int) := ⟨List.mem_append_right _ (List.mem_of_getElem? (i := 491) (by decide +kernel)), List.mem_append_left _ (List.mem_of_getElem? (i := 32) (by decide +kernel)), List.mem_append_right _ (List.mem_of_getElem? (i := 492) (by decide +kernel)), by decide, ⟨by decide, by decide⟩, by decide, by decide +kernel⟩
theorem mfO_union : MV yO_union bO_union 4 1 (some .int) := ⟨List.mem_append_right _ (List.mem_of_getElem? (i := 495) (by decide +kernel)), List.mem_append_left _ (List.mem_of_getElem? (i := 33) (by decide +kernel)), List.mem_append_right _ (List.mem_of_getElem? (i := 496) (by decide +kernel)), by decide, ⟨by decide, by decide⟩, by decide, by decide +kernel⟩
theorem mfO_meet : MV yO_meet bO_meet 4 1 (some .int) := ⟨List.mem_append_right _ (List.mem_of_getElem? (i := 499) (by decide +kernel)), List.mem_append_left _ (List.mem_of_getElem? (i := 34) (by decide +kernel)), List.mem_append_right _ (List.mem_of_getElem? (i := 500) (by decide +kernel)), by decide, ⟨by decide, by decide⟩, by decide, by decide +kernel⟩
theorem mfO_isTrueOfSum : MV yO_isTrueOfSum bO_isTrueOfSum 4 1 (some .boolean) := ⟨List.mem_append_right _ (List.mem_of_getElem? (i := 503) (by decide +kernel)), List.mem_append_left _ (List.mem_of_getElem? (i := 35) (by decide +kernel)), List.mem_append_right _ (List.mem_of_getElem? (i := 504) (by decide +kernel)), by decide, ⟨by decide, by decide⟩, by decide, by decide +kernel⟩
theorem mfO_amount : MV yO_amount bO_amount 2 1 (some .int) := ⟨List.mem_append_right _ (List.mem_of_getElem? (i := 507) (by decide +kernel)), List.mem_append_left _ (List.mem_of_getElem? (i := 36) (by decide +kernel)), List.mem_append_right _ (List.mem_of_getElem? (i := 508) (by decide +kernel)), by decide, ⟨by decide, by decide⟩, by decide, by decide +kernel⟩
theorem mfI_bitCount : MS yI_bitCount bI_bitCount 1 1 (some .int) := ⟨List.mem_append_right _ (List.mem_of_getElem? (i := 510) (by decide +kernel)), List.mem_append_right _ (List.mem_of_getElem? (i := 17) (by decide +kernel)), List.mem_append_right _ (List.mem_of_getElem? (i := 511) (by decide +kernel)), by decide, ⟨by decide, by decide⟩, by decide, by decide +kernel⟩
theorem mfH_fails : MV yH_fails bH_fails 2 0 (some .int) := ⟨List.mem_append_right _ (List.mem_of_getElem? (i := 520) (by decide +kernel)), List.mem_append_right _ (List.mem_of_getElem? (i := 521) (by decide +kernel)), List.mem_append_right _ (List.mem_of_getElem? (i := 522) (by decide +kernel)), by decide, ⟨by decide, by decide⟩, by decide, by decide +kernel⟩
theorem mfH_ways : MV yH_ways bH_ways 2 1 (some .int) := ⟨List.mem_append_right _ (List.mem_of_getElem? (i := 527) (by decide +kernel)), List.mem_append_right _ (List.mem_of_getElem? (i := 528) (by decide +kernel)), List.mem_append_right _ (List.mem_of_getElem? (i := 529) (by decide +kernel)), by decide, ⟨by decide, by decide⟩, by decide, by decide +kernel⟩
theorem mfM_init : MN yM_init bM_init 1 0 := ⟨List.mem_append_right _ (List.mem_of_getElem? (i := 533) (by decide +kernel)), rfl, List.mem_append_right _ (List.mem_of_getElem? (i := 534) (by decide +kernel)), by decide, ⟨by decide, by decide⟩, by decide, by decide +kernel⟩
theorem mfM_thrown : MV yM_thrown bM_thrown 1 0 (some .int) := ⟨List.mem_append_right _ (List.mem_of_getElem? (i := 661) (by decide +kernel)), List.mem_append_right _ (List.mem_of_getElem? (i := 662) (by decide +kernel)), List.mem_append_right _ (List.mem_of_getElem? (i := 663) (by decide +kernel)), by decide, ⟨by decide, by decide⟩, by decide, by decide +kernel⟩
theorem mfM_write : MV yM_write bM_write 6 1 (some .boolean) := ⟨List.mem_append_right _ (List.mem_of_getElem? (i := 665) (by decide +kernel)), List.mem_append_right _ (List.mem_of_getElem? (i := 666) (by decide +kernel)), List.mem_append_right _ (List.mem_of_getElem? (i := 667) (by decide +kernel)), by decide, ⟨by decide, by decide⟩, by decide, by decide +kernel⟩
theorem mfM_wipe : MV yM_wipe bM_wipe 2 0 (some .int) := ⟨List.mem_append_right _ (List.mem_of_getElem? (i := 670) (by decide +kernel)), List.mem_append_right _ (List.mem_of_getElem? (i := 671) (by decide +kernel)), List.mem_append_right _ (List.mem_of_getElem? (i := 672) (by decide +kernel)), by decide, ⟨by decide, by decide⟩, by decide, by decide +kernel⟩
theorem mfM_length : MV yM_length bM_length 1 0 (some .int) := ⟨List.mem_append_right _ (List.mem_of_getElem? (i := 674) (by decide +kernel)), List.mem_append_right _ (List.mem_of_getElem? (i := 675) (by decide +kernel)), List.mem_append_right _ (List.mem_of_getElem? (i := 676) (by decide +kernel)), by decide, ⟨by decide, by decide⟩, by decide, by decide +kernel⟩
theorem mfM_read : MV yM_read bM_read 3 0 (some .int) := ⟨List.mem_append_right _ (List.mem_of_getElem? (i := 678) (by decide +kernel)), List.mem_append_right _ (List.mem_of_getElem? (i := 679) (by decide +kernel)), List.mem_append_right _ (List.mem_of_getElem? (i := 680) (by decide +kernel)), by decide, ⟨by decide, by decide⟩, by decide, by decide +kernel⟩
theorem mfM_isSentence : MV yM_isSentence bM_isSentence 4 0 (some .boolean) := ⟨List.mem_append_right _ (List.mem_of_getElem? (i := 683) (by decide +kernel)), List.mem_append_left _ (List.mem_of_getElem? (i := 37) (by decide +kernel)), List.mem_append_right _ (List.mem_of_getElem? (i := 684) (by decide +kernel)), by decide, ⟨by decide, by decide⟩, by decide, by decide +kernel⟩
theorem mfM_next : MV yM_next bM_next 2 1 (some .int) := ⟨List.mem_append_right _ (List.mem_of_getElem? (i := 687) (by decide +kernel)), List.mem_append_left _ (List.mem_of_getElem? (i := 38) (by decide +kernel)), List.mem_append_right _ (List.mem_of_getElem? (i := 688) (by decide +kernel)), by decide, ⟨by decide, by decide⟩, by decide, by decide +kernel⟩
theorem mfM_one : MV yM_one bM_one 2 1 (some .int) := ⟨List.mem_append_right _ (List.mem_of_getElem? (i := 691) (by decide +kernel)), List.mem_append_left _ (List.mem_of_getElem? (i := 39) (by decide +kernel)), List.mem_append_right _ (List.mem_of_getElem? (i := 692) (by decide +kernel)), by decide, ⟨by decide, by decide⟩, by decide, by decide +kernel⟩
theorem mfM_deeper : MV yM_deeper bM_deeper 2 1 (some .boolean) := ⟨List.mem_append_right _ (List.mem_of_getElem? (i := 695) (by decide +kernel)), List.mem_append_left _ (List.mem_of_getElem? (i := 40) (by decide +kernel)), List.mem_append_right _ (List.mem_of_getElem? (i := 696) (by decide +kernel)), by decide, ⟨by decide, by decide⟩, by decide, by decide +kernel⟩
theorem mfM_push : MV yM_push bM_push 2 1 none := ⟨List.mem_append_right _ (List.mem_of_getElem? (i := 699) (by decide +kernel)), List.mem_append_left _ (List.mem_of_getElem? (i := 41) (by decide +kernel)), List.mem_append_right _ (List.mem_of_getElem? (i := 700) (by decide +kernel)), by decide, ⟨by decide, by decide⟩, by decide, by decide +kernel⟩
theorem mfM_sum : MV yM_sum bM_sum 2 1 (some .int) := ⟨List.mem_append_right _ (List.mem_of_getElem? (i := 703) (by decide +kernel)), List.mem_append_left _ (List.mem_of_getElem? (i := 42) (by decide +kernel)), List.mem_append_right _ (List.mem_of_getElem? (i := 704) (by decide +kernel)), by decide, ⟨by decide, by decide⟩, by decide, by decide +kernel⟩
theorem mfM_part : MV yM_part bM_part 2 1 (some .int) := ⟨List.mem_append_right _ (List.mem_of_getElem? (i := 707) (by decide +kernel)), List.mem_append_left _ (List.mem_of_getElem? (i := 43) (by decide +kernel)), List.mem_append_right _ (List.mem_of_getElem? (i := 708) (by decide +kernel)), by decide, ⟨by decide, by decide⟩, by decide, by decide +kernel⟩
theorem mfM_isDigit : MS yM_isDigit bM_isDigit 1 1 (some .boolean) := ⟨List.mem_append_right _ (List.mem_of_getElem? (i := 710) (by decide +kernel)), List.mem_append_right _ (List.mem_of_getElem? (i := 5) (by decide +kernel)), List.mem_append_right _ (List.mem_of_getElem? (i := 711) (by decide +kernel)), by decide, ⟨by decide, by decide⟩, by decide, by decide +kernel⟩
theorem mfM_thing : MV yM_thing bM_thing 3 1 (some .int) := ⟨List.mem_append_right _ (List.mem_of_getElem? (i := 714) (by decide +kernel)), List.mem_append_left _ (List.mem_of_getElem? (i := 44) (by decide +kernel)), List.mem_append_right _ (List.mem_of_getElem? (i := 715) (by decide +kernel)), by decide, ⟨by decide, by decide⟩, by decide, by decide +kernel⟩
theorem mfM_variableOf : MS yM_variableOf bM_variableOf 1 1 (some .int) := ⟨List.mem_append_right _ (List.mem_of_getElem? (i := 717) (by decide +kernel)), List.mem_append_right _ (List.mem_of_getElem? (i := 5) (by decide +kernel)), List.mem_append_right _ (List.mem_of_getElem? (i := 718) (by decide +kernel)), by decide, ⟨by decide, by decide⟩, by decide, by decide +kernel⟩
theorem mfM_emit : MV yM_emit bM_emit 3 2 none := ⟨List.mem_append_right _ (List.mem_of_getElem? (i := 721) (by decide +kernel)), List.mem_append_left _ (List.mem_of_getElem? (i := 45) (by decide +kernel)), List.mem_append_right _ (List.mem_of_getElem? (i := 722) (by decide +kernel)), by decide, ⟨by decide, by decide⟩, by decide, by decide +kernel⟩
theorem mfM_wholePart : MV yM_wholePart bM_wholePart 1 0 none := ⟨List.mem_append_right _ (List.mem_of_getElem? (i := 725) (by decide +kernel)), List.mem_append_left _ (List.mem_of_getElem? (i := 46) (by decide +kernel)), List.mem_append_right _ (List.mem_of_getElem? (i := 726) (by decide +kernel)), by decide, ⟨by decide, by decide⟩, by decide, by decide +kernel⟩
theorem mfM_afterOne : MV yM_afterOne bM_afterOne 2 1 (some .int) := ⟨List.mem_append_right _ (List.mem_of_getElem? (i := 729) (by decide +kernel)), List.mem_append_left _ (List.mem_of_getElem? (i := 47) (by decide +kernel)), List.mem_append_right _ (List.mem_of_getElem? (i := 730) (by decide +kernel)), by decide, ⟨by decide, by decide⟩, by decide, by decide +kernel⟩
theorem mfM_settle : MV yM_settle bM_settle 3 2 none := ⟨List.mem_append_right _ (List.mem_of_getElem? (i := 733) (by decide +kernel)), List.mem_append_left _ (List.mem_of_getElem? (i := 48) (by decide +kernel)), List.mem_append_right _ (List.mem_of_getElem? (i := 734) (by decide +kernel)), by decide, ⟨by decide, by decide⟩, by decide, by decide +kernel⟩
theorem mfM_upper : MV yM_upper bM_upper 1 0 (some .int) := ⟨List.mem_append_right _ (List.mem_of_getElem? (i := 737) (by decide +kernel)), List.mem_append_left _ (List.mem_of_getElem? (i := 49) (by decide +kernel)), List.mem_append_right _ (List.mem_of_getElem? (i := 738) (by decide +kernel)), by decide, ⟨by decide, by decide⟩, by decide, by decide +kernel⟩
theorem mfM_close : MV yM_close bM_close 1 0 none := ⟨List.mem_append_right _ (List.mem_of_getElem? (i := 741) (by decide +kernel)), List.mem_append_left _ (List.mem_of_getElem? (i := 50) (by decide +kernel)), List.mem_append_right _ (List.mem_of_getElem? (i := 742) (by decide +kernel)), by decide, ⟨by decide, by decide⟩, by decide, by decide +kernel⟩
theorem mfM_wholeOne : MV yM_wholeOne bM_wholeOne 2 0 (some .int) := ⟨List.mem_append_right _ (List.mem_of_getElem? (i := 745) (by decide +kernel)), List.mem_append_left _ (List.mem_of_getElem? (i := 51) (by decide +kernel)), List.mem_append_right _ (List.mem_of_getElem? (i := 746) (by decide +kernel)), by decide, ⟨by decide, by decide⟩, by decide, by decide +kernel⟩
theorem mfM_bound : MV yM_bound bM_bound 3 1 (some .int) := ⟨List.mem_append_right _ (List.mem_of_getElem? (i := 749) (by decide +kernel)), List.mem_append_left _ (List.mem_of_getElem? (i := 52) (by decide +kernel)), List.mem_append_right _ (List.mem_of_getElem? (i := 750) (by decide +kernel)), by decide, ⟨by decide, by decide⟩, by decide, by decide +kernel⟩
theorem mfM_afterNumber : MV yM_afterNumber bM_afterNumber 2 1 (some .int) := ⟨List.mem_append_right _ (List.mem_of_getElem? (i := 753) (by decide +kernel)), List.mem_append_left _ (List.mem_of_getElem? (i := 53) (by decide +kernel)), List.mem_append_right _ (List.mem_of_getElem? (i := 754) (by decide +kernel)), by decide, ⟨by decide, by decide⟩, by decide, by decide +kernel⟩
theorem mfM_afterPart : MV yM_afterPart bM_afterPart 2 1 (some .int) := ⟨List.mem_append_right _ (List.mem_of_getElem? (i := 757) (by decide +kernel)), List.mem_append_left _ (List.mem_of_getElem? (i := 54) (by decide +kernel)), List.mem_append_right _ (List.mem_of_getElem? (i := 758) (by decide +kernel)), by decide, ⟨by decide, by decide⟩, by decide, by decide +kernel⟩
theorem mfM_single : MV yM_single bM_single 3 1 (some .int) := ⟨List.mem_append_right _ (List.mem_of_getElem? (i := 761) (by decide +kernel)), List.mem_append_left _ (List.mem_of_getElem? (i := 55) (by decide +kernel)), List.mem_append_right _ (List.mem_of_getElem? (i := 762) (by decide +kernel)), by decide, ⟨by decide, by decide⟩, by decide, by decide +kernel⟩
theorem mfM_wholeSingle : MV yM_wholeSingle bM_wholeSingle 1 0 (some .int) := ⟨List.mem_append_right _ (List.mem_of_getElem? (i := 765) (by decide +kernel)), List.mem_append_left _ (List.mem_of_getElem? (i := 56) (by decide +kernel)), List.mem_append_right _ (List.mem_of_getElem? (i := 766) (by decide +kernel)), by decide, ⟨by decide, by decide⟩, by decide, by decide +kernel⟩
theorem mfM_afterSingle : MV yM_afterSingle bM_afterSingle 2 1 (some .int) := ⟨List.mem_append_right _ (List.mem_of_getElem? (i := 769) (by decide +kernel)), List.mem_append_left _ (List.mem_of_getElem? (i := 57) (by decide +kernel)), List.mem_append_right _ (List.mem_of_getElem? (i := 770) (by decide +kernel)), by decide, ⟨by decide, by decide⟩, by decide, by decide +kernel⟩
theorem mfM_holds : MV yM_holds bM_holds 2 1 (some .boolean) := ⟨List.mem_append_right _ (List.mem_of_getElem? (i := 772) (by decide +kernel)), List.mem_append_right _ (List.mem_of_getElem? (i := 773) (by decide +kernel)), List.mem_append_right _ (List.mem_of_getElem? (i := 774) (by decide +kernel)), by decide, ⟨by decide, by decide⟩, by decide, by decide +kernel⟩
theorem mfM_isSize : MS yM_isSize bM_isSize 1 1 (some .boolean) := ⟨List.mem_append_right _ (List.mem_of_getElem? (i := 776) (by decide +kernel)), List.mem_append_right _ (List.mem_of_getElem? (i := 5) (by decide +kernel)), List.mem_append_right _ (List.mem_of_getElem? (i := 777) (by decide +kernel)), by decide, ⟨by decide, by decide⟩, by decide, by decide +kernel⟩
theorem mfM_run : MV yM_run bM_run 8 2 (some .boolean) := ⟨List.mem_append_right _ (List.mem_of_getElem? (i := 780) (by decide +kernel)), List.mem_append_left _ (List.mem_of_getElem? (i := 58) (by decide +kernel)), List.mem_append_right _ (List.mem_of_getElem? (i := 781) (by decide +kernel)), by decide, ⟨by decide, by decide⟩, by decide, by decide +kernel⟩
theorem mfM_pop : MV yM_pop bM_pop 1 0 (some .int) := ⟨List.mem_append_right _ (List.mem_of_getElem? (i := 784) (by decide +kernel)), List.mem_append_left _ (List.mem_of_getElem? (i := 59) (by decide +kernel)), List.mem_append_right _ (List.mem_of_getElem? (i := 785) (by decide +kernel)), by decide, ⟨by decide, by decide⟩, by decide, by decide +kernel⟩
theorem mfM_ends : MV yM_ends bM_ends 5 3 (some .boolean) := ⟨List.mem_append_right _ (List.mem_of_getElem? (i := 788) (by decide +kernel)), List.mem_append_left _ (List.mem_of_getElem? (i := 60) (by decide +kernel)), List.mem_append_right _ (List.mem_of_getElem? (i := 789) (by decide +kernel)), by decide, ⟨by decide, by decide⟩, by decide, by decide +kernel⟩
theorem mfM_lastOf : MV yM_lastOf bM_lastOf 2 1 (some .int) := ⟨List.mem_append_right _ (List.mem_of_getElem? (i := 792) (by decide +kernel)), List.mem_append_left _ (List.mem_of_getElem? (i := 61) (by decide +kernel)), List.mem_append_right _ (List.mem_of_getElem? (i := 793) (by decide +kernel)), by decide, ⟨by decide, by decide⟩, by decide, by decide +kernel⟩
theorem mfM_put : MV yM_put bM_put 2 1 none := ⟨List.mem_append_right _ (List.mem_of_getElem? (i := 796) (by decide +kernel)), List.mem_append_left _ (List.mem_of_getElem? (i := 62) (by decide +kernel)), List.mem_append_right _ (List.mem_of_getElem? (i := 797) (by decide +kernel)), by decide, ⟨by decide, by decide⟩, by decide, by decide +kernel⟩
theorem mfM_doSum : MV yM_doSum bM_doSum 4 2 none := ⟨List.mem_append_right _ (List.mem_of_getElem? (i := 800) (by decide +kernel)), List.mem_append_left _ (List.mem_of_getElem? (i := 63) (by decide +kernel)), List.mem_append_right _ (List.mem_of_getElem? (i := 801) (by decide +kernel)), by decide, ⟨by decide, by decide⟩, by decide, by decide +kernel⟩
theorem mfM_count : MS yM_count bM_count 3 1 (some .int) := ⟨List.mem_append_right _ (List.mem_of_getElem? (i := 803) (by decide +kernel)), List.mem_append_right _ (List.mem_of_getElem? (i := 5) (by decide +kernel)), List.mem_append_right _ (List.mem_of_getElem? (i := 804) (by decide +kernel)), by decide, ⟨by decide, by decide⟩, by decide, by decide +kernel⟩
theorem mfM_doOther : MV yM_doOther bM_doOther 5 1 none := ⟨List.mem_append_right _ (List.mem_of_getElem? (i := 807) (by decide +kernel)), List.mem_append_left _ (List.mem_of_getElem? (i := 64) (by decide +kernel)), List.mem_append_right _ (List.mem_of_getElem? (i := 808) (by decide +kernel)), by decide, ⟨by decide, by decide⟩, by decide, by decide +kernel⟩
theorem mfM_fails : MV yM_fails bM_fails 3 0 (some .int) := ⟨List.mem_append_right _ (List.mem_of_getElem? (i := 810) (by decide +kernel)), List.mem_append_right _ (List.mem_of_getElem? (i := 811) (by decide +kernel)), List.mem_append_right _ (List.mem_of_getElem? (i := 812) (by decide +kernel)), by decide, ⟨by decide, by decide⟩, by decide, by decide +kernel⟩
theorem mfM_ways : MV yM_ways bM_ways 4 1 (some .int) := ⟨List.mem_append_right _ (List.mem_of_getElem? (i := 814) (by decide +kernel)), List.mem_append_right _ (List.mem_of_getElem? (i := 815) (by decide +kernel)), List.mem_append_right _ (List.mem_of_getElem? (i := 816) (by decide +kernel)), by decide, ⟨by decide, by decide⟩, by decide, by decide +kernel⟩
theorem mfM_isLoop : MV yM_isLoop bM_isLoop 1 0 (some .boolean) := ⟨List.mem_append_right _ (List.mem_of_getElem? (i := 819) (by decide +kernel)), List.mem_append_left _ (List.mem_of_getElem? (i := 65) (by decide +kernel)), List.mem_append_right _ (List.mem_of_getElem? (i := 820) (by decide +kernel)), by decide, ⟨by decide, by decide⟩, by decide, by decide +kernel⟩
end
section
/-! what the mirrors of methods are made of, and what their proofs stand on -/
def yL : List MethodName := [yH_init, yP_init, yS_length, yS_coder, yO_init, yH_write, yH_byteAt, yH_append, yH_wipe, yH_length, yH_read, yP_parse, yP_start, yP_row, yP_item, yP_one, yP_insist, yP_peek, yP_not, yP_next, yP_make, yN_init, yN_reset, yP_quantified, yS_indexOf, yS_indexOf2, yS_isLatin1, yT_indexOf, yT_canEncode, yT_indexOfChar, yP_bracketed, yP_take, yP_comparisonOfSets, yP_startsWithDivisor, yP_isDecimal, yP_number, yP_divided, yP_addSum, yP_addPart, yP_thing, yP_single, yP_boundVariable, yP_comparisonOfSums, yH_holds, yH_needSentence, yH_needWorld, yH_isTrueIn, yH_waysIn, yO_count, yO_isTrue, yO_anyIs, yO_anyChoiceMakes, yO_value, yO_firstChoice, yO_choices, yO_bind, yO_isTrueOfSets, yO_elements, yO_union, yO_meet, yO_isTrueOfSum, yO_amount, yI_bitCount, yH_fails, yH_ways, yM_init, yM_thrown, yM_write, yM_wipe, yM_length, yM_read, yM_isSentence, yM_next, yM_one, yM_deeper, yM_push, yM_sum, yM_part, yM_isDigit, yM_thing, yM_variableOf, yM_emit, yM_wholePart, yM_afterOne, yM_settle, yM_upper, yM_close, yM_wholeOne, yM_bound, yM_afterNumber, yM_afterPart, yM_single, yM_wholeSingle, yM_afterSingle, yM_holds, yM_isSize, yM_run, yM_pop, yM_ends, yM_lastOf, yM_put, yM_doSum, yM_count, yM_doOther, yM_fails, yM_ways, yM_isLoop]
abbrev Cx : Type := Nat → List Value → Mem → Rz
def yT (j : Nat) : MethodName := yL.getD j yH_init
/-- what the methods that are called do -/
def CBs (l : Launch) (G : Gx) (d : Nat) (C : Cx) : Prop := ∀ (j : Nat) (as : List Value) (M : Mem) (r : Option Value ⊕ Nat) (M' : Mem), C j as M = some (r, M') → CB l G d (yT j) as M r M'
def FX (p : Program) (s : State) (m : MethodId) (meth : Method) (c : Code) (G : Gx) (R : Room) (M0 : Mem) (d : Nat) (own : String) (bytes : ByteArray) (nL : Nat) (ret : Option FieldType) : Prop :=
  p.tables.exec = Jvm.exec ∧ c.code = bytes ∧ c.maxLocals = nL ∧ s.vm.findClass own = some m.cls ∧ meth.sig.returnType = ret ∧ meth.locks = false ∧ c.exceptionTable.isEmpty = true ∧ Kst G s ∧ RM G R M0 d
theorem fx_of {s : State} {m : MethodId} {meth : Method} {c : Code} {y : MethodName} {bytes : ByteArray} {maxL : Nat} {ret : Option FieldType} (hn : s.methodNamed? y = some m) (hm : s.vm.method? m = some meth) (hc : meth.code = some c) (hw : (Cond.code y bytes maxL ret).before #[] s = true) :
    c.code = bytes ∧ c.maxLocals = maxL ∧ meth.sig.returnType = ret ∧ c.exceptionTable.isEmpty = true ∧ s.vm.findClass y.cls = some m.cls := by
  obtain ⟨meth', c', h1, h2, h3, h4, h5, -, h7, -⟩ := Cond.code_spec hn hw
  cases hm.symm.trans h1
  cases hc.symm.trans h2
  exact ⟨h3, h4, h5, h7, findClass_of_methodNamed hn⟩
theorem cat_i (x : Int32) : (Value.int x).category = 1 := rfl
theorem cat_a (a : Nat) : (Value.ref a).category = 1 := rfl
theorem cat_l (x : Int64) : (Value.long x).category = 2 := rfl
theorem cat_n : Value.null.category = 1 := rfl
def rzM (X : Mem) (k : Mem → Rz) : Rz := k X
theorem rz_m {X : Mem} {k : Mem → Rz} {x : (Option Value ⊕ Nat) × Mem} (h : rzM X k = some x) : ∃ M1, M1 = X ∧ k M1 = some x := ⟨X, rfl, h⟩
theorem rz_t {c : Prop} [Decidable c] {X Y : Rz} {x : (Option Value ⊕ Nat) × Mem} (hc : c) (h : (if c then X else Y) = some x) : X = some x := by rw [if_pos hc] at h; exact h
theorem rz_f {c : Prop} [Decidable c] {X Y : Rz} {x : (Option Value ⊕ Nat) × Mem} (hc : ¬ c) (h : (if c then X else Y) = some x) : Y = some x := by rw [if_neg hc] at h; exact h
theorem rz_n1 {r : Option Nat} {X : Rz} {k : Nat → Rz} {x : (Option Value ⊕ Nat) × Mem} (hr : r = none) (h : rzN r X k = some x) : X = some x := by subst hr; exact h
theorem rz_n2 {r : Option Nat} {a : Nat} {X : Rz} {k : Nat → Rz} {x : (Option Value ⊕ Nat) × Mem} (hr : r = some a) (h : rzN r X k = some x) : k a = some x := by subst hr; exact h
theorem RL.start {G : Gx} {M : Mem} {H : Heap} (hR : Real G M H) (h1 : mC M = gC G) (h2 : mS M ≤ mC M 0) (h3 : mU M ≤ SLm) : RL G M M H [] 0 0 :=
  ⟨hR, fun _ hq => absurd hq List.not_mem_nil, Nat.zero_add _, Nat.zero_add _, h1, h2, h3⟩
theorem kn_keep {G : Gx} {M0 M : Mem} {H : Heap} {locs : List Loc} {cells slots a k kd ln sl : Nat} (hR : RL G M0 M H locs cells slots) (h : mK M a = k) (hk : k ≠ 0) : mK (newC M kd ln sl) a = k := by
  have h1 := (hR.1.2.2.2 a (by rw [h]; exact hk)).2.1
  rw [mK_newC, va_up_ne _ _ (Nat.ne_of_lt h1)]
  exact h
section RowsB
variable {p : Program} {l : Launch} {e : Env} {R : Room} {s : State} {m : MethodId} {args : Array Value} {below : List Frame} {meth : Method} {c : Code} {H : Heap} {locs : List Loc} {cells slots : Nat} {Q : State → Prop}
variable {cc : ByteArray} {pc : Nat} {ls : Array Slot} {rest : List Value} {G : Gx} {M0 M : Mem} {a : Nat}
theorem rt_b (hx : p.tables.exec = Jvm.exec) (hb : c.code = cc) (hlk : meth.locks = false) {v : Int32} (hr : meth.sig.returnType = some .byte) (hn : v.toInt8.toInt32 = v) (hR : RL G M0 M H locs cells slots) (hdg : decode cc pc = .ok (.ireturn, 1)) : W p l e R s m args below meth c H locs cells slots (CQ G below s M0 (.inl (some (.int v))) M) (F0 m pc ls [.int v]) :=
  (W.zret (Qc := fun _ _ o t => o = .returned (some (.int v)) ∧ t.heap = H) (free := fun q => gZ G ≤ q) hx hb hr (by show Value.int v.toInt8.toInt32 = .int v; rw [hn]) (fun t ht _ => ⟨rfl, ht⟩) hR.2.1 hdg hlk).mono (fun _ h => cq_of hR h)
/-- the constructor of a nest mate -/
theorem rc_IN (hx : p.tables.exec = Jvm.exec) (hb : c.code = cc) (hnl : ls.size = c.maxLocals) {own host : String} {index : Nat} (hown : s.vm.findClass own = some m.cls) (hK : Kst G s) (hR : RL G M0 M H locs cells slots) {d : Nat} (hRm : RM G R M0 d) {y : MethodName} {bytes : ByteArray} {maxL n : Nat} (hy : MN y bytes maxL n) (hl : va_Nw (.methodLinkNest own index y host) s) {b : Nat} {As : List Value} (hn : As.length = n) (hcat : (rest.map fun v => v.category).sum ≤ 8) {r : Option Value ⊕ Nat} {M1 : Mem} (hM : CB l G d y (.ref b :: As) M r M1) (hdg : decode cc pc = .ok (.invokespecial index, 3))
    (kr : ∀ (v : Option Value) (H1 : Heap) (locs1 : List Loc) (cells1 slots1 : Nat), r = .inl v → RL G M0 M1 H1 locs1 cells1 slots1 → W p l e R s m args below meth c H1 locs1 cells1 slots1 Q (F0 m (pc + 3) ls (v.toList ++ rest)))
    (kx : ∀ (x : Nat) (q : Addr) (ce : Cell) (H1 : Heap) (locs1 : List Loc) (cells1 slots1 : Nat), r = .inr x → RL G M0 M1 H1 locs1 cells1 slots1 → H1[q]? = some ce → ce.vm = .none → s.vm.findClass (exN x) = some ce.cls → WT p l e R s m args below meth c H1 locs1 cells1 slots1 Q (F0 m pc ls rest) q) :
    W p l e R s m args below meth c H locs cells slots Q (F0 m pc ls (As.reverse ++ .ref b :: rest)) := by
  intro T hT X
  obtain ⟨y1, y2, y3, y4, y5, y6, y7⟩ := hy
  obtain ⟨d1, d2, d3, d4⟩ := hRm
  have hpl : e.platform.magicAccessors = ({} : Platform).magicAccessors := by rw [X.admits.platform]
  obtain ⟨mk, methM, cM, kP, vm₁, hnamed, hmethM, hcM, -, hlM, hlkM, hkP, -, hW₁, hstep₁⟩ := Steps.initColdArgsNest (e := e) X.here hx X.warmed hpl hown y2 y5 (va_Nw.use rfl hl (A := args)) (hK.w y1 rfl args) (hK.w y3 rfl args) (f := F0 m pc ls (As.reverse ++ .ref b :: rest)) rfl (a := b) (argsL := As) (rest := rest) (fun sig h => hn.trans (len_of y7 h)) rfl (by rw [hb]; exact hdg)
  have X₁ := X.noted hW₁
  have hT1 : (T.setVm vm₁).heap = H := hT
  rcases cb_core X₁ hx hT1 (g := F0 m pc ls rest) rfl hnl (by rw [hb]; exact hdg) hnamed hmethM hcM hlkM (by rw [hlM]; exact y4) y6 hK hR (by simpa using hcat) d1 d2 d3 d4 hM with ⟨v, T', L, c1, s1, e1, X', hR1, st⟩ | ⟨x, q, ce, T', L, c1, s1, e1, X', hR1, g1, g2, g3, st⟩
  · obtain ⟨t2, a1, b1⟩ := kr v T'.heap _ _ _ e1 hR1 T' rfl X'
    exact ⟨t2, hstep₁ _ fun acts => by rw [doInvoke_state]; exact st.trans a1, b1⟩
  · obtain ⟨t2, a1, b1⟩ := kx x q ce T'.heap _ _ _ e1 hR1 g1 g2 g3 T' rfl X'
    exact ⟨t2, hstep₁ _ fun acts => by rw [doInvoke_state]; exact st.trans a1, b1⟩
end RowsB
end
section
/-! rows: the text's constant, the library's own, and throwing -/
section RowsS
variable {p : Program} {l : Launch} {e : Env} {R : Room} {s : State} {m : MethodId} {args : Array Value} {below : List Frame} {meth : Method} {c : Code} {H : Heap} {locs : List Loc} {cells slots : Nat} {Q : State → Prop}
variable {cc : ByteArray} {pc : Nat} {ls : Array Slot} {rest : List Value} {G : Gx} {M0 M : Mem} {a : Nat}
theorem old_at (hR : RL G M0 M H locs cells slots) {q : Nat} (h : ¬ gO G q) : H[q]? = (gH G)[q]? := hR.1.2.2.1 q (Nat.not_le.mp h)
theorem rs_recv (hK : Kst G s) (hR : RL G M0 M H locs cells slots) (ha : a = mC M 1) : ∃ cell : Cell, H[a]? = some cell ∧ cell.vm.isStatics = false ∧ s.vm.findClass "java/lang/String" = some cell.cls := by
  obtain ⟨cell, h1, h2, h3, h4⟩ := (hK.2.2.2.2.1.1 0 (by decide)).1
  have hc := hR.2.2.2.2.1
  rw [hc] at ha
  subst ha
  exact ⟨cell, by rw [old_at hR h4]; exact h1, h2, h3⟩
theorem rs_value (hx : p.tables.exec = Jvm.exec) (hb : c.code = cc) {own : String} {index : Nat} (hown : s.vm.findClass own = some m.cls) (hK : Kst G s) (hR : RL G M0 M H locs cells slots) (ha : a = mC M 1) (hl : Cond.fieldLink own index "java/lang/String" "value" "[B" ∈ lw_tbl) (hdg : decode cc pc = .ok (.getfield index, 3))
    (kk : W p l e R s m args below meth c H locs cells slots Q (F0 m (pc + 3) ls (.ref (mC M 5) :: rest))) : W p l e R s m args below meth c H locs cells slots Q (F0 m pc ls (.ref a :: rest)) := by
  obtain ⟨cf, k, fi, f, cell, h1, h2, h3, h4, h5, h6⟩ := (hK.2.2.2.2.1.1 0 (by decide)).2.2.1
  have hc := hR.2.2.2.2.1
  rw [hc] at ha kk
  subst ha
  exact W.getf hx hb hown (hK.w hl rfl args) h1 h2 (by rw [old_at hR h6]; exact h3) h4 h5 rfl rfl hdg kk
theorem rs_coder (hx : p.tables.exec = Jvm.exec) (hb : c.code = cc) {own : String} {index : Nat} (hown : s.vm.findClass own = some m.cls) (hK : Kst G s) (hR : RL G M0 M H locs cells slots) (ha : a = mC M 1) (hl : Cond.fieldLink own index "java/lang/String" "coder" "B" ∈ lw_tbl) (hdg : decode cc pc = .ok (.getfield index, 3))
    (kk : W p l e R s m args below meth c H locs cells slots Q (F0 m (pc + 3) ls (.int 0 :: rest))) : W p l e R s m args below meth c H locs cells slots Q (F0 m pc ls (.ref a :: rest)) := by
  obtain ⟨cf, k, fi, f, cell, h1, h2, h3, h4, h5, h6⟩ := (hK.2.2.2.2.1.1 0 (by decide)).2.1
  have hc := hR.2.2.2.2.1
  rw [hc] at ha
  subst ha
  exact W.getf hx hb hown (hK.w hl rfl args) h1 h2 (by rw [old_at hR h6]; exact h3) h4 h5 rfl rfl hdg kk
theorem rs_compact (hx : p.tables.exec = Jvm.exec) (hb : c.code = cc) {own : String} {index : Nat} (hown : s.vm.findClass own = some m.cls) (hK : Kst G s) (hR : RL G M0 M H locs cells slots) (hl : Cond.fieldLink own index "java/lang/String" "COMPACT_STRINGS" "Z" ∈ lw_tbl) (hdg : decode cc pc = .ok (.getstatic index, 3))
    (kk : W p l e R s m args below meth c H locs cells slots Q (F0 m (pc + 3) ls (.int 1 :: rest))) : W p l e R s m args below meth c H locs cells slots Q (F0 m pc ls rest) := by
  obtain ⟨cf, kf, fi, f, a, cell, h1, h2, h3, h4, h5, h6, h7, h8⟩ := hK.2.2.2.2.2.1
  exact W.gets hx hb hown (hK.w hl rfl args) h1 h2 h3 h4 (by rw [old_at hR h8]; exact h5) (fun e => by rw [e] at h6; cases h6) h7 rfl hdg kk
theorem rs_bald (hx : p.tables.exec = Jvm.exec) (hb : c.code = cc) (hK : Kst G s) (hR : RL G M0 M H locs cells slots) {i : Int32} (ha : a = mC M 5) (hin : inA i 6) (hdg : decode cc pc = .ok (.baload, 1))
    (kk : W p l e R s m args below meth c H locs cells slots Q (F0 m (pc + 1) ls (.int (sVar.getD i.toNatClampNeg 0) :: rest))) : W p l e R s m args below meth c H locs cells slots Q (F0 m pc ls (.int i :: .ref a :: rest)) := by
  obtain ⟨cell, h1, h2, h3, h4, h5, h6, h7⟩ := (hK.2.2.2.2.1.1 0 (by decide)).2.2.2
  have hc := hR.2.2.2.2.1
  rw [hc] at ha
  subst ha
  have hlt : i.toNatClampNeg < 6 := Nat.not_le.mp fun q => hin (Or.inr q)
  have h4' : 6 ≤ cell.slots.size := h4
  exact W.bald hx hb (by rw [old_at hR h7]; exact h1) h2 h3 (fun q => q.elim (fun z => hin (Or.inl z)) (fun z => by omega)) (h6 _ hlt) rfl rfl hdg kk
theorem rs_blen (hx : p.tables.exec = Jvm.exec) (hb : c.code = cc) (hK : Kst G s) (hR : RL G M0 M H locs cells slots) (ha : a = mC M 5) (hdg : decode cc pc = .ok (.arraylength, 1))
    (kk : W p l e R s m args below meth c H locs cells slots Q (F0 m (pc + 1) ls (.int 6 :: rest))) : W p l e R s m args below meth c H locs cells slots Q (F0 m pc ls (.ref a :: rest)) := by
  obtain ⟨cell, h1, h2, h3, h4, h5, h6, h7⟩ := (hK.2.2.2.2.1.1 0 (by decide)).2.2.2
  have hc := hR.2.2.2.2.1
  rw [hc] at ha
  subst ha
  exact W.alen (n := 6) hx hb (by rw [old_at hR h7]; exact h1) h2 h5 rfl rfl hdg kk
theorem rs_max (hx : p.tables.exec = Jvm.exec) (hb : c.code = cc) (hml : c.maxLocals = ls.size) {own : String} {index : Nat} (hown : s.vm.findClass own = some m.cls) (hK : Kst G s) (hR : RL G M0 M H locs cells slots) {d : Nat} (hRm : RM G R M0 d) (hl : Cond.methodLink own index Lib.Math.max.name ∈ lw_tbl) (hcat : (rest.map fun v => v.category).sum ≤ 8) {x y : Int32} (hdg : decode cc pc = .ok (.invokestatic index, 3))
    (kk : W p l e R s m args below meth c H locs cells slots Q (F0 m (pc + 3) ls (.int (if x < y then y else x) :: rest))) : W p l e R s m args below meth c H locs cells slots Q (F0 m pc ls (.int y :: .int x :: rest)) := by
  obtain ⟨d1, d2, d3, d4⟩ := hRm
  obtain ⟨r1, r2, r3, r4, r5, r6, r7⟩ := hR
  rw [r5] at r6
  exact va_mmax hx hb hml hown (hK.w hl rfl args) (hK.w km_max.1 rfl args) (hK.w km_ini rfl args) (hK.w km_max.2 rfl args) (by omega) (by omega) (by omega) (by omega) hdg kk
theorem rs_min (hx : p.tables.exec = Jvm.exec) (hb : c.code = cc) (hml : c.maxLocals = ls.size) {own : String} {index : Nat} (hown : s.vm.findClass own = some m.cls) (hK : Kst G s) (hR : RL G M0 M H locs cells slots) {d : Nat} (hRm : RM G R M0 d) (hl : Cond.methodLink own index Lib.Math.min.name ∈ lw_tbl) (hcat : (rest.map fun v => v.category).sum ≤ 8) {x y : Int32} (hdg : decode cc pc = .ok (.invokestatic index, 3))
    (kk : W p l e R s m args below meth c H locs cells slots Q (F0 m (pc + 3) ls (.int (if y < x then y else x) :: rest))) : W p l e R s m args below meth c H locs cells slots Q (F0 m pc ls (.int y :: .int x :: rest)) := by
  obtain ⟨d1, d2, d3, d4⟩ := hRm
  obtain ⟨r1, r2, r3, r4, r5, r6, r7⟩ := hR
  rw [r5] at r6
  exact va_mmin hx hb hml hown (hK.w hl rfl args) (hK.w km_min.1 rfl args) (hK.w km_ini rfl args) (hK.w km_min.2 rfl args) (by omega) (by omega) (by omega) (by omega) hdg kk
theorem rc_VS (hx : p.tables.exec = Jvm.exec) (hb : c.code = cc) (hnl : ls.size = c.maxLocals) {own : String} {index : Nat} (hown : s.vm.findClass own = some m.cls) (hK : Kst G s) (hR : RL G M0 M H locs cells slots) {d : Nat} (hRm : RM G R M0 d) {y : MethodName} {bytes : ByteArray} {maxL n : Nat} {ret : Option FieldType} (hy : MV y bytes maxL n ret) (hl : Cond.methodLink own index y ∈ lw_tbl) (hcy : y.cls = "java/lang/String") {b : Nat} {As : List Value} (hn : As.length = n) (hbs : b = mC M 1) (hcat : (rest.map fun v => v.category).sum ≤ 8) {r : Option Value ⊕ Nat} {M1 : Mem} (hM : CB l G d y (.ref b :: As) M r M1) (hdg : decode cc pc = .ok (.invokevirtual index, 3))
    (kr : ∀ (v : Option Value) (H1 : Heap) (locs1 : List Loc) (cells1 slots1 : Nat), r = .inl v → RL G M0 M1 H1 locs1 cells1 slots1 → W p l e R s m args below meth c H1 locs1 cells1 slots1 Q (F0 m (pc + 3) ls (v.toList ++ rest)))
    (kx : ∀ (x : Nat) (q : Addr) (ce : Cell) (H1 : Heap) (locs1 : List Loc) (cells1 slots1 : Nat), r = .inr x → RL G M0 M1 H1 locs1 cells1 slots1 → H1[q]? = some ce → ce.vm = .none → s.vm.findClass (exN x) = some ce.cls → WT p l e R s m args below meth c H1 locs1 cells1 slots1 Q (F0 m pc ls rest) q) :
    W p l e R s m args below meth c H locs cells slots Q (F0 m pc ls (As.reverse ++ .ref b :: rest)) := by
  intro T hT X
  obtain ⟨y1, y2, y3, y4, y5, y6, y7⟩ := hy
  obtain ⟨d1, d2, d3, d4⟩ := hRm
  obtain ⟨cellB, b1, b3, b2⟩ := rs_recv hK hR hbs
  have hcls : s.vm.findClass y.cls = some cellB.cls := by rw [hcy]; exact b2
  obtain ⟨mk, methM, hnamed, hmethM, hstM, habM⟩ := Cond.instanceMethod_spec (hK.w y1 rfl args)
  obtain ⟨methM', cM, hmethM', hcM, -, hlM, -, hlkM, -, hsigM⟩ := Cond.code_spec hnamed (hK.w y3 rfl args)
  cases hmethM.symm.trans hmethM'
  obtain ⟨c2, r2, m2, q1, q2, q3, q4, kP, hkP, hkPi⟩ := Cond.selects_spec (hK.w y2 rfl args)
  cases hcls.symm.trans q1
  cases (State.methodFound?_of_named hnamed y5).symm.trans q2
  cases hnamed.symm.trans q3
  have hselP : selectMethod e.platform s.vm cellB.cls mk = .method mk := by rw [Launch.admits_selectMethod X.admits]; exact q4
  obtain ⟨vm₁, X₁, hstep₁⟩ := X.invokevirtual hx hown (hK.w hl rfl args) hnamed hmethM hstM hkP hkPi y5 (a := b) (cell := cellB) (by rw [hT]; exact b1)
    (fun z h => by rw [h] at b3; cases b3) hselP hmethM habM hkP hkPi (g := F0 m pc ls (As.reverse ++ .ref b :: rest)) rfl (argsL := As) (rest := rest) (hn.trans (len_of y7 hsigM)) rfl (by rw [hb]; exact hdg)
  have hT1 : (T.setVm vm₁).heap = H := hT
  rcases cb_core X₁ hx hT1 (g := F0 m pc ls rest) rfl hnl (by rw [hb]; exact hdg) hnamed hmethM hcM hlkM (by rw [hlM]; exact y4) y6 hK hR (by simpa using hcat) d1 d2 d3 d4 hM with ⟨v, T', L, c1, s1, e1, X', hR1, st⟩ | ⟨x, q, ce, T', L, c1, s1, e1, X', hR1, g1, g2, g3, st⟩
  · obtain ⟨t2, a1, b1⟩ := kr v T'.heap _ _ _ e1 hR1 T' rfl X'
    exact ⟨t2, hstep₁ _ fun acts => by rw [doInvoke_state]; exact st.trans a1, b1⟩
  · obtain ⟨t2, a1, b1⟩ := kx x q ce T'.heap _ _ _ e1 hR1 g1 g2 g3 T' rfl X'
    exact ⟨t2, hstep₁ _ fun acts => by rw [doInvoke_state]; exact st.trans a1, b1⟩
end RowsS
/-! what is thrown: the words of it -/
def xN4 : List Cond := [.isRef (.static "java/lang/Throwable" "UNASSIGNED_STACK" "[Ljava/lang/StackTraceElement;"), .isRef (.static "java/lang/Throwable" "SUPPRESSED_SENTINEL" "Ljava/util/List;"), .laysStatic "java/lang/Throwable" "UNASSIGNED_STACK" "[Ljava/lang/StackTraceElement;", .laysStatic "java/lang/Throwable" "SUPPRESSED_SENTINEL" "Ljava/util/List;"]
def xNm : List String := ["java/lang/RuntimeException", "java/lang/Exception"]
def xOk (own : String) (ic : Nat) (X : String) : Bool := (Bundle.ownAtoms own ic X xNm).all (fun w => (decide (w ∈ lw_tbl) && goodWord w) || decide (w ∈ xN4))
theorem xw_P_156 : xOk "HeadCount$Parser" 156 "java/lang/IllegalArgumentException" = true := by decide +kernel
theorem xw_H_72 : xOk "HeadCount" 72 "java/lang/IllegalStateException" = true := by decide +kernel
theorem xw_H_79 : xOk "HeadCount" 79 "java/lang/IllegalArgumentException" = true := by decide +kernel
end
