section
-- ===== PART A: goes FIRST, ahead of the names: the tables' words, and 'selects' of the private methods out of them =====
/-- a private method of a class that the tables say can be made, by its rows of tables_1 -/
def lw_okq (q : MethodName × Nat) : Prop := (q.1.cls ≠ "java/lang/invoke/MethodHandle" ∧ q.1.cls ≠ "java/lang/invoke/VarHandle") ∧ Cond.instantiable q.1.cls q.2 ∈ tables_1 ∧ Cond.privateMethod q.1 ∈ tables_1 ∧ Cond.instanceMethod q.1 ∈ tables_1
theorem lw_p0 : lw_okq (⟨"HeadCount", "append", "(I)V"⟩, 6) := ⟨⟨by decide +kernel, by decide +kernel⟩, List.mem_of_getElem? (i := 19) (by decide +kernel), List.mem_of_getElem? (i := 120) (by decide +kernel), List.mem_of_getElem? (i := 121) (by decide +kernel)⟩
theorem lw_p1 : lw_okq (⟨"HeadCount$Parser", "start", "([CI)V"⟩, 8) := ⟨⟨by decide +kernel, by decide +kernel⟩, List.mem_of_getElem? (i := 27) (by decide +kernel), List.mem_of_getElem? (i := 144) (by decide +kernel), List.mem_of_getElem? (i := 145) (by decide +kernel)⟩
theorem lw_p2 : lw_okq (⟨"HeadCount$Parser", "row", "(CI)LHeadCount$Node;"⟩, 8) := ⟨⟨by decide +kernel, by decide +kernel⟩, List.mem_of_getElem? (i := 27) (by decide +kernel), List.mem_of_getElem? (i := 148) (by decide +kernel), List.mem_of_getElem? (i := 149) (by decide +kernel)⟩
theorem lw_p3 : lw_okq (⟨"HeadCount$Parser", "item", "(CI)LHeadCount$Node;"⟩, 8) := ⟨⟨by decide +kernel, by decide +kernel⟩, List.mem_of_getElem? (i := 27) (by decide +kernel), List.mem_of_getElem? (i := 152) (by decide +kernel), List.mem_of_getElem? (i := 153) (by decide +kernel)⟩
theorem lw_p4 : lw_okq (⟨"HeadCount$Parser", "one", "(I)LHeadCount$Node;"⟩, 8) := ⟨⟨by decide +kernel, by decide +kernel⟩, List.mem_of_getElem? (i := 27) (by decide +kernel), List.mem_of_getElem? (i := 156) (by decide +kernel), List.mem_of_getElem? (i := 157) (by decide +kernel)⟩
theorem lw_p5 : lw_okq (⟨"java/lang/Throwable", "fillInStackTrace", "(I)Ljava/lang/Throwable;"⟩, 6) := ⟨⟨by decide +kernel, by decide +kernel⟩, List.mem_of_getElem? (i := 200) (by decide +kernel), List.mem_of_getElem? (i := 198) (by decide +kernel), List.mem_of_getElem? (i := 199) (by decide +kernel)⟩
theorem lw_p6 : lw_okq (⟨"HeadCount$Parser", "peek", "()C"⟩, 8) := ⟨⟨by decide +kernel, by decide +kernel⟩, List.mem_of_getElem? (i := 27) (by decide +kernel), List.mem_of_getElem? (i := 229) (by decide +kernel), List.mem_of_getElem? (i := 230) (by decide +kernel)⟩
theorem lw_p7 : lw_okq (⟨"HeadCount$Parser", "not", "(I)LHeadCount$Node;"⟩, 8) := ⟨⟨by decide +kernel, by decide +kernel⟩, List.mem_of_getElem? (i := 27) (by decide +kernel), List.mem_of_getElem? (i := 233) (by decide +kernel), List.mem_of_getElem? (i := 234) (by decide +kernel)⟩
theorem lw_p8 : lw_okq (⟨"HeadCount$Parser", "next", "()C"⟩, 8) := ⟨⟨by decide +kernel, by decide +kernel⟩, List.mem_of_getElem? (i := 27) (by decide +kernel), List.mem_of_getElem? (i := 237) (by decide +kernel), List.mem_of_getElem? (i := 238) (by decide +kernel)⟩
theorem lw_p9 : lw_okq (⟨"HeadCount$Parser", "make", "(C)LHeadCount$Node;"⟩, 8) := ⟨⟨by decide +kernel, by decide +kernel⟩, List.mem_of_getElem? (i := 27) (by decide +kernel), List.mem_of_getElem? (i := 241) (by decide +kernel), List.mem_of_getElem? (i := 242) (by decide +kernel)⟩
theorem lw_p10 : lw_okq (⟨"HeadCount$Parser", "quantified", "(I)LHeadCount$Node;"⟩, 8) := ⟨⟨by decide +kernel, by decide +kernel⟩, List.mem_of_getElem? (i := 27) (by decide +kernel), List.mem_of_getElem? (i := 282) (by decide +kernel), List.mem_of_getElem? (i := 283) (by decide +kernel)⟩
theorem lw_p11 : lw_okq (⟨"HeadCount$Parser", "bracketed", "(I)LHeadCount$Node;"⟩, 8) := ⟨⟨by decide +kernel, by decide +kernel⟩, List.mem_of_getElem? (i := 27) (by decide +kernel), List.mem_of_getElem? (i := 363) (by decide +kernel), List.mem_of_getElem? (i := 364) (by decide +kernel)⟩
theorem lw_p12 : lw_okq (⟨"HeadCount$Parser", "take", "(C)Z"⟩, 8) := ⟨⟨by decide +kernel, by decide +kernel⟩, List.mem_of_getElem? (i := 27) (by decide +kernel), List.mem_of_getElem? (i := 367) (by decide +kernel), List.mem_of_getElem? (i := 368) (by decide +kernel)⟩
theorem lw_p13 : lw_okq (⟨"HeadCount$Parser", "comparisonOfSets", "(I)LHeadCount$Node;"⟩, 8) := ⟨⟨by decide +kernel, by decide +kernel⟩, List.mem_of_getElem? (i := 27) (by decide +kernel), List.mem_of_getElem? (i := 371) (by decide +kernel), List.mem_of_getElem? (i := 372) (by decide +kernel)⟩
theorem lw_p14 : lw_okq (⟨"HeadCount$Parser", "startsWithDivisor", "()Z"⟩, 8) := ⟨⟨by decide +kernel, by decide +kernel⟩, List.mem_of_getElem? (i := 27) (by decide +kernel), List.mem_of_getElem? (i := 375) (by decide +kernel), List.mem_of_getElem? (i := 376) (by decide +kernel)⟩
theorem lw_p15 : lw_okq (⟨"HeadCount$Parser", "number", "()I"⟩, 8) := ⟨⟨by decide +kernel, by decide +kernel⟩, List.mem_of_getElem? (i := 27) (by decide +kernel), List.mem_of_getElem? (i := 382) (by decide +kernel), List.mem_of_getElem? (i := 383) (by decide +kernel)⟩
def lw_privs_1 : List (MethodName × Nat) := [(⟨"HeadCount", "append", "(I)V"⟩, 6), (⟨"HeadCount$Parser", "start", "([CI)V"⟩, 8), (⟨"HeadCount$Parser", "row", "(CI)LHeadCount$Node;"⟩, 8), (⟨"HeadCount$Parser", "item", "(CI)LHeadCount$Node;"⟩, 8), (⟨"HeadCount$Parser", "one", "(I)LHeadCount$Node;"⟩, 8), (⟨"java/lang/Throwable", "fillInStackTrace", "(I)Ljava/lang/Throwable;"⟩, 6), (⟨"HeadCount$Parser", "peek", "()C"⟩, 8), (⟨"HeadCount$Parser", "not", "(I)LHeadCount$Node;"⟩, 8), (⟨"HeadCount$Parser", "next", "()C"⟩, 8), (⟨"HeadCount$Parser", "make", "(C)LHeadCount$Node;"⟩, 8), (⟨"HeadCount$Parser", "quantified", "(I)LHeadCount$Node;"⟩, 8), (⟨"HeadCount$Parser", "bracketed", "(I)LHeadCount$Node;"⟩, 8), (⟨"HeadCount$Parser", "take", "(C)Z"⟩, 8), (⟨"HeadCount$Parser", "comparisonOfSets", "(I)LHeadCount$Node;"⟩, 8), (⟨"HeadCount$Parser", "startsWithDivisor", "()Z"⟩, 8), (⟨"HeadCount$Parser", "number", "()I"⟩, 8)]
theorem lw_r1 : ∀ q ∈ lw_privs_1, lw_okq q := List.forall_mem_cons.mpr ⟨lw_p0, List.forall_mem_cons.mpr ⟨lw_p1, List.forall_mem_cons.mpr ⟨lw_p2, List.forall_mem_cons.mpr ⟨lw_p3, List.forall_mem_cons.mpr ⟨lw_p4, List.forall_mem_cons.mpr ⟨lw_p5, List.forall_mem_cons.mpr ⟨lw_p6, List.forall_mem_cons.mpr ⟨lw_p7, List.forall_mem_cons.mpr ⟨lw_p8, List.forall_mem_cons.mpr ⟨lw_p9, List.forall_mem_cons.mpr ⟨lw_p10, List.forall_mem_cons.mpr ⟨lw_p11, List.forall_mem_cons.mpr ⟨lw_p12, List.forall_mem_cons.mpr ⟨lw_p13, List.forall_mem_cons.mpr ⟨lw_p14, List.forall_mem_cons.mpr ⟨lw_p15, fun _ h => absurd h List.not_mem_nil⟩⟩⟩⟩⟩⟩⟩⟩⟩⟩⟩⟩⟩⟩⟩⟩
theorem lw_p16 : lw_okq (⟨"HeadCount$Parser", "divided", "(I)LHeadCount$Node;"⟩, 8) := ⟨⟨by decide +kernel, by decide +kernel⟩, List.mem_of_getElem? (i := 27) (by decide +kernel), List.mem_of_getElem? (i := 386) (by decide +kernel), List.mem_of_getElem? (i := 387) (by decide +kernel)⟩
theorem lw_p17 : lw_okq (⟨"HeadCount$Parser", "addSum", "(LHeadCount$Node;II)V"⟩, 8) := ⟨⟨by decide +kernel, by decide +kernel⟩, List.mem_of_getElem? (i := 27) (by decide +kernel), List.mem_of_getElem? (i := 390) (by decide +kernel), List.mem_of_getElem? (i := 391) (by decide +kernel)⟩
theorem lw_p18 : lw_okq (⟨"HeadCount$Parser", "addPart", "(LHeadCount$Node;II)V"⟩, 8) := ⟨⟨by decide +kernel, by decide +kernel⟩, List.mem_of_getElem? (i := 27) (by decide +kernel), List.mem_of_getElem? (i := 394) (by decide +kernel), List.mem_of_getElem? (i := 395) (by decide +kernel)⟩
theorem lw_p19 : lw_okq (⟨"HeadCount$Parser", "thing", "(I)LHeadCount$Node;"⟩, 8) := ⟨⟨by decide +kernel, by decide +kernel⟩, List.mem_of_getElem? (i := 27) (by decide +kernel), List.mem_of_getElem? (i := 398) (by decide +kernel), List.mem_of_getElem? (i := 399) (by decide +kernel)⟩
theorem lw_p20 : lw_okq (⟨"HeadCount$Parser", "single", "(I)LHeadCount$Node;"⟩, 8) := ⟨⟨by decide +kernel, by decide +kernel⟩, List.mem_of_getElem? (i := 27) (by decide +kernel), List.mem_of_getElem? (i := 402) (by decide +kernel), List.mem_of_getElem? (i := 403) (by decide +kernel)⟩
theorem lw_p21 : lw_okq (⟨"HeadCount$Parser", "boundVariable", "(C)I"⟩, 8) := ⟨⟨by decide +kernel, by decide +kernel⟩, List.mem_of_getElem? (i := 27) (by decide +kernel), List.mem_of_getElem? (i := 406) (by decide +kernel), List.mem_of_getElem? (i := 407) (by decide +kernel)⟩
theorem lw_p22 : lw_okq (⟨"HeadCount$Parser", "comparisonOfSums", "(I)LHeadCount$Node;"⟩, 8) := ⟨⟨by decide +kernel, by decide +kernel⟩, List.mem_of_getElem? (i := 27) (by decide +kernel), List.mem_of_getElem? (i := 410) (by decide +kernel), List.mem_of_getElem? (i := 411) (by decide +kernel)⟩
theorem lw_p23 : lw_okq (⟨"HeadCount", "needSentence", "()V"⟩, 6) := ⟨⟨by decide +kernel, by decide +kernel⟩, List.mem_of_getElem? (i := 19) (by decide +kernel), List.mem_of_getElem? (i := 422) (by decide +kernel), List.mem_of_getElem? (i := 423) (by decide +kernel)⟩
theorem lw_p24 : lw_okq (⟨"HeadCount", "isTrueIn", "(I)Z"⟩, 6) := ⟨⟨by decide +kernel, by decide +kernel⟩, List.mem_of_getElem? (i := 19) (by decide +kernel), List.mem_of_getElem? (i := 448) (by decide +kernel), List.mem_of_getElem? (i := 449) (by decide +kernel)⟩
theorem lw_p25 : lw_okq (⟨"HeadCount", "waysIn", "(I)I"⟩, 6) := ⟨⟨by decide +kernel, by decide +kernel⟩, List.mem_of_getElem? (i := 19) (by decide +kernel), List.mem_of_getElem? (i := 452) (by decide +kernel), List.mem_of_getElem? (i := 453) (by decide +kernel)⟩
theorem lw_p26 : lw_okq (⟨"HeadCount$World", "isTrue", "(LHeadCount$Node;)Z"⟩, 3) := ⟨⟨by decide +kernel, by decide +kernel⟩, List.mem_of_getElem? (i := 75) (by decide +kernel), List.mem_of_getElem? (i := 460) (by decide +kernel), List.mem_of_getElem? (i := 461) (by decide +kernel)⟩
theorem lw_p27 : lw_okq (⟨"HeadCount$World", "anyIs", "(ZLHeadCount$Node;)Z"⟩, 3) := ⟨⟨by decide +kernel, by decide +kernel⟩, List.mem_of_getElem? (i := 75) (by decide +kernel), List.mem_of_getElem? (i := 464) (by decide +kernel), List.mem_of_getElem? (i := 465) (by decide +kernel)⟩
theorem lw_p28 : lw_okq (⟨"HeadCount$World", "anyChoiceMakes", "(ZLHeadCount$Node;)Z"⟩, 3) := ⟨⟨by decide +kernel, by decide +kernel⟩, List.mem_of_getElem? (i := 75) (by decide +kernel), List.mem_of_getElem? (i := 468) (by decide +kernel), List.mem_of_getElem? (i := 469) (by decide +kernel)⟩
theorem lw_p29 : lw_okq (⟨"HeadCount$World", "value", "(I)I"⟩, 3) := ⟨⟨by decide +kernel, by decide +kernel⟩, List.mem_of_getElem? (i := 75) (by decide +kernel), List.mem_of_getElem? (i := 472) (by decide +kernel), List.mem_of_getElem? (i := 473) (by decide +kernel)⟩
theorem lw_p30 : lw_okq (⟨"HeadCount$World", "bind", "(II)V"⟩, 3) := ⟨⟨by decide +kernel, by decide +kernel⟩, List.mem_of_getElem? (i := 75) (by decide +kernel), List.mem_of_getElem? (i := 482) (by decide +kernel), List.mem_of_getElem? (i := 483) (by decide +kernel)⟩
theorem lw_p31 : lw_okq (⟨"HeadCount$World", "isTrueOfSets", "(LHeadCount$Node;)Z"⟩, 3) := ⟨⟨by decide +kernel, by decide +kernel⟩, List.mem_of_getElem? (i := 75) (by decide +kernel), List.mem_of_getElem? (i := 486) (by decide +kernel), List.mem_of_getElem? (i := 487) (by decide +kernel)⟩
def lw_privs_2 : List (MethodName × Nat) := [(⟨"HeadCount$Parser", "divided", "(I)LHeadCount$Node;"⟩, 8), (⟨"HeadCount$Parser", "addSum", "(LHeadCount$Node;II)V"⟩, 8), (⟨"HeadCount$Parser", "addPart", "(LHeadCount$Node;II)V"⟩, 8), (⟨"HeadCount$Parser", "thing", "(I)LHeadCount$Node;"⟩, 8), (⟨"HeadCount$Parser", "single", "(I)LHeadCount$Node;"⟩, 8), (⟨"HeadCount$Parser", "boundVariable", "(C)I"⟩, 8), (⟨"HeadCount$Parser", "comparisonOfSums", "(I)LHeadCount$Node;"⟩, 8), (⟨"HeadCount", "needSentence", "()V"⟩, 6), (⟨"HeadCount", "isTrueIn", "(I)Z"⟩, 6), (⟨"HeadCount", "waysIn", "(I)I"⟩, 6), (⟨"HeadCount$World", "isTrue", "(LHeadCount$Node;)Z"⟩, 3), (⟨"HeadCount$World", "anyIs", "(ZLHeadCount$Node;)Z"⟩, 3), (⟨"HeadCount$World", "anyChoiceMakes", "(ZLHeadCount$Node;)Z"⟩, 3), (⟨"HeadCount$World", "value", "(I)I"⟩, 3), (⟨"HeadCount$World", "bind", "(II)V"⟩, 3), (⟨"HeadCount$World", "isTrueOfSets", "(LHeadCount$Node;)Z"⟩, 3)]
theorem lw_r2 : ∀ q ∈ lw_privs_2, lw_okq q := List.forall_mem_cons.mpr ⟨lw_p16, List.forall_mem_cons.mpr ⟨lw_p17, List.forall_mem_cons.mpr ⟨lw_p18, List.forall_mem_cons.mpr ⟨lw_p19, List.forall_mem_cons.mpr ⟨lw_p20, List.forall_mem_cons.mpr ⟨lw_p21, List.forall_mem_cons.mpr ⟨lw_p22, List.forall_mem_cons.mpr ⟨lw_p23, List.forall_mem_cons.mpr ⟨lw_p24, List.forall_mem_cons.mpr ⟨lw_p25, List.forall_mem_cons.mpr ⟨lw_p26, List.forall_mem_cons.mpr ⟨lw_p27, List.forall_mem_cons.mpr ⟨lw_p28, List.forall_mem_cons.mpr ⟨lw_p29, List.forall_mem_cons.mpr ⟨lw_p30, List.forall_mem_cons.mpr ⟨lw_p31, fun _ h => absurd h List.not_mem_nil⟩⟩⟩⟩⟩⟩⟩⟩⟩⟩⟩⟩⟩⟩⟩⟩
theorem lw_p32 : lw_okq (⟨"HeadCount$World", "elements", "(LHeadCount$Node;)I"⟩, 3) := ⟨⟨by decide +kernel, by decide +kernel⟩, List.mem_of_getElem? (i := 75) (by decide +kernel), List.mem_of_getElem? (i := 490) (by decide +kernel), List.mem_of_getElem? (i := 491) (by decide +kernel)⟩
theorem lw_p33 : lw_okq (⟨"HeadCount$World", "union", "(LHeadCount$Node;)I"⟩, 3) := ⟨⟨by decide +kernel, by decide +kernel⟩, List.mem_of_getElem? (i := 75) (by decide +kernel), List.mem_of_getElem? (i := 494) (by decide +kernel), List.mem_of_getElem? (i := 495) (by decide +kernel)⟩
theorem lw_p34 : lw_okq (⟨"HeadCount$World", "meet", "(LHeadCount$Node;)I"⟩, 3) := ⟨⟨by decide +kernel, by decide +kernel⟩, List.mem_of_getElem? (i := 75) (by decide +kernel), List.mem_of_getElem? (i := 498) (by decide +kernel), List.mem_of_getElem? (i := 499) (by decide +kernel)⟩
theorem lw_p35 : lw_okq (⟨"HeadCount$World", "isTrueOfSum", "(LHeadCount$Node;)Z"⟩, 3) := ⟨⟨by decide +kernel, by decide +kernel⟩, List.mem_of_getElem? (i := 75) (by decide +kernel), List.mem_of_getElem? (i := 502) (by decide +kernel), List.mem_of_getElem? (i := 503) (by decide +kernel)⟩
theorem lw_p36 : lw_okq (⟨"HeadCount$World", "amount", "(LHeadCount$Node;)I"⟩, 3) := ⟨⟨by decide +kernel, by decide +kernel⟩, List.mem_of_getElem? (i := 75) (by decide +kernel), List.mem_of_getElem? (i := 506) (by decide +kernel), List.mem_of_getElem? (i := 507) (by decide +kernel)⟩
theorem lw_p37 : lw_okq (⟨"HeadCountModel", "isSentence", "()Z"⟩, 41) := ⟨⟨by decide +kernel, by decide +kernel⟩, List.mem_of_getElem? (i := 531) (by decide +kernel), List.mem_of_getElem? (i := 682) (by decide +kernel), List.mem_of_getElem? (i := 683) (by decide +kernel)⟩
theorem lw_p38 : lw_okq (⟨"HeadCountModel", "next", "(C)I"⟩, 41) := ⟨⟨by decide +kernel, by decide +kernel⟩, List.mem_of_getElem? (i := 531) (by decide +kernel), List.mem_of_getElem? (i := 686) (by decide +kernel), List.mem_of_getElem? (i := 687) (by decide +kernel)⟩
theorem lw_p39 : lw_okq (⟨"HeadCountModel", "one", "(C)I"⟩, 41) := ⟨⟨by decide +kernel, by decide +kernel⟩, List.mem_of_getElem? (i := 531) (by decide +kernel), List.mem_of_getElem? (i := 690) (by decide +kernel), List.mem_of_getElem? (i := 691) (by decide +kernel)⟩
theorem lw_p40 : lw_okq (⟨"HeadCountModel", "deeper", "(I)Z"⟩, 41) := ⟨⟨by decide +kernel, by decide +kernel⟩, List.mem_of_getElem? (i := 531) (by decide +kernel), List.mem_of_getElem? (i := 694) (by decide +kernel), List.mem_of_getElem? (i := 695) (by decide +kernel)⟩
theorem lw_p41 : lw_okq (⟨"HeadCountModel", "push", "(I)V"⟩, 41) := ⟨⟨by decide +kernel, by decide +kernel⟩, List.mem_of_getElem? (i := 531) (by decide +kernel), List.mem_of_getElem? (i := 698) (by decide +kernel), List.mem_of_getElem? (i := 699) (by decide +kernel)⟩
theorem lw_p42 : lw_okq (⟨"HeadCountModel", "sum", "(C)I"⟩, 41) := ⟨⟨by decide +kernel, by decide +kernel⟩, List.mem_of_getElem? (i := 531) (by decide +kernel), List.mem_of_getElem? (i := 702) (by decide +kernel), List.mem_of_getElem? (i := 703) (by decide +kernel)⟩
theorem lw_p43 : lw_okq (⟨"HeadCountModel", "part", "(C)I"⟩, 41) := ⟨⟨by decide +kernel, by decide +kernel⟩, List.mem_of_getElem? (i := 531) (by decide +kernel), List.mem_of_getElem? (i := 706) (by decide +kernel), List.mem_of_getElem? (i := 707) (by decide +kernel)⟩
theorem lw_p44 : lw_okq (⟨"HeadCountModel", "thing", "(C)I"⟩, 41) := ⟨⟨by decide +kernel, by decide +kernel⟩, List.mem_of_getElem? (i := 531) (by decide +kernel), List.mem_of_getElem? (i := 713) (by decide +kernel), List.mem_of_getElem? (i := 714) (by decide +kernel)⟩
theorem lw_p45 : lw_okq (⟨"HeadCountModel", "emit", "(II)V"⟩, 41) := ⟨⟨by decide +kernel, by decide +kernel⟩, List.mem_of_getElem? (i := 531) (by decide +kernel), List.mem_of_getElem? (i := 720) (by decide +kernel), List.mem_of_getElem? (i := 721) (by decide +kernel)⟩
theorem lw_p46 : lw_okq (⟨"HeadCountModel", "wholePart", "()V"⟩, 41) := ⟨⟨by decide +kernel, by decide +kernel⟩, List.mem_of_getElem? (i := 531) (by decide +kernel), List.mem_of_getElem? (i := 724) (by decide +kernel), List.mem_of_getElem? (i := 725) (by decide +kernel)⟩
theorem lw_p47 : lw_okq (⟨"HeadCountModel", "afterOne", "(C)I"⟩, 41) := ⟨⟨by decide +kernel, by decide +kernel⟩, List.mem_of_getElem? (i := 531) (by decide +kernel), List.mem_of_getElem? (i := 728) (by decide +kernel), List.mem_of_getElem? (i := 729) (by decide +kernel)⟩
def lw_privs_3 : List (MethodName × Nat) := [(⟨"HeadCount$World", "elements", "(LHeadCount$Node;)I"⟩, 3), (⟨"HeadCount$World", "union", "(LHeadCount$Node;)I"⟩, 3), (⟨"HeadCount$World", "meet", "(LHeadCount$Node;)I"⟩, 3), (⟨"HeadCount$World", "isTrueOfSum", "(LHeadCount$Node;)Z"⟩, 3), (⟨"HeadCount$World", "amount", "(LHeadCount$Node;)I"⟩, 3), (⟨"HeadCountModel", "isSentence", "()Z"⟩, 41), (⟨"HeadCountModel", "next", "(C)I"⟩, 41), (⟨"HeadCountModel", "one", "(C)I"⟩, 41), (⟨"HeadCountModel", "deeper", "(I)Z"⟩, 41), (⟨"HeadCountModel", "push", "(I)V"⟩, 41), (⟨"HeadCountModel", "sum", "(C)I"⟩, 41), (⟨"HeadCountModel", "part", "(C)I"⟩, 41), (⟨"HeadCountModel", "thing", "(C)I"⟩, 41), (⟨"HeadCountModel", "emit", "(II)V"⟩, 41), (⟨"HeadCountModel", "wholePart", "()V"⟩, 41), (⟨"HeadCountModel", "afterOne", "(C)I"⟩, 41)]
theorem lw_r3 : ∀ q ∈ lw_privs_3, lw_okq q := List.forall_mem_cons.mpr ⟨lw_p32, List.forall_mem_cons.mpr ⟨lw_p33, List.forall_mem_cons.mpr ⟨lw_p34, List.forall_mem_cons.mpr ⟨lw_p35, List.forall_mem_cons.mpr ⟨lw_p36, List.forall_mem_cons.mpr ⟨lw_p37, List.forall_mem_cons.mpr ⟨lw_p38, List.forall_mem_cons.mpr ⟨lw_p39, List.forall_mem_cons.mpr ⟨lw_p40, List.forall_mem_cons.mpr ⟨lw_p41, List.forall_mem_cons.mpr ⟨lw_p42, List.forall_mem_cons.mpr ⟨lw_p43, List.forall_mem_cons.mpr ⟨lw_p44, List.forall_mem_cons.mpr ⟨lw_p45, List.forall_mem_cons.mpr ⟨lw_p46, List.forall_mem_cons.mpr ⟨lw_p47, fun _ h => absurd h List.not_mem_nil⟩⟩⟩⟩⟩⟩⟩⟩⟩⟩⟩⟩⟩⟩⟩⟩
theorem lw_p48 : lw_okq (⟨"HeadCountModel", "settle", "(II)V"⟩, 41) := ⟨⟨by decide +kernel, by decide +kernel⟩, List.mem_of_getElem? (i := 531) (by decide +kernel), List.mem_of_getElem? (i := 732) (by decide +kernel), List.mem_of_getElem? (i := 733) (by decide +kernel)⟩
theorem lw_p49 : lw_okq (⟨"HeadCountModel", "upper", "()I"⟩, 41) := ⟨⟨by decide +kernel, by decide +kernel⟩, List.mem_of_getElem? (i := 531) (by decide +kernel), List.mem_of_getElem? (i := 736) (by decide +kernel), List.mem_of_getElem? (i := 737) (by decide +kernel)⟩
theorem lw_p50 : lw_okq (⟨"HeadCountModel", "close", "()V"⟩, 41) := ⟨⟨by decide +kernel, by decide +kernel⟩, List.mem_of_getElem? (i := 531) (by decide +kernel), List.mem_of_getElem? (i := 740) (by decide +kernel), List.mem_of_getElem? (i := 741) (by decide +kernel)⟩
theorem lw_p51 : lw_okq (⟨"HeadCountModel", "wholeOne", "()I"⟩, 41) := ⟨⟨by decide +kernel, by decide +kernel⟩, List.mem_of_getElem? (i := 531) (by decide +kernel), List.mem_of_getElem? (i := 744) (by decide +kernel), List.mem_of_getElem? (i := 745) (by decide +kernel)⟩
theorem lw_p52 : lw_okq (⟨"HeadCountModel", "bound", "(C)I"⟩, 41) := ⟨⟨by decide +kernel, by decide +kernel⟩, List.mem_of_getElem? (i := 531) (by decide +kernel), List.mem_of_getElem? (i := 748) (by decide +kernel), List.mem_of_getElem? (i := 749) (by decide +kernel)⟩
theorem lw_p53 : lw_okq (⟨"HeadCountModel", "afterNumber", "(C)I"⟩, 41) := ⟨⟨by decide +kernel, by decide +kernel⟩, List.mem_of_getElem? (i := 531) (by decide +kernel), List.mem_of_getElem? (i := 752) (by decide +kernel), List.mem_of_getElem? (i := 753) (by decide +kernel)⟩
theorem lw_p54 : lw_okq (⟨"HeadCountModel", "afterPart", "(C)I"⟩, 41) := ⟨⟨by decide +kernel, by decide +kernel⟩, List.mem_of_getElem? (i := 531) (by decide +kernel), List.mem_of_getElem? (i := 756) (by decide +kernel), List.mem_of_getElem? (i := 757) (by decide +kernel)⟩
theorem lw_p55 : lw_okq (⟨"HeadCountModel", "single", "(C)I"⟩, 41) := ⟨⟨by decide +kernel, by decide +kernel⟩, List.mem_of_getElem? (i := 531) (by decide +kernel), List.mem_of_getElem? (i := 760) (by decide +kernel), List.mem_of_getElem? (i := 761) (by decide +kernel)⟩
theorem lw_p56 : lw_okq (⟨"HeadCountModel", "wholeSingle", "()I"⟩, 41) := ⟨⟨by decide +kernel, by decide +kernel⟩, List.mem_of_getElem? (i := 531) (by decide +kernel), List.mem_of_getElem? (i := 764) (by decide +kernel), List.mem_of_getElem? (i := 765) (by decide +kernel)⟩
theorem lw_p57 : lw_okq (⟨"HeadCountModel", "afterSingle", "(C)I"⟩, 41) := ⟨⟨by decide +kernel, by decide +kernel⟩, List.mem_of_getElem? (i := 531) (by decide +kernel), List.mem_of_getElem? (i := 768) (by decide +kernel), List.mem_of_getElem? (i := 769) (by decide +kernel)⟩
theorem lw_p58 : lw_okq (⟨"HeadCountModel", "run", "(IZ)Z"⟩, 41) := ⟨⟨by decide +kernel, by decide +kernel⟩, List.mem_of_getElem? (i := 531) (by decide +kernel), List.mem_of_getElem? (i := 779) (by decide +kernel), List.mem_of_getElem? (i := 780) (by decide +kernel)⟩
theorem lw_p59 : lw_okq (⟨"HeadCountModel", "pop", "()I"⟩, 41) := ⟨⟨by decide +kernel, by decide +kernel⟩, List.mem_of_getElem? (i := 531) (by decide +kernel), List.mem_of_getElem? (i := 783) (by decide +kernel), List.mem_of_getElem? (i := 784) (by decide +kernel)⟩
theorem lw_p60 : lw_okq (⟨"HeadCountModel", "ends", "(IIZ)Z"⟩, 41) := ⟨⟨by decide +kernel, by decide +kernel⟩, List.mem_of_getElem? (i := 531) (by decide +kernel), List.mem_of_getElem? (i := 787) (by decide +kernel), List.mem_of_getElem? (i := 788) (by decide +kernel)⟩
theorem lw_p61 : lw_okq (⟨"HeadCountModel", "lastOf", "(I)I"⟩, 41) := ⟨⟨by decide +kernel, by decide +kernel⟩, List.mem_of_getElem? (i := 531) (by decide +kernel), List.mem_of_getElem? (i := 791) (by decide +kernel), List.mem_of_getElem? (i := 792) (by decide +kernel)⟩
theorem lw_p62 : lw_okq (⟨"HeadCountModel", "put", "(I)V"⟩, 41) := ⟨⟨by decide +kernel, by decide +kernel⟩, List.mem_of_getElem? (i := 531) (by decide +kernel), List.mem_of_getElem? (i := 795) (by decide +kernel), List.mem_of_getElem? (i := 796) (by decide +kernel)⟩
theorem lw_p63 : lw_okq (⟨"HeadCountModel", "doSum", "(II)V"⟩, 41) := ⟨⟨by decide +kernel, by decide +kernel⟩, List.mem_of_getElem? (i := 531) (by decide +kernel), List.mem_of_getElem? (i := 799) (by decide +kernel), List.mem_of_getElem? (i := 800) (by decide +kernel)⟩
def lw_privs_4 : List (MethodName × Nat) := [(⟨"HeadCountModel", "settle", "(II)V"⟩, 41), (⟨"HeadCountModel", "upper", "()I"⟩, 41), (⟨"HeadCountModel", "close", "()V"⟩, 41), (⟨"HeadCountModel", "wholeOne", "()I"⟩, 41), (⟨"HeadCountModel", "bound", "(C)I"⟩, 41), (⟨"HeadCountModel", "afterNumber", "(C)I"⟩, 41), (⟨"HeadCountModel", "afterPart", "(C)I"⟩, 41), (⟨"HeadCountModel", "single", "(C)I"⟩, 41), (⟨"HeadCountModel", "wholeSingle", "()I"⟩, 41), (⟨"HeadCountModel", "afterSingle", "(C)I"⟩, 41), (⟨"HeadCountModel", "run", "(IZ)Z"⟩, 41), (⟨"HeadCountModel", "pop", "()I"⟩, 41), (⟨"HeadCountModel", "ends", "(IIZ)Z"⟩, 41), (⟨"HeadCountModel", "lastOf", "(I)I"⟩, 41), (⟨"HeadCountModel", "put", "(I)V"⟩, 41), (⟨"HeadCountModel", "doSum", "(II)V"⟩, 41)]
theorem lw_r4 : ∀ q ∈ lw_privs_4, lw_okq q := List.forall_mem_cons.mpr ⟨lw_p48, List.forall_mem_cons.mpr ⟨lw_p49, List.forall_mem_cons.mpr ⟨lw_p50, List.forall_mem_cons.mpr ⟨lw_p51, List.forall_mem_cons.mpr ⟨lw_p52, List.forall_mem_cons.mpr ⟨lw_p53, List.forall_mem_cons.mpr ⟨lw_p54, List.forall_mem_cons.mpr ⟨lw_p55, List.forall_mem_cons.mpr ⟨lw_p56, List.forall_mem_cons.mpr ⟨lw_p57, List.forall_mem_cons.mpr ⟨lw_p58, List.forall_mem_cons.mpr ⟨lw_p59, List.forall_mem_cons.mpr ⟨lw_p60, List.forall_mem_cons.mpr ⟨lw_p61, List.forall_mem_cons.mpr ⟨lw_p62, List.forall_mem_cons.mpr ⟨lw_p63, fun _ h => absurd h List.not_mem_nil⟩⟩⟩⟩⟩⟩⟩⟩⟩⟩⟩⟩⟩⟩⟩⟩
theorem lw_p64 : lw_okq (⟨"HeadCountModel", "doOther", "(I)V"⟩, 41) := ⟨⟨by decide +kernel, by decide +kernel⟩, List.mem_of_getElem? (i := 531) (by decide +kernel), List.mem_of_getElem? (i := 806) (by decide +kernel), List.mem_of_getElem? (i := 807) (by decide +kernel)⟩
theorem lw_p65 : lw_okq (⟨"HeadCountModel", "isLoop", "()Z"⟩, 41) := ⟨⟨by decide +kernel, by decide +kernel⟩, List.mem_of_getElem? (i := 531) (by decide +kernel), List.mem_of_getElem? (i := 818) (by decide +kernel), List.mem_of_getElem? (i := 819) (by decide +kernel)⟩
def lw_privs_5 : List (MethodName × Nat) := [(⟨"HeadCountModel", "doOther", "(I)V"⟩, 41), (⟨"HeadCountModel", "isLoop", "()Z"⟩, 41)]
theorem lw_r5 : ∀ q ∈ lw_privs_5, lw_okq q := List.forall_mem_cons.mpr ⟨lw_p64, List.forall_mem_cons.mpr ⟨lw_p65, fun _ h => absurd h List.not_mem_nil⟩⟩
def lw_privs : List (MethodName × Nat) := lw_privs_1 ++ (lw_privs_2 ++ (lw_privs_3 ++ (lw_privs_4 ++ (lw_privs_5))))
def lw_tbl : List Cond := k2_sels lw_privs ++ tables_1
theorem lw_privs_ok : ∀ q ∈ lw_privs, lw_okq q := by
  show ∀ q ∈ lw_privs_1 ++ (lw_privs_2 ++ (lw_privs_3 ++ (lw_privs_4 ++ (lw_privs_5)))), lw_okq q
  exact List.forall_mem_append.mpr ⟨lw_r1, List.forall_mem_append.mpr ⟨lw_r2, List.forall_mem_append.mpr ⟨lw_r3, List.forall_mem_append.mpr ⟨lw_r4, lw_r5⟩⟩⟩⟩

def R_H : String := "HeadCount"
def fl_H : List (String × String × String × Bool) := [("HeadCount", "text", "[C", true), ("HeadCount", "used", "I", false), ("HeadCount", "parser", "LHeadCount$Parser;", true), ("HeadCount", "world", "LHeadCount$World;", true), ("HeadCount", "sentence", "LHeadCount$Node;", false), ("HeadCount", "counted", "[I", true)]
def F_H : u_T := fun k => fl_H.getD k ("", "", "", false)
def jl_H : List Nat := [99, 101, 103, 105, 107, 109]
theorem cu_H : ∀ k, k < 6 → tables_1[(jl_H.getD k 0)]? = some (u_lay R_H F_H k) ∧ goodWord (u_lay R_H F_H k) = true := by decide +kernel
def R_P : String := "HeadCount$Parser"
def fl_P : List (String × String × String × Bool) := [("HeadCount$Parser", "signs", "[C", true), ("HeadCount$Parser", "count", "I", false), ("HeadCount$Parser", "at", "I", false), ("HeadCount$Parser", "quantifiers", "I", false), ("HeadCount$Parser", "bound", "[Z", true), ("HeadCount$Parser", "nodes", "[LHeadCount$Node;", false), ("HeadCount$Parser", "nodesInForce", "[LHeadCount$Node;", false), ("HeadCount$Parser", "made", "I", false)]
def F_P : u_T := fun k => fl_P.getD k ("", "", "", false)
def jl_P : List Nat := [54, 56, 58, 60, 62, 64, 66, 68]
theorem cu_P : ∀ k, k < 8 → tables_1[(jl_P.getD k 0)]? = some (u_lay R_P F_P k) ∧ goodWord (u_lay R_P F_P k) = true := by decide +kernel
def R_O : String := "HeadCount$World"
def fl_O : List (String × String × String × Bool) := [("HeadCount$World", "size", "I", false), ("HeadCount$World", "allElements", "I", false), ("HeadCount$World", "values", "[I", true)]
def F_O : u_T := fun k => fl_O.getD k ("", "", "", false)
def jl_O : List Nat := [85, 87, 89]
theorem cu_O : ∀ k, k < 3 → tables_1[(jl_O.getD k 0)]? = some (u_lay R_O F_O k) ∧ goodWord (u_lay R_O F_O k) = true := by decide +kernel
def R_N : String := "HeadCount$Node"
def fl_N : List (String × String × String × Bool) := [("HeadCount$Node", "sign", "C", false), ("HeadCount$Node", "number", "I", false), ("HeadCount$Node", "variable", "I", false), ("HeadCount$Node", "first", "LHeadCount$Node;", false), ("HeadCount$Node", "next", "LHeadCount$Node;", false)]
def F_N : u_T := fun k => fl_N.getD k ("", "", "", false)
def jl_N : List Nat := [266, 268, 270, 272, 274]
theorem cu_N : ∀ k, k < 5 → tables_1[(jl_N.getD k 0)]? = some (u_lay R_N F_N k) ∧ goodWord (u_lay R_N F_N k) = true := by decide +kernel
def R_M : String := "HeadCountModel"
def fl_M : List (String × String × String × Bool) := [("HeadCountModel", "code", "I", false), ("HeadCountModel", "typed", "I", false), ("HeadCountModel", "text", "[C", true), ("HeadCountModel", "there", "Z", false), ("HeadCountModel", "length", "I", false), ("HeadCountModel", "loops", "I", false), ("HeadCountModel", "order", "[I", true), ("HeadCountModel", "arg", "[I", true), ("HeadCountModel", "every", "[Z", true), ("HeadCountModel", "overSets", "[Z", true), ("HeadCountModel", "opens", "Z", false), ("HeadCountModel", "freshOpens", "Z", false), ("HeadCountModel", "freshLength", "I", false), ("HeadCountModel", "freshLoops", "I", false), ("HeadCountModel", "freshOrder", "[I", true), ("HeadCountModel", "freshArg", "[I", true), ("HeadCountModel", "freshEvery", "[Z", true), ("HeadCountModel", "freshSets", "[Z", true), ("HeadCountModel", "state", "I", false), ("HeadCountModel", "open", "I", false), ("HeadCountModel", "pile", "[I", true), ("HeadCountModel", "variable", "[I", true), ("HeadCountModel", "before", "[I", true), ("HeadCountModel", "binds", "[I", true), ("HeadCountModel", "depth", "I", false), ("HeadCountModel", "universal", "Z", false), ("HeadCountModel", "figure", "I", false), ("HeadCountModel", "figures", "I", false), ("HeadCountModel", "times", "Z", false), ("HeadCountModel", "factor", "I", false), ("HeadCountModel", "minus", "Z", false), ("HeadCountModel", "firstPart", "Z", false), ("HeadCountModel", "bare", "Z", false), ("HeadCountModel", "relation", "I", false), ("HeadCountModel", "divisor", "I", false), ("HeadCountModel", "size", "I", false), ("HeadCountModel", "value", "[I", true), ("HeadCountModel", "start", "[I", true), ("HeadCountModel", "high", "I", false), ("HeadCountModel", "stack", "[I", true), ("HeadCountModel", "good", "I", false)]
def F_M : u_T := fun k => fl_M.getD k ("", "", "", false)
def jl_M : List Nat := [577, 579, 581, 583, 585, 587, 589, 591, 593, 595, 597, 599, 601, 603, 605, 607, 609, 611, 613, 615, 617, 619, 621, 623, 625, 627, 629, 631, 633, 635, 637, 639, 641, 643, 645, 647, 649, 651, 653, 655, 657]
theorem cu_M : ∀ k, k < 41 → tables_1[(jl_M.getD k 0)]? = some (u_lay R_M F_M k) ∧ goodWord (u_lay R_M F_M k) = true := by decide +kernel
def hcCl : List vw_C := [(R_H, F_H, 6), (R_P, F_P, 8), (R_O, F_O, 3), (R_N, F_N, 5), (R_M, F_M, 41)]
def rfT : List (List Nat) := [[0, 2, 3, 4, 5], [0, 4, 5, 6], [2], [3, 4], [2, 6, 7, 8, 9, 14, 15, 16, 17, 20, 21, 22, 23, 36, 37, 39]]
def fR (c k : Nat) : Bool := (rfT.getD c []).contains k
def ndC : Nat := 3
theorem ndCl : hcCl[ndC]? = some (R_N, F_N, 5) := rfl
theorem hk_H : hcCl[0]? = some (R_H, F_H, 6) := rfl
theorem hk_P : hcCl[1]? = some (R_P, F_P, 8) := rfl
theorem hk_O : hcCl[2]? = some (R_O, F_O, 3) := rfl
theorem hk_N : hcCl[3]? = some (R_N, F_N, 5) := rfl
theorem hk_M : hcCl[4]? = some (R_M, F_M, 41) := rfl
theorem hcOk : ∀ r ∈ hcCl, (∀ k, k < r.2.2 → (parseFieldDescriptor (r.2.1 k).2.2.1).isSome = true) ∧ (∀ a, a < r.2.2 → ∀ b, b < r.2.2 → a ≠ b → (r.2.1 a).2.1 ≠ (r.2.1 b).2.1) := by decide +kernel
def hcD : vw_C := ("", fun _ => ("", "", "", false), 0)
theorem hc_lt {c : Nat} {r : vw_C} (h : hcCl[c]? = some r) : c < 5 ∧ r = hcCl.getD c hcD := ⟨(List.getElem?_eq_some_iff.mp h).1, by rw [List.getD_eq_getElem?_getD, h]; rfl⟩
theorem hcDef0 : ∀ c, c < 5 → ∀ k, k < (hcCl.getD c hcD).2.2 → defaultValue ((parseFieldDescriptor ((hcCl.getD c hcD).2.1 k).2.2.1).getD .int) = (bif fR c k then Value.null else .int 0) := by decide +kernel
theorem hcDef (c : Nat) (r : vw_C) (h : hcCl[c]? = some r) (k : Nat) (hk : k < r.2.2) : defaultValue ((parseFieldDescriptor (r.2.1 k).2.2.1).getD .int) = (bif fR c k then Value.null else .int 0) := by
  obtain ⟨h1, rfl⟩ := hc_lt h
  exact hcDef0 c h1 k hk
theorem cu_of {R : String} {F : u_T} {n : Nat} {j : Nat → Nat} (h : ∀ k, k < n → tables_1[j k]? = some (u_lay R F k) ∧ goodWord (u_lay R F k) = true) : ∀ w ∈ u_ws R F n, w ∈ lw_tbl ∧ goodWord w = true := by
  intro w hw
  obtain ⟨k, hk, rfl⟩ := List.mem_map.mp hw
  obtain ⟨h1, h2⟩ := h k (List.mem_range.mp hk)
  exact ⟨List.mem_append_right _ (List.mem_of_getElem? h1), h2⟩
theorem cuW (c : Nat) (r : vw_C) (h : hcCl[c]? = some r) : ∀ w ∈ u_ws r.1 r.2.1 r.2.2, w ∈ lw_tbl ∧ goodWord w = true := by
  obtain ⟨h1, rfl⟩ := hc_lt h
  have h2 : c = 0 ∨ c = 1 ∨ c = 2 ∨ c = 3 ∨ c = 4 := by omega
  rcases h2 with rfl | rfl | rfl | rfl | rfl
  · exact cu_of cu_H
  · exact cu_of cu_P
  · exact cu_of cu_O
  · exact cu_of cu_N
  · exact cu_of cu_M
theorem ka_boolean : Cond.arrayClass .boolean ∈ lw_tbl := List.mem_append_right _ (List.mem_of_getElem? (i := 73) (by decide +kernel))
theorem ka_byte : Cond.arrayClass .byte ∈ lw_tbl := List.mem_append_right _ (List.mem_of_getElem? (i := 72) (by decide +kernel))
theorem ka_char : Cond.arrayClass .char ∈ lw_tbl := List.mem_append_right _ (List.mem_of_getElem? (i := 71) (by decide +kernel))
theorem ka_int : Cond.arrayClass .int ∈ lw_tbl := List.mem_append_right _ (List.mem_of_getElem? (i := 92) (by decide +kernel))
theorem ka_long : Cond.arrayClass .long ∈ lw_tbl := List.mem_append_right _ (List.mem_of_getElem? (i := 822) (by decide +kernel))
theorem ki_H : Cond.initialized "HeadCount" ∈ lw_tbl := List.mem_append_right _ (List.mem_of_getElem? (i := 1) (by decide +kernel))
theorem ki_P : Cond.initialized "HeadCount$Parser" ∈ lw_tbl := List.mem_append_right _ (List.mem_of_getElem? (i := 2) (by decide +kernel))
theorem ki_O : Cond.initialized "HeadCount$World" ∈ lw_tbl := List.mem_append_right _ (List.mem_of_getElem? (i := 4) (by decide +kernel))
theorem ki_N : Cond.initialized "HeadCount$Node" ∈ lw_tbl := List.mem_append_right _ (List.mem_of_getElem? (i := 10) (by decide +kernel))
theorem ki_M : Cond.initialized "HeadCountModel" ∈ lw_tbl := List.mem_append_right _ (List.mem_of_getElem? (i := 5) (by decide +kernel))
theorem ki_S : Cond.initialized "java/lang/String" ∈ lw_tbl := List.mem_append_right _ (List.mem_of_getElem? (i := 3) (by decide +kernel))
theorem kn_H : Cond.instantiable "HeadCount" 6 ∈ lw_tbl := List.mem_append_right _ (List.mem_of_getElem? (i := 19) (by decide +kernel))
theorem kn_P : Cond.instantiable "HeadCount$Parser" 8 ∈ lw_tbl := List.mem_append_right _ (List.mem_of_getElem? (i := 27) (by decide +kernel))
theorem kn_O : Cond.instantiable "HeadCount$World" 3 ∈ lw_tbl := List.mem_append_right _ (List.mem_of_getElem? (i := 75) (by decide +kernel))
theorem kn_N : Cond.instantiable "HeadCount$Node" 5 ∈ lw_tbl := List.mem_append_right _ (List.mem_of_getElem? (i := 244) (by decide +kernel))
theorem kn_M : Cond.instantiable "HeadCountModel" 41 ∈ lw_tbl := List.mem_append_right _ (List.mem_of_getElem? (i := 531) (by decide +kernel))
def yH_init : MethodName := ⟨"HeadCount", "<init>", "()V"⟩
abbrev bH_init : ByteArray := prog_1_method_1_code
def yP_init : MethodName := ⟨"HeadCount$Parser", "<init>", "()V"⟩
abbrev bP_init : ByteArray := prog_3_method_1_code
def yS_length : MethodName := ⟨"java/lang/String", "length", "()I"⟩
abbrev bS_length : ByteArray := prog_14_method_54_code
def yS_coder : MethodName := ⟨"java/lang/String", "coder", "()B"⟩
abbrev bS_coder : ByteArray := prog_14_method_152_code
def yO_init : MethodName := ⟨"HeadCount$World", "<init>", "()V"⟩
abbrev bO_init : ByteArray := prog_4_method_1_code
def yH_write : MethodName := ⟨"HeadCount", "write", "(J)Z"⟩
abbrev bH_write : ByteArray := prog_1_method_2_code
def yH_byteAt : MethodName := ⟨"HeadCount", "byteAt", "(JI)I"⟩
abbrev bH_byteAt : ByteArray := prog_1_method_9_code
def yH_append : MethodName := ⟨"HeadCount", "append", "(I)V"⟩
abbrev bH_append : ByteArray := prog_1_method_10_code
def yH_wipe : MethodName := ⟨"HeadCount", "wipe", "()I"⟩
abbrev bH_wipe : ByteArray := prog_1_method_3_code
def yH_length : MethodName := ⟨"HeadCount", "length", "()I"⟩
abbrev bH_length : ByteArray := prog_1_method_8_code
def yL_read : MethodName := ⟨"HeadCountLaw", "read", "(LHeadCount;[J)I"⟩
abbrev bL_read : ByteArray := method_3_code
def yH_read : MethodName := ⟨"HeadCount", "read", "()I"⟩
abbrev bH_read : ByteArray := prog_1_method_4_code
def yP_parse : MethodName := ⟨"HeadCount$Parser", "parse", "([CI)LHeadCount$Node;"⟩
abbrev bP_parse : ByteArray := prog_3_method_2_code
def yP_start : MethodName := ⟨"HeadCount$Parser", "start", "([CI)V"⟩
abbrev bP_start : ByteArray := prog_3_method_3_code
def yP_row : MethodName := ⟨"HeadCount$Parser", "row", "(CI)LHeadCount$Node;"⟩
abbrev bP_row : ByteArray := prog_3_method_4_code
def yP_item : MethodName := ⟨"HeadCount$Parser", "item", "(CI)LHeadCount$Node;"⟩
abbrev bP_item : ByteArray := prog_3_method_5_code
def yP_one : MethodName := ⟨"HeadCount$Parser", "one", "(I)LHeadCount$Node;"⟩
abbrev bP_one : ByteArray := prog_3_method_6_code
def yP_insist : MethodName := ⟨"HeadCount$Parser", "insist", "(Z)V"⟩
abbrev bP_insist : ByteArray := prog_3_method_25_code
def yP_peek : MethodName := ⟨"HeadCount$Parser", "peek", "()C"⟩
abbrev bP_peek : ByteArray := prog_3_method_21_code
def yP_not : MethodName := ⟨"HeadCount$Parser", "not", "(I)LHeadCount$Node;"⟩
abbrev bP_not : ByteArray := prog_3_method_7_code
def yP_next : MethodName := ⟨"HeadCount$Parser", "next", "()C"⟩
abbrev bP_next : ByteArray := prog_3_method_22_code
def yP_make : MethodName := ⟨"HeadCount$Parser", "make", "(C)LHeadCount$Node;"⟩
abbrev bP_make : ByteArray := prog_3_method_24_code
def yN_init : MethodName := ⟨"HeadCount$Node", "<init>", "()V"⟩
abbrev bN_init : ByteArray := prog_2_method_1_code
def yN_reset : MethodName := ⟨"HeadCount$Node", "reset", "(C)V"⟩
abbrev bN_reset : ByteArray := prog_2_method_2_code
def yP_quantified : MethodName := ⟨"HeadCount$Parser", "quantified", "(I)LHeadCount$Node;"⟩
abbrev bP_quantified : ByteArray := prog_3_method_8_code
def yS_indexOf : MethodName := ⟨"java/lang/String", "indexOf", "(I)I"⟩
abbrev bS_indexOf : ByteArray := prog_14_method_79_code
def yS_indexOf2 : MethodName := ⟨"java/lang/String", "indexOf", "(II)I"⟩
abbrev bS_indexOf2 : ByteArray := prog_14_method_80_code
def yS_isLatin1 : MethodName := ⟨"java/lang/String", "isLatin1", "()Z"⟩
abbrev bS_isLatin1 : ByteArray := prog_14_method_154_code
def yT_indexOf : MethodName := ⟨"java/lang/StringLatin1", "indexOf", "([BIII)I"⟩
abbrev bT_indexOf : ByteArray := prog_15_method_22_code
def yT_canEncode : MethodName := ⟨"java/lang/StringLatin1", "canEncode", "(I)Z"⟩
abbrev bT_canEncode : ByteArray := prog_15_method_4_code
def yT_indexOfChar : MethodName := ⟨"java/lang/StringLatin1", "indexOfChar", "([BIII)I"⟩
abbrev bT_indexOfChar : ByteArray := prog_15_method_23_code
def yP_bracketed : MethodName := ⟨"HeadCount$Parser", "bracketed", "(I)LHeadCount$Node;"⟩
abbrev bP_bracketed : ByteArray := prog_3_method_9_code
def yP_take : MethodName := ⟨"HeadCount$Parser", "take", "(C)Z"⟩
abbrev bP_take : ByteArray := prog_3_method_23_code
def yP_comparisonOfSets : MethodName := ⟨"HeadCount$Parser", "comparisonOfSets", "(I)LHeadCount$Node;"⟩
abbrev bP_comparisonOfSets : ByteArray := prog_3_method_10_code
def yP_startsWithDivisor : MethodName := ⟨"HeadCount$Parser", "startsWithDivisor", "()Z"⟩
abbrev bP_startsWithDivisor : ByteArray := prog_3_method_11_code
def yP_isDecimal : MethodName := ⟨"HeadCount$Parser", "isDecimal", "(C)Z"⟩
abbrev bP_isDecimal : ByteArray := prog_3_method_20_code
def yP_number : MethodName := ⟨"HeadCount$Parser", "number", "()I"⟩
abbrev bP_number : ByteArray := prog_3_method_19_code
def yP_divided : MethodName := ⟨"HeadCount$Parser", "divided", "(I)LHeadCount$Node;"⟩
abbrev bP_divided : ByteArray := prog_3_method_12_code
def yP_addSum : MethodName := ⟨"HeadCount$Parser", "addSum", "(LHeadCount$Node;II)V"⟩
abbrev bP_addSum : ByteArray := prog_3_method_14_code
def yP_addPart : MethodName := ⟨"HeadCount$Parser", "addPart", "(LHeadCount$Node;II)V"⟩
abbrev bP_addPart : ByteArray := prog_3_method_15_code
def yP_thing : MethodName := ⟨"HeadCount$Parser", "thing", "(I)LHeadCount$Node;"⟩
abbrev bP_thing : ByteArray := prog_3_method_16_code
def yP_single : MethodName := ⟨"HeadCount$Parser", "single", "(I)LHeadCount$Node;"⟩
abbrev bP_single : ByteArray := prog_3_method_17_code
def yP_boundVariable : MethodName := ⟨"HeadCount$Parser", "boundVariable", "(C)I"⟩
abbrev bP_boundVariable : ByteArray := prog_3_method_18_code
def yP_comparisonOfSums : MethodName := ⟨"HeadCount$Parser", "comparisonOfSums", "(I)LHeadCount$Node;"⟩
abbrev bP_comparisonOfSums : ByteArray := prog_3_method_13_code
def yL_holds : MethodName := ⟨"HeadCountLaw", "holds", "(LHeadCount;I[J)I"⟩
abbrev bL_holds : ByteArray := method_4_code
def yH_holds : MethodName := ⟨"HeadCount", "holds", "(I)Z"⟩
abbrev bH_holds : ByteArray := prog_1_method_5_code
def yH_needSentence : MethodName := ⟨"HeadCount", "needSentence", "()V"⟩
abbrev bH_needSentence : ByteArray := prog_1_method_11_code
def yH_needWorld : MethodName := ⟨"HeadCount", "needWorld", "(I)V"⟩
abbrev bH_needWorld : ByteArray := prog_1_method_12_code
def yH_isTrueIn : MethodName := ⟨"HeadCount", "isTrueIn", "(I)Z"⟩
abbrev bH_isTrueIn : ByteArray := prog_1_method_14_code
def yH_waysIn : MethodName := ⟨"HeadCount", "waysIn", "(I)I"⟩
abbrev bH_waysIn : ByteArray := prog_1_method_13_code
def yO_count : MethodName := ⟨"HeadCount$World", "count", "(LHeadCount$Node;I)I"⟩
abbrev bO_count : ByteArray := prog_4_method_2_code
def yO_isTrue : MethodName := ⟨"HeadCount$World", "isTrue", "(LHeadCount$Node;)Z"⟩
abbrev bO_isTrue : ByteArray := prog_4_method_5_code
def yO_anyIs : MethodName := ⟨"HeadCount$World", "anyIs", "(ZLHeadCount$Node;)Z"⟩
abbrev bO_anyIs : ByteArray := prog_4_method_6_code
def yO_anyChoiceMakes : MethodName := ⟨"HeadCount$World", "anyChoiceMakes", "(ZLHeadCount$Node;)Z"⟩
abbrev bO_anyChoiceMakes : ByteArray := prog_4_method_7_code
def yO_value : MethodName := ⟨"HeadCount$World", "value", "(I)I"⟩
abbrev bO_value : ByteArray := prog_4_method_14_code
def yO_firstChoice : MethodName := ⟨"HeadCount$World", "firstChoice", "(I)I"⟩
abbrev bO_firstChoice : ByteArray := prog_4_method_4_code
def yO_choices : MethodName := ⟨"HeadCount$World", "choices", "(II)I"⟩
abbrev bO_choices : ByteArray := prog_4_method_3_code
def yO_bind : MethodName := ⟨"HeadCount$World", "bind", "(II)V"⟩
abbrev bO_bind : ByteArray := prog_4_method_15_code
def yO_isTrueOfSets : MethodName := ⟨"HeadCount$World", "isTrueOfSets", "(LHeadCount$Node;)Z"⟩
abbrev bO_isTrueOfSets : ByteArray := prog_4_method_8_code
def yO_elements : MethodName := ⟨"HeadCount$World", "elements", "(LHeadCount$Node;)I"⟩
abbrev bO_elements : ByteArray := prog_4_method_11_code
def yO_union : MethodName := ⟨"HeadCount$World", "union", "(LHeadCount$Node;)I"⟩
abbrev bO_union : ByteArray := prog_4_method_12_code
def yO_meet : MethodName := ⟨"HeadCount$World", "meet", "(LHeadCount$Node;)I"⟩
abbrev bO_meet : ByteArray := prog_4_method_13_code
def yO_isTrueOfSum : MethodName := ⟨"HeadCount$World", "isTrueOfSum", "(LHeadCount$Node;)Z"⟩
abbrev bO_isTrueOfSum : ByteArray := prog_4_method_9_code
def yO_amount : MethodName := ⟨"HeadCount$World", "amount", "(LHeadCount$Node;)I"⟩
abbrev bO_amount : ByteArray := prog_4_method_10_code
def yI_bitCount : MethodName := ⟨"java/lang/Integer", "bitCount", "(I)I"⟩
abbrev bI_bitCount : ByteArray := prog_11_method_49_code
def yL_fails : MethodName := ⟨"HeadCountLaw", "fails", "(LHeadCount;[J)I"⟩
abbrev bL_fails : ByteArray := method_5_code
def yH_fails : MethodName := ⟨"HeadCount", "fails", "()I"⟩
abbrev bH_fails : ByteArray := prog_1_method_6_code
def yL_ways : MethodName := ⟨"HeadCountLaw", "ways", "(LHeadCount;I[J)I"⟩
abbrev bL_ways : ByteArray := method_6_code
def yH_ways : MethodName := ⟨"HeadCount", "ways", "(I)I"⟩
abbrev bH_ways : ByteArray := prog_1_method_7_code
def yM_init : MethodName := ⟨"HeadCountModel", "<init>", "()V"⟩
abbrev bM_init : ByteArray := prog_6_method_1_code
def yM_thrown : MethodName := ⟨"HeadCountModel", "thrown", "()I"⟩
abbrev bM_thrown : ByteArray := prog_6_method_2_code
def yM_write : MethodName := ⟨"HeadCountModel", "write", "(J)Z"⟩
abbrev bM_write : ByteArray := prog_6_method_3_code
def yM_wipe : MethodName := ⟨"HeadCountModel", "wipe", "()I"⟩
abbrev bM_wipe : ByteArray := prog_6_method_4_code
def yM_length : MethodName := ⟨"HeadCountModel", "length", "()I"⟩
abbrev bM_length : ByteArray := prog_6_method_5_code
def yM_read : MethodName := ⟨"HeadCountModel", "read", "()I"⟩
abbrev bM_read : ByteArray := prog_6_method_29_code
def yM_isSentence : MethodName := ⟨"HeadCountModel", "isSentence", "()Z"⟩
abbrev bM_isSentence : ByteArray := prog_6_method_28_code
def yM_next : MethodName := ⟨"HeadCountModel", "next", "(C)I"⟩
abbrev bM_next : ByteArray := prog_6_method_27_code
def yM_one : MethodName := ⟨"HeadCountModel", "one", "(C)I"⟩
abbrev bM_one : ByteArray := prog_6_method_14_code
def yM_deeper : MethodName := ⟨"HeadCountModel", "deeper", "(I)Z"⟩
abbrev bM_deeper : ByteArray := prog_6_method_9_code
def yM_push : MethodName := ⟨"HeadCountModel", "push", "(I)V"⟩
abbrev bM_push : ByteArray := prog_6_method_8_code
def yM_sum : MethodName := ⟨"HeadCountModel", "sum", "(C)I"⟩
abbrev bM_sum : ByteArray := prog_6_method_18_code
def yM_part : MethodName := ⟨"HeadCountModel", "part", "(C)I"⟩
abbrev bM_part : ByteArray := prog_6_method_19_code
def yM_isDigit : MethodName := ⟨"HeadCountModel", "isDigit", "(C)Z"⟩
abbrev bM_isDigit : ByteArray := prog_6_method_13_code
def yM_thing : MethodName := ⟨"HeadCountModel", "thing", "(C)I"⟩
abbrev bM_thing : ByteArray := prog_6_method_21_code
def yM_variableOf : MethodName := ⟨"HeadCountModel", "variableOf", "(C)I"⟩
abbrev bM_variableOf : ByteArray := prog_6_method_12_code
def yM_emit : MethodName := ⟨"HeadCountModel", "emit", "(II)V"⟩
abbrev bM_emit : ByteArray := prog_6_method_6_code
def yM_wholePart : MethodName := ⟨"HeadCountModel", "wholePart", "()V"⟩
abbrev bM_wholePart : ByteArray := prog_6_method_22_code
def yM_afterOne : MethodName := ⟨"HeadCountModel", "afterOne", "(C)I"⟩
abbrev bM_afterOne : ByteArray := prog_6_method_17_code
def yM_settle : MethodName := ⟨"HeadCountModel", "settle", "(II)V"⟩
abbrev bM_settle : ByteArray := prog_6_method_11_code
def yM_upper : MethodName := ⟨"HeadCountModel", "upper", "()I"⟩
abbrev bM_upper : ByteArray := prog_6_method_7_code
def yM_close : MethodName := ⟨"HeadCountModel", "close", "()V"⟩
abbrev bM_close : ByteArray := prog_6_method_10_code
def yM_wholeOne : MethodName := ⟨"HeadCountModel", "wholeOne", "()I"⟩
abbrev bM_wholeOne : ByteArray := prog_6_method_16_code
def yM_bound : MethodName := ⟨"HeadCountModel", "bound", "(C)I"⟩
abbrev bM_bound : ByteArray := prog_6_method_15_code
def yM_afterNumber : MethodName := ⟨"HeadCountModel", "afterNumber", "(C)I"⟩
abbrev bM_afterNumber : ByteArray := prog_6_method_20_code
def yM_afterPart : MethodName := ⟨"HeadCountModel", "afterPart", "(C)I"⟩
abbrev bM_afterPart : ByteArray := prog_6_method_23_code
def yM_single : MethodName := ⟨"HeadCountModel", "single", "(C)I"⟩
abbrev bM_single : ByteArray := prog_6_method_24_code
def yM_wholeSingle : MethodName := ⟨"HeadCountModel", "wholeSingle", "()I"⟩
abbrev bM_wholeSingle : ByteArray := prog_6_method_25_code
def yM_afterSingle : MethodName := ⟨"HeadCountModel", "afterSingle", "(C)I"⟩
abbrev bM_afterSingle : ByteArray := prog_6_method_26_code
def yM_holds : MethodName := ⟨"HeadCountModel", "holds", "(I)Z"⟩
abbrev bM_holds : ByteArray := prog_6_method_40_code
def yM_isSize : MethodName := ⟨"HeadCountModel", "isSize", "(I)Z"⟩
abbrev bM_isSize : ByteArray := prog_6_method_39_code
def yM_run : MethodName := ⟨"HeadCountModel", "run", "(IZ)Z"⟩
abbrev bM_run : ByteArray := prog_6_method_38_code
def yM_pop : MethodName := ⟨"HeadCountModel", "pop", "()I"⟩
abbrev bM_pop : ByteArray := prog_6_method_31_code
def yM_ends : MethodName := ⟨"HeadCountModel", "ends", "(IIZ)Z"⟩
abbrev bM_ends : ByteArray := prog_6_method_36_code
def yM_lastOf : MethodName := ⟨"HeadCountModel", "lastOf", "(I)I"⟩
abbrev bM_lastOf : ByteArray := prog_6_method_35_code
def yM_put : MethodName := ⟨"HeadCountModel", "put", "(I)V"⟩
abbrev bM_put : ByteArray := prog_6_method_30_code
def yM_doSum : MethodName := ⟨"HeadCountModel", "doSum", "(II)V"⟩
abbrev bM_doSum : ByteArray := prog_6_method_33_code
def yM_count : MethodName := ⟨"HeadCountModel", "count", "(I)I"⟩
abbrev bM_count : ByteArray := prog_6_method_32_code
def yM_doOther : MethodName := ⟨"HeadCountModel", "doOther", "(I)V"⟩
abbrev bM_doOther : ByteArray := prog_6_method_34_code
def yM_fails : MethodName := ⟨"HeadCountModel", "fails", "()I"⟩
abbrev bM_fails : ByteArray := prog_6_method_41_code
def yM_ways : MethodName := ⟨"HeadCountModel", "ways", "(I)I"⟩
abbrev bM_ways : ByteArray := prog_6_method_42_code
def yM_isLoop : MethodName := ⟨"HeadCountModel", "isLoop", "()Z"⟩
abbrev bM_isLoop : ByteArray := prog_6_method_37_code
def yL_law : MethodName := ⟨"HeadCountLaw", "law", "([I)Z"⟩
abbrev bL_law : ByteArray := code
end
section
/-! The memory of both sides and of the law's own row, as plain functions: ints, references, longs by (cell, place); the kind and the length of a cell; how many cells there are, how many slots were made, and up to where cells may be made. -/
abbrev Mem : Type := (Nat → Nat → Int32) × (Nat → Nat → Option Nat) × (Nat → Nat → Int64) × (Nat → Nat) × (Nat → Nat) × Nat × Nat × (Nat → Nat)
def mI (M : Mem) : Nat → Nat → Int32 := M.1
def mP (M : Mem) : Nat → Nat → Option Nat := M.2.1
def mJ (M : Mem) : Nat → Nat → Int64 := M.2.2.1
def mK (M : Mem) : Nat → Nat := M.2.2.2.1
def mL (M : Mem) : Nat → Nat := M.2.2.2.2.1
def mS (M : Mem) : Nat := M.2.2.2.2.2.1
def mU (M : Mem) : Nat := M.2.2.2.2.2.2.1
def mC (M : Mem) : Nat → Nat := M.2.2.2.2.2.2.2
def fu {α : Type} (f : Nat → Nat → α) (a k : Nat) (v : α) : Nat → Nat → α := fun b j => if b = a ∧ j = k then v else f b j
def fz {α : Type} (f : Nat → Nat → α) (a : Nat) (v : α) : Nat → Nat → α := fun b j => if b = a then v else f b j
def setI (M : Mem) (a k : Nat) (v : Int32) : Mem := (fu M.1 a k v, M.2)
def setP (M : Mem) (a k : Nat) (v : Option Nat) : Mem := (M.1, fu M.2.1 a k v, M.2.2)
def setJ (M : Mem) (a k : Nat) (v : Int64) : Mem := (M.1, M.2.1, fu M.2.2.1 a k v, M.2.2.2)
/-- a new cell at the end: kind kd, length ln, sl slots, all its places 0 or null -/
def newC (M : Mem) (kd ln sl : Nat) : Mem := (fz M.1 (mS M) 0, fz M.2.1 (mS M) none, fz M.2.2.1 (mS M) 0, va_up (mK M) (mS M) kd, va_up (mL M) (mS M) ln, mS M + 1, mU M + sl, mC M)
theorem fu_eq {α : Type} (f : Nat → Nat → α) (a k : Nat) (v : α) : fu f a k v a k = v := by simp [fu]
theorem fu_ne {α : Type} (f : Nat → Nat → α) {a k b j : Nat} (v : α) (h : ¬ (b = a ∧ j = k)) : fu f a k v b j = f b j := by simp [fu, h]
theorem fu_row {α : Type} (f : Nat → Nat → α) {a k b : Nat} (v : α) (h : b ≠ a) : fu f a k v b = f b := by funext j; simp [fu, h]
theorem fz_row {α : Type} (f : Nat → Nat → α) {a b : Nat} (v : α) (h : b ≠ a) : fz f a v b = f b := by funext j; simp [fz, h]
theorem fz_eq {α : Type} (f : Nat → Nat → α) (a : Nat) (v : α) (j : Nat) : fz f a v a j = v := by simp [fz]
section MemSimp
variable (M : Mem) (a k : Nat)
theorem mI_setI (v : Int32) : mI (setI M a k v) = fu (mI M) a k v := rfl
theorem mP_setI (v : Int32) : mP (setI M a k v) = mP M := rfl
theorem mJ_setI (v : Int32) : mJ (setI M a k v) = mJ M := rfl
theorem mK_setI (v : Int32) : mK (setI M a k v) = mK M := rfl
theorem mL_setI (v : Int32) : mL (setI M a k v) = mL M := rfl
theorem mS_setI (v : Int32) : mS (setI M a k v) = mS M := rfl
theorem mU_setI (v : Int32) : mU (setI M a k v) = mU M := rfl
theorem mC_setI (v : Int32) : mC (setI M a k v) = mC M := rfl
theorem mI_setP (v : Option Nat) : mI (setP M a k v) = mI M := rfl
theorem mP_setP (v : Option Nat) : mP (setP M a k v) = fu (mP M) a k v := rfl
theorem mJ_setP (v : Option Nat) : mJ (setP M a k v) = mJ M := rfl
theorem mK_setP (v : Option Nat) : mK (setP M a k v) = mK M := rfl
theorem mL_setP (v : Option Nat) : mL (setP M a k v) = mL M := rfl
theorem mS_setP (v : Option Nat) : mS (setP M a k v) = mS M := rfl
theorem mU_setP (v : Option Nat) : mU (setP M a k v) = mU M := rfl
theorem mC_setP (v : Option Nat) : mC (setP M a k v) = mC M := rfl
theorem mI_setJ (v : Int64) : mI (setJ M a k v) = mI M := rfl
theorem mP_setJ (v : Int64) : mP (setJ M a k v) = mP M := rfl
theorem mJ_setJ (v : Int64) : mJ (setJ M a k v) = fu (mJ M) a k v := rfl
theorem mK_setJ (v : Int64) : mK (setJ M a k v) = mK M := rfl
theorem mL_setJ (v : Int64) : mL (setJ M a k v) = mL M := rfl
theorem mS_setJ (v : Int64) : mS (setJ M a k v) = mS M := rfl
theorem mU_setJ (v : Int64) : mU (setJ M a k v) = mU M := rfl
theorem mC_setJ (v : Int64) : mC (setJ M a k v) = mC M := rfl
variable (kd ln sl : Nat)
theorem mI_newC : mI (newC M kd ln sl) = fz (mI M) (mS M) 0 := rfl
theorem mP_newC : mP (newC M kd ln sl) = fz (mP M) (mS M) none := rfl
theorem mJ_newC : mJ (newC M kd ln sl) = fz (mJ M) (mS M) 0 := rfl
theorem mK_newC : mK (newC M kd ln sl) = va_up (mK M) (mS M) kd := rfl
theorem mL_newC : mL (newC M kd ln sl) = va_up (mL M) (mS M) ln := rfl
theorem mS_newC : mS (newC M kd ln sl) = mS M + 1 := rfl
theorem mU_newC : mU (newC M kd ln sl) = mU M + sl := rfl
theorem mC_newC : mC (newC M kd ln sl) = mC M := rfl
end MemSimp
/-- what a run of a method comes to: nothing (it isn't safe), or an answer, or the number of what is thrown, and the memory behind it -/
abbrev Rz : Type := Option ((Option Value ⊕ Nat) × Mem)
theorem rz_chk {c : Prop} [Decidable c] {X : Rz} {r : (Option Value ⊕ Nat) × Mem} (h : (if c then X else none) = some r) : c ∧ X = some r := by
  by_cases hc : c
  · rw [if_pos hc] at h; exact ⟨hc, h⟩
  · rw [if_neg hc] at h; cases h
theorem rz_br {c : Prop} [Decidable c] {X Y : Rz} {r : (Option Value ⊕ Nat) × Mem} (h : (if c then X else Y) = some r) : (c ∧ X = some r) ∨ (¬ c ∧ Y = some r) := by
  by_cases hc : c
  · rw [if_pos hc] at h; exact Or.inl ⟨hc, h⟩
  · rw [if_neg hc] at h; exact Or.inr ⟨hc, h⟩
/-- a reference that must not be null -/
def rzD (r : Option Nat) (k : Nat → Rz) : Rz := match r with
  | none => none
  | some a => k a
theorem rz_d {r : Option Nat} {k : Nat → Rz} {x : (Option Value ⊕ Nat) × Mem} (h : rzD r k = some x) : ∃ a, r = some a ∧ k a = some x := by
  cases r with
  | none => cases h
  | some a => exact ⟨a, rfl, h⟩
/-- a call: an answer goes on, what is thrown goes out -/
def rzC (c : Rz) (k : Option Value → Mem → Rz) : Rz := match c with
  | none => none
  | some (.inl v, M) => k v M
  | some (.inr x, M) => some (.inr x, M)
theorem rz_c {c : Rz} {k : Option Value → Mem → Rz} {x : (Option Value ⊕ Nat) × Mem} (h : rzC c k = some x) : ∃ r M, c = some (r, M) ∧ ((∃ v, r = .inl v ∧ k v M = some x) ∨ (∃ e, r = .inr e ∧ x = (.inr e, M))) := by
  rcases c with _ | ⟨v | e, M⟩
  · cases h
  · exact ⟨_, _, rfl, Or.inl ⟨v, rfl, h⟩⟩
  · exact ⟨_, _, rfl, Or.inr ⟨e, rfl, (Option.some.inj h).symm⟩⟩
/-- an answer that is an int; a reference; nothing -/
def rzI (v : Option Value) (k : Int32 → Rz) : Rz := match v with
  | some (.int x) => k x
  | _ => none
def rzP (v : Option Value) (k : Option Nat → Rz) : Rz := match v with
  | some .null => k none
  | some (.ref a) => k (some a)
  | _ => none
def rzV (v : Option Value) (k : Rz) : Rz := match v with
  | none => k
  | _ => none
theorem rz_i {v : Option Value} {k : Int32 → Rz} {x : (Option Value ⊕ Nat) × Mem} (h : rzI v k = some x) : ∃ y, v = some (.int y) ∧ k y = some x := by
  unfold rzI at h
  split at h
  · exact ⟨_, rfl, h⟩
  · cases h
theorem rz_p {v : Option Value} {k : Option Nat → Rz} {x : (Option Value ⊕ Nat) × Mem} (h : rzP v k = some x) : ∃ r, v = some (va_rf r) ∧ k r = some x := by
  unfold rzP at h
  split at h
  · exact ⟨none, rfl, h⟩
  · exact ⟨some _, rfl, h⟩
  · cases h
theorem rz_v {v : Option Value} {k : Rz} {x : (Option Value ⊕ Nat) × Mem} (h : rzV v k = some x) : v = none ∧ k = some x := by
  unfold rzV at h
  split at h
  · exact ⟨rfl, h⟩
  · cases h
end
section
/-! The heap holds the memory: what each kind of cell is. G: where the law's own cells begin, the heap as it was there, the numbers and slots of the kinds of objects, the kinds of arrays. -/
abbrev Gx : Type := Nat × Heap × va_G × (Nat → ClassId) × (Nat → Nat)
abbrev gZ (G : Gx) : Nat := G.1
abbrev gH (G : Gx) : Heap := G.2.1
abbrev gD (G : Gx) : va_G := G.2.2.1
abbrev gA (G : Gx) : Nat → ClassId := G.2.2.2.1
abbrev gC (G : Gx) : Nat → Nat := G.2.2.2.2
def fV (M : Mem) (a c k : Nat) : Value := bif fR c k then va_rf (mP M a k) else .int (mI M a k)
def aE (M : Mem) (kd a : Nat) : vp_A := if kd = 24 then (mL M a, .inr (.inl (mJ M a))) else if kd = 25 then (mL M a, .inr (.inr (.inr (.inr (mP M a))))) else (mL M a, .inl (mI M a))
def RealAt (D : va_G) (aC : Nat → ClassId) (M : Mem) (H : Heap) (a : Nat) : Prop :=
  (∀ (c : Nat) (r : vw_C), mK M a = c + 1 → hcCl[c]? = some r → t_OB a (D.1 c) r.2.2 (D.2 c) H (fV M a c)) ∧ (21 ≤ mK M a → H[a]? = some (vp_cell (aC (mK M a)) (aE M (mK M a) a)))
def Real (G : Gx) (M : Mem) (H : Heap) : Prop :=
  H.size = mS M ∧ gZ G ≤ mS M ∧ (∀ q : Nat, q < gZ G → H[q]? = (gH G)[q]?) ∧ ∀ a : Nat, mK M a ≠ 0 → gZ G ≤ a ∧ a < mS M ∧ RealAt (gD G) (gA G) M H a
/-- the most slots that may be made -/
def SLm : Nat := room_1.slots
theorem fV_row {M M' : Mem} {a c : Nat} (hI : mI M' a = mI M a) (hP : mP M' a = mP M a) : fV M' a c = fV M a c := by
  funext k
  simp only [fV, hI, hP]
theorem aE_row {M M' : Mem} {kd a : Nat} (hI : mI M' a = mI M a) (hP : mP M' a = mP M a) (hJ : mJ M' a = mJ M a) (hL : mL M' a = mL M a) : aE M' kd a = aE M kd a := by
  simp only [aE, hI, hP, hJ, hL]
theorem RealAt.kept {D : va_G} {aC : Nat → ClassId} {M M' : Mem} {H H' : Heap} {a : Nat} (h : RealAt D aC M H a) (hq : H'[a]? = H[a]?) (hK : mK M' a = mK M a) (hI : mI M' a = mI M a) (hP : mP M' a = mP M a) (hJ : mJ M' a = mJ M a) (hL : mL M' a = mL M a) : RealAt D aC M' H' a := by
  refine ⟨fun c r h1 h2 => ?_, fun h1 => ?_⟩
  · rw [fV_row hI hP]
    exact (h.1 c r (by rw [← hK]; exact h1) h2).kept hq
  · rw [aE_row hI hP hJ hL, hK, hq]
    exact h.2 (by rw [← hK]; exact h1)
/-- one cell has changed -/
theorem Real.upd {G : Gx} {M M' : Mem} {H H' : Heap} {a : Nat} (h : Real G M H) (ha : mK M a ≠ 0) (hs : H'.size = H.size) (ho : ∀ q : Nat, q ≠ a → H'[q]? = H[q]?)
    (hK : mK M' = mK M) (hL : mL M' = mL M) (hS : mS M' = mS M) (hI : ∀ b, b ≠ a → mI M' b = mI M b) (hP : ∀ b, b ≠ a → mP M' b = mP M b) (hJ : ∀ b, b ≠ a → mJ M' b = mJ M b)
    (hat : RealAt (gD G) (gA G) M' H' a) : Real G M' H' := by
  obtain ⟨h1, h2, h3, h4⟩ := h
  have ha1 := (h4 a ha).1
  refine ⟨by rw [hs, hS]; exact h1, by rw [hS]; exact h2, fun q hq => (ho q (by omega)).trans (h3 q hq), fun b hb => ?_⟩
  rw [hK] at hb
  obtain ⟨g1, g2, g3⟩ := h4 b hb
  refine ⟨g1, by rw [hS]; exact g2, ?_⟩
  by_cases hba : b = a
  · subst hba; exact hat
  · exact g3.kept (ho b hba) (by rw [hK]) (hI b hba) (hP b hba) (hJ b hba) (by rw [hL])
/-- one cell more -/
theorem Real.new {G : Gx} {M : Mem} {H H' : Heap} (h : Real G M H) (kd ln sl : Nat) (hs : H'.size = H.size + 1) (ho : ∀ q : Nat, q < H.size → H'[q]? = H[q]?)
    (hat : kd ≠ 0 → RealAt (gD G) (gA G) (newC M kd ln sl) H' (mS M)) : Real G (newC M kd ln sl) H' := by
  obtain ⟨h1, h2, h3, h4⟩ := h
  refine ⟨by rw [hs, h1, mS_newC], by rw [mS_newC]; omega, fun q hq => (ho q (by omega)).trans (h3 q hq), fun b hb => ?_⟩
  rw [mK_newC] at hb
  by_cases hba : b = mS M
  · subst hba
    rw [va_up_self] at hb
    exact ⟨h2, by rw [mS_newC]; omega, hat hb⟩
  · rw [va_up_ne _ _ hba] at hb
    obtain ⟨g1, g2, g3⟩ := h4 b hb
    refine ⟨g1, by rw [mS_newC]; omega, g3.kept (ho b (by omega)) (by rw [mK_newC, va_up_ne _ _ hba]) (by rw [mI_newC, fz_row _ _ hba]) (by rw [mP_newC, fz_row _ _ hba]) (by rw [mJ_newC, fz_row _ _ hba]) (by rw [mL_newC, va_up_ne _ _ hba])⟩
theorem Real.at {G : Gx} {M : Mem} {H : Heap} {a : Nat} (h : Real G M H) (hk : mK M a ≠ 0) : RealAt (gD G) (gA G) M H a := (h.2.2.2 a hk).2.2
theorem Real.obj {G : Gx} {M : Mem} {H : Heap} {a c : Nat} {r : vw_C} (h : Real G M H) (hk : mK M a = c + 1) (hc : hcCl[c]? = some r) : t_OB a ((gD G).1 c) r.2.2 ((gD G).2 c) H (fV M a c) :=
  (h.at (by rw [hk]; exact Nat.succ_ne_zero c)).1 c r hk hc
theorem Real.arr {G : Gx} {M : Mem} {H : Heap} {a : Nat} (kd : Nat) (h : Real G M H) (hk : mK M a = kd) (h21 : 21 ≤ kd) : H[a]? = some (vp_cell ((gA G) kd) (aE M kd a)) := by
  have h1 := (h.at (by rw [hk]; omega)).2 (by rw [hk]; exact h21)
  rw [hk] at h1
  exact h1
theorem Real.lo {G : Gx} {M : Mem} {H : Heap} {a : Nat} (h : Real G M H) (hk : mK M a ≠ 0) : gZ G ≤ a := (h.2.2.2 a hk).1
theorem fV_setI {M : Mem} {a c k : Nat} {v : Int32} (hr : fR c k = false) : fV (setI M a k v) a c = updV (fV M a c) k (.int v) := by
  funext j
  by_cases hj : j = k
  · subst hj; simp [fV, updV, hr, mI_setI, fu]
  · simp [fV, updV, hj, mI_setI, mP_setI, fu]
theorem fV_setP {M : Mem} {a c k : Nat} {v : Option Nat} (hr : fR c k = true) : fV (setP M a k v) a c = updV (fV M a c) k (va_rf v) := by
  funext j
  by_cases hj : j = k
  · subst hj; simp [fV, updV, hr, mP_setP, fu]
  · simp [fV, updV, hj, mI_setP, mP_setP, fu]
/-- the memory, the places written, the cells and slots made since the method's start M0 -/
def RL (G : Gx) (M0 M : Mem) (H : Heap) (locs : List Loc) (cells slots : Nat) : Prop :=
  Real G M H ∧ (∀ q ∈ locs, gZ G ≤ q.base) ∧ cells + mS M0 = mS M ∧ slots + mU M0 = mU M ∧ mC M = gC G ∧ mS M ≤ mC M 0 ∧ mU M ≤ SLm
theorem RL.put {G : Gx} {M0 M M' : Mem} {H H' : Heap} {locs : List Loc} {cells slots a i : Nat} (h : RL G M0 M H locs cells slots) (ha : gZ G ≤ a) (hS : mS M' = mS M) (hU : mU M' = mU M) (hC : mC M' = mC M) (hR : Real G M' H') : RL G M0 M' H' (locs ++ [⟨a, i⟩]) cells slots :=
  ⟨hR, t_lc (free := fun q => gZ G ≤ q) h.2.1 ha, by rw [hS]; exact h.2.2.1, by rw [hU]; exact h.2.2.2.1, by rw [hC]; exact h.2.2.2.2.1, by rw [hS, hC]; exact h.2.2.2.2.2.1, by rw [hU]; exact h.2.2.2.2.2.2⟩
end
section
/-! rows: reading and writing the memory -/
abbrev gO (G : Gx) : Nat → Prop := fun q => gZ G ≤ q
/-- a static of the library's that holds a reference, in the old part of the heap -/
def StF (C n d : String) (G : Gx) (U : State) : Prop := ∃ (c : ClassId) (k : Class) (i : Nat) (f : Field) (a : Nat) (cell : Cell) (v : Value), U.vm.findClass C = some c ∧ U.fieldFound? C n d = some (c, k, i, f) ∧ f.isStatic = true ∧ k.statics = some a ∧ (gH G)[a]? = some cell ∧ cell.vm.isStatics = true ∧ cell.cls = c ∧ f.slot < cell.slots.size ∧ k.staticTypes[f.slot]? = some f.type ∧ cell.slots[f.slot]? = some v ∧ v.isRef = true ∧ a < gZ G
theorem StF.moved {C n d : String} {G : Gx} {u U : State} (hvm : u.vm.Alike U.vm) (h : StF C n d G u) : StF C n d G U := by
  obtain ⟨c, k, i, f, a, cell, v, h1, h2, h3, h4, h5, h6, h7, h8, h9, h10⟩ := h
  obtain ⟨k', hi', he⟩ := State.fieldFound?_setVm hvm h2
  exact ⟨c, k', i, f, a, cell, v, by rw [hvm.findClass]; exact h1, hi', h3, by rw [he]; exact h4, h5, h6, h7, h8, by rw [he]; exact h9, h10⟩
/-- the text's own signs of the variables -/
def sVar : List Int32 := [105, 106, 107, 88, 89, 90]
/-- what the old part of the heap holds -/
def Old (G : Gx) (s : State) : Prop := (vk_R "HeadCount$Parser" 15 "ijkXYZ" (gC G 1) s ∧ vk_R "HeadCount$World" 9 "ijkXYZ" (gC G 1) s ∧ vk_R "HeadCount$Parser" 154 "the text is no sentence" (gC G 2) s ∧ vk_R "HeadCount" 70 "there is no sentence" (gC G 3) s ∧ vk_R "HeadCount" 77 "no world has so many elements" (gC G 4) s) ∧
  vk_S 1 [6] [sVar] (fun _ => gC G 1) (fun _ => gC G 5) (gO G) s (gH G) ∧ va_Z "java/lang/String" "COMPACT_STRINGS" "Z" (.int 1) (gO G) s (gH G) ∧ StF "java/lang/Throwable" "UNASSIGNED_STACK" "[Ljava/lang/StackTraceElement;" G s ∧ StF "java/lang/Throwable" "SUPPRESSED_SENTINEL" "Ljava/util/List;" G s ∧ va_Nc "java/lang/IllegalArgumentException" "java/lang/IllegalStateException" s ∧ va_Nw (.methodLinkNest "HeadCount$Parser" 147 yN_init "HeadCount") s
theorem Old.moved {G : Gx} {s U : State} (hW : s.WarmedH U.vm) (h : Old G s) : Old G U := by
  obtain ⟨⟨a1, a2, a3, a4, a5⟩, b1, b2, b3, b4, b5, b6⟩ := h
  exact ⟨⟨a1.warm hW, a2.warm hW, a3.warm hW, a4.warm hW, a5.warm hW⟩, b1.moved hW.alike, b2.moved hW.alike, b3.moved hW.alike, b4.moved hW.alike, b5.moved hW.alike, b6.warmM hW⟩
def aTys (G : Gx) : List (ClassId × FieldType) := [((gA G) 21, .int), ((gA G) 22, .char), ((gA G) 23, .boolean), ((gA G) 24, .long), ((gA G) 25, .object "HeadCount$Node")]
/-- what holds at each method's start -/
def Kst (G : Gx) (s : State) : Prop := (∀ w ∈ lw_tbl, goodWord w = true → ∀ a : Array Value, w.before a s = true) ∧ va_K (gD G) hcCl (aTys G) s ∧ va_AO "HeadCount$Node" s ∧ Old G s
theorem Kst.w {G : Gx} {s : State} (h : Kst G s) {w : Cond} (hw : w ∈ lw_tbl) (hg : goodWord w = true) (a : Array Value) : w.before a s = true := h.1 w hw hg a
theorem Kst.moved {G : Gx} {s U : State} (h : Kst G s) (hW : s.WarmedH U.vm) : Kst G U :=
  ⟨fun w hw hg a => word_at hW (good_of_word hg) (h.1 w hw hg #[]), va_K.moved hW.alike h.2.1, h.2.2.1.moved hW.alike, Old.moved hW h.2.2.2⟩
theorem Kst.uw {G : Gx} {s : State} (h : Kst G s) {c : Nat} {r : vw_C} (hc : hcCl[c]? = some r) (a : Array Value) : ∀ w ∈ u_ws r.1 r.2.1 r.2.2, w.before a s = true :=
  fun w hw => h.1 w (cuW c r hc w hw).1 (cuW c r hc w hw).2 a
abbrev inA (i : Int32) (n : Nat) : Prop := ¬ (i < 0 ∨ n ≤ i.toNatClampNeg)
theorem nar_fit {ty : FieldType} {x : Int32} (h : fits ty (.int x) = true) (ht : ty = .int ∨ ty = .char ∨ ty = .boolean) : narrow ty (.int x) = .int x := by
  rcases ht with rfl | rfl | rfl
  · rfl
  · have h1 : (decide (0 ≤ x) && decide (x ≤ 65535)) = true := h
    simp only [Bool.and_eq_true, decide_eq_true_eq] at h1
    obtain ⟨j, hj, rfl⟩ := nI_of2 (M := 65535) (n := 65535) (by decide) (by
      intro q
      rw [Int32.lt_iff_toInt_lt] at q
      have h3 := h1.1
      rw [Int32.le_iff_toInt_le] at h3
      omega) h1.2
    exact (pk_charN (by omega)).1
  · have h1 : (x == 0 || x == 1) = true := h
    simp only [Bool.or_eq_true, beq_iff_eq] at h1
    rcases h1 with rfl | rfl
    · decide
    · decide
theorem nar_ref (r : Option Nat) {ty : FieldType} (ht : (∃ n, ty = .object n) ∨ ∃ t, ty = .array t) : narrow ty (va_rf r) = va_rf r := by
  rcases ht with ⟨n, rfl⟩ | ⟨t, rfl⟩ <;> cases r <;> rfl
theorem fit_ref (r : Option Nat) {ty : FieldType} (ht : (∃ n, ty = .object n) ∨ ∃ t, ty = .array t) : fits ty (va_rf r) = true := by
  rcases ht with ⟨n, rfl⟩ | ⟨t, rfl⟩ <;> cases r <;> rfl
/-- the slots of a kind are apart -/
theorem cuA {G : Gx} {s : State} (hK : Kst G s) {ci : Nat} {C : String} {T : u_T} {N : Nat} (hc : hcCl[ci]? = some (C, T, N)) : ∀ x y, x < N → y < N → x ≠ y → ((gD G).2 ci) x ≠ ((gD G).2 ci) y := by
  have hok := hcOk (C, T, N) (List.mem_of_getElem? hc)
  refine va_apart (own := C) (args := #[]) (hK.uw hc #[]) (fun _ h => h) (fun k => (parseFieldDescriptor (T k).2.2.1).getD .int) (fun k hk => ?_) hok.2 hK.2.1 hc
  have h1 := hok.1 k hk
  cases hp : parseFieldDescriptor (T k).2.2.1 with
  | none => rw [hp] at h1; cases h1
  | some t => rfl
section Rows
variable {p : Program} {l : Launch} {e : Env} {R : Room} {s : State} {m : MethodId} {args : Array Value} {below : List Frame} {meth : Method} {c : Code} {H : Heap} {locs : List Loc} {cells slots : Nat} {Q : State → Prop}
variable {cc : ByteArray} {pc : Nat} {ls : Array Slot} {rest : List Value} {G : Gx} {M0 M : Mem} {a : Nat}
theorem rg_get (hx : p.tables.exec = Jvm.exec) (hb : c.code = cc) {own C : String} {T : u_T} {N ci index : Nat} (hown : s.vm.findClass own = some m.cls) (hK : Kst G s) (hR : RL G M0 M H locs cells slots) (hc : hcCl[ci]? = some (C, T, N)) (k : Nat) (hk : k < N) (hl : Cond.fieldLink own index (T k).1 (T k).2.1 (T k).2.2.1 ∈ lw_tbl) (ha : mK M a = ci + 1) (hdg : decode cc pc = .ok (.getfield index, 3))
    (kk : W p l e R s m args below meth c H locs cells slots Q (F0 m (pc + 3) ls (fV M a ci k :: rest))) : W p l e R s m args below meth c H locs cells slots Q (F0 m pc ls (.ref a :: rest)) := by
  obtain ⟨cell, q1, q2, q3, q4⟩ := hR.1.obj ha hc
  obtain ⟨hS, hfc, kC, hkC, hkind⟩ := hK.2.1.1 ci _ hc
  obtain ⟨cf, kf, fi, f, hi, hsl⟩ := hS k hk
  refine W.getf hx hb hown (hK.w hl rfl args) hi (u_facts hfc hkC (u_lays (hK.uw hc args) (fun _ h => h) hk) hi).1 q1 (by rw [q3]; exact fun h => by cases h) (v := fV M a ci k) ?_ rfl rfl hdg kk
  rw [hsl, q4 k hk]
theorem rg_getI (hx : p.tables.exec = Jvm.exec) (hb : c.code = cc) {own C : String} {T : u_T} {N ci index : Nat} (hown : s.vm.findClass own = some m.cls) (hK : Kst G s) (hR : RL G M0 M H locs cells slots) (hc : hcCl[ci]? = some (C, T, N)) (k : Nat) (hk : k < N) (hl : Cond.fieldLink own index (T k).1 (T k).2.1 (T k).2.2.1 ∈ lw_tbl) (hf : fR ci k = false) (ha : mK M a = ci + 1) (hdg : decode cc pc = .ok (.getfield index, 3))
    (kk : W p l e R s m args below meth c H locs cells slots Q (F0 m (pc + 3) ls (.int (mI M a k) :: rest))) : W p l e R s m args below meth c H locs cells slots Q (F0 m pc ls (.ref a :: rest)) :=
  rg_get hx hb hown hK hR hc k hk hl ha hdg (by
    have h1 : fV M a ci k = .int (mI M a k) := by simp [fV, hf]
    rw [h1]; exact kk)
theorem rg_getP (hx : p.tables.exec = Jvm.exec) (hb : c.code = cc) {own C : String} {T : u_T} {N ci index : Nat} (hown : s.vm.findClass own = some m.cls) (hK : Kst G s) (hR : RL G M0 M H locs cells slots) (hc : hcCl[ci]? = some (C, T, N)) (k : Nat) (hk : k < N) (hl : Cond.fieldLink own index (T k).1 (T k).2.1 (T k).2.2.1 ∈ lw_tbl) (hf : fR ci k = true) (ha : mK M a = ci + 1) (hdg : decode cc pc = .ok (.getfield index, 3))
    (kk : W p l e R s m args below meth c H locs cells slots Q (F0 m (pc + 3) ls (va_rf (mP M a k) :: rest))) : W p l e R s m args below meth c H locs cells slots Q (F0 m pc ls (.ref a :: rest)) :=
  rg_get hx hb hown hK hR hc k hk hl ha hdg (by
    have h1 : fV M a ci k = va_rf (mP M a k) := by simp [fV, hf]
    rw [h1]; exact kk)
/-- a field is written (not a final one) -/
theorem rg_put (hx : p.tables.exec = Jvm.exec) (hb : c.code = cc) {own C : String} {T : u_T} {N ci index : Nat} (hown : s.vm.findClass own = some m.cls) (hK : Kst G s) (hR : RL G M0 M H locs cells slots) (hc : hcCl[ci]? = some (C, T, N)) (k : Nat) (hk : k < N) (hl : Cond.fieldLink own index (T k).1 (T k).2.1 (T k).2.2.1 ∈ lw_tbl) (hfin : (T k).2.2.2 = false) {ty : FieldType} {v : Value} (hd : parseFieldDescriptor (T k).2.2.1 = some ty) (hn : narrow ty v = v) (hfit : fits ty v = true)
    {M' : Mem} (hM : mK M' = mK M ∧ mL M' = mL M ∧ mS M' = mS M ∧ mU M' = mU M ∧ mC M' = mC M ∧ (∀ b, b ≠ a → mI M' b = mI M b) ∧ (∀ b, b ≠ a → mP M' b = mP M b) ∧ (∀ b, mJ M' b = mJ M b)) (hV : fV M' a ci = updV (fV M a ci) k v) (ha : mK M a = ci + 1) (hdg : decode cc pc = .ok (.putfield index, 3))
    (kk : ∀ (H1 : Heap) (locs1 : List Loc), RL G M0 M' H1 locs1 cells slots → W p l e R s m args below meth c H1 locs1 cells slots Q (F0 m (pc + 3) ls rest)) : W p l e R s m args below meth c H locs cells slots Q (F0 m pc ls (v :: .ref a :: rest)) := by
  obtain ⟨cell, q1, q2, q3, q4⟩ := hR.1.obj ha hc
  have hKn := hK.2.1.1 ci _ hc
  obtain ⟨hS, hfc, kC, hkC, hkind⟩ := hKn
  obtain ⟨cf, kf, fi, f, hi, hsl⟩ := hS k hk
  have hap := cuA hK hc
  have hlay := hK.uw hc args _ (u_in_lay hk)
  unfold u_lay at hlay
  rw [if_neg (by rw [hfin]; decide)] at hlay
  have hst := (u_facts hfc hkC (u_lays (hK.uw hc args) (fun _ h => h) hk) hi).1
  have h6 := u_store hfc hkC hkind hlay hi hd hn hfit
  obtain ⟨m1, m2, m3, m4, m5, m6, m7, m8⟩ := hM
  have hne : mK M a ≠ 0 := by rw [ha]; exact Nat.succ_ne_zero _
  refine W.putK hx hb (f := f) ⟨hown, hK.w hl rfl args, ⟨_, _, _, hi⟩, hst⟩ (by rw [q2]; exact h6) q1 q3 (by rw [hsl]; exact k2_hasslot (q4 k hk)) rfl rfl hdg fun H' e1 e2 e3 => ?_
  rw [hsl] at e1
  refine kk H' _ (hR.put (hR.1.lo hne) m3 m4 m5 (hR.1.upd hne e2 e3 m1 m2 m3 m6 m7 (fun b _ => m8 b) ⟨fun c2 r2 g1 g2 => ?_, fun g1 => ?_⟩))
  · rw [m1, ha] at g1
    have hcc : ci = c2 := by omega
    subst hcc
    cases hc.symm.trans g2
    rw [hV]
    exact ⟨_, e1, q2, q3, t_set q4 hap hk v⟩
  · exfalso
    rw [m1, ha] at g1
    have hlt := (List.getElem?_eq_some_iff.mp hc).1
    have hle : hcCl.length ≤ 20 := by decide
    omega
theorem rg_putI (hx : p.tables.exec = Jvm.exec) (hb : c.code = cc) {own C : String} {T : u_T} {N ci index : Nat} (hown : s.vm.findClass own = some m.cls) (hK : Kst G s) (hR : RL G M0 M H locs cells slots) (hc : hcCl[ci]? = some (C, T, N)) (k : Nat) (hk : k < N) (hl : Cond.fieldLink own index (T k).1 (T k).2.1 (T k).2.2.1 ∈ lw_tbl) (hfin : (T k).2.2.2 = false) (hf : fR ci k = false) {ty : FieldType} {x : Int32} (hd : parseFieldDescriptor (T k).2.2.1 = some ty) (hty : ty = .int ∨ ty = .char ∨ ty = .boolean) (hn : fits ty (.int x) = true) (ha : mK M a = ci + 1) (hdg : decode cc pc = .ok (.putfield index, 3))
    (kk : ∀ (H1 : Heap) (locs1 : List Loc), RL G M0 (setI M a k x) H1 locs1 cells slots → W p l e R s m args below meth c H1 locs1 cells slots Q (F0 m (pc + 3) ls rest)) : W p l e R s m args below meth c H locs cells slots Q (F0 m pc ls (.int x :: .ref a :: rest)) :=
  rg_put (M' := setI M a k x) hx hb hown hK hR hc k hk hl hfin hd (nar_fit hn hty) hn ⟨rfl, rfl, rfl, rfl, rfl, fun b hb => by rw [mI_setI, fu_row _ _ hb], fun _ _ => rfl, fun _ => rfl⟩ (fV_setI hf) ha hdg kk
theorem rg_putP (hx : p.tables.exec = Jvm.exec) (hb : c.code = cc) {own C : String} {T : u_T} {N ci index : Nat} (hown : s.vm.findClass own = some m.cls) (hK : Kst G s) (hR : RL G M0 M H locs cells slots) (hc : hcCl[ci]? = some (C, T, N)) (k : Nat) (hk : k < N) (hl : Cond.fieldLink own index (T k).1 (T k).2.1 (T k).2.2.1 ∈ lw_tbl) (hfin : (T k).2.2.2 = false) (hf : fR ci k = true) {ty : FieldType} {r : Option Nat} (hd : parseFieldDescriptor (T k).2.2.1 = some ty) (hty : (∃ n, ty = .object n) ∨ ∃ t, ty = .array t) (ha : mK M a = ci + 1) (hdg : decode cc pc = .ok (.putfield index, 3))
    (kk : ∀ (H1 : Heap) (locs1 : List Loc), RL G M0 (setP M a k r) H1 locs1 cells slots → W p l e R s m args below meth c H1 locs1 cells slots Q (F0 m (pc + 3) ls rest)) : W p l e R s m args below meth c H locs cells slots Q (F0 m pc ls (va_rf r :: .ref a :: rest)) :=
  rg_put (M' := setP M a k r) hx hb hown hK hR hc k hk hl hfin hd (nar_ref r hty) (fit_ref r hty) ⟨rfl, rfl, rfl, rfl, rfl, fun _ _ => rfl, fun b hb => by rw [mP_setP, fu_row _ _ hb], fun _ => rfl⟩ (fV_setP hf) ha hdg kk
/-- a final field in a constructor -/
theorem rg_putF (hx : p.tables.exec = Jvm.exec) (hb : c.code = cc) {own C : String} {T : u_T} {N ci index : Nat} (hown : s.vm.findClass own = some m.cls) (hK : Kst G s) (hR : RL G M0 M H locs cells slots) (hc : hcCl[ci]? = some (C, T, N)) (k : Nat) (hk : k < N) (hl : Cond.fieldLink own index (T k).1 (T k).2.1 (T k).2.2.1 ∈ lw_tbl) (hfin : (T k).2.2.2 = true) (hin2 : meth.name = "<init>") (hdecl : (T k).1 = own) (hf : fR ci k = true) {ty : FieldType} {r : Option Nat} (hd : parseFieldDescriptor (T k).2.2.1 = some ty) (hty : (∃ n, ty = .object n) ∨ ∃ t, ty = .array t) (ha : mK M a = ci + 1) (hdg : decode cc pc = .ok (.putfield index, 3))
    (kk : ∀ (H1 : Heap) (locs1 : List Loc), RL G M0 (setP M a k r) H1 locs1 cells slots → W p l e R s m args below meth c H1 locs1 cells slots Q (F0 m (pc + 3) ls rest)) : W p l e R s m args below meth c H locs cells slots Q (F0 m pc ls (va_rf r :: .ref a :: rest)) := by
  obtain ⟨cell, q1, q2, q3, q4⟩ := hR.1.obj ha hc
  obtain ⟨hS, hfc, kC, hkC, hkind⟩ := hK.2.1.1 ci _ hc
  obtain ⟨cf, kf, fi, f, hi, hsl⟩ := hS k hk
  have hap := cuA hK hc
  have hlay := hK.uw hc args _ (u_in_lay hk)
  unfold u_lay at hlay
  rw [if_pos hfin] at hlay
  have hst := (u_facts hfc hkC (u_lays (hK.uw hc args) (fun _ h => h) hk) hi).1
  have hcf : m.cls = cf := by
    obtain ⟨_, _, c', _, _, _, -, -, hf', -, -, -, hown2, -⟩ := Cond.laysFinal_spec hlay
    have e1 : c' = cf := by have := hi.symm.trans hf'; simp at this; exact this.1.symm
    rw [hdecl] at hown2
    rw [← e1]; exact Option.some.inj (hown.symm.trans hown2)
  have h6 := u_fits hfc hkC hkind (Or.inr hlay) hi hd (nar_ref r hty) (fit_ref r hty)
  have hne : mK M a ≠ 0 := by rw [ha]; exact Nat.succ_ne_zero _
  refine W.putFinK hx hb hown (hK.w hl rfl args) hi hst hcf hin2 (by rw [q2]; exact h6) q1 q3 (by rw [hsl]; exact k2_hasslot (q4 k hk)) rfl rfl hdg fun H' e1 e2 e3 => ?_
  rw [hsl] at e1
  refine kk H' _ (hR.put (hR.1.lo hne) rfl rfl rfl (hR.1.upd hne e2 e3 rfl rfl rfl (fun _ _ => rfl) (fun b hb => by rw [mP_setP, fu_row _ _ hb]) (fun _ _ => rfl) ⟨fun c2 r2 g1 g2 => ?_, fun g1 => ?_⟩))
  · rw [mK_setP, ha] at g1
    have hcc : ci = c2 := by omega
    subst hcc
    cases hc.symm.trans g2
    rw [fV_setP hf]
    exact ⟨_, e1, q2, q3, t_set q4 hap hk (va_rf r)⟩
  · exfalso
    rw [mK_setP, ha] at g1
    have hlt := (List.getElem?_eq_some_iff.mp hc).1
    have hle : hcCl.length ≤ 20 := by decide
    omega
theorem aE_i {cA : ClassId} {kd : Nat} (h : kd ≠ 24 ∧ kd ≠ 25) : vp_cell cA (aE M kd a) = arrV cA (mL M a) (fun j => .int (mI M a j)) := by
  unfold aE
  rw [if_neg h.1, if_neg h.2]
  rfl
theorem aE_l {cA : ClassId} : vp_cell cA (aE M 24 a) = arrV cA (mL M a) (fun j => .long (mJ M a j)) := rfl
theorem aE_p {cA : ClassId} : vp_cell cA (aE M 25 a) = arrV cA (mL M a) (fun j => va_rf (mP M a j)) := rfl
theorem arrK (hK : Kst G s) {k : Nat} {q : ClassId × FieldType} (h : (aTys G)[k]? = some q) (n : Nat) (z : Nat → Value) : s.isArrayOf (arrV q.1 n z) q.2 := (hK.2.1.2 k q h).1 n z
theorem rg_iald (hx : p.tables.exec = Jvm.exec) (hb : c.code = cc) (hK : Kst G s) (hR : RL G M0 M H locs cells slots) {i : Int32} (ha : mK M a = 21) (hin : inA i (mL M a)) (hdg : decode cc pc = .ok (.iaload, 1))
    (kk : W p l e R s m args below meth c H locs cells slots Q (F0 m (pc + 1) ls (.int (mI M a i.toNatClampNeg) :: rest))) : W p l e R s m args below meth c H locs cells slots Q (F0 m pc ls (.int i :: .ref a :: rest)) := by
  have h1 := hR.1.arr 21 ha (by decide)
  rw [aE_i (by decide)] at h1
  have hlt : i.toNatClampNeg < mL M a := Nat.not_le.mp fun q => hin (Or.inr q)
  exact W.iald (v := .int (mI M a i.toNatClampNeg)) hx hb h1 (arrK hK (k := 0) rfl _ _) (fun q => by cases q) (by rw [arrV_size]; exact hin) (by rw [arrV_read _ _ hlt]) rfl rfl hdg kk
theorem rg_cald (hx : p.tables.exec = Jvm.exec) (hb : c.code = cc) (hK : Kst G s) (hR : RL G M0 M H locs cells slots) {i : Int32} (ha : mK M a = 22) (hin : inA i (mL M a)) (hdg : decode cc pc = .ok (.caload, 1))
    (kk : W p l e R s m args below meth c H locs cells slots Q (F0 m (pc + 1) ls (.int (mI M a i.toNatClampNeg) :: rest))) : W p l e R s m args below meth c H locs cells slots Q (F0 m pc ls (.int i :: .ref a :: rest)) := by
  have h1 := hR.1.arr 22 ha (by decide)
  rw [aE_i (by decide)] at h1
  have hlt : i.toNatClampNeg < mL M a := Nat.not_le.mp fun q => hin (Or.inr q)
  exact W.cald (v := .int (mI M a i.toNatClampNeg)) hx hb h1 (arrK hK (k := 1) rfl _ _) (fun q => by cases q) (by rw [arrV_size]; exact hin) (by rw [arrV_read _ _ hlt]) rfl rfl hdg kk
theorem rg_zald (hx : p.tables.exec = Jvm.exec) (hb : c.code = cc) (hK : Kst G s) (hR : RL G M0 M H locs cells slots) {i : Int32} (ha : mK M a = 23) (hin : inA i (mL M a)) (hdg : decode cc pc = .ok (.baload, 1))
    (kk : W p l e R s m args below meth c H locs cells slots Q (F0 m (pc + 1) ls (.int (mI M a i.toNatClampNeg) :: rest))) : W p l e R s m args below meth c H locs cells slots Q (F0 m pc ls (.int i :: .ref a :: rest)) := by
  have h1 := hR.1.arr 23 ha (by decide)
  rw [aE_i (by decide)] at h1
  have hlt : i.toNatClampNeg < mL M a := Nat.not_le.mp fun q => hin (Or.inr q)
  exact W.zald (v := .int (mI M a i.toNatClampNeg)) hx hb h1 (arrK hK (k := 2) rfl _ _) (fun q => by cases q) (by rw [arrV_size]; exact hin) (by rw [arrV_read _ _ hlt]) rfl rfl hdg kk
theorem rg_lald (hx : p.tables.exec = Jvm.exec) (hb : c.code = cc) (hK : Kst G s) (hR : RL G M0 M H locs cells slots) {i : Int32} (ha : mK M a = 24) (hin : inA i (mL M a)) (hdg : decode cc pc = .ok (.laload, 1))
    (kk : W p l e R s m args below meth c H locs cells slots Q (F0 m (pc + 1) ls (.long (mJ M a i.toNatClampNeg) :: rest))) : W p l e R s m args below meth c H locs cells slots Q (F0 m pc ls (.int i :: .ref a :: rest)) := by
  have h1 := hR.1.arr 24 ha (by decide)
  rw [aE_l] at h1
  have hlt : i.toNatClampNeg < mL M a := Nat.not_le.mp fun q => hin (Or.inr q)
  exact W.lald (v := .long (mJ M a i.toNatClampNeg)) hx hb h1 (arrK hK (k := 3) rfl _ _) (fun q => by cases q) (by rw [arrV_size]; exact hin) (by rw [arrV_read _ _ hlt]) rfl rfl hdg kk
theorem rg_aald (hx : p.tables.exec = Jvm.exec) (hb : c.code = cc) (hK : Kst G s) (hR : RL G M0 M H locs cells slots) {i : Int32} (ha : mK M a = 25) (hin : inA i (mL M a)) (hdg : decode cc pc = .ok (.aaload, 1))
    (kk : W p l e R s m args below meth c H locs cells slots Q (F0 m (pc + 1) ls (va_rf (mP M a i.toNatClampNeg) :: rest))) : W p l e R s m args below meth c H locs cells slots Q (F0 m pc ls (.int i :: .ref a :: rest)) := by
  have h1 := hR.1.arr 25 ha (by decide)
  rw [aE_p] at h1
  have hlt : i.toNatClampNeg < mL M a := Nat.not_le.mp fun q => hin (Or.inr q)
  exact W.aald (v := va_rf (mP M a i.toNatClampNeg)) (ty := .object "HeadCount$Node") hx hb h1 (arrK hK (k := 4) rfl _ _) rfl (fun q => by cases q) (by rw [arrV_size]; exact hin) (by rw [arrV_read _ _ hlt]) rfl rfl hdg kk
theorem rg_alen (hx : p.tables.exec = Jvm.exec) (hb : c.code = cc) (hK : Kst G s) (hR : RL G M0 M H locs cells slots) (kd : Nat) (ha : mK M a = kd) (h21 : 21 ≤ kd) (h25 : kd ≤ 25) (hdg : decode cc pc = .ok (.arraylength, 1))
    (kk : W p l e R s m args below meth c H locs cells slots Q (F0 m (pc + 1) ls (.int (nI (mL M a)) :: rest))) : W p l e R s m args below meth c H locs cells slots Q (F0 m pc ls (.ref a :: rest)) := by
  have h1 := hR.1.arr kd ha h21
  have hk : kd = 21 ∨ kd = 22 ∨ kd = 23 ∨ kd = 24 ∨ kd = 25 := by omega
  rcases hk with rfl | rfl | rfl | rfl | rfl
  · rw [aE_i (by decide)] at h1
    exact W.alen (n := nI (mL M a)) hx hb h1 (arrK hK (k := 0) rfl _ _) (by rw [arrV_size] <;> rfl) rfl rfl hdg kk
  · rw [aE_i (by decide)] at h1
    exact W.alen (n := nI (mL M a)) hx hb h1 (arrK hK (k := 1) rfl _ _) (by rw [arrV_size] <;> rfl) rfl rfl hdg kk
  · rw [aE_i (by decide)] at h1
    exact W.alen (n := nI (mL M a)) hx hb h1 (arrK hK (k := 2) rfl _ _) (by rw [arrV_size] <;> rfl) rfl rfl hdg kk
  · rw [aE_l] at h1
    exact W.alen (n := nI (mL M a)) hx hb h1 (arrK hK (k := 3) rfl _ _) (by rw [arrV_size] <;> rfl) rfl rfl hdg kk
  · rw [aE_p] at h1
    exact W.alen (n := nI (mL M a)) hx hb h1 (arrK hK (k := 4) rfl _ _) (by rw [arrV_size] <;> rfl) rfl rfl hdg kk
/-- an array's place is written: what is left to show is the cell itself -/
theorem RL.ast (hR : RL G M0 M H locs cells slots) {kd : Nat} (ha : mK M a = kd) (h21 : 21 ≤ kd) {M' : Mem} {H' : Heap} {i : Nat} (hM : mK M' = mK M ∧ mL M' = mL M ∧ mS M' = mS M ∧ mU M' = mU M ∧ mC M' = mC M ∧ (∀ b, b ≠ a → mI M' b = mI M b) ∧ (∀ b, b ≠ a → mP M' b = mP M b) ∧ (∀ b, b ≠ a → mJ M' b = mJ M b)) (e1 : H'[a]? = some (vp_cell ((gA G) kd) (aE M' kd a))) (e2 : H'.size = H.size) (e3 : ∀ q : Nat, q ≠ a → H'[q]? = H[q]?) : RL G M0 M' H' (locs ++ [⟨a, i⟩]) cells slots := by
  obtain ⟨m1, m2, m3, m4, m5, m6, m7, m8⟩ := hM
  have hne : mK M a ≠ 0 := by rw [ha]; omega
  refine hR.put (hR.1.lo hne) m3 m4 m5 (hR.1.upd hne e2 e3 m1 m2 m3 m6 m7 m8 ⟨fun c2 r2 g1 g2 => ?_, fun g1 => ?_⟩)
  · exfalso
    rw [m1, ha] at g1
    have hlt := (List.getElem?_eq_some_iff.mp g2).1
    have hle : hcCl.length ≤ 20 := by decide
    omega
  · rw [m1, ha]
    exact e1
theorem stI (kd i : Nat) (x : Int32) (cA : ClassId) (h : kd ≠ 24 ∧ kd ≠ 25) : (arrV cA (mL M a) (fun j => Value.int (mI M a j))).setSlot i (.int x) = vp_cell cA (aE (setI M a i x) kd a) := by
  rw [aE_i h, arrV_store]
  congr 1
  funext q
  by_cases hq : q = i
  · subst hq; simp [updV, mI_setI, fu]
  · simp [updV, hq, mI_setI, fu]
theorem stOkI (i : Nat) (x : Int32) : mK (setI M a i x) = mK M ∧ mL (setI M a i x) = mL M ∧ mS (setI M a i x) = mS M ∧ mU (setI M a i x) = mU M ∧ mC (setI M a i x) = mC M ∧ (∀ b, b ≠ a → mI (setI M a i x) b = mI M b) ∧ (∀ b, b ≠ a → mP (setI M a i x) b = mP M b) ∧ (∀ b, b ≠ a → mJ (setI M a i x) b = mJ M b) :=
  ⟨rfl, rfl, rfl, rfl, rfl, fun b hb => by rw [mI_setI, fu_row _ _ hb], fun _ _ => rfl, fun _ _ => rfl⟩
theorem rg_iast (hx : p.tables.exec = Jvm.exec) (hb : c.code = cc) (hK : Kst G s) (hR : RL G M0 M H locs cells slots) {i x : Int32} (ha : mK M a = 21) (hin : inA i (mL M a)) (hdg : decode cc pc = .ok (.iastore, 1))
    (kk : ∀ (H1 : Heap) (locs1 : List Loc), RL G M0 (setI M a i.toNatClampNeg x) H1 locs1 cells slots → W p l e R s m args below meth c H1 locs1 cells slots Q (F0 m (pc + 1) ls rest)) : W p l e R s m args below meth c H locs cells slots Q (F0 m pc ls (.int x :: .int i :: .ref a :: rest)) := by
  have h1 := hR.1.arr 21 ha (by decide)
  rw [aE_i (by decide)] at h1
  refine W.iast hx hb h1 (arrK hK (k := 0) rfl _ _) (fun q => by cases q) (by rw [arrV_size]; exact hin) rfl rfl hdg fun H1 e z oq => ?_
  exact kk H1 _ (hR.ast ha (by decide) (stOkI _ x) (by rw [e, stI 21 _ x _ (by decide)]) z oq)
theorem rg_cast (hx : p.tables.exec = Jvm.exec) (hb : c.code = cc) (hK : Kst G s) (hR : RL G M0 M H locs cells slots) {i x : Int32} (ha : mK M a = 22) (hin : inA i (mL M a)) (hn : fits .char (.int x) = true) (hdg : decode cc pc = .ok (.castore, 1))
    (kk : ∀ (H1 : Heap) (locs1 : List Loc), RL G M0 (setI M a i.toNatClampNeg x) H1 locs1 cells slots → W p l e R s m args below meth c H1 locs1 cells slots Q (F0 m (pc + 1) ls rest)) : W p l e R s m args below meth c H locs cells slots Q (F0 m pc ls (.int x :: .int i :: .ref a :: rest)) := by
  have h1 := hR.1.arr 22 ha (by decide)
  rw [aE_i (by decide)] at h1
  refine W.cast hx hb h1 (arrK hK (k := 1) rfl _ _) (fun q => by cases q) (by rw [arrV_size]; exact hin) rfl rfl hdg fun H1 e z oq => ?_
  rw [nar_fit hn (Or.inr (Or.inl rfl))] at e
  exact kk H1 _ (hR.ast ha (by decide) (stOkI _ x) (by rw [e, stI 22 _ x _ (by decide)]) z oq)
theorem rg_zast (hx : p.tables.exec = Jvm.exec) (hb : c.code = cc) (hK : Kst G s) (hR : RL G M0 M H locs cells slots) {i x : Int32} (ha : mK M a = 23) (hin : inA i (mL M a)) (hn : fits .boolean (.int x) = true) (hdg : decode cc pc = .ok (.bastore, 1))
    (kk : ∀ (H1 : Heap) (locs1 : List Loc), RL G M0 (setI M a i.toNatClampNeg x) H1 locs1 cells slots → W p l e R s m args below meth c H1 locs1 cells slots Q (F0 m (pc + 1) ls rest)) : W p l e R s m args below meth c H locs cells slots Q (F0 m pc ls (.int x :: .int i :: .ref a :: rest)) := by
  have h1 := hR.1.arr 23 ha (by decide)
  rw [aE_i (by decide)] at h1
  refine W.zast hx hb h1 (arrK hK (k := 2) rfl _ _) (fun q => by cases q) (by rw [arrV_size]; exact hin) rfl rfl hdg fun H1 e z oq => ?_
  rw [nar_fit hn (Or.inr (Or.inr rfl))] at e
  exact kk H1 _ (hR.ast ha (by decide) (stOkI _ x) (by rw [e, stI 23 _ x _ (by decide)]) z oq)
theorem rg_last (hx : p.tables.exec = Jvm.exec) (hb : c.code = cc) (hK : Kst G s) (hR : RL G M0 M H locs cells slots) {i : Int32} {x : Int64} (ha : mK M a = 24) (hin : inA i (mL M a)) (hdg : decode cc pc = .ok (.lastore, 1))
    (kk : ∀ (H1 : Heap) (locs1 : List Loc), RL G M0 (setJ M a i.toNatClampNeg x) H1 locs1 cells slots → W p l e R s m args below meth c H1 locs1 cells slots Q (F0 m (pc + 1) ls rest)) : W p l e R s m args below meth c H locs cells slots Q (F0 m pc ls (.long x :: .int i :: .ref a :: rest)) := by
  have h1 := hR.1.arr 24 ha (by decide)
  rw [aE_l] at h1
  refine W.last hx hb h1 (arrK hK (k := 3) rfl _ _) (fun q => by cases q) (by rw [arrV_size]; exact hin) rfl rfl hdg fun H1 e z oq => ?_
  refine kk H1 _ (hR.ast ha (by decide) ⟨rfl, rfl, rfl, rfl, rfl, fun _ _ => rfl, fun _ _ => rfl, fun b hb => by rw [mJ_setJ, fu_row _ _ hb]⟩ ?_ z oq)
  rw [e, aE_l, arrV_store]
  congr 2
  funext q
  by_cases hq : q = i.toNatClampNeg
  · subst hq; simp [updV, mJ_setJ, fu]
  · simp [updV, hq, mJ_setJ, fu]
/-- a Node goes into a row of Nodes -/
theorem rg_aast (hx : p.tables.exec = Jvm.exec) (hb : c.code = cc) (hK : Kst G s) (hR : RL G M0 M H locs cells slots) {i : Int32} {v : Nat} (ha : mK M a = 25) (hin : inA i (mL M a)) (hv : mK M v = ndC + 1) (hdg : decode cc pc = .ok (.aastore, 1))
    (kk : ∀ (H1 : Heap) (locs1 : List Loc), RL G M0 (setP M a i.toNatClampNeg (some v)) H1 locs1 cells slots → W p l e R s m args below meth c H1 locs1 cells slots Q (F0 m (pc + 1) ls rest)) : W p l e R s m args below meth c H locs cells slots Q (F0 m pc ls (.ref v :: .int i :: .ref a :: rest)) := by
  have h1 := hR.1.arr 25 ha (by decide)
  rw [aE_p] at h1
  have hlt : i.toNatClampNeg < mL M a := Nat.not_le.mp fun q => hin (Or.inr q)
  have h0 : ¬ i < 0 := fun q => hin (Or.inl q)
  obtain ⟨cellV, g1, g2, g3, -⟩ := hR.1.obj hv ndCl
  have hcls := (hK.2.1.1 ndC _ ndCl).2
  obtain ⟨kA, comp, k1, k2, k3, -⟩ := (hK.2.1.2 4 _ rfl).2
  have hcomp : comp = (gD G).1 ndC := Option.some.inj (k3.symm.trans hcls.1)
  subst hcomp
  obtain ⟨kC, hkC, -⟩ := hcls.2
  refine W.aast hx hb h1 (fun q h => by cases h) (fun h => by cases h) k1 k2 rfl hkC ⟨h0, by rw [arrV_size]; exact hlt⟩ g1 (fun q h => by rw [g3] at h; cases h) (by rw [g2]; exact hkC) (by rw [g2]; exact va_assign hcls) rfl rfl hdg fun H1 e z oq => ?_
  refine kk H1 _ (hR.ast ha (by decide) ⟨rfl, rfl, rfl, rfl, rfl, fun _ _ => rfl, fun b hb => by rw [mP_setP, fu_row _ _ hb], fun _ _ => rfl⟩ ?_ z oq)
  rw [e, aE_p, arrV_store]
  congr 2
  funext q
  by_cases hq : q = i.toNatClampNeg
  · subst hq; simp [updV, mP_setP, fu, va_rf]
  · simp [updV, hq, mP_setP, fu]
end Rows
end
section
/-! rows: making cells, returning, throwing, calling -/
theorem st_weak {tb : Tables} {e : Env} {mid below : List Frame} {a b : State} (h : Steps tb e (mid ++ below) a b) : Steps tb e below a b := by
  obtain ⟨n, hn, hw⟩ := h
  exact ⟨n, hn, fun k hk => (hw k hk).weaken⟩
/-- the names of what is thrown -/
def exN (x : Nat) : String := if x = 1 then "java/lang/IllegalArgumentException" else "java/lang/IllegalStateException"
def outI (s : State) (r : Option Value ⊕ Nat) (o : Outcome) (t : State) : Prop := match r with
  | .inl v => o = .returned v
  | .inr x => ∃ (q : Addr) (ce : Cell), o = .threw q ∧ t.heap[q]? = some ce ∧ ce.vm = .none ∧ s.vm.findClass (exN x) = some ce.cls
/-- the end of a method that came from M to M' with r -/
def CQ (G : Gx) (below : List Frame) (s : State) (M : Mem) (r : Option Value ⊕ Nat) (M' : Mem) : State → Prop := fun t =>
  ∃ (o : Outcome) (L : List Loc), t.status = .running ∧ Ended t below o ∧ s.WarmedH t.vm ∧ s.sameButNew ({ t with vm := s.vm } : State) L (mS M' - mS M) (mU M' - mU M) ∧ (∀ q ∈ L, gZ G ≤ q.base) ∧ Real G M' t.heap ∧ mS M ≤ mS M' ∧ mU M ≤ mU M' ∧ mC M' = gC G ∧ mS M' ≤ mC M' 0 ∧ mU M' ≤ SLm ∧ outI s r o t
/-- the contract: with d frames left, from M the method y at the arguments as comes to r and M' -/
def CB (l : Launch) (G : Gx) (d : Nat) (y : MethodName) (as : List Value) (M : Mem) (r : Option Value ⊕ Nat) (M' : Mem) : Prop :=
  ∀ (p : Program) (e : Env) (R : Room) (s : State) (m : MethodId) (below : List Frame) (meth : Method) (c : Code),
    p.tables.exec = Jvm.exec → s.methodNamed? y = some m → s.vm.method? m = some meth → meth.code = some c → meth.locks = false → Kst G s → Real G M s.heap → mC M = gC G → mS M ≤ mC M 0 → mU M ≤ SLm → d ≤ R.frames → 64 * d ≤ R.locals → mC M 0 ≤ R.cells + mS M → SLm ≤ R.slots + mU M →
    W p l e R s m as.toArray below meth c s.heap [] 0 0 (CQ G below s M r M') (entryFrame m as.toArray c.maxLocals)
section RowsC
variable {p : Program} {l : Launch} {e : Env} {R : Room} {s : State} {m : MethodId} {args : Array Value} {below : List Frame} {meth : Method} {c : Code} {H : Heap} {locs : List Loc} {cells slots : Nat} {Q : State → Prop}
variable {cc : ByteArray} {pc : Nat} {ls : Array Slot} {rest : List Value} {G : Gx} {M0 M : Mem} {a : Nat}
theorem W.mono {Q2 : State → Prop} {g : JFrame} (k : W p l e R s m args below meth c H locs cells slots Q g) (h : ∀ t, Q t → Q2 t) : W p l e R s m args below meth c H locs cells slots Q2 g := by
  intro T hT X
  obtain ⟨t, a1, b1⟩ := k T hT X
  exact ⟨t, a1, h t b1⟩
theorem cq_of {v : Option Value} (hR : RL G M0 M H locs cells slots) {t : State} (h : MQ below (fun _ _ o t => o = .returned v ∧ t.heap = H) args s cells slots (fun q => gZ G ≤ q) t) : CQ G below s M0 (.inl v) M t := by
  obtain ⟨o, h1, h2, ⟨h3, h4⟩, L, ⟨-, hW, hsm⟩, hL⟩ := h
  obtain ⟨r1, r2, r3, r4, r5, r6, r7⟩ := hR
  have e1 : mS M - mS M0 = cells := by omega
  have e2 : mU M - mU M0 = slots := by omega
  exact ⟨o, L, h1, h2, hW, by rw [e1, e2]; exact hsm, hL, by rw [h4]; exact r1, by omega, by omega, r5, r6, r7, h3⟩
theorem rt_i (hx : p.tables.exec = Jvm.exec) (hb : c.code = cc) (hlk : meth.locks = false) {ty : FieldType} {v : Int32} (hr : meth.sig.returnType = some ty) (hty : ty = .int ∨ ty = .char ∨ ty = .boolean) (hn : fits ty (.int v) = true) (hR : RL G M0 M H locs cells slots) (hdg : decode cc pc = .ok (.ireturn, 1)) : W p l e R s m args below meth c H locs cells slots (CQ G below s M0 (.inl (some (.int v))) M) (F0 m pc ls [.int v]) :=
  (W.zret (Qc := fun _ _ o t => o = .returned (some (.int v)) ∧ t.heap = H) (free := fun q => gZ G ≤ q) hx hb hr (nar_fit hn hty) (fun t ht _ => ⟨rfl, ht⟩) hR.2.1 hdg hlk).mono (fun _ h => cq_of hR h)
theorem rt_a (hx : p.tables.exec = Jvm.exec) (hb : c.code = cc) (hlk : meth.locks = false) {ty : FieldType} {r : Option Nat} (hr : meth.sig.returnType = some ty) (hty : (∃ n, ty = .object n) ∨ ∃ t, ty = .array t) (hR : RL G M0 M H locs cells slots) (hdg : decode cc pc = .ok (.areturn, 1)) : W p l e R s m args below meth c H locs cells slots (CQ G below s M0 (.inl (some (va_rf r))) M) (F0 m pc ls [va_rf r]) :=
  (W.aret (Qc := fun _ _ o t => o = .returned (some (va_rf r)) ∧ t.heap = H) (free := fun q => gZ G ≤ q) hx hb hr hty (by cases r; exact Or.inl rfl; exact Or.inr ⟨_, rfl⟩) (fun t ht _ => ⟨rfl, ht⟩) hR.2.1 hdg hlk).mono (fun _ h => cq_of hR h)
theorem rt_v (hx : p.tables.exec = Jvm.exec) (hb : c.code = cc) (hlk : meth.locks = false) (hr : meth.sig.returnType = none) (hR : RL G M0 M H locs cells slots) (hdg : decode cc pc = .ok (.return_, 1)) : W p l e R s m args below meth c H locs cells slots (CQ G below s M0 (.inl none) M) (F0 m pc ls []) :=
  (W.vret (Qc := fun _ _ o t => o = .returned none ∧ t.heap = H) (free := fun q => gZ G ≤ q) hx hb hr (fun t ht _ => ⟨rfl, ht⟩) hR.2.1 hdg hlk).mono (fun _ h => cq_of hR h)
/-- the frame g, with q thrown over it -/
def WT (p : Program) (l : Launch) (e : Env) (R : Room) (s : State) (m : MethodId) (args : Array Value) (below : List Frame) (meth : Method) (c : Code) (H : Heap) (locs : List Loc) (cells slots : Nat) (Q : State → Prop) (g : JFrame) (q : Addr) : Prop :=
  ∀ T : State, T.heap = H → Stand p l e R s m args below meth c T locs cells slots → ∃ t, Steps p.tables e below ((T.setTop g).pushFrame (.throwing q)) t ∧ Q t
/-- what is thrown leaves the method -/
theorem rt_x (hlk : meth.locks = false) (hex : c.exceptionTable.isEmpty = true) {x : Nat} {q : Addr} {ce : Cell} (hR : RL G M0 M H locs cells slots) (h1 : H[q]? = some ce) (h2 : ce.vm = .none) (h3 : s.vm.findClass (exN x) = some ce.cls) : WT p l e R s m args below meth c H locs cells slots (CQ G below s M0 (.inr x) M) (F0 m pc ls rest) q := by
  intro T hT X
  have hout : ∀ y ∈ c.exceptionTable.toList, covers y pc = false := fun y hy => by
    have he : c.exceptionTable.toList = [] := by simpa [Array.isEmpty] using hex
    rw [he] at hy
    cases hy
  obtain ⟨st1, hrun, hend, hW, hsm⟩ := X.leaveThrown q (g := F0 m pc ls rest) rfl rfl rfl hout hlk
  obtain ⟨r1, r2, r3, r4, r5, r6, r7⟩ := hR
  have e1 : mS M - mS M0 = cells := by omega
  have e2 : mU M - mU M0 = slots := by omega
  have hh : (T.setFrames (.throwing q :: below)).heap = H := hT
  exact ⟨_, st1, .threw q, locs, hrun, hend, hW, by rw [e1, e2]; exact hsm, r2, by rw [hh]; exact r1, by omega, by omega, r5, r6, r7, q, ce, rfl, by rw [hh]; exact h1, h2, h3⟩
/-- the call itself, behind its linking -/
theorem cb_core {T : State} (X : Stand p l e R s m args below meth c T locs cells slots) (hx : p.tables.exec = Jvm.exec) (hT : T.heap = H) {g : JFrame} (hg : g.method = m) (hsize : g.locals.size = c.maxLocals) {ig : Instr} {len : Nat} (hdg : decode c.code g.pc = .ok (ig, len)) {y : MethodName} {mk : MethodId} {methk : Method} {ck : Code} {as : List Value} {r : Option Value ⊕ Nat} {M1 : Mem} (hnamed : s.methodNamed? y = some mk) (hmk : s.vm.method? mk = some methk) (hck : methk.code = some ck) (hlk : methk.locks = false) (hml : ck.maxLocals ≤ 40) (hplain : plainName y.cls = true)
    (hK : Kst G s) (hR : RL G M0 M H locs cells slots) (hW8 : 2 * g.monitorRoom + (g.stack.map fun v => v.category).sum ≤ 8) {d : Nat} (hfr : d + 1 ≤ R.frames) (hlo : 64 * (d + 1) ≤ R.locals) (hrc : gC G 0 ≤ R.cells + mS M0) (hrs : SLm ≤ R.slots + mU M0) (hM : CB l G d y as M r M1) :
    (∃ (v : Option Value) (T' : State) (L : List Loc) (cells1 slots1 : Nat), r = .inl v ∧ Stand p l e R s m args below meth c T' (locs ++ L) cells1 slots1 ∧ RL G M0 M1 T'.heap (locs ++ L) cells1 slots1 ∧ Steps p.tables e below (doInvoke e (T.setTop g) [] mk as.toArray).1 (T'.setTop { g with pc := g.pc + len, stack := v.toList ++ g.stack })) ∨
    (∃ (x : Nat) (q : Addr) (ce : Cell) (T' : State) (L : List Loc) (cells1 slots1 : Nat), r = .inr x ∧ Stand p l e R s m args below meth c T' (locs ++ L) cells1 slots1 ∧ RL G M0 M1 T'.heap (locs ++ L) cells1 slots1 ∧ T'.heap[q]? = some ce ∧ ce.vm = .none ∧ s.vm.findClass (exN x) = some ce.cls ∧ Steps p.tables e below (doInvoke e (T.setTop g) [] mk as.toArray).1 ((T'.setTop g).pushFrame (.throwing q))) := by
  obtain ⟨r1, r2, r3, r4, r5, r6, r7⟩ := hR
  have hmT : T.vm.method? mk = some methk := by rw [X.warmed.alike.method?]; exact hmk
  have hnT : T.methodNamed? y = some mk := X.named hnamed
  have hpk : T.plainMethod mk := State.plainMethod.of_named (plainFor_of_name hplain) hnT hmT
  obtain ⟨Y, hdo⟩ := X.into hg hsize hdg as.toArray (R' := { frames := d, locals := 64 * d, cells := R.cells - cells, slots := R.slots - slots }) hmT hck hlk hpk hfr (by show 2 * g.monitorRoom + (g.stack.map fun v => v.category).sum + (ck.maxLocals + 11) + 64 * d ≤ R.locals; omega) (by show cells + (R.cells - cells) ≤ R.cells; rw [r5] at r6; omega) (by show slots + (R.slots - slots) ≤ R.slots; omega)
  have hKc : Kst G (T.calling g mk as.toArray) := hK.moved (U := T.calling g mk as.toArray) X.warmed
  have hC := hM p e { frames := d, locals := 64 * d, cells := R.cells - cells, slots := R.slots - slots } (T.calling g mk as.toArray) mk (.java g :: below) methk ck hx hnT hmT hck hlk hKc (by show Real G M T.heap; rw [hT]; exact r1) r5 r6 r7 (Nat.le_refl _) (Nat.le_refl _) (by show mC M 0 ≤ R.cells - cells + mS M; rw [r5] at r6 ⊢; omega) (by show SLm ≤ R.slots - slots + mU M; omega)
  obtain ⟨t, hst, o, L, hrun, hend, hW2, hsame, hL, hR1, hle1, hle2, hC1, hS1, hU1, ho⟩ := hC ((T.setTop g).pushFrame (.java (entryFrame mk as.toArray ck.maxLocals))) rfl Y
  have hst2 : Steps p.tables e below (doInvoke e (T.setTop g) [] mk as.toArray).1 t := by
    rw [hdo []]
    exact st_weak (mid := [.java g]) hst
  have hRL : ∀ H1 : Heap, H1 = t.heap → RL G M0 M1 H1 (locs ++ L) (cells + (mS M1 - mS M)) (slots + (mU M1 - mU M)) := fun H1 h1 =>
    ⟨by rw [h1]; exact hR1, t_lL (free := fun q => gZ G ≤ q) r2 hL, by omega, by omega, hC1, hS1, hU1⟩
  cases r with
  | inl v =>
    have ho2 : o = .returned v := ho
    subst ho2
    obtain ⟨T', X', -, -, ht⟩ := X.outOf hg hdg hend hW2 hsame
    have hh : T'.heap = t.heap := by rw [ht]; rfl
    exact Or.inl ⟨v, T', L, _, _, rfl, X', hRL _ hh, by rw [← ht]; exact hst2⟩
  | inr x =>
    obtain ⟨q, ce, ho2, h1, h2, h3⟩ := ho
    subst ho2
    obtain ⟨T', X', -, -, ht⟩ := X.outOfThrown hg hend hW2 hsame
    have hh : T'.heap = t.heap := by rw [ht]; rfl
    have h3' : s.vm.findClass (exN x) = some ce.cls := by
      have h4 : T.vm.findClass (exN x) = some ce.cls := h3
      rw [X.warmed.alike.findClass] at h4
      exact h4
    exact Or.inr ⟨x, q, ce, T', L, _, _, rfl, X', hRL _ hh, by rw [hh]; exact h1, h2, h3', by rw [← ht]; exact hst2⟩
/-- a method's words: of an object's method, of a static one, of a constructor -/
def MV (y : MethodName) (bytes : ByteArray) (maxL n : Nat) (ret : Option FieldType) : Prop := Cond.instanceMethod y ∈ lw_tbl ∧ Cond.selects y.cls y y ∈ lw_tbl ∧ Cond.code y bytes maxL ret ∈ lw_tbl ∧ maxL ≤ 40 ∧ (y.cls ≠ "java/lang/invoke/MethodHandle" ∧ y.cls ≠ "java/lang/invoke/VarHandle") ∧ plainName y.cls = true ∧ (parseMethodDescriptor y.desc).map (fun d => d.parameters.length) = some n
def MS (y : MethodName) (bytes : ByteArray) (maxL n : Nat) (ret : Option FieldType) : Prop := Cond.static y ∈ lw_tbl ∧ Cond.initialized y.cls ∈ lw_tbl ∧ Cond.code y bytes maxL ret ∈ lw_tbl ∧ maxL ≤ 40 ∧ (y.cls ≠ "java/lang/invoke/MethodHandle" ∧ y.cls ≠ "java/lang/invoke/VarHandle") ∧ plainName y.cls = true ∧ (parseMethodDescriptor y.desc).map (fun d => d.parameters.length) = some n
def MN (y : MethodName) (bytes : ByteArray) (maxL n : Nat) : Prop := Cond.instanceMethod y ∈ lw_tbl ∧ y.name = "<init>" ∧ Cond.code y bytes maxL none ∈ lw_tbl ∧ maxL ≤ 40 ∧ (y.cls ≠ "java/lang/invoke/MethodHandle" ∧ y.cls ≠ "java/lang/invoke/VarHandle") ∧ plainName y.cls = true ∧ (parseMethodDescriptor y.desc).map (fun d => d.parameters.length) = some n
theorem len_of {y : MethodName} {n : Nat} (h : (parseMethodDescriptor y.desc).map (fun d => d.parameters.length) = some n) {sig : MethodDescriptor} (hs : parseMethodDescriptor y.desc = some sig) : n = sig.parameters.length := by
  rw [hs] at h
  exact (Option.some.inj h).symm
theorem cat_rf (r : Option Nat) : (va_rf r).category = 1 := by cases r <;> rfl
/-- the room that is left -/
def RM (G : Gx) (R : Room) (M0 : Mem) (d : Nat) : Prop := d + 1 ≤ R.frames ∧ 64 * (d + 1) ≤ R.locals ∧ gC G 0 ≤ R.cells + mS M0 ∧ SLm ≤ R.slots + mU M0
theorem rc_V (hx : p.tables.exec = Jvm.exec) (hb : c.code = cc) (hnl : ls.size = c.maxLocals) {own : String} {index : Nat} (hown : s.vm.findClass own = some m.cls) (hK : Kst G s) (hR : RL G M0 M H locs cells slots) {d : Nat} (hRm : RM G R M0 d) {y : MethodName} {bytes : ByteArray} {maxL n : Nat} {ret : Option FieldType} (hy : MV y bytes maxL n ret) (hl : Cond.methodLink own index y ∈ lw_tbl) {ci : Nat} {rr : vw_C} (hc : hcCl[ci]? = some rr) (hcy : rr.1 = y.cls) {b : Nat} {As : List Value} (hn : As.length = n) (hbk : mK M b = ci + 1) (hcat : (rest.map fun v => v.category).sum ≤ 8) {r : Option Value ⊕ Nat} {M1 : Mem} (hM : CB l G d y (.ref b :: As) M r M1) (hdg : decode cc pc = .ok (.invokevirtual index, 3))
    (kr : ∀ (v : Option Value) (H1 : Heap) (locs1 : List Loc) (cells1 slots1 : Nat), r = .inl v → RL G M0 M1 H1 locs1 cells1 slots1 → W p l e R s m args below meth c H1 locs1 cells1 slots1 Q (F0 m (pc + 3) ls (v.toList ++ rest)))
    (kx : ∀ (x : Nat) (q : Addr) (ce : Cell) (H1 : Heap) (locs1 : List Loc) (cells1 slots1 : Nat), r = .inr x → RL G M0 M1 H1 locs1 cells1 slots1 → H1[q]? = some ce → ce.vm = .none → s.vm.findClass (exN x) = some ce.cls → WT p l e R s m args below meth c H1 locs1 cells1 slots1 Q (F0 m pc ls rest) q) :
    W p l e R s m args below meth c H locs cells slots Q (F0 m pc ls (As.reverse ++ .ref b :: rest)) := by
  intro T hT X
  obtain ⟨y1, y2, y3, y4, y5, y6, y7⟩ := hy
  obtain ⟨d1, d2, d3, d4⟩ := hRm
  obtain ⟨cellB, b1, b2, b3, -⟩ := hR.1.obj hbk hc
  have hcls : s.vm.findClass y.cls = some cellB.cls := by rw [← hcy, b2]; exact (hK.2.1.1 ci rr hc).2.1
  obtain ⟨mk, methM, hnamed, hmethM, hstM, habM⟩ := Cond.instanceMethod_spec (hK.w y1 rfl args)
  obtain ⟨methM', cM, hmethM', hcM, -, hlM, -, hlkM, -, hsigM⟩ := Cond.code_spec hnamed (hK.w y3 rfl args)
  cases hmethM.symm.trans hmethM'
  obtain ⟨c2, r2, m2, q1, q2, q3, q4, kP, hkP, hkPi⟩ := Cond.selects_spec (hK.w y2 rfl args)
  cases hcls.symm.trans q1
  cases (State.methodFound?_of_named hnamed y5).symm.trans q2
  cases hnamed.symm.trans q3
  have hselP : selectMethod e.platform s.vm cellB.cls mk = .method mk := by rw [Launch.admits_selectMethod X.admits]; exact q4
  obtain ⟨vm₁, X₁, hstep₁⟩ := X.invokevirtual hx hown (hK.w hl rfl args) hnamed hmethM hstM hkP hkPi y5 (a := b) (cell := cellB) (by rw [hT]; exact b1)
    (fun z h => by rw [b3] at h; cases h) hselP hmethM habM hkP hkPi (g := F0 m pc ls (As.reverse ++ .ref b :: rest)) rfl (argsL := As) (rest := rest) (hn.trans (len_of y7 hsigM)) rfl (by rw [hb]; exact hdg)
  have hT1 : (T.setVm vm₁).heap = H := hT
  rcases cb_core X₁ hx hT1 (g := F0 m pc ls rest) rfl hnl (by rw [hb]; exact hdg) hnamed hmethM hcM hlkM (by rw [hlM]; exact y4) y6 hK hR (by simpa using hcat) d1 d2 d3 d4 hM with ⟨v, T', L, c1, s1, e1, X', hR1, st⟩ | ⟨x, q, ce, T', L, c1, s1, e1, X', hR1, g1, g2, g3, st⟩
  · obtain ⟨t2, a1, b1⟩ := kr v T'.heap _ _ _ e1 hR1 T' rfl X'
    exact ⟨t2, hstep₁ _ fun acts => by rw [doInvoke_state]; exact st.trans a1, b1⟩
  · obtain ⟨t2, a1, b1⟩ := kx x q ce T'.heap _ _ _ e1 hR1 g1 g2 g3 T' rfl X'
    exact ⟨t2, hstep₁ _ fun acts => by rw [doInvoke_state]; exact st.trans a1, b1⟩
theorem rc_S (hx : p.tables.exec = Jvm.exec) (hb : c.code = cc) (hnl : ls.size = c.maxLocals) {own : String} {index : Nat} (hown : s.vm.findClass own = some m.cls) (hK : Kst G s) (hR : RL G M0 M H locs cells slots) {d : Nat} (hRm : RM G R M0 d) {y : MethodName} {bytes : ByteArray} {maxL n : Nat} {ret : Option FieldType} (hy : MS y bytes maxL n ret) (hl : Cond.methodLink own index y ∈ lw_tbl) {As : List Value} (hn : As.length = n) (hcat : (rest.map fun v => v.category).sum ≤ 8) {r : Option Value ⊕ Nat} {M1 : Mem} (hM : CB l G d y As M r M1) (hdg : decode cc pc = .ok (.invokestatic index, 3))
    (kr : ∀ (v : Option Value) (H1 : Heap) (locs1 : List Loc) (cells1 slots1 : Nat), r = .inl v → RL G M0 M1 H1 locs1 cells1 slots1 → W p l e R s m args below meth c H1 locs1 cells1 slots1 Q (F0 m (pc + 3) ls (v.toList ++ rest)))
    (kx : ∀ (x : Nat) (q : Addr) (ce : Cell) (H1 : Heap) (locs1 : List Loc) (cells1 slots1 : Nat), r = .inr x → RL G M0 M1 H1 locs1 cells1 slots1 → H1[q]? = some ce → ce.vm = .none → s.vm.findClass (exN x) = some ce.cls → WT p l e R s m args below meth c H1 locs1 cells1 slots1 Q (F0 m pc ls rest) q) :
    W p l e R s m args below meth c H locs cells slots Q (F0 m pc ls (As.reverse ++ rest)) := by
  intro T hT X
  obtain ⟨y1, y2, y3, y4, y5, y6, y7⟩ := hy
  obtain ⟨d1, d2, d3, d4⟩ := hRm
  obtain ⟨mk, hnamed⟩ := Cond.code_named (hK.w y3 rfl args)
  obtain ⟨methM, cM, hmethM, hcM, -, hlM, -, hlkM, -, hsigM⟩ := Cond.code_spec hnamed (hK.w y3 rfl args)
  have hstatic : methM.isStatic = true := Cond.static_spec hnamed hmethM (hK.w y1 rfl args)
  obtain ⟨kP, hkP, -⟩ := className_of_methodNamed hnamed
  have hinitP : kP.init = .initialized := Cond.initialized_spec (findClass_of_methodNamed hnamed) hkP (hK.w y2 rfl args)
  obtain ⟨vm₁, X₁, hstep₁⟩ := X.invokestatic hx hown (hK.w hl rfl args) hnamed hmethM hstatic hkP hinitP y5 (g := F0 m pc ls (As.reverse ++ rest)) rfl (argsL := As) (rest := rest) (hn.trans (len_of y7 hsigM)) rfl (by rw [hb]; exact hdg)
  have hT1 : (T.setVm vm₁).heap = H := hT
  rcases cb_core X₁ hx hT1 (g := F0 m pc ls rest) rfl hnl (by rw [hb]; exact hdg) hnamed hmethM hcM hlkM (by rw [hlM]; exact y4) y6 hK hR (by simpa using hcat) d1 d2 d3 d4 hM with ⟨v, T', L, c1, s1, e1, X', hR1, st⟩ | ⟨x, q, ce, T', L, c1, s1, e1, X', hR1, g1, g2, g3, st⟩
  · obtain ⟨t2, a1, b1⟩ := kr v T'.heap _ _ _ e1 hR1 T' rfl X'
    exact ⟨t2, hstep₁ _ fun acts => by rw [doInvoke_state]; exact st.trans a1, b1⟩
  · obtain ⟨t2, a1, b1⟩ := kx x q ce T'.heap _ _ _ e1 hR1 g1 g2 g3 T' rfl X'
    exact ⟨t2, hstep₁ _ fun acts => by rw [doInvoke_state]; exact st.trans a1, b1⟩
theorem rc_I (hx : p.tables.exec = Jvm.exec) (hb : c.code = cc) (hnl : ls.size = c.maxLocals) {own : String} {index : Nat} (hown : s.vm.findClass own = some m.cls) (hK : Kst G s) (hR : RL G M0 M H locs cells slots) {d : Nat} (hRm : RM G R M0 d) {y : MethodName} {bytes : ByteArray} {maxL n : Nat} (hy : MN y bytes maxL n) (hl : Cond.methodLink own index y ∈ lw_tbl) {b : Nat} {As : List Value} (hn : As.length = n) (hcat : (rest.map fun v => v.category).sum ≤ 8) {r : Option Value ⊕ Nat} {M1 : Mem} (hM : CB l G d y (.ref b :: As) M r M1) (hdg : decode cc pc = .ok (.invokespecial index, 3))
    (kr : ∀ (v : Option Value) (H1 : Heap) (locs1 : List Loc) (cells1 slots1 : Nat), r = .inl v → RL G M0 M1 H1 locs1 cells1 slots1 → W p l e R s m args below meth c H1 locs1 cells1 slots1 Q (F0 m (pc + 3) ls (v.toList ++ rest)))
    (kx : ∀ (x : Nat) (q : Addr) (ce : Cell) (H1 : Heap) (locs1 : List Loc) (cells1 slots1 : Nat), r = .inr x → RL G M0 M1 H1 locs1 cells1 slots1 → H1[q]? = some ce → ce.vm = .none → s.vm.findClass (exN x) = some ce.cls → WT p l e R s m args below meth c H1 locs1 cells1 slots1 Q (F0 m pc ls rest) q) :
    W p l e R s m args below meth c H locs cells slots Q (F0 m pc ls (As.reverse ++ .ref b :: rest)) := by
  intro T hT X
  obtain ⟨y1, y2, y3, y4, y5, y6, y7⟩ := hy
  obtain ⟨d1, d2, d3, d4⟩ := hRm
  have hpl : e.platform.magicAccessors = ({} : Platform).magicAccessors := by rw [X.admits.platform]
  obtain ⟨mk, methM, cM, kP, vm₁, hnamed, hmethM, hcM, -, hlM, hlkM, hkP, -, hW₁, hstep₁⟩ := Steps.initColdArgs (e := e) X.here hx X.warmed hpl hown y2 y5 (hK.w hl rfl args) (hK.w y1 rfl args) (hK.w y3 rfl args) (f := F0 m pc ls (As.reverse ++ .ref b :: rest)) rfl (a := b) (argsL := As) (rest := rest) (fun sig h => hn.trans (len_of y7 h)) rfl (by rw [hb]; exact hdg)
  have X₁ := X.noted hW₁
  have hT1 : (T.setVm vm₁).heap = H := hT
  rcases cb_core X₁ hx hT1 (g := F0 m pc ls rest) rfl hnl (by rw [hb]; exact hdg) hnamed hmethM hcM hlkM (by rw [hlM]; exact y4) y6 hK hR (by simpa using hcat) d1 d2 d3 d4 hM with ⟨v, T', L, c1, s1, e1, X', hR1, st⟩ | ⟨x, q, ce, T', L, c1, s1, e1, X', hR1, g1, g2, g3, st⟩
  · obtain ⟨t2, a1, b1⟩ := kr v T'.heap _ _ _ e1 hR1 T' rfl X'
    exact ⟨t2, hstep₁ _ fun acts => by rw [doInvoke_state]; exact st.trans a1, b1⟩
  · obtain ⟨t2, a1, b1⟩ := kx x q ce T'.heap _ _ _ e1 hR1 g1 g2 g3 T' rfl X'
    exact ⟨t2, hstep₁ _ fun acts => by rw [doInvoke_state]; exact st.trans a1, b1⟩
/-- a new object -/
theorem RL.new (hR : RL G M0 M H locs cells slots) {H' : Heap} (kd ln sl : Nat) (h1 : mS M + 1 ≤ mC M 0) (h2 : mU M + sl ≤ SLm) (hs : H'.size = H.size + 1) (ho : ∀ q : Nat, q < H.size → H'[q]? = H[q]?) (hat : kd ≠ 0 → RealAt (gD G) (gA G) (newC M kd ln sl) H' (mS M)) : RL G M0 (newC M kd ln sl) H' locs (cells + 1) (slots + sl) := by
  obtain ⟨r1, r2, r3, r4, r5, r6, r7⟩ := hR
  exact ⟨r1.new kd ln sl hs ho hat, r2, by rw [mS_newC]; omega, by rw [mU_newC]; omega, by rw [mC_newC]; exact r5, by rw [mS_newC, mC_newC]; omega, by rw [mU_newC]; omega⟩
theorem rg_new (hx : p.tables.exec = Jvm.exec) (hb : c.code = cc) {own C : String} {T : u_T} {N ci index : Nat} (hown : s.vm.findClass own = some m.cls) (hK : Kst G s) (hR : RL G M0 M H locs cells slots) {d : Nat} (hRm : RM G R M0 d) (hc : hcCl[ci]? = some (C, T, N)) (hl : Cond.classLink own index C ∈ lw_tbl) (hin : Cond.instantiable C N ∈ lw_tbl) (hini : Cond.initialized C ∈ lw_tbl) (h1 : mS M + 1 ≤ mC M 0) (h2 : mU M + N ≤ SLm) (hdg : decode cc pc = .ok (.new index, 3))
    (kk : ∀ H1 : Heap, RL G M0 (newC M (ci + 1) 0 N) H1 locs (cells + 1) (slots + N) → W p l e R s m args below meth c H1 locs (cells + 1) (slots + N) Q (F0 m (pc + 3) ls (.ref (mS M) :: rest))) : W p l e R s m args below meth c H locs cells slots Q (F0 m pc ls rest) := by
  have hKn := hK.2.1.1 ci _ hc
  obtain ⟨d1, d2, d3, d4⟩ := hRm
  have hR' := hR
  obtain ⟨r1, r2, r3, r4, r5, r6, r7⟩ := hR'
  refine W.newcK hx hb hown (hK.w hl rfl args) (hK.w hin rfl args) (hK.w hini rfl args) rfl hdg (by rw [r5] at h1; omega) (by omega) hKn.2.1 r1.1 fun H1 kC hkC e1 z1 o1 => ?_
  have hok := hcOk (C, T, N) (List.mem_of_getElem? hc)
  refine kk H1 (hR.new (ci + 1) 0 N h1 h2 (by rw [z1, r1.1]) (fun q hq => o1 q (by rw [← r1.1]; exact hq)) (fun _ => ⟨fun c2 r2 g1 g2 => ?_, fun g1 => ?_⟩))
  · rw [mK_newC, va_up_self] at g1
    have hcc : ci = c2 := by omega
    subst hcc
    cases hc.symm.trans g2
    refine (u_born (fun k => (parseFieldDescriptor (T k).2.2.1).getD .int) (hK.uw hc args) (fun _ h => h) hKn hkC e1 (fun k hk => ?_)).to (fun k hk => ?_)
    · have h3 := hok.1 k hk
      cases hp : parseFieldDescriptor (T k).2.2.1 with
      | none => rw [hp] at h3; cases h3
      | some t => rfl
    · have h4 := hcDef ci (C, T, N) hc k hk
      show defaultValue ((parseFieldDescriptor (T k).2.2.1).getD .int) = _
      rw [h4]
      simp only [fV, mI_newC, mP_newC, fz_eq]
      cases fR ci k <;> rfl
  · exfalso
    rw [mK_newC, va_up_self] at g1
    have hlt := (List.getElem?_eq_some_iff.mp hc).1
    have hle : hcCl.length ≤ 20 := by decide
    omega
/-- a new array of numbers; nT: its kind by its type -/
theorem rg_newa (hx : p.tables.exec = Jvm.exec) (hb : c.code = cc) (hK : Kst G s) (hR : RL G M0 M H locs cells slots) {d : Nat} (hRm : RM G R M0 d) {atype : ArrayType} {ty : FieldType} {kd : Nat} (hty : newarray.typeOf atype = ty) (hkd : (kd = 21 ∧ ty = .int) ∨ (kd = 22 ∧ ty = .char) ∨ (kd = 23 ∧ ty = .boolean) ∨ (kd = 24 ∧ ty = .long)) (harr : Cond.arrayClass ty ∈ lw_tbl) {n : Int32} (hn : ¬ n < 0) (hN : n.toNatClampNeg ≤ 1000) (h1 : mS M + 1 ≤ mC M 0) (h2 : mU M + n.toNatClampNeg ≤ SLm) (hdg : decode cc pc = .ok (.newarray atype, 2))
    (kk : ∀ H1 : Heap, RL G M0 (newC M kd n.toNatClampNeg n.toNatClampNeg) H1 locs (cells + 1) (slots + n.toNatClampNeg) → W p l e R s m args below meth c H1 locs (cells + 1) (slots + n.toNatClampNeg) Q (F0 m (pc + 2) ls (.ref (mS M) :: rest))) : W p l e R s m args below meth c H locs cells slots Q (F0 m pc ls (.int n :: rest)) := by
  subst hty
  obtain ⟨d1, d2, d3, d4⟩ := hRm
  have hR' := hR
  obtain ⟨r1, r2, r3, r4, r5, r6, r7⟩ := hR'
  have hbyt : n.toNatClampNeg * componentBytes (newarray.typeOf atype) ≤ 536870912 := by
    have h8 : componentBytes (newarray.typeOf atype) ≤ 8 := by cases atype <;> decide
    have := Nat.mul_le_mul hN h8
    omega
  refine va_newaK hx hb (hK.w harr rfl args) rfl hdg rfl hn rfl hbyt (by rw [r5] at h1; omega) (by omega) r1.1 fun H1 cA e1 z1 o1 hAr hNm => ?_
  refine kk H1 (hR.new kd _ _ h1 h2 (by rw [z1, r1.1]) (fun q hq => o1 q (by rw [← r1.1]; exact hq)) (fun hk0 => ⟨fun c2 r2 g1 g2 => ?_, fun g1 => ?_⟩))
  · exfalso
    rw [mK_newC, va_up_self] at g1
    have hlt := (List.getElem?_eq_some_iff.mp g2).1
    have hle : hcCl.length ≤ 20 := by decide
    omega
  · rw [mK_newC, va_up_self]
    rw [e1]
    rcases hkd with ⟨rfl, ht⟩ | ⟨rfl, ht⟩ | ⟨rfl, ht⟩ | ⟨rfl, ht⟩
    · have hcA : cA = (gA G) 21 := by
        have h3 : s.vm.findClass ("[" ++ FieldType.int.toString) = some ((gA G) 21) := (hK.2.1.2 0 _ rfl).2
        rw [ht] at hNm
        exact Option.some.inj (hNm.symm.trans h3)
      rw [hcA, ht, aE_i (by decide), mL_newC, va_up_self]
      congr 2
      funext j
      rw [mI_newC, fz_eq]; rfl
    · have hcA : cA = (gA G) 22 := by
        have h3 : s.vm.findClass ("[" ++ FieldType.char.toString) = some ((gA G) 22) := (hK.2.1.2 1 _ rfl).2
        rw [ht] at hNm
        exact Option.some.inj (hNm.symm.trans h3)
      rw [hcA, ht, aE_i (by decide), mL_newC, va_up_self]
      congr 2
      funext j
      rw [mI_newC, fz_eq]; rfl
    · have hcA : cA = (gA G) 23 := by
        have h3 : s.vm.findClass ("[" ++ FieldType.boolean.toString) = some ((gA G) 23) := (hK.2.1.2 2 _ rfl).2
        rw [ht] at hNm
        exact Option.some.inj (hNm.symm.trans h3)
      rw [hcA, ht, aE_i (by decide), mL_newC, va_up_self]
      congr 2
      funext j
      rw [mI_newC, fz_eq]; rfl
    · have hcA : cA = (gA G) 24 := by
        have h3 : s.vm.findClass ("[" ++ FieldType.long.toString) = some ((gA G) 24) := (hK.2.1.2 3 _ rfl).2
        rw [ht] at hNm
        exact Option.some.inj (hNm.symm.trans h3)
      rw [hcA, ht, aE_l, mL_newC, va_up_self]
      congr 2
      funext j
      rw [mJ_newC, fz_eq]; rfl
/-- a new row of Nodes -/
theorem rg_newq (hx : p.tables.exec = Jvm.exec) (hb : c.code = cc) {own : String} {index : Nat} (hown : s.vm.findClass own = some m.cls) (hK : Kst G s) (hR : RL G M0 M H locs cells slots) {d : Nat} (hRm : RM G R M0 d) (hl : Cond.classLink own index "HeadCount$Node" ∈ lw_tbl) {n : Int32} (hn : ¬ n < 0) (hN : n.toNatClampNeg ≤ 1000) (h1 : mS M + 1 ≤ mC M 0) (h2 : mU M + n.toNatClampNeg ≤ SLm) (hdg : decode cc pc = .ok (.anewarray index, 3))
    (kk : ∀ H1 : Heap, RL G M0 (newC M 25 n.toNatClampNeg n.toNatClampNeg) H1 locs (cells + 1) (slots + n.toNatClampNeg) → W p l e R s m args below meth c H1 locs (cells + 1) (slots + n.toNatClampNeg) Q (F0 m (pc + 3) ls (.ref (mS M) :: rest))) : W p l e R s m args below meth c H locs cells slots Q (F0 m pc ls (.int n :: rest)) := by
  obtain ⟨d1, d2, d3, d4⟩ := hRm
  have hR' := hR
  obtain ⟨r1, r2, r3, r4, r5, r6, r7⟩ := hR'
  have hsz := r1.1
  refine W.anew hx hb hown (hK.w hl rfl args) (va_AO.use hK.2.2.1) rfl hdg rfl hn (by omega) (by rw [r5] at h1; omega) (by omega) fun cA kA comp f1 f2 f3 f4 => ?_
  generalize hH1 : H.push ({ cls := cA, slots := Array.replicate n.toNatClampNeg .null, vm := .none } : Cell) = H1
  have z1 : H1.size = H.size + 1 := by rw [← hH1, Array.size_push]
  have e1 : H1[H.size]? = some (arrV cA n.toNatClampNeg (fun _ => .null)) := by rw [← hH1, Array.getElem?_push_size, ← arrV_new]
  have o1 : ∀ q : Nat, q < H.size → H1[q]? = H[q]? := fun q hq => by rw [← hH1, Array.getElem?_push, if_neg (Nat.ne_of_lt hq)]
  rw [hsz]
  refine kk H1 (hR.new 25 _ _ h1 h2 z1 o1 (fun hk0 => ⟨fun c2 r2 g1 g2 => ?_, fun g1 => ?_⟩))
  · exfalso
    rw [mK_newC, va_up_self] at g1
    have hlt := (List.getElem?_eq_some_iff.mp g2).1
    have hle : hcCl.length ≤ 20 := by decide
    omega
  · rw [mK_newC, va_up_self, ← hsz, e1]
    have hcA : cA = (gA G) 25 := by
      obtain ⟨kA', comp', k1, k2, k3, k4⟩ := (hK.2.1.2 4 _ rfl).2
      exact Option.some.inj (f1.symm.trans k4)
    rw [hcA, aE_p, mL_newC, ← hsz, va_up_self]
    congr 2
    funext j
    rw [mP_newC, ← hsz, fz_eq]; rfl
end RowsC
end
section
/-! rows: references that may be null -/
/-- null or not -/
def rzN (r : Option Nat) (x : Rz) (k : Nat → Rz) : Rz := match r with
  | none => x
  | some a => k a
theorem rz_n {r : Option Nat} {x : Rz} {k : Nat → Rz} {y : (Option Value ⊕ Nat) × Mem} (h : rzN r x k = some y) : (r = none ∧ x = some y) ∨ (∃ a, r = some a ∧ k a = some y) := by
  cases r with
  | none => exact Or.inl ⟨rfl, h⟩
  | some a => exact Or.inr ⟨a, rfl, h⟩
section RowsR
variable {p : Program} {l : Launch} {e : Env} {R : Room} {s : State} {m : MethodId} {args : Array Value} {below : List Frame} {meth : Method} {c : Code} {H : Heap} {locs : List Loc} {cells slots : Nat} {Q : State → Prop}
variable {cc : ByteArray} {pc : Nat} {ls : Array Slot} {rest : List Value}
theorem lr_aload_n (hx : p.tables.exec = Jvm.exec) (hb : c.code = cc) {k : Fin 4} {i : Nat} {r : Option Nat} (hdg : decode cc pc = .ok (.aload_n k, 1)) (hi : (k : Nat) = i) (hl : ls[i]? = some (.val (va_rf r)))
    (kk : W p l e R s m args below meth c H locs cells slots Q (F0 m (pc + 1) ls (va_rf r :: rest))) : W p l e R s m args below meth c H locs cells slots Q (F0 m pc ls rest) := by
  cases r with
  | none => exact lv_aload_nN hx hb hdg hi hl kk
  | some x => exact lv_aload_n hx hb hdg hi hl kk
theorem lr_aload (hx : p.tables.exec = Jvm.exec) (hb : c.code = cc) {i : Nat} {r : Option Nat} (hdg : decode cc pc = .ok (.aload i, 2)) (hl : ls[i]? = some (.val (va_rf r)))
    (kk : W p l e R s m args below meth c H locs cells slots Q (F0 m (pc + 2) ls (va_rf r :: rest))) : W p l e R s m args below meth c H locs cells slots Q (F0 m pc ls rest) := by
  cases r with
  | none => exact lv_aloadN hx hb hdg hl kk
  | some x => exact lv_aload hx hb hdg hl kk
theorem lr_astore_n (hx : p.tables.exec = Jvm.exec) (hb : c.code = cc) {k : Fin 4} {i nL : Nat} {r : Option Nat} {lv lv' : List (Nat × Value)} (hdg : decode cc pc = .ok (.astore_n k, 1)) (hi : (k : Nat) = i) (h : lv_has ls nL lv) (hn : i < nL) (hl : (i, va_rf r) :: lv.filter (fun q => !(q.1 == i) && !(q.1 + 1 == i && q.2.category == 2)) = lv')
    (kk : ∀ ls' : Array Slot, lv_has ls' nL lv' → W p l e R s m args below meth c H locs cells slots Q (F0 m (pc + 1) ls' rest)) : W p l e R s m args below meth c H locs cells slots Q (F0 m pc ls (va_rf r :: rest)) := by
  cases r with
  | none => exact lv_astore_nN hx hb hdg hi h hn hl kk
  | some x => exact lv_astore_n hx hb hdg hi h hn hl kk
theorem lr_astore (hx : p.tables.exec = Jvm.exec) (hb : c.code = cc) {i nL : Nat} {r : Option Nat} {lv lv' : List (Nat × Value)} (hdg : decode cc pc = .ok (.astore i, 2)) (h : lv_has ls nL lv) (hn : i < nL) (hl : (i, va_rf r) :: lv.filter (fun q => !(q.1 == i) && !(q.1 + 1 == i && q.2.category == 2)) = lv')
    (kk : ∀ ls' : Array Slot, lv_has ls' nL lv' → W p l e R s m args below meth c H locs cells slots Q (F0 m (pc + 2) ls' rest)) : W p l e R s m args below meth c H locs cells slots Q (F0 m pc ls (va_rf r :: rest)) := by
  cases r with
  | none => exact lv_astoreN hx hb hdg h hn hl kk
  | some x => exact lv_astore hx hb hdg h hn hl kk
theorem lr_ifnull (hx : p.tables.exec = Jvm.exec) (hb : c.code = cc) {r : Option Nat} {off : Int} {tgt : Nat} (hdg : decode cc pc = .ok (.ifnull off, 3)) (ht : (pc : Int) + off = (tgt : Int))
    (kt : r = none → W p l e R s m args below meth c H locs cells slots Q (F0 m tgt ls rest)) (kf : ∀ a, r = some a → W p l e R s m args below meth c H locs cells slots Q (F0 m (pc + 3) ls rest)) : W p l e R s m args below meth c H locs cells slots Q (F0 m pc ls (va_rf r :: rest)) := by
  cases r with
  | none => exact lv_ifnullN hx hb hdg ht (kt rfl)
  | some x => exact lv_ifnull hx hb hdg (kf x rfl)
theorem lr_ifnonnull (hx : p.tables.exec = Jvm.exec) (hb : c.code = cc) {r : Option Nat} {off : Int} {tgt : Nat} (hdg : decode cc pc = .ok (.ifnonnull off, 3)) (ht : (pc : Int) + off = (tgt : Int))
    (kt : ∀ a, r = some a → W p l e R s m args below meth c H locs cells slots Q (F0 m tgt ls rest)) (kf : r = none → W p l e R s m args below meth c H locs cells slots Q (F0 m (pc + 3) ls rest)) : W p l e R s m args below meth c H locs cells slots Q (F0 m pc ls (va_rf r :: rest)) := by
  cases r with
  | none => exact lv_ifnonnullN hx hb hdg (kf rfl)
  | some x => exact lv_ifnonnull hx hb hdg ht (kt x rfl)
/-- the value of a variable by its number -/
theorem lv_by {nL : Nat} {lv : List (Nat × Value)} (h : lv_has ls nL lv) {i : Nat} {v : Value} (k : Nat) (hk : lv[k]? = some (i, v)) : ls[i]? = some (.val v) := lv_at h k hk
end RowsR
end
section
theorem kf_H_9 : Cond.fieldLink "HeadCount" 9 "HeadCount" "text" "[C" ∈ lw_tbl := List.mem_append_right _ (List.mem_of_getElem? (i := 93) (by decide +kernel))
theorem kf_H_13 : Cond.fieldLink "HeadCount" 13 "HeadCount" "used" "I" ∈ lw_tbl := List.mem_append_right _ (List.mem_of_getElem? (i := 94) (by decide +kernel))
theorem kf_H_20 : Cond.fieldLink "HeadCount" 20 "HeadCount" "parser" "LHeadCount$Parser;" ∈ lw_tbl := List.mem_append_right _ (List.mem_of_getElem? (i := 95) (by decide +kernel))
theorem kf_H_27 : Cond.fieldLink "HeadCount" 27 "HeadCount" "world" "LHeadCount$World;" ∈ lw_tbl := List.mem_append_right _ (List.mem_of_getElem? (i := 96) (by decide +kernel))
theorem kf_H_31 : Cond.fieldLink "HeadCount" 31 "HeadCount" "sentence" "LHeadCount$Node;" ∈ lw_tbl := List.mem_append_right _ (List.mem_of_getElem? (i := 97) (by decide +kernel))
theorem kf_H_35 : Cond.fieldLink "HeadCount" 35 "HeadCount" "counted" "[I" ∈ lw_tbl := List.mem_append_right _ (List.mem_of_getElem? (i := 98) (by decide +kernel))
theorem kf_H_51 : Cond.fieldLink "HeadCount" 51 "HeadCount$Parser" "quantifiers" "I" ∈ lw_tbl := List.mem_append_right _ (List.mem_of_getElem? (i := 49) (by decide +kernel))
theorem kf_H_84 : Cond.fieldLink "HeadCount" 84 "HeadCount$Node" "sign" "C" ∈ lw_tbl := List.mem_append_right _ (List.mem_of_getElem? (i := 252) (by decide +kernel))
theorem kf_H_90 : Cond.fieldLink "HeadCount" 90 "HeadCount$Node" "variable" "I" ∈ lw_tbl := List.mem_append_right _ (List.mem_of_getElem? (i := 259) (by decide +kernel))
theorem kf_N_7 : Cond.fieldLink "HeadCount$Node" 7 "HeadCount$Node" "sign" "C" ∈ lw_tbl := List.mem_append_right _ (List.mem_of_getElem? (i := 249) (by decide +kernel))
theorem kf_N_13 : Cond.fieldLink "HeadCount$Node" 13 "HeadCount$Node" "number" "I" ∈ lw_tbl := List.mem_append_right _ (List.mem_of_getElem? (i := 253) (by decide +kernel))
theorem kf_N_17 : Cond.fieldLink "HeadCount$Node" 17 "HeadCount$Node" "variable" "I" ∈ lw_tbl := List.mem_append_right _ (List.mem_of_getElem? (i := 256) (by decide +kernel))
theorem kf_N_20 : Cond.fieldLink "HeadCount$Node" 20 "HeadCount$Node" "first" "LHeadCount$Node;" ∈ lw_tbl := List.mem_append_right _ (List.mem_of_getElem? (i := 260) (by decide +kernel))
theorem kf_N_24 : Cond.fieldLink "HeadCount$Node" 24 "HeadCount$Node" "next" "LHeadCount$Node;" ∈ lw_tbl := List.mem_append_right _ (List.mem_of_getElem? (i := 263) (by decide +kernel))
theorem kf_P_9 : Cond.fieldLink "HeadCount$Parser" 9 "HeadCount$Parser" "signs" "[C" ∈ lw_tbl := List.mem_append_right _ (List.mem_of_getElem? (i := 45) (by decide +kernel))
theorem kf_P_23 : Cond.fieldLink "HeadCount$Parser" 23 "HeadCount$Parser" "bound" "[Z" ∈ lw_tbl := List.mem_append_right _ (List.mem_of_getElem? (i := 50) (by decide +kernel))
theorem kf_P_29 : Cond.fieldLink "HeadCount$Parser" 29 "HeadCount$Parser" "nodes" "[LHeadCount$Node;" ∈ lw_tbl := List.mem_append_right _ (List.mem_of_getElem? (i := 51) (by decide +kernel))
theorem kf_P_33 : Cond.fieldLink "HeadCount$Parser" 33 "HeadCount$Parser" "nodesInForce" "[LHeadCount$Node;" ∈ lw_tbl := List.mem_append_right _ (List.mem_of_getElem? (i := 52) (by decide +kernel))
theorem kf_P_44 : Cond.fieldLink "HeadCount$Parser" 44 "HeadCount$Parser" "at" "I" ∈ lw_tbl := List.mem_append_right _ (List.mem_of_getElem? (i := 47) (by decide +kernel))
theorem kf_P_48 : Cond.fieldLink "HeadCount$Parser" 48 "HeadCount$Parser" "count" "I" ∈ lw_tbl := List.mem_append_right _ (List.mem_of_getElem? (i := 46) (by decide +kernel))
theorem kf_P_55 : Cond.fieldLink "HeadCount$Parser" 55 "HeadCount$Parser" "quantifiers" "I" ∈ lw_tbl := List.mem_append_right _ (List.mem_of_getElem? (i := 48) (by decide +kernel))
theorem kf_P_58 : Cond.fieldLink "HeadCount$Parser" 58 "HeadCount$Parser" "made" "I" ∈ lw_tbl := List.mem_append_right _ (List.mem_of_getElem? (i := 53) (by decide +kernel))
theorem kf_P_72 : Cond.fieldLink "HeadCount$Parser" 72 "HeadCount$Node" "first" "LHeadCount$Node;" ∈ lw_tbl := List.mem_append_right _ (List.mem_of_getElem? (i := 262) (by decide +kernel))
theorem kf_P_80 : Cond.fieldLink "HeadCount$Parser" 80 "HeadCount$Node" "next" "LHeadCount$Node;" ∈ lw_tbl := List.mem_append_right _ (List.mem_of_getElem? (i := 264) (by decide +kernel))
theorem kf_P_118 : Cond.fieldLink "HeadCount$Parser" 118 "HeadCount$Node" "variable" "I" ∈ lw_tbl := List.mem_append_right _ (List.mem_of_getElem? (i := 258) (by decide +kernel))
theorem kf_P_127 : Cond.fieldLink "HeadCount$Parser" 127 "HeadCount$Node" "number" "I" ∈ lw_tbl := List.mem_append_right _ (List.mem_of_getElem? (i := 255) (by decide +kernel))
theorem kf_P_133 : Cond.fieldLink "HeadCount$Parser" 133 "HeadCount$Node" "sign" "C" ∈ lw_tbl := List.mem_append_right _ (List.mem_of_getElem? (i := 251) (by decide +kernel))
theorem kf_O_17 : Cond.fieldLink "HeadCount$World" 17 "HeadCount$World" "values" "[I" ∈ lw_tbl := List.mem_append_right _ (List.mem_of_getElem? (i := 84) (by decide +kernel))
theorem kf_O_23 : Cond.fieldLink "HeadCount$World" 23 "HeadCount$World" "size" "I" ∈ lw_tbl := List.mem_append_right _ (List.mem_of_getElem? (i := 82) (by decide +kernel))
theorem kf_O_27 : Cond.fieldLink "HeadCount$World" 27 "HeadCount$World" "allElements" "I" ∈ lw_tbl := List.mem_append_right _ (List.mem_of_getElem? (i := 83) (by decide +kernel))
theorem kf_O_30 : Cond.fieldLink "HeadCount$World" 30 "HeadCount$Node" "sign" "C" ∈ lw_tbl := List.mem_append_right _ (List.mem_of_getElem? (i := 250) (by decide +kernel))
theorem kf_O_40 : Cond.fieldLink "HeadCount$World" 40 "HeadCount$Node" "variable" "I" ∈ lw_tbl := List.mem_append_right _ (List.mem_of_getElem? (i := 257) (by decide +kernel))
theorem kf_O_55 : Cond.fieldLink "HeadCount$World" 55 "HeadCount$Node" "first" "LHeadCount$Node;" ∈ lw_tbl := List.mem_append_right _ (List.mem_of_getElem? (i := 261) (by decide +kernel))
theorem kf_O_72 : Cond.fieldLink "HeadCount$World" 72 "HeadCount$Node" "next" "LHeadCount$Node;" ∈ lw_tbl := List.mem_append_right _ (List.mem_of_getElem? (i := 265) (by decide +kernel))
theorem kf_O_82 : Cond.fieldLink "HeadCount$World" 82 "HeadCount$Node" "number" "I" ∈ lw_tbl := List.mem_append_right _ (List.mem_of_getElem? (i := 254) (by decide +kernel))
theorem kf_M_7 : Cond.fieldLink "HeadCountModel" 7 "HeadCountModel" "text" "[C" ∈ lw_tbl := List.mem_append_right _ (List.mem_of_getElem? (i := 538) (by decide +kernel))
theorem kf_M_13 : Cond.fieldLink "HeadCountModel" 13 "HeadCountModel" "order" "[I" ∈ lw_tbl := List.mem_append_right _ (List.mem_of_getElem? (i := 542) (by decide +kernel))
theorem kf_M_17 : Cond.fieldLink "HeadCountModel" 17 "HeadCountModel" "arg" "[I" ∈ lw_tbl := List.mem_append_right _ (List.mem_of_getElem? (i := 543) (by decide +kernel))
theorem kf_M_20 : Cond.fieldLink "HeadCountModel" 20 "HeadCountModel" "every" "[Z" ∈ lw_tbl := List.mem_append_right _ (List.mem_of_getElem? (i := 544) (by decide +kernel))
theorem kf_M_24 : Cond.fieldLink "HeadCountModel" 24 "HeadCountModel" "overSets" "[Z" ∈ lw_tbl := List.mem_append_right _ (List.mem_of_getElem? (i := 545) (by decide +kernel))
theorem kf_M_27 : Cond.fieldLink "HeadCountModel" 27 "HeadCountModel" "freshOrder" "[I" ∈ lw_tbl := List.mem_append_right _ (List.mem_of_getElem? (i := 550) (by decide +kernel))
theorem kf_M_30 : Cond.fieldLink "HeadCountModel" 30 "HeadCountModel" "freshArg" "[I" ∈ lw_tbl := List.mem_append_right _ (List.mem_of_getElem? (i := 551) (by decide +kernel))
theorem kf_M_33 : Cond.fieldLink "HeadCountModel" 33 "HeadCountModel" "freshEvery" "[Z" ∈ lw_tbl := List.mem_append_right _ (List.mem_of_getElem? (i := 552) (by decide +kernel))
theorem kf_M_36 : Cond.fieldLink "HeadCountModel" 36 "HeadCountModel" "freshSets" "[Z" ∈ lw_tbl := List.mem_append_right _ (List.mem_of_getElem? (i := 553) (by decide +kernel))
theorem kf_M_39 : Cond.fieldLink "HeadCountModel" 39 "HeadCountModel" "pile" "[I" ∈ lw_tbl := List.mem_append_right _ (List.mem_of_getElem? (i := 556) (by decide +kernel))
theorem kf_M_42 : Cond.fieldLink "HeadCountModel" 42 "HeadCountModel" "variable" "[I" ∈ lw_tbl := List.mem_append_right _ (List.mem_of_getElem? (i := 557) (by decide +kernel))
theorem kf_M_45 : Cond.fieldLink "HeadCountModel" 45 "HeadCountModel" "before" "[I" ∈ lw_tbl := List.mem_append_right _ (List.mem_of_getElem? (i := 558) (by decide +kernel))
theorem kf_M_48 : Cond.fieldLink "HeadCountModel" 48 "HeadCountModel" "binds" "[I" ∈ lw_tbl := List.mem_append_right _ (List.mem_of_getElem? (i := 559) (by decide +kernel))
theorem kf_M_51 : Cond.fieldLink "HeadCountModel" 51 "HeadCountModel" "value" "[I" ∈ lw_tbl := List.mem_append_right _ (List.mem_of_getElem? (i := 572) (by decide +kernel))
theorem kf_M_54 : Cond.fieldLink "HeadCountModel" 54 "HeadCountModel" "start" "[I" ∈ lw_tbl := List.mem_append_right _ (List.mem_of_getElem? (i := 573) (by decide +kernel))
theorem kf_M_57 : Cond.fieldLink "HeadCountModel" 57 "HeadCountModel" "stack" "[I" ∈ lw_tbl := List.mem_append_right _ (List.mem_of_getElem? (i := 575) (by decide +kernel))
theorem kf_M_60 : Cond.fieldLink "HeadCountModel" 60 "HeadCountModel" "code" "I" ∈ lw_tbl := List.mem_append_right _ (List.mem_of_getElem? (i := 536) (by decide +kernel))
theorem kf_M_66 : Cond.fieldLink "HeadCountModel" 66 "HeadCountModel" "typed" "I" ∈ lw_tbl := List.mem_append_right _ (List.mem_of_getElem? (i := 537) (by decide +kernel))
theorem kf_M_69 : Cond.fieldLink "HeadCountModel" 69 "HeadCountModel" "freshLength" "I" ∈ lw_tbl := List.mem_append_right _ (List.mem_of_getElem? (i := 548) (by decide +kernel))
theorem kf_M_72 : Cond.fieldLink "HeadCountModel" 72 "HeadCountModel" "open" "I" ∈ lw_tbl := List.mem_append_right _ (List.mem_of_getElem? (i := 555) (by decide +kernel))
theorem kf_M_75 : Cond.fieldLink "HeadCountModel" 75 "HeadCountModel" "depth" "I" ∈ lw_tbl := List.mem_append_right _ (List.mem_of_getElem? (i := 560) (by decide +kernel))
theorem kf_M_94 : Cond.fieldLink "HeadCountModel" 94 "HeadCountModel" "universal" "Z" ∈ lw_tbl := List.mem_append_right _ (List.mem_of_getElem? (i := 561) (by decide +kernel))
theorem kf_M_98 : Cond.fieldLink "HeadCountModel" 98 "HeadCountModel" "freshLoops" "I" ∈ lw_tbl := List.mem_append_right _ (List.mem_of_getElem? (i := 549) (by decide +kernel))
theorem kf_M_101 : Cond.fieldLink "HeadCountModel" 101 "HeadCountModel" "relation" "I" ∈ lw_tbl := List.mem_append_right _ (List.mem_of_getElem? (i := 569) (by decide +kernel))
theorem kf_M_120 : Cond.fieldLink "HeadCountModel" 120 "HeadCountModel" "minus" "Z" ∈ lw_tbl := List.mem_append_right _ (List.mem_of_getElem? (i := 566) (by decide +kernel))
theorem kf_M_123 : Cond.fieldLink "HeadCountModel" 123 "HeadCountModel" "firstPart" "Z" ∈ lw_tbl := List.mem_append_right _ (List.mem_of_getElem? (i := 567) (by decide +kernel))
theorem kf_M_126 : Cond.fieldLink "HeadCountModel" 126 "HeadCountModel" "bare" "Z" ∈ lw_tbl := List.mem_append_right _ (List.mem_of_getElem? (i := 568) (by decide +kernel))
theorem kf_M_132 : Cond.fieldLink "HeadCountModel" 132 "HeadCountModel" "times" "Z" ∈ lw_tbl := List.mem_append_right _ (List.mem_of_getElem? (i := 564) (by decide +kernel))
theorem kf_M_139 : Cond.fieldLink "HeadCountModel" 139 "HeadCountModel" "figure" "I" ∈ lw_tbl := List.mem_append_right _ (List.mem_of_getElem? (i := 562) (by decide +kernel))
theorem kf_M_142 : Cond.fieldLink "HeadCountModel" 142 "HeadCountModel" "figures" "I" ∈ lw_tbl := List.mem_append_right _ (List.mem_of_getElem? (i := 563) (by decide +kernel))
theorem kf_M_148 : Cond.fieldLink "HeadCountModel" 148 "HeadCountModel" "factor" "I" ∈ lw_tbl := List.mem_append_right _ (List.mem_of_getElem? (i := 565) (by decide +kernel))
theorem kf_M_151 : Cond.fieldLink "HeadCountModel" 151 "HeadCountModel" "divisor" "I" ∈ lw_tbl := List.mem_append_right _ (List.mem_of_getElem? (i := 570) (by decide +kernel))
theorem kf_M_166 : Cond.fieldLink "HeadCountModel" 166 "HeadCountModel" "state" "I" ∈ lw_tbl := List.mem_append_right _ (List.mem_of_getElem? (i := 554) (by decide +kernel))
theorem kf_M_184 : Cond.fieldLink "HeadCountModel" 184 "HeadCountModel" "freshOpens" "Z" ∈ lw_tbl := List.mem_append_right _ (List.mem_of_getElem? (i := 547) (by decide +kernel))
theorem kf_M_194 : Cond.fieldLink "HeadCountModel" 194 "HeadCountModel" "there" "Z" ∈ lw_tbl := List.mem_append_right _ (List.mem_of_getElem? (i := 539) (by decide +kernel))
theorem kf_M_197 : Cond.fieldLink "HeadCountModel" 197 "HeadCountModel" "length" "I" ∈ lw_tbl := List.mem_append_right _ (List.mem_of_getElem? (i := 540) (by decide +kernel))
theorem kf_M_200 : Cond.fieldLink "HeadCountModel" 200 "HeadCountModel" "loops" "I" ∈ lw_tbl := List.mem_append_right _ (List.mem_of_getElem? (i := 541) (by decide +kernel))
theorem kf_M_203 : Cond.fieldLink "HeadCountModel" 203 "HeadCountModel" "opens" "Z" ∈ lw_tbl := List.mem_append_right _ (List.mem_of_getElem? (i := 546) (by decide +kernel))
theorem kf_M_206 : Cond.fieldLink "HeadCountModel" 206 "HeadCountModel" "high" "I" ∈ lw_tbl := List.mem_append_right _ (List.mem_of_getElem? (i := 574) (by decide +kernel))
theorem kf_M_216 : Cond.fieldLink "HeadCountModel" 216 "HeadCountModel" "size" "I" ∈ lw_tbl := List.mem_append_right _ (List.mem_of_getElem? (i := 571) (by decide +kernel))
theorem kf_M_222 : Cond.fieldLink "HeadCountModel" 222 "HeadCountModel" "good" "I" ∈ lw_tbl := List.mem_append_right _ (List.mem_of_getElem? (i := 576) (by decide +kernel))
theorem kf_S_9 : Cond.fieldLink "java/lang/String" 9 "java/lang/String" "value" "[B" ∈ lw_tbl := List.mem_append_right _ (List.mem_of_getElem? (i := 824) (by decide +kernel))
theorem kf_S_15 : Cond.fieldLink "java/lang/String" 15 "java/lang/String" "coder" "B" ∈ lw_tbl := List.mem_append_right _ (List.mem_of_getElem? (i := 825) (by decide +kernel))
theorem kf_S_38 : Cond.fieldLink "java/lang/String" 38 "java/lang/String" "COMPACT_STRINGS" "Z" ∈ lw_tbl := List.mem_append_right _ (List.mem_of_getElem? (i := 41) (by decide +kernel))
theorem kf_S_1053 : Cond.fieldLink "java/lang/String" 1053 "jdk/internal/util/Preconditions" "SIOOBE_FORMATTER" "Ljava/util/function/BiFunction;" ∈ lw_tbl := List.mem_append_right _ (List.mem_of_getElem? (i := 331) (by decide +kernel))
theorem kl_H_19 : Cond.methodLink "HeadCount" 19 yP_init ∈ lw_tbl := List.mem_append_right _ (List.mem_of_getElem? (i := 28) (by decide +kernel))
theorem kl_H_26 : Cond.methodLink "HeadCount" 26 yO_init ∈ lw_tbl := List.mem_append_right _ (List.mem_of_getElem? (i := 76) (by decide +kernel))
theorem kl_H_39 : Cond.methodLink "HeadCount" 39 yH_byteAt ∈ lw_tbl := List.mem_append_right _ (List.mem_of_getElem? (i := 116) (by decide +kernel))
theorem kl_H_43 : Cond.methodLink "HeadCount" 43 yH_append ∈ lw_tbl := List.mem_append_right _ (List.mem_of_getElem? (i := 119) (by decide +kernel))
theorem kl_H_47 : Cond.methodLink "HeadCount" 47 yP_parse ∈ lw_tbl := List.mem_append_right _ (List.mem_of_getElem? (i := 139) (by decide +kernel))
theorem kl_H_54 : Cond.methodLink "HeadCount" 54 yH_needSentence ∈ lw_tbl := List.mem_append_right _ (List.mem_of_getElem? (i := 421) (by decide +kernel))
theorem kl_H_57 : Cond.methodLink "HeadCount" 57 yH_needWorld ∈ lw_tbl := List.mem_append_right _ (List.mem_of_getElem? (i := 441) (by decide +kernel))
theorem kl_H_60 : Cond.methodLink "HeadCount" 60 yH_isTrueIn ∈ lw_tbl := List.mem_append_right _ (List.mem_of_getElem? (i := 447) (by decide +kernel))
theorem kl_H_64 : Cond.methodLink "HeadCount" 64 yH_waysIn ∈ lw_tbl := List.mem_append_right _ (List.mem_of_getElem? (i := 451) (by decide +kernel))
theorem kl_H_80 : Cond.methodLink "HeadCount" 80 yO_count ∈ lw_tbl := List.mem_append_right _ (List.mem_of_getElem? (i := 455) (by decide +kernel))
theorem kl_H_93 : Cond.methodLink "HeadCount" 93 yO_choices ∈ lw_tbl := List.mem_append_right _ (List.mem_of_getElem? (i := 515) (by decide +kernel))
theorem kl_P_17 : Cond.methodLink "HeadCount$Parser" 17 yS_length ∈ lw_tbl := List.mem_append_right _ (List.mem_of_getElem? (i := 33) (by decide +kernel))
theorem kl_P_36 : Cond.methodLink "HeadCount$Parser" 36 yP_start ∈ lw_tbl := List.mem_append_right _ (List.mem_of_getElem? (i := 143) (by decide +kernel))
theorem kl_P_40 : Cond.methodLink "HeadCount$Parser" 40 yP_row ∈ lw_tbl := List.mem_append_right _ (List.mem_of_getElem? (i := 147) (by decide +kernel))
theorem kl_P_51 : Cond.methodLink "HeadCount$Parser" 51 yP_insist ∈ lw_tbl := List.mem_append_right _ (List.mem_of_getElem? (i := 159) (by decide +kernel))
theorem kl_P_61 : Cond.methodLink "HeadCount$Parser" 61 yP_item ∈ lw_tbl := List.mem_append_right _ (List.mem_of_getElem? (i := 151) (by decide +kernel))
theorem kl_P_64 : Cond.methodLink "HeadCount$Parser" 64 yP_peek ∈ lw_tbl := List.mem_append_right _ (List.mem_of_getElem? (i := 228) (by decide +kernel))
theorem kl_P_68 : Cond.methodLink "HeadCount$Parser" 68 yP_make ∈ lw_tbl := List.mem_append_right _ (List.mem_of_getElem? (i := 240) (by decide +kernel))
theorem kl_P_76 : Cond.methodLink "HeadCount$Parser" 76 yP_take ∈ lw_tbl := List.mem_append_right _ (List.mem_of_getElem? (i := 366) (by decide +kernel))
theorem kl_P_83 : Cond.methodLink "HeadCount$Parser" 83 yP_one ∈ lw_tbl := List.mem_append_right _ (List.mem_of_getElem? (i := 155) (by decide +kernel))
theorem kl_P_87 : Cond.methodLink "HeadCount$Parser" 87 yP_single ∈ lw_tbl := List.mem_append_right _ (List.mem_of_getElem? (i := 401) (by decide +kernel))
theorem kl_P_90 : Cond.methodLink "HeadCount$Parser" 90 yP_not ∈ lw_tbl := List.mem_append_right _ (List.mem_of_getElem? (i := 232) (by decide +kernel))
theorem kl_P_93 : Cond.methodLink "HeadCount$Parser" 93 yP_quantified ∈ lw_tbl := List.mem_append_right _ (List.mem_of_getElem? (i := 281) (by decide +kernel))
theorem kl_P_96 : Cond.methodLink "HeadCount$Parser" 96 yP_bracketed ∈ lw_tbl := List.mem_append_right _ (List.mem_of_getElem? (i := 362) (by decide +kernel))
theorem kl_P_99 : Cond.methodLink "HeadCount$Parser" 99 yP_comparisonOfSets ∈ lw_tbl := List.mem_append_right _ (List.mem_of_getElem? (i := 370) (by decide +kernel))
theorem kl_P_102 : Cond.methodLink "HeadCount$Parser" 102 yP_startsWithDivisor ∈ lw_tbl := List.mem_append_right _ (List.mem_of_getElem? (i := 374) (by decide +kernel))
theorem kl_P_106 : Cond.methodLink "HeadCount$Parser" 106 yP_divided ∈ lw_tbl := List.mem_append_right _ (List.mem_of_getElem? (i := 385) (by decide +kernel))
theorem kl_P_109 : Cond.methodLink "HeadCount$Parser" 109 yP_comparisonOfSums ∈ lw_tbl := List.mem_append_right _ (List.mem_of_getElem? (i := 409) (by decide +kernel))
theorem kl_P_112 : Cond.methodLink "HeadCount$Parser" 112 yP_next ∈ lw_tbl := List.mem_append_right _ (List.mem_of_getElem? (i := 236) (by decide +kernel))
theorem kl_P_114 : Cond.methodLink "HeadCount$Parser" 114 yS_indexOf ∈ lw_tbl := List.mem_append_right _ (List.mem_of_getElem? (i := 285) (by decide +kernel))
theorem kl_P_121 : Cond.methodLink "HeadCount$Parser" 121 yP_isDecimal ∈ lw_tbl := List.mem_append_right _ (List.mem_of_getElem? (i := 378) (by decide +kernel))
theorem kl_P_124 : Cond.methodLink "HeadCount$Parser" 124 yP_number ∈ lw_tbl := List.mem_append_right _ (List.mem_of_getElem? (i := 381) (by decide +kernel))
theorem kl_P_129 : Cond.methodLink "HeadCount$Parser" 129 yP_addSum ∈ lw_tbl := List.mem_append_right _ (List.mem_of_getElem? (i := 389) (by decide +kernel))
theorem kl_P_137 : Cond.methodLink "HeadCount$Parser" 137 yP_addPart ∈ lw_tbl := List.mem_append_right _ (List.mem_of_getElem? (i := 393) (by decide +kernel))
theorem kl_P_140 : Cond.methodLink "HeadCount$Parser" 140 yP_thing ∈ lw_tbl := List.mem_append_right _ (List.mem_of_getElem? (i := 397) (by decide +kernel))
theorem kl_P_143 : Cond.methodLink "HeadCount$Parser" 143 yP_boundVariable ∈ lw_tbl := List.mem_append_right _ (List.mem_of_getElem? (i := 405) (by decide +kernel))
theorem kl_P_148 : Cond.methodLink "HeadCount$Parser" 148 yN_reset ∈ lw_tbl := List.mem_append_right _ (List.mem_of_getElem? (i := 277) (by decide +kernel))
theorem kl_O_11 : Cond.methodLink "HeadCount$World" 11 yS_length ∈ lw_tbl := List.mem_append_right _ (List.mem_of_getElem? (i := 81) (by decide +kernel))
theorem kl_O_36 : Cond.methodLink "HeadCount$World" 36 yO_isTrue ∈ lw_tbl := List.mem_append_right _ (List.mem_of_getElem? (i := 459) (by decide +kernel))
theorem kl_O_43 : Cond.methodLink "HeadCount$World" 43 yO_firstChoice ∈ lw_tbl := List.mem_append_right _ (List.mem_of_getElem? (i := 475) (by decide +kernel))
theorem kl_O_47 : Cond.methodLink "HeadCount$World" 47 yO_choices ∈ lw_tbl := List.mem_append_right _ (List.mem_of_getElem? (i := 478) (by decide +kernel))
theorem kl_O_51 : Cond.methodLink "HeadCount$World" 51 yO_bind ∈ lw_tbl := List.mem_append_right _ (List.mem_of_getElem? (i := 481) (by decide +kernel))
theorem kl_O_59 : Cond.methodLink "HeadCount$World" 59 yO_anyIs ∈ lw_tbl := List.mem_append_right _ (List.mem_of_getElem? (i := 463) (by decide +kernel))
theorem kl_O_63 : Cond.methodLink "HeadCount$World" 63 yO_anyChoiceMakes ∈ lw_tbl := List.mem_append_right _ (List.mem_of_getElem? (i := 467) (by decide +kernel))
theorem kl_O_66 : Cond.methodLink "HeadCount$World" 66 yO_isTrueOfSets ∈ lw_tbl := List.mem_append_right _ (List.mem_of_getElem? (i := 485) (by decide +kernel))
theorem kl_O_69 : Cond.methodLink "HeadCount$World" 69 yO_isTrueOfSum ∈ lw_tbl := List.mem_append_right _ (List.mem_of_getElem? (i := 501) (by decide +kernel))
theorem kl_O_75 : Cond.methodLink "HeadCount$World" 75 yO_value ∈ lw_tbl := List.mem_append_right _ (List.mem_of_getElem? (i := 471) (by decide +kernel))
theorem kl_O_78 : Cond.methodLink "HeadCount$World" 78 yO_elements ∈ lw_tbl := List.mem_append_right _ (List.mem_of_getElem? (i := 489) (by decide +kernel))
theorem kl_O_85 : Cond.methodLink "HeadCount$World" 85 yO_amount ∈ lw_tbl := List.mem_append_right _ (List.mem_of_getElem? (i := 505) (by decide +kernel))
theorem kl_O_88 : Cond.methodLink "HeadCount$World" 88 yI_bitCount ∈ lw_tbl := List.mem_append_right _ (List.mem_of_getElem? (i := 509) (by decide +kernel))
theorem kl_O_93 : Cond.methodLink "HeadCount$World" 93 yO_union ∈ lw_tbl := List.mem_append_right _ (List.mem_of_getElem? (i := 493) (by decide +kernel))
theorem kl_O_96 : Cond.methodLink "HeadCount$World" 96 yO_meet ∈ lw_tbl := List.mem_append_right _ (List.mem_of_getElem? (i := 497) (by decide +kernel))
theorem kl_L_7 : Cond.methodLink "HeadCountLaw" 7 yH_read ∈ lw_tbl := List.mem_append_right _ (List.mem_of_getElem? (i := 135) (by decide +kernel))
theorem kl_L_15 : Cond.methodLink "HeadCountLaw" 15 yH_holds ∈ lw_tbl := List.mem_append_right _ (List.mem_of_getElem? (i := 417) (by decide +kernel))
theorem kl_L_21 : Cond.methodLink "HeadCountLaw" 21 yH_fails ∈ lw_tbl := List.mem_append_right _ (List.mem_of_getElem? (i := 519) (by decide +kernel))
theorem kl_L_24 : Cond.methodLink "HeadCountLaw" 24 yH_ways ∈ lw_tbl := List.mem_append_right _ (List.mem_of_getElem? (i := 526) (by decide +kernel))
theorem kl_L_28 : Cond.methodLink "HeadCountLaw" 28 yH_init ∈ lw_tbl := List.mem_append_right _ (List.mem_of_getElem? (i := 20) (by decide +kernel))
theorem kl_L_31 : Cond.methodLink "HeadCountLaw" 31 yM_init ∈ lw_tbl := List.mem_append_right _ (List.mem_of_getElem? (i := 532) (by decide +kernel))
theorem kl_L_34 : Cond.methodLink "HeadCountLaw" 34 yH_write ∈ lw_tbl := List.mem_append_right _ (List.mem_of_getElem? (i := 112) (by decide +kernel))
theorem kl_L_38 : Cond.methodLink "HeadCountLaw" 38 yM_write ∈ lw_tbl := List.mem_append_right _ (List.mem_of_getElem? (i := 664) (by decide +kernel))
theorem kl_L_39 : Cond.methodLink "HeadCountLaw" 39 yH_wipe ∈ lw_tbl := List.mem_append_right _ (List.mem_of_getElem? (i := 123) (by decide +kernel))
theorem kl_L_42 : Cond.methodLink "HeadCountLaw" 42 yM_wipe ∈ lw_tbl := List.mem_append_right _ (List.mem_of_getElem? (i := 669) (by decide +kernel))
theorem kl_L_43 : Cond.methodLink "HeadCountLaw" 43 yL_read ∈ lw_tbl := List.mem_append_right _ (List.mem_of_getElem? (i := 131) (by decide +kernel))
theorem kl_L_48 : Cond.methodLink "HeadCountLaw" 48 yM_read ∈ lw_tbl := List.mem_append_right _ (List.mem_of_getElem? (i := 677) (by decide +kernel))
theorem kl_L_49 : Cond.methodLink "HeadCountLaw" 49 yM_thrown ∈ lw_tbl := List.mem_append_right _ (List.mem_of_getElem? (i := 660) (by decide +kernel))
theorem kl_L_52 : Cond.methodLink "HeadCountLaw" 52 yL_holds ∈ lw_tbl := List.mem_append_right _ (List.mem_of_getElem? (i := 413) (by decide +kernel))
theorem kl_L_55 : Cond.methodLink "HeadCountLaw" 55 yM_holds ∈ lw_tbl := List.mem_append_right _ (List.mem_of_getElem? (i := 771) (by decide +kernel))
theorem kl_L_56 : Cond.methodLink "HeadCountLaw" 56 yL_fails ∈ lw_tbl := List.mem_append_right _ (List.mem_of_getElem? (i := 516) (by decide +kernel))
theorem kl_L_58 : Cond.methodLink "HeadCountLaw" 58 yM_fails ∈ lw_tbl := List.mem_append_right _ (List.mem_of_getElem? (i := 809) (by decide +kernel))
theorem kl_L_59 : Cond.methodLink "HeadCountLaw" 59 yL_ways ∈ lw_tbl := List.mem_append_right _ (List.mem_of_getElem? (i := 523) (by decide +kernel))
theorem kl_L_61 : Cond.methodLink "HeadCountLaw" 61 yM_ways ∈ lw_tbl := List.mem_append_right _ (List.mem_of_getElem? (i := 813) (by decide +kernel))
theorem kl_L_62 : Cond.methodLink "HeadCountLaw" 62 yH_length ∈ lw_tbl := List.mem_append_right _ (List.mem_of_getElem? (i := 127) (by decide +kernel))
theorem kl_L_65 : Cond.methodLink "HeadCountLaw" 65 yM_length ∈ lw_tbl := List.mem_append_right _ (List.mem_of_getElem? (i := 673) (by decide +kernel))
theorem kl_M_78 : Cond.methodLink "HeadCountModel" 78 yM_push ∈ lw_tbl := List.mem_append_right _ (List.mem_of_getElem? (i := 697) (by decide +kernel))
theorem kl_M_82 : Cond.methodLink "HeadCountModel" 82 yM_upper ∈ lw_tbl := List.mem_append_right _ (List.mem_of_getElem? (i := 735) (by decide +kernel))
theorem kl_M_86 : Cond.methodLink "HeadCountModel" 86 yM_emit ∈ lw_tbl := List.mem_append_right _ (List.mem_of_getElem? (i := 719) (by decide +kernel))
theorem kl_M_90 : Cond.methodLink "HeadCountModel" 90 yM_deeper ∈ lw_tbl := List.mem_append_right _ (List.mem_of_getElem? (i := 693) (by decide +kernel))
theorem kl_M_104 : Cond.methodLink "HeadCountModel" 104 yM_sum ∈ lw_tbl := List.mem_append_right _ (List.mem_of_getElem? (i := 701) (by decide +kernel))
theorem kl_M_108 : Cond.methodLink "HeadCountModel" 108 yM_variableOf ∈ lw_tbl := List.mem_append_right _ (List.mem_of_getElem? (i := 716) (by decide +kernel))
theorem kl_M_111 : Cond.methodLink "HeadCountModel" 111 yM_close ∈ lw_tbl := List.mem_append_right _ (List.mem_of_getElem? (i := 739) (by decide +kernel))
theorem kl_M_114 : Cond.methodLink "HeadCountModel" 114 yM_settle ∈ lw_tbl := List.mem_append_right _ (List.mem_of_getElem? (i := 731) (by decide +kernel))
theorem kl_M_117 : Cond.methodLink "HeadCountModel" 117 yM_wholeOne ∈ lw_tbl := List.mem_append_right _ (List.mem_of_getElem? (i := 743) (by decide +kernel))
theorem kl_M_129 : Cond.methodLink "HeadCountModel" 129 yM_part ∈ lw_tbl := List.mem_append_right _ (List.mem_of_getElem? (i := 705) (by decide +kernel))
theorem kl_M_135 : Cond.methodLink "HeadCountModel" 135 yM_isDigit ∈ lw_tbl := List.mem_append_right _ (List.mem_of_getElem? (i := 709) (by decide +kernel))
theorem kl_M_145 : Cond.methodLink "HeadCountModel" 145 yM_thing ∈ lw_tbl := List.mem_append_right _ (List.mem_of_getElem? (i := 712) (by decide +kernel))
theorem kl_M_154 : Cond.methodLink "HeadCountModel" 154 yM_wholePart ∈ lw_tbl := List.mem_append_right _ (List.mem_of_getElem? (i := 723) (by decide +kernel))
theorem kl_M_157 : Cond.methodLink "HeadCountModel" 157 yM_afterPart ∈ lw_tbl := List.mem_append_right _ (List.mem_of_getElem? (i := 755) (by decide +kernel))
theorem kl_M_160 : Cond.methodLink "HeadCountModel" 160 yM_afterOne ∈ lw_tbl := List.mem_append_right _ (List.mem_of_getElem? (i := 727) (by decide +kernel))
theorem kl_M_163 : Cond.methodLink "HeadCountModel" 163 yM_wholeSingle ∈ lw_tbl := List.mem_append_right _ (List.mem_of_getElem? (i := 763) (by decide +kernel))
theorem kl_M_169 : Cond.methodLink "HeadCountModel" 169 yM_one ∈ lw_tbl := List.mem_append_right _ (List.mem_of_getElem? (i := 689) (by decide +kernel))
theorem kl_M_172 : Cond.methodLink "HeadCountModel" 172 yM_bound ∈ lw_tbl := List.mem_append_right _ (List.mem_of_getElem? (i := 747) (by decide +kernel))
theorem kl_M_175 : Cond.methodLink "HeadCountModel" 175 yM_afterNumber ∈ lw_tbl := List.mem_append_right _ (List.mem_of_getElem? (i := 751) (by decide +kernel))
theorem kl_M_178 : Cond.methodLink "HeadCountModel" 178 yM_single ∈ lw_tbl := List.mem_append_right _ (List.mem_of_getElem? (i := 759) (by decide +kernel))
theorem kl_M_181 : Cond.methodLink "HeadCountModel" 181 yM_afterSingle ∈ lw_tbl := List.mem_append_right _ (List.mem_of_getElem? (i := 767) (by decide +kernel))
theorem kl_M_187 : Cond.methodLink "HeadCountModel" 187 yM_next ∈ lw_tbl := List.mem_append_right _ (List.mem_of_getElem? (i := 685) (by decide +kernel))
theorem kl_M_190 : Cond.methodLink "HeadCountModel" 190 yM_isSentence ∈ lw_tbl := List.mem_append_right _ (List.mem_of_getElem? (i := 681) (by decide +kernel))
theorem kl_M_209 : Cond.methodLink "HeadCountModel" 209 yM_pop ∈ lw_tbl := List.mem_append_right _ (List.mem_of_getElem? (i := 782) (by decide +kernel))
theorem kl_M_212 : Cond.methodLink "HeadCountModel" 212 yM_count ∈ lw_tbl := List.mem_append_right _ (List.mem_of_getElem? (i := 802) (by decide +kernel))
theorem kl_M_219 : Cond.methodLink "HeadCountModel" 219 yM_put ∈ lw_tbl := List.mem_append_right _ (List.mem_of_getElem? (i := 794) (by decide +kernel))
theorem kl_M_225 : Cond.methodLink "HeadCountModel" 225 yM_lastOf ∈ lw_tbl := List.mem_append_right _ (List.mem_of_getElem? (i := 790) (by decide +kernel))
theorem kl_M_228 : Cond.methodLink "HeadCountModel" 228 yM_ends ∈ lw_tbl := List.mem_append_right _ (List.mem_of_getElem? (i := 786) (by decide +kernel))
theorem kl_M_232 : Cond.methodLink "HeadCountModel" 232 yM_doSum ∈ lw_tbl := List.mem_append_right _ (List.mem_of_getElem? (i := 798) (by decide +kernel))
theorem kl_M_235 : Cond.methodLink "HeadCountModel" 235 yM_doOther ∈ lw_tbl := List.mem_append_right _ (List.mem_of_getElem? (i := 805) (by decide +kernel))
theorem kl_M_238 : Cond.methodLink "HeadCountModel" 238 yM_isSize ∈ lw_tbl := List.mem_append_right _ (List.mem_of_getElem? (i := 775) (by decide +kernel))
theorem kl_M_241 : Cond.methodLink "HeadCountModel" 241 yM_run ∈ lw_tbl := List.mem_append_right _ (List.mem_of_getElem? (i := 778) (by decide +kernel))
theorem kl_M_245 : Cond.methodLink "HeadCountModel" 245 yM_isLoop ∈ lw_tbl := List.mem_append_right _ (List.mem_of_getElem? (i := 817) (by decide +kernel))
theorem kl_S_335 : Cond.methodLink "java/lang/String" 335 yS_coder ∈ lw_tbl := List.mem_append_right _ (List.mem_of_getElem? (i := 37) (by decide +kernel))
theorem kl_S_492 : Cond.methodLink "java/lang/String" 492 yS_isLatin1 ∈ lw_tbl := List.mem_append_right _ (List.mem_of_getElem? (i := 293) (by decide +kernel))
theorem kl_S_505 : Cond.methodLink "java/lang/String" 505 yS_length ∈ lw_tbl := List.mem_append_right _ (List.mem_of_getElem? (i := 297) (by decide +kernel))
theorem kl_S_633 : Cond.methodLink "java/lang/String" 633 yS_indexOf2 ∈ lw_tbl := List.mem_append_right _ (List.mem_of_getElem? (i := 289) (by decide +kernel))
theorem kl_S_637 : Cond.methodLink "java/lang/String" 637 yT_indexOf ∈ lw_tbl := List.mem_append_right _ (List.mem_of_getElem? (i := 298) (by decide +kernel))
theorem kl_T_88 : Cond.methodLink "java/lang/StringLatin1" 88 yT_canEncode ∈ lw_tbl := List.mem_append_right _ (List.mem_of_getElem? (i := 301) (by decide +kernel))
theorem kl_T_95 : Cond.methodLink "java/lang/StringLatin1" 95 yT_indexOfChar ∈ lw_tbl := List.mem_append_right _ (List.mem_of_getElem? (i := 310) (by decide +kernel))
theorem kl_H_1 : Cond.methodLink "HeadCount" 1 objectInit ∈ lw_tbl := List.mem_append_right _ (List.mem_of_getElem? (i := 23) (by decide +kernel))
theorem kl_N_1 : Cond.methodLink "HeadCount$Node" 1 objectInit ∈ lw_tbl := List.mem_append_right _ (List.mem_of_getElem? (i := 248) (by decide +kernel))
theorem kl_P_3 : Cond.methodLink "HeadCount$Parser" 3 objectInit ∈ lw_tbl := List.mem_append_right _ (List.mem_of_getElem? (i := 31) (by decide +kernel))
theorem kl_O_3 : Cond.methodLink "HeadCount$World" 3 objectInit ∈ lw_tbl := List.mem_append_right _ (List.mem_of_getElem? (i := 79) (by decide +kernel))
theorem kl_M_1 : Cond.methodLink "HeadCountModel" 1 objectInit ∈ lw_tbl := List.mem_append_right _ (List.mem_of_getElem? (i := 535) (by decide +kernel))
theorem oi1 : Cond.instanceMethod objectInit ∈ lw_tbl := List.mem_append_right _ (List.mem_of_getElem? (i := 24) (by decide +kernel))
theorem oi2 : Cond.code objectInit ⟨#[0xb1]⟩ 1 none ∈ lw_tbl := List.mem_append_right _ (List.mem_of_getElem? (i := 25) (by decide +kernel))
theorem kq_I_265 : Cond.constant "java/lang/Integer" 265 1431655765 ∈ lw_tbl := List.mem_append_right _ (List.mem_of_getElem? (i := 512) (by decide +kernel))
theorem kq_I_266 : Cond.constant "java/lang/Integer" 266 858993459 ∈ lw_tbl := List.mem_append_right _ (List.mem_of_getElem? (i := 513) (by decide +kernel))
theorem kq_I_267 : Cond.constant "java/lang/Integer" 267 252645135 ∈ lw_tbl := List.mem_append_right _ (List.mem_of_getElem? (i := 514) (by decide +kernel))
theorem kq_L_32 : Cond.constantLong "HeadCountLaw" 32 4294967295 ∈ lw_tbl := List.mem_append_right _ (List.mem_of_getElem? (i := 821) (by decide +kernel))
theorem kq_M_64 : Cond.constantLong "HeadCountModel" 64 255 ∈ lw_tbl := List.mem_append_right _ (List.mem_of_getElem? (i := 668) (by decide +kernel))
theorem kc_H_17 : Cond.classLink "HeadCount" 17 "HeadCount$Parser" ∈ lw_tbl := List.mem_append_right _ (List.mem_of_getElem? (i := 26) (by decide +kernel))
theorem kc_H_24 : Cond.classLink "HeadCount" 24 "HeadCount$World" ∈ lw_tbl := List.mem_append_right _ (List.mem_of_getElem? (i := 74) (by decide +kernel))
theorem kc_H_68 : Cond.classLink "HeadCount" 68 "java/lang/IllegalStateException" ∈ lw_tbl := List.mem_append_right _ (List.mem_of_getElem? (i := 425) (by decide +kernel))
theorem kc_H_75 : Cond.classLink "HeadCount" 75 "java/lang/IllegalArgumentException" ∈ lw_tbl := List.mem_append_right _ (List.mem_of_getElem? (i := 444) (by decide +kernel))
theorem kc_P_27 : Cond.classLink "HeadCount$Parser" 27 "HeadCount$Node" ∈ lw_tbl := List.mem_append_right _ (List.mem_of_getElem? (i := 43) (by decide +kernel))
theorem kc_P_152 : Cond.classLink "HeadCount$Parser" 152 "java/lang/IllegalArgumentException" ∈ lw_tbl := List.mem_append_right _ (List.mem_of_getElem? (i := 162) (by decide +kernel))
theorem kc_L_8 : Cond.classLink "HeadCountLaw" 8 "HeadCount" ∈ lw_tbl := List.mem_append_right _ (List.mem_of_getElem? (i := 18) (by decide +kernel))
theorem kc_L_13 : Cond.classLink "HeadCountLaw" 13 "java/lang/IllegalArgumentException" ∈ lw_tbl := List.mem_append_right _ (List.mem_of_getElem? (i := 134) (by decide +kernel))
theorem kc_L_19 : Cond.classLink "HeadCountLaw" 19 "java/lang/IllegalStateException" ∈ lw_tbl := List.mem_append_right _ (List.mem_of_getElem? (i := 416) (by decide +kernel))
theorem kc_L_29 : Cond.classLink "HeadCountLaw" 29 "HeadCountModel" ∈ lw_tbl := List.mem_append_right _ (List.mem_of_getElem? (i := 530) (by decide +kernel))
end
section
theorem mfH_init : MN yH_init bH_init 1 0 := ⟨List.mem_append_right _ (List.mem_of_getElem? (i := 21) (by decide +kernel)), rfl, List.mem_append_right _ (List.mem_of_getElem? (i := 22) (by decide +kernel)), by decide, ⟨by decide, by decide⟩, by decide, by decide +kernel⟩
theorem mfP_init : MN yP_init bP_init 1 0 := ⟨List.mem_append_right _ (List.mem_of_getElem? (i := 29) (by decide +kernel)), rfl, List.mem_append_right _ (List.mem_of_getElem? (i := 30) (by decide +kernel)), by decide, ⟨by decide, by decide⟩, by decide, by decide +kernel⟩
theorem mfS_length : MV yS_length bS_length 1 0 (some .int) := ⟨List.mem_append_right _ (List.mem_of_getElem? (i := 34) (by decide +kernel)), List.mem_append_right _ (List.mem_of_getElem? (i := 35) (by decide +kernel)), List.mem_append_right _ (List.mem_of_getElem? (i := 36) (by decide +kernel)), by decide, ⟨by decide, by decide⟩, by decide, by decide +kernel⟩
theorem mfS_coder : MV yS_coder bS_coder 1 0 (some .byte) := ⟨List.mem_append_right _ (List.mem_of_getElem? (i := 38) (by decide +kernel)), List.mem_append_right _ (List.mem_of_getElem? (i := 39) (by decide +kernel)), List.mem_append_right _ (List.mem_of_getElem? (i := 40) (by decide +kernel)), by decide, ⟨by decide, by decide⟩, by decide, by decide +kernel⟩
theorem mfO_init : MN yO_init bO_init 1 0 := ⟨List.mem_append_right _ (List.mem_of_getElem? (i := 77) (by decide +kernel)), rfl, List.mem_append_right _ (List.mem_of_getElem? (i := 78) (by decide +kernel)), by decide, ⟨by decide, by decide⟩, by decide, by decide +kernel⟩
theorem mfH_write : MV yH_write bH_write 6 1 (some .boolean) := ⟨List.mem_append_right _ (List.mem_of_getElem? (i := 113) (by decide +kernel)), List.mem_append_right _ (List.mem_of_getElem? (i := 114) (by decide +kernel)), List.mem_append_right _ (List.mem_of_getElem? (i := 115) (by decide +kernel)), by decide, ⟨by decide, by decide⟩, by decide, by decide +kernel⟩
theorem mfH_byteAt : MS yH_byteAt bH_byteAt 3 2 (some .int) := ⟨List.mem_append_right _ (List.mem_of_getElem? (i := 117) (by decide +kernel)), List.mem_append_right _ (List.mem_of_getElem? (i := 1) (by decide +kernel)), List.mem_append_right _ (List.mem_of_getElem? (i := 118) (by decide +kernel)), by decide, ⟨by decide, by decide⟩, by decide, by decide +kernel⟩
theorem mfH_append : MV yH_append bH_append 2 1 none := ⟨List.mem_append_right _ (List.mem_of_getElem? (i := 121) (by decide +kernel)), List.mem_append_left _ (List.mem_of_getElem? (i := 0) (by decide +kernel)), List.mem_append_right _ (List.mem_of_getElem? (i := 122) (by decide +kernel)), by decide, ⟨by decide, by decide⟩, by decide, by decide +kernel⟩
theorem mfH_wipe : MV yH_wipe bH_wipe 2 0 (some .int) := ⟨List.mem_append_right _ (List.mem_of_getElem? (i := 124) (by decide +kernel)), List.mem_append_right _ (List.mem_of_getElem? (i := 125) (by decide +kernel)), List.mem_append_right _ (List.mem_of_getElem? (i := 126) (by decide +kernel)), by decide, ⟨by decide, by decide⟩, by decide, by decide +kernel⟩
theorem mfH_length : MV yH_length bH_length 1 0 (some .int) := ⟨List.mem_append_right _ (List.mem_of_getElem? (i := 128) (by decide +kernel)), List.mem_append_right _ (List.mem_of_getElem? (i := 129) (by decide +kernel)), List.mem_append_right _ (List.mem_of_getElem? (i := 130) (by decide +kernel)), by decide, ⟨by decide, by decide⟩, by decide, by decide +kernel⟩
theorem mfH_read : MV yH_read bH_read 2 0 (some .int) := ⟨List.mem_append_right _ (List.mem_of_getElem? (i := 136) (by decide +kernel)), List.mem_append_right _ (List.mem_of_getElem? (i := 137) (by decide +kernel)), List.mem_append_right _ (List.mem_of_getElem? (i := 138) (by decide +kernel)), by decide, ⟨by decide, by decide⟩, by decide, by decide +kernel⟩
theorem mfP_parse : MV yP_parse bP_parse 5 2 (some (.object "HeadCount$Node")) := ⟨List.mem_append_right _ (List.mem_of_getElem? (i := 140) (by decide +kernel)), List.mem_append_right _ (List.mem_of_getElem? (i := 141) (by decide +kernel)), List.mem_append_right _ (List.mem_of_getElem? (i := 142) (by decide +kernel)), by decide, ⟨by decide, by decide⟩, by decide, by decide +kernel⟩
theorem mfP_start : MV yP_start bP_start 4 2 none := ⟨List.mem_append_right _ (List.mem_of_getElem? (i := 145) (by decide +kernel)), List.mem_append_left _ (List.mem_of_getElem? (i := 1) (by decide +kernel)), List.mem_append_right _ (List.mem_of_getElem? (i := 146) (by decide +kernel)), by decide, ⟨by decide, by decide⟩, by decide, by decide +kernel⟩
theorem mfP_row : MV yP_row bP_row 7 2 (some (.object "HeadCount$Node")) := ⟨List.mem_append_right _ (List.mem_of_getElem? (i := 149) (by decide +kernel)), List.mem_append_left _ (List.mem_of_getElem? (i := 2) (by decide +kernel)), List.mem_append_right _ (List.mem_of_getElem? (i := 150) (by decide +kernel)), by decide, ⟨by decide, by decide⟩, by decide, by decide +kernel⟩
theorem mfP_item : MV yP_item bP_item 3 2 (some (.object "HeadCount$Node")) := ⟨List.mem_append_right _ (List.mem_of_getElem? (i := 153) (by decide +kernel)), List.mem_append_left _ (List.mem_of_getElem? (i := 3) (by decide +kernel)), List.mem_append_right _ (List.mem_of_getElem? (i := 154) (by decide +kernel)), by decide, ⟨by decide, by decide⟩, by decide, by decide +kernel⟩
theorem mfP_one : MV yP_one bP_one 2 1 (some (.object "HeadCount$Node")) := ⟨List.mem_append_right _ (List.mem_of_getElem? (i := 157) (by decide +kernel)), List.mem_append_left _ (List.mem_of_getElem? (i := 4) (by decide +kernel)), List.mem_append_right _ (List.mem_of_getElem? (i := 158) (by decide +kernel)), by decide, ⟨by decide, by decide⟩, by decide, by decide +kernel⟩
theorem mfP_insist : MS yP_insist bP_insist 1 1 none := ⟨List.mem_append_right _ (List.mem_of_getElem? (i := 160) (by decide +kernel)), List.mem_append_right _ (List.mem_of_getElem? (i := 2) (by decide +kernel)), List.mem_append_right _ (List.mem_of_getElem? (i := 161) (by decide +kernel)), by decide, ⟨by decide, by decide⟩, by decide, by decide +kernel⟩
theorem mfP_peek : MV yP_peek bP_peek 1 0 (some .char) := ⟨List.mem_append_right _ (List.mem_of_getElem? (i := 230) (by decide +kernel)), List.mem_append_left _ (List.mem_of_getElem? (i := 6) (by decide +kernel)), List.mem_append_right _ (List.mem_of_getElem? (i := 231) (by decide +kernel)), by decide, ⟨by decide, by decide⟩, by decide, by decide +kernel⟩
theorem mfP_not : MV yP_not bP_not 3 1 (some (.object "HeadCount$Node")) := ⟨List.mem_append_right _ (List.mem_of_getElem? (i := 234) (by decide +kernel)), List.mem_append_left _ (List.mem_of_getElem? (i := 7) (by decide +kernel)), List.mem_append_right _ (List.mem_of_getElem? (i := 235) (by decide +kernel)), by decide, ⟨by decide, by decide⟩, by decide, by decide +kernel⟩
theorem mfP_next : MV yP_next bP_next 2 0 (some .char) := ⟨List.mem_append_right _ (List.mem_of_getElem? (i := 238) (by decide +kernel)), List.mem_append_left _ (List.mem_of_getElem? (i := 8) (by decide +kernel)), List.mem_append_right _ (List.mem_of_getElem? (i := 239) (by decide +kernel)), by decide, ⟨by decide, by decide⟩, by decide, by decide +kernel⟩
theorem mfP_make : MV yP_make bP_make 3 1 (some (.object "HeadCount$Node")) := ⟨List.mem_append_right _ (List.mem_of_getElem? (i := 242) (by decide +kernel)), List.mem_append_left _ (List.mem_of_getElem? (i := 9) (by decide +kernel)), List.mem_append_right _ (List.mem_of_getElem? (i := 243) (by decide +kernel)), by decide, ⟨by decide, by decide⟩, by decide, by decide +kernel⟩
theorem mfN_init : MN yN_init bN_init 1 0 := ⟨List.mem_append_right _ (List.mem_of_getElem? (i := 246) (by decide +kernel)), rfl, List.mem_append_right _ (List.mem_of_getElem? (i := 247) (by decide +kernel)), by decide, ⟨by decide, by decide⟩, by decide, by decide +kernel⟩
theorem mfN_reset : MV yN_reset bN_reset 2 1 none := ⟨List.mem_append_right _ (List.mem_of_getElem? (i := 278) (by decide +kernel)), List.mem_append_right _ (List.mem_of_getElem? (i := 279) (by decide +kernel)), List.mem_append_right _ (List.mem_of_getElem? (i := 280) (by decide +kernel)), by decide, ⟨by decide, by decide⟩, by decide, by decide +kernel⟩
theorem mfP_quantified : MV yP_quantified bP_quantified 5 1 (some (.object "HeadCount$Node")) := ⟨List.mem_append_right _ (List.mem_of_getElem? (i := 283) (by decide +kernel)), List.mem_append_left _ (List.mem_of_getElem? (i := 10) (by decide +kernel)), List.mem_append_right _ (List.mem_of_getElem? (i := 284) (by decide +kernel)), by decide, ⟨by decide, by decide⟩, by decide, by decide +kernel⟩
theorem mfS_indexOf : MV yS_indexOf bS_indexOf 2 1 (some .int) := ⟨List.mem_append_right _ (List.mem_of_getElem? (i := 286) (by decide +kernel)), List.mem_append_right _ (List.mem_of_getElem? (i := 287) (by decide +kernel)), List.mem_append_right _ (List.mem_of_getElem? (i := 288) (by decide +kernel)), by decide, ⟨by decide, by decide⟩, by decide, by decide +kernel⟩
theorem mfS_indexOf2 : MV yS_indexOf2 bS_indexOf2 3 2 (some .int) := ⟨List.mem_append_right _ (List.mem_of_getElem? (i := 290) (by decide +kernel)), List.mem_append_right _ (List.mem_of_getElem? (i := 291) (by decide +kernel)), List.mem_append_right _ (List.mem_of_getElem? (i := 292) (by decide +kernel)), by decide, ⟨by decide, by decide⟩, by decide, by decide +kernel⟩
theorem mfS_isLatin1 : MV yS_isLatin1 bS_isLatin1 1 0 (some .boolean) := ⟨List.mem_append_right _ (List.mem_of_getElem? (i := 294) (by decide +kernel)), List.mem_append_right _ (List.mem_of_getElem? (i := 295) (by decide +kernel)), List.mem_append_right _ (List.mem_of_getElem? (i := 296) (by decide +kernel)), by decide, ⟨by decide, by decide⟩, by decide, by decide +kernel⟩
theorem mfT_indexOf : MS yT_indexOf bT_indexOf 4 4 (some .int) := ⟨List.mem_append_right _ (List.mem_of_getElem? (i := 299) (by decide +kernel)), List.mem_append_right _ (List.mem_of_getElem? (i := 11) (by decide +kernel)), List.mem_append_right _ (List.mem_of_getElem? (i := 300) (by decide +kernel)), by decide, ⟨by decide, by decide⟩, by decide, by decide +kernel⟩
theorem mfT_canEncode : MS yT_canEncode bT_canEncode 1 1 (some .boolean) := ⟨List.mem_append_right _ (List.mem_of_getElem? (i := 302) (by decide +kernel)), List.mem_append_right _ (List.mem_of_getElem? (i := 11) (by decide +kernel)), List.mem_append_right _ (List.mem_of_getElem? (i := 303) (by decide +kernel)), by decide, ⟨by decide, by decide⟩, by decide, by decide +kernel⟩
theorem mfT_indexOfChar : MS yT_indexOfChar bT_indexOfChar 6 4 (some .int) := ⟨List.mem_append_right _ (List.mem_of_getElem? (i := 311) (by decide +kernel)), List.mem_append_right _ (List.mem_of_getElem? (i := 11) (by decide +kernel)), List.mem_append_right _ (List.mem_of_getElem? (i := 312) (by decide +kernel)), by decide, ⟨by decide, by decide⟩, by decide, by decide +kernel⟩
theorem mfP_bracketed : MV yP_bracketed bP_bracketed 3 1 (some (.object "HeadCount$Node")) := ⟨List.mem_append_right _ (List.mem_of_getElem? (i := 364) (by decide +kernel)), List.mem_append_left _ (List.mem_of_getElem? (i := 11) (by decide +kernel)), List.mem_append_right _ (List.mem_of_getElem? (i := 365) (by decide +kernel)), by decide, ⟨by decide, by decide⟩, by decide, by decide +kernel⟩
theorem mfP_take : MV yP_take bP_take 3 1 (some .boolean) := ⟨List.mem_append_right _ (List.mem_of_getElem? (i := 368) (by decide +kernel)), List.mem_append_left _ (List.mem_of_getElem? (i := 12) (by decide +kernel)), List.mem_append_right _ (List.mem_of_getElem? (i := 369) (by decide +kernel)), by decide, ⟨by decide, by decide⟩, by decide, by decide +kernel⟩
theorem mfP_comparisonOfSets : MV yP_comparisonOfSets bP_comparisonOfSets 5 1 (some (.object "HeadCount$Node")) := ⟨List.mem_append_right _ (List.mem_of_getElem? (i := 372) (by decide +kernel)), List.mem_append_left _ (List.mem_of_getElem? (i := 13) (by decide +kernel)), List.mem_append_right _ (List.mem_of_getElem? (i := 373) (by decide +kernel)), by decide, ⟨by decide, by decide⟩, by decide, by decide +kernel⟩
theorem mfP_startsWithDivisor : MV yP_startsWithDivisor bP_startsWithDivisor 3 0 (some .boolean) := ⟨List.mem_append_right _ (List.mem_of_getElem? (i := 376) (by decide +kernel)), List.mem_append_left _ (List.mem_of_getElem? (i := 14) (by decide +kernel)), List.mem_append_right _ (List.mem_of_getElem? (i := 377) (by decide +kernel)), by decide, ⟨by decide, by decide⟩, by decide, by decide +kernel⟩
theorem mfP_isDecimal : MS yP_isDecimal bP_isDecimal 1 1 (some .boolean) := ⟨List.mem_append_right _ (List.mem_of_getElem? (i := 379) (by decide +kernel)), List.mem_append_right _ (List.mem_of_getElem? (i := 2) (by decide +kernel)), List.mem_append_right _ (List.mem_of_getElem? (i := 380) (by decide +kernel)), by decide, ⟨by decide, by decide⟩, by decide, by decide +kernel⟩
theorem mfP_number : MV yP_number bP_number 3 0 (some .int) := ⟨List.mem_append_right _ (List.mem_of_getElem? (i := 383) (by decide +kernel)), List.mem_append_left _ (List.mem_of_getElem? (i := 15) (by decide +kernel)), List.mem_append_right _ (List.mem_of_getElem? (i := 384) (by decide +kernel)), by decide, ⟨by decide, by decide⟩, by decide, by decide +kernel⟩
theorem mfP_divided : MV yP_divided bP_divided 4 1 (some (.object "HeadCount$Node")) := ⟨List.mem_append_right _ (List.mem_of_getElem? (i := 387) (by decide +kernel)), List.mem_append_left _ (List.mem_of_getElem? (i := 16) (by decide +kernel)), List.mem_append_right _ (List.mem_of_getElem? (i := 388) (by decide +kernel)), by decide, ⟨by decide, by decide⟩, by decide, by decide +kernel⟩
theorem mfP_addSum : MV yP_addSum bP_addSum 5 3 none := ⟨List.mem_append_right _ (List.mem_of_getElem? (i := 391) (by decide +kernel)), List.mem_append_left _ (List.mem_of_getElem? (i := 17) (by decide +kernel)), List.mem_append_right _ (List.mem_of_getElem? (i := 392) (by decide +kernel)), by decide, ⟨by decide, by decide⟩, by decide, by decide +kernel⟩
theorem mfP_addPart : MV yP_addPart bP_addPart 7 3 none := ⟨List.mem_append_right _ (List.mem_of_getElem? (i := 395) (by decide +kernel)), List.mem_append_left _ (List.mem_of_getElem? (i := 18) (by decide +kernel)), List.mem_append_right _ (List.mem_of_getElem? (i := 396) (by decide +kernel)), by decide, ⟨by decide, by decide⟩, by decide, by decide +kernel⟩
theorem mfP_thing : MV yP_thing bP_thing 4 1 (some (.object "HeadCount$Node")) := ⟨List.mem_append_right _ (List.mem_of_getElem? (i := 399) (by decide +kernel)), List.mem_append_left _ (List.mem_of_getElem? (i := 19) (by decide +kernel)), List.mem_append_right _ (List.mem_of_getElem? (i := 400) (by decide +kernel)), by decide, ⟨by decide, by decide⟩, by decide, by decide +kernel⟩
theorem mfP_single : MV yP_single bP_single 4 1 (some (.object "HeadCount$Node")) := ⟨List.mem_append_right _ (List.mem_of_getElem? (i := 403) (by decide +kernel)), List.mem_append_left _ (List.mem_of_getElem? (i := 20) (by decide +kernel)), List.mem_append_right _ (List.mem_of_getElem? (i := 404) (by decide +kernel)), by decide, ⟨by decide, by decide⟩, by decide, by decide +kernel⟩
theorem mfP_boundVariable : MV yP_boundVariable bP_boundVariable 3 1 (some .int) := ⟨List.mem_append_right _ (List.mem_of_getElem? (i := 407) (by decide +kernel)), List.mem_append_left _ (List.mem_of_getElem? (i := 21) (by decide +kernel)), List.mem_append_right _ (List.mem_of_getElem? (i := 408) (by decide +kernel)), by decide, ⟨by decide, by decide⟩, by decide, by decide +kernel⟩
theorem mfP_comparisonOfSums : MV yP_comparisonOfSums bP_comparisonOfSums 3 1 (some (.object "HeadCount$Node")) := ⟨List.mem_append_right _ (List.mem_of_getElem? (i := 411) (by decide +kernel)), List.mem_append_left _ (List.mem_of_getElem? (i := 22) (by decide +kernel)), List.mem_append_right _ (List.mem_of_getElem? (i := 412) (by decide +kernel)), by decide, ⟨by decide, by decide⟩, by decide, by decide +kernel⟩
theorem mfH_holds : MV yH_holds bH_holds 2 1 (some .boolean) := ⟨List.mem_append_right _ (List.mem_of_getElem? (i := 418) (by decide +kernel)), List.mem_append_right _ (List.mem_of_getElem? (i := 419) (by decide +kernel)), List.mem_append_right _ (List.mem_of_getElem? (i := 420) (by decide +kernel)), by decide, ⟨by decide, by decide⟩, by decide, by decide +kernel⟩
theorem mfH_needSentence : MV yH_needSentence bH_needSentence 1 0 none := ⟨List.mem_append_right _ (List.mem_of_getElem? (i := 423) (by decide +kernel)), List.mem_append_left _ (List.mem_of_getElem? (i := 23) (by decide +kernel)), List.mem_append_right _ (List.mem_of_getElem? (i := 424) (by decide +kernel)), by decide, ⟨by decide, by decide⟩, by decide, by decide +kernel⟩
theorem mfH_needWorld : MS yH_needWorld bH_needWorld 1 1 none := ⟨List.mem_append_right _ (List.mem_of_getElem? (i := 442) (by decide +kernel)), List.mem_append_right _ (List.mem_of_getElem? (i := 1) (by decide +kernel)), List.mem_append_right _ (List.mem_of_getElem? (i := 443) (by decide +kernel)), by decide, ⟨by decide, by decide⟩, by decide, by decide +kernel⟩
theorem mfH_isTrueIn : MV yH_isTrueIn bH_isTrueIn 3 1 (some .boolean) := ⟨List.mem_append_right _ (List.mem_of_getElem? (i := 449) (by decide +kernel)), List.mem_append_left _ (List.mem_of_getElem? (i := 24) (by decide +kernel)), List.mem_append_right _ (List.mem_of_getElem? (i := 450) (by decide +kernel)), by decide, ⟨by decide, by decide⟩, by decide, by decide +kernel⟩
theorem mfH_waysIn : MV yH_waysIn bH_waysIn 2 1 (some .int) := ⟨List.mem_append_right _ (List.mem_of_getElem? (i := 453) (by decide +kernel)), List.mem_append_left _ (List.mem_of_getElem? (i := 25) (by decide +kernel)), List.mem_append_right _ (List.mem_of_getElem? (i := 454) (by decide +kernel)), by decide, ⟨by decide, by decide⟩, by decide, by decide +kernel⟩
theorem mfO_count : MV yO_count bO_count 7 2 (some .int) := ⟨List.mem_append_right _ (List.mem_of_getElem? (i := 456) (by decide +kernel)), List.mem_append_right _ (List.mem_of_getElem? (i := 457) (by decide +kernel)), List.mem_append_right _ (List.mem_of_getElem? (i := 458) (by decide +kernel)), by decide, ⟨by decide, by decide⟩, by decide, by decide +kernel⟩
theorem mfO_isTrue : MV yO_isTrue bO_isTrue 2 1 (some .boolean) := ⟨List.mem_append_right _ (List.mem_of_getElem? (i := 461) (by decide +kernel)), List.mem_append_left _ (List.mem_of_getElem? (i := 26) (by decide +kernel)), List.mem_append_right _ (List.mem_of_getElem? (i := 462) (by decide +kernel)), by decide, ⟨by decide, by decide⟩, by decide, by decide +kernel⟩
theorem mfO_anyIs : MV yO_anyIs bO_anyIs 4 2 (some .boolean) := ⟨List.mem_append_right _ (List.mem_of_getElem? (i := 465) (by decide +kernel)), List.mem_append_left _ (List.mem_of_getElem? (i := 27) (by decide +kernel)), List.mem_append_right _ (List.mem_of_getElem? (i := 466) (by decide +kernel)), by decide, ⟨by decide, by decide⟩, by decide, by decide +kernel⟩
theorem mfO_anyChoiceMakes : MV yO_anyChoiceMakes bO_anyChoiceMakes 9 2 (some .boolean) := ⟨List.mem_append_right _ (List.mem_of_getElem? (i := 469) (by decide +kernel)), List.mem_append_left _ (List.mem_of_getElem? (i := 28) (by decide +kernel)), List.mem_append_right _ (List.mem_of_getElem? (i := 470) (by decide +kernel)), by decide, ⟨by decide, by decide⟩, by decide, by decide +kernel⟩
theorem mfO_value : MV yO_value bO_value 2 1 (some .int) := ⟨List.mem_append_right _ (List.mem_of_getElem? (i := 473) (by decide +kernel)), List.mem_append_left _ (List.mem_of_getElem? (i := 29) (by decide +kernel)), List.mem_append_right _ (List.mem_of_getElem? (i := 474) (by decide +kernel)), by decide, ⟨by decide, by decide⟩, by decide, by decide +kernel⟩
theorem mfO_firstChoice : MS yO_firstChoice bO_firstChoice 1 1 (some .int) := ⟨List.mem_append_right _ (List.mem_of_getElem? (i := 476) (by decide +kernel)), List.mem_append_right _ (List.mem_of_getElem? (i := 4) (by decide +kernel)), List.mem_append_right _ (List.mem_of_getElem? (i := 477) (by decide +kernel)), by decide, ⟨by decide, by decide⟩, by decide, by decide +kernel⟩
theorem mfO_choices : MS yO_choices bO_choices 2 2 (some .int) := ⟨List.mem_append_right _ (List.mem_of_getElem? (i := 479) (by decide +kernel)), List.mem_append_right _ (List.mem_of_getElem? (i := 4) (by decide +kernel)), List.mem_append_right _ (List.mem_of_getElem? (i := 480) (by decide +kernel)), by decide, ⟨by decide, by decide⟩, by decide, by decide +kernel⟩
theorem mfO_bind : MV yO_bind bO_bind 3 2 none := ⟨List.mem_append_right _ (List.mem_of_getElem? (i := 483) (by decide +kernel)), List.mem_append_left _ (List.mem_of_getElem? (i := 30) (by decide +kernel)), List.mem_append_right _ (List.mem_of_getElem? (i := 484) (by decide +kernel)), by decide, ⟨by decide, by decide⟩, by decide, by decide +kernel⟩
theorem mfO_isTrueOfSets : MV yO_isTrueOfSets bO_isTrueOfSets 5 1 (some .boolean) := ⟨List.mem_append_right _ (List.mem_of_getElem? (i := 487) (by decide +kernel)), List.mem_append_left _ (List.mem_of_getElem? (i := 31) (by decide +kernel)), List.mem_append_right _ (List.mem_of_getElem? (i := 488) (by decide +kernel)), by decide, ⟨by decide, by decide⟩, by decide, by decide +kernel⟩
theorem mfO_elements : MV yO_elements bO_elements 2 1 (some .int) := ⟨List.mem_append_right _ (List.mem_of_getElem? (i := 491) (by decide +kernel)), List.mem_append_left _ (List.mem_of_getElem? (i := 32) (by decide +kernel)), List.mem_append_right _ (List.mem_of_getElem? (i := 492) (by decide +kernel)), by decide, ⟨by decide, by decide⟩, by decide, by decide +kernel⟩
theorem mfO_union : MV yO_union bO_union 4 1 (some .int) := ⟨List.mem_append_right _ (List.mem_of_getElem? (i := 495) (by decide +kernel)), List.mem_append_left _ (List.mem_of_getElem? (i := 33) (by decide +kernel)), List.mem_append_right _ (List.mem_of_getElem? (i := 496) (by decide +kernel)), by decide, ⟨by decide, by decide⟩, by decide, by decide +kernel⟩
theorem mfO_meet : MV yO_meet bO_meet 4 1 (some .int) := ⟨List.mem_append_right _ (List.mem_of_getElem? (i := 499) (by decide +kernel)), List.mem_append_left _ (List.mem_of_getElem? (i := 34) (by decide +kernel)), List.mem_append_right _ (List.mem_of_getElem? (i := 500) (by decide +kernel)), by decide, ⟨by decide, by decide⟩, by decide, by decide +kernel⟩
theorem mfO_isTrueOfSum : MV yO_isTrueOfSum bO_isTrueOfSum 4 1 (some .boolean) := ⟨List.mem_append_right _ (List.mem_of_getElem? (i := 503) (by decide +kernel)), List.mem_append_left _ (List.mem_of_getElem? (i := 35) (by decide +kernel)), List.mem_append_right _ (List.mem_of_getElem? (i := 504) (by decide +kernel)), by decide, ⟨by decide, by decide⟩, by decide, by decide +kernel⟩
theorem mfO_amount : MV yO_amount bO_amount 2 1 (some .int) := ⟨List.mem_append_right _ (List.mem_of_getElem? (i := 507) (by decide +kernel)), List.mem_append_left _ (List.mem_of_getElem? (i := 36) (by decide +kernel)), List.mem_append_right _ (List.mem_of_getElem? (i := 508) (by decide +kernel)), by decide, ⟨by decide, by decide⟩, by decide, by decide +kernel⟩
theorem mfI_bitCount : MS yI_bitCount bI_bitCount 1 1 (some .int) := ⟨List.mem_append_right _ (List.mem_of_getElem? (i := 510) (by decide +kernel)), List.mem_append_right _ (List.mem_of_getElem? (i := 17) (by decide +kernel)), List.mem_append_right _ (List.mem_of_getElem? (i := 511) (by decide +kernel)), by decide, ⟨by decide, by decide⟩, by decide, by decide +kernel⟩
theorem mfH_fails : MV yH_fails bH_fails 2 0 (some .int) := ⟨List.mem_append_right _ (List.mem_of_getElem? (i := 520) (by decide +kernel)), List.mem_append_right _ (List.mem_of_getElem? (i := 521) (by decide +kernel)), List.mem_append_right _ (List.mem_of_getElem? (i := 522) (by decide +kernel)), by decide, ⟨by decide, by decide⟩, by decide, by decide +kernel⟩
theorem mfH_ways : MV yH_ways bH_ways 2 1 (some .int) := ⟨List.mem_append_right _ (List.mem_of_getElem? (i := 527) (by decide +kernel)), List.mem_append_right _ (List.mem_of_getElem? (i := 528) (by decide +kernel)), List.mem_append_right _ (List.mem_of_getElem? (i := 529) (by decide +kernel)), by decide, ⟨by decide, by decide⟩, by decide, by decide +kernel⟩
theorem mfM_init : MN yM_init bM_init 1 0 := ⟨List.mem_append_right _ (List.mem_of_getElem? (i := 533) (by decide +kernel)), rfl, List.mem_append_right _ (List.mem_of_getElem? (i := 534) (by decide +kernel)), by decide, ⟨by decide, by decide⟩, by decide, by decide +kernel⟩
theorem mfM_thrown : MV yM_thrown bM_thrown 1 0 (some .int) := ⟨List.mem_append_right _ (List.mem_of_getElem? (i := 661) (by decide +kernel)), List.mem_append_right _ (List.mem_of_getElem? (i := 662) (by decide +kernel)), List.mem_append_right _ (List.mem_of_getElem? (i := 663) (by decide +kernel)), by decide, ⟨by decide, by decide⟩, by decide, by decide +kernel⟩
theorem mfM_write : MV yM_write bM_write 6 1 (some .boolean) := ⟨List.mem_append_right _ (List.mem_of_getElem? (i := 665) (by decide +kernel)), List.mem_append_right _ (List.mem_of_getElem? (i := 666) (by decide +kernel)), List.mem_append_right _ (List.mem_of_getElem? (i := 667) (by decide +kernel)), by decide, ⟨by decide, by decide⟩, by decide, by decide +kernel⟩
theorem mfM_wipe : MV yM_wipe bM_wipe 2 0 (some .int) := ⟨List.mem_append_right _ (List.mem_of_getElem? (i := 670) (by decide +kernel)), List.mem_append_right _ (List.mem_of_getElem? (i := 671) (by decide +kernel)), List.mem_append_right _ (List.mem_of_getElem? (i := 672) (by decide +kernel)), by decide, ⟨by decide, by decide⟩, by decide, by decide +kernel⟩
theorem mfM_length : MV yM_length bM_length 1 0 (some .int) := ⟨List.mem_append_right _ (List.mem_of_getElem? (i := 674) (by decide +kernel)), List.mem_append_right _ (List.mem_of_getElem? (i := 675) (by decide +kernel)), List.mem_append_right _ (List.mem_of_getElem? (i := 676) (by decide +kernel)), by decide, ⟨by decide, by decide⟩, by decide, by decide +kernel⟩
theorem mfM_read : MV yM_read bM_read 3 0 (some .int) := ⟨List.mem_append_right _ (List.mem_of_getElem? (i := 678) (by decide +kernel)), List.mem_append_right _ (List.mem_of_getElem? (i := 679) (by decide +kernel)), List.mem_append_right _ (List.mem_of_getElem? (i := 680) (by decide +kernel)), by decide, ⟨by decide, by decide⟩, by decide, by decide +kernel⟩
theorem mfM_isSentence : MV yM_isSentence bM_isSentence 4 0 (some .boolean) := ⟨List.mem_append_right _ (List.mem_of_getElem? (i := 683) (by decide +kernel)), List.mem_append_left _ (List.mem_of_getElem? (i := 37) (by decide +kernel)), List.mem_append_right _ (List.mem_of_getElem? (i := 684) (by decide +kernel)), by decide, ⟨by decide, by decide⟩, by decide, by decide +kernel⟩
theorem mfM_next : MV yM_next bM_next 2 1 (some .int) := ⟨List.mem_append_right _ (List.mem_of_getElem? (i := 687) (by decide +kernel)), List.mem_append_left _ (List.mem_of_getElem? (i := 38) (by decide +kernel)), List.mem_append_right _ (List.mem_of_getElem? (i := 688) (by decide +kernel)), by decide, ⟨by decide, by decide⟩, by decide, by decide +kernel⟩
theorem mfM_one : MV yM_one bM_one 2 1 (some .int) := ⟨List.mem_append_right _ (List.mem_of_getElem? (i := 691) (by decide +kernel)), List.mem_append_left _ (List.mem_of_getElem? (i := 39) (by decide +kernel)), List.mem_append_right _ (List.mem_of_getElem? (i := 692) (by decide +kernel)), by decide, ⟨by decide, by decide⟩, by decide, by decide +kernel⟩
theorem mfM_deeper : MV yM_deeper bM_deeper 2 1 (some .boolean) := ⟨List.mem_append_right _ (List.mem_of_getElem? (i := 695) (by decide +kernel)), List.mem_append_left _ (List.mem_of_getElem? (i := 40) (by decide +kernel)), List.mem_append_right _ (List.mem_of_getElem? (i := 696) (by decide +kernel)), by decide, ⟨by decide, by decide⟩, by decide, by decide +kernel⟩
theorem mfM_push : MV yM_push bM_push 2 1 none := ⟨List.mem_append_right _ (List.mem_of_getElem? (i := 699) (by decide +kernel)), List.mem_append_left _ (List.mem_of_getElem? (i := 41) (by decide +kernel)), List.mem_append_right _ (List.mem_of_getElem? (i := 700) (by decide +kernel)), by decide, ⟨by decide, by decide⟩, by decide, by decide +kernel⟩
theorem mfM_sum : MV yM_sum bM_sum 2 1 (some .int) := ⟨List.mem_append_right _ (List.mem_of_getElem? (i := 703) (by decide +kernel)), List.mem_append_left _ (List.mem_of_getElem? (i := 42) (by decide +kernel)), List.mem_append_right _ (List.mem_of_getElem? (i := 704) (by decide +kernel)), by decide, ⟨by decide, by decide⟩, by decide, by decide +kernel⟩
theorem mfM_part : MV yM_part bM_part 2 1 (some .int) := ⟨List.mem_append_right _ (List.mem_of_getElem? (i := 707) (by decide +kernel)), List.mem_append_left _ (List.mem_of_getElem? (i := 43) (by decide +kernel)), List.mem_append_right _ (List.mem_of_getElem? (i := 708) (by decide +kernel)), by decide, ⟨by decide, by decide⟩, by decide, by decide +kernel⟩
theorem mfM_isDigit : MS yM_isDigit bM_isDigit 1 1 (some .boolean) := ⟨List.mem_append_right _ (List.mem_of_getElem? (i := 710) (by decide +kernel)), List.mem_append_right _ (List.mem_of_getElem? (i := 5) (by decide +kernel)), List.mem_append_right _ (List.mem_of_getElem? (i := 711) (by decide +kernel)), by decide, ⟨by decide, by decide⟩, by decide, by decide +kernel⟩
theorem mfM_thing : MV yM_thing bM_thing 3 1 (some .int) := ⟨List.mem_append_right _ (List.mem_of_getElem? (i := 714) (by decide +kernel)), List.mem_append_left _ (List.mem_of_getElem? (i := 44) (by decide +kernel)), List.mem_append_right _ (List.mem_of_getElem? (i := 715) (by decide +kernel)), by decide, ⟨by decide, by decide⟩, by decide, by decide +kernel⟩
theorem mfM_variableOf : MS yM_variableOf bM_variableOf 1 1 (some .int) := ⟨List.mem_append_right _ (List.mem_of_getElem? (i := 717) (by decide +kernel)), List.mem_append_right _ (List.mem_of_getElem? (i := 5) (by decide +kernel)), List.mem_append_right _ (List.mem_of_getElem? (i := 718) (by decide +kernel)), by decide, ⟨by decide, by decide⟩, by decide, by decide +kernel⟩
theorem mfM_emit : MV yM_emit bM_emit 3 2 none := ⟨List.mem_append_right _ (List.mem_of_getElem? (i := 721) (by decide +kernel)), List.mem_append_left _ (List.mem_of_getElem? (i := 45) (by decide +kernel)), List.mem_append_right _ (List.mem_of_getElem? (i := 722) (by decide +kernel)), by decide, ⟨by decide, by decide⟩, by decide, by decide +kernel⟩
theorem mfM_wholePart : MV yM_wholePart bM_wholePart 1 0 none := ⟨List.mem_append_right _ (List.mem_of_getElem? (i := 725) (by decide +kernel)), List.mem_append_left _ (List.mem_of_getElem? (i := 46) (by decide +kernel)), List.mem_append_right _ (List.mem_of_getElem? (i := 726) (by decide +kernel)), by decide, ⟨by decide, by decide⟩, by decide, by decide +kernel⟩
theorem mfM_afterOne : MV yM_afterOne bM_afterOne 2 1 (some .int) := ⟨List.mem_append_right _ (List.mem_of_getElem? (i := 729) (by decide +kernel)), List.mem_append_left _ (List.mem_of_getElem? (i := 47) (by decide +kernel)), List.mem_append_right _ (List.mem_of_getElem? (i := 730) (by decide +kernel)), by decide, ⟨by decide, by decide⟩, by decide, by decide +kernel⟩
theorem mfM_settle : MV yM_settle bM_settle 3 2 none := ⟨List.mem_append_right _ (List.mem_of_getElem? (i := 733) (by decide +kernel)), List.mem_append_left _ (List.mem_of_getElem? (i := 48) (by decide +kernel)), List.mem_append_right _ (List.mem_of_getElem? (i := 734) (by decide +kernel)), by decide, ⟨by decide, by decide⟩, by decide, by decide +kernel⟩
theorem mfM_upper : MV yM_upper bM_upper 1 0 (some .int) := ⟨List.mem_append_right _ (List.mem_of_getElem? (i := 737) (by decide +kernel)), List.mem_append_left _ (List.mem_of_getElem? (i := 49) (by decide +kernel)), List.mem_append_right _ (List.mem_of_getElem? (i := 738) (by decide +kernel)), by decide, ⟨by decide, by decide⟩, by decide, by decide +kernel⟩
theorem mfM_close : MV yM_close bM_close 1 0 none := ⟨List.mem_append_right _ (List.mem_of_getElem? (i := 741) (by decide +kernel)), List.mem_append_left _ (List.mem_of_getElem? (i := 50) (by decide +kernel)), List.mem_append_right _ (List.mem_of_getElem? (i := 742) (by decide +kernel)), by decide, ⟨by decide, by decide⟩, by decide, by decide +kernel⟩
theorem mfM_wholeOne : MV yM_wholeOne bM_wholeOne 2 0 (some .int) := ⟨List.mem_append_right _ (List.mem_of_getElem? (i := 745) (by decide +kernel)), List.mem_append_left _ (List.mem_of_getElem? (i := 51) (by decide +kernel)), List.mem_append_right _ (List.mem_of_getElem? (i := 746) (by decide +kernel)), by decide, ⟨by decide, by decide⟩, by decide, by decide +kernel⟩
theorem mfM_bound : MV yM_bound bM_bound 3 1 (some .int) := ⟨List.mem_append_right _ (List.mem_of_getElem? (i := 749) (by decide +kernel)), List.mem_append_left _ (List.mem_of_getElem? (i := 52) (by decide +kernel)), List.mem_append_right _ (List.mem_of_getElem? (i := 750) (by decide +kernel)), by decide, ⟨by decide, by decide⟩, by decide, by decide +kernel⟩
theorem mfM_afterNumber : MV yM_afterNumber bM_afterNumber 2 1 (some .int) := ⟨List.mem_append_right _ (List.mem_of_getElem? (i := 753) (by decide +kernel)), List.mem_append_left _ (List.mem_of_getElem? (i := 53) (by decide +kernel)), List.mem_append_right _ (List.mem_of_getElem? (i := 754) (by decide +kernel)), by decide, ⟨by decide, by decide⟩, by decide, by decide +kernel⟩
theorem mfM_afterPart : MV yM_afterPart bM_afterPart 2 1 (some .int) := ⟨List.mem_append_right _ (List.mem_of_getElem? (i := 757) (by decide +kernel)), List.mem_append_left _ (List.mem_of_getElem? (i := 54) (by decide +kernel)), List.mem_append_right _ (List.mem_of_getElem? (i := 758) (by decide +kernel)), by decide, ⟨by decide, by decide⟩, by decide, by decide +kernel⟩
theorem mfM_single : MV yM_single bM_single 3 1 (some .int) := ⟨List.mem_append_right _ (List.mem_of_getElem? (i := 761) (by decide +kernel)), List.mem_append_left _ (List.mem_of_getElem? (i := 55) (by decide +kernel)), List.mem_append_right _ (List.mem_of_getElem? (i := 762) (by decide +kernel)), by decide, ⟨by decide, by decide⟩, by decide, by decide +kernel⟩
theorem mfM_wholeSingle : MV yM_wholeSingle bM_wholeSingle 1 0 (some .int) := ⟨List.mem_append_right _ (List.mem_of_getElem? (i := 765) (by decide +kernel)), List.mem_append_left _ (List.mem_of_getElem? (i := 56) (by decide +kernel)), List.mem_append_right _ (List.mem_of_getElem? (i := 766) (by decide +kernel)), by decide, ⟨by decide, by decide⟩, by decide, by decide +kernel⟩
theorem mfM_afterSingle : MV yM_afterSingle bM_afterSingle 2 1 (some .int) := ⟨List.mem_append_right _ (List.mem_of_getElem? (i := 769) (by decide +kernel)), List.mem_append_left _ (List.mem_of_getElem? (i := 57) (by decide +kernel)), List.mem_append_right _ (List.mem_of_getElem? (i := 770) (by decide +kernel)), by decide, ⟨by decide, by decide⟩, by decide, by decide +kernel⟩
theorem mfM_holds : MV yM_holds bM_holds 2 1 (some .boolean) := ⟨List.mem_append_right _ (List.mem_of_getElem? (i := 772) (by decide +kernel)), List.mem_append_right _ (List.mem_of_getElem? (i := 773) (by decide +kernel)), List.mem_append_right _ (List.mem_of_getElem? (i := 774) (by decide +kernel)), by decide, ⟨by decide, by decide⟩, by decide, by decide +kernel⟩
theorem mfM_isSize : MS yM_isSize bM_isSize 1 1 (some .boolean) := ⟨List.mem_append_right _ (List.mem_of_getElem? (i := 776) (by decide +kernel)), List.mem_append_right _ (List.mem_of_getElem? (i := 5) (by decide +kernel)), List.mem_append_right _ (List.mem_of_getElem? (i := 777) (by decide +kernel)), by decide, ⟨by decide, by decide⟩, by decide, by decide +kernel⟩
theorem mfM_run : MV yM_run bM_run 8 2 (some .boolean) := ⟨List.mem_append_right _ (List.mem_of_getElem? (i := 780) (by decide +kernel)), List.mem_append_left _ (List.mem_of_getElem? (i := 58) (by decide +kernel)), List.mem_append_right _ (List.mem_of_getElem? (i := 781) (by decide +kernel)), by decide, ⟨by decide, by decide⟩, by decide, by decide +kernel⟩
theorem mfM_pop : MV yM_pop bM_pop 1 0 (some .int) := ⟨List.mem_append_right _ (List.mem_of_getElem? (i := 784) (by decide +kernel)), List.mem_append_left _ (List.mem_of_getElem? (i := 59) (by decide +kernel)), List.mem_append_right _ (List.mem_of_getElem? (i := 785) (by decide +kernel)), by decide, ⟨by decide, by decide⟩, by decide, by decide +kernel⟩
theorem mfM_ends : MV yM_ends bM_ends 5 3 (some .boolean) := ⟨List.mem_append_right _ (List.mem_of_getElem? (i := 788) (by decide +kernel)), List.mem_append_left _ (List.mem_of_getElem? (i := 60) (by decide +kernel)), List.mem_append_right _ (List.mem_of_getElem? (i := 789) (by decide +kernel)), by decide, ⟨by decide, by decide⟩, by decide, by decide +kernel⟩
theorem mfM_lastOf : MV yM_lastOf bM_lastOf 2 1 (some .int) := ⟨List.mem_append_right _ (List.mem_of_getElem? (i := 792) (by decide +kernel)), List.mem_append_left _ (List.mem_of_getElem? (i := 61) (by decide +kernel)), List.mem_append_right _ (List.mem_of_getElem? (i := 793) (by decide +kernel)), by decide, ⟨by decide, by decide⟩, by decide, by decide +kernel⟩
theorem mfM_put : MV yM_put bM_put 2 1 none := ⟨List.mem_append_right _ (List.mem_of_getElem? (i := 796) (by decide +kernel)), List.mem_append_left _ (List.mem_of_getElem? (i := 62) (by decide +kernel)), List.mem_append_right _ (List.mem_of_getElem? (i := 797) (by decide +kernel)), by decide, ⟨by decide, by decide⟩, by decide, by decide +kernel⟩
theorem mfM_doSum : MV yM_doSum bM_doSum 4 2 none := ⟨List.mem_append_right _ (List.mem_of_getElem? (i := 800) (by decide +kernel)), List.mem_append_left _ (List.mem_of_getElem? (i := 63) (by decide +kernel)), List.mem_append_right _ (List.mem_of_getElem? (i := 801) (by decide +kernel)), by decide, ⟨by decide, by decide⟩, by decide, by decide +kernel⟩
theorem mfM_count : MS yM_count bM_count 3 1 (some .int) := ⟨List.mem_append_right _ (List.mem_of_getElem? (i := 803) (by decide +kernel)), List.mem_append_right _ (List.mem_of_getElem? (i := 5) (by decide +kernel)), List.mem_append_right _ (List.mem_of_getElem? (i := 804) (by decide +kernel)), by decide, ⟨by decide, by decide⟩, by decide, by decide +kernel⟩
theorem mfM_doOther : MV yM_doOther bM_doOther 5 1 none := ⟨List.mem_append_right _ (List.mem_of_getElem? (i := 807) (by decide +kernel)), List.mem_append_left _ (List.mem_of_getElem? (i := 64) (by decide +kernel)), List.mem_append_right _ (List.mem_of_getElem? (i := 808) (by decide +kernel)), by decide, ⟨by decide, by decide⟩, by decide, by decide +kernel⟩
theorem mfM_fails : MV yM_fails bM_fails 3 0 (some .int) := ⟨List.mem_append_right _ (List.mem_of_getElem? (i := 810) (by decide +kernel)), List.mem_append_right _ (List.mem_of_getElem? (i := 811) (by decide +kernel)), List.mem_append_right _ (List.mem_of_getElem? (i := 812) (by decide +kernel)), by decide, ⟨by decide, by decide⟩, by decide, by decide +kernel⟩
theorem mfM_ways : MV yM_ways bM_ways 4 1 (some .int) := ⟨List.mem_append_right _ (List.mem_of_getElem? (i := 814) (by decide +kernel)), List.mem_append_right _ (List.mem_of_getElem? (i := 815) (by decide +kernel)), List.mem_append_right _ (List.mem_of_getElem? (i := 816) (by decide +kernel)), by decide, ⟨by decide, by decide⟩, by decide, by decide +kernel⟩
theorem mfM_isLoop : MV yM_isLoop bM_isLoop 1 0 (some .boolean) := ⟨List.mem_append_right _ (List.mem_of_getElem? (i := 819) (by decide +kernel)), List.mem_append_left _ (List.mem_of_getElem? (i := 65) (by decide +kernel)), List.mem_append_right _ (List.mem_of_getElem? (i := 820) (by decide +kernel)), by decide, ⟨by decide, by decide⟩, by decide, by decide +kernel⟩
end
section
/-! what the mirrors of methods are made of, and what their proofs stand on -/
def yL : List MethodName := [yH_init, yP_init, yS_length, yS_coder, yO_init, yH_write, yH_byteAt, yH_append, yH_wipe, yH_length, yH_read, yP_parse, yP_start, yP_row, yP_item, yP_one, yP_insist, yP_peek, yP_not, yP_next, yP_make, yN_init, yN_reset, yP_quantified, yS_indexOf, yS_indexOf2, yS_isLatin1, yT_indexOf, yT_canEncode, yT_indexOfChar, yP_bracketed, yP_take, yP_comparisonOfSets, yP_startsWithDivisor, yP_isDecimal, yP_number, yP_divided, yP_addSum, yP_addPart, yP_thing, yP_single, yP_boundVariable, yP_comparisonOfSums, yH_holds, yH_needSentence, yH_needWorld, yH_isTrueIn, yH_waysIn, yO_count, yO_isTrue, yO_anyIs, yO_anyChoiceMakes, yO_value, yO_firstChoice, yO_choices, yO_bind, yO_isTrueOfSets, yO_elements, yO_union, yO_meet, yO_isTrueOfSum, yO_amount, yI_bitCount, yH_fails, yH_ways, yM_init, yM_thrown, yM_write, yM_wipe, yM_length, yM_read, yM_isSentence, yM_next, yM_one, yM_deeper, yM_push, yM_sum, yM_part, yM_isDigit, yM_thing, yM_variableOf, yM_emit, yM_wholePart, yM_afterOne, yM_settle, yM_upper, yM_close, yM_wholeOne, yM_bound, yM_afterNumber, yM_afterPart, yM_single, yM_wholeSingle, yM_afterSingle, yM_holds, yM_isSize, yM_run, yM_pop, yM_ends, yM_lastOf, yM_put, yM_doSum, yM_count, yM_doOther, yM_fails, yM_ways, yM_isLoop]
abbrev Cx : Type := Nat → List Value → Mem → Rz
def yT (j : Nat) : MethodName := yL.getD j yH_init
/-- what the methods that are called do -/
def CBs (l : Launch) (G : Gx) (d : Nat) (C : Cx) : Prop := ∀ (j : Nat) (as : List Value) (M : Mem) (r : Option Value ⊕ Nat) (M' : Mem), C j as M = some (r, M') → CB l G d (yT j) as M r M'
def FX (p : Program) (s : State) (m : MethodId) (meth : Method) (c : Code) (G : Gx) (R : Room) (M0 : Mem) (d : Nat) (own : String) (bytes : ByteArray) (nL : Nat) (ret : Option FieldType) : Prop :=
  p.tables.exec = Jvm.exec ∧ c.code = bytes ∧ c.maxLocals = nL ∧ s.vm.findClass own = some m.cls ∧ meth.sig.returnType = ret ∧ meth.locks = false ∧ c.exceptionTable.isEmpty = true ∧ Kst G s ∧ RM G R M0 d
theorem fx_of {s : State} {m : MethodId} {meth : Method} {c : Code} {y : MethodName} {bytes : ByteArray} {maxL : Nat} {ret : Option FieldType} (hn : s.methodNamed? y = some m) (hm : s.vm.method? m = some meth) (hc : meth.code = some c) (hw : (Cond.code y bytes maxL ret).before #[] s = true) :
    c.code = bytes ∧ c.maxLocals = maxL ∧ meth.sig.returnType = ret ∧ c.exceptionTable.isEmpty = true ∧ s.vm.findClass y.cls = some m.cls := by
  obtain ⟨meth', c', h1, h2, h3, h4, h5, -, h7, -⟩ := Cond.code_spec hn hw
  cases hm.symm.trans h1
  cases hc.symm.trans h2
  exact ⟨h3, h4, h5, h7, findClass_of_methodNamed hn⟩
def rzM (X : Mem) (k : Mem → Rz) : Rz := k X
theorem rz_m {X : Mem} {k : Mem → Rz} {x : (Option Value ⊕ Nat) × Mem} (h : rzM X k = some x) : ∃ M1, M1 = X ∧ k M1 = some x := ⟨X, rfl, h⟩
theorem rz_t {c : Prop} [Decidable c] {X Y : Rz} {x : (Option Value ⊕ Nat) × Mem} (hc : c) (h : (if c then X else Y) = some x) : X = some x := by rw [if_pos hc] at h; exact h
theorem rz_f {c : Prop} [Decidable c] {X Y : Rz} {x : (Option Value ⊕ Nat) × Mem} (hc : ¬ c) (h : (if c then X else Y) = some x) : Y = some x := by rw [if_neg hc] at h; exact h
theorem rz_n1 {r : Option Nat} {X : Rz} {k : Nat → Rz} {x : (Option Value ⊕ Nat) × Mem} (hr : r = none) (h : rzN r X k = some x) : X = some x := by subst hr; exact h
theorem rz_n2 {r : Option Nat} {a : Nat} {X : Rz} {k : Nat → Rz} {x : (Option Value ⊕ Nat) × Mem} (hr : r = some a) (h : rzN r X k = some x) : k a = some x := by subst hr; exact h
theorem RL.start {G : Gx} {M : Mem} {H : Heap} (hR : Real G M H) (h1 : mC M = gC G) (h2 : mS M ≤ mC M 0) (h3 : mU M ≤ SLm) : RL G M M H [] 0 0 :=
  ⟨hR, fun _ hq => absurd hq List.not_mem_nil, Nat.zero_add _, Nat.zero_add _, h1, h2, h3⟩
theorem kn_keep {G : Gx} {M0 M : Mem} {H : Heap} {locs : List Loc} {cells slots a k kd ln sl : Nat} (hR : RL G M0 M H locs cells slots) (h : mK M a = k) (hk : k ≠ 0) : mK (newC M kd ln sl) a = k := by
  have h1 := (hR.1.2.2.2 a (by rw [h]; exact hk)).2.1
  rw [mK_newC, va_up_ne _ _ (Nat.ne_of_lt h1)]
  exact h
section RowsB
variable {p : Program} {l : Launch} {e : Env} {R : Room} {s : State} {m : MethodId} {args : Array Value} {below : List Frame} {meth : Method} {c : Code} {H : Heap} {locs : List Loc} {cells slots : Nat} {Q : State → Prop}
variable {cc : ByteArray} {pc : Nat} {ls : Array Slot} {rest : List Value} {G : Gx} {M0 M : Mem} {a : Nat}
theorem rt_b (hx : p.tables.exec = Jvm.exec) (hb : c.code = cc) (hlk : meth.locks = false) {v : Int32} (hr : meth.sig.returnType = some .byte) (hn : v.toInt8.toInt32 = v) (hR : RL G M0 M H locs cells slots) (hdg : decode cc pc = .ok (.ireturn, 1)) : W p l e R s m args below meth c H locs cells slots (CQ G below s M0 (.inl (some (.int v))) M) (F0 m pc ls [.int v]) :=
  (W.zret (Qc := fun _ _ o t => o = .returned (some (.int v)) ∧ t.heap = H) (free := fun q => gZ G ≤ q) hx hb hr (by show Value.int v.toInt8.toInt32 = .int v; rw [hn]) (fun t ht _ => ⟨rfl, ht⟩) hR.2.1 hdg hlk).mono (fun _ h => cq_of hR h)
/-- the constructor of a nest mate -/
theorem rc_IN (hx : p.tables.exec = Jvm.exec) (hb : c.code = cc) (hnl : ls.size = c.maxLocals) {own host : String} {index : Nat} (hown : s.vm.findClass own = some m.cls) (hK : Kst G s) (hR : RL G M0 M H locs cells slots) {d : Nat} (hRm : RM G R M0 d) {y : MethodName} {bytes : ByteArray} {maxL n : Nat} (hy : MN y bytes maxL n) (hl : va_Nw (.methodLinkNest own index y host) s) {b : Nat} {As : List Value} (hn : As.length = n) (hcat : (rest.map fun v => v.category).sum ≤ 8) {r : Option Value ⊕ Nat} {M1 : Mem} (hM : CB l G d y (.ref b :: As) M r M1) (hdg : decode cc pc = .ok (.invokespecial index, 3))
    (kr : ∀ (v : Option Value) (H1 : Heap) (locs1 : List Loc) (cells1 slots1 : Nat), r = .inl v → RL G M0 M1 H1 locs1 cells1 slots1 → W p l e R s m args below meth c H1 locs1 cells1 slots1 Q (F0 m (pc + 3) ls (v.toList ++ rest)))
    (kx : ∀ (x : Nat) (q : Addr) (ce : Cell) (H1 : Heap) (locs1 : List Loc) (cells1 slots1 : Nat), r = .inr x → RL G M0 M1 H1 locs1 cells1 slots1 → H1[q]? = some ce → ce.vm = .none → s.vm.findClass (exN x) = some ce.cls → WT p l e R s m args below meth c H1 locs1 cells1 slots1 Q (F0 m pc ls rest) q) :
    W p l e R s m args below meth c H locs cells slots Q (F0 m pc ls (As.reverse ++ .ref b :: rest)) := by
  intro T hT X
  obtain ⟨y1, y2, y3, y4, y5, y6, y7⟩ := hy
  obtain ⟨d1, d2, d3, d4⟩ := hRm
  have hpl : e.platform.magicAccessors = ({} : Platform).magicAccessors := by rw [X.admits.platform]
  obtain ⟨mk, methM, cM, kP, vm₁, hnamed, hmethM, hcM, -, hlM, hlkM, hkP, -, hW₁, hstep₁⟩ := Steps.initColdArgsNest (e := e) X.here hx X.warmed hpl hown y2 y5 (va_Nw.use rfl hl (A := args)) (hK.w y1 rfl args) (hK.w y3 rfl args) (f := F0 m pc ls (As.reverse ++ .ref b :: rest)) rfl (a := b) (argsL := As) (rest := rest) (fun sig h => hn.trans (len_of y7 h)) rfl (by rw [hb]; exact hdg)
  have X₁ := X.noted hW₁
  have hT1 : (T.setVm vm₁).heap = H := hT
  rcases cb_core X₁ hx hT1 (g := F0 m pc ls rest) rfl hnl (by rw [hb]; exact hdg) hnamed hmethM hcM hlkM (by rw [hlM]; exact y4) y6 hK hR (by simpa using hcat) d1 d2 d3 d4 hM with ⟨v, T', L, c1, s1, e1, X', hR1, st⟩ | ⟨x, q, ce, T', L, c1, s1, e1, X', hR1, g1, g2, g3, st⟩
  · obtain ⟨t2, a1, b1⟩ := kr v T'.heap _ _ _ e1 hR1 T' rfl X'
    exact ⟨t2, hstep₁ _ fun acts => by rw [doInvoke_state]; exact st.trans a1, b1⟩
  · obtain ⟨t2, a1, b1⟩ := kx x q ce T'.heap _ _ _ e1 hR1 g1 g2 g3 T' rfl X'
    exact ⟨t2, hstep₁ _ fun acts => by rw [doInvoke_state]; exact st.trans a1, b1⟩
end RowsB
end
section
theorem dM_init_0 : decode bM_init 0 = .ok (.aload_n 0, 1) := by decide +kernel
theorem dM_init_1 : decode bM_init 1 = .ok (.invokespecial 1, 3) := by decide +kernel
theorem dM_init_4 : decode bM_init 4 = .ok (.aload_n 0, 1) := by decide +kernel
theorem dM_init_5 : decode bM_init 5 = .ok (.bipush 120, 2) := by decide +kernel
theorem dM_init_7 : decode bM_init 7 = .ok (.newarray .char, 2) := by decide +kernel
theorem dM_init_9 : decode bM_init 9 = .ok (.putfield 7, 3) := by decide +kernel
theorem dM_init_12 : decode bM_init 12 = .ok (.aload_n 0, 1) := by decide +kernel
theorem dM_init_13 : decode bM_init 13 = .ok (.sipush 260, 3) := by decide +kernel
theorem dM_init_16 : decode bM_init 16 = .ok (.newarray .int, 2) := by decide +kernel
theorem dM_init_18 : decode bM_init 18 = .ok (.putfield 13, 3) := by decide +kernel
theorem dM_init_21 : decode bM_init 21 = .ok (.aload_n 0, 1) := by decide +kernel
theorem dM_init_22 : decode bM_init 22 = .ok (.sipush 260, 3) := by decide +kernel
theorem dM_init_25 : decode bM_init 25 = .ok (.newarray .int, 2) := by decide +kernel
theorem dM_init_27 : decode bM_init 27 = .ok (.putfield 17, 3) := by decide +kernel
theorem dM_init_30 : decode bM_init 30 = .ok (.aload_n 0, 1) := by decide +kernel
theorem dM_init_31 : decode bM_init 31 = .ok (.iconst 4, 1) := by decide +kernel
theorem dM_init_32 : decode bM_init 32 = .ok (.newarray .boolean, 2) := by decide +kernel
theorem dM_init_34 : decode bM_init 34 = .ok (.putfield 20, 3) := by decide +kernel
theorem dM_init_37 : decode bM_init 37 = .ok (.aload_n 0, 1) := by decide +kernel
theorem dM_init_38 : decode bM_init 38 = .ok (.iconst 4, 1) := by decide +kernel
theorem dM_init_39 : decode bM_init 39 = .ok (.newarray .boolean, 2) := by decide +kernel
theorem dM_init_41 : decode bM_init 41 = .ok (.putfield 24, 3) := by decide +kernel
theorem dM_init_44 : decode bM_init 44 = .ok (.aload_n 0, 1) := by decide +kernel
theorem dM_init_45 : decode bM_init 45 = .ok (.sipush 260, 3) := by decide +kernel
theorem dM_init_48 : decode bM_init 48 = .ok (.newarray .int, 2) := by decide +kernel
theorem dM_init_50 : decode bM_init 50 = .ok (.putfield 27, 3) := by decide +kernel
theorem dM_init_53 : decode bM_init 53 = .ok (.aload_n 0, 1) := by decide +kernel
theorem dM_init_54 : decode bM_init 54 = .ok (.sipush 260, 3) := by decide +kernel
theorem dM_init_57 : decode bM_init 57 = .ok (.newarray .int, 2) := by decide +kernel
theorem dM_init_59 : decode bM_init 59 = .ok (.putfield 30, 3) := by decide +kernel
theorem dM_init_62 : decode bM_init 62 = .ok (.aload_n 0, 1) := by decide +kernel
theorem dM_init_63 : decode bM_init 63 = .ok (.iconst 4, 1) := by decide +kernel
theorem dM_init_64 : decode bM_init 64 = .ok (.newarray .boolean, 2) := by decide +kernel
theorem dM_init_66 : decode bM_init 66 = .ok (.putfield 33, 3) := by decide +kernel
theorem dM_init_69 : decode bM_init 69 = .ok (.aload_n 0, 1) := by decide +kernel
theorem dM_init_70 : decode bM_init 70 = .ok (.iconst 4, 1) := by decide +kernel
theorem dM_init_71 : decode bM_init 71 = .ok (.newarray .boolean, 2) := by decide +kernel
theorem dM_init_73 : decode bM_init 73 = .ok (.putfield 36, 3) := by decide +kernel
theorem dM_init_76 : decode bM_init 76 = .ok (.aload_n 0, 1) := by decide +kernel
theorem dM_init_77 : decode bM_init 77 = .ok (.sipush 140, 3) := by decide +kernel
theorem dM_init_80 : decode bM_init 80 = .ok (.newarray .int, 2) := by decide +kernel
theorem dM_init_82 : decode bM_init 82 = .ok (.putfield 39, 3) := by decide +kernel
theorem dM_init_85 : decode bM_init 85 = .ok (.aload_n 0, 1) := by decide +kernel
theorem dM_init_86 : decode bM_init 86 = .ok (.sipush 140, 3) := by decide +kernel
theorem dM_init_89 : decode bM_init 89 = .ok (.newarray .int, 2) := by decide +kernel
theorem dM_init_91 : decode bM_init 91 = .ok (.putfield 42, 3) := by decide +kernel
theorem dM_init_94 : decode bM_init 94 = .ok (.aload_n 0, 1) := by decide +kernel
theorem dM_init_95 : decode bM_init 95 = .ok (.sipush 140, 3) := by decide +kernel
theorem dM_init_98 : decode bM_init 98 = .ok (.newarray .int, 2) := by decide +kernel
theorem dM_init_100 : decode bM_init 100 = .ok (.putfield 45, 3) := by decide +kernel
theorem dM_init_103 : decode bM_init 103 = .ok (.aload_n 0, 1) := by decide +kernel
theorem dM_init_104 : decode bM_init 104 = .ok (.bipush 6, 2) := by decide +kernel
theorem dM_init_106 : decode bM_init 106 = .ok (.newarray .int, 2) := by decide +kernel
theorem dM_init_108 : decode bM_init 108 = .ok (.putfield 48, 3) := by decide +kernel
theorem dM_init_111 : decode bM_init 111 = .ok (.aload_n 0, 1) := by decide +kernel
theorem dM_init_112 : decode bM_init 112 = .ok (.iconst 4, 1) := by decide +kernel
theorem dM_init_113 : decode bM_init 113 = .ok (.newarray .int, 2) := by decide +kernel
theorem dM_init_115 : decode bM_init 115 = .ok (.putfield 51, 3) := by decide +kernel
theorem dM_init_118 : decode bM_init 118 = .ok (.aload_n 0, 1) := by decide +kernel
theorem dM_init_119 : decode bM_init 119 = .ok (.iconst 4, 1) := by decide +kernel
theorem dM_init_120 : decode bM_init 120 = .ok (.newarray .int, 2) := by decide +kernel
theorem dM_init_122 : decode bM_init 122 = .ok (.putfield 54, 3) := by decide +kernel
theorem dM_init_125 : decode bM_init 125 = .ok (.aload_n 0, 1) := by decide +kernel
theorem dM_init_126 : decode bM_init 126 = .ok (.sipush 260, 3) := by decide +kernel
theorem dM_init_129 : decode bM_init 129 = .ok (.newarray .int, 2) := by decide +kernel
theorem dM_init_131 : decode bM_init 131 = .ok (.putfield 57, 3) := by decide +kernel
theorem dM_init_134 : decode bM_init 134 = .ok (.return_, 1) := by decide +kernel
theorem dM_thrown_0 : decode bM_thrown 0 = .ok (.aload_n 0, 1) := by decide +kernel
theorem dM_thrown_1 : decode bM_thrown 1 = .ok (.getfield 60, 3) := by decide +kernel
theorem dM_thrown_4 : decode bM_thrown 4 = .ok (.ireturn, 1) := by decide +kernel
theorem dM_write_0 : decode bM_write 0 = .ok (.aload_n 0, 1) := by decide +kernel
theorem dM_write_1 : decode bM_write 1 = .ok (.iconst 0, 1) := by decide +kernel
theorem dM_write_2 : decode bM_write 2 = .ok (.putfield 60, 3) := by decide +kernel
theorem dM_write_5 : decode bM_write 5 = .ok (.iconst 0, 1) := by decide +kernel
theorem dM_write_6 : decode bM_write 6 = .ok (.istore_n 3, 1) := by decide +kernel
theorem dM_write_7 : decode bM_write 7 = .ok (.iconst 0, 1) := by decide +kernel
theorem dM_write_8 : decode bM_write 8 = .ok (.istore 4, 2) := by decide +kernel
theorem dM_write_10 : decode bM_write 10 = .ok (.iload 4, 2) := by decide +kernel
theorem dM_write_12 : decode bM_write 12 = .ok (.bipush 8, 2) := by decide +kernel
theorem dM_write_14 : decode bM_write 14 = .ok (.if_icmp .ge 57, 3) := by decide +kernel
theorem dM_write_17 : decode bM_write 17 = .ok (.lload_n 1, 1) := by decide +kernel
theorem dM_write_18 : decode bM_write 18 = .ok (.bipush 8, 2) := by decide +kernel
theorem dM_write_20 : decode bM_write 20 = .ok (.iload 4, 2) := by decide +kernel
theorem dM_write_22 : decode bM_write 22 = .ok (.imul, 1) := by decide +kernel
theorem dM_write_23 : decode bM_write 23 = .ok (.lshr, 1) := by decide +kernel
theorem dM_write_24 : decode bM_write 24 = .ok (.ldc2_w 64, 3) := by decide +kernel
theorem dM_write_27 : decode bM_write 27 = .ok (.land, 1) := by decide +kernel
theorem dM_write_28 : decode bM_write 28 = .ok (.l2i, 1) := by decide +kernel
theorem dM_write_29 : decode bM_write 29 = .ok (.istore 5, 2) := by decide +kernel
theorem dM_write_31 : decode bM_write 31 = .ok (.iload 5, 2) := by decide +kernel
theorem dM_write_33 : decode bM_write 33 = .ok (.ifCond .eq 19, 3) := by decide +kernel
theorem dM_write_36 : decode bM_write 36 = .ok (.iload 5, 2) := by decide +kernel
theorem dM_write_38 : decode bM_write 38 = .ok (.bipush 32, 2) := by decide +kernel
theorem dM_write_40 : decode bM_write 40 = .ok (.if_icmp .lt 10, 3) := by decide +kernel
theorem dM_write_43 : decode bM_write 43 = .ok (.iload 5, 2) := by decide +kernel
theorem dM_write_45 : decode bM_write 45 = .ok (.bipush 126, 2) := by decide +kernel
theorem dM_write_47 : decode bM_write 47 = .ok (.if_icmp .le 5, 3) := by decide +kernel
theorem dM_write_50 : decode bM_write 50 = .ok (.iconst 0, 1) := by decide +kernel
theorem dM_write_51 : decode bM_write 51 = .ok (.ireturn, 1) := by decide +kernel
theorem dM_write_52 : decode bM_write 52 = .ok (.iload_n 3, 1) := by decide +kernel
theorem dM_write_53 : decode bM_write 53 = .ok (.iload 5, 2) := by decide +kernel
theorem dM_write_55 : decode bM_write 55 = .ok (.ifCond .ne 7, 3) := by decide +kernel
theorem dM_write_58 : decode bM_write 58 = .ok (.iconst 0, 1) := by decide +kernel
theorem dM_write_59 : decode bM_write 59 = .ok (.goto 4, 3) := by decide +kernel
theorem dM_write_62 : decode bM_write 62 = .ok (.iconst 1, 1) := by decide +kernel
theorem dM_write_63 : decode bM_write 63 = .ok (.iadd, 1) := by decide +kernel
theorem dM_write_64 : decode bM_write 64 = .ok (.istore_n 3, 1) := by decide +kernel
theorem dM_write_65 : decode bM_write 65 = .ok (.iinc 4 1, 3) := by decide +kernel
theorem dM_write_68 : decode bM_write 68 = .ok (.goto (-58), 3) := by decide +kernel
theorem dM_write_71 : decode bM_write 71 = .ok (.aload_n 0, 1) := by decide +kernel
theorem dM_write_72 : decode bM_write 72 = .ok (.getfield 66, 3) := by decide +kernel
theorem dM_write_75 : decode bM_write 75 = .ok (.iload_n 3, 1) := by decide +kernel
theorem dM_write_76 : decode bM_write 76 = .ok (.iadd, 1) := by decide +kernel
theorem dM_write_77 : decode bM_write 77 = .ok (.bipush 120, 2) := by decide +kernel
theorem dM_write_79 : decode bM_write 79 = .ok (.if_icmp .le 5, 3) := by decide +kernel
theorem dM_write_82 : decode bM_write 82 = .ok (.iconst 0, 1) := by decide +kernel
theorem dM_write_83 : decode bM_write 83 = .ok (.ireturn, 1) := by decide +kernel
theorem dM_write_84 : decode bM_write 84 = .ok (.iconst 0, 1) := by decide +kernel
theorem dM_write_85 : decode bM_write 85 = .ok (.istore 4, 2) := by decide +kernel
theorem dM_write_87 : decode bM_write 87 = .ok (.iload 4, 2) := by decide +kernel
theorem dM_write_89 : decode bM_write 89 = .ok (.bipush 8, 2) := by decide +kernel
theorem dM_write_91 : decode bM_write 91 = .ok (.if_icmp .ge 50, 3) := by decide +kernel
theorem dM_write_94 : decode bM_write 94 = .ok (.lload_n 1, 1) := by decide +kernel
theorem dM_write_95 : decode bM_write 95 = .ok (.bipush 8, 2) := by decide +kernel
theorem dM_write_97 : decode bM_write 97 = .ok (.iload 4, 2) := by decide +kernel
theorem dM_write_99 : decode bM_write 99 = .ok (.imul, 1) := by decide +kernel
theorem dM_write_100 : decode bM_write 100 = .ok (.lshr, 1) := by decide +kernel
theorem dM_write_101 : decode bM_write 101 = .ok (.ldc2_w 64, 3) := by decide +kernel
theorem dM_write_104 : decode bM_write 104 = .ok (.land, 1) := by decide +kernel
theorem dM_write_105 : decode bM_write 105 = .ok (.l2i, 1) := by decide +kernel
theorem dM_write_106 : decode bM_write 106 = .ok (.istore 5, 2) := by decide +kernel
theorem dM_write_108 : decode bM_write 108 = .ok (.iload 5, 2) := by decide +kernel
theorem dM_write_110 : decode bM_write 110 = .ok (.ifCond .eq 25, 3) := by decide +kernel
theorem dM_write_113 : decode bM_write 113 = .ok (.aload_n 0, 1) := by decide +kernel
theorem dM_write_114 : decode bM_write 114 = .ok (.getfield 7, 3) := by decide +kernel
theorem dM_write_117 : decode bM_write 117 = .ok (.aload_n 0, 1) := by decide +kernel
theorem dM_write_118 : decode bM_write 118 = .ok (.getfield 66, 3) := by decide +kernel
theorem dM_write_121 : decode bM_write 121 = .ok (.iload 5, 2) := by decide +kernel
theorem dM_write_123 : decode bM_write 123 = .ok (.i2c, 1) := by decide +kernel
theorem dM_write_124 : decode bM_write 124 = .ok (.castore, 1) := by decide +kernel
theorem dM_write_125 : decode bM_write 125 = .ok (.aload_n 0, 1) := by decide +kernel
theorem dM_write_126 : decode bM_write 126 = .ok (.dup, 1) := by decide +kernel
theorem dM_write_127 : decode bM_write 127 = .ok (.getfield 66, 3) := by decide +kernel
theorem dM_write_130 : decode bM_write 130 = .ok (.iconst 1, 1) := by decide +kernel
theorem dM_write_131 : decode bM_write 131 = .ok (.iadd, 1) := by decide +kernel
theorem dM_write_132 : decode bM_write 132 = .ok (.putfield 66, 3) := by decide +kernel
theorem dM_write_135 : decode bM_write 135 = .ok (.iinc 4 1, 3) := by decide +kernel
theorem dM_write_138 : decode bM_write 138 = .ok (.goto (-51), 3) := by decide +kernel
theorem dM_write_141 : decode bM_write 141 = .ok (.iconst 1, 1) := by decide +kernel
theorem dM_write_142 : decode bM_write 142 = .ok (.ireturn, 1) := by decide +kernel
theorem dM_wipe_0 : decode bM_wipe 0 = .ok (.aload_n 0, 1) := by decide +kernel
theorem dM_wipe_1 : decode bM_wipe 1 = .ok (.iconst 0, 1) := by decide +kernel
theorem dM_wipe_2 : decode bM_wipe 2 = .ok (.putfield 60, 3) := by decide +kernel
theorem dM_wipe_5 : decode bM_wipe 5 = .ok (.aload_n 0, 1) := by decide +kernel
theorem dM_wipe_6 : decode bM_wipe 6 = .ok (.getfield 66, 3) := by decide +kernel
theorem dM_wipe_9 : decode bM_wipe 9 = .ok (.istore_n 1, 1) := by decide +kernel
theorem dM_wipe_10 : decode bM_wipe 10 = .ok (.aload_n 0, 1) := by decide +kernel
theorem dM_wipe_11 : decode bM_wipe 11 = .ok (.iconst 0, 1) := by decide +kernel
theorem dM_wipe_12 : decode bM_wipe 12 = .ok (.putfield 66, 3) := by decide +kernel
theorem dM_wipe_15 : decode bM_wipe 15 = .ok (.iload_n 1, 1) := by decide +kernel
theorem dM_wipe_16 : decode bM_wipe 16 = .ok (.ireturn, 1) := by decide +kernel
theorem dM_length_0 : decode bM_length 0 = .ok (.aload_n 0, 1) := by decide +kernel
theorem dM_length_1 : decode bM_length 1 = .ok (.iconst 0, 1) := by decide +kernel
theorem dM_length_2 : decode bM_length 2 = .ok (.putfield 60, 3) := by decide +kernel
theorem dM_length_5 : decode bM_length 5 = .ok (.aload_n 0, 1) := by decide +kernel
theorem dM_length_6 : decode bM_length 6 = .ok (.getfield 66, 3) := by decide +kernel
theorem dM_length_9 : decode bM_length 9 = .ok (.ireturn, 1) := by decide +kernel
theorem dM_deeper_0 : decode bM_deeper 0 = .ok (.aload_n 0, 1) := by decide +kernel
theorem dM_deeper_1 : decode bM_deeper 1 = .ok (.getfield 75, 3) := by decide +kernel
theorem dM_deeper_4 : decode bM_deeper 4 = .ok (.bipush 12, 2) := by decide +kernel
theorem dM_deeper_6 : decode bM_deeper 6 = .ok (.if_icmp .lt 5, 3) := by decide +kernel
theorem dM_deeper_9 : decode bM_deeper 9 = .ok (.iconst 0, 1) := by decide +kernel
theorem dM_deeper_10 : decode bM_deeper 10 = .ok (.ireturn, 1) := by decide +kernel
theorem dM_deeper_11 : decode bM_deeper 11 = .ok (.aload_n 0, 1) := by decide +kernel
theorem dM_deeper_12 : decode bM_deeper 12 = .ok (.dup, 1) := by decide +kernel
theorem dM_deeper_13 : decode bM_deeper 13 = .ok (.getfield 75, 3) := by decide +kernel
theorem dM_deeper_16 : decode bM_deeper 16 = .ok (.iconst 1, 1) := by decide +kernel
theorem dM_deeper_17 : decode bM_deeper 17 = .ok (.iadd, 1) := by decide +kernel
theorem dM_deeper_18 : decode bM_deeper 18 = .ok (.putfield 75, 3) := by decide +kernel
theorem dM_deeper_21 : decode bM_deeper 21 = .ok (.aload_n 0, 1) := by decide +kernel
theorem dM_deeper_22 : decode bM_deeper 22 = .ok (.iload_n 1, 1) := by decide +kernel
theorem dM_deeper_23 : decode bM_deeper 23 = .ok (.invokevirtual 78, 3) := by decide +kernel
theorem dM_deeper_26 : decode bM_deeper 26 = .ok (.iconst 1, 1) := by decide +kernel
theorem dM_deeper_27 : decode bM_deeper 27 = .ok (.ireturn, 1) := by decide +kernel
theorem dM_push_0 : decode bM_push 0 = .ok (.aload_n 0, 1) := by decide +kernel
theorem dM_push_1 : decode bM_push 1 = .ok (.getfield 39, 3) := by decide +kernel
theorem dM_push_4 : decode bM_push 4 = .ok (.aload_n 0, 1) := by decide +kernel
theorem dM_push_5 : decode bM_push 5 = .ok (.getfield 72, 3) := by decide +kernel
theorem dM_push_8 : decode bM_push 8 = .ok (.iload_n 1, 1) := by decide +kernel
theorem dM_push_9 : decode bM_push 9 = .ok (.iastore, 1) := by decide +kernel
theorem dM_push_10 : decode bM_push 10 = .ok (.aload_n 0, 1) := by decide +kernel
theorem dM_push_11 : decode bM_push 11 = .ok (.dup, 1) := by decide +kernel
theorem dM_push_12 : decode bM_push 12 = .ok (.getfield 72, 3) := by decide +kernel
theorem dM_push_15 : decode bM_push 15 = .ok (.iconst 1, 1) := by decide +kernel
theorem dM_push_16 : decode bM_push 16 = .ok (.iadd, 1) := by decide +kernel
theorem dM_push_17 : decode bM_push 17 = .ok (.putfield 72, 3) := by decide +kernel
theorem dM_push_20 : decode bM_push 20 = .ok (.return_, 1) := by decide +kernel
theorem dM_isDigit_0 : decode bM_isDigit 0 = .ok (.iload_n 0, 1) := by decide +kernel
theorem dM_isDigit_1 : decode bM_isDigit 1 = .ok (.bipush 48, 2) := by decide +kernel
theorem dM_isDigit_3 : decode bM_isDigit 3 = .ok (.if_icmp .lt 13, 3) := by decide +kernel
theorem dM_isDigit_6 : decode bM_isDigit 6 = .ok (.iload_n 0, 1) := by decide +kernel
theorem dM_isDigit_7 : decode bM_isDigit 7 = .ok (.bipush 57, 2) := by decide +kernel
theorem dM_isDigit_9 : decode bM_isDigit 9 = .ok (.if_icmp .gt 7, 3) := by decide +kernel
theorem dM_isDigit_12 : decode bM_isDigit 12 = .ok (.iconst 1, 1) := by decide +kernel
theorem dM_isDigit_13 : decode bM_isDigit 13 = .ok (.goto 4, 3) := by decide +kernel
theorem dM_isDigit_16 : decode bM_isDigit 16 = .ok (.iconst 0, 1) := by decide +kernel
theorem dM_isDigit_17 : decode bM_isDigit 17 = .ok (.ireturn, 1) := by decide +kernel
theorem dM_variableOf_0 : decode bM_variableOf 0 = .ok (.iload_n 0, 1) := by decide +kernel
theorem dM_variableOf_1 : decode bM_variableOf 1 = .ok (.bipush 105, 2) := by decide +kernel
theorem dM_variableOf_3 : decode bM_variableOf 3 = .ok (.if_icmp .lt 16, 3) := by decide +kernel
theorem dM_variableOf_6 : decode bM_variableOf 6 = .ok (.iload_n 0, 1) := by decide +kernel
theorem dM_variableOf_7 : decode bM_variableOf 7 = .ok (.bipush 107, 2) := by decide +kernel
theorem dM_variableOf_9 : decode bM_variableOf 9 = .ok (.if_icmp .gt 10, 3) := by decide +kernel
theorem dM_variableOf_12 : decode bM_variableOf 12 = .ok (.iload_n 0, 1) := by decide +kernel
theorem dM_variableOf_13 : decode bM_variableOf 13 = .ok (.bipush 105, 2) := by decide +kernel
theorem dM_variableOf_15 : decode bM_variableOf 15 = .ok (.isub, 1) := by decide +kernel
theorem dM_variableOf_16 : decode bM_variableOf 16 = .ok (.goto 25, 3) := by decide +kernel
theorem dM_variableOf_19 : decode bM_variableOf 19 = .ok (.iload_n 0, 1) := by decide +kernel
theorem dM_variableOf_20 : decode bM_variableOf 20 = .ok (.bipush 88, 2) := by decide +kernel
theorem dM_variableOf_22 : decode bM_variableOf 22 = .ok (.if_icmp .lt 18, 3) := by decide +kernel
theorem dM_variableOf_25 : decode bM_variableOf 25 = .ok (.iload_n 0, 1) := by decide +kernel
theorem dM_variableOf_26 : decode bM_variableOf 26 = .ok (.bipush 90, 2) := by decide +kernel
theorem dM_variableOf_28 : decode bM_variableOf 28 = .ok (.if_icmp .gt 12, 3) := by decide +kernel
theorem dM_variableOf_31 : decode bM_variableOf 31 = .ok (.iload_n 0, 1) := by decide +kernel
theorem dM_variableOf_32 : decode bM_variableOf 32 = .ok (.bipush 88, 2) := by decide +kernel
theorem dM_variableOf_34 : decode bM_variableOf 34 = .ok (.isub, 1) := by decide +kernel
theorem dM_variableOf_35 : decode bM_variableOf 35 = .ok (.iconst 3, 1) := by decide +kernel
theorem dM_variableOf_36 : decode bM_variableOf 36 = .ok (.iadd, 1) := by decide +kernel
theorem dM_variableOf_37 : decode bM_variableOf 37 = .ok (.goto 4, 3) := by decide +kernel
theorem dM_variableOf_40 : decode bM_variableOf 40 = .ok (.iconst (-1), 1) := by decide +kernel
theorem dM_variableOf_41 : decode bM_variableOf 41 = .ok (.ireturn, 1) := by decide +kernel
theorem dM_emit_0 : decode bM_emit 0 = .ok (.aload_n 0, 1) := by decide +kernel
theorem dM_emit_1 : decode bM_emit 1 = .ok (.getfield 27, 3) := by decide +kernel
theorem dM_emit_4 : decode bM_emit 4 = .ok (.aload_n 0, 1) := by decide +kernel
theorem dM_emit_5 : decode bM_emit 5 = .ok (.getfield 69, 3) := by decide +kernel
theorem dM_emit_8 : decode bM_emit 8 = .ok (.iload_n 1, 1) := by decide +kernel
theorem dM_emit_9 : decode bM_emit 9 = .ok (.iastore, 1) := by decide +kernel
theorem dM_emit_10 : decode bM_emit 10 = .ok (.aload_n 0, 1) := by decide +kernel
theorem dM_emit_11 : decode bM_emit 11 = .ok (.getfield 30, 3) := by decide +kernel
theorem dM_emit_14 : decode bM_emit 14 = .ok (.aload_n 0, 1) := by decide +kernel
theorem dM_emit_15 : decode bM_emit 15 = .ok (.getfield 69, 3) := by decide +kernel
theorem dM_emit_18 : decode bM_emit 18 = .ok (.iload_n 2, 1) := by decide +kernel
theorem dM_emit_19 : decode bM_emit 19 = .ok (.iastore, 1) := by decide +kernel
theorem dM_emit_20 : decode bM_emit 20 = .ok (.aload_n 0, 1) := by decide +kernel
theorem dM_emit_21 : decode bM_emit 21 = .ok (.dup, 1) := by decide +kernel
theorem dM_emit_22 : decode bM_emit 22 = .ok (.getfield 69, 3) := by decide +kernel
theorem dM_emit_25 : decode bM_emit 25 = .ok (.iconst 1, 1) := by decide +kernel
theorem dM_emit_26 : decode bM_emit 26 = .ok (.iadd, 1) := by decide +kernel
theorem dM_emit_27 : decode bM_emit 27 = .ok (.putfield 69, 3) := by decide +kernel
theorem dM_emit_30 : decode bM_emit 30 = .ok (.return_, 1) := by decide +kernel
theorem dM_settle_0 : decode bM_settle 0 = .ok (.aload_n 0, 1) := by decide +kernel
theorem dM_settle_1 : decode bM_settle 1 = .ok (.invokevirtual 82, 3) := by decide +kernel
theorem dM_settle_4 : decode bM_settle 4 = .ok (.iload_n 1, 1) := by decide +kernel
theorem dM_settle_5 : decode bM_settle 5 = .ok (.if_icmp .eq 11, 3) := by decide +kernel
theorem dM_settle_8 : decode bM_settle 8 = .ok (.aload_n 0, 1) := by decide +kernel
theorem dM_settle_9 : decode bM_settle 9 = .ok (.invokevirtual 82, 3) := by decide +kernel
theorem dM_settle_12 : decode bM_settle 12 = .ok (.iload_n 2, 1) := by decide +kernel
theorem dM_settle_13 : decode bM_settle 13 = .ok (.if_icmp .ne 30, 3) := by decide +kernel
theorem dM_settle_16 : decode bM_settle 16 = .ok (.aload_n 0, 1) := by decide +kernel
theorem dM_settle_17 : decode bM_settle 17 = .ok (.dup, 1) := by decide +kernel
theorem dM_settle_18 : decode bM_settle 18 = .ok (.getfield 72, 3) := by decide +kernel
theorem dM_settle_21 : decode bM_settle 21 = .ok (.iconst 1, 1) := by decide +kernel
theorem dM_settle_22 : decode bM_settle 22 = .ok (.isub, 1) := by decide +kernel
theorem dM_settle_23 : decode bM_settle 23 = .ok (.putfield 72, 3) := by decide +kernel
theorem dM_settle_26 : decode bM_settle 26 = .ok (.aload_n 0, 1) := by decide +kernel
theorem dM_settle_27 : decode bM_settle 27 = .ok (.aload_n 0, 1) := by decide +kernel
theorem dM_settle_28 : decode bM_settle 28 = .ok (.getfield 39, 3) := by decide +kernel
theorem dM_settle_31 : decode bM_settle 31 = .ok (.aload_n 0, 1) := by decide +kernel
theorem dM_settle_32 : decode bM_settle 32 = .ok (.getfield 72, 3) := by decide +kernel
theorem dM_settle_35 : decode bM_settle 35 = .ok (.iaload, 1) := by decide +kernel
theorem dM_settle_36 : decode bM_settle 36 = .ok (.iconst 0, 1) := by decide +kernel
theorem dM_settle_37 : decode bM_settle 37 = .ok (.invokevirtual 86, 3) := by decide +kernel
theorem dM_settle_40 : decode bM_settle 40 = .ok (.goto (-40), 3) := by decide +kernel
theorem dM_settle_43 : decode bM_settle 43 = .ok (.return_, 1) := by decide +kernel
theorem dM_upper_0 : decode bM_upper 0 = .ok (.aload_n 0, 1) := by decide +kernel
theorem dM_upper_1 : decode bM_upper 1 = .ok (.getfield 72, 3) := by decide +kernel
theorem dM_upper_4 : decode bM_upper 4 = .ok (.ifCond .ne 7, 3) := by decide +kernel
theorem dM_upper_7 : decode bM_upper 7 = .ok (.iconst 0, 1) := by decide +kernel
theorem dM_upper_8 : decode bM_upper 8 = .ok (.goto 14, 3) := by decide +kernel
theorem dM_upper_11 : decode bM_upper 11 = .ok (.aload_n 0, 1) := by decide +kernel
theorem dM_upper_12 : decode bM_upper 12 = .ok (.getfield 39, 3) := by decide +kernel
theorem dM_upper_15 : decode bM_upper 15 = .ok (.aload_n 0, 1) := by decide +kernel
theorem dM_upper_16 : decode bM_upper 16 = .ok (.getfield 72, 3) := by decide +kernel
theorem dM_upper_19 : decode bM_upper 19 = .ok (.iconst 1, 1) := by decide +kernel
theorem dM_upper_20 : decode bM_upper 20 = .ok (.isub, 1) := by decide +kernel
theorem dM_upper_21 : decode bM_upper 21 = .ok (.iaload, 1) := by decide +kernel
theorem dM_upper_22 : decode bM_upper 22 = .ok (.ireturn, 1) := by decide +kernel
theorem dM_close_0 : decode bM_close 0 = .ok (.aload_n 0, 1) := by decide +kernel
theorem dM_close_1 : decode bM_close 1 = .ok (.dup, 1) := by decide +kernel
theorem dM_close_2 : decode bM_close 2 = .ok (.getfield 72, 3) := by decide +kernel
theorem dM_close_5 : decode bM_close 5 = .ok (.iconst 1, 1) := by decide +kernel
theorem dM_close_6 : decode bM_close 6 = .ok (.isub, 1) := by decide +kernel
theorem dM_close_7 : decode bM_close 7 = .ok (.putfield 72, 3) := by decide +kernel
theorem dM_close_10 : decode bM_close 10 = .ok (.aload_n 0, 1) := by decide +kernel
theorem dM_close_11 : decode bM_close 11 = .ok (.dup, 1) := by decide +kernel
theorem dM_close_12 : decode bM_close 12 = .ok (.getfield 75, 3) := by decide +kernel
theorem dM_close_15 : decode bM_close 15 = .ok (.iconst 1, 1) := by decide +kernel
theorem dM_close_16 : decode bM_close 16 = .ok (.isub, 1) := by decide +kernel
theorem dM_close_17 : decode bM_close 17 = .ok (.putfield 75, 3) := by decide +kernel
theorem dM_close_20 : decode bM_close 20 = .ok (.return_, 1) := by decide +kernel
section
variable {p : Program} {l : Launch} {e : Env} {R : Room} {s : State} {m : MethodId} {args : Array Value} {below : List Frame} {meth : Method} {c : Code} {G : Gx} {M0 M' : Mem} {r : Option Value ⊕ Nat} {d : Nat} {C : Cx}

def fM_init_0 (n d : Nat) (C : Cx) (a0 : Nat) (M : Mem) : Rz := if ¬ (120 : Int32) < 0 then (if (120 : Int32).toNatClampNeg ≤ 1000 then (if mS M + 1 ≤ mC M 0 then (if mU M + (120 : Int32).toNatClampNeg ≤ SLm then (rzM (newC M 22 ((120 : Int32).toNatClampNeg) ((120 : Int32).toNatClampNeg)) fun M_5 => (if mK M_5 a0 = 5 then (rzM (setP M_5 a0 2 (some (mS M))) fun M_9 => (if ¬ (260 : Int32) < 0 then (if (260 : Int32).toNatClampNeg ≤ 1000 then (if mS M_9 + 1 ≤ mC M_9 0 then (if mU M_9 + (260 : Int32).toNatClampNeg ≤ SLm then (rzM (newC M_9 21 ((260 : Int32).toNatClampNeg) ((260 : Int32).toNatClampNeg)) fun M_17 => (rzM (setP M_17 a0 6 (some (mS M_9))) fun M_22 => (if ¬ (260 : Int32) < 0 then (if (260 : Int32).toNatClampNeg ≤ 1000 then (if mS M_22 + 1 ≤ mC M_22 0 then (if mU M_22 + (260 : Int32).toNatClampNeg ≤ SLm then (rzM (newC M_22 21 ((260 : Int32).toNatClampNeg) ((260 : Int32).toNatClampNeg)) fun M_31 => (rzM (setP M_31 a0 7 (some (mS M_22))) fun M_37 => (if ¬ (4 : Int32) < 0 then (if (4 : Int32).toNatClampNeg ≤ 1000 then (if mS M_37 + 1 ≤ mC M_37 0 then (if mU M_37 + (4 : Int32).toNatClampNeg ≤ SLm then (rzM (newC M_37 23 ((4 : Int32).toNatClampNeg) ((4 : Int32).toNatClampNeg)) fun M_47 => (rzM (setP M_47 a0 8 (some (mS M_37))) fun M_54 => (if ¬ (4 : Int32) < 0 then (if (4 : Int32).toNatClampNeg ≤ 1000 then (if mS M_54 + 1 ≤ mC M_54 0 then (if mU M_54 + (4 : Int32).toNatClampNeg ≤ SLm then (rzM (newC M_54 23 ((4 : Int32).toNatClampNeg) ((4 : Int32).toNatClampNeg)) fun M_65 => (rzM (setP M_65 a0 9 (some (mS M_54))) fun M_73 => (if ¬ (260 : Int32) < 0 then (if (260 : Int32).toNatClampNeg ≤ 1000 then (if mS M_73 + 1 ≤ mC M_73 0 then (if mU M_73 + (260 : Int32).toNatClampNeg ≤ SLm then (rzM (newC M_73 21 ((260 : Int32).toNatClampNeg) ((260 : Int32).toNatClampNeg)) fun M_85 => (rzM (setP M_85 a0 14 (some (mS M_73))) fun M_94 => (if ¬ (260 : Int32) < 0 then (if (260 : Int32).toNatClampNeg ≤ 1000 then (if mS M_94 + 1 ≤ mC M_94 0 then (if mU M_94 + (260 : Int32).toNatClampNeg ≤ SLm then (rzM (newC M_94 21 ((260 : Int32).toNatClampNeg) ((260 : Int32).toNatClampNeg)) fun M_107 => (rzM (setP M_107 a0 15 (some (mS M_94))) fun M_117 => (if ¬ (4 : Int32) < 0 then (if (4 : Int32).toNatClampNeg ≤ 1000 then (if mS M_117 + 1 ≤ mC M_117 0 then (if mU M_117 + (4 : Int32).toNatClampNeg ≤ SLm then (rzM (newC M_117 23 ((4 : Int32).toNatClampNeg) ((4 : Int32).toNatClampNeg)) fun M_131 => (rzM (setP M_131 a0 16 (some (mS M_117))) fun M_142 => (if ¬ (4 : Int32) < 0 then (if (4 : Int32).toNatClampNeg ≤ 1000 then (if mS M_142 + 1 ≤ mC M_142 0 then (if mU M_142 + (4 : Int32).toNatClampNeg ≤ SLm then (rzM (newC M_142 23 ((4 : Int32).toNatClampNeg) ((4 : Int32).toNatClampNeg)) fun M_157 => (rzM (setP M_157 a0 17 (some (mS M_142))) fun M_169 => (if ¬ (140 : Int32) < 0 then (if (140 : Int32).toNatClampNeg ≤ 1000 then (if mS M_169 + 1 ≤ mC M_169 0 then (if mU M_169 + (140 : Int32).toNatClampNeg ≤ SLm then (rzM (newC M_169 21 ((140 : Int32).toNatClampNeg) ((140 : Int32).toNatClampNeg)) fun M_185 => (rzM (setP M_185 a0 20 (some (mS M_169))) fun M_198 => (if ¬ (140 : Int32) < 0 then (if (140 : Int32).toNatClampNeg ≤ 1000 then (if mS M_198 + 1 ≤ mC M_198 0 then (if mU M_198 + (140 : Int32).toNatClampNeg ≤ SLm then (rzM (newC M_198 21 ((140 : Int32).toNatClampNeg) ((140 : Int32).toNatClampNeg)) fun M_215 => (rzM (setP M_215 a0 21 (some (mS M_198))) fun M_229 => (if ¬ (140 : Int32) < 0 then (if (140 : Int32).toNatClampNeg ≤ 1000 then (if mS M_229 + 1 ≤ mC M_229 0 then (if mU M_229 + (140 : Int32).toNatClampNeg ≤ SLm then (rzM (newC M_229 21 ((140 : Int32).toNatClampNeg) ((140 : Int32).toNatClampNeg)) fun M_247 => (rzM (setP M_247 a0 22 (some (mS M_229))) fun M_262 => (if ¬ (6 : Int32) < 0 then (if (6 : Int32).toNatClampNeg ≤ 1000 then (if mS M_262 + 1 ≤ mC M_262 0 then (if mU M_262 + (6 : Int32).toNatClampNeg ≤ SLm then (rzM (newC M_262 21 ((6 : Int32).toNatClampNeg) ((6 : Int32).toNatClampNeg)) fun M_281 => (rzM (setP M_281 a0 23 (some (mS M_262))) fun M_297 => (if ¬ (4 : Int32) < 0 then (if (4 : Int32).toNatClampNeg ≤ 1000 then (if mS M_297 + 1 ≤ mC M_297 0 then (if mU M_297 + (4 : Int32).toNatClampNeg ≤ SLm then (rzM (newC M_297 21 ((4 : Int32).toNatClampNeg) ((4 : Int32).toNatClampNeg)) fun M_317 => (rzM (setP M_317 a0 36 (some (mS M_297))) fun M_334 => (if ¬ (4 : Int32) < 0 then (if (4 : Int32).toNatClampNeg ≤ 1000 then (if mS M_334 + 1 ≤ mC M_334 0 then (if mU M_334 + (4 : Int32).toNatClampNeg ≤ SLm then (rzM (newC M_334 21 ((4 : Int32).toNatClampNeg) ((4 : Int32).toNatClampNeg)) fun M_355 => (rzM (setP M_355 a0 37 (some (mS M_334))) fun M_373 => (if ¬ (260 : Int32) < 0 then (if (260 : Int32).toNatClampNeg ≤ 1000 then (if mS M_373 + 1 ≤ mC M_373 0 then (if mU M_373 + (260 : Int32).toNatClampNeg ≤ SLm then (rzM (newC M_373 21 ((260 : Int32).toNatClampNeg) ((260 : Int32).toNatClampNeg)) fun M_395 => (rzM (setP M_395 a0 39 (some (mS M_373))) fun M_414 => (some (.inl none, M_414)))) else none) else none) else none) else none))) else none) else none) else none) else none))) else none) else none) else none) else none))) else none) else none) else none) else none))) else none) else none) else none) else none))) else none) else none) else none) else none))) else none) else none) else none) else none))) else none) else none) else none) else none))) else none) else none) else none) else none))) else none) else none) else none) else none))) else none) else none) else none) else none))) else none) else none) else none) else none))) else none) else none) else none) else none))) else none) else none) else none) else none))) else none) else none) else none) else none)) else none)) else none) else none) else none) else none
set_option maxRecDepth 100000 in
set_option maxHeartbeats 4000000 in
theorem tM_init_0 {n : Nat} (F : FX p s m meth c G R M0 d "HeadCountModel" bM_init 1 none) (hin : meth.name = "<init>") (hC : CBs l G d C) : ∀ (a0 : Nat) (M : Mem) (H : Heap) (locs : List Loc) (cells slots : Nat) (ls : Array Slot), fM_init_0 n d C a0 M = some (r, M') → RL G M0 M H locs cells slots → lv_has ls 1 [(0, .ref a0)] → W p l e R s m args below meth c H locs cells slots (CQ G below s M0 r M') (F0 m 0 ls []) := by
  obtain ⟨hx, hb, hml, hown, hrt, hlk, hex, hK, hRm⟩ := id F
  intro a0 M H locs cells slots ls h hR hl
  unfold fM_init_0 at h
  refine lv_aload_n hx hb dM_init_0 rfl (lv_at hl 0 rfl) ?_
  refine W.objInit hx hb hown (hK.w kl_M_1 rfl args) (hK.w oi1 rfl args) (hK.w oi2 rfl args) rfl (hl.1.trans hml.symm) rfl dM_init_1 (Nat.le_trans (Nat.le_add_left 1 d) hRm.1) (by have := hRm.2.1; simp [cat_rf, Value.category]; omega) ?_
  refine lv_aload_n hx hb dM_init_4 rfl (lv_at hl 0 rfl) ?_
  refine lv_bipush (v := 120) hx hb dM_init_5 (by decide) ?_
  obtain ⟨c_1, h⟩ := rz_chk h
  obtain ⟨c_2, h⟩ := rz_chk h
  obtain ⟨c_3, h⟩ := rz_chk h
  obtain ⟨c_4, h⟩ := rz_chk h
  obtain ⟨M_5, q_6, h⟩ := rz_m h
  have hR0 := hR
  refine rg_newa (kd := 22) (atype := .char) (ty := .char) hx hb hK hR hRm rfl (by decide) ka_char c_1 c_2 c_3 c_4 dM_init_7 (fun H hR => ?_)
  rw [← q_6] at hR
  have c_7 : mK M_5 (mS M) = 22 := by rw [q_6, mK_newC, va_up_self]
  obtain ⟨c_8, h⟩ := rz_chk h
  obtain ⟨M_9, q_10, h⟩ := rz_m h
  refine rg_putF (r := some (mS M)) hx hb hown hK hR hk_M 2 (by decide) kf_M_7 rfl hin rfl rfl (ty := .array .char) (by decide +kernel) (Or.inr ⟨_, rfl⟩) c_8 dM_init_9 (fun H locs hR => ?_)
  rw [← q_10] at hR
  have c_11 : mK M_9 (mS M) = 22 := by rw [q_10]; exact c_7
  have c_12 : mK M_9 a0 = 5 := by rw [q_10]; exact c_8
  refine lv_aload_n hx hb dM_init_12 rfl (lv_at hl 0 rfl) ?_
  refine lv_sipush (v := 260) hx hb dM_init_13 (by decide) ?_
  obtain ⟨c_13, h⟩ := rz_chk h
  obtain ⟨c_14, h⟩ := rz_chk h
  obtain ⟨c_15, h⟩ := rz_chk h
  obtain ⟨c_16, h⟩ := rz_chk h
  obtain ⟨M_17, q_18, h⟩ := rz_m h
  have hR0 := hR
  refine rg_newa (kd := 21) (atype := .int) (ty := .int) hx hb hK hR hRm rfl (by decide) ka_int c_13 c_14 c_15 c_16 dM_init_16 (fun H hR => ?_)
  rw [← q_18] at hR
  have c_19 : mK M_17 (mS M) = 22 := by rw [q_18]; exact kn_keep hR0 c_11 (by decide)
  have c_20 : mK M_17 a0 = 5 := by rw [q_18]; exact kn_keep hR0 c_12 (by decide)
  have c_21 : mK M_17 (mS M_9) = 21 := by rw [q_18, mK_newC, va_up_self]
  obtain ⟨M_22, q_23, h⟩ := rz_m h
  refine rg_putF (r := some (mS M_9)) hx hb hown hK hR hk_M 6 (by decide) kf_M_13 rfl hin rfl rfl (ty := .array .int) (by decide +kernel) (Or.inr ⟨_, rfl⟩) c_20 dM_init_18 (fun H locs hR => ?_)
  rw [← q_23] at hR
  have c_24 : mK M_22 (mS M) = 22 := by rw [q_23]; exact c_19
  have c_25 : mK M_22 a0 = 5 := by rw [q_23]; exact c_20
  have c_26 : mK M_22 (mS M_9) = 21 := by rw [q_23]; exact c_21
  refine lv_aload_n hx hb dM_init_21 rfl (lv_at hl 0 rfl) ?_
  refine lv_sipush (v := 260) hx hb dM_init_22 (by decide) ?_
  obtain ⟨c_27, h⟩ := rz_chk h
  obtain ⟨c_28, h⟩ := rz_chk h
  obtain ⟨c_29, h⟩ := rz_chk h
  obtain ⟨c_30, h⟩ := rz_chk h
  obtain ⟨M_31, q_32, h⟩ := rz_m h
  have hR0 := hR
  refine rg_newa (kd := 21) (atype := .int) (ty := .int) hx hb hK hR hRm rfl (by decide) ka_int c_27 c_28 c_29 c_30 dM_init_25 (fun H hR => ?_)
  rw [← q_32] at hR
  have c_33 : mK M_31 (mS M) = 22 := by rw [q_32]; exact kn_keep hR0 c_24 (by decide)
  have c_34 : mK M_31 a0 = 5 := by rw [q_32]; exact kn_keep hR0 c_25 (by decide)
  have c_35 : mK M_31 (mS M_9) = 21 := by rw [q_32]; exact kn_keep hR0 c_26 (by decide)
  have c_36 : mK M_31 (mS M_22) = 21 := by rw [q_32, mK_newC, va_up_self]
  obtain ⟨M_37, q_38, h⟩ := rz_m h
  refine rg_putF (r := some (mS M_22)) hx hb hown hK hR hk_M 7 (by decide) kf_M_17 rfl hin rfl rfl (ty := .array .int) (by decide +kernel) (Or.inr ⟨_, rfl⟩) c_34 dM_init_27 (fun H locs hR => ?_)
  rw [← q_38] at hR
  have c_39 : mK M_37 (mS M) = 22 := by rw [q_38]; exact c_33
  have c_40 : mK M_37 a0 = 5 := by rw [q_38]; exact c_34
  have c_41 : mK M_37 (mS M_9) = 21 := by rw [q_38]; exact c_35
  have c_42 : mK M_37 (mS M_22) = 21 := by rw [q_38]; exact c_36
  refine lv_aload_n hx hb dM_init_30 rfl (lv_at hl 0 rfl) ?_
  refine lv_iconst (v := 4) hx hb dM_init_31 (by decide) ?_
  obtain ⟨c_43, h⟩ := rz_chk h
  obtain ⟨c_44, h⟩ := rz_chk h
  obtain ⟨c_45, h⟩ := rz_chk h
  obtain ⟨c_46, h⟩ := rz_chk h
  obtain ⟨M_47, q_48, h⟩ := rz_m h
  have hR0 := hR
  refine rg_newa (kd := 23) (atype := .boolean) (ty := .boolean) hx hb hK hR hRm rfl (by decide) ka_boolean c_43 c_44 c_45 c_46 dM_init_32 (fun H hR => ?_)
  rw [← q_48] at hR
  have c_49 : mK M_47 (mS M) = 22 := by rw [q_48]; exact kn_keep hR0 c_39 (by decide)
  have c_50 : mK M_47 a0 = 5 := by rw [q_48]; exact kn_keep hR0 c_40 (by decide)
  have c_51 : mK M_47 (mS M_9) = 21 := by rw [q_48]; exact kn_keep hR0 c_41 (by decide)
  have c_52 : mK M_47 (mS M_22) = 21 := by rw [q_48]; exact kn_keep hR0 c_42 (by decide)
  have c_53 : mK M_47 (mS M_37) = 23 := by rw [q_48, mK_newC, va_up_self]
  obtain ⟨M_54, q_55, h⟩ := rz_m h
  refine rg_putF (r := some (mS M_37)) hx hb hown hK hR hk_M 8 (by decide) kf_M_20 rfl hin rfl rfl (ty := .array .boolean) (by decide +kernel) (Or.inr ⟨_, rfl⟩) c_50 dM_init_34 (fun H locs hR => ?_)
  rw [← q_55] at hR
  have c_56 : mK M_54 (mS M) = 22 := by rw [q_55]; exact c_49
  have c_57 : mK M_54 a0 = 5 := by rw [q_55]; exact c_50
  have c_58 : mK M_54 (mS M_9) = 21 := by rw [q_55]; exact c_51
  have c_59 : mK M_54 (mS M_22) = 21 := by rw [q_55]; exact c_52
  have c_60 : mK M_54 (mS M_37) = 23 := by rw [q_55]; exact c_53
  refine lv_aload_n hx hb dM_init_37 rfl (lv_at hl 0 rfl) ?_
  refine lv_iconst (v := 4) hx hb dM_init_38 (by decide) ?_
  obtain ⟨c_61, h⟩ := rz_chk h
  obtain ⟨c_62, h⟩ := rz_chk h
  obtain ⟨c_63, h⟩ := rz_chk h
  obtain ⟨c_64, h⟩ := rz_chk h
  obtain ⟨M_65, q_66, h⟩ := rz_m h
  have hR0 := hR
  refine rg_newa (kd := 23) (atype := .boolean) (ty := .boolean) hx hb hK hR hRm rfl (by decide) ka_boolean c_61 c_62 c_63 c_64 dM_init_39 (fun H hR => ?_)
  rw [← q_66] at hR
  have c_67 : mK M_65 (mS M) = 22 := by rw [q_66]; exact kn_keep hR0 c_56 (by decide)
  have c_68 : mK M_65 a0 = 5 := by rw [q_66]; exact kn_keep hR0 c_57 (by decide)
  have c_69 : mK M_65 (mS M_9) = 21 := by rw [q_66]; exact kn_keep hR0 c_58 (by decide)
  have c_70 : mK M_65 (mS M_22) = 21 := by rw [q_66]; exact kn_keep hR0 c_59 (by decide)
  have c_71 : mK M_65 (mS M_37) = 23 := by rw [q_66]; exact kn_keep hR0 c_60 (by decide)
  have c_72 : mK M_65 (mS M_54) = 23 := by rw [q_66, mK_newC, va_up_self]
  obtain ⟨M_73, q_74, h⟩ := rz_m h
  refine rg_putF (r := some (mS M_54)) hx hb hown hK hR hk_M 9 (by decide) kf_M_24 rfl hin rfl rfl (ty := .array .boolean) (by decide +kernel) (Or.inr ⟨_, rfl⟩) c_68 dM_init_41 (fun H locs hR => ?_)
  rw [← q_74] at hR
  have c_75 : mK M_73 (mS M) = 22 := by rw [q_74]; exact c_67
  have c_76 : mK M_73 a0 = 5 := by rw [q_74]; exact c_68
  have c_77 : mK M_73 (mS M_9) = 21 := by rw [q_74]; exact c_69
  have c_78 : mK M_73 (mS M_22) = 21 := by rw [q_74]; exact c_70
  have c_79 : mK M_73 (mS M_37) = 23 := by rw [q_74]; exact c_71
  have c_80 : mK M_73 (mS M_54) = 23 := by rw [q_74]; exact c_72
  refine lv_aload_n hx hb dM_init_44 rfl (lv_at hl 0 rfl) ?_
  refine lv_sipush (v := 260) hx hb dM_init_45 (by decide) ?_
  obtain ⟨c_81, h⟩ := rz_chk h
  obtain ⟨c_82, h⟩ := rz_chk h
  obtain ⟨c_83, h⟩ := rz_chk h
  obtain ⟨c_84, h⟩ := rz_chk h
  obtain ⟨M_85, q_86, h⟩ := rz_m h
  have hR0 := hR
  refine rg_newa (kd := 21) (atype := .int) (ty := .int) hx hb hK hR hRm rfl (by decide) ka_int c_81 c_82 c_83 c_84 dM_init_48 (fun H hR => ?_)
  rw [← q_86] at hR
  have c_87 : mK M_85 (mS M) = 22 := by rw [q_86]; exact kn_keep hR0 c_75 (by decide)
  have c_88 : mK M_85 a0 = 5 := by rw [q_86]; exact kn_keep hR0 c_76 (by decide)
  have c_89 : mK M_85 (mS M_9) = 21 := by rw [q_86]; exact kn_keep hR0 c_77 (by decide)
  have c_90 : mK M_85 (mS M_22) = 21 := by rw [q_86]; exact kn_keep hR0 c_78 (by decide)
  have c_91 : mK M_85 (mS M_37) = 23 := by rw [q_86]; exact kn_keep hR0 c_79 (by decide)
  have c_92 : mK M_85 (mS M_54) = 23 := by rw [q_86]; exact kn_keep hR0 c_80 (by decide)
  have c_93 : mK M_85 (mS M_73) = 21 := by rw [q_86, mK_newC, va_up_self]
  obtain ⟨M_94, q_95, h⟩ := rz_m h
  refine rg_putF (r := some (mS M_73)) hx hb hown hK hR hk_M 14 (by decide) kf_M_27 rfl hin rfl rfl (ty := .array .int) (by decide +kernel) (Or.inr ⟨_, rfl⟩) c_88 dM_init_50 (fun H locs hR => ?_)
  rw [← q_95] at hR
  have c_96 : mK M_94 (mS M) = 22 := by rw [q_95]; exact c_87
  have c_97 : mK M_94 a0 = 5 := by rw [q_95]; exact c_88
  have c_98 : mK M_94 (mS M_9) = 21 := by rw [q_95]; exact c_89
  have c_99 : mK M_94 (mS M_22) = 21 := by rw [q_95]; exact c_90
  have c_100 : mK M_94 (mS M_37) = 23 := by rw [q_95]; exact c_91
  have c_101 : mK M_94 (mS M_54) = 23 := by rw [q_95]; exact c_92
  have c_102 : mK M_94 (mS M_73) = 21 := by rw [q_95]; exact c_93
  refine lv_aload_n hx hb dM_init_53 rfl (lv_at hl 0 rfl) ?_
  refine lv_sipush (v := 260) hx hb dM_init_54 (by decide) ?_
  obtain ⟨c_103, h⟩ := rz_chk h
  obtain ⟨c_104, h⟩ := rz_chk h
  obtain ⟨c_105, h⟩ := rz_chk h
  obtain ⟨c_106, h⟩ := rz_chk h
  obtain ⟨M_107, q_108, h⟩ := rz_m h
  have hR0 := hR
  refine rg_newa (kd := 21) (atype := .int) (ty := .int) hx hb hK hR hRm rfl (by decide) ka_int c_103 c_104 c_105 c_106 dM_init_57 (fun H hR => ?_)
  rw [← q_108] at hR
  have c_109 : mK M_107 (mS M) = 22 := by rw [q_108]; exact kn_keep hR0 c_96 (by decide)
  have c_110 : mK M_107 a0 = 5 := by rw [q_108]; exact kn_keep hR0 c_97 (by decide)
  have c_111 : mK M_107 (mS M_9) = 21 := by rw [q_108]; exact kn_keep hR0 c_98 (by decide)
  have c_112 : mK M_107 (mS M_22) = 21 := by rw [q_108]; exact kn_keep hR0 c_99 (by decide)
  have c_113 : mK M_107 (mS M_37) = 23 := by rw [q_108]; exact kn_keep hR0 c_100 (by decide)
  have c_114 : mK M_107 (mS M_54) = 23 := by rw [q_108]; exact kn_keep hR0 c_101 (by decide)
  have c_115 : mK M_107 (mS M_73) = 21 := by rw [q_108]; exact kn_keep hR0 c_102 (by decide)
  have c_116 : mK M_107 (mS M_94) = 21 := by rw [q_108, mK_newC, va_up_self]
  obtain ⟨M_117, q_118, h⟩ := rz_m h
  refine rg_putF (r := some (mS M_94)) hx hb hown hK hR hk_M 15 (by decide) kf_M_30 rfl hin rfl rfl (ty := .array .int) (by decide +kernel) (Or.inr ⟨_, rfl⟩) c_110 dM_init_59 (fun H locs hR => ?_)
  rw [← q_118] at hR
  have c_119 : mK M_117 (mS M) = 22 := by rw [q_118]; exact c_109
  have c_120 : mK M_117 a0 = 5 := by rw [q_118]; exact c_110
  have c_121 : mK M_117 (mS M_9) = 21 := by rw [q_118]; exact c_111
  have c_122 : mK M_117 (mS M_22) = 21 := by rw [q_118]; exact c_112
  have c_123 : mK M_117 (mS M_37) = 23 := by rw [q_118]; exact c_113
  have c_124 : mK M_117 (mS M_54) = 23 := by rw [q_118]; exact c_114
  have c_125 : mK M_117 (mS M_73) = 21 := by rw [q_118]; exact c_115
  have c_126 : mK M_117 (mS M_94) = 21 := by rw [q_118]; exact c_116
  refine lv_aload_n hx hb dM_init_62 rfl (lv_at hl 0 rfl) ?_
  refine lv_iconst (v := 4) hx hb dM_init_63 (by decide) ?_
  obtain ⟨c_127, h⟩ := rz_chk h
  obtain ⟨c_128, h⟩ := rz_chk h
  obtain ⟨c_129, h⟩ := rz_chk h
  obtain ⟨c_130, h⟩ := rz_chk h
  obtain ⟨M_131, q_132, h⟩ := rz_m h
  have hR0 := hR
  refine rg_newa (kd := 23) (atype := .boolean) (ty := .boolean) hx hb hK hR hRm rfl (by decide) ka_boolean c_127 c_128 c_129 c_130 dM_init_64 (fun H hR => ?_)
  rw [← q_132] at hR
  have c_133 : mK M_131 (mS M) = 22 := by rw [q_132]; exact kn_keep hR0 c_119 (by decide)
  have c_134 : mK M_131 a0 = 5 := by rw [q_132]; exact kn_keep hR0 c_120 (by decide)
  have c_135 : mK M_131 (mS M_9) = 21 := by rw [q_132]; exact kn_keep hR0 c_121 (by decide)
  have c_136 : mK M_131 (mS M_22) = 21 := by rw [q_132]; exact kn_keep hR0 c_122 (by decide)
  have c_137 : mK M_131 (mS M_37) = 23 := by rw [q_132]; exact kn_keep hR0 c_123 (by decide)
  have c_138 : mK M_131 (mS M_54) = 23 := by rw [q_132]; exact kn_keep hR0 c_124 (by decide)
  have c_139 : mK M_131 (mS M_73) = 21 := by rw [q_132]; exact kn_keep hR0 c_125 (by decide)
  have c_140 : mK M_131 (mS M_94) = 21 := by rw [q_132]; exact kn_keep hR0 c_126 (by decide)
  have c_141 : mK M_131 (mS M_117) = 23 := by rw [q_132, mK_newC, va_up_self]
  obtain ⟨M_142, q_143, h⟩ := rz_m h
  refine rg_putF (r := some (mS M_117)) hx hb hown hK hR hk_M 16 (by decide) kf_M_33 rfl hin rfl rfl (ty := .array .boolean) (by decide +kernel) (Or.inr ⟨_, rfl⟩) c_134 dM_init_66 (fun H locs hR => ?_)
  rw [← q_143] at hR
  have c_144 : mK M_142 (mS M) = 22 := by rw [q_143]; exact c_133
  have c_145 : mK M_142 a0 = 5 := by rw [q_143]; exact c_134
  have c_146 : mK M_142 (mS M_9) = 21 := by rw [q_143]; exact c_135
  have c_147 : mK M_142 (mS M_22) = 21 := by rw [q_143]; exact c_136
  have c_148 : mK M_142 (mS M_37) = 23 := by rw [q_143]; exact c_137
  have c_149 : mK M_142 (mS M_54) = 23 := by rw [q_143]; exact c_138
  have c_150 : mK M_142 (mS M_73) = 21 := by rw [q_143]; exact c_139
  have c_151 : mK M_142 (mS M_94) = 21 := by rw [q_143]; exact c_140
  have c_152 : mK M_142 (mS M_117) = 23 := by rw [q_143]; exact c_141
  refine lv_aload_n hx hb dM_init_69 rfl (lv_at hl 0 rfl) ?_
  refine lv_iconst (v := 4) hx hb dM_init_70 (by decide) ?_
  obtain ⟨c_153, h⟩ := rz_chk h
  obtain ⟨c_154, h⟩ := rz_chk h
  obtain ⟨c_155, h⟩ := rz_chk h
  obtain ⟨c_156, h⟩ := rz_chk h
  obtain ⟨M_157, q_158, h⟩ := rz_m h
  have hR0 := hR
  refine rg_newa (kd := 23) (atype := .boolean) (ty := .boolean) hx hb hK hR hRm rfl (by decide) ka_boolean c_153 c_154 c_155 c_156 dM_init_71 (fun H hR => ?_)
  rw [← q_158] at hR
  have c_159 : mK M_157 (mS M) = 22 := by rw [q_158]; exact kn_keep hR0 c_144 (by decide)
  have c_160 : mK M_157 a0 = 5 := by rw [q_158]; exact kn_keep hR0 c_145 (by decide)
  have c_161 : mK M_157 (mS M_9) = 21 := by rw [q_158]; exact kn_keep hR0 c_146 (by decide)
  have c_162 : mK M_157 (mS M_22) = 21 := by rw [q_158]; exact kn_keep hR0 c_147 (by decide)
  have c_163 : mK M_157 (mS M_37) = 23 := by rw [q_158]; exact kn_keep hR0 c_148 (by decide)
  have c_164 : mK M_157 (mS M_54) = 23 := by rw [q_158]; exact kn_keep hR0 c_149 (by decide)
  have c_165 : mK M_157 (mS M_73) = 21 := by rw [q_158]; exact kn_keep hR0 c_150 (by decide)
  have c_166 : mK M_157 (mS M_94) = 21 := by rw [q_158]; exact kn_keep hR0 c_151 (by decide)
  have c_167 : mK M_157 (mS M_117) = 23 := by rw [q_158]; exact kn_keep hR0 c_152 (by decide)
  have c_168 : mK M_157 (mS M_142) = 23 := by rw [q_158, mK_newC, va_up_self]
  obtain ⟨M_169, q_170, h⟩ := rz_m h
  refine rg_putF (r := some (mS M_142)) hx hb hown hK hR hk_M 17 (by decide) kf_M_36 rfl hin rfl rfl (ty := .array .boolean) (by decide +kernel) (Or.inr ⟨_, rfl⟩) c_160 dM_init_73 (fun H locs hR => ?_)
  rw [← q_170] at hR
  have c_171 : mK M_169 (mS M) = 22 := by rw [q_170]; exact c_159
  have c_172 : mK M_169 a0 = 5 := by rw [q_170]; exact c_160
  have c_173 : mK M_169 (mS M_9) = 21 := by rw [q_170]; exact c_161
  have c_174 : mK M_169 (mS M_22) = 21 := by rw [q_170]; exact c_162
  have c_175 : mK M_169 (mS M_37) = 23 := by rw [q_170]; exact c_163
  have c_176 : mK M_169 (mS M_54) = 23 := by rw [q_170]; exact c_164
  have c_177 : mK M_169 (mS M_73) = 21 := by rw [q_170]; exact c_165
  have c_178 : mK M_169 (mS M_94) = 21 := by rw [q_170]; exact c_166
  have c_179 : mK M_169 (mS M_117) = 23 := by rw [q_170]; exact c_167
  have c_180 : mK M_169 (mS M_142) = 23 := by rw [q_170]; exact c_168
  refine lv_aload_n hx hb dM_init_76 rfl (lv_at hl 0 rfl) ?_
  refine lv_sipush (v := 140) hx hb dM_init_77 (by decide) ?_
  obtain ⟨c_181, h⟩ := rz_chk h
  obtain ⟨c_182, h⟩ := rz_chk h
  obtain ⟨c_183, h⟩ := rz_chk h
  obtain ⟨c_184, h⟩ := rz_chk h
  obtain ⟨M_185, q_186, h⟩ := rz_m h
  have hR0 := hR
  refine rg_newa (kd := 21) (atype := .int) (ty := .int) hx hb hK hR hRm rfl (by decide) ka_int c_181 c_182 c_183 c_184 dM_init_80 (fun H hR => ?_)
  rw [← q_186] at hR
  have c_187 : mK M_185 (mS M) = 22 := by rw [q_186]; exact kn_keep hR0 c_171 (by decide)
  have c_188 : mK M_185 a0 = 5 := by rw [q_186]; exact kn_keep hR0 c_172 (by decide)
  have c_189 : mK M_185 (mS M_9) = 21 := by rw [q_186]; exact kn_keep hR0 c_173 (by decide)
  have c_190 : mK M_185 (mS M_22) = 21 := by rw [q_186]; exact kn_keep hR0 c_174 (by decide)
  have c_191 : mK M_185 (mS M_37) = 23 := by rw [q_186]; exact kn_keep hR0 c_175 (by decide)
  have c_192 : mK M_185 (mS M_54) = 23 := by rw [q_186]; exact kn_keep hR0 c_176 (by decide)
  have c_193 : mK M_185 (mS M_73) = 21 := by rw [q_186]; exact kn_keep hR0 c_177 (by decide)
  have c_194 : mK M_185 (mS M_94) = 21 := by rw [q_186]; exact kn_keep hR0 c_178 (by decide)
  have c_195 : mK M_185 (mS M_117) = 23 := by rw [q_186]; exact kn_keep hR0 c_179 (by decide)
  have c_196 : mK M_185 (mS M_142) = 23 := by rw [q_186]; exact kn_keep hR0 c_180 (by decide)
  have c_197 : mK M_185 (mS M_169) = 21 := by rw [q_186, mK_newC, va_up_self]
  obtain ⟨M_198, q_199, h⟩ := rz_m h
  refine rg_putF (r := some (mS M_169)) hx hb hown hK hR hk_M 20 (by decide) kf_M_39 rfl hin rfl rfl (ty := .array .int) (by decide +kernel) (Or.inr ⟨_, rfl⟩) c_188 dM_init_82 (fun H locs hR => ?_)
  rw [← q_199] at hR
  have c_200 : mK M_198 (mS M) = 22 := by rw [q_199]; exact c_187
  have c_201 : mK M_198 a0 = 5 := by rw [q_199]; exact c_188
  have c_202 : mK M_198 (mS M_9) = 21 := by rw [q_199]; exact c_189
  have c_203 : mK M_198 (mS M_22) = 21 := by rw [q_199]; exact c_190
  have c_204 : mK M_198 (mS M_37) = 23 := by rw [q_199]; exact c_191
  have c_205 : mK M_198 (mS M_54) = 23 := by rw [q_199]; exact c_192
  have c_206 : mK M_198 (mS M_73) = 21 := by rw [q_199]; exact c_193
  have c_207 : mK M_198 (mS M_94) = 21 := by rw [q_199]; exact c_194
  have c_208 : mK M_198 (mS M_117) = 23 := by rw [q_199]; exact c_195
  have c_209 : mK M_198 (mS M_142) = 23 := by rw [q_199]; exact c_196
  have c_210 : mK M_198 (mS M_169) = 21 := by rw [q_199]; exact c_197
  refine lv_aload_n hx hb dM_init_85 rfl (lv_at hl 0 rfl) ?_
  refine lv_sipush (v := 140) hx hb dM_init_86 (by decide) ?_
  obtain ⟨c_211, h⟩ := rz_chk h
  obtain ⟨c_212, h⟩ := rz_chk h
  obtain ⟨c_213, h⟩ := rz_chk h
  obtain ⟨c_214, h⟩ := rz_chk h
  obtain ⟨M_215, q_216, h⟩ := rz_m h
  have hR0 := hR
  refine rg_newa (kd := 21) (atype := .int) (ty := .int) hx hb hK hR hRm rfl (by decide) ka_int c_211 c_212 c_213 c_214 dM_init_89 (fun H hR => ?_)
  rw [← q_216] at hR
  have c_217 : mK M_215 (mS M) = 22 := by rw [q_216]; exact kn_keep hR0 c_200 (by decide)
  have c_218 : mK M_215 a0 = 5 := by rw [q_216]; exact kn_keep hR0 c_201 (by decide)
  have c_219 : mK M_215 (mS M_9) = 21 := by rw [q_216]; exact kn_keep hR0 c_202 (by decide)
  have c_220 : mK M_215 (mS M_22) = 21 := by rw [q_216]; exact kn_keep hR0 c_203 (by decide)
  have c_221 : mK M_215 (mS M_37) = 23 := by rw [q_216]; exact kn_keep hR0 c_204 (by decide)
  have c_222 : mK M_215 (mS M_54) = 23 := by rw [q_216]; exact kn_keep hR0 c_205 (by decide)
  have c_223 : mK M_215 (mS M_73) = 21 := by rw [q_216]; exact kn_keep hR0 c_206 (by decide)
  have c_224 : mK M_215 (mS M_94) = 21 := by rw [q_216]; exact kn_keep hR0 c_207 (by decide)
  have c_225 : mK M_215 (mS M_117) = 23 := by rw [q_216]; exact kn_keep hR0 c_208 (by decide)
  have c_226 : mK M_215 (mS M_142) = 23 := by rw [q_216]; exact kn_keep hR0 c_209 (by decide)
  have c_227 : mK M_215 (mS M_169) = 21 := by rw [q_216]; exact kn_keep hR0 c_210 (by decide)
  have c_228 : mK M_215 (mS M_198) = 21 := by rw [q_216, mK_newC, va_up_self]
  obtain ⟨M_229, q_230, h⟩ := rz_m h
  refine rg_putF (r := some (mS M_198)) hx hb hown hK hR hk_M 21 (by decide) kf_M_42 rfl hin rfl rfl (ty := .array .int) (by decide +kernel) (Or.inr ⟨_, rfl⟩) c_218 dM_init_91 (fun H locs hR => ?_)
  rw [← q_230] at hR
  have c_231 : mK M_229 (mS M) = 22 := by rw [q_230]; exact c_217
  have c_232 : mK M_229 a0 = 5 := by rw [q_230]; exact c_218
  have c_233 : mK M_229 (mS M_9) = 21 := by rw [q_230]; exact c_219
  have c_234 : mK M_229 (mS M_22) = 21 := by rw [q_230]; exact c_220
  have c_235 : mK M_229 (mS M_37) = 23 := by rw [q_230]; exact c_221
  have c_236 : mK M_229 (mS M_54) = 23 := by rw [q_230]; exact c_222
  have c_237 : mK M_229 (mS M_73) = 21 := by rw [q_230]; exact c_223
  have c_238 : mK M_229 (mS M_94) = 21 := by rw [q_230]; exact c_224
  have c_239 : mK M_229 (mS M_117) = 23 := by rw [q_230]; exact c_225
  have c_240 : mK M_229 (mS M_142) = 23 := by rw [q_230]; exact c_226
  have c_241 : mK M_229 (mS M_169) = 21 := by rw [q_230]; exact c_227
  have c_242 : mK M_229 (mS M_198) = 21 := by rw [q_230]; exact c_228
  refine lv_aload_n hx hb dM_init_94 rfl (lv_at hl 0 rfl) ?_
  refine lv_sipush (v := 140) hx hb dM_init_95 (by decide) ?_
  obtain ⟨c_243, h⟩ := rz_chk h
  obtain ⟨c_244, h⟩ := rz_chk h
  obtain ⟨c_245, h⟩ := rz_chk h
  obtain ⟨c_246, h⟩ := rz_chk h
  obtain ⟨M_247, q_248, h⟩ := rz_m h
  have hR0 := hR
  refine rg_newa (kd := 21) (atype := .int) (ty := .int) hx hb hK hR hRm rfl (by decide) ka_int c_243 c_244 c_245 c_246 dM_init_98 (fun H hR => ?_)
  rw [← q_248] at hR
  have c_249 : mK M_247 (mS M) = 22 := by rw [q_248]; exact kn_keep hR0 c_231 (by decide)
  have c_250 : mK M_247 a0 = 5 := by rw [q_248]; exact kn_keep hR0 c_232 (by decide)
  have c_251 : mK M_247 (mS M_9) = 21 := by rw [q_248]; exact kn_keep hR0 c_233 (by decide)
  have c_252 : mK M_247 (mS M_22) = 21 := by rw [q_248]; exact kn_keep hR0 c_234 (by decide)
  have c_253 : mK M_247 (mS M_37) = 23 := by rw [q_248]; exact kn_keep hR0 c_235 (by decide)
  have c_254 : mK M_247 (mS M_54) = 23 := by rw [q_248]; exact kn_keep hR0 c_236 (by decide)
  have c_255 : mK M_247 (mS M_73) = 21 := by rw [q_248]; exact kn_keep hR0 c_237 (by decide)
  have c_256 : mK M_247 (mS M_94) = 21 := by rw [q_248]; exact kn_keep hR0 c_238 (by decide)
  have c_257 : mK M_247 (mS M_117) = 23 := by rw [q_248]; exact kn_keep hR0 c_239 (by decide)
  have c_258 : mK M_247 (mS M_142) = 23 := by rw [q_248]; exact kn_keep hR0 c_240 (by decide)
  have c_259 : mK M_247 (mS M_169) = 21 := by rw [q_248]; exact kn_keep hR0 c_241 (by decide)
  have c_260 : mK M_247 (mS M_198) = 21 := by rw [q_248]; exact kn_keep hR0 c_242 (by decide)
  have c_261 : mK M_247 (mS M_229) = 21 := by rw [q_248, mK_newC, va_up_self]
  obtain ⟨M_262, q_263, h⟩ := rz_m h
  refine rg_putF (r := some (mS M_229)) hx hb hown hK hR hk_M 22 (by decide) kf_M_45 rfl hin rfl rfl (ty := .array .int) (by decide +kernel) (Or.inr ⟨_, rfl⟩) c_250 dM_init_100 (fun H locs hR => ?_)
  rw [← q_263] at hR
  have c_264 : mK M_262 (mS M) = 22 := by rw [q_263]; exact c_249
  have c_265 : mK M_262 a0 = 5 := by rw [q_263]; exact c_250
  have c_266 : mK M_262 (mS M_9) = 21 := by rw [q_263]; exact c_251
  have c_267 : mK M_262 (mS M_22) = 21 := by rw [q_263]; exact c_252
  have c_268 : mK M_262 (mS M_37) = 23 := by rw [q_263]; exact c_253
  have c_269 : mK M_262 (mS M_54) = 23 := by rw [q_263]; exact c_254
  have c_270 : mK M_262 (mS M_73) = 21 := by rw [q_263]; exact c_255
  have c_271 : mK M_262 (mS M_94) = 21 := by rw [q_263]; exact c_256
  have c_272 : mK M_262 (mS M_117) = 23 := by rw [q_263]; exact c_257
  have c_273 : mK M_262 (mS M_142) = 23 := by rw [q_263]; exact c_258
  have c_274 : mK M_262 (mS M_169) = 21 := by rw [q_263]; exact c_259
  have c_275 : mK M_262 (mS M_198) = 21 := by rw [q_263]; exact c_260
  have c_276 : mK M_262 (mS M_229) = 21 := by rw [q_263]; exact c_261
  refine lv_aload_n hx hb dM_init_103 rfl (lv_at hl 0 rfl) ?_
  refine lv_bipush (v := 6) hx hb dM_init_104 (by decide) ?_
  obtain ⟨c_277, h⟩ := rz_chk h
  obtain ⟨c_278, h⟩ := rz_chk h
  obtain ⟨c_279, h⟩ := rz_chk h
  obtain ⟨c_280, h⟩ := rz_chk h
  obtain ⟨M_281, q_282, h⟩ := rz_m h
  have hR0 := hR
  refine rg_newa (kd := 21) (atype := .int) (ty := .int) hx hb hK hR hRm rfl (by decide) ka_int c_277 c_278 c_279 c_280 dM_init_106 (fun H hR => ?_)
  rw [← q_282] at hR
  have c_283 : mK M_281 (mS M) = 22 := by rw [q_282]; exact kn_keep hR0 c_264 (by decide)
  have c_284 : mK M_281 a0 = 5 := by rw [q_282]; exact kn_keep hR0 c_265 (by decide)
  have c_285 : mK M_281 (mS M_9) = 21 := by rw [q_282]; exact kn_keep hR0 c_266 (by decide)
  have c_286 : mK M_281 (mS M_22) = 21 := by rw [q_282]; exact kn_keep hR0 c_267 (by decide)
  have c_287 : mK M_281 (mS M_37) = 23 := by rw [q_282]; exact kn_keep hR0 c_268 (by decide)
  have c_288 : mK M_281 (mS M_54) = 23 := by rw [q_282]; exact kn_keep hR0 c_269 (by decide)
  have c_289 : mK M_281 (mS M_73) = 21 := by rw [q_282]; exact kn_keep hR0 c_270 (by decide)
  have c_290 : mK M_281 (mS M_94) = 21 := by rw [q_282]; exact kn_keep hR0 c_271 (by decide)
  have c_291 : mK M_281 (mS M_117) = 23 := by rw [q_282]; exact kn_keep hR0 c_272 (by decide)
  have c_292 : mK M_281 (mS M_142) = 23 := by rw [q_282]; exact kn_keep hR0 c_273 (by decide)
  have c_293 : mK M_281 (mS M_169) = 21 := by rw [q_282]; exact kn_keep hR0 c_274 (by decide)
  have c_294 : mK M_281 (mS M_198) = 21 := by rw [q_282]; exact kn_keep hR0 c_275 (by decide)
  have c_295 : mK M_281 (mS M_229) = 21 := by rw [q_282]; exact kn_keep hR0 c_276 (by decide)
  have c_296 : mK M_281 (mS M_262) = 21 := by rw [q_282, mK_newC, va_up_self]
  obtain ⟨M_297, q_298, h⟩ := rz_m h
  refine rg_putF (r := some (mS M_262)) hx hb hown hK hR hk_M 23 (by decide) kf_M_48 rfl hin rfl rfl (ty := .array .int) (by decide +kernel) (Or.inr ⟨_, rfl⟩) c_284 dM_init_108 (fun H locs hR => ?_)
  rw [← q_298] at hR
  have c_299 : mK M_297 (mS M) = 22 := by rw [q_298]; exact c_283
  have c_300 : mK M_297 a0 = 5 := by rw [q_298]; exact c_284
  have c_301 : mK M_297 (mS M_9) = 21 := by rw [q_298]; exact c_285
  have c_302 : mK M_297 (mS M_22) = 21 := by rw [q_298]; exact c_286
  have c_303 : mK M_297 (mS M_37) = 23 := by rw [q_298]; exact c_287
  have c_304 : mK M_297 (mS M_54) = 23 := by rw [q_298]; exact c_288
  have c_305 : mK M_297 (mS M_73) = 21 := by rw [q_298]; exact c_289
  have c_306 : mK M_297 (mS M_94) = 21 := by rw [q_298]; exact c_290
  have c_307 : mK M_297 (mS M_117) = 23 := by rw [q_298]; exact c_291
  have c_308 : mK M_297 (mS M_142) = 23 := by rw [q_298]; exact c_292
  have c_309 : mK M_297 (mS M_169) = 21 := by rw [q_298]; exact c_293
  have c_310 : mK M_297 (mS M_198) = 21 := by rw [q_298]; exact c_294
  have c_311 : mK M_297 (mS M_229) = 21 := by rw [q_298]; exact c_295
  have c_312 : mK M_297 (mS M_262) = 21 := by rw [q_298]; exact c_296
  refine lv_aload_n hx hb dM_init_111 rfl (lv_at hl 0 rfl) ?_
  refine lv_iconst (v := 4) hx hb dM_init_112 (by decide) ?_
  obtain ⟨c_313, h⟩ := rz_chk h
  obtain ⟨c_314, h⟩ := rz_chk h
  obtain ⟨c_315, h⟩ := rz_chk h
  obtain ⟨c_316, h⟩ := rz_chk h
  obtain ⟨M_317, q_318, h⟩ := rz_m h
  have hR0 := hR
  refine rg_newa (kd := 21) (atype := .int) (ty := .int) hx hb hK hR hRm rfl (by decide) ka_int c_313 c_314 c_315 c_316 dM_init_113 (fun H hR => ?_)
  rw [← q_318] at hR
  have c_319 : mK M_317 (mS M) = 22 := by rw [q_318]; exact kn_keep hR0 c_299 (by decide)
  have c_320 : mK M_317 a0 = 5 := by rw [q_318]; exact kn_keep hR0 c_300 (by decide)
  have c_321 : mK M_317 (mS M_9) = 21 := by rw [q_318]; exact kn_keep hR0 c_301 (by decide)
  have c_322 : mK M_317 (mS M_22) = 21 := by rw [q_318]; exact kn_keep hR0 c_302 (by decide)
  have c_323 : mK M_317 (mS M_37) = 23 := by rw [q_318]; exact kn_keep hR0 c_303 (by decide)
  have c_324 : mK M_317 (mS M_54) = 23 := by rw [q_318]; exact kn_keep hR0 c_304 (by decide)
  have c_325 : mK M_317 (mS M_73) = 21 := by rw [q_318]; exact kn_keep hR0 c_305 (by decide)
  have c_326 : mK M_317 (mS M_94) = 21 := by rw [q_318]; exact kn_keep hR0 c_306 (by decide)
  have c_327 : mK M_317 (mS M_117) = 23 := by rw [q_318]; exact kn_keep hR0 c_307 (by decide)
  have c_328 : mK M_317 (mS M_142) = 23 := by rw [q_318]; exact kn_keep hR0 c_308 (by decide)
  have c_329 : mK M_317 (mS M_169) = 21 := by rw [q_318]; exact kn_keep hR0 c_309 (by decide)
  have c_330 : mK M_317 (mS M_198) = 21 := by rw [q_318]; exact kn_keep hR0 c_310 (by decide)
  have c_331 : mK M_317 (mS M_229) = 21 := by rw [q_318]; exact kn_keep hR0 c_311 (by decide)
  have c_332 : mK M_317 (mS M_262) = 21 := by rw [q_318]; exact kn_keep hR0 c_312 (by decide)
  have c_333 : mK M_317 (mS M_297) = 21 := by rw [q_318, mK_newC, va_up_self]
  obtain ⟨M_334, q_335, h⟩ := rz_m h
  refine rg_putF (r := some (mS M_297)) hx hb hown hK hR hk_M 36 (by decide) kf_M_51 rfl hin rfl rfl (ty := .array .int) (by decide +kernel) (Or.inr ⟨_, rfl⟩) c_320 dM_init_115 (fun H locs hR => ?_)
  rw [← q_335] at hR
  have c_336 : mK M_334 (mS M) = 22 := by rw [q_335]; exact c_319
  have c_337 : mK M_334 a0 = 5 := by rw [q_335]; exact c_320
  have c_338 : mK M_334 (mS M_9) = 21 := by rw [q_335]; exact c_321
  have c_339 : mK M_334 (mS M_22) = 21 := by rw [q_335]; exact c_322
  have c_340 : mK M_334 (mS M_37) = 23 := by rw [q_335]; exact c_323
  have c_341 : mK M_334 (mS M_54) = 23 := by rw [q_335]; exact c_324
  have c_342 : mK M_334 (mS M_73) = 21 := by rw [q_335]; exact c_325
  have c_343 : mK M_334 (mS M_94) = 21 := by rw [q_335]; exact c_326
  have c_344 : mK M_334 (mS M_117) = 23 := by rw [q_335]; exact c_327
  have c_345 : mK M_334 (mS M_142) = 23 := by rw [q_335]; exact c_328
  have c_346 : mK M_334 (mS M_169) = 21 := by rw [q_335]; exact c_329
  have c_347 : mK M_334 (mS M_198) = 21 := by rw [q_335]; exact c_330
  have c_348 : mK M_334 (mS M_229) = 21 := by rw [q_335]; exact c_331
  have c_349 : mK M_334 (mS M_262) = 21 := by rw [q_335]; exact c_332
  have c_350 : mK M_334 (mS M_297) = 21 := by rw [q_335]; exact c_333
  refine lv_aload_n hx hb dM_init_118 rfl (lv_at hl 0 rfl) ?_
  refine lv_iconst (v := 4) hx hb dM_init_119 (by decide) ?_
  obtain ⟨c_351, h⟩ := rz_chk h
  obtain ⟨c_352, h⟩ := rz_chk h
  obtain ⟨c_353, h⟩ := rz_chk h
  obtain ⟨c_354, h⟩ := rz_chk h
  obtain ⟨M_355, q_356, h⟩ := rz_m h
  have hR0 := hR
  refine rg_newa (kd := 21) (atype := .int) (ty := .int) hx hb hK hR hRm rfl (by decide) ka_int c_351 c_352 c_353 c_354 dM_init_120 (fun H hR => ?_)
  rw [← q_356] at hR
  have c_357 : mK M_355 (mS M) = 22 := by rw [q_356]; exact kn_keep hR0 c_336 (by decide)
  have c_358 : mK M_355 a0 = 5 := by rw [q_356]; exact kn_keep hR0 c_337 (by decide)
  have c_359 : mK M_355 (mS M_9) = 21 := by rw [q_356]; exact kn_keep hR0 c_338 (by decide)
  have c_360 : mK M_355 (mS M_22) = 21 := by rw [q_356]; exact kn_keep hR0 c_339 (by decide)
  have c_361 : mK M_355 (mS M_37) = 23 := by rw [q_356]; exact kn_keep hR0 c_340 (by decide)
  have c_362 : mK M_355 (mS M_54) = 23 := by rw [q_356]; exact kn_keep hR0 c_341 (by decide)
  have c_363 : mK M_355 (mS M_73) = 21 := by rw [q_356]; exact kn_keep hR0 c_342 (by decide)
  have c_364 : mK M_355 (mS M_94) = 21 := by rw [q_356]; exact kn_keep hR0 c_343 (by decide)
  have c_365 : mK M_355 (mS M_117) = 23 := by rw [q_356]; exact kn_keep hR0 c_344 (by decide)
  have c_366 : mK M_355 (mS M_142) = 23 := by rw [q_356]; exact kn_keep hR0 c_345 (by decide)
  have c_367 : mK M_355 (mS M_169) = 21 := by rw [q_356]; exact kn_keep hR0 c_346 (by decide)
  have c_368 : mK M_355 (mS M_198) = 21 := by rw [q_356]; exact kn_keep hR0 c_347 (by decide)
  have c_369 : mK M_355 (mS M_229) = 21 := by rw [q_356]; exact kn_keep hR0 c_348 (by decide)
  have c_370 : mK M_355 (mS M_262) = 21 := by rw [q_356]; exact kn_keep hR0 c_349 (by decide)
  have c_371 : mK M_355 (mS M_297) = 21 := by rw [q_356]; exact kn_keep hR0 c_350 (by decide)
  have c_372 : mK M_355 (mS M_334) = 21 := by rw [q_356, mK_newC, va_up_self]
  obtain ⟨M_373, q_374, h⟩ := rz_m h
  refine rg_putF (r := some (mS M_334)) hx hb hown hK hR hk_M 37 (by decide) kf_M_54 rfl hin rfl rfl (ty := .array .int) (by decide +kernel) (Or.inr ⟨_, rfl⟩) c_358 dM_init_122 (fun H locs hR => ?_)
  rw [← q_374] at hR
  have c_375 : mK M_373 (mS M) = 22 := by rw [q_374]; exact c_357
  have c_376 : mK M_373 a0 = 5 := by rw [q_374]; exact c_358
  have c_377 : mK M_373 (mS M_9) = 21 := by rw [q_374]; exact c_359
  have c_378 : mK M_373 (mS M_22) = 21 := by rw [q_374]; exact c_360
  have c_379 : mK M_373 (mS M_37) = 23 := by rw [q_374]; exact c_361
  have c_380 : mK M_373 (mS M_54) = 23 := by rw [q_374]; exact c_362
  have c_381 : mK M_373 (mS M_73) = 21 := by rw [q_374]; exact c_363
  have c_382 : mK M_373 (mS M_94) = 21 := by rw [q_374]; exact c_364
  have c_383 : mK M_373 (mS M_117) = 23 := by rw [q_374]; exact c_365
  have c_384 : mK M_373 (mS M_142) = 23 := by rw [q_374]; exact c_366
  have c_385 : mK M_373 (mS M_169) = 21 := by rw [q_374]; exact c_367
  have c_386 : mK M_373 (mS M_198) = 21 := by rw [q_374]; exact c_368
  have c_387 : mK M_373 (mS M_229) = 21 := by rw [q_374]; exact c_369
  have c_388 : mK M_373 (mS M_262) = 21 := by rw [q_374]; exact c_370
  have c_389 : mK M_373 (mS M_297) = 21 := by rw [q_374]; exact c_371
  have c_390 : mK M_373 (mS M_334) = 21 := by rw [q_374]; exact c_372
  refine lv_aload_n hx hb dM_init_125 rfl (lv_at hl 0 rfl) ?_
  refine lv_sipush (v := 260) hx hb dM_init_126 (by decide) ?_
  obtain ⟨c_391, h⟩ := rz_chk h
  obtain ⟨c_392, h⟩ := rz_chk h
  obtain ⟨c_393, h⟩ := rz_chk h
  obtain ⟨c_394, h⟩ := rz_chk h
  obtain ⟨M_395, q_396, h⟩ := rz_m h
  have hR0 := hR
  refine rg_newa (kd := 21) (atype := .int) (ty := .int) hx hb hK hR hRm rfl (by decide) ka_int c_391 c_392 c_393 c_394 dM_init_129 (fun H hR => ?_)
  rw [← q_396] at hR
  have c_397 : mK M_395 (mS M) = 22 := by rw [q_396]; exact kn_keep hR0 c_375 (by decide)
  have c_398 : mK M_395 a0 = 5 := by rw [q_396]; exact kn_keep hR0 c_376 (by decide)
  have c_399 : mK M_395 (mS M_9) = 21 := by rw [q_396]; exact kn_keep hR0 c_377 (by decide)
  have c_400 : mK M_395 (mS M_22) = 21 := by rw [q_396]; exact kn_keep hR0 c_378 (by decide)
  have c_401 : mK M_395 (mS M_37) = 23 := by rw [q_396]; exact kn_keep hR0 c_379 (by decide)
  have c_402 : mK M_395 (mS M_54) = 23 := by rw [q_396]; exact kn_keep hR0 c_380 (by decide)
  have c_403 : mK M_395 (mS M_73) = 21 := by rw [q_396]; exact kn_keep hR0 c_381 (by decide)
  have c_404 : mK M_395 (mS M_94) = 21 := by rw [q_396]; exact kn_keep hR0 c_382 (by decide)
  have c_405 : mK M_395 (mS M_117) = 23 := by rw [q_396]; exact kn_keep hR0 c_383 (by decide)
  have c_406 : mK M_395 (mS M_142) = 23 := by rw [q_396]; exact kn_keep hR0 c_384 (by decide)
  have c_407 : mK M_395 (mS M_169) = 21 := by rw [q_396]; exact kn_keep hR0 c_385 (by decide)
  have c_408 : mK M_395 (mS M_198) = 21 := by rw [q_396]; exact kn_keep hR0 c_386 (by decide)
  have c_409 : mK M_395 (mS M_229) = 21 := by rw [q_396]; exact kn_keep hR0 c_387 (by decide)
  have c_410 : mK M_395 (mS M_262) = 21 := by rw [q_396]; exact kn_keep hR0 c_388 (by decide)
  have c_411 : mK M_395 (mS M_297) = 21 := by rw [q_396]; exact kn_keep hR0 c_389 (by decide)
  have c_412 : mK M_395 (mS M_334) = 21 := by rw [q_396]; exact kn_keep hR0 c_390 (by decide)
  have c_413 : mK M_395 (mS M_373) = 21 := by rw [q_396, mK_newC, va_up_self]
  obtain ⟨M_414, q_415, h⟩ := rz_m h
  refine rg_putF (r := some (mS M_373)) hx hb hown hK hR hk_M 39 (by decide) kf_M_57 rfl hin rfl rfl (ty := .array .int) (by decide +kernel) (Or.inr ⟨_, rfl⟩) c_398 dM_init_131 (fun H locs hR => ?_)
  rw [← q_415] at hR
  have c_416 : mK M_414 (mS M) = 22 := by rw [q_415]; exact c_397
  have c_417 : mK M_414 a0 = 5 := by rw [q_415]; exact c_398
  have c_418 : mK M_414 (mS M_9) = 21 := by rw [q_415]; exact c_399
  have c_419 : mK M_414 (mS M_22) = 21 := by rw [q_415]; exact c_400
  have c_420 : mK M_414 (mS M_37) = 23 := by rw [q_415]; exact c_401
  have c_421 : mK M_414 (mS M_54) = 23 := by rw [q_415]; exact c_402
  have c_422 : mK M_414 (mS M_73) = 21 := by rw [q_415]; exact c_403
  have c_423 : mK M_414 (mS M_94) = 21 := by rw [q_415]; exact c_404
  have c_424 : mK M_414 (mS M_117) = 23 := by rw [q_415]; exact c_405
  have c_425 : mK M_414 (mS M_142) = 23 := by rw [q_415]; exact c_406
  have c_426 : mK M_414 (mS M_169) = 21 := by rw [q_415]; exact c_407
  have c_427 : mK M_414 (mS M_198) = 21 := by rw [q_415]; exact c_408
  have c_428 : mK M_414 (mS M_229) = 21 := by rw [q_415]; exact c_409
  have c_429 : mK M_414 (mS M_262) = 21 := by rw [q_415]; exact c_410
  have c_430 : mK M_414 (mS M_297) = 21 := by rw [q_415]; exact c_411
  have c_431 : mK M_414 (mS M_334) = 21 := by rw [q_415]; exact c_412
  have c_432 : mK M_414 (mS M_373) = 21 := by rw [q_415]; exact c_413
  cases h
  exact rt_v hx hb hlk hrt hR dM_init_134
set_option maxRecDepth 100000 in
set_option maxHeartbeats 4000000 in
theorem sM_init {l : Launch} {G : Gx} {n d : Nat} {C : Cx} (hC : CBs l G d C) (a0 : Nat) {M M' : Mem} {r : Option Value ⊕ Nat} (h : fM_init_0 n d C a0 M = some (r, M')) : CB l G (d + 1) yM_init [.ref a0] M r M' := by
  intro p e R s m below meth c hx hn hm hc hlk hK hR hcap hS hU hfr hlo hrc hrs
  obtain ⟨hb, hml, hrt, hex, hown⟩ := fx_of hn hm hc (hK.w mfM_init.2.2.1 rfl #[])
  have F : FX p s m meth c G R M d "HeadCountModel" bM_init 1 none := ⟨hx, hb, hml, hown, hrt, hlk, hex, hK, hfr, hlo, by rw [← hcap]; exact hrc, hrs⟩
  rw [hml]
  have hl := lv_entry ([.ref a0]) (n := 1) (by simp [lg_sl, cat_rf, Value.category])
  rw [lg_entry_eq]
  generalize (lg_sl ([.ref a0]) ++ List.replicate (1 - (lg_sl ([.ref a0])).length) Slot.unset).toArray = ls at hl ⊢
  have hl : lv_has ls 1 [(0, .ref a0)] := by simpa [lv_args, cat_rf, Value.category] using hl
  exact tM_init_0 F (name_of_methodNamed hn hm).1 hC a0 _ _ _ _ _ _ h (RL.start hR hcap hS hU) (lv_sub hl [0] rfl)
def fM_thrown_0 (n d : Nat) (C : Cx) (a0 : Nat) (M : Mem) : Rz := if mK M a0 = 5 then (some (.inl (some (.int (mI M a0 0))), M)) else none
set_option maxRecDepth 100000 in
set_option maxHeartbeats 4000000 in
theorem tM_thrown_0 {n : Nat} (F : FX p s m meth c G R M0 d "HeadCountModel" bM_thrown 1 (some .int)) (hC : CBs l G d C) : ∀ (a0 : Nat) (M : Mem) (H : Heap) (locs : List Loc) (cells slots : Nat) (ls : Array Slot), fM_thrown_0 n d C a0 M = some (r, M') → RL G M0 M H locs cells slots → lv_has ls 1 [(0, .ref a0)] → W p l e R s m args below meth c H locs cells slots (CQ G below s M0 r M') (F0 m 0 ls []) := by
  obtain ⟨hx, hb, hml, hown, hrt, hlk, hex, hK, hRm⟩ := id F
  intro a0 M H locs cells slots ls h hR hl
  unfold fM_thrown_0 at h
  refine lv_aload_n hx hb dM_thrown_0 rfl (lv_at hl 0 rfl) ?_
  obtain ⟨c_1, h⟩ := rz_chk h
  refine rg_getI hx hb hown hK hR hk_M 0 (by decide) kf_M_60 rfl c_1 dM_thrown_1 ?_
  cases h
  exact rt_i hx hb hlk hrt (Or.inl rfl) rfl hR dM_thrown_4
set_option maxRecDepth 100000 in
set_option maxHeartbeats 4000000 in
theorem sM_thrown {l : Launch} {G : Gx} {n d : Nat} {C : Cx} (hC : CBs l G d C) (a0 : Nat) {M M' : Mem} {r : Option Value ⊕ Nat} (h : fM_thrown_0 n d C a0 M = some (r, M')) : CB l G (d + 1) yM_thrown [.ref a0] M r M' := by
  intro p e R s m below meth c hx hn hm hc hlk hK hR hcap hS hU hfr hlo hrc hrs
  obtain ⟨hb, hml, hrt, hex, hown⟩ := fx_of hn hm hc (hK.w mfM_thrown.2.2.1 rfl #[])
  have F : FX p s m meth c G R M d "HeadCountModel" bM_thrown 1 (some .int) := ⟨hx, hb, hml, hown, hrt, hlk, hex, hK, hfr, hlo, by rw [← hcap]; exact hrc, hrs⟩
  rw [hml]
  have hl := lv_entry ([.ref a0]) (n := 1) (by simp [lg_sl, cat_rf, Value.category])
  rw [lg_entry_eq]
  generalize (lg_sl ([.ref a0]) ++ List.replicate (1 - (lg_sl ([.ref a0])).length) Slot.unset).toArray = ls at hl ⊢
  have hl : lv_has ls 1 [(0, .ref a0)] := by simpa [lv_args, cat_rf, Value.category] using hl
  exact tM_thrown_0 F hC a0 _ _ _ _ _ _ h (RL.start hR hcap hS hU) (lv_sub hl [0] rfl)
def fM_write_50 (n d : Nat) (C : Cx) (M : Mem) : Rz := if fits .boolean (.int 0) = true then (some (.inl (some (.int 0)), M)) else none
set_option maxRecDepth 100000 in
set_option maxHeartbeats 4000000 in
theorem tM_write_50 {n : Nat} (F : FX p s m meth c G R M0 d "HeadCountModel" bM_write 6 (some .boolean)) (hC : CBs l G d C) : ∀ (M : Mem) (H : Heap) (locs : List Loc) (cells slots : Nat) (ls : Array Slot), fM_write_50 n d C M = some (r, M') → RL G M0 M H locs cells slots → lv_has ls 6 [] → W p l e R s m args below meth c H locs cells slots (CQ G below s M0 r M') (F0 m 50 ls []) := by
  obtain ⟨hx, hb, hml, hown, hrt, hlk, hex, hK, hRm⟩ := id F
  intro M H locs cells slots ls h hR hl
  unfold fM_write_50 at h
  refine lv_iconst (v := 0) hx hb dM_write_50 (by decide) ?_
  obtain ⟨c_1, h⟩ := rz_chk h
  cases h
  exact rt_i hx hb hlk hrt (Or.inr (Or.inr rfl)) c_1 hR dM_write_51
def fM_write_63 (n d : Nat) (C : Cx) (k10 : Nat → Int64 → Int32 → Int32 → Mem → Rz) (a0 : Nat) (l1 : Int64) (x4 : Int32) (xs0 : Int32) (xs1 : Int32) (M : Mem) : Rz := k10 a0 l1 (xs1 + xs0) (x4 + 1) M
set_option maxRecDepth 100000 in
set_option maxHeartbeats 4000000 in
theorem tM_write_63 {n : Nat} {k10 : Nat → Int64 → Int32 → Int32 → Mem → Rz} (F : FX p s m meth c G R M0 d "HeadCountModel" bM_write 6 (some .boolean)) (hC : CBs l G d C) (hk10 : ∀ (a0 : Nat) (l1 : Int64) (x3 : Int32) (x4 : Int32) (M : Mem) (H : Heap) (locs : List Loc) (cells slots : Nat) (ls : Array Slot), k10 a0 l1 x3 x4 M = some (r, M') → RL G M0 M H locs cells slots → lv_has ls 6 [(0, .ref a0), (1, .long l1), (3, .int x3), (4, .int x4)] → W p l e R s m args below meth c H locs cells slots (CQ G below s M0 r M') (F0 m 10 ls [])) : ∀ (a0 : Nat) (l1 : Int64) (x4 : Int32) (xs0 : Int32) (xs1 : Int32) (M : Mem) (H : Heap) (locs : List Loc) (cells slots : Nat) (ls : Array Slot), fM_write_63 n d C k10 a0 l1 x4 xs0 xs1 M = some (r, M') → RL G M0 M H locs cells slots → lv_has ls 6 [(0, .ref a0), (1, .long l1), (4, .int x4)] → W p l e R s m args below meth c H locs cells slots (CQ G below s M0 r M') (F0 m 63 ls [.int xs0, .int xs1]) := by
  obtain ⟨hx, hb, hml, hown, hrt, hlk, hex, hK, hRm⟩ := id F
  intro a0 l1 x4 xs0 xs1 M H locs cells slots ls h hR hl
  unfold fM_write_63 at h
  refine lv_iadd hx hb dM_write_63 ?_
  refine lv_istore_n (lv' := [(3, .int (xs1 + xs0)), (0, .ref a0), (1, .long l1), (4, .int x4)]) hx hb dM_write_64 rfl hl (by decide) rfl (fun ls hl => ?_)
  refine lv_iinc (k := 3) (v := x4 + 1) (lv' := [(4, .int (x4 + 1)), (3, .int (xs1 + xs0)), (0, .ref a0), (1, .long l1)]) hx hb dM_write_65 hl rfl (by rw [show Int32.ofInt 1 = 1 from by decide]) (by decide) rfl (fun ls hl => ?_)
  refine lv_goto (tgt := 10) hx hb dM_write_68 (by decide) ?_
  exact hk10 a0 l1 (xs1 + xs0) (x4 + 1) _ _ _ _ _ _ h hR (lv_sub hl [2, 3, 1, 0] rfl)
def fM_write_52 (n d : Nat) (C : Cx) (k10 : Nat → Int64 → Int32 → Int32 → Mem → Rz) (a0 : Nat) (l1 : Int64) (x3 : Int32) (x4 : Int32) (x5 : Int32) (M : Mem) : Rz := if x5 = 0 then (fM_write_63 n d C k10 a0 l1 x4 0 x3 M) else (fM_write_63 n d C k10 a0 l1 x4 1 x3 M)
set_option maxRecDepth 100000 in
set_option maxHeartbeats 4000000 in
theorem tM_write_52 {n : Nat} {k10 : Nat → Int64 → Int32 → Int32 → Mem → Rz} (F : FX p s m meth c G R M0 d "HeadCountModel" bM_write 6 (some .boolean)) (hC : CBs l G d C) (hk10 : ∀ (a0 : Nat) (l1 : Int64) (x3 : Int32) (x4 : Int32) (M : Mem) (H : Heap) (locs : List Loc) (cells slots : Nat) (ls : Array Slot), k10 a0 l1 x3 x4 M = some (r, M') → RL G M0 M H locs cells slots → lv_has ls 6 [(0, .ref a0), (1, .long l1), (3, .int x3), (4, .int x4)] → W p l e R s m args below meth c H locs cells slots (CQ G below s M0 r M') (F0 m 10 ls [])) : ∀ (a0 : Nat) (l1 : Int64) (x3 : Int32) (x4 : Int32) (x5 : Int32) (M : Mem) (H : Heap) (locs : List Loc) (cells slots : Nat) (ls : Array Slot), fM_write_52 n d C k10 a0 l1 x3 x4 x5 M = some (r, M') → RL G M0 M H locs cells slots → lv_has ls 6 [(0, .ref a0), (1, .long l1), (3, .int x3), (4, .int x4), (5, .int x5)] → W p l e R s m args below meth c H locs cells slots (CQ G below s M0 r M') (F0 m 52 ls []) := by
  obtain ⟨hx, hb, hml, hown, hrt, hlk, hex, hK, hRm⟩ := id F
  intro a0 l1 x3 x4 x5 M H locs cells slots ls h hR hl
  unfold fM_write_52 at h
  refine lv_iload_n hx hb dM_write_52 rfl (lv_at hl 2 rfl) ?_
  refine lv_iload hx hb dM_write_53 (lv_at hl 4 rfl) ?_
  refine lv_if_ne (tgt := 62) hx hb dM_write_55 (by decide) (fun c_1 => ?_) (fun c_1 => ?_)
  · replace h := rz_f c_1 h
    refine lv_iconst (v := 1) hx hb dM_write_62 (by decide) ?_
    exact tM_write_63 F hC hk10 a0 l1 x4 1 x3 _ _ _ _ _ _ h hR (lv_sub hl [0, 1, 3] rfl)
  · replace h := rz_t c_1 h
    refine lv_iconst (v := 0) hx hb dM_write_58 (by decide) ?_
    refine lv_goto (tgt := 63) hx hb dM_write_59 (by decide) ?_
    exact tM_write_63 F hC hk10 a0 l1 x4 0 x3 _ _ _ _ _ _ h hR (lv_sub hl [0, 1, 3] rfl)
def fM_write_135 (n d : Nat) (C : Cx) (k87 : Nat → Int64 → Int32 → Mem → Rz) (a0 : Nat) (l1 : Int64) (x4 : Int32) (M : Mem) : Rz := k87 a0 l1 (x4 + 1) M
set_option maxRecDepth 100000 in
set_option maxHeartbeats 4000000 in
theorem tM_write_135 {n : Nat} {k87 : Nat → Int64 → Int32 → Mem → Rz} (F : FX p s m meth c G R M0 d "HeadCountModel" bM_write 6 (some .boolean)) (hC : CBs l G d C) (hk87 : ∀ (a0 : Nat) (l1 : Int64) (x4 : Int32) (M : Mem) (H : Heap) (locs : List Loc) (cells slots : Nat) (ls : Array Slot), k87 a0 l1 x4 M = some (r, M') → RL G M0 M H locs cells slots → lv_has ls 6 [(0, .ref a0), (1, .long l1), (4, .int x4)] → W p l e R s m args below meth c H locs cells slots (CQ G below s M0 r M') (F0 m 87 ls [])) : ∀ (a0 : Nat) (l1 : Int64) (x4 : Int32) (M : Mem) (H : Heap) (locs : List Loc) (cells slots : Nat) (ls : Array Slot), fM_write_135 n d C k87 a0 l1 x4 M = some (r, M') → RL G M0 M H locs cells slots → lv_has ls 6 [(0, .ref a0), (1, .long l1), (4, .int x4)] → W p l e R s m args below meth c H locs cells slots (CQ G below s M0 r M') (F0 m 135 ls []) := by
  obtain ⟨hx, hb, hml, hown, hrt, hlk, hex, hK, hRm⟩ := id F
  intro a0 l1 x4 M H locs cells slots ls h hR hl
  unfold fM_write_135 at h
  refine lv_iinc (k := 2) (v := x4 + 1) (lv' := [(4, .int (x4 + 1)), (0, .ref a0), (1, .long l1)]) hx hb dM_write_135 hl rfl (by rw [show Int32.ofInt 1 = 1 from by decide]) (by decide) rfl (fun ls hl => ?_)
  refine lv_goto (tgt := 87) hx hb dM_write_138 (by decide) ?_
  exact hk87 a0 l1 (x4 + 1) _ _ _ _ _ _ h hR (lv_sub hl [1, 2, 0] rfl)
def fM_write_87 (n d : Nat) (C : Cx) : Nat → Nat → Int64 → Int32 → Mem → Rz
  | 0, _, _, _, _ => none
  | w + 1, a0, l1, x4, M => if 8 ≤ x4 then (if fits .boolean (.int 1) = true then (some (.inl (some (.int 1)), M)) else none) else (if (((l1 >>> ((8 * x4).toInt64 &&& 63)) &&& 255).toInt32) = 0 then (fM_write_135 n d C (fM_write_87 n d C w) a0 l1 x4 M) else (if mK M a0 = 5 then (rzD (mP M a0 2) fun a_5 => (if mK M a_5 = 22 then (if inA (mI M a0 1) (mL M a_5) then (if fits .char (.int (((((l1 >>> ((8 * x4).toInt64 &&& 63)) &&& 255).toInt32).toUInt32 % 65536).toInt32)) = true then (rzM (setI M a_5 (mI M a0 1).toNatClampNeg (((((l1 >>> ((8 * x4).toInt64 &&& 63)) &&& 255).toInt32).toUInt32 % 65536).toInt32)) fun M_10 => (rzM (setI M_10 a0 1 ((mI M_10 a0 1) + 1)) fun M_14 => (fM_write_135 n d C (fM_write_87 n d C w) a0 l1 x4 M_14))) else none) else none) else none)) else none))
set_option maxRecDepth 100000 in
set_option maxHeartbeats 4000000 in
theorem tM_write_87 {n : Nat} (F : FX p s m meth c G R M0 d "HeadCountModel" bM_write 6 (some .boolean)) (hC : CBs l G d C) : ∀ (w : Nat) (a0 : Nat) (l1 : Int64) (x4 : Int32) (M : Mem) (H : Heap) (locs : List Loc) (cells slots : Nat) (ls : Array Slot), fM_write_87 n d C w a0 l1 x4 M = some (r, M') → RL G M0 M H locs cells slots → lv_has ls 6 [(0, .ref a0), (1, .long l1), (4, .int x4)] → W p l e R s m args below meth c H locs cells slots (CQ G below s M0 r M') (F0 m 87 ls []) := by
  obtain ⟨hx, hb, hml, hown, hrt, hlk, hex, hK, hRm⟩ := id F
  intro w
  induction w with
  | zero => intro a0 l1 x4 M H locs cells slots ls h; cases h
  | succ w ih =>
    intro a0 l1 x4 M H locs cells slots ls h hR hl
    rw [fM_write_87] at h
    refine lv_iload hx hb dM_write_87 (lv_at hl 2 rfl) ?_
    refine lv_bipush (v := 8) hx hb dM_write_89 (by decide) ?_
    refine lv_icmp_ge (tgt := 141) hx hb dM_write_91 (by decide) (fun c_1 => ?_) (fun c_1 => ?_)
    · replace h := rz_t c_1 h
      refine lv_iconst (v := 1) hx hb dM_write_141 (by decide) ?_
      obtain ⟨c_2, h⟩ := rz_chk h
      cases h
      exact rt_i hx hb hlk hrt (Or.inr (Or.inr rfl)) c_2 hR dM_write_142
    · replace h := rz_f c_1 h
      refine lv_lload_n hx hb dM_write_94 rfl (lv_at hl 1 rfl) ?_
      refine lv_bipush (v := 8) hx hb dM_write_95 (by decide) ?_
      refine lv_iload hx hb dM_write_97 (lv_at hl 2 rfl) ?_
      refine lv_imul hx hb dM_write_99 ?_
      refine lv_lshr hx hb dM_write_100 rfl ?_
      refine lv_ldc2 (v := 255) hx hb hown (hK.w kq_M_64 rfl args) dM_write_101 ?_
      refine lv_land hx hb dM_write_104 ?_
      refine lv_l2i hx hb dM_write_105 rfl ?_
      refine lv_istore (lv' := [(5, .int (((l1 >>> ((8 * x4).toInt64 &&& 63)) &&& 255).toInt32)), (0, .ref a0), (1, .long l1), (4, .int x4)]) hx hb dM_write_106 hl (by decide) rfl (fun ls hl => ?_)
      refine lv_iload hx hb dM_write_108 (lv_at hl 0 rfl) ?_
      refine lv_if_eq (tgt := 135) hx hb dM_write_110 (by decide) (fun c_3 => ?_) (fun c_3 => ?_)
      · replace h := rz_t c_3 h
        exact tM_write_135 F hC ih a0 l1 x4 _ _ _ _ _ _ h hR (lv_sub hl [1, 2, 3] rfl)
      · replace h := rz_f c_3 h
        refine lv_aload_n hx hb dM_write_113 rfl (lv_at hl 1 rfl) ?_
        obtain ⟨c_4, h⟩ := rz_chk h
        refine rg_getP hx hb hown hK hR hk_M 2 (by decide) kf_M_7 rfl c_4 dM_write_114 ?_
        refine lv_aload_n hx hb dM_write_117 rfl (lv_at hl 1 rfl) ?_
        refine rg_getI hx hb hown hK hR hk_M 1 (by decide) kf_M_66 rfl c_4 dM_write_118 ?_
        refine lv_iload hx hb dM_write_121 (lv_at hl 0 rfl) ?_
        refine lv_i2c hx hb dM_write_123 rfl ?_
        obtain ⟨a_5, e_6, h⟩ := rz_d h
        rw [e_6]
        obtain ⟨c_7, h⟩ := rz_chk h
        obtain ⟨c_8, h⟩ := rz_chk h
        obtain ⟨c_9, h⟩ := rz_chk h
        obtain ⟨M_10, q_11, h⟩ := rz_m h
        refine rg_cast hx hb hK hR c_7 c_8 c_9 dM_write_124 (fun H locs hR => ?_)
        rw [← q_11] at hR
        have c_12 : mK M_10 a0 = 5 := by rw [q_11]; exact c_4
        have c_13 : mK M_10 a_5 = 22 := by rw [q_11]; exact c_7
        refine lv_aload_n hx hb dM_write_125 rfl (lv_at hl 1 rfl) ?_
        refine lv_dup hx hb dM_write_126 rfl ?_
        refine rg_getI hx hb hown hK hR hk_M 1 (by decide) kf_M_66 rfl c_12 dM_write_127 ?_
        refine lv_iconst (v := 1) hx hb dM_write_130 (by decide) ?_
        refine lv_iadd hx hb dM_write_131 ?_
        obtain ⟨M_14, q_15, h⟩ := rz_m h
        refine rg_putI hx hb hown hK hR hk_M 1 (by decide) kf_M_66 rfl rfl (ty := .int) (by decide +kernel) (Or.inl rfl) rfl c_12 dM_write_132 (fun H locs hR => ?_)
        rw [← q_15] at hR
        have c_16 : mK M_14 a0 = 5 := by rw [q_15]; exact c_12
        have c_17 : mK M_14 a_5 = 22 := by rw [q_15]; exact c_13
        exact tM_write_135 F hC ih a0 l1 x4 _ _ _ _ _ _ h hR (lv_sub hl [1, 2, 3] rfl)
def fM_write_10 (n d : Nat) (C : Cx) : Nat → Nat → Int64 → Int32 → Int32 → Mem → Rz
  | 0, _, _, _, _, _ => none
  | w + 1, a0, l1, x3, x4, M => if 8 ≤ x4 then (if mK M a0 = 5 then (if ((mI M a0 1) + x3) ≤ 120 then (fM_write_87 n d C n a0 l1 0 M) else (if fits .boolean (.int 0) = true then (some (.inl (some (.int 0)), M)) else none)) else none) else (if (((l1 >>> ((8 * x4).toInt64 &&& 63)) &&& 255).toInt32) = 0 then (fM_write_52 n d C (fM_write_10 n d C w) a0 l1 x3 x4 (((l1 >>> ((8 * x4).toInt64 &&& 63)) &&& 255).toInt32) M) else (if (((l1 >>> ((8 * x4).toInt64 &&& 63)) &&& 255).toInt32) < 32 then (fM_write_50 n d C M) else (if (((l1 >>> ((8 * x4).toInt64 &&& 63)) &&& 255).toInt32) ≤ 126 then (fM_write_52 n d C (fM_write_10 n d C w) a0 l1 x3 x4 (((l1 >>> ((8 * x4).toInt64 &&& 63)) &&& 255).toInt32) M) else (fM_write_50 n d C M))))
set_option maxRecDepth 100000 in
set_option maxHeartbeats 4000000 in
theorem tM_write_10 {n : Nat} (F : FX p s m meth c G R M0 d "HeadCountModel" bM_write 6 (some .boolean)) (hC : CBs l G d C) : ∀ (w : Nat) (a0 : Nat) (l1 : Int64) (x3 : Int32) (x4 : Int32) (M : Mem) (H : Heap) (locs : List Loc) (cells slots : Nat) (ls : Array Slot), fM_write_10 n d C w a0 l1 x3 x4 M = some (r, M') → RL G M0 M H locs cells slots → lv_has ls 6 [(0, .ref a0), (1, .long l1), (3, .int x3), (4, .int x4)] → W p l e R s m args below meth c H locs cells slots (CQ G below s M0 r M') (F0 m 10 ls []) := by
  obtain ⟨hx, hb, hml, hown, hrt, hlk, hex, hK, hRm⟩ := id F
  intro w
  induction w with
  | zero => intro a0 l1 x3 x4 M H locs cells slots ls h; cases h
  | succ w ih =>
    intro a0 l1 x3 x4 M H locs cells slots ls h hR hl
    rw [fM_write_10] at h
    refine lv_iload hx hb dM_write_10 (lv_at hl 3 rfl) ?_
    refine lv_bipush (v := 8) hx hb dM_write_12 (by decide) ?_
    refine lv_icmp_ge (tgt := 71) hx hb dM_write_14 (by decide) (fun c_1 => ?_) (fun c_1 => ?_)
    · replace h := rz_t c_1 h
      refine lv_aload_n hx hb dM_write_71 rfl (lv_at hl 0 rfl) ?_
      obtain ⟨c_2, h⟩ := rz_chk h
      refine rg_getI hx hb hown hK hR hk_M 1 (by decide) kf_M_66 rfl c_2 dM_write_72 ?_
      refine lv_iload_n hx hb dM_write_75 rfl (lv_at hl 2 rfl) ?_
      refine lv_iadd hx hb dM_write_76 ?_
      refine lv_bipush (v := 120) hx hb dM_write_77 (by decide) ?_
      refine lv_icmp_le (tgt := 84) hx hb dM_write_79 (by decide) (fun c_3 => ?_) (fun c_3 => ?_)
      · replace h := rz_t c_3 h
        refine lv_iconst (v := 0) hx hb dM_write_84 (by decide) ?_
        refine lv_istore (lv' := [(4, .int 0), (0, .ref a0), (1, .long l1), (3, .int x3)]) hx hb dM_write_85 hl (by decide) rfl (fun ls hl => ?_)
        exact tM_write_87 F hC n a0 l1 0 _ _ _ _ _ _ h hR (lv_sub hl [1, 2, 0] rfl)
      · replace h := rz_f c_3 h
        refine lv_iconst (v := 0) hx hb dM_write_82 (by decide) ?_
        obtain ⟨c_4, h⟩ := rz_chk h
        cases h
        exact rt_i hx hb hlk hrt (Or.inr (Or.inr rfl)) c_4 hR dM_write_83
    · replace h := rz_f c_1 h
      refine lv_lload_n hx hb dM_write_17 rfl (lv_at hl 1 rfl) ?_
      refine lv_bipush (v := 8) hx hb dM_write_18 (by decide) ?_
      refine lv_iload hx hb dM_write_20 (lv_at hl 3 rfl) ?_
      refine lv_imul hx hb dM_write_22 ?_
      refine lv_lshr hx hb dM_write_23 rfl ?_
      refine lv_ldc2 (v := 255) hx hb hown (hK.w kq_M_64 rfl args) dM_write_24 ?_
      refine lv_land hx hb dM_write_27 ?_
      refine lv_l2i hx hb dM_write_28 rfl ?_
      refine lv_istore (lv' := [(5, .int (((l1 >>> ((8 * x4).toInt64 &&& 63)) &&& 255).toInt32)), (0, .ref a0), (1, .long l1), (3, .int x3), (4, .int x4)]) hx hb dM_write_29 hl (by decide) rfl (fun ls hl => ?_)
      refine lv_iload hx hb dM_write_31 (lv_at hl 0 rfl) ?_
      refine lv_if_eq (tgt := 52) hx hb dM_write_33 (by decide) (fun c_5 => ?_) (fun c_5 => ?_)
      · replace h := rz_t c_5 h
        exact tM_write_52 F hC ih a0 l1 x3 x4 (((l1 >>> ((8 * x4).toInt64 &&& 63)) &&& 255).toInt32) _ _ _ _ _ _ h hR (lv_sub hl [1, 2, 3, 4, 0] rfl)
      · replace h := rz_f c_5 h
        refine lv_iload hx hb dM_write_36 (lv_at hl 0 rfl) ?_
        refine lv_bipush (v := 32) hx hb dM_write_38 (by decide) ?_
        refine lv_icmp_lt (tgt := 50) hx hb dM_write_40 (by decide) (fun c_6 => ?_) (fun c_6 => ?_)
        · replace h := rz_t c_6 h
          exact tM_write_50 F hC _ _ _ _ _ _ h hR (lv_sub hl [] rfl)
        · replace h := rz_f c_6 h
          refine lv_iload hx hb dM_write_43 (lv_at hl 0 rfl) ?_
          refine lv_bipush (v := 126) hx hb dM_write_45 (by decide) ?_
          refine lv_icmp_le (tgt := 52) hx hb dM_write_47 (by decide) (fun c_7 => ?_) (fun c_7 => ?_)
          · replace h := rz_t c_7 h
            exact tM_write_52 F hC ih a0 l1 x3 x4 (((l1 >>> ((8 * x4).toInt64 &&& 63)) &&& 255).toInt32) _ _ _ _ _ _ h hR (lv_sub hl [1, 2, 3, 4, 0] rfl)
          · replace h := rz_f c_7 h
            exact tM_write_50 F hC _ _ _ _ _ _ h hR (lv_sub hl [] rfl)
def fM_write_0 (n d : Nat) (C : Cx) (a0 : Nat) (l1 : Int64) (M : Mem) : Rz := if mK M a0 = 5 then (rzM (setI M a0 0 0) fun M_2 => (fM_write_10 n d C n a0 l1 0 0 M_2)) else none
set_option maxRecDepth 100000 in
set_option maxHeartbeats 4000000 in
theorem tM_write_0 {n : Nat} (F : FX p s m meth c G R M0 d "HeadCountModel" bM_write 6 (some .boolean)) (hC : CBs l G d C) : ∀ (a0 : Nat) (l1 : Int64) (M : Mem) (H : Heap) (locs : List Loc) (cells slots : Nat) (ls : Array Slot), fM_write_0 n d C a0 l1 M = some (r, M') → RL G M0 M H locs cells slots → lv_has ls 6 [(0, .ref a0), (1, .long l1)] → W p l e R s m args below meth c H locs cells slots (CQ G below s M0 r M') (F0 m 0 ls []) := by
  obtain ⟨hx, hb, hml, hown, hrt, hlk, hex, hK, hRm⟩ := id F
  intro a0 l1 M H locs cells slots ls h hR hl
  unfold fM_write_0 at h
  refine lv_aload_n hx hb dM_write_0 rfl (lv_at hl 0 rfl) ?_
  refine lv_iconst (v := 0) hx hb dM_write_1 (by decide) ?_
  obtain ⟨c_1, h⟩ := rz_chk h
  obtain ⟨M_2, q_3, h⟩ := rz_m h
  refine rg_putI hx hb hown hK hR hk_M 0 (by decide) kf_M_60 rfl rfl (ty := .int) (by decide +kernel) (Or.inl rfl) rfl c_1 dM_write_2 (fun H locs hR => ?_)
  rw [← q_3] at hR
  have c_4 : mK M_2 a0 = 5 := by rw [q_3]; exact c_1
  refine lv_iconst (v := 0) hx hb dM_write_5 (by decide) ?_
  refine lv_istore_n (lv' := [(3, .int 0), (0, .ref a0), (1, .long l1)]) hx hb dM_write_6 rfl hl (by decide) rfl (fun ls hl => ?_)
  refine lv_iconst (v := 0) hx hb dM_write_7 (by decide) ?_
  refine lv_istore (lv' := [(4, .int 0), (3, .int 0), (0, .ref a0), (1, .long l1)]) hx hb dM_write_8 hl (by decide) rfl (fun ls hl => ?_)
  exact tM_write_10 F hC n a0 l1 0 0 _ _ _ _ _ _ h hR (lv_sub hl [2, 3, 1, 0] rfl)
set_option maxRecDepth 100000 in
set_option maxHeartbeats 4000000 in
theorem sM_write {l : Launch} {G : Gx} {n d : Nat} {C : Cx} (hC : CBs l G d C) (a0 : Nat) (l1 : Int64) {M M' : Mem} {r : Option Value ⊕ Nat} (h : fM_write_0 n d C a0 l1 M = some (r, M')) : CB l G (d + 1) yM_write [.ref a0, .long l1] M r M' := by
  intro p e R s m below meth c hx hn hm hc hlk hK hR hcap hS hU hfr hlo hrc hrs
  obtain ⟨hb, hml, hrt, hex, hown⟩ := fx_of hn hm hc (hK.w mfM_write.2.2.1 rfl #[])
  have F : FX p s m meth c G R M d "HeadCountModel" bM_write 6 (some .boolean) := ⟨hx, hb, hml, hown, hrt, hlk, hex, hK, hfr, hlo, by rw [← hcap]; exact hrc, hrs⟩
  rw [hml]
  have hl := lv_entry ([.ref a0, .long l1]) (n := 6) (by simp [lg_sl, cat_rf, Value.category])
  rw [lg_entry_eq]
  generalize (lg_sl ([.ref a0, .long l1]) ++ List.replicate (6 - (lg_sl ([.ref a0, .long l1])).length) Slot.unset).toArray = ls at hl ⊢
  have hl : lv_has ls 6 [(0, .ref a0), (1, .long l1)] := by simpa [lv_args, cat_rf, Value.category] using hl
  exact tM_write_0 F hC a0 l1 _ _ _ _ _ _ h (RL.start hR hcap hS hU) (lv_sub hl [0, 1] rfl)
def fM_wipe_0 (n d : Nat) (C : Cx) (a0 : Nat) (M : Mem) : Rz := if mK M a0 = 5 then (rzM (setI M a0 0 0) fun M_2 => (rzM (setI M_2 a0 1 0) fun M_5 => (some (.inl (some (.int (mI M_2 a0 1))), M_5)))) else none
set_option maxRecDepth 100000 in
set_option maxHeartbeats 4000000 in
theorem tM_wipe_0 {n : Nat} (F : FX p s m meth c G R M0 d "HeadCountModel" bM_wipe 2 (some .int)) (hC : CBs l G d C) : ∀ (a0 : Nat) (M : Mem) (H : Heap) (locs : List Loc) (cells slots : Nat) (ls : Array Slot), fM_wipe_0 n d C a0 M = some (r, M') → RL G M0 M H locs cells slots → lv_has ls 2 [(0, .ref a0)] → W p l e R s m args below meth c H locs cells slots (CQ G below s M0 r M') (F0 m 0 ls []) := by
  obtain ⟨hx, hb, hml, hown, hrt, hlk, hex, hK, hRm⟩ := id F
  intro a0 M H locs cells slots ls h hR hl
  unfold fM_wipe_0 at h
  refine lv_aload_n hx hb dM_wipe_0 rfl (lv_at hl 0 rfl) ?_
  refine lv_iconst (v := 0) hx hb dM_wipe_1 (by decide) ?_
  obtain ⟨c_1, h⟩ := rz_chk h
  obtain ⟨M_2, q_3, h⟩ := rz_m h
  refine rg_putI hx hb hown hK hR hk_M 0 (by decide) kf_M_60 rfl rfl (ty := .int) (by decide +kernel) (Or.inl rfl) rfl c_1 dM_wipe_2 (fun H locs hR => ?_)
  rw [← q_3] at hR
  have c_4 : mK M_2 a0 = 5 := by rw [q_3]; exact c_1
  refine lv_aload_n hx hb dM_wipe_5 rfl (lv_at hl 0 rfl) ?_
  refine rg_getI hx hb hown hK hR hk_M 1 (by decide) kf_M_66 rfl c_4 dM_wipe_6 ?_
  refine lv_istore_n (lv' := [(1, .int (mI M_2 a0 1)), (0, .ref a0)]) hx hb dM_wipe_9 rfl hl (by decide) rfl (fun ls hl => ?_)
  refine lv_aload_n hx hb dM_wipe_10 rfl (lv_at hl 1 rfl) ?_
  refine lv_iconst (v := 0) hx hb dM_wipe_11 (by decide) ?_
  obtain ⟨M_5, q_6, h⟩ := rz_m h
  refine rg_putI hx hb hown hK hR hk_M 1 (by decide) kf_M_66 rfl rfl (ty := .int) (by decide +kernel) (Or.inl rfl) rfl c_4 dM_wipe_12 (fun H locs hR => ?_)
  rw [← q_6] at hR
  have c_7 : mK M_5 a0 = 5 := by rw [q_6]; exact c_4
  refine lv_iload_n hx hb dM_wipe_15 rfl (lv_at hl 0 rfl) ?_
  cases h
  exact rt_i hx hb hlk hrt (Or.inl rfl) rfl hR dM_wipe_16
set_option maxRecDepth 100000 in
set_option maxHeartbeats 4000000 in
theorem sM_wipe {l : Launch} {G : Gx} {n d : Nat} {C : Cx} (hC : CBs l G d C) (a0 : Nat) {M M' : Mem} {r : Option Value ⊕ Nat} (h : fM_wipe_0 n d C a0 M = some (r, M')) : CB l G (d + 1) yM_wipe [.ref a0] M r M' := by
  intro p e R s m below meth c hx hn hm hc hlk hK hR hcap hS hU hfr hlo hrc hrs
  obtain ⟨hb, hml, hrt, hex, hown⟩ := fx_of hn hm hc (hK.w mfM_wipe.2.2.1 rfl #[])
  have F : FX p s m meth c G R M d "HeadCountModel" bM_wipe 2 (some .int) := ⟨hx, hb, hml, hown, hrt, hlk, hex, hK, hfr, hlo, by rw [← hcap]; exact hrc, hrs⟩
  rw [hml]
  have hl := lv_entry ([.ref a0]) (n := 2) (by simp [lg_sl, cat_rf, Value.category])
  rw [lg_entry_eq]
  generalize (lg_sl ([.ref a0]) ++ List.replicate (2 - (lg_sl ([.ref a0])).length) Slot.unset).toArray = ls at hl ⊢
  have hl : lv_has ls 2 [(0, .ref a0)] := by simpa [lv_args, cat_rf, Value.category] using hl
  exact tM_wipe_0 F hC a0 _ _ _ _ _ _ h (RL.start hR hcap hS hU) (lv_sub hl [0] rfl)
def fM_length_0 (n d : Nat) (C : Cx) (a0 : Nat) (M : Mem) : Rz := if mK M a0 = 5 then (rzM (setI M a0 0 0) fun M_2 => (some (.inl (some (.int (mI M_2 a0 1))), M_2))) else none
set_option maxRecDepth 100000 in
set_option maxHeartbeats 4000000 in
theorem tM_length_0 {n : Nat} (F : FX p s m meth c G R M0 d "HeadCountModel" bM_length 1 (some .int)) (hC : CBs l G d C) : ∀ (a0 : Nat) (M : Mem) (H : Heap) (locs : List Loc) (cells slots : Nat) (ls : Array Slot), fM_length_0 n d C a0 M = some (r, M') → RL G M0 M H locs cells slots → lv_has ls 1 [(0, .ref a0)] → W p l e R s m args below meth c H locs cells slots (CQ G below s M0 r M') (F0 m 0 ls []) := by
  obtain ⟨hx, hb, hml, hown, hrt, hlk, hex, hK, hRm⟩ := id F
  intro a0 M H locs cells slots ls h hR hl
  unfold fM_length_0 at h
  refine lv_aload_n hx hb dM_length_0 rfl (lv_at hl 0 rfl) ?_
  refine lv_iconst (v := 0) hx hb dM_length_1 (by decide) ?_
  obtain ⟨c_1, h⟩ := rz_chk h
  obtain ⟨M_2, q_3, h⟩ := rz_m h
  refine rg_putI hx hb hown hK hR hk_M 0 (by decide) kf_M_60 rfl rfl (ty := .int) (by decide +kernel) (Or.inl rfl) rfl c_1 dM_length_2 (fun H locs hR => ?_)
  rw [← q_3] at hR
  have c_4 : mK M_2 a0 = 5 := by rw [q_3]; exact c_1
  refine lv_aload_n hx hb dM_length_5 rfl (lv_at hl 0 rfl) ?_
  refine rg_getI hx hb hown hK hR hk_M 1 (by decide) kf_M_66 rfl c_4 dM_length_6 ?_
  cases h
  exact rt_i hx hb hlk hrt (Or.inl rfl) rfl hR dM_length_9
set_option maxRecDepth 100000 in
set_option maxHeartbeats 4000000 in
theorem sM_length {l : Launch} {G : Gx} {n d : Nat} {C : Cx} (hC : CBs l G d C) (a0 : Nat) {M M' : Mem} {r : Option Value ⊕ Nat} (h : fM_length_0 n d C a0 M = some (r, M')) : CB l G (d + 1) yM_length [.ref a0] M r M' := by
  intro p e R s m below meth c hx hn hm hc hlk hK hR hcap hS hU hfr hlo hrc hrs
  obtain ⟨hb, hml, hrt, hex, hown⟩ := fx_of hn hm hc (hK.w mfM_length.2.2.1 rfl #[])
  have F : FX p s m meth c G R M d "HeadCountModel" bM_length 1 (some .int) := ⟨hx, hb, hml, hown, hrt, hlk, hex, hK, hfr, hlo, by rw [← hcap]; exact hrc, hrs⟩
  rw [hml]
  have hl := lv_entry ([.ref a0]) (n := 1) (by simp [lg_sl, cat_rf, Value.category])
  rw [lg_entry_eq]
  generalize (lg_sl ([.ref a0]) ++ List.replicate (1 - (lg_sl ([.ref a0])).length) Slot.unset).toArray = ls at hl ⊢
  have hl : lv_has ls 1 [(0, .ref a0)] := by simpa [lv_args, cat_rf, Value.category] using hl
  exact tM_length_0 F hC a0 _ _ _ _ _ _ h (RL.start hR hcap hS hU) (lv_sub hl [0] rfl)
def fM_deeper_0 (n d : Nat) (C : Cx) (a0 : Nat) (x1 : Int32) (M : Mem) : Rz := if mK M a0 = 5 then (if (mI M a0 24) < 12 then (rzM (setI M a0 24 ((mI M a0 24) + 1)) fun M_3 => (rzC (C 75 [.ref a0, .int x1] M_3) fun v_6 M_7 => (rzV v_6 (if fits .boolean (.int 1) = true then (some (.inl (some (.int 1)), M_7)) else none)))) else (if fits .boolean (.int 0) = true then (some (.inl (some (.int 0)), M)) else none)) else none
set_option maxRecDepth 100000 in
set_option maxHeartbeats 4000000 in
theorem tM_deeper_0 {n : Nat} (F : FX p s m meth c G R M0 d "HeadCountModel" bM_deeper 2 (some .boolean)) (hC : CBs l G d C) : ∀ (a0 : Nat) (x1 : Int32) (M : Mem) (H : Heap) (locs : List Loc) (cells slots : Nat) (ls : Array Slot), fM_deeper_0 n d C a0 x1 M = some (r, M') → RL G M0 M H locs cells slots → lv_has ls 2 [(0, .ref a0), (1, .int x1)] → W p l e R s m args below meth c H locs cells slots (CQ G below s M0 r M') (F0 m 0 ls []) := by
  obtain ⟨hx, hb, hml, hown, hrt, hlk, hex, hK, hRm⟩ := id F
  intro a0 x1 M H locs cells slots ls h hR hl
  unfold fM_deeper_0 at h
  refine lv_aload_n hx hb dM_deeper_0 rfl (lv_at hl 0 rfl) ?_
  obtain ⟨c_1, h⟩ := rz_chk h
  refine rg_getI hx hb hown hK hR hk_M 24 (by decide) kf_M_75 rfl c_1 dM_deeper_1 ?_
  refine lv_bipush (v := 12) hx hb dM_deeper_4 (by decide) ?_
  refine lv_icmp_lt (tgt := 11) hx hb dM_deeper_6 (by decide) (fun c_2 => ?_) (fun c_2 => ?_)
  · replace h := rz_t c_2 h
    refine lv_aload_n hx hb dM_deeper_11 rfl (lv_at hl 0 rfl) ?_
    refine lv_dup hx hb dM_deeper_12 rfl ?_
    refine rg_getI hx hb hown hK hR hk_M 24 (by decide) kf_M_75 rfl c_1 dM_deeper_13 ?_
    refine lv_iconst (v := 1) hx hb dM_deeper_16 (by decide) ?_
    refine lv_iadd hx hb dM_deeper_17 ?_
    obtain ⟨M_3, q_4, h⟩ := rz_m h
    refine rg_putI hx hb hown hK hR hk_M 24 (by decide) kf_M_75 rfl rfl (ty := .int) (by decide +kernel) (Or.inl rfl) rfl c_1 dM_deeper_18 (fun H locs hR => ?_)
    rw [← q_4] at hR
    have c_5 : mK M_3 a0 = 5 := by rw [q_4]; exact c_1
    refine lv_aload_n hx hb dM_deeper_21 rfl (lv_at hl 0 rfl) ?_
    refine lv_iload_n hx hb dM_deeper_22 rfl (lv_at hl 1 rfl) ?_
    obtain ⟨q_9, M_7, h_8, h⟩ := rz_c h
    refine rc_V (rest := []) (As := [.int x1]) hx hb (hl.1.trans hml.symm) hown hK hR hRm mfM_push kl_M_78 hk_M rfl rfl c_5 (by simp [cat_rf, Value.category]) (hC 75 _ _ _ _ h_8) dM_deeper_23 (fun v1 H locs cells slots ev hR => ?_) (fun x1 q1 ce1 H locs cells slots ex hR g1 g2 g3 => ?_)
    · rcases h with ⟨v_6, ev2, h⟩ | ⟨e2, ee2, -⟩
      · cases ev.symm.trans ev2
        replace h := rz_v h
        obtain ⟨rfl, h⟩ := h
        dsimp only [Option.toList, List.cons_append, List.nil_append]
        refine lv_iconst (v := 1) hx hb dM_deeper_26 (by decide) ?_
        obtain ⟨c_10, h⟩ := rz_chk h
        cases h
        exact rt_i hx hb hlk hrt (Or.inr (Or.inr rfl)) c_10 hR dM_deeper_27
      · cases ev.symm.trans ee2
    · rcases h with ⟨v2, ev2, -⟩ | ⟨e2, ee2, h⟩
      · cases ex.symm.trans ev2
      · cases ex.symm.trans ee2
        cases h
        exact rt_x hlk hex hR g1 g2 g3
  · replace h := rz_f c_2 h
    refine lv_iconst (v := 0) hx hb dM_deeper_9 (by decide) ?_
    obtain ⟨c_11, h⟩ := rz_chk h
    cases h
    exact rt_i hx hb hlk hrt (Or.inr (Or.inr rfl)) c_11 hR dM_deeper_10
set_option maxRecDepth 100000 in
set_option maxHeartbeats 4000000 in
theorem sM_deeper {l : Launch} {G : Gx} {n d : Nat} {C : Cx} (hC : CBs l G d C) (a0 : Nat) (x1 : Int32) {M M' : Mem} {r : Option Value ⊕ Nat} (h : fM_deeper_0 n d C a0 x1 M = some (r, M')) : CB l G (d + 1) yM_deeper [.ref a0, .int x1] M r M' := by
  intro p e R s m below meth c hx hn hm hc hlk hK hR hcap hS hU hfr hlo hrc hrs
  obtain ⟨hb, hml, hrt, hex, hown⟩ := fx_of hn hm hc (hK.w mfM_deeper.2.2.1 rfl #[])
  have F : FX p s m meth c G R M d "HeadCountModel" bM_deeper 2 (some .boolean) := ⟨hx, hb, hml, hown, hrt, hlk, hex, hK, hfr, hlo, by rw [← hcap]; exact hrc, hrs⟩
  rw [hml]
  have hl := lv_entry ([.ref a0, .int x1]) (n := 2) (by simp [lg_sl, cat_rf, Value.category])
  rw [lg_entry_eq]
  generalize (lg_sl ([.ref a0, .int x1]) ++ List.replicate (2 - (lg_sl ([.ref a0, .int x1])).length) Slot.unset).toArray = ls at hl ⊢
  have hl : lv_has ls 2 [(0, .ref a0), (1, .int x1)] := by simpa [lv_args, cat_rf, Value.category] using hl
  exact tM_deeper_0 F hC a0 x1 _ _ _ _ _ _ h (RL.start hR hcap hS hU) (lv_sub hl [0, 1] rfl)
def fM_push_0 (n d : Nat) (C : Cx) (a0 : Nat) (x1 : Int32) (M : Mem) : Rz := if mK M a0 = 5 then (rzD (mP M a0 20) fun a_2 => (if mK M a_2 = 21 then (if inA (mI M a0 19) (mL M a_2) then (rzM (setI M a_2 (mI M a0 19).toNatClampNeg x1) fun M_6 => (rzM (setI M_6 a0 19 ((mI M_6 a0 19) + 1)) fun M_10 => (some (.inl none, M_10)))) else none) else none)) else none
set_option maxRecDepth 100000 in
set_option maxHeartbeats 4000000 in
theorem tM_push_0 {n : Nat} (F : FX p s m meth c G R M0 d "HeadCountModel" bM_push 2 none) (hC : CBs l G d C) : ∀ (a0 : Nat) (x1 : Int32) (M : Mem) (H : Heap) (locs : List Loc) (cells slots : Nat) (ls : Array Slot), fM_push_0 n d C a0 x1 M = some (r, M') → RL G M0 M H locs cells slots → lv_has ls 2 [(0, .ref a0), (1, .int x1)] → W p l e R s m args below meth c H locs cells slots (CQ G below s M0 r M') (F0 m 0 ls []) := by
  obtain ⟨hx, hb, hml, hown, hrt, hlk, hex, hK, hRm⟩ := id F
  intro a0 x1 M H locs cells slots ls h hR hl
  unfold fM_push_0 at h
  refine lv_aload_n hx hb dM_push_0 rfl (lv_at hl 0 rfl) ?_
  obtain ⟨c_1, h⟩ := rz_chk h
  refine rg_getP hx hb hown hK hR hk_M 20 (by decide) kf_M_39 rfl c_1 dM_push_1 ?_
  refine lv_aload_n hx hb dM_push_4 rfl (lv_at hl 0 rfl) ?_
  refine rg_getI hx hb hown hK hR hk_M 19 (by decide) kf_M_72 rfl c_1 dM_push_5 ?_
  refine lv_iload_n hx hb dM_push_8 rfl (lv_at hl 1 rfl) ?_
  obtain ⟨a_2, e_3, h⟩ := rz_d h
  rw [e_3]
  obtain ⟨c_4, h⟩ := rz_chk h
  obtain ⟨c_5, h⟩ := rz_chk h
  obtain ⟨M_6, q_7, h⟩ := rz_m h
  refine rg_iast hx hb hK hR c_4 c_5 dM_push_9 (fun H locs hR => ?_)
  rw [← q_7] at hR
  have c_8 : mK M_6 a0 = 5 := by rw [q_7]; exact c_1
  have c_9 : mK M_6 a_2 = 21 := by rw [q_7]; exact c_4
  refine lv_aload_n hx hb dM_push_10 rfl (lv_at hl 0 rfl) ?_
  refine lv_dup hx hb dM_push_11 rfl ?_
  refine rg_getI hx hb hown hK hR hk_M 19 (by decide) kf_M_72 rfl c_8 dM_push_12 ?_
  refine lv_iconst (v := 1) hx hb dM_push_15 (by decide) ?_
  refine lv_iadd hx hb dM_push_16 ?_
  obtain ⟨M_10, q_11, h⟩ := rz_m h
  refine rg_putI hx hb hown hK hR hk_M 19 (by decide) kf_M_72 rfl rfl (ty := .int) (by decide +kernel) (Or.inl rfl) rfl c_8 dM_push_17 (fun H locs hR => ?_)
  rw [← q_11] at hR
  have c_12 : mK M_10 a0 = 5 := by rw [q_11]; exact c_8
  have c_13 : mK M_10 a_2 = 21 := by rw [q_11]; exact c_9
  cases h
  exact rt_v hx hb hlk hrt hR dM_push_20
set_option maxRecDepth 100000 in
set_option maxHeartbeats 4000000 in
theorem sM_push {l : Launch} {G : Gx} {n d : Nat} {C : Cx} (hC : CBs l G d C) (a0 : Nat) (x1 : Int32) {M M' : Mem} {r : Option Value ⊕ Nat} (h : fM_push_0 n d C a0 x1 M = some (r, M')) : CB l G (d + 1) yM_push [.ref a0, .int x1] M r M' := by
  intro p e R s m below meth c hx hn hm hc hlk hK hR hcap hS hU hfr hlo hrc hrs
  obtain ⟨hb, hml, hrt, hex, hown⟩ := fx_of hn hm hc (hK.w mfM_push.2.2.1 rfl #[])
  have F : FX p s m meth c G R M d "HeadCountModel" bM_push 2 none := ⟨hx, hb, hml, hown, hrt, hlk, hex, hK, hfr, hlo, by rw [← hcap]; exact hrc, hrs⟩
  rw [hml]
  have hl := lv_entry ([.ref a0, .int x1]) (n := 2) (by simp [lg_sl, cat_rf, Value.category])
  rw [lg_entry_eq]
  generalize (lg_sl ([.ref a0, .int x1]) ++ List.replicate (2 - (lg_sl ([.ref a0, .int x1])).length) Slot.unset).toArray = ls at hl ⊢
  have hl : lv_has ls 2 [(0, .ref a0), (1, .int x1)] := by simpa [lv_args, cat_rf, Value.category] using hl
  exact tM_push_0 F hC a0 x1 _ _ _ _ _ _ h (RL.start hR hcap hS hU) (lv_sub hl [0, 1] rfl)
def fM_isDigit_17 (n d : Nat) (C : Cx) (xs0 : Int32) (M : Mem) : Rz := if fits .boolean (.int xs0) = true then (some (.inl (some (.int xs0)), M)) else none
set_option maxRecDepth 100000 in
set_option maxHeartbeats 4000000 in
theorem tM_isDigit_17 {n : Nat} (F : FX p s m meth c G R M0 d "HeadCountModel" bM_isDigit 1 (some .boolean)) (hC : CBs l G d C) : ∀ (xs0 : Int32) (M : Mem) (H : Heap) (locs : List Loc) (cells slots : Nat) (ls : Array Slot), fM_isDigit_17 n d C xs0 M = some (r, M') → RL G M0 M H locs cells slots → lv_has ls 1 [] → W p l e R s m args below meth c H locs cells slots (CQ G below s M0 r M') (F0 m 17 ls [.int xs0]) := by
  obtain ⟨hx, hb, hml, hown, hrt, hlk, hex, hK, hRm⟩ := id F
  intro xs0 M H locs cells slots ls h hR hl
  unfold fM_isDigit_17 at h
  obtain ⟨c_1, h⟩ := rz_chk h
  cases h
  exact rt_i hx hb hlk hrt (Or.inr (Or.inr rfl)) c_1 hR dM_isDigit_17
def fM_isDigit_16 (n d : Nat) (C : Cx) (M : Mem) : Rz := fM_isDigit_17 n d C 0 M
set_option maxRecDepth 100000 in
set_option maxHeartbeats 4000000 in
theorem tM_isDigit_16 {n : Nat} (F : FX p s m meth c G R M0 d "HeadCountModel" bM_isDigit 1 (some .boolean)) (hC : CBs l G d C) : ∀ (M : Mem) (H : Heap) (locs : List Loc) (cells slots : Nat) (ls : Array Slot), fM_isDigit_16 n d C M = some (r, M') → RL G M0 M H locs cells slots → lv_has ls 1 [] → W p l e R s m args below meth c H locs cells slots (CQ G below s M0 r M') (F0 m 16 ls []) := by
  obtain ⟨hx, hb, hml, hown, hrt, hlk, hex, hK, hRm⟩ := id F
  intro M H locs cells slots ls h hR hl
  unfold fM_isDigit_16 at h
  refine lv_iconst (v := 0) hx hb dM_isDigit_16 (by decide) ?_
  exact tM_isDigit_17 F hC 0 _ _ _ _ _ _ h hR (lv_sub hl [] rfl)
def fM_isDigit_0 (n d : Nat) (C : Cx) (x0 : Int32) (M : Mem) : Rz := if x0 < 48 then (fM_isDigit_16 n d C M) else (if 57 < x0 then (fM_isDigit_16 n d C M) else (fM_isDigit_17 n d C 1 M))
set_option maxRecDepth 100000 in
set_option maxHeartbeats 4000000 in
theorem tM_isDigit_0 {n : Nat} (F : FX p s m meth c G R M0 d "HeadCountModel" bM_isDigit 1 (some .boolean)) (hC : CBs l G d C) : ∀ (x0 : Int32) (M : Mem) (H : Heap) (locs : List Loc) (cells slots : Nat) (ls : Array Slot), fM_isDigit_0 n d C x0 M = some (r, M') → RL G M0 M H locs cells slots → lv_has ls 1 [(0, .int x0)] → W p l e R s m args below meth c H locs cells slots (CQ G below s M0 r M') (F0 m 0 ls []) := by
  obtain ⟨hx, hb, hml, hown, hrt, hlk, hex, hK, hRm⟩ := id F
  intro x0 M H locs cells slots ls h hR hl
  unfold fM_isDigit_0 at h
  refine lv_iload_n hx hb dM_isDigit_0 rfl (lv_at hl 0 rfl) ?_
  refine lv_bipush (v := 48) hx hb dM_isDigit_1 (by decide) ?_
  refine lv_icmp_lt (tgt := 16) hx hb dM_isDigit_3 (by decide) (fun c_1 => ?_) (fun c_1 => ?_)
  · replace h := rz_t c_1 h
    exact tM_isDigit_16 F hC _ _ _ _ _ _ h hR (lv_sub hl [] rfl)
  · replace h := rz_f c_1 h
    refine lv_iload_n hx hb dM_isDigit_6 rfl (lv_at hl 0 rfl) ?_
    refine lv_bipush (v := 57) hx hb dM_isDigit_7 (by decide) ?_
    refine lv_icmp_gt (tgt := 16) hx hb dM_isDigit_9 (by decide) (fun c_2 => ?_) (fun c_2 => ?_)
    · replace h := rz_t c_2 h
      exact tM_isDigit_16 F hC _ _ _ _ _ _ h hR (lv_sub hl [] rfl)
    · replace h := rz_f c_2 h
      refine lv_iconst (v := 1) hx hb dM_isDigit_12 (by decide) ?_
      refine lv_goto (tgt := 17) hx hb dM_isDigit_13 (by decide) ?_
      exact tM_isDigit_17 F hC 1 _ _ _ _ _ _ h hR (lv_sub hl [] rfl)
set_option maxRecDepth 100000 in
set_option maxHeartbeats 4000000 in
theorem sM_isDigit {l : Launch} {G : Gx} {n d : Nat} {C : Cx} (hC : CBs l G d C) (x0 : Int32) {M M' : Mem} {r : Option Value ⊕ Nat} (h : fM_isDigit_0 n d C x0 M = some (r, M')) : CB l G (d + 1) yM_isDigit [.int x0] M r M' := by
  intro p e R s m below meth c hx hn hm hc hlk hK hR hcap hS hU hfr hlo hrc hrs
  obtain ⟨hb, hml, hrt, hex, hown⟩ := fx_of hn hm hc (hK.w mfM_isDigit.2.2.1 rfl #[])
  have F : FX p s m meth c G R M d "HeadCountModel" bM_isDigit 1 (some .boolean) := ⟨hx, hb, hml, hown, hrt, hlk, hex, hK, hfr, hlo, by rw [← hcap]; exact hrc, hrs⟩
  rw [hml]
  have hl := lv_entry ([.int x0]) (n := 1) (by simp [lg_sl, cat_rf, Value.category])
  rw [lg_entry_eq]
  generalize (lg_sl ([.int x0]) ++ List.replicate (1 - (lg_sl ([.int x0])).length) Slot.unset).toArray = ls at hl ⊢
  have hl : lv_has ls 1 [(0, .int x0)] := by simpa [lv_args, cat_rf, Value.category] using hl
  exact tM_isDigit_0 F hC x0 _ _ _ _ _ _ h (RL.start hR hcap hS hU) (lv_sub hl [0] rfl)
def fM_variableOf_41 (n d : Nat) (C : Cx) (xs0 : Int32) (M : Mem) : Rz := some (.inl (some (.int xs0)), M)
set_option maxRecDepth 100000 in
set_option maxHeartbeats 4000000 in
theorem tM_variableOf_41 {n : Nat} (F : FX p s m meth c G R M0 d "HeadCountModel" bM_variableOf 1 (some .int)) (hC : CBs l G d C) : ∀ (xs0 : Int32) (M : Mem) (H : Heap) (locs : List Loc) (cells slots : Nat) (ls : Array Slot), fM_variableOf_41 n d C xs0 M = some (r, M') → RL G M0 M H locs cells slots → lv_has ls 1 [] → W p l e R s m args below meth c H locs cells slots (CQ G below s M0 r M') (F0 m 41 ls [.int xs0]) := by
  obtain ⟨hx, hb, hml, hown, hrt, hlk, hex, hK, hRm⟩ := id F
  intro xs0 M H locs cells slots ls h hR hl
  unfold fM_variableOf_41 at h
  cases h
  exact rt_i hx hb hlk hrt (Or.inl rfl) rfl hR dM_variableOf_41
def fM_variableOf_40 (n d : Nat) (C : Cx) (M : Mem) : Rz := fM_variableOf_41 n d C ((-1)) M
set_option maxRecDepth 100000 in
set_option maxHeartbeats 4000000 in
theorem tM_variableOf_40 {n : Nat} (F : FX p s m meth c G R M0 d "HeadCountModel" bM_variableOf 1 (some .int)) (hC : CBs l G d C) : ∀ (M : Mem) (H : Heap) (locs : List Loc) (cells slots : Nat) (ls : Array Slot), fM_variableOf_40 n d C M = some (r, M') → RL G M0 M H locs cells slots → lv_has ls 1 [] → W p l e R s m args below meth c H locs cells slots (CQ G below s M0 r M') (F0 m 40 ls []) := by
  obtain ⟨hx, hb, hml, hown, hrt, hlk, hex, hK, hRm⟩ := id F
  intro M H locs cells slots ls h hR hl
  unfold fM_variableOf_40 at h
  refine lv_iconst (v := (-1)) hx hb dM_variableOf_40 (by decide) ?_
  exact tM_variableOf_41 F hC ((-1)) _ _ _ _ _ _ h hR (lv_sub hl [] rfl)
def fM_variableOf_19 (n d : Nat) (C : Cx) (x0 : Int32) (M : Mem) : Rz := if x0 < 88 then (fM_variableOf_40 n d C M) else (if 90 < x0 then (fM_variableOf_40 n d C M) else (fM_variableOf_41 n d C ((x0 - 88) + 3) M))
set_option maxRecDepth 100000 in
set_option maxHeartbeats 4000000 in
theorem tM_variableOf_19 {n : Nat} (F : FX p s m meth c G R M0 d "HeadCountModel" bM_variableOf 1 (some .int)) (hC : CBs l G d C) : ∀ (x0 : Int32) (M : Mem) (H : Heap) (locs : List Loc) (cells slots : Nat) (ls : Array Slot), fM_variableOf_19 n d C x0 M = some (r, M') → RL G M0 M H locs cells slots → lv_has ls 1 [(0, .int x0)] → W p l e R s m args below meth c H locs cells slots (CQ G below s M0 r M') (F0 m 19 ls []) := by
  obtain ⟨hx, hb, hml, hown, hrt, hlk, hex, hK, hRm⟩ := id F
  intro x0 M H locs cells slots ls h hR hl
  unfold fM_variableOf_19 at h
  refine lv_iload_n hx hb dM_variableOf_19 rfl (lv_at hl 0 rfl) ?_
  refine lv_bipush (v := 88) hx hb dM_variableOf_20 (by decide) ?_
  refine lv_icmp_lt (tgt := 40) hx hb dM_variableOf_22 (by decide) (fun c_1 => ?_) (fun c_1 => ?_)
  · replace h := rz_t c_1 h
    exact tM_variableOf_40 F hC _ _ _ _ _ _ h hR (lv_sub hl [] rfl)
  · replace h := rz_f c_1 h
    refine lv_iload_n hx hb dM_variableOf_25 rfl (lv_at hl 0 rfl) ?_
    refine lv_bipush (v := 90) hx hb dM_variableOf_26 (by decide) ?_
    refine lv_icmp_gt (tgt := 40) hx hb dM_variableOf_28 (by decide) (fun c_2 => ?_) (fun c_2 => ?_)
    · replace h := rz_t c_2 h
      exact tM_variableOf_40 F hC _ _ _ _ _ _ h hR (lv_sub hl [] rfl)
    · replace h := rz_f c_2 h
      refine lv_iload_n hx hb dM_variableOf_31 rfl (lv_at hl 0 rfl) ?_
      refine lv_bipush (v := 88) hx hb dM_variableOf_32 (by decide) ?_
      refine lv_isub hx hb dM_variableOf_34 ?_
      refine lv_iconst (v := 3) hx hb dM_variableOf_35 (by decide) ?_
      refine lv_iadd hx hb dM_variableOf_36 ?_
      refine lv_goto (tgt := 41) hx hb dM_variableOf_37 (by decide) ?_
      exact tM_variableOf_41 F hC ((x0 - 88) + 3) _ _ _ _ _ _ h hR (lv_sub hl [] rfl)
def fM_variableOf_0 (n d : Nat) (C : Cx) (x0 : Int32) (M : Mem) : Rz := if x0 < 105 then (fM_variableOf_19 n d C x0 M) else (if 107 < x0 then (fM_variableOf_19 n d C x0 M) else (fM_variableOf_41 n d C (x0 - 105) M))
set_option maxRecDepth 100000 in
set_option maxHeartbeats 4000000 in
theorem tM_variableOf_0 {n : Nat} (F : FX p s m meth c G R M0 d "HeadCountModel" bM_variableOf 1 (some .int)) (hC : CBs l G d C) : ∀ (x0 : Int32) (M : Mem) (H : Heap) (locs : List Loc) (cells slots : Nat) (ls : Array Slot), fM_variableOf_0 n d C x0 M = some (r, M') → RL G M0 M H locs cells slots → lv_has ls 1 [(0, .int x0)] → W p l e R s m args below meth c H locs cells slots (CQ G below s M0 r M') (F0 m 0 ls []) := by
  obtain ⟨hx, hb, hml, hown, hrt, hlk, hex, hK, hRm⟩ := id F
  intro x0 M H locs cells slots ls h hR hl
  unfold fM_variableOf_0 at h
  refine lv_iload_n hx hb dM_variableOf_0 rfl (lv_at hl 0 rfl) ?_
  refine lv_bipush (v := 105) hx hb dM_variableOf_1 (by decide) ?_
  refine lv_icmp_lt (tgt := 19) hx hb dM_variableOf_3 (by decide) (fun c_1 => ?_) (fun c_1 => ?_)
  · replace h := rz_t c_1 h
    exact tM_variableOf_19 F hC x0 _ _ _ _ _ _ h hR (lv_sub hl [0] rfl)
  · replace h := rz_f c_1 h
    refine lv_iload_n hx hb dM_variableOf_6 rfl (lv_at hl 0 rfl) ?_
    refine lv_bipush (v := 107) hx hb dM_variableOf_7 (by decide) ?_
    refine lv_icmp_gt (tgt := 19) hx hb dM_variableOf_9 (by decide) (fun c_2 => ?_) (fun c_2 => ?_)
    · replace h := rz_t c_2 h
      exact tM_variableOf_19 F hC x0 _ _ _ _ _ _ h hR (lv_sub hl [0] rfl)
    · replace h := rz_f c_2 h
      refine lv_iload_n hx hb dM_variableOf_12 rfl (lv_at hl 0 rfl) ?_
      refine lv_bipush (v := 105) hx hb dM_variableOf_13 (by decide) ?_
      refine lv_isub hx hb dM_variableOf_15 ?_
      refine lv_goto (tgt := 41) hx hb dM_variableOf_16 (by decide) ?_
      exact tM_variableOf_41 F hC (x0 - 105) _ _ _ _ _ _ h hR (lv_sub hl [] rfl)
set_option maxRecDepth 100000 in
set_option maxHeartbeats 4000000 in
theorem sM_variableOf {l : Launch} {G : Gx} {n d : Nat} {C : Cx} (hC : CBs l G d C) (x0 : Int32) {M M' : Mem} {r : Option Value ⊕ Nat} (h : fM_variableOf_0 n d C x0 M = some (r, M')) : CB l G (d + 1) yM_variableOf [.int x0] M r M' := by
  intro p e R s m below meth c hx hn hm hc hlk hK hR hcap hS hU hfr hlo hrc hrs
  obtain ⟨hb, hml, hrt, hex, hown⟩ := fx_of hn hm hc (hK.w mfM_variableOf.2.2.1 rfl #[])
  have F : FX p s m meth c G R M d "HeadCountModel" bM_variableOf 1 (some .int) := ⟨hx, hb, hml, hown, hrt, hlk, hex, hK, hfr, hlo, by rw [← hcap]; exact hrc, hrs⟩
  rw [hml]
  have hl := lv_entry ([.int x0]) (n := 1) (by simp [lg_sl, cat_rf, Value.category])
  rw [lg_entry_eq]
  generalize (lg_sl ([.int x0]) ++ List.replicate (1 - (lg_sl ([.int x0])).length) Slot.unset).toArray = ls at hl ⊢
  have hl : lv_has ls 1 [(0, .int x0)] := by simpa [lv_args, cat_rf, Value.category] using hl
  exact tM_variableOf_0 F hC x0 _ _ _ _ _ _ h (RL.start hR hcap hS hU) (lv_sub hl [0] rfl)
def fM_emit_0 (n d : Nat) (C : Cx) (a0 : Nat) (x1 : Int32) (x2 : Int32) (M : Mem) : Rz := if mK M a0 = 5 then (rzD (mP M a0 14) fun a_2 => (if mK M a_2 = 21 then (if inA (mI M a0 12) (mL M a_2) then (rzM (setI M a_2 (mI M a0 12).toNatClampNeg x1) fun M_6 => (rzD (mP M_6 a0 15) fun a_10 => (if mK M_6 a_10 = 21 then (if inA (mI M_6 a0 12) (mL M_6 a_10) then (rzM (setI M_6 a_10 (mI M_6 a0 12).toNatClampNeg x2) fun M_14 => (rzM (setI M_14 a0 12 ((mI M_14 a0 12) + 1)) fun M_19 => (some (.inl none, M_19)))) else none) else none))) else none) else none)) else none
set_option maxRecDepth 100000 in
set_option maxHeartbeats 4000000 in
theorem tM_emit_0 {n : Nat} (F : FX p s m meth c G R M0 d "HeadCountModel" bM_emit 3 none) (hC : CBs l G d C) : ∀ (a0 : Nat) (x1 : Int32) (x2 : Int32) (M : Mem) (H : Heap) (locs : List Loc) (cells slots : Nat) (ls : Array Slot), fM_emit_0 n d C a0 x1 x2 M = some (r, M') → RL G M0 M H locs cells slots → lv_has ls 3 [(0, .ref a0), (1, .int x1), (2, .int x2)] → W p l e R s m args below meth c H locs cells slots (CQ G below s M0 r M') (F0 m 0 ls []) := by
  obtain ⟨hx, hb, hml, hown, hrt, hlk, hex, hK, hRm⟩ := id F
  intro a0 x1 x2 M H locs cells slots ls h hR hl
  unfold fM_emit_0 at h
  refine lv_aload_n hx hb dM_emit_0 rfl (lv_at hl 0 rfl) ?_
  obtain ⟨c_1, h⟩ := rz_chk h
  refine rg_getP hx hb hown hK hR hk_M 14 (by decide) kf_M_27 rfl c_1 dM_emit_1 ?_
  refine lv_aload_n hx hb dM_emit_4 rfl (lv_at hl 0 rfl) ?_
  refine rg_getI hx hb hown hK hR hk_M 12 (by decide) kf_M_69 rfl c_1 dM_emit_5 ?_
  refine lv_iload_n hx hb dM_emit_8 rfl (lv_at hl 1 rfl) ?_
  obtain ⟨a_2, e_3, h⟩ := rz_d h
  rw [e_3]
  obtain ⟨c_4, h⟩ := rz_chk h
  obtain ⟨c_5, h⟩ := rz_chk h
  obtain ⟨M_6, q_7, h⟩ := rz_m h
  refine rg_iast hx hb hK hR c_4 c_5 dM_emit_9 (fun H locs hR => ?_)
  rw [← q_7] at hR
  have c_8 : mK M_6 a0 = 5 := by rw [q_7]; exact c_1
  have c_9 : mK M_6 a_2 = 21 := by rw [q_7]; exact c_4
  refine lv_aload_n hx hb dM_emit_10 rfl (lv_at hl 0 rfl) ?_
  refine rg_getP hx hb hown hK hR hk_M 15 (by decide) kf_M_30 rfl c_8 dM_emit_11 ?_
  refine lv_aload_n hx hb dM_emit_14 rfl (lv_at hl 0 rfl) ?_
  refine rg_getI hx hb hown hK hR hk_M 12 (by decide) kf_M_69 rfl c_8 dM_emit_15 ?_
  refine lv_iload_n hx hb dM_emit_18 rfl (lv_at hl 2 rfl) ?_
  obtain ⟨a_10, e_11, h⟩ := rz_d h
  rw [e_11]
  obtain ⟨c_12, h⟩ := rz_chk h
  obtain ⟨c_13, h⟩ := rz_chk h
  obtain ⟨M_14, q_15, h⟩ := rz_m h
  refine rg_iast hx hb hK hR c_12 c_13 dM_emit_19 (fun H locs hR => ?_)
  rw [← q_15] at hR
  have c_16 : mK M_14 a0 = 5 := by rw [q_15]; exact c_8
  have c_17 : mK M_14 a_2 = 21 := by rw [q_15]; exact c_9
  have c_18 : mK M_14 a_10 = 21 := by rw [q_15]; exact c_12
  refine lv_aload_n hx hb dM_emit_20 rfl (lv_at hl 0 rfl) ?_
  refine lv_dup hx hb dM_emit_21 rfl ?_
  refine rg_getI hx hb hown hK hR hk_M 12 (by decide) kf_M_69 rfl c_16 dM_emit_22 ?_
  refine lv_iconst (v := 1) hx hb dM_emit_25 (by decide) ?_
  refine lv_iadd hx hb dM_emit_26 ?_
  obtain ⟨M_19, q_20, h⟩ := rz_m h
  refine rg_putI hx hb hown hK hR hk_M 12 (by decide) kf_M_69 rfl rfl (ty := .int) (by decide +kernel) (Or.inl rfl) rfl c_16 dM_emit_27 (fun H locs hR => ?_)
  rw [← q_20] at hR
  have c_21 : mK M_19 a0 = 5 := by rw [q_20]; exact c_16
  have c_22 : mK M_19 a_2 = 21 := by rw [q_20]; exact c_17
  have c_23 : mK M_19 a_10 = 21 := by rw [q_20]; exact c_18
  cases h
  exact rt_v hx hb hlk hrt hR dM_emit_30
set_option maxRecDepth 100000 in
set_option maxHeartbeats 4000000 in
theorem sM_emit {l : Launch} {G : Gx} {n d : Nat} {C : Cx} (hC : CBs l G d C) (a0 : Nat) (x1 : Int32) (x2 : Int32) {M M' : Mem} {r : Option Value ⊕ Nat} (h : fM_emit_0 n d C a0 x1 x2 M = some (r, M')) : CB l G (d + 1) yM_emit [.ref a0, .int x1, .int x2] M r M' := by
  intro p e R s m below meth c hx hn hm hc hlk hK hR hcap hS hU hfr hlo hrc hrs
  obtain ⟨hb, hml, hrt, hex, hown⟩ := fx_of hn hm hc (hK.w mfM_emit.2.2.1 rfl #[])
  have F : FX p s m meth c G R M d "HeadCountModel" bM_emit 3 none := ⟨hx, hb, hml, hown, hrt, hlk, hex, hK, hfr, hlo, by rw [← hcap]; exact hrc, hrs⟩
  rw [hml]
  have hl := lv_entry ([.ref a0, .int x1, .int x2]) (n := 3) (by simp [lg_sl, cat_rf, Value.category])
  rw [lg_entry_eq]
  generalize (lg_sl ([.ref a0, .int x1, .int x2]) ++ List.replicate (3 - (lg_sl ([.ref a0, .int x1, .int x2])).length) Slot.unset).toArray = ls at hl ⊢
  have hl : lv_has ls 3 [(0, .ref a0), (1, .int x1), (2, .int x2)] := by simpa [lv_args, cat_rf, Value.category] using hl
  exact tM_emit_0 F hC a0 x1 x2 _ _ _ _ _ _ h (RL.start hR hcap hS hU) (lv_sub hl [0, 1, 2] rfl)
def fM_settle_16 (n d : Nat) (C : Cx) (k0 : Nat → Int32 → Int32 → Mem → Rz) (a0 : Nat) (x1 : Int32) (x2 : Int32) (M : Mem) : Rz := if mK M a0 = 5 then (rzM (setI M a0 19 ((mI M a0 19) - 1)) fun M_2 => (rzD (mP M_2 a0 20) fun a_5 => (if mK M_2 a_5 = 21 then (if inA (mI M_2 a0 19) (mL M_2 a_5) then (rzC (C 81 [.ref a0, .int (mI M_2 a_5 (mI M_2 a0 19).toNatClampNeg), .int 0] M_2) fun v_9 M_10 => (rzV v_9 (k0 a0 x1 x2 M_10))) else none) else none))) else none
set_option maxRecDepth 100000 in
set_option maxHeartbeats 4000000 in
theorem tM_settle_16 {n : Nat} {k0 : Nat → Int32 → Int32 → Mem → Rz} (F : FX p s m meth c G R M0 d "HeadCountModel" bM_settle 3 none) (hC : CBs l G d C) (hk0 : ∀ (a0 : Nat) (x1 : Int32) (x2 : Int32) (M : Mem) (H : Heap) (locs : List Loc) (cells slots : Nat) (ls : Array Slot), k0 a0 x1 x2 M = some (r, M') → RL G M0 M H locs cells slots → lv_has ls 3 [(0, .ref a0), (1, .int x1), (2, .int x2)] → W p l e R s m args below meth c H locs cells slots (CQ G below s M0 r M') (F0 m 0 ls [])) : ∀ (a0 : Nat) (x1 : Int32) (x2 : Int32) (M : Mem) (H : Heap) (locs : List Loc) (cells slots : Nat) (ls : Array Slot), fM_settle_16 n d C k0 a0 x1 x2 M = some (r, M') → RL G M0 M H locs cells slots → lv_has ls 3 [(0, .ref a0), (1, .int x1), (2, .int x2)] → W p l e R s m args below meth c H locs cells slots (CQ G below s M0 r M') (F0 m 16 ls []) := by
  obtain ⟨hx, hb, hml, hown, hrt, hlk, hex, hK, hRm⟩ := id F
  intro a0 x1 x2 M H locs cells slots ls h hR hl
  unfold fM_settle_16 at h
  refine lv_aload_n hx hb dM_settle_16 rfl (lv_at hl 0 rfl) ?_
  refine lv_dup hx hb dM_settle_17 rfl ?_
  obtain ⟨c_1, h⟩ := rz_chk h
  refine rg_getI hx hb hown hK hR hk_M 19 (by decide) kf_M_72 rfl c_1 dM_settle_18 ?_
  refine lv_iconst (v := 1) hx hb dM_settle_21 (by decide) ?_
  refine lv_isub hx hb dM_settle_22 ?_
  obtain ⟨M_2, q_3, h⟩ := rz_m h
  refine rg_putI hx hb hown hK hR hk_M 19 (by decide) kf_M_72 rfl rfl (ty := .int) (by decide +kernel) (Or.inl rfl) rfl c_1 dM_settle_23 (fun H locs hR => ?_)
  rw [← q_3] at hR
  have c_4 : mK M_2 a0 = 5 := by rw [q_3]; exact c_1
  refine lv_aload_n hx hb dM_settle_26 rfl (lv_at hl 0 rfl) ?_
  refine lv_aload_n hx hb dM_settle_27 rfl (lv_at hl 0 rfl) ?_
  refine rg_getP hx hb hown hK hR hk_M 20 (by decide) kf_M_39 rfl c_4 dM_settle_28 ?_
  refine lv_aload_n hx hb dM_settle_31 rfl (lv_at hl 0 rfl) ?_
  refine rg_getI hx hb hown hK hR hk_M 19 (by decide) kf_M_72 rfl c_4 dM_settle_32 ?_
  obtain ⟨a_5, e_6, h⟩ := rz_d h
  rw [e_6]
  obtain ⟨c_7, h⟩ := rz_chk h
  obtain ⟨c_8, h⟩ := rz_chk h
  refine rg_iald hx hb hK hR c_7 c_8 dM_settle_35 ?_
  refine lv_iconst (v := 0) hx hb dM_settle_36 (by decide) ?_
  obtain ⟨q_12, M_10, h_11, h⟩ := rz_c h
  refine rc_V (rest := []) (As := [.int (mI M_2 a_5 (mI M_2 a0 19).toNatClampNeg), .int 0]) hx hb (hl.1.trans hml.symm) hown hK hR hRm mfM_emit kl_M_86 hk_M rfl rfl c_4 (by simp [cat_rf, Value.category]) (hC 81 _ _ _ _ h_11) dM_settle_37 (fun v1 H locs cells slots ev hR => ?_) (fun x1 q1 ce1 H locs cells slots ex hR g1 g2 g3 => ?_)
  · rcases h with ⟨v_9, ev2, h⟩ | ⟨e2, ee2, -⟩
    · cases ev.symm.trans ev2
      replace h := rz_v h
      obtain ⟨rfl, h⟩ := h
      dsimp only [Option.toList, List.cons_append, List.nil_append]
      refine lv_goto (tgt := 0) hx hb dM_settle_40 (by decide) ?_
      exact hk0 a0 x1 x2 _ _ _ _ _ _ h hR (lv_sub hl [0, 1, 2] rfl)
    · cases ev.symm.trans ee2
  · rcases h with ⟨v2, ev2, -⟩ | ⟨e2, ee2, h⟩
    · cases ex.symm.trans ev2
    · cases ex.symm.trans ee2
      cases h
      exact rt_x hlk hex hR g1 g2 g3
def fM_settle_0 (n d : Nat) (C : Cx) : Nat → Nat → Int32 → Int32 → Mem → Rz
  | 0, _, _, _, _ => none
  | w + 1, a0, x1, x2, M => if mK M a0 = 5 then (rzC (C 85 [.ref a0] M) fun v_2 M_3 => (rzI v_2 fun x_6 => (if x_6 = x1 then (fM_settle_16 n d C (fM_settle_0 n d C w) a0 x1 x2 M_3) else (if mK M_3 a0 = 5 then (rzC (C 85 [.ref a0] M_3) fun v_9 M_10 => (rzI v_9 fun x_13 => (if x_13 = x2 then (fM_settle_16 n d C (fM_settle_0 n d C w) a0 x1 x2 M_10) else (some (.inl none, M_10))))) else none)))) else none
set_option maxRecDepth 100000 in
set_option maxHeartbeats 4000000 in
theorem tM_settle_0 {n : Nat} (F : FX p s m meth c G R M0 d "HeadCountModel" bM_settle 3 none) (hC : CBs l G d C) : ∀ (w : Nat) (a0 : Nat) (x1 : Int32) (x2 : Int32) (M : Mem) (H : Heap) (locs : List Loc) (cells slots : Nat) (ls : Array Slot), fM_settle_0 n d C w a0 x1 x2 M = some (r, M') → RL G M0 M H locs cells slots → lv_has ls 3 [(0, .ref a0), (1, .int x1), (2, .int x2)] → W p l e R s m args below meth c H locs cells slots (CQ G below s M0 r M') (F0 m 0 ls []) := by
  obtain ⟨hx, hb, hml, hown, hrt, hlk, hex, hK, hRm⟩ := id F
  intro w
  induction w with
  | zero => intro a0 x1 x2 M H locs cells slots ls h; cases h
  | succ w ih =>
    intro a0 x1 x2 M H locs cells slots ls h hR hl
    rw [fM_settle_0] at h
    refine lv_aload_n hx hb dM_settle_0 rfl (lv_at hl 0 rfl) ?_
    obtain ⟨c_1, h⟩ := rz_chk h
    obtain ⟨q_5, M_3, h_4, h⟩ := rz_c h
    refine rc_V (rest := []) (As := []) hx hb (hl.1.trans hml.symm) hown hK hR hRm mfM_upper kl_M_82 hk_M rfl rfl c_1 (by simp [cat_rf, Value.category]) (hC 85 _ _ _ _ h_4) dM_settle_1 (fun v1 H locs cells slots ev hR => ?_) (fun x1 q1 ce1 H locs cells slots ex hR g1 g2 g3 => ?_)
    · rcases h with ⟨v_2, ev2, h⟩ | ⟨e2, ee2, -⟩
      · cases ev.symm.trans ev2
        replace h := rz_i h
        obtain ⟨x_6, rfl, h⟩ := h
        dsimp only [Option.toList, List.cons_append, List.nil_append]
        refine lv_iload_n hx hb dM_settle_4 rfl (lv_at hl 1 rfl) ?_
        refine lv_icmp_eq (tgt := 16) hx hb dM_settle_5 (by decide) (fun c_7 => ?_) (fun c_7 => ?_)
        · replace h := rz_t c_7 h
          exact tM_settle_16 F hC ih a0 x1 x2 _ _ _ _ _ _ h hR (lv_sub hl [0, 1, 2] rfl)
        · replace h := rz_f c_7 h
          refine lv_aload_n hx hb dM_settle_8 rfl (lv_at hl 0 rfl) ?_
          obtain ⟨c_8, h⟩ := rz_chk h
          obtain ⟨q_12, M_10, h_11, h⟩ := rz_c h
          refine rc_V (rest := []) (As := []) hx hb (hl.1.trans hml.symm) hown hK hR hRm mfM_upper kl_M_82 hk_M rfl rfl c_8 (by simp [cat_rf, Value.category]) (hC 85 _ _ _ _ h_11) dM_settle_9 (fun v1 H locs cells slots ev hR => ?_) (fun x1 q1 ce1 H locs cells slots ex hR g1 g2 g3 => ?_)
          · rcases h with ⟨v_9, ev2, h⟩ | ⟨e2, ee2, -⟩
            · cases ev.symm.trans ev2
              replace h := rz_i h
              obtain ⟨x_13, rfl, h⟩ := h
              dsimp only [Option.toList, List.cons_append, List.nil_append]
              refine lv_iload_n hx hb dM_settle_12 rfl (lv_at hl 2 rfl) ?_
              refine lv_icmp_ne (tgt := 43) hx hb dM_settle_13 (by decide) (fun c_14 => ?_) (fun c_14 => ?_)
              · replace h := rz_f c_14 h
                cases h
                exact rt_v hx hb hlk hrt hR dM_settle_43
              · replace h := rz_t c_14 h
                exact tM_settle_16 F hC ih a0 x1 x2 _ _ _ _ _ _ h hR (lv_sub hl [0, 1, 2] rfl)
            · cases ev.symm.trans ee2
          · rcases h with ⟨v2, ev2, -⟩ | ⟨e2, ee2, h⟩
            · cases ex.symm.trans ev2
            · cases ex.symm.trans ee2
              cases h
              exact rt_x hlk hex hR g1 g2 g3
      · cases ev.symm.trans ee2
    · rcases h with ⟨v2, ev2, -⟩ | ⟨e2, ee2, h⟩
      · cases ex.symm.trans ev2
      · cases ex.symm.trans ee2
        cases h
        exact rt_x hlk hex hR g1 g2 g3
set_option maxRecDepth 100000 in
set_option maxHeartbeats 4000000 in
theorem sM_settle {l : Launch} {G : Gx} {n d : Nat} {C : Cx} (hC : CBs l G d C) (a0 : Nat) (x1 : Int32) (x2 : Int32) {M M' : Mem} {r : Option Value ⊕ Nat} (h : fM_settle_0 n d C n a0 x1 x2 M = some (r, M')) : CB l G (d + 1) yM_settle [.ref a0, .int x1, .int x2] M r M' := by
  intro p e R s m below meth c hx hn hm hc hlk hK hR hcap hS hU hfr hlo hrc hrs
  obtain ⟨hb, hml, hrt, hex, hown⟩ := fx_of hn hm hc (hK.w mfM_settle.2.2.1 rfl #[])
  have F : FX p s m meth c G R M d "HeadCountModel" bM_settle 3 none := ⟨hx, hb, hml, hown, hrt, hlk, hex, hK, hfr, hlo, by rw [← hcap]; exact hrc, hrs⟩
  rw [hml]
  have hl := lv_entry ([.ref a0, .int x1, .int x2]) (n := 3) (by simp [lg_sl, cat_rf, Value.category])
  rw [lg_entry_eq]
  generalize (lg_sl ([.ref a0, .int x1, .int x2]) ++ List.replicate (3 - (lg_sl ([.ref a0, .int x1, .int x2])).length) Slot.unset).toArray = ls at hl ⊢
  have hl : lv_has ls 3 [(0, .ref a0), (1, .int x1), (2, .int x2)] := by simpa [lv_args, cat_rf, Value.category] using hl
  exact tM_settle_0 F hC n a0 x1 x2 _ _ _ _ _ _ h (RL.start hR hcap hS hU) (lv_sub hl [0, 1, 2] rfl)
def fM_upper_22 (n d : Nat) (C : Cx) (xs0 : Int32) (M : Mem) : Rz := some (.inl (some (.int xs0)), M)
set_option maxRecDepth 100000 in
set_option maxHeartbeats 4000000 in
theorem tM_upper_22 {n : Nat} (F : FX p s m meth c G R M0 d "HeadCountModel" bM_upper 1 (some .int)) (hC : CBs l G d C) : ∀ (xs0 : Int32) (M : Mem) (H : Heap) (locs : List Loc) (cells slots : Nat) (ls : Array Slot), fM_upper_22 n d C xs0 M = some (r, M') → RL G M0 M H locs cells slots → lv_has ls 1 [] → W p l e R s m args below meth c H locs cells slots (CQ G below s M0 r M') (F0 m 22 ls [.int xs0]) := by
  obtain ⟨hx, hb, hml, hown, hrt, hlk, hex, hK, hRm⟩ := id F
  intro xs0 M H locs cells slots ls h hR hl
  unfold fM_upper_22 at h
  cases h
  exact rt_i hx hb hlk hrt (Or.inl rfl) rfl hR dM_upper_22
def fM_upper_0 (n d : Nat) (C : Cx) (a0 : Nat) (M : Mem) : Rz := if mK M a0 = 5 then (if (mI M a0 19) = 0 then (fM_upper_22 n d C 0 M) else (rzD (mP M a0 20) fun a_3 => (if mK M a_3 = 21 then (if inA ((mI M a0 19) - 1) (mL M a_3) then (fM_upper_22 n d C (mI M a_3 ((mI M a0 19) - 1).toNatClampNeg) M) else none) else none))) else none
set_option maxRecDepth 100000 in
set_option maxHeartbeats 4000000 in
theorem tM_upper_0 {n : Nat} (F : FX p s m meth c G R M0 d "HeadCountModel" bM_upper 1 (some .int)) (hC : CBs l G d C) : ∀ (a0 : Nat) (M : Mem) (H : Heap) (locs : List Loc) (cells slots : Nat) (ls : Array Slot), fM_upper_0 n d C a0 M = some (r, M') → RL G M0 M H locs cells slots → lv_has ls 1 [(0, .ref a0)] → W p l e R s m args below meth c H locs cells slots (CQ G below s M0 r M') (F0 m 0 ls []) := by
  obtain ⟨hx, hb, hml, hown, hrt, hlk, hex, hK, hRm⟩ := id F
  intro a0 M H locs cells slots ls h hR hl
  unfold fM_upper_0 at h
  refine lv_aload_n hx hb dM_upper_0 rfl (lv_at hl 0 rfl) ?_
  obtain ⟨c_1, h⟩ := rz_chk h
  refine rg_getI hx hb hown hK hR hk_M 19 (by decide) kf_M_72 rfl c_1 dM_upper_1 ?_
  refine lv_if_ne (tgt := 11) hx hb dM_upper_4 (by decide) (fun c_2 => ?_) (fun c_2 => ?_)
  · replace h := rz_f c_2 h
    refine lv_aload_n hx hb dM_upper_11 rfl (lv_at hl 0 rfl) ?_
    refine rg_getP hx hb hown hK hR hk_M 20 (by decide) kf_M_39 rfl c_1 dM_upper_12 ?_
    refine lv_aload_n hx hb dM_upper_15 rfl (lv_at hl 0 rfl) ?_
    refine rg_getI hx hb hown hK hR hk_M 19 (by decide) kf_M_72 rfl c_1 dM_upper_16 ?_
    refine lv_iconst (v := 1) hx hb dM_upper_19 (by decide) ?_
    refine lv_isub hx hb dM_upper_20 ?_
    obtain ⟨a_3, e_4, h⟩ := rz_d h
    rw [e_4]
    obtain ⟨c_5, h⟩ := rz_chk h
    obtain ⟨c_6, h⟩ := rz_chk h
    refine rg_iald hx hb hK hR c_5 c_6 dM_upper_21 ?_
    exact tM_upper_22 F hC (mI M a_3 ((mI M a0 19) - 1).toNatClampNeg) _ _ _ _ _ _ h hR (lv_sub hl [] rfl)
  · replace h := rz_t c_2 h
    refine lv_iconst (v := 0) hx hb dM_upper_7 (by decide) ?_
    refine lv_goto (tgt := 22) hx hb dM_upper_8 (by decide) ?_
    exact tM_upper_22 F hC 0 _ _ _ _ _ _ h hR (lv_sub hl [] rfl)
set_option maxRecDepth 100000 in
set_option maxHeartbeats 4000000 in
theorem sM_upper {l : Launch} {G : Gx} {n d : Nat} {C : Cx} (hC : CBs l G d C) (a0 : Nat) {M M' : Mem} {r : Option Value ⊕ Nat} (h : fM_upper_0 n d C a0 M = some (r, M')) : CB l G (d + 1) yM_upper [.ref a0] M r M' := by
  intro p e R s m below meth c hx hn hm hc hlk hK hR hcap hS hU hfr hlo hrc hrs
  obtain ⟨hb, hml, hrt, hex, hown⟩ := fx_of hn hm hc (hK.w mfM_upper.2.2.1 rfl #[])
  have F : FX p s m meth c G R M d "HeadCountModel" bM_upper 1 (some .int) := ⟨hx, hb, hml, hown, hrt, hlk, hex, hK, hfr, hlo, by rw [← hcap]; exact hrc, hrs⟩
  rw [hml]
  have hl := lv_entry ([.ref a0]) (n := 1) (by simp [lg_sl, cat_rf, Value.category])
  rw [lg_entry_eq]
  generalize (lg_sl ([.ref a0]) ++ List.replicate (1 - (lg_sl ([.ref a0])).length) Slot.unset).toArray = ls at hl ⊢
  have hl : lv_has ls 1 [(0, .ref a0)] := by simpa [lv_args, cat_rf, Value.category] using hl
  exact tM_upper_0 F hC a0 _ _ _ _ _ _ h (RL.start hR hcap hS hU) (lv_sub hl [0] rfl)
def fM_close_0 (n d : Nat) (C : Cx) (a0 : Nat) (M : Mem) : Rz := if mK M a0 = 5 then (rzM (setI M a0 19 ((mI M a0 19) - 1)) fun M_2 => (rzM (setI M_2 a0 24 ((mI M_2 a0 24) - 1)) fun M_5 => (some (.inl none, M_5)))) else none
set_option maxRecDepth 100000 in
set_option maxHeartbeats 4000000 in
theorem tM_close_0 {n : Nat} (F : FX p s m meth c G R M0 d "HeadCountModel" bM_close 1 none) (hC : CBs l G d C) : ∀ (a0 : Nat) (M : Mem) (H : Heap) (locs : List Loc) (cells slots : Nat) (ls : Array Slot), fM_close_0 n d C a0 M = some (r, M') → RL G M0 M H locs cells slots → lv_has ls 1 [(0, .ref a0)] → W p l e R s m args below meth c H locs cells slots (CQ G below s M0 r M') (F0 m 0 ls []) := by
  obtain ⟨hx, hb, hml, hown, hrt, hlk, hex, hK, hRm⟩ := id F
  intro a0 M H locs cells slots ls h hR hl
  unfold fM_close_0 at h
  refine lv_aload_n hx hb dM_close_0 rfl (lv_at hl 0 rfl) ?_
  refine lv_dup hx hb dM_close_1 rfl ?_
  obtain ⟨c_1, h⟩ := rz_chk h
  refine rg_getI hx hb hown hK hR hk_M 19 (by decide) kf_M_72 rfl c_1 dM_close_2 ?_
  refine lv_iconst (v := 1) hx hb dM_close_5 (by decide) ?_
  refine lv_isub hx hb dM_close_6 ?_
  obtain ⟨M_2, q_3, h⟩ := rz_m h
  refine rg_putI hx hb hown hK hR hk_M 19 (by decide) kf_M_72 rfl rfl (ty := .int) (by decide +kernel) (Or.inl rfl) rfl c_1 dM_close_7 (fun H locs hR => ?_)
  rw [← q_3] at hR
  have c_4 : mK M_2 a0 = 5 := by rw [q_3]; exact c_1
  refine lv_aload_n hx hb dM_close_10 rfl (lv_at hl 0 rfl) ?_
  refine lv_dup hx hb dM_close_11 rfl ?_
  refine rg_getI hx hb hown hK hR hk_M 24 (by decide) kf_M_75 rfl c_4 dM_close_12 ?_
  refine lv_iconst (v := 1) hx hb dM_close_15 (by decide) ?_
  refine lv_isub hx hb dM_close_16 ?_
  obtain ⟨M_5, q_6, h⟩ := rz_m h
  refine rg_putI hx hb hown hK hR hk_M 24 (by decide) kf_M_75 rfl rfl (ty := .int) (by decide +kernel) (Or.inl rfl) rfl c_4 dM_close_17 (fun H locs hR => ?_)
  rw [← q_6] at hR
  have c_7 : mK M_5 a0 = 5 := by rw [q_6]; exact c_4
  cases h
  exact rt_v hx hb hlk hrt hR dM_close_20
set_option maxRecDepth 100000 in
set_option maxHeartbeats 4000000 in
theorem sM_close {l : Launch} {G : Gx} {n d : Nat} {C : Cx} (hC : CBs l G d C) (a0 : Nat) {M M' : Mem} {r : Option Value ⊕ Nat} (h : fM_close_0 n d C a0 M = some (r, M')) : CB l G (d + 1) yM_close [.ref a0] M r M' := by
  intro p e R s m below meth c hx hn hm hc hlk hK hR hcap hS hU hfr hlo hrc hrs
  obtain ⟨hb, hml, hrt, hex, hown⟩ := fx_of hn hm hc (hK.w mfM_close.2.2.1 rfl #[])
  have F : FX p s m meth c G R M d "HeadCountModel" bM_close 1 none := ⟨hx, hb, hml, hown, hrt, hlk, hex, hK, hfr, hlo, by rw [← hcap]; exact hrc, hrs⟩
  rw [hml]
  have hl := lv_entry ([.ref a0]) (n := 1) (by simp [lg_sl, cat_rf, Value.category])
  rw [lg_entry_eq]
  generalize (lg_sl ([.ref a0]) ++ List.replicate (1 - (lg_sl ([.ref a0])).length) Slot.unset).toArray = ls at hl ⊢
  have hl : lv_has ls 1 [(0, .ref a0)] := by simpa [lv_args, cat_rf, Value.category] using hl
  exact tM_close_0 F hC a0 _ _ _ _ _ _ h (RL.start hR hcap hS hU) (lv_sub hl [0] rfl)
end
end
section
theorem dM_one_0 : decode bM_one 0 = .ok (.iload_n 1, 1) := by decide +kernel
theorem dM_one_1 : decode bM_one 1 = .ok (.bipush 33, 2) := by decide +kernel
theorem dM_one_3 : decode bM_one 3 = .ok (.if_icmp .ne 18, 3) := by decide +kernel
theorem dM_one_6 : decode bM_one 6 = .ok (.aload_n 0, 1) := by decide +kernel
theorem dM_one_7 : decode bM_one 7 = .ok (.iconst 3, 1) := by decide +kernel
theorem dM_one_8 : decode bM_one 8 = .ok (.invokevirtual 90, 3) := by decide +kernel
theorem dM_one_11 : decode bM_one 11 = .ok (.ifCond .eq 7, 3) := by decide +kernel
theorem dM_one_14 : decode bM_one 14 = .ok (.iconst 0, 1) := by decide +kernel
theorem dM_one_15 : decode bM_one 15 = .ok (.goto 5, 3) := by decide +kernel
theorem dM_one_18 : decode bM_one 18 = .ok (.bipush 10, 2) := by decide +kernel
theorem dM_one_20 : decode bM_one 20 = .ok (.ireturn, 1) := by decide +kernel
theorem dM_one_21 : decode bM_one 21 = .ok (.iload_n 1, 1) := by decide +kernel
theorem dM_one_22 : decode bM_one 22 = .ok (.bipush 40, 2) := by decide +kernel
theorem dM_one_24 : decode bM_one 24 = .ok (.if_icmp .ne 18, 3) := by decide +kernel
theorem dM_one_27 : decode bM_one 27 = .ok (.aload_n 0, 1) := by decide +kernel
theorem dM_one_28 : decode bM_one 28 = .ok (.iconst 4, 1) := by decide +kernel
theorem dM_one_29 : decode bM_one 29 = .ok (.invokevirtual 90, 3) := by decide +kernel
theorem dM_one_32 : decode bM_one 32 = .ok (.ifCond .eq 7, 3) := by decide +kernel
theorem dM_one_35 : decode bM_one 35 = .ok (.iconst 0, 1) := by decide +kernel
theorem dM_one_36 : decode bM_one 36 = .ok (.goto 5, 3) := by decide +kernel
theorem dM_one_39 : decode bM_one 39 = .ok (.bipush 10, 2) := by decide +kernel
theorem dM_one_41 : decode bM_one 41 = .ok (.ireturn, 1) := by decide +kernel
theorem dM_one_42 : decode bM_one 42 = .ok (.iload_n 1, 1) := by decide +kernel
theorem dM_one_43 : decode bM_one 43 = .ok (.bipush 65, 2) := by decide +kernel
theorem dM_one_45 : decode bM_one 45 = .ok (.if_icmp .eq 9, 3) := by decide +kernel
theorem dM_one_48 : decode bM_one 48 = .ok (.iload_n 1, 1) := by decide +kernel
theorem dM_one_49 : decode bM_one 49 = .ok (.bipush 69, 2) := by decide +kernel
theorem dM_one_51 : decode bM_one 51 = .ok (.if_icmp .ne 42, 3) := by decide +kernel
theorem dM_one_54 : decode bM_one 54 = .ok (.aload_n 0, 1) := by decide +kernel
theorem dM_one_55 : decode bM_one 55 = .ok (.iload_n 1, 1) := by decide +kernel
theorem dM_one_56 : decode bM_one 56 = .ok (.bipush 65, 2) := by decide +kernel
theorem dM_one_58 : decode bM_one 58 = .ok (.if_icmp .ne 7, 3) := by decide +kernel
theorem dM_one_61 : decode bM_one 61 = .ok (.iconst 1, 1) := by decide +kernel
theorem dM_one_62 : decode bM_one 62 = .ok (.goto 4, 3) := by decide +kernel
theorem dM_one_65 : decode bM_one 65 = .ok (.iconst 0, 1) := by decide +kernel
theorem dM_one_66 : decode bM_one 66 = .ok (.putfield 94, 3) := by decide +kernel
theorem dM_one_69 : decode bM_one 69 = .ok (.aload_n 0, 1) := by decide +kernel
theorem dM_one_70 : decode bM_one 70 = .ok (.getfield 98, 3) := by decide +kernel
theorem dM_one_73 : decode bM_one 73 = .ok (.iconst 4, 1) := by decide +kernel
theorem dM_one_74 : decode bM_one 74 = .ok (.if_icmp .ge 16, 3) := by decide +kernel
theorem dM_one_77 : decode bM_one 77 = .ok (.aload_n 0, 1) := by decide +kernel
theorem dM_one_78 : decode bM_one 78 = .ok (.getfield 75, 3) := by decide +kernel
theorem dM_one_81 : decode bM_one 81 = .ok (.bipush 12, 2) := by decide +kernel
theorem dM_one_83 : decode bM_one 83 = .ok (.if_icmp .ge 7, 3) := by decide +kernel
theorem dM_one_86 : decode bM_one 86 = .ok (.iconst 2, 1) := by decide +kernel
theorem dM_one_87 : decode bM_one 87 = .ok (.goto 5, 3) := by decide +kernel
theorem dM_one_90 : decode bM_one 90 = .ok (.bipush 10, 2) := by decide +kernel
theorem dM_one_92 : decode bM_one 92 = .ok (.ireturn, 1) := by decide +kernel
theorem dM_one_93 : decode bM_one 93 = .ok (.aload_n 0, 1) := by decide +kernel
theorem dM_one_94 : decode bM_one 94 = .ok (.iconst 0, 1) := by decide +kernel
theorem dM_one_95 : decode bM_one 95 = .ok (.putfield 101, 3) := by decide +kernel
theorem dM_one_98 : decode bM_one 98 = .ok (.iload_n 1, 1) := by decide +kernel
theorem dM_one_99 : decode bM_one 99 = .ok (.bipush 91, 2) := by decide +kernel
theorem dM_one_101 : decode bM_one 101 = .ok (.if_icmp .ne 12, 3) := by decide +kernel
theorem dM_one_104 : decode bM_one 104 = .ok (.aload_n 0, 1) := by decide +kernel
theorem dM_one_105 : decode bM_one 105 = .ok (.bipush 6, 2) := by decide +kernel
theorem dM_one_107 : decode bM_one 107 = .ok (.invokevirtual 78, 3) := by decide +kernel
theorem dM_one_110 : decode bM_one 110 = .ok (.bipush 8, 2) := by decide +kernel
theorem dM_one_112 : decode bM_one 112 = .ok (.ireturn, 1) := by decide +kernel
theorem dM_one_113 : decode bM_one 113 = .ok (.aload_n 0, 1) := by decide +kernel
theorem dM_one_114 : decode bM_one 114 = .ok (.iload_n 1, 1) := by decide +kernel
theorem dM_one_115 : decode bM_one 115 = .ok (.invokevirtual 104, 3) := by decide +kernel
theorem dM_one_118 : decode bM_one 118 = .ok (.ireturn, 1) := by decide +kernel
theorem dM_sum_0 : decode bM_sum 0 = .ok (.aload_n 0, 1) := by decide +kernel
theorem dM_sum_1 : decode bM_sum 1 = .ok (.iload_n 1, 1) := by decide +kernel
theorem dM_sum_2 : decode bM_sum 2 = .ok (.bipush 45, 2) := by decide +kernel
theorem dM_sum_4 : decode bM_sum 4 = .ok (.if_icmp .ne 7, 3) := by decide +kernel
theorem dM_sum_7 : decode bM_sum 7 = .ok (.iconst 1, 1) := by decide +kernel
theorem dM_sum_8 : decode bM_sum 8 = .ok (.goto 4, 3) := by decide +kernel
theorem dM_sum_11 : decode bM_sum 11 = .ok (.iconst 0, 1) := by decide +kernel
theorem dM_sum_12 : decode bM_sum 12 = .ok (.putfield 120, 3) := by decide +kernel
theorem dM_sum_15 : decode bM_sum 15 = .ok (.aload_n 0, 1) := by decide +kernel
theorem dM_sum_16 : decode bM_sum 16 = .ok (.iconst 1, 1) := by decide +kernel
theorem dM_sum_17 : decode bM_sum 17 = .ok (.putfield 123, 3) := by decide +kernel
theorem dM_sum_20 : decode bM_sum 20 = .ok (.aload_n 0, 1) := by decide +kernel
theorem dM_sum_21 : decode bM_sum 21 = .ok (.aload_n 0, 1) := by decide +kernel
theorem dM_sum_22 : decode bM_sum 22 = .ok (.getfield 101, 3) := by decide +kernel
theorem dM_sum_25 : decode bM_sum 25 = .ok (.ifCond .ne 14, 3) := by decide +kernel
theorem dM_sum_28 : decode bM_sum 28 = .ok (.aload_n 0, 1) := by decide +kernel
theorem dM_sum_29 : decode bM_sum 29 = .ok (.getfield 120, 3) := by decide +kernel
theorem dM_sum_32 : decode bM_sum 32 = .ok (.ifCond .ne 7, 3) := by decide +kernel
theorem dM_sum_35 : decode bM_sum 35 = .ok (.iconst 1, 1) := by decide +kernel
theorem dM_sum_36 : decode bM_sum 36 = .ok (.goto 4, 3) := by decide +kernel
theorem dM_sum_39 : decode bM_sum 39 = .ok (.iconst 0, 1) := by decide +kernel
theorem dM_sum_40 : decode bM_sum 40 = .ok (.putfield 126, 3) := by decide +kernel
theorem dM_sum_43 : decode bM_sum 43 = .ok (.aload_n 0, 1) := by decide +kernel
theorem dM_sum_44 : decode bM_sum 44 = .ok (.getfield 120, 3) := by decide +kernel
theorem dM_sum_47 : decode bM_sum 47 = .ok (.ifCond .eq 7, 3) := by decide +kernel
theorem dM_sum_50 : decode bM_sum 50 = .ok (.iconst 4, 1) := by decide +kernel
theorem dM_sum_51 : decode bM_sum 51 = .ok (.goto 8, 3) := by decide +kernel
theorem dM_sum_54 : decode bM_sum 54 = .ok (.aload_n 0, 1) := by decide +kernel
theorem dM_sum_55 : decode bM_sum 55 = .ok (.iload_n 1, 1) := by decide +kernel
theorem dM_sum_56 : decode bM_sum 56 = .ok (.invokevirtual 129, 3) := by decide +kernel
theorem dM_sum_59 : decode bM_sum 59 = .ok (.ireturn, 1) := by decide +kernel
theorem dM_part_0 : decode bM_part 0 = .ok (.aload_n 0, 1) := by decide +kernel
theorem dM_part_1 : decode bM_part 1 = .ok (.iconst 0, 1) := by decide +kernel
theorem dM_part_2 : decode bM_part 2 = .ok (.putfield 132, 3) := by decide +kernel
theorem dM_part_5 : decode bM_part 5 = .ok (.iload_n 1, 1) := by decide +kernel
theorem dM_part_6 : decode bM_part 6 = .ok (.invokestatic 135, 3) := by decide +kernel
theorem dM_part_9 : decode bM_part 9 = .ok (.ifCond .eq 18, 3) := by decide +kernel
theorem dM_part_12 : decode bM_part 12 = .ok (.aload_n 0, 1) := by decide +kernel
theorem dM_part_13 : decode bM_part 13 = .ok (.iload_n 1, 1) := by decide +kernel
theorem dM_part_14 : decode bM_part 14 = .ok (.bipush 48, 2) := by decide +kernel
theorem dM_part_16 : decode bM_part 16 = .ok (.isub, 1) := by decide +kernel
theorem dM_part_17 : decode bM_part 17 = .ok (.putfield 139, 3) := by decide +kernel
theorem dM_part_20 : decode bM_part 20 = .ok (.aload_n 0, 1) := by decide +kernel
theorem dM_part_21 : decode bM_part 21 = .ok (.iconst 1, 1) := by decide +kernel
theorem dM_part_22 : decode bM_part 22 = .ok (.putfield 142, 3) := by decide +kernel
theorem dM_part_25 : decode bM_part 25 = .ok (.iconst 5, 1) := by decide +kernel
theorem dM_part_26 : decode bM_part 26 = .ok (.ireturn, 1) := by decide +kernel
theorem dM_part_27 : decode bM_part 27 = .ok (.aload_n 0, 1) := by decide +kernel
theorem dM_part_28 : decode bM_part 28 = .ok (.iload_n 1, 1) := by decide +kernel
theorem dM_part_29 : decode bM_part 29 = .ok (.invokevirtual 145, 3) := by decide +kernel
theorem dM_part_32 : decode bM_part 32 = .ok (.ireturn, 1) := by decide +kernel
theorem dM_thing_0 : decode bM_thing 0 = .ok (.iload_n 1, 1) := by decide +kernel
theorem dM_thing_1 : decode bM_thing 1 = .ok (.invokestatic 108, 3) := by decide +kernel
theorem dM_thing_4 : decode bM_thing 4 = .ok (.istore_n 2, 1) := by decide +kernel
theorem dM_thing_5 : decode bM_thing 5 = .ok (.iload_n 1, 1) := by decide +kernel
theorem dM_thing_6 : decode bM_thing 6 = .ok (.bipush 110, 2) := by decide +kernel
theorem dM_thing_8 : decode bM_thing 8 = .ok (.if_icmp .ne 13, 3) := by decide +kernel
theorem dM_thing_11 : decode bM_thing 11 = .ok (.aload_n 0, 1) := by decide +kernel
theorem dM_thing_12 : decode bM_thing 12 = .ok (.bipush 15, 2) := by decide +kernel
theorem dM_thing_14 : decode bM_thing 14 = .ok (.iconst 0, 1) := by decide +kernel
theorem dM_thing_15 : decode bM_thing 15 = .ok (.invokevirtual 86, 3) := by decide +kernel
theorem dM_thing_18 : decode bM_thing 18 = .ok (.goto 62, 3) := by decide +kernel
theorem dM_thing_21 : decode bM_thing 21 = .ok (.iload_n 1, 1) := by decide +kernel
theorem dM_thing_22 : decode bM_thing 22 = .ok (.bipush 35, 2) := by decide +kernel
theorem dM_thing_24 : decode bM_thing 24 = .ok (.if_icmp .ne 20, 3) := by decide +kernel
theorem dM_thing_27 : decode bM_thing 27 = .ok (.aload_n 0, 1) := by decide +kernel
theorem dM_thing_28 : decode bM_thing 28 = .ok (.bipush 11, 2) := by decide +kernel
theorem dM_thing_30 : decode bM_thing 30 = .ok (.invokevirtual 90, 3) := by decide +kernel
theorem dM_thing_33 : decode bM_thing 33 = .ok (.ifCond .eq 8, 3) := by decide +kernel
theorem dM_thing_36 : decode bM_thing 36 = .ok (.bipush 8, 2) := by decide +kernel
theorem dM_thing_38 : decode bM_thing 38 = .ok (.goto 5, 3) := by decide +kernel
theorem dM_thing_41 : decode bM_thing 41 = .ok (.bipush 10, 2) := by decide +kernel
theorem dM_thing_43 : decode bM_thing 43 = .ok (.ireturn, 1) := by decide +kernel
theorem dM_thing_44 : decode bM_thing 44 = .ok (.iload_n 2, 1) := by decide +kernel
theorem dM_thing_45 : decode bM_thing 45 = .ok (.ifCond .lt 32, 3) := by decide +kernel
theorem dM_thing_48 : decode bM_thing 48 = .ok (.iload_n 2, 1) := by decide +kernel
theorem dM_thing_49 : decode bM_thing 49 = .ok (.iconst 3, 1) := by decide +kernel
theorem dM_thing_50 : decode bM_thing 50 = .ok (.if_icmp .ge 27, 3) := by decide +kernel
theorem dM_thing_53 : decode bM_thing 53 = .ok (.aload_n 0, 1) := by decide +kernel
theorem dM_thing_54 : decode bM_thing 54 = .ok (.getfield 48, 3) := by decide +kernel
theorem dM_thing_57 : decode bM_thing 57 = .ok (.iload_n 2, 1) := by decide +kernel
theorem dM_thing_58 : decode bM_thing 58 = .ok (.iaload, 1) := by decide +kernel
theorem dM_thing_59 : decode bM_thing 59 = .ok (.ifCond .lt 18, 3) := by decide +kernel
theorem dM_thing_62 : decode bM_thing 62 = .ok (.aload_n 0, 1) := by decide +kernel
theorem dM_thing_63 : decode bM_thing 63 = .ok (.bipush 14, 2) := by decide +kernel
theorem dM_thing_65 : decode bM_thing 65 = .ok (.aload_n 0, 1) := by decide +kernel
theorem dM_thing_66 : decode bM_thing 66 = .ok (.getfield 48, 3) := by decide +kernel
theorem dM_thing_69 : decode bM_thing 69 = .ok (.iload_n 2, 1) := by decide +kernel
theorem dM_thing_70 : decode bM_thing 70 = .ok (.iaload, 1) := by decide +kernel
theorem dM_thing_71 : decode bM_thing 71 = .ok (.invokevirtual 86, 3) := by decide +kernel
theorem dM_thing_74 : decode bM_thing 74 = .ok (.goto 6, 3) := by decide +kernel
theorem dM_thing_77 : decode bM_thing 77 = .ok (.bipush 10, 2) := by decide +kernel
theorem dM_thing_79 : decode bM_thing 79 = .ok (.ireturn, 1) := by decide +kernel
theorem dM_thing_80 : decode bM_thing 80 = .ok (.aload_n 0, 1) := by decide +kernel
theorem dM_thing_81 : decode bM_thing 81 = .ok (.invokevirtual 154, 3) := by decide +kernel
theorem dM_thing_84 : decode bM_thing 84 = .ok (.bipush 7, 2) := by decide +kernel
theorem dM_thing_86 : decode bM_thing 86 = .ok (.ireturn, 1) := by decide +kernel
theorem dM_wholePart_0 : decode bM_wholePart 0 = .ok (.aload_n 0, 1) := by decide +kernel
theorem dM_wholePart_1 : decode bM_wholePart 1 = .ok (.getfield 132, 3) := by decide +kernel
theorem dM_wholePart_4 : decode bM_wholePart 4 = .ok (.ifCond .eq 13, 3) := by decide +kernel
theorem dM_wholePart_7 : decode bM_wholePart 7 = .ok (.aload_n 0, 1) := by decide +kernel
theorem dM_wholePart_8 : decode bM_wholePart 8 = .ok (.bipush 16, 2) := by decide +kernel
theorem dM_wholePart_10 : decode bM_wholePart 10 = .ok (.aload_n 0, 1) := by decide +kernel
theorem dM_wholePart_11 : decode bM_wholePart 11 = .ok (.getfield 148, 3) := by decide +kernel
theorem dM_wholePart_14 : decode bM_wholePart 14 = .ok (.invokevirtual 86, 3) := by decide +kernel
theorem dM_wholePart_17 : decode bM_wholePart 17 = .ok (.aload_n 0, 1) := by decide +kernel
theorem dM_wholePart_18 : decode bM_wholePart 18 = .ok (.getfield 120, 3) := by decide +kernel
theorem dM_wholePart_21 : decode bM_wholePart 21 = .ok (.ifCond .eq 10, 3) := by decide +kernel
theorem dM_wholePart_24 : decode bM_wholePart 24 = .ok (.aload_n 0, 1) := by decide +kernel
theorem dM_wholePart_25 : decode bM_wholePart 25 = .ok (.bipush 17, 2) := by decide +kernel
theorem dM_wholePart_27 : decode bM_wholePart 27 = .ok (.iconst 0, 1) := by decide +kernel
theorem dM_wholePart_28 : decode bM_wholePart 28 = .ok (.invokevirtual 86, 3) := by decide +kernel
theorem dM_wholePart_31 : decode bM_wholePart 31 = .ok (.aload_n 0, 1) := by decide +kernel
theorem dM_wholePart_32 : decode bM_wholePart 32 = .ok (.getfield 123, 3) := by decide +kernel
theorem dM_wholePart_35 : decode bM_wholePart 35 = .ok (.ifCond .ne 10, 3) := by decide +kernel
theorem dM_wholePart_38 : decode bM_wholePart 38 = .ok (.aload_n 0, 1) := by decide +kernel
theorem dM_wholePart_39 : decode bM_wholePart 39 = .ok (.bipush 18, 2) := by decide +kernel
theorem dM_wholePart_41 : decode bM_wholePart 41 = .ok (.iconst 0, 1) := by decide +kernel
theorem dM_wholePart_42 : decode bM_wholePart 42 = .ok (.invokevirtual 86, 3) := by decide +kernel
theorem dM_wholePart_45 : decode bM_wholePart 45 = .ok (.aload_n 0, 1) := by decide +kernel
theorem dM_wholePart_46 : decode bM_wholePart 46 = .ok (.iconst 0, 1) := by decide +kernel
theorem dM_wholePart_47 : decode bM_wholePart 47 = .ok (.putfield 123, 3) := by decide +kernel
theorem dM_wholePart_50 : decode bM_wholePart 50 = .ok (.aload_n 0, 1) := by decide +kernel
theorem dM_wholePart_51 : decode bM_wholePart 51 = .ok (.iconst 0, 1) := by decide +kernel
theorem dM_wholePart_52 : decode bM_wholePart 52 = .ok (.putfield 126, 3) := by decide +kernel
theorem dM_wholePart_55 : decode bM_wholePart 55 = .ok (.aload_n 0, 1) := by decide +kernel
theorem dM_wholePart_56 : decode bM_wholePart 56 = .ok (.iconst 0, 1) := by decide +kernel
theorem dM_wholePart_57 : decode bM_wholePart 57 = .ok (.putfield 132, 3) := by decide +kernel
theorem dM_wholePart_60 : decode bM_wholePart 60 = .ok (.return_, 1) := by decide +kernel
theorem dM_afterOne_0 : decode bM_afterOne 0 = .ok (.iload_n 1, 1) := by decide +kernel
theorem dM_afterOne_1 : decode bM_afterOne 1 = .ok (.bipush 38, 2) := by decide +kernel
theorem dM_afterOne_3 : decode bM_afterOne 3 = .ok (.if_icmp .ne 16, 3) := by decide +kernel
theorem dM_afterOne_6 : decode bM_afterOne 6 = .ok (.aload_n 0, 1) := by decide +kernel
theorem dM_afterOne_7 : decode bM_afterOne 7 = .ok (.iconst 2, 1) := by decide +kernel
theorem dM_afterOne_8 : decode bM_afterOne 8 = .ok (.iconst 2, 1) := by decide +kernel
theorem dM_afterOne_9 : decode bM_afterOne 9 = .ok (.invokevirtual 114, 3) := by decide +kernel
theorem dM_afterOne_12 : decode bM_afterOne 12 = .ok (.aload_n 0, 1) := by decide +kernel
theorem dM_afterOne_13 : decode bM_afterOne 13 = .ok (.iconst 2, 1) := by decide +kernel
theorem dM_afterOne_14 : decode bM_afterOne 14 = .ok (.invokevirtual 78, 3) := by decide +kernel
theorem dM_afterOne_17 : decode bM_afterOne 17 = .ok (.iconst 0, 1) := by decide +kernel
theorem dM_afterOne_18 : decode bM_afterOne 18 = .ok (.ireturn, 1) := by decide +kernel
theorem dM_afterOne_19 : decode bM_afterOne 19 = .ok (.aload_n 0, 1) := by decide +kernel
theorem dM_afterOne_20 : decode bM_afterOne 20 = .ok (.iconst 2, 1) := by decide +kernel
theorem dM_afterOne_21 : decode bM_afterOne 21 = .ok (.iconst 1, 1) := by decide +kernel
theorem dM_afterOne_22 : decode bM_afterOne 22 = .ok (.invokevirtual 114, 3) := by decide +kernel
theorem dM_afterOne_25 : decode bM_afterOne 25 = .ok (.iload_n 1, 1) := by decide +kernel
theorem dM_afterOne_26 : decode bM_afterOne 26 = .ok (.bipush 124, 2) := by decide +kernel
theorem dM_afterOne_28 : decode bM_afterOne 28 = .ok (.if_icmp .ne 10, 3) := by decide +kernel
theorem dM_afterOne_31 : decode bM_afterOne 31 = .ok (.aload_n 0, 1) := by decide +kernel
theorem dM_afterOne_32 : decode bM_afterOne 32 = .ok (.iconst 1, 1) := by decide +kernel
theorem dM_afterOne_33 : decode bM_afterOne 33 = .ok (.invokevirtual 78, 3) := by decide +kernel
theorem dM_afterOne_36 : decode bM_afterOne 36 = .ok (.iconst 0, 1) := by decide +kernel
theorem dM_afterOne_37 : decode bM_afterOne 37 = .ok (.ireturn, 1) := by decide +kernel
theorem dM_afterOne_38 : decode bM_afterOne 38 = .ok (.iload_n 1, 1) := by decide +kernel
theorem dM_afterOne_39 : decode bM_afterOne 39 = .ok (.bipush 41, 2) := by decide +kernel
theorem dM_afterOne_41 : decode bM_afterOne 41 = .ok (.if_icmp .ne 11, 3) := by decide +kernel
theorem dM_afterOne_44 : decode bM_afterOne 44 = .ok (.aload_n 0, 1) := by decide +kernel
theorem dM_afterOne_45 : decode bM_afterOne 45 = .ok (.invokevirtual 82, 3) := by decide +kernel
theorem dM_afterOne_48 : decode bM_afterOne 48 = .ok (.iconst 4, 1) := by decide +kernel
theorem dM_afterOne_49 : decode bM_afterOne 49 = .ok (.if_icmp .eq 6, 3) := by decide +kernel
theorem dM_afterOne_52 : decode bM_afterOne 52 = .ok (.bipush 10, 2) := by decide +kernel
theorem dM_afterOne_54 : decode bM_afterOne 54 = .ok (.ireturn, 1) := by decide +kernel
theorem dM_afterOne_55 : decode bM_afterOne 55 = .ok (.aload_n 0, 1) := by decide +kernel
theorem dM_afterOne_56 : decode bM_afterOne 56 = .ok (.invokevirtual 111, 3) := by decide +kernel
theorem dM_afterOne_59 : decode bM_afterOne 59 = .ok (.aload_n 0, 1) := by decide +kernel
theorem dM_afterOne_60 : decode bM_afterOne 60 = .ok (.invokevirtual 117, 3) := by decide +kernel
theorem dM_afterOne_63 : decode bM_afterOne 63 = .ok (.ireturn, 1) := by decide +kernel
theorem dM_wholeOne_0 : decode bM_wholeOne 0 = .ok (.aload_n 0, 1) := by decide +kernel
theorem dM_wholeOne_1 : decode bM_wholeOne 1 = .ok (.invokevirtual 82, 3) := by decide +kernel
theorem dM_wholeOne_4 : decode bM_wholeOne 4 = .ok (.iconst 3, 1) := by decide +kernel
theorem dM_wholeOne_5 : decode bM_wholeOne 5 = .ok (.if_icmp .eq 11, 3) := by decide +kernel
theorem dM_wholeOne_8 : decode bM_wholeOne 8 = .ok (.aload_n 0, 1) := by decide +kernel
theorem dM_wholeOne_9 : decode bM_wholeOne 9 = .ok (.invokevirtual 82, 3) := by decide +kernel
theorem dM_wholeOne_12 : decode bM_wholeOne 12 = .ok (.iconst 5, 1) := by decide +kernel
theorem dM_wholeOne_13 : decode bM_wholeOne 13 = .ok (.if_icmp .ne 67, 3) := by decide +kernel
theorem dM_wholeOne_16 : decode bM_wholeOne 16 = .ok (.aload_n 0, 1) := by decide +kernel
theorem dM_wholeOne_17 : decode bM_wholeOne 17 = .ok (.getfield 42, 3) := by decide +kernel
theorem dM_wholeOne_20 : decode bM_wholeOne 20 = .ok (.aload_n 0, 1) := by decide +kernel
theorem dM_wholeOne_21 : decode bM_wholeOne 21 = .ok (.getfield 72, 3) := by decide +kernel
theorem dM_wholeOne_24 : decode bM_wholeOne 24 = .ok (.iconst 1, 1) := by decide +kernel
theorem dM_wholeOne_25 : decode bM_wholeOne 25 = .ok (.isub, 1) := by decide +kernel
theorem dM_wholeOne_26 : decode bM_wholeOne 26 = .ok (.iaload, 1) := by decide +kernel
theorem dM_wholeOne_27 : decode bM_wholeOne 27 = .ok (.istore_n 1, 1) := by decide +kernel
theorem dM_wholeOne_28 : decode bM_wholeOne 28 = .ok (.aload_n 0, 1) := by decide +kernel
theorem dM_wholeOne_29 : decode bM_wholeOne 29 = .ok (.invokevirtual 82, 3) := by decide +kernel
theorem dM_wholeOne_32 : decode bM_wholeOne 32 = .ok (.iconst 3, 1) := by decide +kernel
theorem dM_wholeOne_33 : decode bM_wholeOne 33 = .ok (.if_icmp .ne 12, 3) := by decide +kernel
theorem dM_wholeOne_36 : decode bM_wholeOne 36 = .ok (.aload_n 0, 1) := by decide +kernel
theorem dM_wholeOne_37 : decode bM_wholeOne 37 = .ok (.iconst 3, 1) := by decide +kernel
theorem dM_wholeOne_38 : decode bM_wholeOne 38 = .ok (.iconst 0, 1) := by decide +kernel
theorem dM_wholeOne_39 : decode bM_wholeOne 39 = .ok (.invokevirtual 86, 3) := by decide +kernel
theorem dM_wholeOne_42 : decode bM_wholeOne 42 = .ok (.goto 31, 3) := by decide +kernel
theorem dM_wholeOne_45 : decode bM_wholeOne 45 = .ok (.aload_n 0, 1) := by decide +kernel
theorem dM_wholeOne_46 : decode bM_wholeOne 46 = .ok (.iconst 5, 1) := by decide +kernel
theorem dM_wholeOne_47 : decode bM_wholeOne 47 = .ok (.aload_n 0, 1) := by decide +kernel
theorem dM_wholeOne_48 : decode bM_wholeOne 48 = .ok (.getfield 48, 3) := by decide +kernel
theorem dM_wholeOne_51 : decode bM_wholeOne 51 = .ok (.iload_n 1, 1) := by decide +kernel
theorem dM_wholeOne_52 : decode bM_wholeOne 52 = .ok (.iaload, 1) := by decide +kernel
theorem dM_wholeOne_53 : decode bM_wholeOne 53 = .ok (.invokevirtual 86, 3) := by decide +kernel
theorem dM_wholeOne_56 : decode bM_wholeOne 56 = .ok (.aload_n 0, 1) := by decide +kernel
theorem dM_wholeOne_57 : decode bM_wholeOne 57 = .ok (.getfield 48, 3) := by decide +kernel
theorem dM_wholeOne_60 : decode bM_wholeOne 60 = .ok (.iload_n 1, 1) := by decide +kernel
theorem dM_wholeOne_61 : decode bM_wholeOne 61 = .ok (.aload_n 0, 1) := by decide +kernel
theorem dM_wholeOne_62 : decode bM_wholeOne 62 = .ok (.getfield 45, 3) := by decide +kernel
theorem dM_wholeOne_65 : decode bM_wholeOne 65 = .ok (.aload_n 0, 1) := by decide +kernel
theorem dM_wholeOne_66 : decode bM_wholeOne 66 = .ok (.getfield 72, 3) := by decide +kernel
theorem dM_wholeOne_69 : decode bM_wholeOne 69 = .ok (.iconst 1, 1) := by decide +kernel
theorem dM_wholeOne_70 : decode bM_wholeOne 70 = .ok (.isub, 1) := by decide +kernel
theorem dM_wholeOne_71 : decode bM_wholeOne 71 = .ok (.iaload, 1) := by decide +kernel
theorem dM_wholeOne_72 : decode bM_wholeOne 72 = .ok (.iastore, 1) := by decide +kernel
theorem dM_wholeOne_73 : decode bM_wholeOne 73 = .ok (.aload_n 0, 1) := by decide +kernel
theorem dM_wholeOne_74 : decode bM_wholeOne 74 = .ok (.invokevirtual 111, 3) := by decide +kernel
theorem dM_wholeOne_77 : decode bM_wholeOne 77 = .ok (.goto (-77), 3) := by decide +kernel
theorem dM_wholeOne_80 : decode bM_wholeOne 80 = .ok (.iconst 1, 1) := by decide +kernel
theorem dM_wholeOne_81 : decode bM_wholeOne 81 = .ok (.ireturn, 1) := by decide +kernel
theorem dM_bound_0 : decode bM_bound 0 = .ok (.iload_n 1, 1) := by decide +kernel
theorem dM_bound_1 : decode bM_bound 1 = .ok (.invokestatic 108, 3) := by decide +kernel
theorem dM_bound_4 : decode bM_bound 4 = .ok (.istore_n 2, 1) := by decide +kernel
theorem dM_bound_5 : decode bM_bound 5 = .ok (.iload_n 2, 1) := by decide +kernel
theorem dM_bound_6 : decode bM_bound 6 = .ok (.ifCond .ge 6, 3) := by decide +kernel
theorem dM_bound_9 : decode bM_bound 9 = .ok (.bipush 10, 2) := by decide +kernel
theorem dM_bound_11 : decode bM_bound 11 = .ok (.ireturn, 1) := by decide +kernel
theorem dM_bound_12 : decode bM_bound 12 = .ok (.aload_n 0, 1) := by decide +kernel
theorem dM_bound_13 : decode bM_bound 13 = .ok (.getfield 33, 3) := by decide +kernel
theorem dM_bound_16 : decode bM_bound 16 = .ok (.aload_n 0, 1) := by decide +kernel
theorem dM_bound_17 : decode bM_bound 17 = .ok (.getfield 98, 3) := by decide +kernel
theorem dM_bound_20 : decode bM_bound 20 = .ok (.aload_n 0, 1) := by decide +kernel
theorem dM_bound_21 : decode bM_bound 21 = .ok (.getfield 94, 3) := by decide +kernel
theorem dM_bound_24 : decode bM_bound 24 = .ok (.bastore, 1) := by decide +kernel
theorem dM_bound_25 : decode bM_bound 25 = .ok (.aload_n 0, 1) := by decide +kernel
theorem dM_bound_26 : decode bM_bound 26 = .ok (.getfield 36, 3) := by decide +kernel
theorem dM_bound_29 : decode bM_bound 29 = .ok (.aload_n 0, 1) := by decide +kernel
theorem dM_bound_30 : decode bM_bound 30 = .ok (.getfield 98, 3) := by decide +kernel
theorem dM_bound_33 : decode bM_bound 33 = .ok (.iload_n 2, 1) := by decide +kernel
theorem dM_bound_34 : decode bM_bound 34 = .ok (.iconst 2, 1) := by decide +kernel
theorem dM_bound_35 : decode bM_bound 35 = .ok (.if_icmp .le 7, 3) := by decide +kernel
theorem dM_bound_38 : decode bM_bound 38 = .ok (.iconst 1, 1) := by decide +kernel
theorem dM_bound_39 : decode bM_bound 39 = .ok (.goto 4, 3) := by decide +kernel
theorem dM_bound_42 : decode bM_bound 42 = .ok (.iconst 0, 1) := by decide +kernel
theorem dM_bound_43 : decode bM_bound 43 = .ok (.bastore, 1) := by decide +kernel
theorem dM_bound_44 : decode bM_bound 44 = .ok (.aload_n 0, 1) := by decide +kernel
theorem dM_bound_45 : decode bM_bound 45 = .ok (.bipush 12, 2) := by decide +kernel
theorem dM_bound_47 : decode bM_bound 47 = .ok (.aload_n 0, 1) := by decide +kernel
theorem dM_bound_48 : decode bM_bound 48 = .ok (.getfield 98, 3) := by decide +kernel
theorem dM_bound_51 : decode bM_bound 51 = .ok (.invokevirtual 86, 3) := by decide +kernel
theorem dM_bound_54 : decode bM_bound 54 = .ok (.aload_n 0, 1) := by decide +kernel
theorem dM_bound_55 : decode bM_bound 55 = .ok (.iconst 5, 1) := by decide +kernel
theorem dM_bound_56 : decode bM_bound 56 = .ok (.invokevirtual 90, 3) := by decide +kernel
theorem dM_bound_59 : decode bM_bound 59 = .ok (.pop, 1) := by decide +kernel
theorem dM_bound_60 : decode bM_bound 60 = .ok (.aload_n 0, 1) := by decide +kernel
theorem dM_bound_61 : decode bM_bound 61 = .ok (.getfield 42, 3) := by decide +kernel
theorem dM_bound_64 : decode bM_bound 64 = .ok (.aload_n 0, 1) := by decide +kernel
theorem dM_bound_65 : decode bM_bound 65 = .ok (.getfield 72, 3) := by decide +kernel
theorem dM_bound_68 : decode bM_bound 68 = .ok (.iconst 1, 1) := by decide +kernel
theorem dM_bound_69 : decode bM_bound 69 = .ok (.isub, 1) := by decide +kernel
theorem dM_bound_70 : decode bM_bound 70 = .ok (.iload_n 2, 1) := by decide +kernel
theorem dM_bound_71 : decode bM_bound 71 = .ok (.iastore, 1) := by decide +kernel
theorem dM_bound_72 : decode bM_bound 72 = .ok (.aload_n 0, 1) := by decide +kernel
theorem dM_bound_73 : decode bM_bound 73 = .ok (.getfield 45, 3) := by decide +kernel
theorem dM_bound_76 : decode bM_bound 76 = .ok (.aload_n 0, 1) := by decide +kernel
theorem dM_bound_77 : decode bM_bound 77 = .ok (.getfield 72, 3) := by decide +kernel
theorem dM_bound_80 : decode bM_bound 80 = .ok (.iconst 1, 1) := by decide +kernel
theorem dM_bound_81 : decode bM_bound 81 = .ok (.isub, 1) := by decide +kernel
theorem dM_bound_82 : decode bM_bound 82 = .ok (.aload_n 0, 1) := by decide +kernel
theorem dM_bound_83 : decode bM_bound 83 = .ok (.getfield 48, 3) := by decide +kernel
theorem dM_bound_86 : decode bM_bound 86 = .ok (.iload_n 2, 1) := by decide +kernel
theorem dM_bound_87 : decode bM_bound 87 = .ok (.iaload, 1) := by decide +kernel
theorem dM_bound_88 : decode bM_bound 88 = .ok (.iastore, 1) := by decide +kernel
theorem dM_bound_89 : decode bM_bound 89 = .ok (.aload_n 0, 1) := by decide +kernel
theorem dM_bound_90 : decode bM_bound 90 = .ok (.getfield 48, 3) := by decide +kernel
theorem dM_bound_93 : decode bM_bound 93 = .ok (.iload_n 2, 1) := by decide +kernel
theorem dM_bound_94 : decode bM_bound 94 = .ok (.aload_n 0, 1) := by decide +kernel
theorem dM_bound_95 : decode bM_bound 95 = .ok (.getfield 98, 3) := by decide +kernel
theorem dM_bound_98 : decode bM_bound 98 = .ok (.iastore, 1) := by decide +kernel
theorem dM_bound_99 : decode bM_bound 99 = .ok (.aload_n 0, 1) := by decide +kernel
theorem dM_bound_100 : decode bM_bound 100 = .ok (.dup, 1) := by decide +kernel
theorem dM_bound_101 : decode bM_bound 101 = .ok (.getfield 98, 3) := by decide +kernel
theorem dM_bound_104 : decode bM_bound 104 = .ok (.iconst 1, 1) := by decide +kernel
theorem dM_bound_105 : decode bM_bound 105 = .ok (.iadd, 1) := by decide +kernel
theorem dM_bound_106 : decode bM_bound 106 = .ok (.putfield 98, 3) := by decide +kernel
theorem dM_bound_109 : decode bM_bound 109 = .ok (.iconst 0, 1) := by decide +kernel
theorem dM_bound_110 : decode bM_bound 110 = .ok (.ireturn, 1) := by decide +kernel
theorem dM_afterNumber_0 : decode bM_afterNumber 0 = .ok (.iload_n 1, 1) := by decide +kernel
theorem dM_afterNumber_1 : decode bM_afterNumber 1 = .ok (.invokestatic 135, 3) := by decide +kernel
theorem dM_afterNumber_4 : decode bM_afterNumber 4 = .ok (.ifCond .eq 44, 3) := by decide +kernel
theorem dM_afterNumber_7 : decode bM_afterNumber 7 = .ok (.aload_n 0, 1) := by decide +kernel
theorem dM_afterNumber_8 : decode bM_afterNumber 8 = .ok (.bipush 10, 2) := by decide +kernel
theorem dM_afterNumber_10 : decode bM_afterNumber 10 = .ok (.aload_n 0, 1) := by decide +kernel
theorem dM_afterNumber_11 : decode bM_afterNumber 11 = .ok (.getfield 139, 3) := by decide +kernel
theorem dM_afterNumber_14 : decode bM_afterNumber 14 = .ok (.imul, 1) := by decide +kernel
theorem dM_afterNumber_15 : decode bM_afterNumber 15 = .ok (.iload_n 1, 1) := by decide +kernel
theorem dM_afterNumber_16 : decode bM_afterNumber 16 = .ok (.iadd, 1) := by decide +kernel
theorem dM_afterNumber_17 : decode bM_afterNumber 17 = .ok (.bipush 48, 2) := by decide +kernel
theorem dM_afterNumber_19 : decode bM_afterNumber 19 = .ok (.isub, 1) := by decide +kernel
theorem dM_afterNumber_20 : decode bM_afterNumber 20 = .ok (.putfield 139, 3) := by decide +kernel
theorem dM_afterNumber_23 : decode bM_afterNumber 23 = .ok (.aload_n 0, 1) := by decide +kernel
theorem dM_afterNumber_24 : decode bM_afterNumber 24 = .ok (.dup, 1) := by decide +kernel
theorem dM_afterNumber_25 : decode bM_afterNumber 25 = .ok (.getfield 142, 3) := by decide +kernel
theorem dM_afterNumber_28 : decode bM_afterNumber 28 = .ok (.iconst 1, 1) := by decide +kernel
theorem dM_afterNumber_29 : decode bM_afterNumber 29 = .ok (.iadd, 1) := by decide +kernel
theorem dM_afterNumber_30 : decode bM_afterNumber 30 = .ok (.putfield 142, 3) := by decide +kernel
theorem dM_afterNumber_33 : decode bM_afterNumber 33 = .ok (.aload_n 0, 1) := by decide +kernel
theorem dM_afterNumber_34 : decode bM_afterNumber 34 = .ok (.getfield 142, 3) := by decide +kernel
theorem dM_afterNumber_37 : decode bM_afterNumber 37 = .ok (.iconst 4, 1) := by decide +kernel
theorem dM_afterNumber_38 : decode bM_afterNumber 38 = .ok (.if_icmp .ge 7, 3) := by decide +kernel
theorem dM_afterNumber_41 : decode bM_afterNumber 41 = .ok (.iconst 5, 1) := by decide +kernel
theorem dM_afterNumber_42 : decode bM_afterNumber 42 = .ok (.goto 5, 3) := by decide +kernel
theorem dM_afterNumber_45 : decode bM_afterNumber 45 = .ok (.bipush 10, 2) := by decide +kernel
theorem dM_afterNumber_47 : decode bM_afterNumber 47 = .ok (.ireturn, 1) := by decide +kernel
theorem dM_afterNumber_48 : decode bM_afterNumber 48 = .ok (.iload_n 1, 1) := by decide +kernel
theorem dM_afterNumber_49 : decode bM_afterNumber 49 = .ok (.bipush 42, 2) := by decide +kernel
theorem dM_afterNumber_51 : decode bM_afterNumber 51 = .ok (.if_icmp .ne 19, 3) := by decide +kernel
theorem dM_afterNumber_54 : decode bM_afterNumber 54 = .ok (.aload_n 0, 1) := by decide +kernel
theorem dM_afterNumber_55 : decode bM_afterNumber 55 = .ok (.iconst 1, 1) := by decide +kernel
theorem dM_afterNumber_56 : decode bM_afterNumber 56 = .ok (.putfield 132, 3) := by decide +kernel
theorem dM_afterNumber_59 : decode bM_afterNumber 59 = .ok (.aload_n 0, 1) := by decide +kernel
theorem dM_afterNumber_60 : decode bM_afterNumber 60 = .ok (.aload_n 0, 1) := by decide +kernel
theorem dM_afterNumber_61 : decode bM_afterNumber 61 = .ok (.getfield 139, 3) := by decide +kernel
theorem dM_afterNumber_64 : decode bM_afterNumber 64 = .ok (.putfield 148, 3) := by decide +kernel
theorem dM_afterNumber_67 : decode bM_afterNumber 67 = .ok (.bipush 6, 2) := by decide +kernel
theorem dM_afterNumber_69 : decode bM_afterNumber 69 = .ok (.ireturn, 1) := by decide +kernel
theorem dM_afterNumber_70 : decode bM_afterNumber 70 = .ok (.iload_n 1, 1) := by decide +kernel
theorem dM_afterNumber_71 : decode bM_afterNumber 71 = .ok (.bipush 58, 2) := by decide +kernel
theorem dM_afterNumber_73 : decode bM_afterNumber 73 = .ok (.if_icmp .ne 37, 3) := by decide +kernel
theorem dM_afterNumber_76 : decode bM_afterNumber 76 = .ok (.aload_n 0, 1) := by decide +kernel
theorem dM_afterNumber_77 : decode bM_afterNumber 77 = .ok (.getfield 126, 3) := by decide +kernel
theorem dM_afterNumber_80 : decode bM_afterNumber 80 = .ok (.ifCond .eq 30, 3) := by decide +kernel
theorem dM_afterNumber_83 : decode bM_afterNumber 83 = .ok (.aload_n 0, 1) := by decide +kernel
theorem dM_afterNumber_84 : decode bM_afterNumber 84 = .ok (.iconst 3, 1) := by decide +kernel
theorem dM_afterNumber_85 : decode bM_afterNumber 85 = .ok (.putfield 101, 3) := by decide +kernel
theorem dM_afterNumber_88 : decode bM_afterNumber 88 = .ok (.aload_n 0, 1) := by decide +kernel
theorem dM_afterNumber_89 : decode bM_afterNumber 89 = .ok (.aload_n 0, 1) := by decide +kernel
theorem dM_afterNumber_90 : decode bM_afterNumber 90 = .ok (.getfield 139, 3) := by decide +kernel
theorem dM_afterNumber_93 : decode bM_afterNumber 93 = .ok (.putfield 151, 3) := by decide +kernel
theorem dM_afterNumber_96 : decode bM_afterNumber 96 = .ok (.aload_n 0, 1) := by decide +kernel
theorem dM_afterNumber_97 : decode bM_afterNumber 97 = .ok (.getfield 139, 3) := by decide +kernel
theorem dM_afterNumber_100 : decode bM_afterNumber 100 = .ok (.ifCond .le 7, 3) := by decide +kernel
theorem dM_afterNumber_103 : decode bM_afterNumber 103 = .ok (.iconst 3, 1) := by decide +kernel
theorem dM_afterNumber_104 : decode bM_afterNumber 104 = .ok (.goto 5, 3) := by decide +kernel
theorem dM_afterNumber_107 : decode bM_afterNumber 107 = .ok (.bipush 10, 2) := by decide +kernel
theorem dM_afterNumber_109 : decode bM_afterNumber 109 = .ok (.ireturn, 1) := by decide +kernel
theorem dM_afterNumber_110 : decode bM_afterNumber 110 = .ok (.aload_n 0, 1) := by decide +kernel
theorem dM_afterNumber_111 : decode bM_afterNumber 111 = .ok (.bipush 13, 2) := by decide +kernel
theorem dM_afterNumber_113 : decode bM_afterNumber 113 = .ok (.aload_n 0, 1) := by decide +kernel
theorem dM_afterNumber_114 : decode bM_afterNumber 114 = .ok (.getfield 139, 3) := by decide +kernel
theorem dM_afterNumber_117 : decode bM_afterNumber 117 = .ok (.invokevirtual 86, 3) := by decide +kernel
theorem dM_afterNumber_120 : decode bM_afterNumber 120 = .ok (.aload_n 0, 1) := by decide +kernel
theorem dM_afterNumber_121 : decode bM_afterNumber 121 = .ok (.invokevirtual 154, 3) := by decide +kernel
theorem dM_afterNumber_124 : decode bM_afterNumber 124 = .ok (.aload_n 0, 1) := by decide +kernel
theorem dM_afterNumber_125 : decode bM_afterNumber 125 = .ok (.iload_n 1, 1) := by decide +kernel
theorem dM_afterNumber_126 : decode bM_afterNumber 126 = .ok (.invokevirtual 157, 3) := by decide +kernel
theorem dM_afterNumber_129 : decode bM_afterNumber 129 = .ok (.ireturn, 1) := by decide +kernel
theorem dM_afterPart_0 : decode bM_afterPart 0 = .ok (.iload_n 1, 1) := by decide +kernel
theorem dM_afterPart_1 : decode bM_afterPart 1 = .ok (.bipush 43, 2) := by decide +kernel
theorem dM_afterPart_3 : decode bM_afterPart 3 = .ok (.if_icmp .eq 9, 3) := by decide +kernel
theorem dM_afterPart_6 : decode bM_afterPart 6 = .ok (.iload_n 1, 1) := by decide +kernel
theorem dM_afterPart_7 : decode bM_afterPart 7 = .ok (.bipush 45, 2) := by decide +kernel
theorem dM_afterPart_9 : decode bM_afterPart 9 = .ok (.if_icmp .ne 20, 3) := by decide +kernel
theorem dM_afterPart_12 : decode bM_afterPart 12 = .ok (.aload_n 0, 1) := by decide +kernel
theorem dM_afterPart_13 : decode bM_afterPart 13 = .ok (.iload_n 1, 1) := by decide +kernel
theorem dM_afterPart_14 : decode bM_afterPart 14 = .ok (.bipush 45, 2) := by decide +kernel
theorem dM_afterPart_16 : decode bM_afterPart 16 = .ok (.if_icmp .ne 7, 3) := by decide +kernel
theorem dM_afterPart_19 : decode bM_afterPart 19 = .ok (.iconst 1, 1) := by decide +kernel
theorem dM_afterPart_20 : decode bM_afterPart 20 = .ok (.goto 4, 3) := by decide +kernel
theorem dM_afterPart_23 : decode bM_afterPart 23 = .ok (.iconst 0, 1) := by decide +kernel
theorem dM_afterPart_24 : decode bM_afterPart 24 = .ok (.putfield 120, 3) := by decide +kernel
theorem dM_afterPart_27 : decode bM_afterPart 27 = .ok (.iconst 4, 1) := by decide +kernel
theorem dM_afterPart_28 : decode bM_afterPart 28 = .ok (.ireturn, 1) := by decide +kernel
theorem dM_afterPart_29 : decode bM_afterPart 29 = .ok (.aload_n 0, 1) := by decide +kernel
theorem dM_afterPart_30 : decode bM_afterPart 30 = .ok (.getfield 101, 3) := by decide +kernel
theorem dM_afterPart_33 : decode bM_afterPart 33 = .ok (.ifCond .ne 42, 3) := by decide +kernel
theorem dM_afterPart_36 : decode bM_afterPart 36 = .ok (.aload_n 0, 1) := by decide +kernel
theorem dM_afterPart_37 : decode bM_afterPart 37 = .ok (.iload_n 1, 1) := by decide +kernel
theorem dM_afterPart_38 : decode bM_afterPart 38 = .ok (.bipush 60, 2) := by decide +kernel
theorem dM_afterPart_40 : decode bM_afterPart 40 = .ok (.if_icmp .ne 7, 3) := by decide +kernel
theorem dM_afterPart_43 : decode bM_afterPart 43 = .ok (.iconst 1, 1) := by decide +kernel
theorem dM_afterPart_44 : decode bM_afterPart 44 = .ok (.goto 14, 3) := by decide +kernel
theorem dM_afterPart_47 : decode bM_afterPart 47 = .ok (.iload_n 1, 1) := by decide +kernel
theorem dM_afterPart_48 : decode bM_afterPart 48 = .ok (.bipush 61, 2) := by decide +kernel
theorem dM_afterPart_50 : decode bM_afterPart 50 = .ok (.if_icmp .ne 7, 3) := by decide +kernel
theorem dM_afterPart_53 : decode bM_afterPart 53 = .ok (.iconst 2, 1) := by decide +kernel
theorem dM_afterPart_54 : decode bM_afterPart 54 = .ok (.goto 4, 3) := by decide +kernel
theorem dM_afterPart_57 : decode bM_afterPart 57 = .ok (.iconst 0, 1) := by decide +kernel
theorem dM_afterPart_58 : decode bM_afterPart 58 = .ok (.putfield 101, 3) := by decide +kernel
theorem dM_afterPart_61 : decode bM_afterPart 61 = .ok (.aload_n 0, 1) := by decide +kernel
theorem dM_afterPart_62 : decode bM_afterPart 62 = .ok (.getfield 101, 3) := by decide +kernel
theorem dM_afterPart_65 : decode bM_afterPart 65 = .ok (.ifCond .le 7, 3) := by decide +kernel
theorem dM_afterPart_68 : decode bM_afterPart 68 = .ok (.iconst 3, 1) := by decide +kernel
theorem dM_afterPart_69 : decode bM_afterPart 69 = .ok (.goto 5, 3) := by decide +kernel
theorem dM_afterPart_72 : decode bM_afterPart 72 = .ok (.bipush 10, 2) := by decide +kernel
theorem dM_afterPart_74 : decode bM_afterPart 74 = .ok (.ireturn, 1) := by decide +kernel
theorem dM_afterPart_75 : decode bM_afterPart 75 = .ok (.aload_n 0, 1) := by decide +kernel
theorem dM_afterPart_76 : decode bM_afterPart 76 = .ok (.aload_n 0, 1) := by decide +kernel
theorem dM_afterPart_77 : decode bM_afterPart 77 = .ok (.getfield 101, 3) := by decide +kernel
theorem dM_afterPart_80 : decode bM_afterPart 80 = .ok (.iconst 1, 1) := by decide +kernel
theorem dM_afterPart_81 : decode bM_afterPart 81 = .ok (.if_icmp .ne 8, 3) := by decide +kernel
theorem dM_afterPart_84 : decode bM_afterPart 84 = .ok (.bipush 19, 2) := by decide +kernel
theorem dM_afterPart_86 : decode bM_afterPart 86 = .ok (.goto 18, 3) := by decide +kernel
theorem dM_afterPart_89 : decode bM_afterPart 89 = .ok (.aload_n 0, 1) := by decide +kernel
theorem dM_afterPart_90 : decode bM_afterPart 90 = .ok (.getfield 101, 3) := by decide +kernel
theorem dM_afterPart_93 : decode bM_afterPart 93 = .ok (.iconst 2, 1) := by decide +kernel
theorem dM_afterPart_94 : decode bM_afterPart 94 = .ok (.if_icmp .ne 8, 3) := by decide +kernel
theorem dM_afterPart_97 : decode bM_afterPart 97 = .ok (.bipush 20, 2) := by decide +kernel
theorem dM_afterPart_99 : decode bM_afterPart 99 = .ok (.goto 5, 3) := by decide +kernel
theorem dM_afterPart_102 : decode bM_afterPart 102 = .ok (.bipush 21, 2) := by decide +kernel
theorem dM_afterPart_104 : decode bM_afterPart 104 = .ok (.aload_n 0, 1) := by decide +kernel
theorem dM_afterPart_105 : decode bM_afterPart 105 = .ok (.getfield 151, 3) := by decide +kernel
theorem dM_afterPart_108 : decode bM_afterPart 108 = .ok (.invokevirtual 86, 3) := by decide +kernel
theorem dM_afterPart_111 : decode bM_afterPart 111 = .ok (.aload_n 0, 1) := by decide +kernel
theorem dM_afterPart_112 : decode bM_afterPart 112 = .ok (.invokevirtual 117, 3) := by decide +kernel
theorem dM_afterPart_115 : decode bM_afterPart 115 = .ok (.pop, 1) := by decide +kernel
theorem dM_afterPart_116 : decode bM_afterPart 116 = .ok (.aload_n 0, 1) := by decide +kernel
theorem dM_afterPart_117 : decode bM_afterPart 117 = .ok (.iload_n 1, 1) := by decide +kernel
theorem dM_afterPart_118 : decode bM_afterPart 118 = .ok (.invokevirtual 160, 3) := by decide +kernel
theorem dM_afterPart_121 : decode bM_afterPart 121 = .ok (.ireturn, 1) := by decide +kernel
section
variable {p : Program} {l : Launch} {e : Env} {R : Room} {s : State} {m : MethodId} {args : Array Value} {below : List Frame} {meth : Method} {c : Code} {G : Gx} {M0 M' : Mem} {r : Option Value ⊕ Nat} {d : Nat} {C : Cx}

def fM_one_20 (n d : Nat) (C : Cx) (xs0 : Int32) (M : Mem) : Rz := some (.inl (some (.int xs0)), M)
set_option maxRecDepth 100000 in
set_option maxHeartbeats 4000000 in
theorem tM_one_20 {n : Nat} (F : FX p s m meth c G R M0 d "HeadCountModel" bM_one 2 (some .int)) (hC : CBs l G d C) : ∀ (xs0 : Int32) (M : Mem) (H : Heap) (locs : List Loc) (cells slots : Nat) (ls : Array Slot), fM_one_20 n d C xs0 M = some (r, M') → RL G M0 M H locs cells slots → lv_has ls 2 [] → W p l e R s m args below meth c H locs cells slots (CQ G below s M0 r M') (F0 m 20 ls [.int xs0]) := by
  obtain ⟨hx, hb, hml, hown, hrt, hlk, hex, hK, hRm⟩ := id F
  intro xs0 M H locs cells slots ls h hR hl
  unfold fM_one_20 at h
  cases h
  exact rt_i hx hb hlk hrt (Or.inl rfl) rfl hR dM_one_20
def fM_one_41 (n d : Nat) (C : Cx) (xs0 : Int32) (M : Mem) : Rz := some (.inl (some (.int xs0)), M)
set_option maxRecDepth 100000 in
set_option maxHeartbeats 4000000 in
theorem tM_one_41 {n : Nat} (F : FX p s m meth c G R M0 d "HeadCountModel" bM_one 2 (some .int)) (hC : CBs l G d C) : ∀ (xs0 : Int32) (M : Mem) (H : Heap) (locs : List Loc) (cells slots : Nat) (ls : Array Slot), fM_one_41 n d C xs0 M = some (r, M') → RL G M0 M H locs cells slots → lv_has ls 2 [] → W p l e R s m args below meth c H locs cells slots (CQ G below s M0 r M') (F0 m 41 ls [.int xs0]) := by
  obtain ⟨hx, hb, hml, hown, hrt, hlk, hex, hK, hRm⟩ := id F
  intro xs0 M H locs cells slots ls h hR hl
  unfold fM_one_41 at h
  cases h
  exact rt_i hx hb hlk hrt (Or.inl rfl) rfl hR dM_one_41
def fM_one_92 (n d : Nat) (C : Cx) (xs0 : Int32) (M : Mem) : Rz := some (.inl (some (.int xs0)), M)
set_option maxRecDepth 100000 in
set_option maxHeartbeats 4000000 in
theorem tM_one_92 {n : Nat} (F : FX p s m meth c G R M0 d "HeadCountModel" bM_one 2 (some .int)) (hC : CBs l G d C) : ∀ (xs0 : Int32) (M : Mem) (H : Heap) (locs : List Loc) (cells slots : Nat) (ls : Array Slot), fM_one_92 n d C xs0 M = some (r, M') → RL G M0 M H locs cells slots → lv_has ls 2 [] → W p l e R s m args below meth c H locs cells slots (CQ G below s M0 r M') (F0 m 92 ls [.int xs0]) := by
  obtain ⟨hx, hb, hml, hown, hrt, hlk, hex, hK, hRm⟩ := id F
  intro xs0 M H locs cells slots ls h hR hl
  unfold fM_one_92 at h
  cases h
  exact rt_i hx hb hlk hrt (Or.inl rfl) rfl hR dM_one_92
def fM_one_90 (n d : Nat) (C : Cx) (M : Mem) : Rz := fM_one_92 n d C 10 M
set_option maxRecDepth 100000 in
set_option maxHeartbeats 4000000 in
theorem tM_one_90 {n : Nat} (F : FX p s m meth c G R M0 d "HeadCountModel" bM_one 2 (some .int)) (hC : CBs l G d C) : ∀ (M : Mem) (H : Heap) (locs : List Loc) (cells slots : Nat) (ls : Array Slot), fM_one_90 n d C M = some (r, M') → RL G M0 M H locs cells slots → lv_has ls 2 [] → W p l e R s m args below meth c H locs cells slots (CQ G below s M0 r M') (F0 m 90 ls []) := by
  obtain ⟨hx, hb, hml, hown, hrt, hlk, hex, hK, hRm⟩ := id F
  intro M H locs cells slots ls h hR hl
  unfold fM_one_90 at h
  refine lv_bipush (v := 10) hx hb dM_one_90 (by decide) ?_
  exact tM_one_92 F hC 10 _ _ _ _ _ _ h hR (lv_sub hl [] rfl)
def fM_one_66 (n d : Nat) (C : Cx) (a0 : Nat) (xs0 : Int32) (as1 : Nat) (M : Mem) : Rz := if mK M as1 = 5 then (if fits .boolean (.int xs0) = true then (rzM (setI M as1 25 xs0) fun M_3 => (if mK M_3 a0 = 5 then (if 4 ≤ (mI M_3 a0 13) then (fM_one_90 n d C M_3) else (if 12 ≤ (mI M_3 a0 24) then (fM_one_90 n d C M_3) else (fM_one_92 n d C 2 M_3))) else none)) else none) else none
set_option maxRecDepth 100000 in
set_option maxHeartbeats 4000000 in
theorem tM_one_66 {n : Nat} (F : FX p s m meth c G R M0 d "HeadCountModel" bM_one 2 (some .int)) (hC : CBs l G d C) : ∀ (a0 : Nat) (xs0 : Int32) (as1 : Nat) (M : Mem) (H : Heap) (locs : List Loc) (cells slots : Nat) (ls : Array Slot), fM_one_66 n d C a0 xs0 as1 M = some (r, M') → RL G M0 M H locs cells slots → lv_has ls 2 [(0, .ref a0)] → W p l e R s m args below meth c H locs cells slots (CQ G below s M0 r M') (F0 m 66 ls [.int xs0, .ref as1]) := by
  obtain ⟨hx, hb, hml, hown, hrt, hlk, hex, hK, hRm⟩ := id F
  intro a0 xs0 as1 M H locs cells slots ls h hR hl
  unfold fM_one_66 at h
  obtain ⟨c_1, h⟩ := rz_chk h
  obtain ⟨c_2, h⟩ := rz_chk h
  obtain ⟨M_3, q_4, h⟩ := rz_m h
  refine rg_putI hx hb hown hK hR hk_M 25 (by decide) kf_M_94 rfl rfl (ty := .boolean) (by decide +kernel) (Or.inr (Or.inr rfl)) c_2 c_1 dM_one_66 (fun H locs hR => ?_)
  rw [← q_4] at hR
  have c_5 : mK M_3 as1 = 5 := by rw [q_4]; exact c_1
  refine lv_aload_n hx hb dM_one_69 rfl (lv_at hl 0 rfl) ?_
  obtain ⟨c_6, h⟩ := rz_chk h
  refine rg_getI hx hb hown hK hR hk_M 13 (by decide) kf_M_98 rfl c_6 dM_one_70 ?_
  refine lv_iconst (v := 4) hx hb dM_one_73 (by decide) ?_
  refine lv_icmp_ge (tgt := 90) hx hb dM_one_74 (by decide) (fun c_7 => ?_) (fun c_7 => ?_)
  · replace h := rz_t c_7 h
    exact tM_one_90 F hC _ _ _ _ _ _ h hR (lv_sub hl [] rfl)
  · replace h := rz_f c_7 h
    refine lv_aload_n hx hb dM_one_77 rfl (lv_at hl 0 rfl) ?_
    refine rg_getI hx hb hown hK hR hk_M 24 (by decide) kf_M_75 rfl c_6 dM_one_78 ?_
    refine lv_bipush (v := 12) hx hb dM_one_81 (by decide) ?_
    refine lv_icmp_ge (tgt := 90) hx hb dM_one_83 (by decide) (fun c_8 => ?_) (fun c_8 => ?_)
    · replace h := rz_t c_8 h
      exact tM_one_90 F hC _ _ _ _ _ _ h hR (lv_sub hl [] rfl)
    · replace h := rz_f c_8 h
      refine lv_iconst (v := 2) hx hb dM_one_86 (by decide) ?_
      refine lv_goto (tgt := 92) hx hb dM_one_87 (by decide) ?_
      exact tM_one_92 F hC 2 _ _ _ _ _ _ h hR (lv_sub hl [] rfl)
def fM_one_54 (n d : Nat) (C : Cx) (a0 : Nat) (x1 : Int32) (M : Mem) : Rz := if x1 = 65 then (fM_one_66 n d C a0 1 a0 M) else (fM_one_66 n d C a0 0 a0 M)
set_option maxRecDepth 100000 in
set_option maxHeartbeats 4000000 in
theorem tM_one_54 {n : Nat} (F : FX p s m meth c G R M0 d "HeadCountModel" bM_one 2 (some .int)) (hC : CBs l G d C) : ∀ (a0 : Nat) (x1 : Int32) (M : Mem) (H : Heap) (locs : List Loc) (cells slots : Nat) (ls : Array Slot), fM_one_54 n d C a0 x1 M = some (r, M') → RL G M0 M H locs cells slots → lv_has ls 2 [(0, .ref a0), (1, .int x1)] → W p l e R s m args below meth c H locs cells slots (CQ G below s M0 r M') (F0 m 54 ls []) := by
  obtain ⟨hx, hb, hml, hown, hrt, hlk, hex, hK, hRm⟩ := id F
  intro a0 x1 M H locs cells slots ls h hR hl
  unfold fM_one_54 at h
  refine lv_aload_n hx hb dM_one_54 rfl (lv_at hl 0 rfl) ?_
  refine lv_iload_n hx hb dM_one_55 rfl (lv_at hl 1 rfl) ?_
  refine lv_bipush (v := 65) hx hb dM_one_56 (by decide) ?_
  refine lv_icmp_ne (tgt := 65) hx hb dM_one_58 (by decide) (fun c_1 => ?_) (fun c_1 => ?_)
  · replace h := rz_f c_1 h
    refine lv_iconst (v := 0) hx hb dM_one_65 (by decide) ?_
    exact tM_one_66 F hC a0 0 a0 _ _ _ _ _ _ h hR (lv_sub hl [0] rfl)
  · replace h := rz_t c_1 h
    refine lv_iconst (v := 1) hx hb dM_one_61 (by decide) ?_
    refine lv_goto (tgt := 66) hx hb dM_one_62 (by decide) ?_
    exact tM_one_66 F hC a0 1 a0 _ _ _ _ _ _ h hR (lv_sub hl [0] rfl)
def fM_one_0 (n d : Nat) (C : Cx) (a0 : Nat) (x1 : Int32) (M : Mem) : Rz := if x1 = 33 then (if mK M a0 = 5 then (rzC (C 74 [.ref a0, .int 3] M) fun v_27 M_28 => (rzI v_27 fun x_31 => (if x_31 = 0 then (fM_one_20 n d C 10 M_28) else (fM_one_20 n d C 0 M_28)))) else none) else (if x1 = 40 then (if mK M a0 = 5 then (rzC (C 74 [.ref a0, .int 4] M) fun v_20 M_21 => (rzI v_20 fun x_24 => (if x_24 = 0 then (fM_one_41 n d C 10 M_21) else (fM_one_41 n d C 0 M_21)))) else none) else (if x1 = 65 then (fM_one_54 n d C a0 x1 M) else (if x1 = 69 then (fM_one_54 n d C a0 x1 M) else (if mK M a0 = 5 then (rzM (setI M a0 33 0) fun M_6 => (if x1 = 91 then (rzC (C 75 [.ref a0, .int 6] M_6) fun v_15 M_16 => (rzV v_15 (some (.inl (some (.int 8)), M_16)))) else (rzC (C 76 [.ref a0, .int x1] M_6) fun v_10 M_11 => (rzI v_10 fun x_14 => (some (.inl (some (.int x_14)), M_11)))))) else none))))
set_option maxRecDepth 100000 in
set_option maxHeartbeats 4000000 in
theorem tM_one_0 {n : Nat} (F : FX p s m meth c G R M0 d "HeadCountModel" bM_one 2 (some .int)) (hC : CBs l G d C) : ∀ (a0 : Nat) (x1 : Int32) (M : Mem) (H : Heap) (locs : List Loc) (cells slots : Nat) (ls : Array Slot), fM_one_0 n d C a0 x1 M = some (r, M') → RL G M0 M H locs cells slots → lv_has ls 2 [(0, .ref a0), (1, .int x1)] → W p l e R s m args below meth c H locs cells slots (CQ G below s M0 r M') (F0 m 0 ls []) := by
  obtain ⟨hx, hb, hml, hown, hrt, hlk, hex, hK, hRm⟩ := id F
  intro a0 x1 M H locs cells slots ls h hR hl
  unfold fM_one_0 at h
  refine lv_iload_n hx hb dM_one_0 rfl (lv_at hl 1 rfl) ?_
  refine lv_bipush (v := 33) hx hb dM_one_1 (by decide) ?_
  refine lv_icmp_ne (tgt := 21) hx hb dM_one_3 (by decide) (fun c_1 => ?_) (fun c_1 => ?_)
  · replace h := rz_f c_1 h
    refine lv_iload_n hx hb dM_one_21 rfl (lv_at hl 1 rfl) ?_
    refine lv_bipush (v := 40) hx hb dM_one_22 (by decide) ?_
    refine lv_icmp_ne (tgt := 42) hx hb dM_one_24 (by decide) (fun c_2 => ?_) (fun c_2 => ?_)
    · replace h := rz_f c_2 h
      refine lv_iload_n hx hb dM_one_42 rfl (lv_at hl 1 rfl) ?_
      refine lv_bipush (v := 65) hx hb dM_one_43 (by decide) ?_
      refine lv_icmp_eq (tgt := 54) hx hb dM_one_45 (by decide) (fun c_3 => ?_) (fun c_3 => ?_)
      · replace h := rz_t c_3 h
        exact tM_one_54 F hC a0 x1 _ _ _ _ _ _ h hR (lv_sub hl [0, 1] rfl)
      · replace h := rz_f c_3 h
        refine lv_iload_n hx hb dM_one_48 rfl (lv_at hl 1 rfl) ?_
        refine lv_bipush (v := 69) hx hb dM_one_49 (by decide) ?_
        refine lv_icmp_ne (tgt := 93) hx hb dM_one_51 (by decide) (fun c_4 => ?_) (fun c_4 => ?_)
        · replace h := rz_f c_4 h
          refine lv_aload_n hx hb dM_one_93 rfl (lv_at hl 0 rfl) ?_
          refine lv_iconst (v := 0) hx hb dM_one_94 (by decide) ?_
          obtain ⟨c_5, h⟩ := rz_chk h
          obtain ⟨M_6, q_7, h⟩ := rz_m h
          refine rg_putI hx hb hown hK hR hk_M 33 (by decide) kf_M_101 rfl rfl (ty := .int) (by decide +kernel) (Or.inl rfl) rfl c_5 dM_one_95 (fun H locs hR => ?_)
          rw [← q_7] at hR
          have c_8 : mK M_6 a0 = 5 := by rw [q_7]; exact c_5
          refine lv_iload_n hx hb dM_one_98 rfl (lv_at hl 1 rfl) ?_
          refine lv_bipush (v := 91) hx hb dM_one_99 (by decide) ?_
          refine lv_icmp_ne (tgt := 113) hx hb dM_one_101 (by decide) (fun c_9 => ?_) (fun c_9 => ?_)
          · replace h := rz_f c_9 h
            refine lv_aload_n hx hb dM_one_113 rfl (lv_at hl 0 rfl) ?_
            refine lv_iload_n hx hb dM_one_114 rfl (lv_at hl 1 rfl) ?_
            obtain ⟨q_13, M_11, h_12, h⟩ := rz_c h
            refine rc_V (rest := []) (As := [.int x1]) hx hb (hl.1.trans hml.symm) hown hK hR hRm mfM_sum kl_M_104 hk_M rfl rfl c_8 (by simp [cat_rf, Value.category]) (hC 76 _ _ _ _ h_12) dM_one_115 (fun v1 H locs cells slots ev hR => ?_) (fun x1 q1 ce1 H locs cells slots ex hR g1 g2 g3 => ?_)
            · rcases h with ⟨v_10, ev2, h⟩ | ⟨e2, ee2, -⟩
              · cases ev.symm.trans ev2
                replace h := rz_i h
                obtain ⟨x_14, rfl, h⟩ := h
                dsimp only [Option.toList, List.cons_append, List.nil_append]
                cases h
                exact rt_i hx hb hlk hrt (Or.inl rfl) rfl hR dM_one_118
              · cases ev.symm.trans ee2
            · rcases h with ⟨v2, ev2, -⟩ | ⟨e2, ee2, h⟩
              · cases ex.symm.trans ev2
              · cases ex.symm.trans ee2
                cases h
                exact rt_x hlk hex hR g1 g2 g3
          · replace h := rz_t c_9 h
            refine lv_aload_n hx hb dM_one_104 rfl (lv_at hl 0 rfl) ?_
            refine lv_bipush (v := 6) hx hb dM_one_105 (by decide) ?_
            obtain ⟨q_18, M_16, h_17, h⟩ := rz_c h
            refine rc_V (rest := []) (As := [.int 6]) hx hb (hl.1.trans hml.symm) hown hK hR hRm mfM_push kl_M_78 hk_M rfl rfl c_8 (by simp [cat_rf, Value.category]) (hC 75 _ _ _ _ h_17) dM_one_107 (fun v1 H locs cells slots ev hR => ?_) (fun x1 q1 ce1 H locs cells slots ex hR g1 g2 g3 => ?_)
            · rcases h with ⟨v_15, ev2, h⟩ | ⟨e2, ee2, -⟩
              · cases ev.symm.trans ev2
                replace h := rz_v h
                obtain ⟨rfl, h⟩ := h
                dsimp only [Option.toList, List.cons_append, List.nil_append]
                refine lv_bipush (v := 8) hx hb dM_one_110 (by decide) ?_
                cases h
                exact rt_i hx hb hlk hrt (Or.inl rfl) rfl hR dM_one_112
              · cases ev.symm.trans ee2
            · rcases h with ⟨v2, ev2, -⟩ | ⟨e2, ee2, h⟩
              · cases ex.symm.trans ev2
              · cases ex.symm.trans ee2
                cases h
                exact rt_x hlk hex hR g1 g2 g3
        · replace h := rz_t c_4 h
          exact tM_one_54 F hC a0 x1 _ _ _ _ _ _ h hR (lv_sub hl [0, 1] rfl)
    · replace h := rz_t c_2 h
      refine lv_aload_n hx hb dM_one_27 rfl (lv_at hl 0 rfl) ?_
      refine lv_iconst (v := 4) hx hb dM_one_28 (by decide) ?_
      obtain ⟨c_19, h⟩ := rz_chk h
      obtain ⟨q_23, M_21, h_22, h⟩ := rz_c h
      refine rc_V (rest := []) (As := [.int 4]) hx hb (hl.1.trans hml.symm) hown hK hR hRm mfM_deeper kl_M_90 hk_M rfl rfl c_19 (by simp [cat_rf, Value.category]) (hC 74 _ _ _ _ h_22) dM_one_29 (fun v1 H locs cells slots ev hR => ?_) (fun x1 q1 ce1 H locs cells slots ex hR g1 g2 g3 => ?_)
      · rcases h with ⟨v_20, ev2, h⟩ | ⟨e2, ee2, -⟩
        · cases ev.symm.trans ev2
          replace h := rz_i h
          obtain ⟨x_24, rfl, h⟩ := h
          dsimp only [Option.toList, List.cons_append, List.nil_append]
          refine lv_if_eq (tgt := 39) hx hb dM_one_32 (by decide) (fun c_25 => ?_) (fun c_25 => ?_)
          · replace h := rz_t c_25 h
            refine lv_bipush (v := 10) hx hb dM_one_39 (by decide) ?_
            exact tM_one_41 F hC 10 _ _ _ _ _ _ h hR (lv_sub hl [] rfl)
          · replace h := rz_f c_25 h
            refine lv_iconst (v := 0) hx hb dM_one_35 (by decide) ?_
            refine lv_goto (tgt := 41) hx hb dM_one_36 (by decide) ?_
            exact tM_one_41 F hC 0 _ _ _ _ _ _ h hR (lv_sub hl [] rfl)
        · cases ev.symm.trans ee2
      · rcases h with ⟨v2, ev2, -⟩ | ⟨e2, ee2, h⟩
        · cases ex.symm.trans ev2
        · cases ex.symm.trans ee2
          cases h
          exact rt_x hlk hex hR g1 g2 g3
  · replace h := rz_t c_1 h
    refine lv_aload_n hx hb dM_one_6 rfl (lv_at hl 0 rfl) ?_
    refine lv_iconst (v := 3) hx hb dM_one_7 (by decide) ?_
    obtain ⟨c_26, h⟩ := rz_chk h
    obtain ⟨q_30, M_28, h_29, h⟩ := rz_c h
    refine rc_V (rest := []) (As := [.int 3]) hx hb (hl.1.trans hml.symm) hown hK hR hRm mfM_deeper kl_M_90 hk_M rfl rfl c_26 (by simp [cat_rf, Value.category]) (hC 74 _ _ _ _ h_29) dM_one_8 (fun v1 H locs cells slots ev hR => ?_) (fun x1 q1 ce1 H locs cells slots ex hR g1 g2 g3 => ?_)
    · rcases h with ⟨v_27, ev2, h⟩ | ⟨e2, ee2, -⟩
      · cases ev.symm.trans ev2
        replace h := rz_i h
        obtain ⟨x_31, rfl, h⟩ := h
        dsimp only [Option.toList, List.cons_append, List.nil_append]
        refine lv_if_eq (tgt := 18) hx hb dM_one_11 (by decide) (fun c_32 => ?_) (fun c_32 => ?_)
        · replace h := rz_t c_32 h
          refine lv_bipush (v := 10) hx hb dM_one_18 (by decide) ?_
          exact tM_one_20 F hC 10 _ _ _ _ _ _ h hR (lv_sub hl [] rfl)
        · replace h := rz_f c_32 h
          refine lv_iconst (v := 0) hx hb dM_one_14 (by decide) ?_
          refine lv_goto (tgt := 20) hx hb dM_one_15 (by decide) ?_
          exact tM_one_20 F hC 0 _ _ _ _ _ _ h hR (lv_sub hl [] rfl)
      · cases ev.symm.trans ee2
    · rcases h with ⟨v2, ev2, -⟩ | ⟨e2, ee2, h⟩
      · cases ex.symm.trans ev2
      · cases ex.symm.trans ee2
        cases h
        exact rt_x hlk hex hR g1 g2 g3
set_option maxRecDepth 100000 in
set_option maxHeartbeats 4000000 in
theorem sM_one {l : Launch} {G : Gx} {n d : Nat} {C : Cx} (hC : CBs l G d C) (a0 : Nat) (x1 : Int32) {M M' : Mem} {r : Option Value ⊕ Nat} (h : fM_one_0 n d C a0 x1 M = some (r, M')) : CB l G (d + 1) yM_one [.ref a0, .int x1] M r M' := by
  intro p e R s m below meth c hx hn hm hc hlk hK hR hcap hS hU hfr hlo hrc hrs
  obtain ⟨hb, hml, hrt, hex, hown⟩ := fx_of hn hm hc (hK.w mfM_one.2.2.1 rfl #[])
  have F : FX p s m meth c G R M d "HeadCountModel" bM_one 2 (some .int) := ⟨hx, hb, hml, hown, hrt, hlk, hex, hK, hfr, hlo, by rw [← hcap]; exact hrc, hrs⟩
  rw [hml]
  have hl := lv_entry ([.ref a0, .int x1]) (n := 2) (by simp [lg_sl, cat_rf, Value.category])
  rw [lg_entry_eq]
  generalize (lg_sl ([.ref a0, .int x1]) ++ List.replicate (2 - (lg_sl ([.ref a0, .int x1])).length) Slot.unset).toArray = ls at hl ⊢
  have hl : lv_has ls 2 [(0, .ref a0), (1, .int x1)] := by simpa [lv_args, cat_rf, Value.category] using hl
  exact tM_one_0 F hC a0 x1 _ _ _ _ _ _ h (RL.start hR hcap hS hU) (lv_sub hl [0, 1] rfl)
def fM_sum_59 (n d : Nat) (C : Cx) (xs0 : Int32) (M : Mem) : Rz := some (.inl (some (.int xs0)), M)
set_option maxRecDepth 100000 in
set_option maxHeartbeats 4000000 in
theorem tM_sum_59 {n : Nat} (F : FX p s m meth c G R M0 d "HeadCountModel" bM_sum 2 (some .int)) (hC : CBs l G d C) : ∀ (xs0 : Int32) (M : Mem) (H : Heap) (locs : List Loc) (cells slots : Nat) (ls : Array Slot), fM_sum_59 n d C xs0 M = some (r, M') → RL G M0 M H locs cells slots → lv_has ls 2 [] → W p l e R s m args below meth c H locs cells slots (CQ G below s M0 r M') (F0 m 59 ls [.int xs0]) := by
  obtain ⟨hx, hb, hml, hown, hrt, hlk, hex, hK, hRm⟩ := id F
  intro xs0 M H locs cells slots ls h hR hl
  unfold fM_sum_59 at h
  cases h
  exact rt_i hx hb hlk hrt (Or.inl rfl) rfl hR dM_sum_59
def fM_sum_40 (n d : Nat) (C : Cx) (a0 : Nat) (x1 : Int32) (xs0 : Int32) (as1 : Nat) (M : Mem) : Rz := if mK M as1 = 5 then (if fits .boolean (.int xs0) = true then (rzM (setI M as1 32 xs0) fun M_3 => (if mK M_3 a0 = 5 then (if (mI M_3 a0 30) = 0 then (rzC (C 77 [.ref a0, .int x1] M_3) fun v_8 M_9 => (rzI v_8 fun x_12 => (fM_sum_59 n d C x_12 M_9))) else (fM_sum_59 n d C 4 M_3)) else none)) else none) else none
set_option maxRecDepth 100000 in
set_option maxHeartbeats 4000000 in
theorem tM_sum_40 {n : Nat} (F : FX p s m meth c G R M0 d "HeadCountModel" bM_sum 2 (some .int)) (hC : CBs l G d C) : ∀ (a0 : Nat) (x1 : Int32) (xs0 : Int32) (as1 : Nat) (M : Mem) (H : Heap) (locs : List Loc) (cells slots : Nat) (ls : Array Slot), fM_sum_40 n d C a0 x1 xs0 as1 M = some (r, M') → RL G M0 M H locs cells slots → lv_has ls 2 [(0, .ref a0), (1, .int x1)] → W p l e R s m args below meth c H locs cells slots (CQ G below s M0 r M') (F0 m 40 ls [.int xs0, .ref as1]) := by
  obtain ⟨hx, hb, hml, hown, hrt, hlk, hex, hK, hRm⟩ := id F
  intro a0 x1 xs0 as1 M H locs cells slots ls h hR hl
  unfold fM_sum_40 at h
  obtain ⟨c_1, h⟩ := rz_chk h
  obtain ⟨c_2, h⟩ := rz_chk h
  obtain ⟨M_3, q_4, h⟩ := rz_m h
  refine rg_putI hx hb hown hK hR hk_M 32 (by decide) kf_M_126 rfl rfl (ty := .boolean) (by decide +kernel) (Or.inr (Or.inr rfl)) c_2 c_1 dM_sum_40 (fun H locs hR => ?_)
  rw [← q_4] at hR
  have c_5 : mK M_3 as1 = 5 := by rw [q_4]; exact c_1
  refine lv_aload_n hx hb dM_sum_43 rfl (lv_at hl 0 rfl) ?_
  obtain ⟨c_6, h⟩ := rz_chk h
  refine rg_getI hx hb hown hK hR hk_M 30 (by decide) kf_M_120 rfl c_6 dM_sum_44 ?_
  refine lv_if_eq (tgt := 54) hx hb dM_sum_47 (by decide) (fun c_7 => ?_) (fun c_7 => ?_)
  · replace h := rz_t c_7 h
    refine lv_aload_n hx hb dM_sum_54 rfl (lv_at hl 0 rfl) ?_
    refine lv_iload_n hx hb dM_sum_55 rfl (lv_at hl 1 rfl) ?_
    obtain ⟨q_11, M_9, h_10, h⟩ := rz_c h
    refine rc_V (rest := []) (As := [.int x1]) hx hb (hl.1.trans hml.symm) hown hK hR hRm mfM_part kl_M_129 hk_M rfl rfl c_6 (by simp [cat_rf, Value.category]) (hC 77 _ _ _ _ h_10) dM_sum_56 (fun v1 H locs cells slots ev hR => ?_) (fun x1 q1 ce1 H locs cells slots ex hR g1 g2 g3 => ?_)
    · rcases h with ⟨v_8, ev2, h⟩ | ⟨e2, ee2, -⟩
      · cases ev.symm.trans ev2
        replace h := rz_i h
        obtain ⟨x_12, rfl, h⟩ := h
        dsimp only [Option.toList, List.cons_append, List.nil_append]
        exact tM_sum_59 F hC x_12 _ _ _ _ _ _ h hR (lv_sub hl [] rfl)
      · cases ev.symm.trans ee2
    · rcases h with ⟨v2, ev2, -⟩ | ⟨e2, ee2, h⟩
      · cases ex.symm.trans ev2
      · cases ex.symm.trans ee2
        cases h
        exact rt_x hlk hex hR g1 g2 g3
  · replace h := rz_f c_7 h
    refine lv_iconst (v := 4) hx hb dM_sum_50 (by decide) ?_
    refine lv_goto (tgt := 59) hx hb dM_sum_51 (by decide) ?_
    exact tM_sum_59 F hC 4 _ _ _ _ _ _ h hR (lv_sub hl [] rfl)
def fM_sum_39 (n d : Nat) (C : Cx) (a0 : Nat) (x1 : Int32) (as0 : Nat) (M : Mem) : Rz := fM_sum_40 n d C a0 x1 0 as0 M
set_option maxRecDepth 100000 in
set_option maxHeartbeats 4000000 in
theorem tM_sum_39 {n : Nat} (F : FX p s m meth c G R M0 d "HeadCountModel" bM_sum 2 (some .int)) (hC : CBs l G d C) : ∀ (a0 : Nat) (x1 : Int32) (as0 : Nat) (M : Mem) (H : Heap) (locs : List Loc) (cells slots : Nat) (ls : Array Slot), fM_sum_39 n d C a0 x1 as0 M = some (r, M') → RL G M0 M H locs cells slots → lv_has ls 2 [(0, .ref a0), (1, .int x1)] → W p l e R s m args below meth c H locs cells slots (CQ G below s M0 r M') (F0 m 39 ls [.ref as0]) := by
  obtain ⟨hx, hb, hml, hown, hrt, hlk, hex, hK, hRm⟩ := id F
  intro a0 x1 as0 M H locs cells slots ls h hR hl
  unfold fM_sum_39 at h
  refine lv_iconst (v := 0) hx hb dM_sum_39 (by decide) ?_
  exact tM_sum_40 F hC a0 x1 0 as0 _ _ _ _ _ _ h hR (lv_sub hl [0, 1] rfl)
def fM_sum_12 (n d : Nat) (C : Cx) (a0 : Nat) (x1 : Int32) (xs0 : Int32) (as1 : Nat) (M : Mem) : Rz := if mK M as1 = 5 then (if fits .boolean (.int xs0) = true then (rzM (setI M as1 30 xs0) fun M_3 => (if mK M_3 a0 = 5 then (if fits .boolean (.int 1) = true then (rzM (setI M_3 a0 31 1) fun M_8 => (if (mI M_8 a0 33) = 0 then (if (mI M_8 a0 30) = 0 then (fM_sum_40 n d C a0 x1 1 a0 M_8) else (fM_sum_39 n d C a0 x1 a0 M_8)) else (fM_sum_39 n d C a0 x1 a0 M_8))) else none) else none)) else none) else none
set_option maxRecDepth 100000 in
set_option maxHeartbeats 4000000 in
theorem tM_sum_12 {n : Nat} (F : FX p s m meth c G R M0 d "HeadCountModel" bM_sum 2 (some .int)) (hC : CBs l G d C) : ∀ (a0 : Nat) (x1 : Int32) (xs0 : Int32) (as1 : Nat) (M : Mem) (H : Heap) (locs : List Loc) (cells slots : Nat) (ls : Array Slot), fM_sum_12 n d C a0 x1 xs0 as1 M = some (r, M') → RL G M0 M H locs cells slots → lv_has ls 2 [(0, .ref a0), (1, .int x1)] → W p l e R s m args below meth c H locs cells slots (CQ G below s M0 r M') (F0 m 12 ls [.int xs0, .ref as1]) := by
  obtain ⟨hx, hb, hml, hown, hrt, hlk, hex, hK, hRm⟩ := id F
  intro a0 x1 xs0 as1 M H locs cells slots ls h hR hl
  unfold fM_sum_12 at h
  obtain ⟨c_1, h⟩ := rz_chk h
  obtain ⟨c_2, h⟩ := rz_chk h
  obtain ⟨M_3, q_4, h⟩ := rz_m h
  refine rg_putI hx hb hown hK hR hk_M 30 (by decide) kf_M_120 rfl rfl (ty := .boolean) (by decide +kernel) (Or.inr (Or.inr rfl)) c_2 c_1 dM_sum_12 (fun H locs hR => ?_)
  rw [← q_4] at hR
  have c_5 : mK M_3 as1 = 5 := by rw [q_4]; exact c_1
  refine lv_aload_n hx hb dM_sum_15 rfl (lv_at hl 0 rfl) ?_
  refine lv_iconst (v := 1) hx hb dM_sum_16 (by decide) ?_
  obtain ⟨c_6, h⟩ := rz_chk h
  obtain ⟨c_7, h⟩ := rz_chk h
  obtain ⟨M_8, q_9, h⟩ := rz_m h
  refine rg_putI hx hb hown hK hR hk_M 31 (by decide) kf_M_123 rfl rfl (ty := .boolean) (by decide +kernel) (Or.inr (Or.inr rfl)) c_7 c_6 dM_sum_17 (fun H locs hR => ?_)
  rw [← q_9] at hR
  have c_10 : mK M_8 as1 = 5 := by rw [q_9]; exact c_5
  have c_11 : mK M_8 a0 = 5 := by rw [q_9]; exact c_6
  refine lv_aload_n hx hb dM_sum_20 rfl (lv_at hl 0 rfl) ?_
  refine lv_aload_n hx hb dM_sum_21 rfl (lv_at hl 0 rfl) ?_
  refine rg_getI hx hb hown hK hR hk_M 33 (by decide) kf_M_101 rfl c_11 dM_sum_22 ?_
  refine lv_if_ne (tgt := 39) hx hb dM_sum_25 (by decide) (fun c_12 => ?_) (fun c_12 => ?_)
  · replace h := rz_f c_12 h
    exact tM_sum_39 F hC a0 x1 a0 _ _ _ _ _ _ h hR (lv_sub hl [0, 1] rfl)
  · replace h := rz_t c_12 h
    refine lv_aload_n hx hb dM_sum_28 rfl (lv_at hl 0 rfl) ?_
    refine rg_getI hx hb hown hK hR hk_M 30 (by decide) kf_M_120 rfl c_11 dM_sum_29 ?_
    refine lv_if_ne (tgt := 39) hx hb dM_sum_32 (by decide) (fun c_13 => ?_) (fun c_13 => ?_)
    · replace h := rz_f c_13 h
      exact tM_sum_39 F hC a0 x1 a0 _ _ _ _ _ _ h hR (lv_sub hl [0, 1] rfl)
    · replace h := rz_t c_13 h
      refine lv_iconst (v := 1) hx hb dM_sum_35 (by decide) ?_
      refine lv_goto (tgt := 40) hx hb dM_sum_36 (by decide) ?_
      exact tM_sum_40 F hC a0 x1 1 a0 _ _ _ _ _ _ h hR (lv_sub hl [0, 1] rfl)
def fM_sum_0 (n d : Nat) (C : Cx) (a0 : Nat) (x1 : Int32) (M : Mem) : Rz := if x1 = 45 then (fM_sum_12 n d C a0 x1 1 a0 M) else (fM_sum_12 n d C a0 x1 0 a0 M)
set_option maxRecDepth 100000 in
set_option maxHeartbeats 4000000 in
theorem tM_sum_0 {n : Nat} (F : FX p s m meth c G R M0 d "HeadCountModel" bM_sum 2 (some .int)) (hC : CBs l G d C) : ∀ (a0 : Nat) (x1 : Int32) (M : Mem) (H : Heap) (locs : List Loc) (cells slots : Nat) (ls : Array Slot), fM_sum_0 n d C a0 x1 M = some (r, M') → RL G M0 M H locs cells slots → lv_has ls 2 [(0, .ref a0), (1, .int x1)] → W p l e R s m args below meth c H locs cells slots (CQ G below s M0 r M') (F0 m 0 ls []) := by
  obtain ⟨hx, hb, hml, hown, hrt, hlk, hex, hK, hRm⟩ := id F
  intro a0 x1 M H locs cells slots ls h hR hl
  unfold fM_sum_0 at h
  refine lv_aload_n hx hb dM_sum_0 rfl (lv_at hl 0 rfl) ?_
  refine lv_iload_n hx hb dM_sum_1 rfl (lv_at hl 1 rfl) ?_
  refine lv_bipush (v := 45) hx hb dM_sum_2 (by decide) ?_
  refine lv_icmp_ne (tgt := 11) hx hb dM_sum_4 (by decide) (fun c_1 => ?_) (fun c_1 => ?_)
  · replace h := rz_f c_1 h
    refine lv_iconst (v := 0) hx hb dM_sum_11 (by decide) ?_
    exact tM_sum_12 F hC a0 x1 0 a0 _ _ _ _ _ _ h hR (lv_sub hl [0, 1] rfl)
  · replace h := rz_t c_1 h
    refine lv_iconst (v := 1) hx hb dM_sum_7 (by decide) ?_
    refine lv_goto (tgt := 12) hx hb dM_sum_8 (by decide) ?_
    exact tM_sum_12 F hC a0 x1 1 a0 _ _ _ _ _ _ h hR (lv_sub hl [0, 1] rfl)
set_option maxRecDepth 100000 in
set_option maxHeartbeats 4000000 in
theorem sM_sum {l : Launch} {G : Gx} {n d : Nat} {C : Cx} (hC : CBs l G d C) (a0 : Nat) (x1 : Int32) {M M' : Mem} {r : Option Value ⊕ Nat} (h : fM_sum_0 n d C a0 x1 M = some (r, M')) : CB l G (d + 1) yM_sum [.ref a0, .int x1] M r M' := by
  intro p e R s m below meth c hx hn hm hc hlk hK hR hcap hS hU hfr hlo hrc hrs
  obtain ⟨hb, hml, hrt, hex, hown⟩ := fx_of hn hm hc (hK.w mfM_sum.2.2.1 rfl #[])
  have F : FX p s m meth c G R M d "HeadCountModel" bM_sum 2 (some .int) := ⟨hx, hb, hml, hown, hrt, hlk, hex, hK, hfr, hlo, by rw [← hcap]; exact hrc, hrs⟩
  rw [hml]
  have hl := lv_entry ([.ref a0, .int x1]) (n := 2) (by simp [lg_sl, cat_rf, Value.category])
  rw [lg_entry_eq]
  generalize (lg_sl ([.ref a0, .int x1]) ++ List.replicate (2 - (lg_sl ([.ref a0, .int x1])).length) Slot.unset).toArray = ls at hl ⊢
  have hl : lv_has ls 2 [(0, .ref a0), (1, .int x1)] := by simpa [lv_args, cat_rf, Value.category] using hl
  exact tM_sum_0 F hC a0 x1 _ _ _ _ _ _ h (RL.start hR hcap hS hU) (lv_sub hl [0, 1] rfl)
def fM_part_0 (n d : Nat) (C : Cx) (a0 : Nat) (x1 : Int32) (M : Mem) : Rz := if mK M a0 = 5 then (if fits .boolean (.int 0) = true then (rzM (setI M a0 28 0) fun M_3 => (rzC (C 78 [.int x1] M_3) fun v_6 M_7 => (rzI v_6 fun x_10 => (if x_10 = 0 then (if mK M_7 a0 = 5 then (rzC (C 79 [.ref a0, .int x1] M_7) fun v_13 M_14 => (rzI v_13 fun x_17 => (some (.inl (some (.int x_17)), M_14)))) else none) else (if mK M_7 a0 = 5 then (rzM (setI M_7 a0 26 (x1 - 48)) fun M_19 => (rzM (setI M_19 a0 27 1) fun M_22 => (some (.inl (some (.int 5)), M_22)))) else none))))) else none) else none
set_option maxRecDepth 100000 in
set_option maxHeartbeats 4000000 in
theorem tM_part_0 {n : Nat} (F : FX p s m meth c G R M0 d "HeadCountModel" bM_part 2 (some .int)) (hC : CBs l G d C) : ∀ (a0 : Nat) (x1 : Int32) (M : Mem) (H : Heap) (locs : List Loc) (cells slots : Nat) (ls : Array Slot), fM_part_0 n d C a0 x1 M = some (r, M') → RL G M0 M H locs cells slots → lv_has ls 2 [(0, .ref a0), (1, .int x1)] → W p l e R s m args below meth c H locs cells slots (CQ G below s M0 r M') (F0 m 0 ls []) := by
  obtain ⟨hx, hb, hml, hown, hrt, hlk, hex, hK, hRm⟩ := id F
  intro a0 x1 M H locs cells slots ls h hR hl
  unfold fM_part_0 at h
  refine lv_aload_n hx hb dM_part_0 rfl (lv_at hl 0 rfl) ?_
  refine lv_iconst (v := 0) hx hb dM_part_1 (by decide) ?_
  obtain ⟨c_1, h⟩ := rz_chk h
  obtain ⟨c_2, h⟩ := rz_chk h
  obtain ⟨M_3, q_4, h⟩ := rz_m h
  refine rg_putI hx hb hown hK hR hk_M 28 (by decide) kf_M_132 rfl rfl (ty := .boolean) (by decide +kernel) (Or.inr (Or.inr rfl)) c_2 c_1 dM_part_2 (fun H locs hR => ?_)
  rw [← q_4] at hR
  have c_5 : mK M_3 a0 = 5 := by rw [q_4]; exact c_1
  refine lv_iload_n hx hb dM_part_5 rfl (lv_at hl 1 rfl) ?_
  obtain ⟨q_9, M_7, h_8, h⟩ := rz_c h
  refine rc_S (rest := []) (As := [.int x1]) hx hb (hl.1.trans hml.symm) hown hK hR hRm mfM_isDigit kl_M_135 rfl (by simp [cat_rf, Value.category]) (hC 78 _ _ _ _ h_8) dM_part_6 (fun v1 H locs cells slots ev hR => ?_) (fun x1 q1 ce1 H locs cells slots ex hR g1 g2 g3 => ?_)
  · rcases h with ⟨v_6, ev2, h⟩ | ⟨e2, ee2, -⟩
    · cases ev.symm.trans ev2
      replace h := rz_i h
      obtain ⟨x_10, rfl, h⟩ := h
      dsimp only [Option.toList, List.cons_append, List.nil_append]
      refine lv_if_eq (tgt := 27) hx hb dM_part_9 (by decide) (fun c_11 => ?_) (fun c_11 => ?_)
      · replace h := rz_t c_11 h
        refine lv_aload_n hx hb dM_part_27 rfl (lv_at hl 0 rfl) ?_
        refine lv_iload_n hx hb dM_part_28 rfl (lv_at hl 1 rfl) ?_
        obtain ⟨c_12, h⟩ := rz_chk h
        obtain ⟨q_16, M_14, h_15, h⟩ := rz_c h
        refine rc_V (rest := []) (As := [.int x1]) hx hb (hl.1.trans hml.symm) hown hK hR hRm mfM_thing kl_M_145 hk_M rfl rfl c_12 (by simp [cat_rf, Value.category]) (hC 79 _ _ _ _ h_15) dM_part_29 (fun v1 H locs cells slots ev hR => ?_) (fun x1 q1 ce1 H locs cells slots ex hR g1 g2 g3 => ?_)
        · rcases h with ⟨v_13, ev2, h⟩ | ⟨e2, ee2, -⟩
          · cases ev.symm.trans ev2
            replace h := rz_i h
            obtain ⟨x_17, rfl, h⟩ := h
            dsimp only [Option.toList, List.cons_append, List.nil_append]
            cases h
            exact rt_i hx hb hlk hrt (Or.inl rfl) rfl hR dM_part_32
          · cases ev.symm.trans ee2
        · rcases h with ⟨v2, ev2, -⟩ | ⟨e2, ee2, h⟩
          · cases ex.symm.trans ev2
          · cases ex.symm.trans ee2
            cases h
            exact rt_x hlk hex hR g1 g2 g3
      · replace h := rz_f c_11 h
        refine lv_aload_n hx hb dM_part_12 rfl (lv_at hl 0 rfl) ?_
        refine lv_iload_n hx hb dM_part_13 rfl (lv_at hl 1 rfl) ?_
        refine lv_bipush (v := 48) hx hb dM_part_14 (by decide) ?_
        refine lv_isub hx hb dM_part_16 ?_
        obtain ⟨c_18, h⟩ := rz_chk h
        obtain ⟨M_19, q_20, h⟩ := rz_m h
        refine rg_putI hx hb hown hK hR hk_M 26 (by decide) kf_M_139 rfl rfl (ty := .int) (by decide +kernel) (Or.inl rfl) rfl c_18 dM_part_17 (fun H locs hR => ?_)
        rw [← q_20] at hR
        have c_21 : mK M_19 a0 = 5 := by rw [q_20]; exact c_18
        refine lv_aload_n hx hb dM_part_20 rfl (lv_at hl 0 rfl) ?_
        refine lv_iconst (v := 1) hx hb dM_part_21 (by decide) ?_
        obtain ⟨M_22, q_23, h⟩ := rz_m h
        refine rg_putI hx hb hown hK hR hk_M 27 (by decide) kf_M_142 rfl rfl (ty := .int) (by decide +kernel) (Or.inl rfl) rfl c_21 dM_part_22 (fun H locs hR => ?_)
        rw [← q_23] at hR
        have c_24 : mK M_22 a0 = 5 := by rw [q_23]; exact c_21
        refine lv_iconst (v := 5) hx hb dM_part_25 (by decide) ?_
        cases h
        exact rt_i hx hb hlk hrt (Or.inl rfl) rfl hR dM_part_26
    · cases ev.symm.trans ee2
  · rcases h with ⟨v2, ev2, -⟩ | ⟨e2, ee2, h⟩
    · cases ex.symm.trans ev2
    · cases ex.symm.trans ee2
      cases h
      exact rt_x hlk hex hR g1 g2 g3
set_option maxRecDepth 100000 in
set_option maxHeartbeats 4000000 in
theorem sM_part {l : Launch} {G : Gx} {n d : Nat} {C : Cx} (hC : CBs l G d C) (a0 : Nat) (x1 : Int32) {M M' : Mem} {r : Option Value ⊕ Nat} (h : fM_part_0 n d C a0 x1 M = some (r, M')) : CB l G (d + 1) yM_part [.ref a0, .int x1] M r M' := by
  intro p e R s m below meth c hx hn hm hc hlk hK hR hcap hS hU hfr hlo hrc hrs
  obtain ⟨hb, hml, hrt, hex, hown⟩ := fx_of hn hm hc (hK.w mfM_part.2.2.1 rfl #[])
  have F : FX p s m meth c G R M d "HeadCountModel" bM_part 2 (some .int) := ⟨hx, hb, hml, hown, hrt, hlk, hex, hK, hfr, hlo, by rw [← hcap]; exact hrc, hrs⟩
  rw [hml]
  have hl := lv_entry ([.ref a0, .int x1]) (n := 2) (by simp [lg_sl, cat_rf, Value.category])
  rw [lg_entry_eq]
  generalize (lg_sl ([.ref a0, .int x1]) ++ List.replicate (2 - (lg_sl ([.ref a0, .int x1])).length) Slot.unset).toArray = ls at hl ⊢
  have hl : lv_has ls 2 [(0, .ref a0), (1, .int x1)] := by simpa [lv_args, cat_rf, Value.category] using hl
  exact tM_part_0 F hC a0 x1 _ _ _ _ _ _ h (RL.start hR hcap hS hU) (lv_sub hl [0, 1] rfl)
def fM_thing_80 (n d : Nat) (C : Cx) (a0 : Nat) (M : Mem) : Rz := if mK M a0 = 5 then (rzC (C 82 [.ref a0] M) fun v_2 M_3 => (rzV v_2 (some (.inl (some (.int 7)), M_3)))) else none
set_option maxRecDepth 100000 in
set_option maxHeartbeats 4000000 in
theorem tM_thing_80 {n : Nat} (F : FX p s m meth c G R M0 d "HeadCountModel" bM_thing 3 (some .int)) (hC : CBs l G d C) : ∀ (a0 : Nat) (M : Mem) (H : Heap) (locs : List Loc) (cells slots : Nat) (ls : Array Slot), fM_thing_80 n d C a0 M = some (r, M') → RL G M0 M H locs cells slots → lv_has ls 3 [(0, .ref a0)] → W p l e R s m args below meth c H locs cells slots (CQ G below s M0 r M') (F0 m 80 ls []) := by
  obtain ⟨hx, hb, hml, hown, hrt, hlk, hex, hK, hRm⟩ := id F
  intro a0 M H locs cells slots ls h hR hl
  unfold fM_thing_80 at h
  refine lv_aload_n hx hb dM_thing_80 rfl (lv_at hl 0 rfl) ?_
  obtain ⟨c_1, h⟩ := rz_chk h
  obtain ⟨q_5, M_3, h_4, h⟩ := rz_c h
  refine rc_V (rest := []) (As := []) hx hb (hl.1.trans hml.symm) hown hK hR hRm mfM_wholePart kl_M_154 hk_M rfl rfl c_1 (by simp [cat_rf, Value.category]) (hC 82 _ _ _ _ h_4) dM_thing_81 (fun v1 H locs cells slots ev hR => ?_) (fun x1 q1 ce1 H locs cells slots ex hR g1 g2 g3 => ?_)
  · rcases h with ⟨v_2, ev2, h⟩ | ⟨e2, ee2, -⟩
    · cases ev.symm.trans ev2
      replace h := rz_v h
      obtain ⟨rfl, h⟩ := h
      dsimp only [Option.toList, List.cons_append, List.nil_append]
      refine lv_bipush (v := 7) hx hb dM_thing_84 (by decide) ?_
      cases h
      exact rt_i hx hb hlk hrt (Or.inl rfl) rfl hR dM_thing_86
    · cases ev.symm.trans ee2
  · rcases h with ⟨v2, ev2, -⟩ | ⟨e2, ee2, h⟩
    · cases ex.symm.trans ev2
    · cases ex.symm.trans ee2
      cases h
      exact rt_x hlk hex hR g1 g2 g3
def fM_thing_43 (n d : Nat) (C : Cx) (xs0 : Int32) (M : Mem) : Rz := some (.inl (some (.int xs0)), M)
set_option maxRecDepth 100000 in
set_option maxHeartbeats 4000000 in
theorem tM_thing_43 {n : Nat} (F : FX p s m meth c G R M0 d "HeadCountModel" bM_thing 3 (some .int)) (hC : CBs l G d C) : ∀ (xs0 : Int32) (M : Mem) (H : Heap) (locs : List Loc) (cells slots : Nat) (ls : Array Slot), fM_thing_43 n d C xs0 M = some (r, M') → RL G M0 M H locs cells slots → lv_has ls 3 [] → W p l e R s m args below meth c H locs cells slots (CQ G below s M0 r M') (F0 m 43 ls [.int xs0]) := by
  obtain ⟨hx, hb, hml, hown, hrt, hlk, hex, hK, hRm⟩ := id F
  intro xs0 M H locs cells slots ls h hR hl
  unfold fM_thing_43 at h
  cases h
  exact rt_i hx hb hlk hrt (Or.inl rfl) rfl hR dM_thing_43
def fM_thing_77 (n d : Nat) (C : Cx) (M : Mem) : Rz := some (.inl (some (.int 10)), M)
set_option maxRecDepth 100000 in
set_option maxHeartbeats 4000000 in
theorem tM_thing_77 {n : Nat} (F : FX p s m meth c G R M0 d "HeadCountModel" bM_thing 3 (some .int)) (hC : CBs l G d C) : ∀ (M : Mem) (H : Heap) (locs : List Loc) (cells slots : Nat) (ls : Array Slot), fM_thing_77 n d C M = some (r, M') → RL G M0 M H locs cells slots → lv_has ls 3 [] → W p l e R s m args below meth c H locs cells slots (CQ G below s M0 r M') (F0 m 77 ls []) := by
  obtain ⟨hx, hb, hml, hown, hrt, hlk, hex, hK, hRm⟩ := id F
  intro M H locs cells slots ls h hR hl
  unfold fM_thing_77 at h
  refine lv_bipush (v := 10) hx hb dM_thing_77 (by decide) ?_
  cases h
  exact rt_i hx hb hlk hrt (Or.inl rfl) rfl hR dM_thing_79
def fM_thing_0 (n d : Nat) (C : Cx) (a0 : Nat) (x1 : Int32) (M : Mem) : Rz := rzC (C 80 [.int x1] M) fun v_1 M_2 => (rzI v_1 fun x_5 => (if x1 = 110 then (if mK M_2 a0 = 5 then (rzC (C 81 [.ref a0, .int 15, .int 0] M_2) fun v_29 M_30 => (rzV v_29 (fM_thing_80 n d C a0 M_30))) else none) else (if x1 = 35 then (if mK M_2 a0 = 5 then (rzC (C 74 [.ref a0, .int 11] M_2) fun v_22 M_23 => (rzI v_22 fun x_26 => (if x_26 = 0 then (fM_thing_43 n d C 10 M_23) else (fM_thing_43 n d C 8 M_23)))) else none) else (if x_5 < 0 then (fM_thing_77 n d C M_2) else (if 3 ≤ x_5 then (fM_thing_77 n d C M_2) else (if mK M_2 a0 = 5 then (rzD (mP M_2 a0 23) fun a_11 => (if mK M_2 a_11 = 21 then (if inA x_5 (mL M_2 a_11) then (if (mI M_2 a_11 x_5.toNatClampNeg) < 0 then (fM_thing_77 n d C M_2) else (if inA x_5 (mL M_2 a_11) then (rzC (C 81 [.ref a0, .int 14, .int (mI M_2 a_11 x_5.toNatClampNeg)] M_2) fun v_17 M_18 => (rzV v_17 (fM_thing_80 n d C a0 M_18))) else none)) else none) else none)) else none))))))
set_option maxRecDepth 100000 in
set_option maxHeartbeats 4000000 in
theorem tM_thing_0 {n : Nat} (F : FX p s m meth c G R M0 d "HeadCountModel" bM_thing 3 (some .int)) (hC : CBs l G d C) : ∀ (a0 : Nat) (x1 : Int32) (M : Mem) (H : Heap) (locs : List Loc) (cells slots : Nat) (ls : Array Slot), fM_thing_0 n d C a0 x1 M = some (r, M') → RL G M0 M H locs cells slots → lv_has ls 3 [(0, .ref a0), (1, .int x1)] → W p l e R s m args below meth c H locs cells slots (CQ G below s M0 r M') (F0 m 0 ls []) := by
  obtain ⟨hx, hb, hml, hown, hrt, hlk, hex, hK, hRm⟩ := id F
  intro a0 x1 M H locs cells slots ls h hR hl
  unfold fM_thing_0 at h
  refine lv_iload_n hx hb dM_thing_0 rfl (lv_at hl 1 rfl) ?_
  obtain ⟨q_4, M_2, h_3, h⟩ := rz_c h
  refine rc_S (rest := []) (As := [.int x1]) hx hb (hl.1.trans hml.symm) hown hK hR hRm mfM_variableOf kl_M_108 rfl (by simp [cat_rf, Value.category]) (hC 80 _ _ _ _ h_3) dM_thing_1 (fun v1 H locs cells slots ev hR => ?_) (fun x1 q1 ce1 H locs cells slots ex hR g1 g2 g3 => ?_)
  · rcases h with ⟨v_1, ev2, h⟩ | ⟨e2, ee2, -⟩
    · cases ev.symm.trans ev2
      replace h := rz_i h
      obtain ⟨x_5, rfl, h⟩ := h
      dsimp only [Option.toList, List.cons_append, List.nil_append]
      refine lv_istore_n (lv' := [(2, .int x_5), (0, .ref a0), (1, .int x1)]) hx hb dM_thing_4 rfl hl (by decide) rfl (fun ls hl => ?_)
      refine lv_iload_n hx hb dM_thing_5 rfl (lv_at hl 2 rfl) ?_
      refine lv_bipush (v := 110) hx hb dM_thing_6 (by decide) ?_
      refine lv_icmp_ne (tgt := 21) hx hb dM_thing_8 (by decide) (fun c_6 => ?_) (fun c_6 => ?_)
      · replace h := rz_f c_6 h
        refine lv_iload_n hx hb dM_thing_21 rfl (lv_at hl 2 rfl) ?_
        refine lv_bipush (v := 35) hx hb dM_thing_22 (by decide) ?_
        refine lv_icmp_ne (tgt := 44) hx hb dM_thing_24 (by decide) (fun c_7 => ?_) (fun c_7 => ?_)
        · replace h := rz_f c_7 h
          refine lv_iload_n hx hb dM_thing_44 rfl (lv_at hl 0 rfl) ?_
          refine lv_if_lt (tgt := 77) hx hb dM_thing_45 (by decide) (fun c_8 => ?_) (fun c_8 => ?_)
          · replace h := rz_t c_8 h
            exact tM_thing_77 F hC _ _ _ _ _ _ h hR (lv_sub hl [] rfl)
          · replace h := rz_f c_8 h
            refine lv_iload_n hx hb dM_thing_48 rfl (lv_at hl 0 rfl) ?_
            refine lv_iconst (v := 3) hx hb dM_thing_49 (by decide) ?_
            refine lv_icmp_ge (tgt := 77) hx hb dM_thing_50 (by decide) (fun c_9 => ?_) (fun c_9 => ?_)
            · replace h := rz_t c_9 h
              exact tM_thing_77 F hC _ _ _ _ _ _ h hR (lv_sub hl [] rfl)
            · replace h := rz_f c_9 h
              refine lv_aload_n hx hb dM_thing_53 rfl (lv_at hl 1 rfl) ?_
              obtain ⟨c_10, h⟩ := rz_chk h
              refine rg_getP hx hb hown hK hR hk_M 23 (by decide) kf_M_48 rfl c_10 dM_thing_54 ?_
              refine lv_iload_n hx hb dM_thing_57 rfl (lv_at hl 0 rfl) ?_
              obtain ⟨a_11, e_12, h⟩ := rz_d h
              rw [e_12]
              obtain ⟨c_13, h⟩ := rz_chk h
              obtain ⟨c_14, h⟩ := rz_chk h
              refine rg_iald hx hb hK hR c_13 c_14 dM_thing_58 ?_
              refine lv_if_lt (tgt := 77) hx hb dM_thing_59 (by decide) (fun c_15 => ?_) (fun c_15 => ?_)
              · replace h := rz_t c_15 h
                exact tM_thing_77 F hC _ _ _ _ _ _ h hR (lv_sub hl [] rfl)
              · replace h := rz_f c_15 h
                refine lv_aload_n hx hb dM_thing_62 rfl (lv_at hl 1 rfl) ?_
                refine lv_bipush (v := 14) hx hb dM_thing_63 (by decide) ?_
                refine lv_aload_n hx hb dM_thing_65 rfl (lv_at hl 1 rfl) ?_
                refine rg_getP hx hb hown hK hR hk_M 23 (by decide) kf_M_48 rfl c_10 dM_thing_66 ?_
                refine lv_iload_n hx hb dM_thing_69 rfl (lv_at hl 0 rfl) ?_
                rw [e_12]
                obtain ⟨c_16, h⟩ := rz_chk h
                refine rg_iald hx hb hK hR c_13 c_16 dM_thing_70 ?_
                obtain ⟨q_20, M_18, h_19, h⟩ := rz_c h
                refine rc_V (rest := []) (As := [.int 14, .int (mI M_2 a_11 x_5.toNatClampNeg)]) hx hb (hl.1.trans hml.symm) hown hK hR hRm mfM_emit kl_M_86 hk_M rfl rfl c_10 (by simp [cat_rf, Value.category]) (hC 81 _ _ _ _ h_19) dM_thing_71 (fun v1 H locs cells slots ev hR => ?_) (fun x1 q1 ce1 H locs cells slots ex hR g1 g2 g3 => ?_)
                · rcases h with ⟨v_17, ev2, h⟩ | ⟨e2, ee2, -⟩
                  · cases ev.symm.trans ev2
                    replace h := rz_v h
                    obtain ⟨rfl, h⟩ := h
                    dsimp only [Option.toList, List.cons_append, List.nil_append]
                    refine lv_goto (tgt := 80) hx hb dM_thing_74 (by decide) ?_
                    exact tM_thing_80 F hC a0 _ _ _ _ _ _ h hR (lv_sub hl [1] rfl)
                  · cases ev.symm.trans ee2
                · rcases h with ⟨v2, ev2, -⟩ | ⟨e2, ee2, h⟩
                  · cases ex.symm.trans ev2
                  · cases ex.symm.trans ee2
                    cases h
                    exact rt_x hlk hex hR g1 g2 g3
        · replace h := rz_t c_7 h
          refine lv_aload_n hx hb dM_thing_27 rfl (lv_at hl 1 rfl) ?_
          refine lv_bipush (v := 11) hx hb dM_thing_28 (by decide) ?_
          obtain ⟨c_21, h⟩ := rz_chk h
          obtain ⟨q_25, M_23, h_24, h⟩ := rz_c h
          refine rc_V (rest := []) (As := [.int 11]) hx hb (hl.1.trans hml.symm) hown hK hR hRm mfM_deeper kl_M_90 hk_M rfl rfl c_21 (by simp [cat_rf, Value.category]) (hC 74 _ _ _ _ h_24) dM_thing_30 (fun v1 H locs cells slots ev hR => ?_) (fun x1 q1 ce1 H locs cells slots ex hR g1 g2 g3 => ?_)
          · rcases h with ⟨v_22, ev2, h⟩ | ⟨e2, ee2, -⟩
            · cases ev.symm.trans ev2
              replace h := rz_i h
              obtain ⟨x_26, rfl, h⟩ := h
              dsimp only [Option.toList, List.cons_append, List.nil_append]
              refine lv_if_eq (tgt := 41) hx hb dM_thing_33 (by decide) (fun c_27 => ?_) (fun c_27 => ?_)
              · replace h := rz_t c_27 h
                refine lv_bipush (v := 10) hx hb dM_thing_41 (by decide) ?_
                exact tM_thing_43 F hC 10 _ _ _ _ _ _ h hR (lv_sub hl [] rfl)
              · replace h := rz_f c_27 h
                refine lv_bipush (v := 8) hx hb dM_thing_36 (by decide) ?_
                refine lv_goto (tgt := 43) hx hb dM_thing_38 (by decide) ?_
                exact tM_thing_43 F hC 8 _ _ _ _ _ _ h hR (lv_sub hl [] rfl)
            · cases ev.symm.trans ee2
          · rcases h with ⟨v2, ev2, -⟩ | ⟨e2, ee2, h⟩
            · cases ex.symm.trans ev2
            · cases ex.symm.trans ee2
              cases h
              exact rt_x hlk hex hR g1 g2 g3
      · replace h := rz_t c_6 h
        refine lv_aload_n hx hb dM_thing_11 rfl (lv_at hl 1 rfl) ?_
        refine lv_bipush (v := 15) hx hb dM_thing_12 (by decide) ?_
        refine lv_iconst (v := 0) hx hb dM_thing_14 (by decide) ?_
        obtain ⟨c_28, h⟩ := rz_chk h
        obtain ⟨q_32, M_30, h_31, h⟩ := rz_c h
        refine rc_V (rest := []) (As := [.int 15, .int 0]) hx hb (hl.1.trans hml.symm) hown hK hR hRm mfM_emit kl_M_86 hk_M rfl rfl c_28 (by simp [cat_rf, Value.category]) (hC 81 _ _ _ _ h_31) dM_thing_15 (fun v1 H locs cells slots ev hR => ?_) (fun x1 q1 ce1 H locs cells slots ex hR g1 g2 g3 => ?_)
        · rcases h with ⟨v_29, ev2, h⟩ | ⟨e2, ee2, -⟩
          · cases ev.symm.trans ev2
            replace h := rz_v h
            obtain ⟨rfl, h⟩ := h
            dsimp only [Option.toList, List.cons_append, List.nil_append]
            refine lv_goto (tgt := 80) hx hb dM_thing_18 (by decide) ?_
            exact tM_thing_80 F hC a0 _ _ _ _ _ _ h hR (lv_sub hl [1] rfl)
          · cases ev.symm.trans ee2
        · rcases h with ⟨v2, ev2, -⟩ | ⟨e2, ee2, h⟩
          · cases ex.symm.trans ev2
          · cases ex.symm.trans ee2
            cases h
            exact rt_x hlk hex hR g1 g2 g3
    · cases ev.symm.trans ee2
  · rcases h with ⟨v2, ev2, -⟩ | ⟨e2, ee2, h⟩
    · cases ex.symm.trans ev2
    · cases ex.symm.trans ee2
      cases h
      exact rt_x hlk hex hR g1 g2 g3
set_option maxRecDepth 100000 in
set_option maxHeartbeats 4000000 in
theorem sM_thing {l : Launch} {G : Gx} {n d : Nat} {C : Cx} (hC : CBs l G d C) (a0 : Nat) (x1 : Int32) {M M' : Mem} {r : Option Value ⊕ Nat} (h : fM_thing_0 n d C a0 x1 M = some (r, M')) : CB l G (d + 1) yM_thing [.ref a0, .int x1] M r M' := by
  intro p e R s m below meth c hx hn hm hc hlk hK hR hcap hS hU hfr hlo hrc hrs
  obtain ⟨hb, hml, hrt, hex, hown⟩ := fx_of hn hm hc (hK.w mfM_thing.2.2.1 rfl #[])
  have F : FX p s m meth c G R M d "HeadCountModel" bM_thing 3 (some .int) := ⟨hx, hb, hml, hown, hrt, hlk, hex, hK, hfr, hlo, by rw [← hcap]; exact hrc, hrs⟩
  rw [hml]
  have hl := lv_entry ([.ref a0, .int x1]) (n := 3) (by simp [lg_sl, cat_rf, Value.category])
  rw [lg_entry_eq]
  generalize (lg_sl ([.ref a0, .int x1]) ++ List.replicate (3 - (lg_sl ([.ref a0, .int x1])).length) Slot.unset).toArray = ls at hl ⊢
  have hl : lv_has ls 3 [(0, .ref a0), (1, .int x1)] := by simpa [lv_args, cat_rf, Value.category] using hl
  exact tM_thing_0 F hC a0 x1 _ _ _ _ _ _ h (RL.start hR hcap hS hU) (lv_sub hl [0, 1] rfl)
def fM_wholePart_45 (n d : Nat) (C : Cx) (a0 : Nat) (M : Mem) : Rz := if mK M a0 = 5 then (if fits .boolean (.int 0) = true then (rzM (setI M a0 31 0) fun M_3 => (if fits .boolean (.int 0) = true then (rzM (setI M_3 a0 32 0) fun M_7 => (if fits .boolean (.int 0) = true then (rzM (setI M_7 a0 28 0) fun M_11 => (some (.inl none, M_11))) else none)) else none)) else none) else none
set_option maxRecDepth 100000 in
set_option maxHeartbeats 4000000 in
theorem tM_wholePart_45 {n : Nat} (F : FX p s m meth c G R M0 d "HeadCountModel" bM_wholePart 1 none) (hC : CBs l G d C) : ∀ (a0 : Nat) (M : Mem) (H : Heap) (locs : List Loc) (cells slots : Nat) (ls : Array Slot), fM_wholePart_45 n d C a0 M = some (r, M') → RL G M0 M H locs cells slots → lv_has ls 1 [(0, .ref a0)] → W p l e R s m args below meth c H locs cells slots (CQ G below s M0 r M') (F0 m 45 ls []) := by
  obtain ⟨hx, hb, hml, hown, hrt, hlk, hex, hK, hRm⟩ := id F
  intro a0 M H locs cells slots ls h hR hl
  unfold fM_wholePart_45 at h
  refine lv_aload_n hx hb dM_wholePart_45 rfl (lv_at hl 0 rfl) ?_
  refine lv_iconst (v := 0) hx hb dM_wholePart_46 (by decide) ?_
  obtain ⟨c_1, h⟩ := rz_chk h
  obtain ⟨c_2, h⟩ := rz_chk h
  obtain ⟨M_3, q_4, h⟩ := rz_m h
  refine rg_putI hx hb hown hK hR hk_M 31 (by decide) kf_M_123 rfl rfl (ty := .boolean) (by decide +kernel) (Or.inr (Or.inr rfl)) c_2 c_1 dM_wholePart_47 (fun H locs hR => ?_)
  rw [← q_4] at hR
  have c_5 : mK M_3 a0 = 5 := by rw [q_4]; exact c_1
  refine lv_aload_n hx hb dM_wholePart_50 rfl (lv_at hl 0 rfl) ?_
  refine lv_iconst (v := 0) hx hb dM_wholePart_51 (by decide) ?_
  obtain ⟨c_6, h⟩ := rz_chk h
  obtain ⟨M_7, q_8, h⟩ := rz_m h
  refine rg_putI hx hb hown hK hR hk_M 32 (by decide) kf_M_126 rfl rfl (ty := .boolean) (by decide +kernel) (Or.inr (Or.inr rfl)) c_6 c_5 dM_wholePart_52 (fun H locs hR => ?_)
  rw [← q_8] at hR
  have c_9 : mK M_7 a0 = 5 := by rw [q_8]; exact c_5
  refine lv_aload_n hx hb dM_wholePart_55 rfl (lv_at hl 0 rfl) ?_
  refine lv_iconst (v := 0) hx hb dM_wholePart_56 (by decide) ?_
  obtain ⟨c_10, h⟩ := rz_chk h
  obtain ⟨M_11, q_12, h⟩ := rz_m h
  refine rg_putI hx hb hown hK hR hk_M 28 (by decide) kf_M_132 rfl rfl (ty := .boolean) (by decide +kernel) (Or.inr (Or.inr rfl)) c_10 c_9 dM_wholePart_57 (fun H locs hR => ?_)
  rw [← q_12] at hR
  have c_13 : mK M_11 a0 = 5 := by rw [q_12]; exact c_9
  cases h
  exact rt_v hx hb hlk hrt hR dM_wholePart_60
def fM_wholePart_31 (n d : Nat) (C : Cx) (a0 : Nat) (M : Mem) : Rz := if mK M a0 = 5 then (if (mI M a0 31) = 0 then (rzC (C 81 [.ref a0, .int 18, .int 0] M) fun v_3 M_4 => (rzV v_3 (fM_wholePart_45 n d C a0 M_4))) else (fM_wholePart_45 n d C a0 M)) else none
set_option maxRecDepth 100000 in
set_option maxHeartbeats 4000000 in
theorem tM_wholePart_31 {n : Nat} (F : FX p s m meth c G R M0 d "HeadCountModel" bM_wholePart 1 none) (hC : CBs l G d C) : ∀ (a0 : Nat) (M : Mem) (H : Heap) (locs : List Loc) (cells slots : Nat) (ls : Array Slot), fM_wholePart_31 n d C a0 M = some (r, M') → RL G M0 M H locs cells slots → lv_has ls 1 [(0, .ref a0)] → W p l e R s m args below meth c H locs cells slots (CQ G below s M0 r M') (F0 m 31 ls []) := by
  obtain ⟨hx, hb, hml, hown, hrt, hlk, hex, hK, hRm⟩ := id F
  intro a0 M H locs cells slots ls h hR hl
  unfold fM_wholePart_31 at h
  refine lv_aload_n hx hb dM_wholePart_31 rfl (lv_at hl 0 rfl) ?_
  obtain ⟨c_1, h⟩ := rz_chk h
  refine rg_getI hx hb hown hK hR hk_M 31 (by decide) kf_M_123 rfl c_1 dM_wholePart_32 ?_
  refine lv_if_ne (tgt := 45) hx hb dM_wholePart_35 (by decide) (fun c_2 => ?_) (fun c_2 => ?_)
  · replace h := rz_f c_2 h
    exact tM_wholePart_45 F hC a0 _ _ _ _ _ _ h hR (lv_sub hl [0] rfl)
  · replace h := rz_t c_2 h
    refine lv_aload_n hx hb dM_wholePart_38 rfl (lv_at hl 0 rfl) ?_
    refine lv_bipush (v := 18) hx hb dM_wholePart_39 (by decide) ?_
    refine lv_iconst (v := 0) hx hb dM_wholePart_41 (by decide) ?_
    obtain ⟨q_6, M_4, h_5, h⟩ := rz_c h
    refine rc_V (rest := []) (As := [.int 18, .int 0]) hx hb (hl.1.trans hml.symm) hown hK hR hRm mfM_emit kl_M_86 hk_M rfl rfl c_1 (by simp [cat_rf, Value.category]) (hC 81 _ _ _ _ h_5) dM_wholePart_42 (fun v1 H locs cells slots ev hR => ?_) (fun x1 q1 ce1 H locs cells slots ex hR g1 g2 g3 => ?_)
    · rcases h with ⟨v_3, ev2, h⟩ | ⟨e2, ee2, -⟩
      · cases ev.symm.trans ev2
        replace h := rz_v h
        obtain ⟨rfl, h⟩ := h
        dsimp only [Option.toList, List.cons_append, List.nil_append]
        exact tM_wholePart_45 F hC a0 _ _ _ _ _ _ h hR (lv_sub hl [0] rfl)
      · cases ev.symm.trans ee2
    · rcases h with ⟨v2, ev2, -⟩ | ⟨e2, ee2, h⟩
      · cases ex.symm.trans ev2
      · cases ex.symm.trans ee2
        cases h
        exact rt_x hlk hex hR g1 g2 g3
def fM_wholePart_17 (n d : Nat) (C : Cx) (a0 : Nat) (M : Mem) : Rz := if mK M a0 = 5 then (if (mI M a0 30) = 0 then (fM_wholePart_31 n d C a0 M) else (rzC (C 81 [.ref a0, .int 17, .int 0] M) fun v_3 M_4 => (rzV v_3 (fM_wholePart_31 n d C a0 M_4)))) else none
set_option maxRecDepth 100000 in
set_option maxHeartbeats 4000000 in
theorem tM_wholePart_17 {n : Nat} (F : FX p s m meth c G R M0 d "HeadCountModel" bM_wholePart 1 none) (hC : CBs l G d C) : ∀ (a0 : Nat) (M : Mem) (H : Heap) (locs : List Loc) (cells slots : Nat) (ls : Array Slot), fM_wholePart_17 n d C a0 M = some (r, M') → RL G M0 M H locs cells slots → lv_has ls 1 [(0, .ref a0)] → W p l e R s m args below meth c H locs cells slots (CQ G below s M0 r M') (F0 m 17 ls []) := by
  obtain ⟨hx, hb, hml, hown, hrt, hlk, hex, hK, hRm⟩ := id F
  intro a0 M H locs cells slots ls h hR hl
  unfold fM_wholePart_17 at h
  refine lv_aload_n hx hb dM_wholePart_17 rfl (lv_at hl 0 rfl) ?_
  obtain ⟨c_1, h⟩ := rz_chk h
  refine rg_getI hx hb hown hK hR hk_M 30 (by decide) kf_M_120 rfl c_1 dM_wholePart_18 ?_
  refine lv_if_eq (tgt := 31) hx hb dM_wholePart_21 (by decide) (fun c_2 => ?_) (fun c_2 => ?_)
  · replace h := rz_t c_2 h
    exact tM_wholePart_31 F hC a0 _ _ _ _ _ _ h hR (lv_sub hl [0] rfl)
  · replace h := rz_f c_2 h
    refine lv_aload_n hx hb dM_wholePart_24 rfl (lv_at hl 0 rfl) ?_
    refine lv_bipush (v := 17) hx hb dM_wholePart_25 (by decide) ?_
    refine lv_iconst (v := 0) hx hb dM_wholePart_27 (by decide) ?_
    obtain ⟨q_6, M_4, h_5, h⟩ := rz_c h
    refine rc_V (rest := []) (As := [.int 17, .int 0]) hx hb (hl.1.trans hml.symm) hown hK hR hRm mfM_emit kl_M_86 hk_M rfl rfl c_1 (by simp [cat_rf, Value.category]) (hC 81 _ _ _ _ h_5) dM_wholePart_28 (fun v1 H locs cells slots ev hR => ?_) (fun x1 q1 ce1 H locs cells slots ex hR g1 g2 g3 => ?_)
    · rcases h with ⟨v_3, ev2, h⟩ | ⟨e2, ee2, -⟩
      · cases ev.symm.trans ev2
        replace h := rz_v h
        obtain ⟨rfl, h⟩ := h
        dsimp only [Option.toList, List.cons_append, List.nil_append]
        exact tM_wholePart_31 F hC a0 _ _ _ _ _ _ h hR (lv_sub hl [0] rfl)
      · cases ev.symm.trans ee2
    · rcases h with ⟨v2, ev2, -⟩ | ⟨e2, ee2, h⟩
      · cases ex.symm.trans ev2
      · cases ex.symm.trans ee2
        cases h
        exact rt_x hlk hex hR g1 g2 g3
def fM_wholePart_0 (n d : Nat) (C : Cx) (a0 : Nat) (M : Mem) : Rz := if mK M a0 = 5 then (if (mI M a0 28) = 0 then (fM_wholePart_17 n d C a0 M) else (rzC (C 81 [.ref a0, .int 16, .int (mI M a0 29)] M) fun v_3 M_4 => (rzV v_3 (fM_wholePart_17 n d C a0 M_4)))) else none
set_option maxRecDepth 100000 in
set_option maxHeartbeats 4000000 in
theorem tM_wholePart_0 {n : Nat} (F : FX p s m meth c G R M0 d "HeadCountModel" bM_wholePart 1 none) (hC : CBs l G d C) : ∀ (a0 : Nat) (M : Mem) (H : Heap) (locs : List Loc) (cells slots : Nat) (ls : Array Slot), fM_wholePart_0 n d C a0 M = some (r, M') → RL G M0 M H locs cells slots → lv_has ls 1 [(0, .ref a0)] → W p l e R s m args below meth c H locs cells slots (CQ G below s M0 r M') (F0 m 0 ls []) := by
  obtain ⟨hx, hb, hml, hown, hrt, hlk, hex, hK, hRm⟩ := id F
  intro a0 M H locs cells slots ls h hR hl
  unfold fM_wholePart_0 at h
  refine lv_aload_n hx hb dM_wholePart_0 rfl (lv_at hl 0 rfl) ?_
  obtain ⟨c_1, h⟩ := rz_chk h
  refine rg_getI hx hb hown hK hR hk_M 28 (by decide) kf_M_132 rfl c_1 dM_wholePart_1 ?_
  refine lv_if_eq (tgt := 17) hx hb dM_wholePart_4 (by decide) (fun c_2 => ?_) (fun c_2 => ?_)
  · replace h := rz_t c_2 h
    exact tM_wholePart_17 F hC a0 _ _ _ _ _ _ h hR (lv_sub hl [0] rfl)
  · replace h := rz_f c_2 h
    refine lv_aload_n hx hb dM_wholePart_7 rfl (lv_at hl 0 rfl) ?_
    refine lv_bipush (v := 16) hx hb dM_wholePart_8 (by decide) ?_
    refine lv_aload_n hx hb dM_wholePart_10 rfl (lv_at hl 0 rfl) ?_
    refine rg_getI hx hb hown hK hR hk_M 29 (by decide) kf_M_148 rfl c_1 dM_wholePart_11 ?_
    obtain ⟨q_6, M_4, h_5, h⟩ := rz_c h
    refine rc_V (rest := []) (As := [.int 16, .int (mI M a0 29)]) hx hb (hl.1.trans hml.symm) hown hK hR hRm mfM_emit kl_M_86 hk_M rfl rfl c_1 (by simp [cat_rf, Value.category]) (hC 81 _ _ _ _ h_5) dM_wholePart_14 (fun v1 H locs cells slots ev hR => ?_) (fun x1 q1 ce1 H locs cells slots ex hR g1 g2 g3 => ?_)
    · rcases h with ⟨v_3, ev2, h⟩ | ⟨e2, ee2, -⟩
      · cases ev.symm.trans ev2
        replace h := rz_v h
        obtain ⟨rfl, h⟩ := h
        dsimp only [Option.toList, List.cons_append, List.nil_append]
        exact tM_wholePart_17 F hC a0 _ _ _ _ _ _ h hR (lv_sub hl [0] rfl)
      · cases ev.symm.trans ee2
    · rcases h with ⟨v2, ev2, -⟩ | ⟨e2, ee2, h⟩
      · cases ex.symm.trans ev2
      · cases ex.symm.trans ee2
        cases h
        exact rt_x hlk hex hR g1 g2 g3
set_option maxRecDepth 100000 in
set_option maxHeartbeats 4000000 in
theorem sM_wholePart {l : Launch} {G : Gx} {n d : Nat} {C : Cx} (hC : CBs l G d C) (a0 : Nat) {M M' : Mem} {r : Option Value ⊕ Nat} (h : fM_wholePart_0 n d C a0 M = some (r, M')) : CB l G (d + 1) yM_wholePart [.ref a0] M r M' := by
  intro p e R s m below meth c hx hn hm hc hlk hK hR hcap hS hU hfr hlo hrc hrs
  obtain ⟨hb, hml, hrt, hex, hown⟩ := fx_of hn hm hc (hK.w mfM_wholePart.2.2.1 rfl #[])
  have F : FX p s m meth c G R M d "HeadCountModel" bM_wholePart 1 none := ⟨hx, hb, hml, hown, hrt, hlk, hex, hK, hfr, hlo, by rw [← hcap]; exact hrc, hrs⟩
  rw [hml]
  have hl := lv_entry ([.ref a0]) (n := 1) (by simp [lg_sl, cat_rf, Value.category])
  rw [lg_entry_eq]
  generalize (lg_sl ([.ref a0]) ++ List.replicate (1 - (lg_sl ([.ref a0])).length) Slot.unset).toArray = ls at hl ⊢
  have hl : lv_has ls 1 [(0, .ref a0)] := by simpa [lv_args, cat_rf, Value.category] using hl
  exact tM_wholePart_0 F hC a0 _ _ _ _ _ _ h (RL.start hR hcap hS hU) (lv_sub hl [0] rfl)
def fM_afterOne_52 (n d : Nat) (C : Cx) (M : Mem) : Rz := some (.inl (some (.int 10)), M)
set_option maxRecDepth 100000 in
set_option maxHeartbeats 4000000 in
theorem tM_afterOne_52 {n : Nat} (F : FX p s m meth c G R M0 d "HeadCountModel" bM_afterOne 2 (some .int)) (hC : CBs l G d C) : ∀ (M : Mem) (H : Heap) (locs : List Loc) (cells slots : Nat) (ls : Array Slot), fM_afterOne_52 n d C M = some (r, M') → RL G M0 M H locs cells slots → lv_has ls 2 [] → W p l e R s m args below meth c H locs cells slots (CQ G below s M0 r M') (F0 m 52 ls []) := by
  obtain ⟨hx, hb, hml, hown, hrt, hlk, hex, hK, hRm⟩ := id F
  intro M H locs cells slots ls h hR hl
  unfold fM_afterOne_52 at h
  refine lv_bipush (v := 10) hx hb dM_afterOne_52 (by decide) ?_
  cases h
  exact rt_i hx hb hlk hrt (Or.inl rfl) rfl hR dM_afterOne_54
def fM_afterOne_0 (n d : Nat) (C : Cx) (a0 : Nat) (x1 : Int32) (M : Mem) : Rz := if x1 = 38 then (if mK M a0 = 5 then (rzC (C 84 [.ref a0, .int 2, .int 2] M) fun v_33 M_34 => (rzV v_33 (if mK M_34 a0 = 5 then (rzC (C 75 [.ref a0, .int 2] M_34) fun v_38 M_39 => (rzV v_38 (some (.inl (some (.int 0)), M_39)))) else none))) else none) else (if mK M a0 = 5 then (rzC (C 84 [.ref a0, .int 2, .int 1] M) fun v_3 M_4 => (rzV v_3 (if x1 = 124 then (if mK M_4 a0 = 5 then (rzC (C 75 [.ref a0, .int 1] M_4) fun v_28 M_29 => (rzV v_28 (some (.inl (some (.int 0)), M_29)))) else none) else (if x1 = 41 then (if mK M_4 a0 = 5 then (rzC (C 85 [.ref a0] M_4) fun v_10 M_11 => (rzI v_10 fun x_14 => (if x_14 = 4 then (if mK M_11 a0 = 5 then (rzC (C 86 [.ref a0] M_11) fun v_17 M_18 => (rzV v_17 (if mK M_18 a0 = 5 then (rzC (C 87 [.ref a0] M_18) fun v_22 M_23 => (rzI v_22 fun x_26 => (some (.inl (some (.int x_26)), M_23)))) else none))) else none) else (fM_afterOne_52 n d C M_11)))) else none) else (fM_afterOne_52 n d C M_4))))) else none)
set_option maxRecDepth 100000 in
set_option maxHeartbeats 4000000 in
theorem tM_afterOne_0 {n : Nat} (F : FX p s m meth c G R M0 d "HeadCountModel" bM_afterOne 2 (some .int)) (hC : CBs l G d C) : ∀ (a0 : Nat) (x1 : Int32) (M : Mem) (H : Heap) (locs : List Loc) (cells slots : Nat) (ls : Array Slot), fM_afterOne_0 n d C a0 x1 M = some (r, M') → RL G M0 M H locs cells slots → lv_has ls 2 [(0, .ref a0), (1, .int x1)] → W p l e R s m args below meth c H locs cells slots (CQ G below s M0 r M') (F0 m 0 ls []) := by
  obtain ⟨hx, hb, hml, hown, hrt, hlk, hex, hK, hRm⟩ := id F
  intro a0 x1 M H locs cells slots ls h hR hl
  unfold fM_afterOne_0 at h
  refine lv_iload_n hx hb dM_afterOne_0 rfl (lv_at hl 1 rfl) ?_
  refine lv_bipush (v := 38) hx hb dM_afterOne_1 (by decide) ?_
  refine lv_icmp_ne (tgt := 19) hx hb dM_afterOne_3 (by decide) (fun c_1 => ?_) (fun c_1 => ?_)
  · replace h := rz_f c_1 h
    refine lv_aload_n hx hb dM_afterOne_19 rfl (lv_at hl 0 rfl) ?_
    refine lv_iconst (v := 2) hx hb dM_afterOne_20 (by decide) ?_
    refine lv_iconst (v := 1) hx hb dM_afterOne_21 (by decide) ?_
    obtain ⟨c_2, h⟩ := rz_chk h
    obtain ⟨q_6, M_4, h_5, h⟩ := rz_c h
    refine rc_V (rest := []) (As := [.int 2, .int 1]) hx hb (hl.1.trans hml.symm) hown hK hR hRm mfM_settle kl_M_114 hk_M rfl rfl c_2 (by simp [cat_rf, Value.category]) (hC 84 _ _ _ _ h_5) dM_afterOne_22 (fun v1 H locs cells slots ev hR => ?_) (fun x1 q1 ce1 H locs cells slots ex hR g1 g2 g3 => ?_)
    · rcases h with ⟨v_3, ev2, h⟩ | ⟨e2, ee2, -⟩
      · cases ev.symm.trans ev2
        replace h := rz_v h
        obtain ⟨rfl, h⟩ := h
        dsimp only [Option.toList, List.cons_append, List.nil_append]
        refine lv_iload_n hx hb dM_afterOne_25 rfl (lv_at hl 1 rfl) ?_
        refine lv_bipush (v := 124) hx hb dM_afterOne_26 (by decide) ?_
        refine lv_icmp_ne (tgt := 38) hx hb dM_afterOne_28 (by decide) (fun c_7 => ?_) (fun c_7 => ?_)
        · replace h := rz_f c_7 h
          refine lv_iload_n hx hb dM_afterOne_38 rfl (lv_at hl 1 rfl) ?_
          refine lv_bipush (v := 41) hx hb dM_afterOne_39 (by decide) ?_
          refine lv_icmp_ne (tgt := 52) hx hb dM_afterOne_41 (by decide) (fun c_8 => ?_) (fun c_8 => ?_)
          · replace h := rz_f c_8 h
            exact tM_afterOne_52 F hC _ _ _ _ _ _ h hR (lv_sub hl [] rfl)
          · replace h := rz_t c_8 h
            refine lv_aload_n hx hb dM_afterOne_44 rfl (lv_at hl 0 rfl) ?_
            obtain ⟨c_9, h⟩ := rz_chk h
            obtain ⟨q_13, M_11, h_12, h⟩ := rz_c h
            refine rc_V (rest := []) (As := []) hx hb (hl.1.trans hml.symm) hown hK hR hRm mfM_upper kl_M_82 hk_M rfl rfl c_9 (by simp [cat_rf, Value.category]) (hC 85 _ _ _ _ h_12) dM_afterOne_45 (fun v1 H locs cells slots ev hR => ?_) (fun x1 q1 ce1 H locs cells slots ex hR g1 g2 g3 => ?_)
            · rcases h with ⟨v_10, ev2, h⟩ | ⟨e2, ee2, -⟩
              · cases ev.symm.trans ev2
                replace h := rz_i h
                obtain ⟨x_14, rfl, h⟩ := h
                dsimp only [Option.toList, List.cons_append, List.nil_append]
                refine lv_iconst (v := 4) hx hb dM_afterOne_48 (by decide) ?_
                refine lv_icmp_eq (tgt := 55) hx hb dM_afterOne_49 (by decide) (fun c_15 => ?_) (fun c_15 => ?_)
                · replace h := rz_t c_15 h
                  refine lv_aload_n hx hb dM_afterOne_55 rfl (lv_at hl 0 rfl) ?_
                  obtain ⟨c_16, h⟩ := rz_chk h
                  obtain ⟨q_20, M_18, h_19, h⟩ := rz_c h
                  refine rc_V (rest := []) (As := []) hx hb (hl.1.trans hml.symm) hown hK hR hRm mfM_close kl_M_111 hk_M rfl rfl c_16 (by simp [cat_rf, Value.category]) (hC 86 _ _ _ _ h_19) dM_afterOne_56 (fun v1 H locs cells slots ev hR => ?_) (fun x1 q1 ce1 H locs cells slots ex hR g1 g2 g3 => ?_)
                  · rcases h with ⟨v_17, ev2, h⟩ | ⟨e2, ee2, -⟩
                    · cases ev.symm.trans ev2
                      replace h := rz_v h
                      obtain ⟨rfl, h⟩ := h
                      dsimp only [Option.toList, List.cons_append, List.nil_append]
                      refine lv_aload_n hx hb dM_afterOne_59 rfl (lv_at hl 0 rfl) ?_
                      obtain ⟨c_21, h⟩ := rz_chk h
                      obtain ⟨q_25, M_23, h_24, h⟩ := rz_c h
                      refine rc_V (rest := []) (As := []) hx hb (hl.1.trans hml.symm) hown hK hR hRm mfM_wholeOne kl_M_117 hk_M rfl rfl c_21 (by simp [cat_rf, Value.category]) (hC 87 _ _ _ _ h_24) dM_afterOne_60 (fun v1 H locs cells slots ev hR => ?_) (fun x1 q1 ce1 H locs cells slots ex hR g1 g2 g3 => ?_)
                      · rcases h with ⟨v_22, ev2, h⟩ | ⟨e2, ee2, -⟩
                        · cases ev.symm.trans ev2
                          replace h := rz_i h
                          obtain ⟨x_26, rfl, h⟩ := h
                          dsimp only [Option.toList, List.cons_append, List.nil_append]
                          cases h
                          exact rt_i hx hb hlk hrt (Or.inl rfl) rfl hR dM_afterOne_63
                        · cases ev.symm.trans ee2
                      · rcases h with ⟨v2, ev2, -⟩ | ⟨e2, ee2, h⟩
                        · cases ex.symm.trans ev2
                        · cases ex.symm.trans ee2
                          cases h
                          exact rt_x hlk hex hR g1 g2 g3
                    · cases ev.symm.trans ee2
                  · rcases h with ⟨v2, ev2, -⟩ | ⟨e2, ee2, h⟩
                    · cases ex.symm.trans ev2
                    · cases ex.symm.trans ee2
                      cases h
                      exact rt_x hlk hex hR g1 g2 g3
                · replace h := rz_f c_15 h
                  exact tM_afterOne_52 F hC _ _ _ _ _ _ h hR (lv_sub hl [] rfl)
              · cases ev.symm.trans ee2
            · rcases h with ⟨v2, ev2, -⟩ | ⟨e2, ee2, h⟩
              · cases ex.symm.trans ev2
              · cases ex.symm.trans ee2
                cases h
                exact rt_x hlk hex hR g1 g2 g3
        · replace h := rz_t c_7 h
          refine lv_aload_n hx hb dM_afterOne_31 rfl (lv_at hl 0 rfl) ?_
          refine lv_iconst (v := 1) hx hb dM_afterOne_32 (by decide) ?_
          obtain ⟨c_27, h⟩ := rz_chk h
          obtain ⟨q_31, M_29, h_30, h⟩ := rz_c h
          refine rc_V (rest := []) (As := [.int 1]) hx hb (hl.1.trans hml.symm) hown hK hR hRm mfM_push kl_M_78 hk_M rfl rfl c_27 (by simp [cat_rf, Value.category]) (hC 75 _ _ _ _ h_30) dM_afterOne_33 (fun v1 H locs cells slots ev hR => ?_) (fun x1 q1 ce1 H locs cells slots ex hR g1 g2 g3 => ?_)
          · rcases h with ⟨v_28, ev2, h⟩ | ⟨e2, ee2, -⟩
            · cases ev.symm.trans ev2
              replace h := rz_v h
              obtain ⟨rfl, h⟩ := h
              dsimp only [Option.toList, List.cons_append, List.nil_append]
              refine lv_iconst (v := 0) hx hb dM_afterOne_36 (by decide) ?_
              cases h
              exact rt_i hx hb hlk hrt (Or.inl rfl) rfl hR dM_afterOne_37
            · cases ev.symm.trans ee2
          · rcases h with ⟨v2, ev2, -⟩ | ⟨e2, ee2, h⟩
            · cases ex.symm.trans ev2
            · cases ex.symm.trans ee2
              cases h
              exact rt_x hlk hex hR g1 g2 g3
      · cases ev.symm.trans ee2
    · rcases h with ⟨v2, ev2, -⟩ | ⟨e2, ee2, h⟩
      · cases ex.symm.trans ev2
      · cases ex.symm.trans ee2
        cases h
        exact rt_x hlk hex hR g1 g2 g3
  · replace h := rz_t c_1 h
    refine lv_aload_n hx hb dM_afterOne_6 rfl (lv_at hl 0 rfl) ?_
    refine lv_iconst (v := 2) hx hb dM_afterOne_7 (by decide) ?_
    refine lv_iconst (v := 2) hx hb dM_afterOne_8 (by decide) ?_
    obtain ⟨c_32, h⟩ := rz_chk h
    obtain ⟨q_36, M_34, h_35, h⟩ := rz_c h
    refine rc_V (rest := []) (As := [.int 2, .int 2]) hx hb (hl.1.trans hml.symm) hown hK hR hRm mfM_settle kl_M_114 hk_M rfl rfl c_32 (by simp [cat_rf, Value.category]) (hC 84 _ _ _ _ h_35) dM_afterOne_9 (fun v1 H locs cells slots ev hR => ?_) (fun x1 q1 ce1 H locs cells slots ex hR g1 g2 g3 => ?_)
    · rcases h with ⟨v_33, ev2, h⟩ | ⟨e2, ee2, -⟩
      · cases ev.symm.trans ev2
        replace h := rz_v h
        obtain ⟨rfl, h⟩ := h
        dsimp only [Option.toList, List.cons_append, List.nil_append]
        refine lv_aload_n hx hb dM_afterOne_12 rfl (lv_at hl 0 rfl) ?_
        refine lv_iconst (v := 2) hx hb dM_afterOne_13 (by decide) ?_
        obtain ⟨c_37, h⟩ := rz_chk h
        obtain ⟨q_41, M_39, h_40, h⟩ := rz_c h
        refine rc_V (rest := []) (As := [.int 2]) hx hb (hl.1.trans hml.symm) hown hK hR hRm mfM_push kl_M_78 hk_M rfl rfl c_37 (by simp [cat_rf, Value.category]) (hC 75 _ _ _ _ h_40) dM_afterOne_14 (fun v1 H locs cells slots ev hR => ?_) (fun x1 q1 ce1 H locs cells slots ex hR g1 g2 g3 => ?_)
        · rcases h with ⟨v_38, ev2, h⟩ | ⟨e2, ee2, -⟩
          · cases ev.symm.trans ev2
            replace h := rz_v h
            obtain ⟨rfl, h⟩ := h
            dsimp only [Option.toList, List.cons_append, List.nil_append]
            refine lv_iconst (v := 0) hx hb dM_afterOne_17 (by decide) ?_
            cases h
            exact rt_i hx hb hlk hrt (Or.inl rfl) rfl hR dM_afterOne_18
          · cases ev.symm.trans ee2
        · rcases h with ⟨v2, ev2, -⟩ | ⟨e2, ee2, h⟩
          · cases ex.symm.trans ev2
          · cases ex.symm.trans ee2
            cases h
            exact rt_x hlk hex hR g1 g2 g3
      · cases ev.symm.trans ee2
    · rcases h with ⟨v2, ev2, -⟩ | ⟨e2, ee2, h⟩
      · cases ex.symm.trans ev2
      · cases ex.symm.trans ee2
        cases h
        exact rt_x hlk hex hR g1 g2 g3
set_option maxRecDepth 100000 in
set_option maxHeartbeats 4000000 in
theorem sM_afterOne {l : Launch} {G : Gx} {n d : Nat} {C : Cx} (hC : CBs l G d C) (a0 : Nat) (x1 : Int32) {M M' : Mem} {r : Option Value ⊕ Nat} (h : fM_afterOne_0 n d C a0 x1 M = some (r, M')) : CB l G (d + 1) yM_afterOne [.ref a0, .int x1] M r M' := by
  intro p e R s m below meth c hx hn hm hc hlk hK hR hcap hS hU hfr hlo hrc hrs
  obtain ⟨hb, hml, hrt, hex, hown⟩ := fx_of hn hm hc (hK.w mfM_afterOne.2.2.1 rfl #[])
  have F : FX p s m meth c G R M d "HeadCountModel" bM_afterOne 2 (some .int) := ⟨hx, hb, hml, hown, hrt, hlk, hex, hK, hfr, hlo, by rw [← hcap]; exact hrc, hrs⟩
  rw [hml]
  have hl := lv_entry ([.ref a0, .int x1]) (n := 2) (by simp [lg_sl, cat_rf, Value.category])
  rw [lg_entry_eq]
  generalize (lg_sl ([.ref a0, .int x1]) ++ List.replicate (2 - (lg_sl ([.ref a0, .int x1])).length) Slot.unset).toArray = ls at hl ⊢
  have hl : lv_has ls 2 [(0, .ref a0), (1, .int x1)] := by simpa [lv_args, cat_rf, Value.category] using hl
  exact tM_afterOne_0 F hC a0 x1 _ _ _ _ _ _ h (RL.start hR hcap hS hU) (lv_sub hl [0, 1] rfl)
def fM_wholeOne_73 (n d : Nat) (C : Cx) (k0 : Nat → Mem → Rz) (a0 : Nat) (M : Mem) : Rz := if mK M a0 = 5 then (rzC (C 86 [.ref a0] M) fun v_2 M_3 => (rzV v_2 (k0 a0 M_3))) else none
set_option maxRecDepth 100000 in
set_option maxHeartbeats 4000000 in
theorem tM_wholeOne_73 {n : Nat} {k0 : Nat → Mem → Rz} (F : FX p s m meth c G R M0 d "HeadCountModel" bM_wholeOne 2 (some .int)) (hC : CBs l G d C) (hk0 : ∀ (a0 : Nat) (M : Mem) (H : Heap) (locs : List Loc) (cells slots : Nat) (ls : Array Slot), k0 a0 M = some (r, M') → RL G M0 M H locs cells slots → lv_has ls 2 [(0, .ref a0)] → W p l e R s m args below meth c H locs cells slots (CQ G below s M0 r M') (F0 m 0 ls [])) : ∀ (a0 : Nat) (M : Mem) (H : Heap) (locs : List Loc) (cells slots : Nat) (ls : Array Slot), fM_wholeOne_73 n d C k0 a0 M = some (r, M') → RL G M0 M H locs cells slots → lv_has ls 2 [(0, .ref a0)] → W p l e R s m args below meth c H locs cells slots (CQ G below s M0 r M') (F0 m 73 ls []) := by
  obtain ⟨hx, hb, hml, hown, hrt, hlk, hex, hK, hRm⟩ := id F
  intro a0 M H locs cells slots ls h hR hl
  unfold fM_wholeOne_73 at h
  refine lv_aload_n hx hb dM_wholeOne_73 rfl (lv_at hl 0 rfl) ?_
  obtain ⟨c_1, h⟩ := rz_chk h
  obtain ⟨q_5, M_3, h_4, h⟩ := rz_c h
  refine rc_V (rest := []) (As := []) hx hb (hl.1.trans hml.symm) hown hK hR hRm mfM_close kl_M_111 hk_M rfl rfl c_1 (by simp [cat_rf, Value.category]) (hC 86 _ _ _ _ h_4) dM_wholeOne_74 (fun v1 H locs cells slots ev hR => ?_) (fun x1 q1 ce1 H locs cells slots ex hR g1 g2 g3 => ?_)
  · rcases h with ⟨v_2, ev2, h⟩ | ⟨e2, ee2, -⟩
    · cases ev.symm.trans ev2
      replace h := rz_v h
      obtain ⟨rfl, h⟩ := h
      dsimp only [Option.toList, List.cons_append, List.nil_append]
      refine lv_goto (tgt := 0) hx hb dM_wholeOne_77 (by decide) ?_
      exact hk0 a0 _ _ _ _ _ _ h hR (lv_sub hl [0] rfl)
    · cases ev.symm.trans ee2
  · rcases h with ⟨v2, ev2, -⟩ | ⟨e2, ee2, h⟩
    · cases ex.symm.trans ev2
    · cases ex.symm.trans ee2
      cases h
      exact rt_x hlk hex hR g1 g2 g3
def fM_wholeOne_16 (n d : Nat) (C : Cx) (k0 : Nat → Mem → Rz) (a0 : Nat) (M : Mem) : Rz := if mK M a0 = 5 then (rzD (mP M a0 21) fun a_2 => (if mK M a_2 = 21 then (if inA ((mI M a0 19) - 1) (mL M a_2) then (rzC (C 85 [.ref a0] M) fun v_6 M_7 => (rzI v_6 fun x_10 => (if x_10 = 3 then (if mK M_7 a0 = 5 then (rzC (C 81 [.ref a0, .int 3, .int 0] M_7) fun v_36 M_37 => (rzV v_36 (fM_wholeOne_73 n d C k0 a0 M_37))) else none) else (if mK M_7 a0 = 5 then (rzD (mP M_7 a0 23) fun a_13 => (if mK M_7 a_13 = 21 then (if inA (mI M a_2 ((mI M a0 19) - 1).toNatClampNeg) (mL M_7 a_13) then (rzC (C 81 [.ref a0, .int 5, .int (mI M_7 a_13 (mI M a_2 ((mI M a0 19) - 1).toNatClampNeg).toNatClampNeg)] M_7) fun v_17 M_18 => (rzV v_17 (if mK M_18 a0 = 5 then (rzD (mP M_18 a0 22) fun a_22 => (if mK M_18 a_22 = 21 then (if inA ((mI M_18 a0 19) - 1) (mL M_18 a_22) then (rzD (mP M_18 a0 23) fun a_26 => (if mK M_18 a_26 = 21 then (if inA (mI M a_2 ((mI M a0 19) - 1).toNatClampNeg) (mL M_18 a_26) then (rzM (setI M_18 a_26 (mI M a_2 ((mI M a0 19) - 1).toNatClampNeg).toNatClampNeg (mI M_18 a_22 ((mI M_18 a0 19) - 1).toNatClampNeg)) fun M_30 => (fM_wholeOne_73 n d C k0 a0 M_30)) else none) else none)) else none) else none)) else none))) else none) else none)) else none)))) else none) else none)) else none
set_option maxRecDepth 100000 in
set_option maxHeartbeats 4000000 in
theorem tM_wholeOne_16 {n : Nat} {k0 : Nat → Mem → Rz} (F : FX p s m meth c G R M0 d "HeadCountModel" bM_wholeOne 2 (some .int)) (hC : CBs l G d C) (hk0 : ∀ (a0 : Nat) (M : Mem) (H : Heap) (locs : List Loc) (cells slots : Nat) (ls : Array Slot), k0 a0 M = some (r, M') → RL G M0 M H locs cells slots → lv_has ls 2 [(0, .ref a0)] → W p l e R s m args below meth c H locs cells slots (CQ G below s M0 r M') (F0 m 0 ls [])) : ∀ (a0 : Nat) (M : Mem) (H : Heap) (locs : List Loc) (cells slots : Nat) (ls : Array Slot), fM_wholeOne_16 n d C k0 a0 M = some (r, M') → RL G M0 M H locs cells slots → lv_has ls 2 [(0, .ref a0)] → W p l e R s m args below meth c H locs cells slots (CQ G below s M0 r M') (F0 m 16 ls []) := by
  obtain ⟨hx, hb, hml, hown, hrt, hlk, hex, hK, hRm⟩ := id F
  intro a0 M H locs cells slots ls h hR hl
  unfold fM_wholeOne_16 at h
  refine lv_aload_n hx hb dM_wholeOne_16 rfl (lv_at hl 0 rfl) ?_
  obtain ⟨c_1, h⟩ := rz_chk h
  refine rg_getP hx hb hown hK hR hk_M 21 (by decide) kf_M_42 rfl c_1 dM_wholeOne_17 ?_
  refine lv_aload_n hx hb dM_wholeOne_20 rfl (lv_at hl 0 rfl) ?_
  refine rg_getI hx hb hown hK hR hk_M 19 (by decide) kf_M_72 rfl c_1 dM_wholeOne_21 ?_
  refine lv_iconst (v := 1) hx hb dM_wholeOne_24 (by decide) ?_
  refine lv_isub hx hb dM_wholeOne_25 ?_
  obtain ⟨a_2, e_3, h⟩ := rz_d h
  rw [e_3]
  obtain ⟨c_4, h⟩ := rz_chk h
  obtain ⟨c_5, h⟩ := rz_chk h
  refine rg_iald hx hb hK hR c_4 c_5 dM_wholeOne_26 ?_
  refine lv_istore_n (lv' := [(1, .int (mI M a_2 ((mI M a0 19) - 1).toNatClampNeg)), (0, .ref a0)]) hx hb dM_wholeOne_27 rfl hl (by decide) rfl (fun ls hl => ?_)
  refine lv_aload_n hx hb dM_wholeOne_28 rfl (lv_at hl 1 rfl) ?_
  obtain ⟨q_9, M_7, h_8, h⟩ := rz_c h
  refine rc_V (rest := []) (As := []) hx hb (hl.1.trans hml.symm) hown hK hR hRm mfM_upper kl_M_82 hk_M rfl rfl c_1 (by simp [cat_rf, Value.category]) (hC 85 _ _ _ _ h_8) dM_wholeOne_29 (fun v1 H locs cells slots ev hR => ?_) (fun x1 q1 ce1 H locs cells slots ex hR g1 g2 g3 => ?_)
  · rcases h with ⟨v_6, ev2, h⟩ | ⟨e2, ee2, -⟩
    · cases ev.symm.trans ev2
      replace h := rz_i h
      obtain ⟨x_10, rfl, h⟩ := h
      dsimp only [Option.toList, List.cons_append, List.nil_append]
      refine lv_iconst (v := 3) hx hb dM_wholeOne_32 (by decide) ?_
      refine lv_icmp_ne (tgt := 45) hx hb dM_wholeOne_33 (by decide) (fun c_11 => ?_) (fun c_11 => ?_)
      · replace h := rz_f c_11 h
        refine lv_aload_n hx hb dM_wholeOne_45 rfl (lv_at hl 1 rfl) ?_
        refine lv_iconst (v := 5) hx hb dM_wholeOne_46 (by decide) ?_
        refine lv_aload_n hx hb dM_wholeOne_47 rfl (lv_at hl 1 rfl) ?_
        obtain ⟨c_12, h⟩ := rz_chk h
        refine rg_getP hx hb hown hK hR hk_M 23 (by decide) kf_M_48 rfl c_12 dM_wholeOne_48 ?_
        refine lv_iload_n hx hb dM_wholeOne_51 rfl (lv_at hl 0 rfl) ?_
        obtain ⟨a_13, e_14, h⟩ := rz_d h
        rw [e_14]
        obtain ⟨c_15, h⟩ := rz_chk h
        obtain ⟨c_16, h⟩ := rz_chk h
        refine rg_iald hx hb hK hR c_15 c_16 dM_wholeOne_52 ?_
        obtain ⟨q_20, M_18, h_19, h⟩ := rz_c h
        refine rc_V (rest := []) (As := [.int 5, .int (mI M_7 a_13 (mI M a_2 ((mI M a0 19) - 1).toNatClampNeg).toNatClampNeg)]) hx hb (hl.1.trans hml.symm) hown hK hR hRm mfM_emit kl_M_86 hk_M rfl rfl c_12 (by simp [cat_rf, Value.category]) (hC 81 _ _ _ _ h_19) dM_wholeOne_53 (fun v1 H locs cells slots ev hR => ?_) (fun x1 q1 ce1 H locs cells slots ex hR g1 g2 g3 => ?_)
        · rcases h with ⟨v_17, ev2, h⟩ | ⟨e2, ee2, -⟩
          · cases ev.symm.trans ev2
            replace h := rz_v h
            obtain ⟨rfl, h⟩ := h
            dsimp only [Option.toList, List.cons_append, List.nil_append]
            refine lv_aload_n hx hb dM_wholeOne_56 rfl (lv_at hl 1 rfl) ?_
            obtain ⟨c_21, h⟩ := rz_chk h
            refine rg_getP hx hb hown hK hR hk_M 23 (by decide) kf_M_48 rfl c_21 dM_wholeOne_57 ?_
            refine lv_iload_n hx hb dM_wholeOne_60 rfl (lv_at hl 0 rfl) ?_
            refine lv_aload_n hx hb dM_wholeOne_61 rfl (lv_at hl 1 rfl) ?_
            refine rg_getP hx hb hown hK hR hk_M 22 (by decide) kf_M_45 rfl c_21 dM_wholeOne_62 ?_
            refine lv_aload_n hx hb dM_wholeOne_65 rfl (lv_at hl 1 rfl) ?_
            refine rg_getI hx hb hown hK hR hk_M 19 (by decide) kf_M_72 rfl c_21 dM_wholeOne_66 ?_
            refine lv_iconst (v := 1) hx hb dM_wholeOne_69 (by decide) ?_
            refine lv_isub hx hb dM_wholeOne_70 ?_
            obtain ⟨a_22, e_23, h⟩ := rz_d h
            rw [e_23]
            obtain ⟨c_24, h⟩ := rz_chk h
            obtain ⟨c_25, h⟩ := rz_chk h
            refine rg_iald hx hb hK hR c_24 c_25 dM_wholeOne_71 ?_
            obtain ⟨a_26, e_27, h⟩ := rz_d h
            rw [e_27]
            obtain ⟨c_28, h⟩ := rz_chk h
            obtain ⟨c_29, h⟩ := rz_chk h
            obtain ⟨M_30, q_31, h⟩ := rz_m h
            refine rg_iast hx hb hK hR c_28 c_29 dM_wholeOne_72 (fun H locs hR => ?_)
            rw [← q_31] at hR
            have c_32 : mK M_30 a0 = 5 := by rw [q_31]; exact c_21
            have c_33 : mK M_30 a_22 = 21 := by rw [q_31]; exact c_24
            have c_34 : mK M_30 a_26 = 21 := by rw [q_31]; exact c_28
            exact tM_wholeOne_73 F hC hk0 a0 _ _ _ _ _ _ h hR (lv_sub hl [1] rfl)
          · cases ev.symm.trans ee2
        · rcases h with ⟨v2, ev2, -⟩ | ⟨e2, ee2, h⟩
          · cases ex.symm.trans ev2
          · cases ex.symm.trans ee2
            cases h
            exact rt_x hlk hex hR g1 g2 g3
      · replace h := rz_t c_11 h
        refine lv_aload_n hx hb dM_wholeOne_36 rfl (lv_at hl 1 rfl) ?_
        refine lv_iconst (v := 3) hx hb dM_wholeOne_37 (by decide) ?_
        refine lv_iconst (v := 0) hx hb dM_wholeOne_38 (by decide) ?_
        obtain ⟨c_35, h⟩ := rz_chk h
        obtain ⟨q_39, M_37, h_38, h⟩ := rz_c h
        refine rc_V (rest := []) (As := [.int 3, .int 0]) hx hb (hl.1.trans hml.symm) hown hK hR hRm mfM_emit kl_M_86 hk_M rfl rfl c_35 (by simp [cat_rf, Value.category]) (hC 81 _ _ _ _ h_38) dM_wholeOne_39 (fun v1 H locs cells slots ev hR => ?_) (fun x1 q1 ce1 H locs cells slots ex hR g1 g2 g3 => ?_)
        · rcases h with ⟨v_36, ev2, h⟩ | ⟨e2, ee2, -⟩
          · cases ev.symm.trans ev2
            replace h := rz_v h
            obtain ⟨rfl, h⟩ := h
            dsimp only [Option.toList, List.cons_append, List.nil_append]
            refine lv_goto (tgt := 73) hx hb dM_wholeOne_42 (by decide) ?_
            exact tM_wholeOne_73 F hC hk0 a0 _ _ _ _ _ _ h hR (lv_sub hl [1] rfl)
          · cases ev.symm.trans ee2
        · rcases h with ⟨v2, ev2, -⟩ | ⟨e2, ee2, h⟩
          · cases ex.symm.trans ev2
          · cases ex.symm.trans ee2
            cases h
            exact rt_x hlk hex hR g1 g2 g3
    · cases ev.symm.trans ee2
  · rcases h with ⟨v2, ev2, -⟩ | ⟨e2, ee2, h⟩
    · cases ex.symm.trans ev2
    · cases ex.symm.trans ee2
      cases h
      exact rt_x hlk hex hR g1 g2 g3
def fM_wholeOne_0 (n d : Nat) (C : Cx) : Nat → Nat → Mem → Rz
  | 0, _, _ => none
  | w + 1, a0, M => if mK M a0 = 5 then (rzC (C 85 [.ref a0] M) fun v_2 M_3 => (rzI v_2 fun x_6 => (if x_6 = 3 then (fM_wholeOne_16 n d C (fM_wholeOne_0 n d C w) a0 M_3) else (if mK M_3 a0 = 5 then (rzC (C 85 [.ref a0] M_3) fun v_9 M_10 => (rzI v_9 fun x_13 => (if x_13 = 5 then (fM_wholeOne_16 n d C (fM_wholeOne_0 n d C w) a0 M_10) else (some (.inl (some (.int 1)), M_10))))) else none)))) else none
set_option maxRecDepth 100000 in
set_option maxHeartbeats 4000000 in
theorem tM_wholeOne_0 {n : Nat} (F : FX p s m meth c G R M0 d "HeadCountModel" bM_wholeOne 2 (some .int)) (hC : CBs l G d C) : ∀ (w : Nat) (a0 : Nat) (M : Mem) (H : Heap) (locs : List Loc) (cells slots : Nat) (ls : Array Slot), fM_wholeOne_0 n d C w a0 M = some (r, M') → RL G M0 M H locs cells slots → lv_has ls 2 [(0, .ref a0)] → W p l e R s m args below meth c H locs cells slots (CQ G below s M0 r M') (F0 m 0 ls []) := by
  obtain ⟨hx, hb, hml, hown, hrt, hlk, hex, hK, hRm⟩ := id F
  intro w
  induction w with
  | zero => intro a0 M H locs cells slots ls h; cases h
  | succ w ih =>
    intro a0 M H locs cells slots ls h hR hl
    rw [fM_wholeOne_0] at h
    refine lv_aload_n hx hb dM_wholeOne_0 rfl (lv_at hl 0 rfl) ?_
    obtain ⟨c_1, h⟩ := rz_chk h
    obtain ⟨q_5, M_3, h_4, h⟩ := rz_c h
    refine rc_V (rest := []) (As := []) hx hb (hl.1.trans hml.symm) hown hK hR hRm mfM_upper kl_M_82 hk_M rfl rfl c_1 (by simp [cat_rf, Value.category]) (hC 85 _ _ _ _ h_4) dM_wholeOne_1 (fun v1 H locs cells slots ev hR => ?_) (fun x1 q1 ce1 H locs cells slots ex hR g1 g2 g3 => ?_)
    · rcases h with ⟨v_2, ev2, h⟩ | ⟨e2, ee2, -⟩
      · cases ev.symm.trans ev2
        replace h := rz_i h
        obtain ⟨x_6, rfl, h⟩ := h
        dsimp only [Option.toList, List.cons_append, List.nil_append]
        refine lv_iconst (v := 3) hx hb dM_wholeOne_4 (by decide) ?_
        refine lv_icmp_eq (tgt := 16) hx hb dM_wholeOne_5 (by decide) (fun c_7 => ?_) (fun c_7 => ?_)
        · replace h := rz_t c_7 h
          exact tM_wholeOne_16 F hC ih a0 _ _ _ _ _ _ h hR (lv_sub hl [0] rfl)
        · replace h := rz_f c_7 h
          refine lv_aload_n hx hb dM_wholeOne_8 rfl (lv_at hl 0 rfl) ?_
          obtain ⟨c_8, h⟩ := rz_chk h
          obtain ⟨q_12, M_10, h_11, h⟩ := rz_c h
          refine rc_V (rest := []) (As := []) hx hb (hl.1.trans hml.symm) hown hK hR hRm mfM_upper kl_M_82 hk_M rfl rfl c_8 (by simp [cat_rf, Value.category]) (hC 85 _ _ _ _ h_11) dM_wholeOne_9 (fun v1 H locs cells slots ev hR => ?_) (fun x1 q1 ce1 H locs cells slots ex hR g1 g2 g3 => ?_)
          · rcases h with ⟨v_9, ev2, h⟩ | ⟨e2, ee2, -⟩
            · cases ev.symm.trans ev2
              replace h := rz_i h
              obtain ⟨x_13, rfl, h⟩ := h
              dsimp only [Option.toList, List.cons_append, List.nil_append]
              refine lv_iconst (v := 5) hx hb dM_wholeOne_12 (by decide) ?_
              refine lv_icmp_ne (tgt := 80) hx hb dM_wholeOne_13 (by decide) (fun c_14 => ?_) (fun c_14 => ?_)
              · replace h := rz_f c_14 h
                refine lv_iconst (v := 1) hx hb dM_wholeOne_80 (by decide) ?_
                cases h
                exact rt_i hx hb hlk hrt (Or.inl rfl) rfl hR dM_wholeOne_81
              · replace h := rz_t c_14 h
                exact tM_wholeOne_16 F hC ih a0 _ _ _ _ _ _ h hR (lv_sub hl [0] rfl)
            · cases ev.symm.trans ee2
          · rcases h with ⟨v2, ev2, -⟩ | ⟨e2, ee2, h⟩
            · cases ex.symm.trans ev2
            · cases ex.symm.trans ee2
              cases h
              exact rt_x hlk hex hR g1 g2 g3
      · cases ev.symm.trans ee2
    · rcases h with ⟨v2, ev2, -⟩ | ⟨e2, ee2, h⟩
      · cases ex.symm.trans ev2
      · cases ex.symm.trans ee2
        cases h
        exact rt_x hlk hex hR g1 g2 g3
set_option maxRecDepth 100000 in
set_option maxHeartbeats 4000000 in
theorem sM_wholeOne {l : Launch} {G : Gx} {n d : Nat} {C : Cx} (hC : CBs l G d C) (a0 : Nat) {M M' : Mem} {r : Option Value ⊕ Nat} (h : fM_wholeOne_0 n d C n a0 M = some (r, M')) : CB l G (d + 1) yM_wholeOne [.ref a0] M r M' := by
  intro p e R s m below meth c hx hn hm hc hlk hK hR hcap hS hU hfr hlo hrc hrs
  obtain ⟨hb, hml, hrt, hex, hown⟩ := fx_of hn hm hc (hK.w mfM_wholeOne.2.2.1 rfl #[])
  have F : FX p s m meth c G R M d "HeadCountModel" bM_wholeOne 2 (some .int) := ⟨hx, hb, hml, hown, hrt, hlk, hex, hK, hfr, hlo, by rw [← hcap]; exact hrc, hrs⟩
  rw [hml]
  have hl := lv_entry ([.ref a0]) (n := 2) (by simp [lg_sl, cat_rf, Value.category])
  rw [lg_entry_eq]
  generalize (lg_sl ([.ref a0]) ++ List.replicate (2 - (lg_sl ([.ref a0])).length) Slot.unset).toArray = ls at hl ⊢
  have hl : lv_has ls 2 [(0, .ref a0)] := by simpa [lv_args, cat_rf, Value.category] using hl
  exact tM_wholeOne_0 F hC n a0 _ _ _ _ _ _ h (RL.start hR hcap hS hU) (lv_sub hl [0] rfl)
def fM_bound_43 (n d : Nat) (C : Cx) (a0 : Nat) (x2 : Int32) (xs0 : Int32) (xs1 : Int32) (rs2 : Option Nat) (M : Mem) : Rz := rzD rs2 fun a_1 => (if mK M a_1 = 23 then (if inA xs1 (mL M a_1) then (if fits .boolean (.int xs0) = true then (rzM (setI M a_1 xs1.toNatClampNeg xs0) fun M_6 => (if mK M_6 a0 = 5 then (rzC (C 81 [.ref a0, .int 12, .int (mI M_6 a0 13)] M_6) fun v_10 M_11 => (rzV v_10 (if mK M_11 a0 = 5 then (rzC (C 74 [.ref a0, .int 5] M_11) fun v_15 M_16 => (rzI v_15 fun x_19 => (if mK M_16 a0 = 5 then (rzD (mP M_16 a0 21) fun a_21 => (if mK M_16 a_21 = 21 then (if inA ((mI M_16 a0 19) - 1) (mL M_16 a_21) then (rzM (setI M_16 a_21 ((mI M_16 a0 19) - 1).toNatClampNeg x2) fun M_25 => (rzD (mP M_25 a0 23) fun a_29 => (if mK M_25 a_29 = 21 then (if inA x2 (mL M_25 a_29) then (rzD (mP M_25 a0 22) fun a_33 => (if mK M_25 a_33 = 21 then (if inA ((mI M_25 a0 19) - 1) (mL M_25 a_33) then (rzM (setI M_25 a_33 ((mI M_25 a0 19) - 1).toNatClampNeg (mI M_25 a_29 x2.toNatClampNeg)) fun M_37 => (rzD (mP M_37 a0 23) fun a_43 => (if mK M_37 a_43 = 21 then (if inA x2 (mL M_37 a_43) then (rzM (setI M_37 a_43 x2.toNatClampNeg (mI M_37 a0 13)) fun M_47 => (rzM (setI M_47 a0 13 ((mI M_47 a0 13) + 1)) fun M_54 => (some (.inl (some (.int 0)), M_54)))) else none) else none))) else none) else none)) else none) else none))) else none) else none)) else none))) else none))) else none)) else none) else none) else none)
set_option maxRecDepth 100000 in
set_option maxHeartbeats 4000000 in
theorem tM_bound_43 {n : Nat} (F : FX p s m meth c G R M0 d "HeadCountModel" bM_bound 3 (some .int)) (hC : CBs l G d C) : ∀ (a0 : Nat) (x2 : Int32) (xs0 : Int32) (xs1 : Int32) (rs2 : Option Nat) (M : Mem) (H : Heap) (locs : List Loc) (cells slots : Nat) (ls : Array Slot), fM_bound_43 n d C a0 x2 xs0 xs1 rs2 M = some (r, M') → RL G M0 M H locs cells slots → lv_has ls 3 [(0, .ref a0), (2, .int x2)] → W p l e R s m args below meth c H locs cells slots (CQ G below s M0 r M') (F0 m 43 ls [.int xs0, .int xs1, va_rf rs2]) := by
  obtain ⟨hx, hb, hml, hown, hrt, hlk, hex, hK, hRm⟩ := id F
  intro a0 x2 xs0 xs1 rs2 M H locs cells slots ls h hR hl
  unfold fM_bound_43 at h
  obtain ⟨a_1, e_2, h⟩ := rz_d h
  rw [e_2]
  obtain ⟨c_3, h⟩ := rz_chk h
  obtain ⟨c_4, h⟩ := rz_chk h
  obtain ⟨c_5, h⟩ := rz_chk h
  obtain ⟨M_6, q_7, h⟩ := rz_m h
  refine rg_zast hx hb hK hR c_3 c_4 c_5 dM_bound_43 (fun H locs hR => ?_)
  rw [← q_7] at hR
  have c_8 : mK M_6 a_1 = 23 := by rw [q_7]; exact c_3
  refine lv_aload_n hx hb dM_bound_44 rfl (lv_at hl 0 rfl) ?_
  refine lv_bipush (v := 12) hx hb dM_bound_45 (by decide) ?_
  refine lv_aload_n hx hb dM_bound_47 rfl (lv_at hl 0 rfl) ?_
  obtain ⟨c_9, h⟩ := rz_chk h
  refine rg_getI hx hb hown hK hR hk_M 13 (by decide) kf_M_98 rfl c_9 dM_bound_48 ?_
  obtain ⟨q_13, M_11, h_12, h⟩ := rz_c h
  refine rc_V (rest := []) (As := [.int 12, .int (mI M_6 a0 13)]) hx hb (hl.1.trans hml.symm) hown hK hR hRm mfM_emit kl_M_86 hk_M rfl rfl c_9 (by simp [cat_rf, Value.category]) (hC 81 _ _ _ _ h_12) dM_bound_51 (fun v1 H locs cells slots ev hR => ?_) (fun x1 q1 ce1 H locs cells slots ex hR g1 g2 g3 => ?_)
  · rcases h with ⟨v_10, ev2, h⟩ | ⟨e2, ee2, -⟩
    · cases ev.symm.trans ev2
      replace h := rz_v h
      obtain ⟨rfl, h⟩ := h
      dsimp only [Option.toList, List.cons_append, List.nil_append]
      refine lv_aload_n hx hb dM_bound_54 rfl (lv_at hl 0 rfl) ?_
      refine lv_iconst (v := 5) hx hb dM_bound_55 (by decide) ?_
      obtain ⟨c_14, h⟩ := rz_chk h
      obtain ⟨q_18, M_16, h_17, h⟩ := rz_c h
      refine rc_V (rest := []) (As := [.int 5]) hx hb (hl.1.trans hml.symm) hown hK hR hRm mfM_deeper kl_M_90 hk_M rfl rfl c_14 (by simp [cat_rf, Value.category]) (hC 74 _ _ _ _ h_17) dM_bound_56 (fun v1 H locs cells slots ev hR => ?_) (fun x1 q1 ce1 H locs cells slots ex hR g1 g2 g3 => ?_)
      · rcases h with ⟨v_15, ev2, h⟩ | ⟨e2, ee2, -⟩
        · cases ev.symm.trans ev2
          replace h := rz_i h
          obtain ⟨x_19, rfl, h⟩ := h
          dsimp only [Option.toList, List.cons_append, List.nil_append]
          refine lv_pop hx hb dM_bound_59 rfl ?_
          refine lv_aload_n hx hb dM_bound_60 rfl (lv_at hl 0 rfl) ?_
          obtain ⟨c_20, h⟩ := rz_chk h
          refine rg_getP hx hb hown hK hR hk_M 21 (by decide) kf_M_42 rfl c_20 dM_bound_61 ?_
          refine lv_aload_n hx hb dM_bound_64 rfl (lv_at hl 0 rfl) ?_
          refine rg_getI hx hb hown hK hR hk_M 19 (by decide) kf_M_72 rfl c_20 dM_bound_65 ?_
          refine lv_iconst (v := 1) hx hb dM_bound_68 (by decide) ?_
          refine lv_isub hx hb dM_bound_69 ?_
          refine lv_iload_n hx hb dM_bound_70 rfl (lv_at hl 1 rfl) ?_
          obtain ⟨a_21, e_22, h⟩ := rz_d h
          rw [e_22]
          obtain ⟨c_23, h⟩ := rz_chk h
          obtain ⟨c_24, h⟩ := rz_chk h
          obtain ⟨M_25, q_26, h⟩ := rz_m h
          refine rg_iast hx hb hK hR c_23 c_24 dM_bound_71 (fun H locs hR => ?_)
          rw [← q_26] at hR
          have c_27 : mK M_25 a0 = 5 := by rw [q_26]; exact c_20
          have c_28 : mK M_25 a_21 = 21 := by rw [q_26]; exact c_23
          refine lv_aload_n hx hb dM_bound_72 rfl (lv_at hl 0 rfl) ?_
          refine rg_getP hx hb hown hK hR hk_M 22 (by decide) kf_M_45 rfl c_27 dM_bound_73 ?_
          refine lv_aload_n hx hb dM_bound_76 rfl (lv_at hl 0 rfl) ?_
          refine rg_getI hx hb hown hK hR hk_M 19 (by decide) kf_M_72 rfl c_27 dM_bound_77 ?_
          refine lv_iconst (v := 1) hx hb dM_bound_80 (by decide) ?_
          refine lv_isub hx hb dM_bound_81 ?_
          refine lv_aload_n hx hb dM_bound_82 rfl (lv_at hl 0 rfl) ?_
          refine rg_getP hx hb hown hK hR hk_M 23 (by decide) kf_M_48 rfl c_27 dM_bound_83 ?_
          refine lv_iload_n hx hb dM_bound_86 rfl (lv_at hl 1 rfl) ?_
          obtain ⟨a_29, e_30, h⟩ := rz_d h
          rw [e_30]
          obtain ⟨c_31, h⟩ := rz_chk h
          obtain ⟨c_32, h⟩ := rz_chk h
          refine rg_iald hx hb hK hR c_31 c_32 dM_bound_87 ?_
          obtain ⟨a_33, e_34, h⟩ := rz_d h
          rw [e_34]
          obtain ⟨c_35, h⟩ := rz_chk h
          obtain ⟨c_36, h⟩ := rz_chk h
          obtain ⟨M_37, q_38, h⟩ := rz_m h
          refine rg_iast hx hb hK hR c_35 c_36 dM_bound_88 (fun H locs hR => ?_)
          rw [← q_38] at hR
          have c_39 : mK M_37 a0 = 5 := by rw [q_38]; exact c_27
          have c_40 : mK M_37 a_21 = 21 := by rw [q_38]; exact c_28
          have c_41 : mK M_37 a_29 = 21 := by rw [q_38]; exact c_31
          have c_42 : mK M_37 a_33 = 21 := by rw [q_38]; exact c_35
          refine lv_aload_n hx hb dM_bound_89 rfl (lv_at hl 0 rfl) ?_
          refine rg_getP hx hb hown hK hR hk_M 23 (by decide) kf_M_48 rfl c_39 dM_bound_90 ?_
          refine lv_iload_n hx hb dM_bound_93 rfl (lv_at hl 1 rfl) ?_
          refine lv_aload_n hx hb dM_bound_94 rfl (lv_at hl 0 rfl) ?_
          refine rg_getI hx hb hown hK hR hk_M 13 (by decide) kf_M_98 rfl c_39 dM_bound_95 ?_
          obtain ⟨a_43, e_44, h⟩ := rz_d h
          rw [e_44]
          obtain ⟨c_45, h⟩ := rz_chk h
          obtain ⟨c_46, h⟩ := rz_chk h
          obtain ⟨M_47, q_48, h⟩ := rz_m h
          refine rg_iast hx hb hK hR c_45 c_46 dM_bound_98 (fun H locs hR => ?_)
          rw [← q_48] at hR
          have c_49 : mK M_47 a0 = 5 := by rw [q_48]; exact c_39
          have c_50 : mK M_47 a_21 = 21 := by rw [q_48]; exact c_40
          have c_51 : mK M_47 a_29 = 21 := by rw [q_48]; exact c_41
          have c_52 : mK M_47 a_33 = 21 := by rw [q_48]; exact c_42
          have c_53 : mK M_47 a_43 = 21 := by rw [q_48]; exact c_45
          refine lv_aload_n hx hb dM_bound_99 rfl (lv_at hl 0 rfl) ?_
          refine lv_dup hx hb dM_bound_100 rfl ?_
          refine rg_getI hx hb hown hK hR hk_M 13 (by decide) kf_M_98 rfl c_49 dM_bound_101 ?_
          refine lv_iconst (v := 1) hx hb dM_bound_104 (by decide) ?_
          refine lv_iadd hx hb dM_bound_105 ?_
          obtain ⟨M_54, q_55, h⟩ := rz_m h
          refine rg_putI hx hb hown hK hR hk_M 13 (by decide) kf_M_98 rfl rfl (ty := .int) (by decide +kernel) (Or.inl rfl) rfl c_49 dM_bound_106 (fun H locs hR => ?_)
          rw [← q_55] at hR
          have c_56 : mK M_54 a0 = 5 := by rw [q_55]; exact c_49
          have c_57 : mK M_54 a_21 = 21 := by rw [q_55]; exact c_50
          have c_58 : mK M_54 a_29 = 21 := by rw [q_55]; exact c_51
          have c_59 : mK M_54 a_33 = 21 := by rw [q_55]; exact c_52
          have c_60 : mK M_54 a_43 = 21 := by rw [q_55]; exact c_53
          refine lv_iconst (v := 0) hx hb dM_bound_109 (by decide) ?_
          cases h
          exact rt_i hx hb hlk hrt (Or.inl rfl) rfl hR dM_bound_110
        · cases ev.symm.trans ee2
      · rcases h with ⟨v2, ev2, -⟩ | ⟨e2, ee2, h⟩
        · cases ex.symm.trans ev2
        · cases ex.symm.trans ee2
          cases h
          exact rt_x hlk hex hR g1 g2 g3
    · cases ev.symm.trans ee2
  · rcases h with ⟨v2, ev2, -⟩ | ⟨e2, ee2, h⟩
    · cases ex.symm.trans ev2
    · cases ex.symm.trans ee2
      cases h
      exact rt_x hlk hex hR g1 g2 g3
def fM_bound_0 (n d : Nat) (C : Cx) (a0 : Nat) (x1 : Int32) (M : Mem) : Rz := rzC (C 80 [.int x1] M) fun v_1 M_2 => (rzI v_1 fun x_5 => (if 0 ≤ x_5 then (if mK M_2 a0 = 5 then (rzD (mP M_2 a0 16) fun a_8 => (if mK M_2 a_8 = 23 then (if inA (mI M_2 a0 13) (mL M_2 a_8) then (if fits .boolean (.int (mI M_2 a0 25)) = true then (rzM (setI M_2 a_8 (mI M_2 a0 13).toNatClampNeg (mI M_2 a0 25)) fun M_13 => (if x_5 ≤ 2 then (fM_bound_43 n d C a0 x_5 0 (mI M_13 a0 13) (mP M_13 a0 17) M_13) else (fM_bound_43 n d C a0 x_5 1 (mI M_13 a0 13) (mP M_13 a0 17) M_13))) else none) else none) else none)) else none) else (some (.inl (some (.int 10)), M_2))))
set_option maxRecDepth 100000 in
set_option maxHeartbeats 4000000 in
theorem tM_bound_0 {n : Nat} (F : FX p s m meth c G R M0 d "HeadCountModel" bM_bound 3 (some .int)) (hC : CBs l G d C) : ∀ (a0 : Nat) (x1 : Int32) (M : Mem) (H : Heap) (locs : List Loc) (cells slots : Nat) (ls : Array Slot), fM_bound_0 n d C a0 x1 M = some (r, M') → RL G M0 M H locs cells slots → lv_has ls 3 [(0, .ref a0), (1, .int x1)] → W p l e R s m args below meth c H locs cells slots (CQ G below s M0 r M') (F0 m 0 ls []) := by
  obtain ⟨hx, hb, hml, hown, hrt, hlk, hex, hK, hRm⟩ := id F
  intro a0 x1 M H locs cells slots ls h hR hl
  unfold fM_bound_0 at h
  refine lv_iload_n hx hb dM_bound_0 rfl (lv_at hl 1 rfl) ?_
  obtain ⟨q_4, M_2, h_3, h⟩ := rz_c h
  refine rc_S (rest := []) (As := [.int x1]) hx hb (hl.1.trans hml.symm) hown hK hR hRm mfM_variableOf kl_M_108 rfl (by simp [cat_rf, Value.category]) (hC 80 _ _ _ _ h_3) dM_bound_1 (fun v1 H locs cells slots ev hR => ?_) (fun x1 q1 ce1 H locs cells slots ex hR g1 g2 g3 => ?_)
  · rcases h with ⟨v_1, ev2, h⟩ | ⟨e2, ee2, -⟩
    · cases ev.symm.trans ev2
      replace h := rz_i h
      obtain ⟨x_5, rfl, h⟩ := h
      dsimp only [Option.toList, List.cons_append, List.nil_append]
      refine lv_istore_n (lv' := [(2, .int x_5), (0, .ref a0), (1, .int x1)]) hx hb dM_bound_4 rfl hl (by decide) rfl (fun ls hl => ?_)
      refine lv_iload_n hx hb dM_bound_5 rfl (lv_at hl 0 rfl) ?_
      refine lv_if_ge (tgt := 12) hx hb dM_bound_6 (by decide) (fun c_6 => ?_) (fun c_6 => ?_)
      · replace h := rz_t c_6 h
        refine lv_aload_n hx hb dM_bound_12 rfl (lv_at hl 1 rfl) ?_
        obtain ⟨c_7, h⟩ := rz_chk h
        refine rg_getP hx hb hown hK hR hk_M 16 (by decide) kf_M_33 rfl c_7 dM_bound_13 ?_
        refine lv_aload_n hx hb dM_bound_16 rfl (lv_at hl 1 rfl) ?_
        refine rg_getI hx hb hown hK hR hk_M 13 (by decide) kf_M_98 rfl c_7 dM_bound_17 ?_
        refine lv_aload_n hx hb dM_bound_20 rfl (lv_at hl 1 rfl) ?_
        refine rg_getI hx hb hown hK hR hk_M 25 (by decide) kf_M_94 rfl c_7 dM_bound_21 ?_
        obtain ⟨a_8, e_9, h⟩ := rz_d h
        rw [e_9]
        obtain ⟨c_10, h⟩ := rz_chk h
        obtain ⟨c_11, h⟩ := rz_chk h
        obtain ⟨c_12, h⟩ := rz_chk h
        obtain ⟨M_13, q_14, h⟩ := rz_m h
        refine rg_zast hx hb hK hR c_10 c_11 c_12 dM_bound_24 (fun H locs hR => ?_)
        rw [← q_14] at hR
        have c_15 : mK M_13 a0 = 5 := by rw [q_14]; exact c_7
        have c_16 : mK M_13 a_8 = 23 := by rw [q_14]; exact c_10
        refine lv_aload_n hx hb dM_bound_25 rfl (lv_at hl 1 rfl) ?_
        refine rg_getP hx hb hown hK hR hk_M 17 (by decide) kf_M_36 rfl c_15 dM_bound_26 ?_
        refine lv_aload_n hx hb dM_bound_29 rfl (lv_at hl 1 rfl) ?_
        refine rg_getI hx hb hown hK hR hk_M 13 (by decide) kf_M_98 rfl c_15 dM_bound_30 ?_
        refine lv_iload_n hx hb dM_bound_33 rfl (lv_at hl 0 rfl) ?_
        refine lv_iconst (v := 2) hx hb dM_bound_34 (by decide) ?_
        refine lv_icmp_le (tgt := 42) hx hb dM_bound_35 (by decide) (fun c_17 => ?_) (fun c_17 => ?_)
        · replace h := rz_t c_17 h
          refine lv_iconst (v := 0) hx hb dM_bound_42 (by decide) ?_
          exact tM_bound_43 F hC a0 x_5 0 (mI M_13 a0 13) (mP M_13 a0 17) _ _ _ _ _ _ h hR (lv_sub hl [1, 0] rfl)
        · replace h := rz_f c_17 h
          refine lv_iconst (v := 1) hx hb dM_bound_38 (by decide) ?_
          refine lv_goto (tgt := 43) hx hb dM_bound_39 (by decide) ?_
          exact tM_bound_43 F hC a0 x_5 1 (mI M_13 a0 13) (mP M_13 a0 17) _ _ _ _ _ _ h hR (lv_sub hl [1, 0] rfl)
      · replace h := rz_f c_6 h
        refine lv_bipush (v := 10) hx hb dM_bound_9 (by decide) ?_
        cases h
        exact rt_i hx hb hlk hrt (Or.inl rfl) rfl hR dM_bound_11
    · cases ev.symm.trans ee2
  · rcases h with ⟨v2, ev2, -⟩ | ⟨e2, ee2, h⟩
    · cases ex.symm.trans ev2
    · cases ex.symm.trans ee2
      cases h
      exact rt_x hlk hex hR g1 g2 g3
set_option maxRecDepth 100000 in
set_option maxHeartbeats 4000000 in
theorem sM_bound {l : Launch} {G : Gx} {n d : Nat} {C : Cx} (hC : CBs l G d C) (a0 : Nat) (x1 : Int32) {M M' : Mem} {r : Option Value ⊕ Nat} (h : fM_bound_0 n d C a0 x1 M = some (r, M')) : CB l G (d + 1) yM_bound [.ref a0, .int x1] M r M' := by
  intro p e R s m below meth c hx hn hm hc hlk hK hR hcap hS hU hfr hlo hrc hrs
  obtain ⟨hb, hml, hrt, hex, hown⟩ := fx_of hn hm hc (hK.w mfM_bound.2.2.1 rfl #[])
  have F : FX p s m meth c G R M d "HeadCountModel" bM_bound 3 (some .int) := ⟨hx, hb, hml, hown, hrt, hlk, hex, hK, hfr, hlo, by rw [← hcap]; exact hrc, hrs⟩
  rw [hml]
  have hl := lv_entry ([.ref a0, .int x1]) (n := 3) (by simp [lg_sl, cat_rf, Value.category])
  rw [lg_entry_eq]
  generalize (lg_sl ([.ref a0, .int x1]) ++ List.replicate (3 - (lg_sl ([.ref a0, .int x1])).length) Slot.unset).toArray = ls at hl ⊢
  have hl : lv_has ls 3 [(0, .ref a0), (1, .int x1)] := by simpa [lv_args, cat_rf, Value.category] using hl
  exact tM_bound_0 F hC a0 x1 _ _ _ _ _ _ h (RL.start hR hcap hS hU) (lv_sub hl [0, 1] rfl)
def fM_afterNumber_47 (n d : Nat) (C : Cx) (xs0 : Int32) (M : Mem) : Rz := some (.inl (some (.int xs0)), M)
set_option maxRecDepth 100000 in
set_option maxHeartbeats 4000000 in
theorem tM_afterNumber_47 {n : Nat} (F : FX p s m meth c G R M0 d "HeadCountModel" bM_afterNumber 2 (some .int)) (hC : CBs l G d C) : ∀ (xs0 : Int32) (M : Mem) (H : Heap) (locs : List Loc) (cells slots : Nat) (ls : Array Slot), fM_afterNumber_47 n d C xs0 M = some (r, M') → RL G M0 M H locs cells slots → lv_has ls 2 [] → W p l e R s m args below meth c H locs cells slots (CQ G below s M0 r M') (F0 m 47 ls [.int xs0]) := by
  obtain ⟨hx, hb, hml, hown, hrt, hlk, hex, hK, hRm⟩ := id F
  intro xs0 M H locs cells slots ls h hR hl
  unfold fM_afterNumber_47 at h
  cases h
  exact rt_i hx hb hlk hrt (Or.inl rfl) rfl hR dM_afterNumber_47
def fM_afterNumber_109 (n d : Nat) (C : Cx) (xs0 : Int32) (M : Mem) : Rz := some (.inl (some (.int xs0)), M)
set_option maxRecDepth 100000 in
set_option maxHeartbeats 4000000 in
theorem tM_afterNumber_109 {n : Nat} (F : FX p s m meth c G R M0 d "HeadCountModel" bM_afterNumber 2 (some .int)) (hC : CBs l G d C) : ∀ (xs0 : Int32) (M : Mem) (H : Heap) (locs : List Loc) (cells slots : Nat) (ls : Array Slot), fM_afterNumber_109 n d C xs0 M = some (r, M') → RL G M0 M H locs cells slots → lv_has ls 2 [] → W p l e R s m args below meth c H locs cells slots (CQ G below s M0 r M') (F0 m 109 ls [.int xs0]) := by
  obtain ⟨hx, hb, hml, hown, hrt, hlk, hex, hK, hRm⟩ := id F
  intro xs0 M H locs cells slots ls h hR hl
  unfold fM_afterNumber_109 at h
  cases h
  exact rt_i hx hb hlk hrt (Or.inl rfl) rfl hR dM_afterNumber_109
def fM_afterNumber_110 (n d : Nat) (C : Cx) (a0 : Nat) (x1 : Int32) (M : Mem) : Rz := if mK M a0 = 5 then (rzC (C 81 [.ref a0, .int 13, .int (mI M a0 26)] M) fun v_2 M_3 => (rzV v_2 (if mK M_3 a0 = 5 then (rzC (C 82 [.ref a0] M_3) fun v_7 M_8 => (rzV v_7 (if mK M_8 a0 = 5 then (rzC (C 90 [.ref a0, .int x1] M_8) fun v_12 M_13 => (rzI v_12 fun x_16 => (some (.inl (some (.int x_16)), M_13)))) else none))) else none))) else none
set_option maxRecDepth 100000 in
set_option maxHeartbeats 4000000 in
theorem tM_afterNumber_110 {n : Nat} (F : FX p s m meth c G R M0 d "HeadCountModel" bM_afterNumber 2 (some .int)) (hC : CBs l G d C) : ∀ (a0 : Nat) (x1 : Int32) (M : Mem) (H : Heap) (locs : List Loc) (cells slots : Nat) (ls : Array Slot), fM_afterNumber_110 n d C a0 x1 M = some (r, M') → RL G M0 M H locs cells slots → lv_has ls 2 [(0, .ref a0), (1, .int x1)] → W p l e R s m args below meth c H locs cells slots (CQ G below s M0 r M') (F0 m 110 ls []) := by
  obtain ⟨hx, hb, hml, hown, hrt, hlk, hex, hK, hRm⟩ := id F
  intro a0 x1 M H locs cells slots ls h hR hl
  unfold fM_afterNumber_110 at h
  refine lv_aload_n hx hb dM_afterNumber_110 rfl (lv_at hl 0 rfl) ?_
  refine lv_bipush (v := 13) hx hb dM_afterNumber_111 (by decide) ?_
  refine lv_aload_n hx hb dM_afterNumber_113 rfl (lv_at hl 0 rfl) ?_
  obtain ⟨c_1, h⟩ := rz_chk h
  refine rg_getI hx hb hown hK hR hk_M 26 (by decide) kf_M_139 rfl c_1 dM_afterNumber_114 ?_
  obtain ⟨q_5, M_3, h_4, h⟩ := rz_c h
  refine rc_V (rest := []) (As := [.int 13, .int (mI M a0 26)]) hx hb (hl.1.trans hml.symm) hown hK hR hRm mfM_emit kl_M_86 hk_M rfl rfl c_1 (by simp [cat_rf, Value.category]) (hC 81 _ _ _ _ h_4) dM_afterNumber_117 (fun v1 H locs cells slots ev hR => ?_) (fun x1 q1 ce1 H locs cells slots ex hR g1 g2 g3 => ?_)
  · rcases h with ⟨v_2, ev2, h⟩ | ⟨e2, ee2, -⟩
    · cases ev.symm.trans ev2
      replace h := rz_v h
      obtain ⟨rfl, h⟩ := h
      dsimp only [Option.toList, List.cons_append, List.nil_append]
      refine lv_aload_n hx hb dM_afterNumber_120 rfl (lv_at hl 0 rfl) ?_
      obtain ⟨c_6, h⟩ := rz_chk h
      obtain ⟨q_10, M_8, h_9, h⟩ := rz_c h
      refine rc_V (rest := []) (As := []) hx hb (hl.1.trans hml.symm) hown hK hR hRm mfM_wholePart kl_M_154 hk_M rfl rfl c_6 (by simp [cat_rf, Value.category]) (hC 82 _ _ _ _ h_9) dM_afterNumber_121 (fun v1 H locs cells slots ev hR => ?_) (fun x1 q1 ce1 H locs cells slots ex hR g1 g2 g3 => ?_)
      · rcases h with ⟨v_7, ev2, h⟩ | ⟨e2, ee2, -⟩
        · cases ev.symm.trans ev2
          replace h := rz_v h
          obtain ⟨rfl, h⟩ := h
          dsimp only [Option.toList, List.cons_append, List.nil_append]
          refine lv_aload_n hx hb dM_afterNumber_124 rfl (lv_at hl 0 rfl) ?_
          refine lv_iload_n hx hb dM_afterNumber_125 rfl (lv_at hl 1 rfl) ?_
          obtain ⟨c_11, h⟩ := rz_chk h
          obtain ⟨q_15, M_13, h_14, h⟩ := rz_c h
          refine rc_V (rest := []) (As := [.int x1]) hx hb (hl.1.trans hml.symm) hown hK hR hRm mfM_afterPart kl_M_157 hk_M rfl rfl c_11 (by simp [cat_rf, Value.category]) (hC 90 _ _ _ _ h_14) dM_afterNumber_126 (fun v1 H locs cells slots ev hR => ?_) (fun x1 q1 ce1 H locs cells slots ex hR g1 g2 g3 => ?_)
          · rcases h with ⟨v_12, ev2, h⟩ | ⟨e2, ee2, -⟩
            · cases ev.symm.trans ev2
              replace h := rz_i h
              obtain ⟨x_16, rfl, h⟩ := h
              dsimp only [Option.toList, List.cons_append, List.nil_append]
              cases h
              exact rt_i hx hb hlk hrt (Or.inl rfl) rfl hR dM_afterNumber_129
            · cases ev.symm.trans ee2
          · rcases h with ⟨v2, ev2, -⟩ | ⟨e2, ee2, h⟩
            · cases ex.symm.trans ev2
            · cases ex.symm.trans ee2
              cases h
              exact rt_x hlk hex hR g1 g2 g3
        · cases ev.symm.trans ee2
      · rcases h with ⟨v2, ev2, -⟩ | ⟨e2, ee2, h⟩
        · cases ex.symm.trans ev2
        · cases ex.symm.trans ee2
          cases h
          exact rt_x hlk hex hR g1 g2 g3
    · cases ev.symm.trans ee2
  · rcases h with ⟨v2, ev2, -⟩ | ⟨e2, ee2, h⟩
    · cases ex.symm.trans ev2
    · cases ex.symm.trans ee2
      cases h
      exact rt_x hlk hex hR g1 g2 g3
def fM_afterNumber_0 (n d : Nat) (C : Cx) (a0 : Nat) (x1 : Int32) (M : Mem) : Rz := rzC (C 78 [.int x1] M) fun v_1 M_2 => (rzI v_1 fun x_5 => (if x_5 = 0 then (if x1 = 42 then (if mK M_2 a0 = 5 then (if fits .boolean (.int 1) = true then (rzM (setI M_2 a0 28 1) fun M_20 => (rzM (setI M_20 a0 29 (mI M_20 a0 26)) fun M_23 => (some (.inl (some (.int 6)), M_23)))) else none) else none) else (if x1 = 58 then (if mK M_2 a0 = 5 then (if (mI M_2 a0 32) = 0 then (fM_afterNumber_110 n d C a0 x1 M_2) else (rzM (setI M_2 a0 33 3) fun M_11 => (rzM (setI M_11 a0 34 (mI M_11 a0 26)) fun M_14 => (if (mI M_14 a0 26) ≤ 0 then (fM_afterNumber_109 n d C 10 M_14) else (fM_afterNumber_109 n d C 3 M_14))))) else none) else (fM_afterNumber_110 n d C a0 x1 M_2))) else (if mK M_2 a0 = 5 then (rzM (setI M_2 a0 26 (((10 * (mI M_2 a0 26)) + x1) - 48)) fun M_27 => (rzM (setI M_27 a0 27 ((mI M_27 a0 27) + 1)) fun M_30 => (if 4 ≤ (mI M_30 a0 27) then (fM_afterNumber_47 n d C 10 M_30) else (fM_afterNumber_47 n d C 5 M_30)))) else none)))
set_option maxRecDepth 100000 in
set_option maxHeartbeats 4000000 in
theorem tM_afterNumber_0 {n : Nat} (F : FX p s m meth c G R M0 d "HeadCountModel" bM_afterNumber 2 (some .int)) (hC : CBs l G d C) : ∀ (a0 : Nat) (x1 : Int32) (M : Mem) (H : Heap) (locs : List Loc) (cells slots : Nat) (ls : Array Slot), fM_afterNumber_0 n d C a0 x1 M = some (r, M') → RL G M0 M H locs cells slots → lv_has ls 2 [(0, .ref a0), (1, .int x1)] → W p l e R s m args below meth c H locs cells slots (CQ G below s M0 r M') (F0 m 0 ls []) := by
  obtain ⟨hx, hb, hml, hown, hrt, hlk, hex, hK, hRm⟩ := id F
  intro a0 x1 M H locs cells slots ls h hR hl
  unfold fM_afterNumber_0 at h
  refine lv_iload_n hx hb dM_afterNumber_0 rfl (lv_at hl 1 rfl) ?_
  obtain ⟨q_4, M_2, h_3, h⟩ := rz_c h
  refine rc_S (rest := []) (As := [.int x1]) hx hb (hl.1.trans hml.symm) hown hK hR hRm mfM_isDigit kl_M_135 rfl (by simp [cat_rf, Value.category]) (hC 78 _ _ _ _ h_3) dM_afterNumber_1 (fun v1 H locs cells slots ev hR => ?_) (fun x1 q1 ce1 H locs cells slots ex hR g1 g2 g3 => ?_)
  · rcases h with ⟨v_1, ev2, h⟩ | ⟨e2, ee2, -⟩
    · cases ev.symm.trans ev2
      replace h := rz_i h
      obtain ⟨x_5, rfl, h⟩ := h
      dsimp only [Option.toList, List.cons_append, List.nil_append]
      refine lv_if_eq (tgt := 48) hx hb dM_afterNumber_4 (by decide) (fun c_6 => ?_) (fun c_6 => ?_)
      · replace h := rz_t c_6 h
        refine lv_iload_n hx hb dM_afterNumber_48 rfl (lv_at hl 1 rfl) ?_
        refine lv_bipush (v := 42) hx hb dM_afterNumber_49 (by decide) ?_
        refine lv_icmp_ne (tgt := 70) hx hb dM_afterNumber_51 (by decide) (fun c_7 => ?_) (fun c_7 => ?_)
        · replace h := rz_f c_7 h
          refine lv_iload_n hx hb dM_afterNumber_70 rfl (lv_at hl 1 rfl) ?_
          refine lv_bipush (v := 58) hx hb dM_afterNumber_71 (by decide) ?_
          refine lv_icmp_ne (tgt := 110) hx hb dM_afterNumber_73 (by decide) (fun c_8 => ?_) (fun c_8 => ?_)
          · replace h := rz_f c_8 h
            exact tM_afterNumber_110 F hC a0 x1 _ _ _ _ _ _ h hR (lv_sub hl [0, 1] rfl)
          · replace h := rz_t c_8 h
            refine lv_aload_n hx hb dM_afterNumber_76 rfl (lv_at hl 0 rfl) ?_
            obtain ⟨c_9, h⟩ := rz_chk h
            refine rg_getI hx hb hown hK hR hk_M 32 (by decide) kf_M_126 rfl c_9 dM_afterNumber_77 ?_
            refine lv_if_eq (tgt := 110) hx hb dM_afterNumber_80 (by decide) (fun c_10 => ?_) (fun c_10 => ?_)
            · replace h := rz_t c_10 h
              exact tM_afterNumber_110 F hC a0 x1 _ _ _ _ _ _ h hR (lv_sub hl [0, 1] rfl)
            · replace h := rz_f c_10 h
              refine lv_aload_n hx hb dM_afterNumber_83 rfl (lv_at hl 0 rfl) ?_
              refine lv_iconst (v := 3) hx hb dM_afterNumber_84 (by decide) ?_
              obtain ⟨M_11, q_12, h⟩ := rz_m h
              refine rg_putI hx hb hown hK hR hk_M 33 (by decide) kf_M_101 rfl rfl (ty := .int) (by decide +kernel) (Or.inl rfl) rfl c_9 dM_afterNumber_85 (fun H locs hR => ?_)
              rw [← q_12] at hR
              have c_13 : mK M_11 a0 = 5 := by rw [q_12]; exact c_9
              refine lv_aload_n hx hb dM_afterNumber_88 rfl (lv_at hl 0 rfl) ?_
              refine lv_aload_n hx hb dM_afterNumber_89 rfl (lv_at hl 0 rfl) ?_
              refine rg_getI hx hb hown hK hR hk_M 26 (by decide) kf_M_139 rfl c_13 dM_afterNumber_90 ?_
              obtain ⟨M_14, q_15, h⟩ := rz_m h
              refine rg_putI hx hb hown hK hR hk_M 34 (by decide) kf_M_151 rfl rfl (ty := .int) (by decide +kernel) (Or.inl rfl) rfl c_13 dM_afterNumber_93 (fun H locs hR => ?_)
              rw [← q_15] at hR
              have c_16 : mK M_14 a0 = 5 := by rw [q_15]; exact c_13
              refine lv_aload_n hx hb dM_afterNumber_96 rfl (lv_at hl 0 rfl) ?_
              refine rg_getI hx hb hown hK hR hk_M 26 (by decide) kf_M_139 rfl c_16 dM_afterNumber_97 ?_
              refine lv_if_le (tgt := 107) hx hb dM_afterNumber_100 (by decide) (fun c_17 => ?_) (fun c_17 => ?_)
              · replace h := rz_t c_17 h
                refine lv_bipush (v := 10) hx hb dM_afterNumber_107 (by decide) ?_
                exact tM_afterNumber_109 F hC 10 _ _ _ _ _ _ h hR (lv_sub hl [] rfl)
              · replace h := rz_f c_17 h
                refine lv_iconst (v := 3) hx hb dM_afterNumber_103 (by decide) ?_
                refine lv_goto (tgt := 109) hx hb dM_afterNumber_104 (by decide) ?_
                exact tM_afterNumber_109 F hC 3 _ _ _ _ _ _ h hR (lv_sub hl [] rfl)
        · replace h := rz_t c_7 h
          refine lv_aload_n hx hb dM_afterNumber_54 rfl (lv_at hl 0 rfl) ?_
          refine lv_iconst (v := 1) hx hb dM_afterNumber_55 (by decide) ?_
          obtain ⟨c_18, h⟩ := rz_chk h
          obtain ⟨c_19, h⟩ := rz_chk h
          obtain ⟨M_20, q_21, h⟩ := rz_m h
          refine rg_putI hx hb hown hK hR hk_M 28 (by decide) kf_M_132 rfl rfl (ty := .boolean) (by decide +kernel) (Or.inr (Or.inr rfl)) c_19 c_18 dM_afterNumber_56 (fun H locs hR => ?_)
          rw [← q_21] at hR
          have c_22 : mK M_20 a0 = 5 := by rw [q_21]; exact c_18
          refine lv_aload_n hx hb dM_afterNumber_59 rfl (lv_at hl 0 rfl) ?_
          refine lv_aload_n hx hb dM_afterNumber_60 rfl (lv_at hl 0 rfl) ?_
          refine rg_getI hx hb hown hK hR hk_M 26 (by decide) kf_M_139 rfl c_22 dM_afterNumber_61 ?_
          obtain ⟨M_23, q_24, h⟩ := rz_m h
          refine rg_putI hx hb hown hK hR hk_M 29 (by decide) kf_M_148 rfl rfl (ty := .int) (by decide +kernel) (Or.inl rfl) rfl c_22 dM_afterNumber_64 (fun H locs hR => ?_)
          rw [← q_24] at hR
          have c_25 : mK M_23 a0 = 5 := by rw [q_24]; exact c_22
          refine lv_bipush (v := 6) hx hb dM_afterNumber_67 (by decide) ?_
          cases h
          exact rt_i hx hb hlk hrt (Or.inl rfl) rfl hR dM_afterNumber_69
      · replace h := rz_f c_6 h
        refine lv_aload_n hx hb dM_afterNumber_7 rfl (lv_at hl 0 rfl) ?_
        refine lv_bipush (v := 10) hx hb dM_afterNumber_8 (by decide) ?_
        refine lv_aload_n hx hb dM_afterNumber_10 rfl (lv_at hl 0 rfl) ?_
        obtain ⟨c_26, h⟩ := rz_chk h
        refine rg_getI hx hb hown hK hR hk_M 26 (by decide) kf_M_139 rfl c_26 dM_afterNumber_11 ?_
        refine lv_imul hx hb dM_afterNumber_14 ?_
        refine lv_iload_n hx hb dM_afterNumber_15 rfl (lv_at hl 1 rfl) ?_
        refine lv_iadd hx hb dM_afterNumber_16 ?_
        refine lv_bipush (v := 48) hx hb dM_afterNumber_17 (by decide) ?_
        refine lv_isub hx hb dM_afterNumber_19 ?_
        obtain ⟨M_27, q_28, h⟩ := rz_m h
        refine rg_putI hx hb hown hK hR hk_M 26 (by decide) kf_M_139 rfl rfl (ty := .int) (by decide +kernel) (Or.inl rfl) rfl c_26 dM_afterNumber_20 (fun H locs hR => ?_)
        rw [← q_28] at hR
        have c_29 : mK M_27 a0 = 5 := by rw [q_28]; exact c_26
        refine lv_aload_n hx hb dM_afterNumber_23 rfl (lv_at hl 0 rfl) ?_
        refine lv_dup hx hb dM_afterNumber_24 rfl ?_
        refine rg_getI hx hb hown hK hR hk_M 27 (by decide) kf_M_142 rfl c_29 dM_afterNumber_25 ?_
        refine lv_iconst (v := 1) hx hb dM_afterNumber_28 (by decide) ?_
        refine lv_iadd hx hb dM_afterNumber_29 ?_
        obtain ⟨M_30, q_31, h⟩ := rz_m h
        refine rg_putI hx hb hown hK hR hk_M 27 (by decide) kf_M_142 rfl rfl (ty := .int) (by decide +kernel) (Or.inl rfl) rfl c_29 dM_afterNumber_30 (fun H locs hR => ?_)
        rw [← q_31] at hR
        have c_32 : mK M_30 a0 = 5 := by rw [q_31]; exact c_29
        refine lv_aload_n hx hb dM_afterNumber_33 rfl (lv_at hl 0 rfl) ?_
        refine rg_getI hx hb hown hK hR hk_M 27 (by decide) kf_M_142 rfl c_32 dM_afterNumber_34 ?_
        refine lv_iconst (v := 4) hx hb dM_afterNumber_37 (by decide) ?_
        refine lv_icmp_ge (tgt := 45) hx hb dM_afterNumber_38 (by decide) (fun c_33 => ?_) (fun c_33 => ?_)
        · replace h := rz_t c_33 h
          refine lv_bipush (v := 10) hx hb dM_afterNumber_45 (by decide) ?_
          exact tM_afterNumber_47 F hC 10 _ _ _ _ _ _ h hR (lv_sub hl [] rfl)
        · replace h := rz_f c_33 h
          refine lv_iconst (v := 5) hx hb dM_afterNumber_41 (by decide) ?_
          refine lv_goto (tgt := 47) hx hb dM_afterNumber_42 (by decide) ?_
          exact tM_afterNumber_47 F hC 5 _ _ _ _ _ _ h hR (lv_sub hl [] rfl)
    · cases ev.symm.trans ee2
  · rcases h with ⟨v2, ev2, -⟩ | ⟨e2, ee2, h⟩
    · cases ex.symm.trans ev2
    · cases ex.symm.trans ee2
      cases h
      exact rt_x hlk hex hR g1 g2 g3
set_option maxRecDepth 100000 in
set_option maxHeartbeats 4000000 in
theorem sM_afterNumber {l : Launch} {G : Gx} {n d : Nat} {C : Cx} (hC : CBs l G d C) (a0 : Nat) (x1 : Int32) {M M' : Mem} {r : Option Value ⊕ Nat} (h : fM_afterNumber_0 n d C a0 x1 M = some (r, M')) : CB l G (d + 1) yM_afterNumber [.ref a0, .int x1] M r M' := by
  intro p e R s m below meth c hx hn hm hc hlk hK hR hcap hS hU hfr hlo hrc hrs
  obtain ⟨hb, hml, hrt, hex, hown⟩ := fx_of hn hm hc (hK.w mfM_afterNumber.2.2.1 rfl #[])
  have F : FX p s m meth c G R M d "HeadCountModel" bM_afterNumber 2 (some .int) := ⟨hx, hb, hml, hown, hrt, hlk, hex, hK, hfr, hlo, by rw [← hcap]; exact hrc, hrs⟩
  rw [hml]
  have hl := lv_entry ([.ref a0, .int x1]) (n := 2) (by simp [lg_sl, cat_rf, Value.category])
  rw [lg_entry_eq]
  generalize (lg_sl ([.ref a0, .int x1]) ++ List.replicate (2 - (lg_sl ([.ref a0, .int x1])).length) Slot.unset).toArray = ls at hl ⊢
  have hl : lv_has ls 2 [(0, .ref a0), (1, .int x1)] := by simpa [lv_args, cat_rf, Value.category] using hl
  exact tM_afterNumber_0 F hC a0 x1 _ _ _ _ _ _ h (RL.start hR hcap hS hU) (lv_sub hl [0, 1] rfl)
def fM_afterPart_24 (n d : Nat) (C : Cx) (xs0 : Int32) (as1 : Nat) (M : Mem) : Rz := if mK M as1 = 5 then (if fits .boolean (.int xs0) = true then (rzM (setI M as1 30 xs0) fun M_3 => (some (.inl (some (.int 4)), M_3))) else none) else none
set_option maxRecDepth 100000 in
set_option maxHeartbeats 4000000 in
theorem tM_afterPart_24 {n : Nat} (F : FX p s m meth c G R M0 d "HeadCountModel" bM_afterPart 2 (some .int)) (hC : CBs l G d C) : ∀ (xs0 : Int32) (as1 : Nat) (M : Mem) (H : Heap) (locs : List Loc) (cells slots : Nat) (ls : Array Slot), fM_afterPart_24 n d C xs0 as1 M = some (r, M') → RL G M0 M H locs cells slots → lv_has ls 2 [] → W p l e R s m args below meth c H locs cells slots (CQ G below s M0 r M') (F0 m 24 ls [.int xs0, .ref as1]) := by
  obtain ⟨hx, hb, hml, hown, hrt, hlk, hex, hK, hRm⟩ := id F
  intro xs0 as1 M H locs cells slots ls h hR hl
  unfold fM_afterPart_24 at h
  obtain ⟨c_1, h⟩ := rz_chk h
  obtain ⟨c_2, h⟩ := rz_chk h
  obtain ⟨M_3, q_4, h⟩ := rz_m h
  refine rg_putI hx hb hown hK hR hk_M 30 (by decide) kf_M_120 rfl rfl (ty := .boolean) (by decide +kernel) (Or.inr (Or.inr rfl)) c_2 c_1 dM_afterPart_24 (fun H locs hR => ?_)
  rw [← q_4] at hR
  have c_5 : mK M_3 as1 = 5 := by rw [q_4]; exact c_1
  refine lv_iconst (v := 4) hx hb dM_afterPart_27 (by decide) ?_
  cases h
  exact rt_i hx hb hlk hrt (Or.inl rfl) rfl hR dM_afterPart_28
def fM_afterPart_12 (n d : Nat) (C : Cx) (a0 : Nat) (x1 : Int32) (M : Mem) : Rz := if x1 = 45 then (fM_afterPart_24 n d C 1 a0 M) else (fM_afterPart_24 n d C 0 a0 M)
set_option maxRecDepth 100000 in
set_option maxHeartbeats 4000000 in
theorem tM_afterPart_12 {n : Nat} (F : FX p s m meth c G R M0 d "HeadCountModel" bM_afterPart 2 (some .int)) (hC : CBs l G d C) : ∀ (a0 : Nat) (x1 : Int32) (M : Mem) (H : Heap) (locs : List Loc) (cells slots : Nat) (ls : Array Slot), fM_afterPart_12 n d C a0 x1 M = some (r, M') → RL G M0 M H locs cells slots → lv_has ls 2 [(0, .ref a0), (1, .int x1)] → W p l e R s m args below meth c H locs cells slots (CQ G below s M0 r M') (F0 m 12 ls []) := by
  obtain ⟨hx, hb, hml, hown, hrt, hlk, hex, hK, hRm⟩ := id F
  intro a0 x1 M H locs cells slots ls h hR hl
  unfold fM_afterPart_12 at h
  refine lv_aload_n hx hb dM_afterPart_12 rfl (lv_at hl 0 rfl) ?_
  refine lv_iload_n hx hb dM_afterPart_13 rfl (lv_at hl 1 rfl) ?_
  refine lv_bipush (v := 45) hx hb dM_afterPart_14 (by decide) ?_
  refine lv_icmp_ne (tgt := 23) hx hb dM_afterPart_16 (by decide) (fun c_1 => ?_) (fun c_1 => ?_)
  · replace h := rz_f c_1 h
    refine lv_iconst (v := 0) hx hb dM_afterPart_23 (by decide) ?_
    exact tM_afterPart_24 F hC 0 a0 _ _ _ _ _ _ h hR (lv_sub hl [] rfl)
  · replace h := rz_t c_1 h
    refine lv_iconst (v := 1) hx hb dM_afterPart_19 (by decide) ?_
    refine lv_goto (tgt := 24) hx hb dM_afterPart_20 (by decide) ?_
    exact tM_afterPart_24 F hC 1 a0 _ _ _ _ _ _ h hR (lv_sub hl [] rfl)
def fM_afterPart_74 (n d : Nat) (C : Cx) (xs0 : Int32) (M : Mem) : Rz := some (.inl (some (.int xs0)), M)
set_option maxRecDepth 100000 in
set_option maxHeartbeats 4000000 in
theorem tM_afterPart_74 {n : Nat} (F : FX p s m meth c G R M0 d "HeadCountModel" bM_afterPart 2 (some .int)) (hC : CBs l G d C) : ∀ (xs0 : Int32) (M : Mem) (H : Heap) (locs : List Loc) (cells slots : Nat) (ls : Array Slot), fM_afterPart_74 n d C xs0 M = some (r, M') → RL G M0 M H locs cells slots → lv_has ls 2 [] → W p l e R s m args below meth c H locs cells slots (CQ G below s M0 r M') (F0 m 74 ls [.int xs0]) := by
  obtain ⟨hx, hb, hml, hown, hrt, hlk, hex, hK, hRm⟩ := id F
  intro xs0 M H locs cells slots ls h hR hl
  unfold fM_afterPart_74 at h
  cases h
  exact rt_i hx hb hlk hrt (Or.inl rfl) rfl hR dM_afterPart_74
def fM_afterPart_58 (n d : Nat) (C : Cx) (a0 : Nat) (xs0 : Int32) (as1 : Nat) (M : Mem) : Rz := if mK M as1 = 5 then (rzM (setI M as1 33 xs0) fun M_2 => (if mK M_2 a0 = 5 then (if (mI M_2 a0 33) ≤ 0 then (fM_afterPart_74 n d C 10 M_2) else (fM_afterPart_74 n d C 3 M_2)) else none)) else none
set_option maxRecDepth 100000 in
set_option maxHeartbeats 4000000 in
theorem tM_afterPart_58 {n : Nat} (F : FX p s m meth c G R M0 d "HeadCountModel" bM_afterPart 2 (some .int)) (hC : CBs l G d C) : ∀ (a0 : Nat) (xs0 : Int32) (as1 : Nat) (M : Mem) (H : Heap) (locs : List Loc) (cells slots : Nat) (ls : Array Slot), fM_afterPart_58 n d C a0 xs0 as1 M = some (r, M') → RL G M0 M H locs cells slots → lv_has ls 2 [(0, .ref a0)] → W p l e R s m args below meth c H locs cells slots (CQ G below s M0 r M') (F0 m 58 ls [.int xs0, .ref as1]) := by
  obtain ⟨hx, hb, hml, hown, hrt, hlk, hex, hK, hRm⟩ := id F
  intro a0 xs0 as1 M H locs cells slots ls h hR hl
  unfold fM_afterPart_58 at h
  obtain ⟨c_1, h⟩ := rz_chk h
  obtain ⟨M_2, q_3, h⟩ := rz_m h
  refine rg_putI hx hb hown hK hR hk_M 33 (by decide) kf_M_101 rfl rfl (ty := .int) (by decide +kernel) (Or.inl rfl) rfl c_1 dM_afterPart_58 (fun H locs hR => ?_)
  rw [← q_3] at hR
  have c_4 : mK M_2 as1 = 5 := by rw [q_3]; exact c_1
  refine lv_aload_n hx hb dM_afterPart_61 rfl (lv_at hl 0 rfl) ?_
  obtain ⟨c_5, h⟩ := rz_chk h
  refine rg_getI hx hb hown hK hR hk_M 33 (by decide) kf_M_101 rfl c_5 dM_afterPart_62 ?_
  refine lv_if_le (tgt := 72) hx hb dM_afterPart_65 (by decide) (fun c_6 => ?_) (fun c_6 => ?_)
  · replace h := rz_t c_6 h
    refine lv_bipush (v := 10) hx hb dM_afterPart_72 (by decide) ?_
    exact tM_afterPart_74 F hC 10 _ _ _ _ _ _ h hR (lv_sub hl [] rfl)
  · replace h := rz_f c_6 h
    refine lv_iconst (v := 3) hx hb dM_afterPart_68 (by decide) ?_
    refine lv_goto (tgt := 74) hx hb dM_afterPart_69 (by decide) ?_
    exact tM_afterPart_74 F hC 3 _ _ _ _ _ _ h hR (lv_sub hl [] rfl)
def fM_afterPart_104 (n d : Nat) (C : Cx) (a0 : Nat) (x1 : Int32) (xs0 : Int32) (as1 : Nat) (M : Mem) : Rz := if mK M a0 = 5 then (if mK M as1 = 5 then (rzC (C 81 [.ref as1, .int xs0, .int (mI M a0 34)] M) fun v_3 M_4 => (rzV v_3 (if mK M_4 a0 = 5 then (rzC (C 87 [.ref a0] M_4) fun v_8 M_9 => (rzI v_8 fun x_12 => (if mK M_9 a0 = 5 then (rzC (C 83 [.ref a0, .int x1] M_9) fun v_14 M_15 => (rzI v_14 fun x_18 => (some (.inl (some (.int x_18)), M_15)))) else none))) else none))) else none) else none
set_option maxRecDepth 100000 in
set_option maxHeartbeats 4000000 in
theorem tM_afterPart_104 {n : Nat} (F : FX p s m meth c G R M0 d "HeadCountModel" bM_afterPart 2 (some .int)) (hC : CBs l G d C) : ∀ (a0 : Nat) (x1 : Int32) (xs0 : Int32) (as1 : Nat) (M : Mem) (H : Heap) (locs : List Loc) (cells slots : Nat) (ls : Array Slot), fM_afterPart_104 n d C a0 x1 xs0 as1 M = some (r, M') → RL G M0 M H locs cells slots → lv_has ls 2 [(0, .ref a0), (1, .int x1)] → W p l e R s m args below meth c H locs cells slots (CQ G below s M0 r M') (F0 m 104 ls [.int xs0, .ref as1]) := by
  obtain ⟨hx, hb, hml, hown, hrt, hlk, hex, hK, hRm⟩ := id F
  intro a0 x1 xs0 as1 M H locs cells slots ls h hR hl
  unfold fM_afterPart_104 at h
  refine lv_aload_n hx hb dM_afterPart_104 rfl (lv_at hl 0 rfl) ?_
  obtain ⟨c_1, h⟩ := rz_chk h
  refine rg_getI hx hb hown hK hR hk_M 34 (by decide) kf_M_151 rfl c_1 dM_afterPart_105 ?_
  obtain ⟨c_2, h⟩ := rz_chk h
  obtain ⟨q_6, M_4, h_5, h⟩ := rz_c h
  refine rc_V (rest := []) (As := [.int xs0, .int (mI M a0 34)]) hx hb (hl.1.trans hml.symm) hown hK hR hRm mfM_emit kl_M_86 hk_M rfl rfl c_2 (by simp [cat_rf, Value.category]) (hC 81 _ _ _ _ h_5) dM_afterPart_108 (fun v1 H locs cells slots ev hR => ?_) (fun x1 q1 ce1 H locs cells slots ex hR g1 g2 g3 => ?_)
  · rcases h with ⟨v_3, ev2, h⟩ | ⟨e2, ee2, -⟩
    · cases ev.symm.trans ev2
      replace h := rz_v h
      obtain ⟨rfl, h⟩ := h
      dsimp only [Option.toList, List.cons_append, List.nil_append]
      refine lv_aload_n hx hb dM_afterPart_111 rfl (lv_at hl 0 rfl) ?_
      obtain ⟨c_7, h⟩ := rz_chk h
      obtain ⟨q_11, M_9, h_10, h⟩ := rz_c h
      refine rc_V (rest := []) (As := []) hx hb (hl.1.trans hml.symm) hown hK hR hRm mfM_wholeOne kl_M_117 hk_M rfl rfl c_7 (by simp [cat_rf, Value.category]) (hC 87 _ _ _ _ h_10) dM_afterPart_112 (fun v1 H locs cells slots ev hR => ?_) (fun x1 q1 ce1 H locs cells slots ex hR g1 g2 g3 => ?_)
      · rcases h with ⟨v_8, ev2, h⟩ | ⟨e2, ee2, -⟩
        · cases ev.symm.trans ev2
          replace h := rz_i h
          obtain ⟨x_12, rfl, h⟩ := h
          dsimp only [Option.toList, List.cons_append, List.nil_append]
          refine lv_pop hx hb dM_afterPart_115 rfl ?_
          refine lv_aload_n hx hb dM_afterPart_116 rfl (lv_at hl 0 rfl) ?_
          refine lv_iload_n hx hb dM_afterPart_117 rfl (lv_at hl 1 rfl) ?_
          obtain ⟨c_13, h⟩ := rz_chk h
          obtain ⟨q_17, M_15, h_16, h⟩ := rz_c h
          refine rc_V (rest := []) (As := [.int x1]) hx hb (hl.1.trans hml.symm) hown hK hR hRm mfM_afterOne kl_M_160 hk_M rfl rfl c_13 (by simp [cat_rf, Value.category]) (hC 83 _ _ _ _ h_16) dM_afterPart_118 (fun v1 H locs cells slots ev hR => ?_) (fun x1 q1 ce1 H locs cells slots ex hR g1 g2 g3 => ?_)
          · rcases h with ⟨v_14, ev2, h⟩ | ⟨e2, ee2, -⟩
            · cases ev.symm.trans ev2
              replace h := rz_i h
              obtain ⟨x_18, rfl, h⟩ := h
              dsimp only [Option.toList, List.cons_append, List.nil_append]
              cases h
              exact rt_i hx hb hlk hrt (Or.inl rfl) rfl hR dM_afterPart_121
            · cases ev.symm.trans ee2
          · rcases h with ⟨v2, ev2, -⟩ | ⟨e2, ee2, h⟩
            · cases ex.symm.trans ev2
            · cases ex.symm.trans ee2
              cases h
              exact rt_x hlk hex hR g1 g2 g3
        · cases ev.symm.trans ee2
      · rcases h with ⟨v2, ev2, -⟩ | ⟨e2, ee2, h⟩
        · cases ex.symm.trans ev2
        · cases ex.symm.trans ee2
          cases h
          exact rt_x hlk hex hR g1 g2 g3
    · cases ev.symm.trans ee2
  · rcases h with ⟨v2, ev2, -⟩ | ⟨e2, ee2, h⟩
    · cases ex.symm.trans ev2
    · cases ex.symm.trans ee2
      cases h
      exact rt_x hlk hex hR g1 g2 g3
def fM_afterPart_0 (n d : Nat) (C : Cx) (a0 : Nat) (x1 : Int32) (M : Mem) : Rz := if x1 = 43 then (fM_afterPart_12 n d C a0 x1 M) else (if x1 = 45 then (fM_afterPart_12 n d C a0 x1 M) else (if mK M a0 = 5 then (if (mI M a0 33) = 0 then (if x1 = 60 then (fM_afterPart_58 n d C a0 1 a0 M) else (if x1 = 61 then (fM_afterPart_58 n d C a0 2 a0 M) else (fM_afterPart_58 n d C a0 0 a0 M))) else (if (mI M a0 33) = 1 then (fM_afterPart_104 n d C a0 x1 19 a0 M) else (if (mI M a0 33) = 2 then (fM_afterPart_104 n d C a0 x1 20 a0 M) else (fM_afterPart_104 n d C a0 x1 21 a0 M)))) else none))
set_option maxRecDepth 100000 in
set_option maxHeartbeats 4000000 in
theorem tM_afterPart_0 {n : Nat} (F : FX p s m meth c G R M0 d "HeadCountModel" bM_afterPart 2 (some .int)) (hC : CBs l G d C) : ∀ (a0 : Nat) (x1 : Int32) (M : Mem) (H : Heap) (locs : List Loc) (cells slots : Nat) (ls : Array Slot), fM_afterPart_0 n d C a0 x1 M = some (r, M') → RL G M0 M H locs cells slots → lv_has ls 2 [(0, .ref a0), (1, .int x1)] → W p l e R s m args below meth c H locs cells slots (CQ G below s M0 r M') (F0 m 0 ls []) := by
  obtain ⟨hx, hb, hml, hown, hrt, hlk, hex, hK, hRm⟩ := id F
  intro a0 x1 M H locs cells slots ls h hR hl
  unfold fM_afterPart_0 at h
  refine lv_iload_n hx hb dM_afterPart_0 rfl (lv_at hl 1 rfl) ?_
  refine lv_bipush (v := 43) hx hb dM_afterPart_1 (by decide) ?_
  refine lv_icmp_eq (tgt := 12) hx hb dM_afterPart_3 (by decide) (fun c_1 => ?_) (fun c_1 => ?_)
  · replace h := rz_t c_1 h
    exact tM_afterPart_12 F hC a0 x1 _ _ _ _ _ _ h hR (lv_sub hl [0, 1] rfl)
  · replace h := rz_f c_1 h
    refine lv_iload_n hx hb dM_afterPart_6 rfl (lv_at hl 1 rfl) ?_
    refine lv_bipush (v := 45) hx hb dM_afterPart_7 (by decide) ?_
    refine lv_icmp_ne (tgt := 29) hx hb dM_afterPart_9 (by decide) (fun c_2 => ?_) (fun c_2 => ?_)
    · replace h := rz_f c_2 h
      refine lv_aload_n hx hb dM_afterPart_29 rfl (lv_at hl 0 rfl) ?_
      obtain ⟨c_3, h⟩ := rz_chk h
      refine rg_getI hx hb hown hK hR hk_M 33 (by decide) kf_M_101 rfl c_3 dM_afterPart_30 ?_
      refine lv_if_ne (tgt := 75) hx hb dM_afterPart_33 (by decide) (fun c_4 => ?_) (fun c_4 => ?_)
      · replace h := rz_f c_4 h
        refine lv_aload_n hx hb dM_afterPart_75 rfl (lv_at hl 0 rfl) ?_
        refine lv_aload_n hx hb dM_afterPart_76 rfl (lv_at hl 0 rfl) ?_
        refine rg_getI hx hb hown hK hR hk_M 33 (by decide) kf_M_101 rfl c_3 dM_afterPart_77 ?_
        refine lv_iconst (v := 1) hx hb dM_afterPart_80 (by decide) ?_
        refine lv_icmp_ne (tgt := 89) hx hb dM_afterPart_81 (by decide) (fun c_5 => ?_) (fun c_5 => ?_)
        · replace h := rz_f c_5 h
          refine lv_aload_n hx hb dM_afterPart_89 rfl (lv_at hl 0 rfl) ?_
          refine rg_getI hx hb hown hK hR hk_M 33 (by decide) kf_M_101 rfl c_3 dM_afterPart_90 ?_
          refine lv_iconst (v := 2) hx hb dM_afterPart_93 (by decide) ?_
          refine lv_icmp_ne (tgt := 102) hx hb dM_afterPart_94 (by decide) (fun c_6 => ?_) (fun c_6 => ?_)
          · replace h := rz_f c_6 h
            refine lv_bipush (v := 21) hx hb dM_afterPart_102 (by decide) ?_
            exact tM_afterPart_104 F hC a0 x1 21 a0 _ _ _ _ _ _ h hR (lv_sub hl [0, 1] rfl)
          · replace h := rz_t c_6 h
            refine lv_bipush (v := 20) hx hb dM_afterPart_97 (by decide) ?_
            refine lv_goto (tgt := 104) hx hb dM_afterPart_99 (by decide) ?_
            exact tM_afterPart_104 F hC a0 x1 20 a0 _ _ _ _ _ _ h hR (lv_sub hl [0, 1] rfl)
        · replace h := rz_t c_5 h
          refine lv_bipush (v := 19) hx hb dM_afterPart_84 (by decide) ?_
          refine lv_goto (tgt := 104) hx hb dM_afterPart_86 (by decide) ?_
          exact tM_afterPart_104 F hC a0 x1 19 a0 _ _ _ _ _ _ h hR (lv_sub hl [0, 1] rfl)
      · replace h := rz_t c_4 h
        refine lv_aload_n hx hb dM_afterPart_36 rfl (lv_at hl 0 rfl) ?_
        refine lv_iload_n hx hb dM_afterPart_37 rfl (lv_at hl 1 rfl) ?_
        refine lv_bipush (v := 60) hx hb dM_afterPart_38 (by decide) ?_
        refine lv_icmp_ne (tgt := 47) hx hb dM_afterPart_40 (by decide) (fun c_7 => ?_) (fun c_7 => ?_)
        · replace h := rz_f c_7 h
          refine lv_iload_n hx hb dM_afterPart_47 rfl (lv_at hl 1 rfl) ?_
          refine lv_bipush (v := 61) hx hb dM_afterPart_48 (by decide) ?_
          refine lv_icmp_ne (tgt := 57) hx hb dM_afterPart_50 (by decide) (fun c_8 => ?_) (fun c_8 => ?_)
          · replace h := rz_f c_8 h
            refine lv_iconst (v := 0) hx hb dM_afterPart_57 (by decide) ?_
            exact tM_afterPart_58 F hC a0 0 a0 _ _ _ _ _ _ h hR (lv_sub hl [0] rfl)
          · replace h := rz_t c_8 h
            refine lv_iconst (v := 2) hx hb dM_afterPart_53 (by decide) ?_
            refine lv_goto (tgt := 58) hx hb dM_afterPart_54 (by decide) ?_
            exact tM_afterPart_58 F hC a0 2 a0 _ _ _ _ _ _ h hR (lv_sub hl [0] rfl)
        · replace h := rz_t c_7 h
          refine lv_iconst (v := 1) hx hb dM_afterPart_43 (by decide) ?_
          refine lv_goto (tgt := 58) hx hb dM_afterPart_44 (by decide) ?_
          exact tM_afterPart_58 F hC a0 1 a0 _ _ _ _ _ _ h hR (lv_sub hl [0] rfl)
    · replace h := rz_t c_2 h
      exact tM_afterPart_12 F hC a0 x1 _ _ _ _ _ _ h hR (lv_sub hl [0, 1] rfl)
set_option maxRecDepth 100000 in
set_option maxHeartbeats 4000000 in
theorem sM_afterPart {l : Launch} {G : Gx} {n d : Nat} {C : Cx} (hC : CBs l G d C) (a0 : Nat) (x1 : Int32) {M M' : Mem} {r : Option Value ⊕ Nat} (h : fM_afterPart_0 n d C a0 x1 M = some (r, M')) : CB l G (d + 1) yM_afterPart [.ref a0, .int x1] M r M' := by
  intro p e R s m below meth c hx hn hm hc hlk hK hR hcap hS hU hfr hlo hrc hrs
  obtain ⟨hb, hml, hrt, hex, hown⟩ := fx_of hn hm hc (hK.w mfM_afterPart.2.2.1 rfl #[])
  have F : FX p s m meth c G R M d "HeadCountModel" bM_afterPart 2 (some .int) := ⟨hx, hb, hml, hown, hrt, hlk, hex, hK, hfr, hlo, by rw [← hcap]; exact hrc, hrs⟩
  rw [hml]
  have hl := lv_entry ([.ref a0, .int x1]) (n := 2) (by simp [lg_sl, cat_rf, Value.category])
  rw [lg_entry_eq]
  generalize (lg_sl ([.ref a0, .int x1]) ++ List.replicate (2 - (lg_sl ([.ref a0, .int x1])).length) Slot.unset).toArray = ls at hl ⊢
  have hl : lv_has ls 2 [(0, .ref a0), (1, .int x1)] := by simpa [lv_args, cat_rf, Value.category] using hl
  exact tM_afterPart_0 F hC a0 x1 _ _ _ _ _ _ h (RL.start hR hcap hS hU) (lv_sub hl [0, 1] rfl)
end
end
section
theorem dM_read_0 : decode bM_read 0 = .ok (.aload_n 0, 1) := by decide +kernel
theorem dM_read_1 : decode bM_read 1 = .ok (.invokevirtual 190, 3) := by decide +kernel
theorem dM_read_4 : decode bM_read 4 = .ok (.istore_n 1, 1) := by decide +kernel
theorem dM_read_5 : decode bM_read 5 = .ok (.aload_n 0, 1) := by decide +kernel
theorem dM_read_6 : decode bM_read 6 = .ok (.iload_n 1, 1) := by decide +kernel
theorem dM_read_7 : decode bM_read 7 = .ok (.ifCond .eq 7, 3) := by decide +kernel
theorem dM_read_10 : decode bM_read 10 = .ok (.iconst 0, 1) := by decide +kernel
theorem dM_read_11 : decode bM_read 11 = .ok (.goto 4, 3) := by decide +kernel
theorem dM_read_14 : decode bM_read 14 = .ok (.iconst 1, 1) := by decide +kernel
theorem dM_read_15 : decode bM_read 15 = .ok (.putfield 60, 3) := by decide +kernel
theorem dM_read_18 : decode bM_read 18 = .ok (.iload_n 1, 1) := by decide +kernel
theorem dM_read_19 : decode bM_read 19 = .ok (.ifCond .ne 5, 3) := by decide +kernel
theorem dM_read_22 : decode bM_read 22 = .ok (.iconst 0, 1) := by decide +kernel
theorem dM_read_23 : decode bM_read 23 = .ok (.ireturn, 1) := by decide +kernel
theorem dM_read_24 : decode bM_read 24 = .ok (.aload_n 0, 1) := by decide +kernel
theorem dM_read_25 : decode bM_read 25 = .ok (.iconst 1, 1) := by decide +kernel
theorem dM_read_26 : decode bM_read 26 = .ok (.putfield 194, 3) := by decide +kernel
theorem dM_read_29 : decode bM_read 29 = .ok (.aload_n 0, 1) := by decide +kernel
theorem dM_read_30 : decode bM_read 30 = .ok (.aload_n 0, 1) := by decide +kernel
theorem dM_read_31 : decode bM_read 31 = .ok (.getfield 69, 3) := by decide +kernel
theorem dM_read_34 : decode bM_read 34 = .ok (.putfield 197, 3) := by decide +kernel
theorem dM_read_37 : decode bM_read 37 = .ok (.aload_n 0, 1) := by decide +kernel
theorem dM_read_38 : decode bM_read 38 = .ok (.aload_n 0, 1) := by decide +kernel
theorem dM_read_39 : decode bM_read 39 = .ok (.getfield 98, 3) := by decide +kernel
theorem dM_read_42 : decode bM_read 42 = .ok (.putfield 200, 3) := by decide +kernel
theorem dM_read_45 : decode bM_read 45 = .ok (.aload_n 0, 1) := by decide +kernel
theorem dM_read_46 : decode bM_read 46 = .ok (.aload_n 0, 1) := by decide +kernel
theorem dM_read_47 : decode bM_read 47 = .ok (.getfield 184, 3) := by decide +kernel
theorem dM_read_50 : decode bM_read 50 = .ok (.putfield 203, 3) := by decide +kernel
theorem dM_read_53 : decode bM_read 53 = .ok (.iconst 0, 1) := by decide +kernel
theorem dM_read_54 : decode bM_read 54 = .ok (.istore_n 2, 1) := by decide +kernel
theorem dM_read_55 : decode bM_read 55 = .ok (.iload_n 2, 1) := by decide +kernel
theorem dM_read_56 : decode bM_read 56 = .ok (.aload_n 0, 1) := by decide +kernel
theorem dM_read_57 : decode bM_read 57 = .ok (.getfield 197, 3) := by decide +kernel
theorem dM_read_60 : decode bM_read 60 = .ok (.if_icmp .ge 33, 3) := by decide +kernel
theorem dM_read_63 : decode bM_read 63 = .ok (.aload_n 0, 1) := by decide +kernel
theorem dM_read_64 : decode bM_read 64 = .ok (.getfield 13, 3) := by decide +kernel
theorem dM_read_67 : decode bM_read 67 = .ok (.iload_n 2, 1) := by decide +kernel
theorem dM_read_68 : decode bM_read 68 = .ok (.aload_n 0, 1) := by decide +kernel
theorem dM_read_69 : decode bM_read 69 = .ok (.getfield 27, 3) := by decide +kernel
theorem dM_read_72 : decode bM_read 72 = .ok (.iload_n 2, 1) := by decide +kernel
theorem dM_read_73 : decode bM_read 73 = .ok (.iaload, 1) := by decide +kernel
theorem dM_read_74 : decode bM_read 74 = .ok (.iastore, 1) := by decide +kernel
theorem dM_read_75 : decode bM_read 75 = .ok (.aload_n 0, 1) := by decide +kernel
theorem dM_read_76 : decode bM_read 76 = .ok (.getfield 17, 3) := by decide +kernel
theorem dM_read_79 : decode bM_read 79 = .ok (.iload_n 2, 1) := by decide +kernel
theorem dM_read_80 : decode bM_read 80 = .ok (.aload_n 0, 1) := by decide +kernel
theorem dM_read_81 : decode bM_read 81 = .ok (.getfield 30, 3) := by decide +kernel
theorem dM_read_84 : decode bM_read 84 = .ok (.iload_n 2, 1) := by decide +kernel
theorem dM_read_85 : decode bM_read 85 = .ok (.iaload, 1) := by decide +kernel
theorem dM_read_86 : decode bM_read 86 = .ok (.iastore, 1) := by decide +kernel
theorem dM_read_87 : decode bM_read 87 = .ok (.iinc 2 1, 3) := by decide +kernel
theorem dM_read_90 : decode bM_read 90 = .ok (.goto (-35), 3) := by decide +kernel
theorem dM_read_93 : decode bM_read 93 = .ok (.iconst 0, 1) := by decide +kernel
theorem dM_read_94 : decode bM_read 94 = .ok (.istore_n 2, 1) := by decide +kernel
theorem dM_read_95 : decode bM_read 95 = .ok (.iload_n 2, 1) := by decide +kernel
theorem dM_read_96 : decode bM_read 96 = .ok (.aload_n 0, 1) := by decide +kernel
theorem dM_read_97 : decode bM_read 97 = .ok (.getfield 200, 3) := by decide +kernel
theorem dM_read_100 : decode bM_read 100 = .ok (.if_icmp .ge 33, 3) := by decide +kernel
theorem dM_read_103 : decode bM_read 103 = .ok (.aload_n 0, 1) := by decide +kernel
theorem dM_read_104 : decode bM_read 104 = .ok (.getfield 20, 3) := by decide +kernel
theorem dM_read_107 : decode bM_read 107 = .ok (.iload_n 2, 1) := by decide +kernel
theorem dM_read_108 : decode bM_read 108 = .ok (.aload_n 0, 1) := by decide +kernel
theorem dM_read_109 : decode bM_read 109 = .ok (.getfield 33, 3) := by decide +kernel
theorem dM_read_112 : decode bM_read 112 = .ok (.iload_n 2, 1) := by decide +kernel
theorem dM_read_113 : decode bM_read 113 = .ok (.baload, 1) := by decide +kernel
theorem dM_read_114 : decode bM_read 114 = .ok (.bastore, 1) := by decide +kernel
theorem dM_read_115 : decode bM_read 115 = .ok (.aload_n 0, 1) := by decide +kernel
theorem dM_read_116 : decode bM_read 116 = .ok (.getfield 24, 3) := by decide +kernel
theorem dM_read_119 : decode bM_read 119 = .ok (.iload_n 2, 1) := by decide +kernel
theorem dM_read_120 : decode bM_read 120 = .ok (.aload_n 0, 1) := by decide +kernel
theorem dM_read_121 : decode bM_read 121 = .ok (.getfield 36, 3) := by decide +kernel
theorem dM_read_124 : decode bM_read 124 = .ok (.iload_n 2, 1) := by decide +kernel
theorem dM_read_125 : decode bM_read 125 = .ok (.baload, 1) := by decide +kernel
theorem dM_read_126 : decode bM_read 126 = .ok (.bastore, 1) := by decide +kernel
theorem dM_read_127 : decode bM_read 127 = .ok (.iinc 2 1, 3) := by decide +kernel
theorem dM_read_130 : decode bM_read 130 = .ok (.goto (-35), 3) := by decide +kernel
theorem dM_read_133 : decode bM_read 133 = .ok (.aload_n 0, 1) := by decide +kernel
theorem dM_read_134 : decode bM_read 134 = .ok (.iconst 0, 1) := by decide +kernel
theorem dM_read_135 : decode bM_read 135 = .ok (.putfield 66, 3) := by decide +kernel
theorem dM_read_138 : decode bM_read 138 = .ok (.aload_n 0, 1) := by decide +kernel
theorem dM_read_139 : decode bM_read 139 = .ok (.getfield 200, 3) := by decide +kernel
theorem dM_read_142 : decode bM_read 142 = .ok (.ireturn, 1) := by decide +kernel
theorem dM_isSentence_0 : decode bM_isSentence 0 = .ok (.aload_n 0, 1) := by decide +kernel
theorem dM_isSentence_1 : decode bM_isSentence 1 = .ok (.iconst 0, 1) := by decide +kernel
theorem dM_isSentence_2 : decode bM_isSentence 2 = .ok (.putfield 166, 3) := by decide +kernel
theorem dM_isSentence_5 : decode bM_isSentence 5 = .ok (.aload_n 0, 1) := by decide +kernel
theorem dM_isSentence_6 : decode bM_isSentence 6 = .ok (.iconst 0, 1) := by decide +kernel
theorem dM_isSentence_7 : decode bM_isSentence 7 = .ok (.putfield 72, 3) := by decide +kernel
theorem dM_isSentence_10 : decode bM_isSentence 10 = .ok (.aload_n 0, 1) := by decide +kernel
theorem dM_isSentence_11 : decode bM_isSentence 11 = .ok (.iconst 0, 1) := by decide +kernel
theorem dM_isSentence_12 : decode bM_isSentence 12 = .ok (.putfield 75, 3) := by decide +kernel
theorem dM_isSentence_15 : decode bM_isSentence 15 = .ok (.aload_n 0, 1) := by decide +kernel
theorem dM_isSentence_16 : decode bM_isSentence 16 = .ok (.iconst 0, 1) := by decide +kernel
theorem dM_isSentence_17 : decode bM_isSentence 17 = .ok (.putfield 69, 3) := by decide +kernel
theorem dM_isSentence_20 : decode bM_isSentence 20 = .ok (.aload_n 0, 1) := by decide +kernel
theorem dM_isSentence_21 : decode bM_isSentence 21 = .ok (.iconst 0, 1) := by decide +kernel
theorem dM_isSentence_22 : decode bM_isSentence 22 = .ok (.putfield 98, 3) := by decide +kernel
theorem dM_isSentence_25 : decode bM_isSentence 25 = .ok (.iconst 0, 1) := by decide +kernel
theorem dM_isSentence_26 : decode bM_isSentence 26 = .ok (.istore_n 1, 1) := by decide +kernel
theorem dM_isSentence_27 : decode bM_isSentence 27 = .ok (.iload_n 1, 1) := by decide +kernel
theorem dM_isSentence_28 : decode bM_isSentence 28 = .ok (.bipush 6, 2) := by decide +kernel
theorem dM_isSentence_30 : decode bM_isSentence 30 = .ok (.if_icmp .ge 16, 3) := by decide +kernel
theorem dM_isSentence_33 : decode bM_isSentence 33 = .ok (.aload_n 0, 1) := by decide +kernel
theorem dM_isSentence_34 : decode bM_isSentence 34 = .ok (.getfield 48, 3) := by decide +kernel
theorem dM_isSentence_37 : decode bM_isSentence 37 = .ok (.iload_n 1, 1) := by decide +kernel
theorem dM_isSentence_38 : decode bM_isSentence 38 = .ok (.iconst (-1), 1) := by decide +kernel
theorem dM_isSentence_39 : decode bM_isSentence 39 = .ok (.iastore, 1) := by decide +kernel
theorem dM_isSentence_40 : decode bM_isSentence 40 = .ok (.iinc 1 1, 3) := by decide +kernel
theorem dM_isSentence_43 : decode bM_isSentence 43 = .ok (.goto (-16), 3) := by decide +kernel
theorem dM_isSentence_46 : decode bM_isSentence 46 = .ok (.aload_n 0, 1) := by decide +kernel
theorem dM_isSentence_47 : decode bM_isSentence 47 = .ok (.iconst 0, 1) := by decide +kernel
theorem dM_isSentence_48 : decode bM_isSentence 48 = .ok (.putfield 184, 3) := by decide +kernel
theorem dM_isSentence_51 : decode bM_isSentence 51 = .ok (.iconst 1, 1) := by decide +kernel
theorem dM_isSentence_52 : decode bM_isSentence 52 = .ok (.istore_n 1, 1) := by decide +kernel
theorem dM_isSentence_53 : decode bM_isSentence 53 = .ok (.iconst 0, 1) := by decide +kernel
theorem dM_isSentence_54 : decode bM_isSentence 54 = .ok (.istore_n 2, 1) := by decide +kernel
theorem dM_isSentence_55 : decode bM_isSentence 55 = .ok (.iload_n 2, 1) := by decide +kernel
theorem dM_isSentence_56 : decode bM_isSentence 56 = .ok (.aload_n 0, 1) := by decide +kernel
theorem dM_isSentence_57 : decode bM_isSentence 57 = .ok (.getfield 66, 3) := by decide +kernel
theorem dM_isSentence_60 : decode bM_isSentence 60 = .ok (.if_icmp .ge 74, 3) := by decide +kernel
theorem dM_isSentence_63 : decode bM_isSentence 63 = .ok (.aload_n 0, 1) := by decide +kernel
theorem dM_isSentence_64 : decode bM_isSentence 64 = .ok (.getfield 166, 3) := by decide +kernel
theorem dM_isSentence_67 : decode bM_isSentence 67 = .ok (.bipush 10, 2) := by decide +kernel
theorem dM_isSentence_69 : decode bM_isSentence 69 = .ok (.if_icmp .eq 65, 3) := by decide +kernel
theorem dM_isSentence_72 : decode bM_isSentence 72 = .ok (.aload_n 0, 1) := by decide +kernel
theorem dM_isSentence_73 : decode bM_isSentence 73 = .ok (.getfield 7, 3) := by decide +kernel
theorem dM_isSentence_76 : decode bM_isSentence 76 = .ok (.iload_n 2, 1) := by decide +kernel
theorem dM_isSentence_77 : decode bM_isSentence 77 = .ok (.caload, 1) := by decide +kernel
theorem dM_isSentence_78 : decode bM_isSentence 78 = .ok (.istore_n 3, 1) := by decide +kernel
theorem dM_isSentence_79 : decode bM_isSentence 79 = .ok (.iload_n 3, 1) := by decide +kernel
theorem dM_isSentence_80 : decode bM_isSentence 80 = .ok (.bipush 32, 2) := by decide +kernel
theorem dM_isSentence_82 : decode bM_isSentence 82 = .ok (.if_icmp .eq 46, 3) := by decide +kernel
theorem dM_isSentence_85 : decode bM_isSentence 85 = .ok (.aload_n 0, 1) := by decide +kernel
theorem dM_isSentence_86 : decode bM_isSentence 86 = .ok (.iload_n 1, 1) := by decide +kernel
theorem dM_isSentence_87 : decode bM_isSentence 87 = .ok (.ifCond .eq 23, 3) := by decide +kernel
theorem dM_isSentence_90 : decode bM_isSentence 90 = .ok (.iload_n 3, 1) := by decide +kernel
theorem dM_isSentence_91 : decode bM_isSentence 91 = .ok (.bipush 65, 2) := by decide +kernel
theorem dM_isSentence_93 : decode bM_isSentence 93 = .ok (.if_icmp .eq 9, 3) := by decide +kernel
theorem dM_isSentence_96 : decode bM_isSentence 96 = .ok (.iload_n 3, 1) := by decide +kernel
theorem dM_isSentence_97 : decode bM_isSentence 97 = .ok (.bipush 69, 2) := by decide +kernel
theorem dM_isSentence_99 : decode bM_isSentence 99 = .ok (.if_icmp .ne 7, 3) := by decide +kernel
theorem dM_isSentence_102 : decode bM_isSentence 102 = .ok (.iconst 1, 1) := by decide +kernel
theorem dM_isSentence_103 : decode bM_isSentence 103 = .ok (.goto 11, 3) := by decide +kernel
theorem dM_isSentence_106 : decode bM_isSentence 106 = .ok (.iconst 0, 1) := by decide +kernel
theorem dM_isSentence_107 : decode bM_isSentence 107 = .ok (.goto 7, 3) := by decide +kernel
theorem dM_isSentence_110 : decode bM_isSentence 110 = .ok (.aload_n 0, 1) := by decide +kernel
theorem dM_isSentence_111 : decode bM_isSentence 111 = .ok (.getfield 184, 3) := by decide +kernel
theorem dM_isSentence_114 : decode bM_isSentence 114 = .ok (.putfield 184, 3) := by decide +kernel
theorem dM_isSentence_117 : decode bM_isSentence 117 = .ok (.iconst 0, 1) := by decide +kernel
theorem dM_isSentence_118 : decode bM_isSentence 118 = .ok (.istore_n 1, 1) := by decide +kernel
theorem dM_isSentence_119 : decode bM_isSentence 119 = .ok (.aload_n 0, 1) := by decide +kernel
theorem dM_isSentence_120 : decode bM_isSentence 120 = .ok (.aload_n 0, 1) := by decide +kernel
theorem dM_isSentence_121 : decode bM_isSentence 121 = .ok (.iload_n 3, 1) := by decide +kernel
theorem dM_isSentence_122 : decode bM_isSentence 122 = .ok (.invokevirtual 187, 3) := by decide +kernel
theorem dM_isSentence_125 : decode bM_isSentence 125 = .ok (.putfield 166, 3) := by decide +kernel
theorem dM_isSentence_128 : decode bM_isSentence 128 = .ok (.iinc 2 1, 3) := by decide +kernel
theorem dM_isSentence_131 : decode bM_isSentence 131 = .ok (.goto (-76), 3) := by decide +kernel
theorem dM_isSentence_134 : decode bM_isSentence 134 = .ok (.aload_n 0, 1) := by decide +kernel
theorem dM_isSentence_135 : decode bM_isSentence 135 = .ok (.getfield 166, 3) := by decide +kernel
theorem dM_isSentence_138 : decode bM_isSentence 138 = .ok (.iconst 5, 1) := by decide +kernel
theorem dM_isSentence_139 : decode bM_isSentence 139 = .ok (.if_icmp .eq 12, 3) := by decide +kernel
theorem dM_isSentence_142 : decode bM_isSentence 142 = .ok (.aload_n 0, 1) := by decide +kernel
theorem dM_isSentence_143 : decode bM_isSentence 143 = .ok (.getfield 166, 3) := by decide +kernel
theorem dM_isSentence_146 : decode bM_isSentence 146 = .ok (.bipush 7, 2) := by decide +kernel
theorem dM_isSentence_148 : decode bM_isSentence 148 = .ok (.if_icmp .ne 37, 3) := by decide +kernel
theorem dM_isSentence_151 : decode bM_isSentence 151 = .ok (.aload_n 0, 1) := by decide +kernel
theorem dM_isSentence_152 : decode bM_isSentence 152 = .ok (.getfield 101, 3) := by decide +kernel
theorem dM_isSentence_155 : decode bM_isSentence 155 = .ok (.ifCond .le 7, 3) := by decide +kernel
theorem dM_isSentence_158 : decode bM_isSentence 158 = .ok (.iconst 1, 1) := by decide +kernel
theorem dM_isSentence_159 : decode bM_isSentence 159 = .ok (.goto 4, 3) := by decide +kernel
theorem dM_isSentence_162 : decode bM_isSentence 162 = .ok (.iconst 0, 1) := by decide +kernel
theorem dM_isSentence_163 : decode bM_isSentence 163 = .ok (.istore_n 2, 1) := by decide +kernel
theorem dM_isSentence_164 : decode bM_isSentence 164 = .ok (.aload_n 0, 1) := by decide +kernel
theorem dM_isSentence_165 : decode bM_isSentence 165 = .ok (.bipush 32, 2) := by decide +kernel
theorem dM_isSentence_167 : decode bM_isSentence 167 = .ok (.invokevirtual 187, 3) := by decide +kernel
theorem dM_isSentence_170 : decode bM_isSentence 170 = .ok (.pop, 1) := by decide +kernel
theorem dM_isSentence_171 : decode bM_isSentence 171 = .ok (.aload_n 0, 1) := by decide +kernel
theorem dM_isSentence_172 : decode bM_isSentence 172 = .ok (.iload_n 2, 1) := by decide +kernel
theorem dM_isSentence_173 : decode bM_isSentence 173 = .ok (.ifCond .eq 7, 3) := by decide +kernel
theorem dM_isSentence_176 : decode bM_isSentence 176 = .ok (.iconst 1, 1) := by decide +kernel
theorem dM_isSentence_177 : decode bM_isSentence 177 = .ok (.goto 5, 3) := by decide +kernel
theorem dM_isSentence_180 : decode bM_isSentence 180 = .ok (.bipush 10, 2) := by decide +kernel
theorem dM_isSentence_182 : decode bM_isSentence 182 = .ok (.putfield 166, 3) := by decide +kernel
theorem dM_isSentence_185 : decode bM_isSentence 185 = .ok (.aload_n 0, 1) := by decide +kernel
theorem dM_isSentence_186 : decode bM_isSentence 186 = .ok (.getfield 166, 3) := by decide +kernel
theorem dM_isSentence_189 : decode bM_isSentence 189 = .ok (.iconst 1, 1) := by decide +kernel
theorem dM_isSentence_190 : decode bM_isSentence 190 = .ok (.if_icmp .eq 5, 3) := by decide +kernel
theorem dM_isSentence_193 : decode bM_isSentence 193 = .ok (.iconst 0, 1) := by decide +kernel
theorem dM_isSentence_194 : decode bM_isSentence 194 = .ok (.ireturn, 1) := by decide +kernel
theorem dM_isSentence_195 : decode bM_isSentence 195 = .ok (.aload_n 0, 1) := by decide +kernel
theorem dM_isSentence_196 : decode bM_isSentence 196 = .ok (.iconst 2, 1) := by decide +kernel
theorem dM_isSentence_197 : decode bM_isSentence 197 = .ok (.iconst 1, 1) := by decide +kernel
theorem dM_isSentence_198 : decode bM_isSentence 198 = .ok (.invokevirtual 114, 3) := by decide +kernel
theorem dM_isSentence_201 : decode bM_isSentence 201 = .ok (.aload_n 0, 1) := by decide +kernel
theorem dM_isSentence_202 : decode bM_isSentence 202 = .ok (.getfield 72, 3) := by decide +kernel
theorem dM_isSentence_205 : decode bM_isSentence 205 = .ok (.ifCond .ne 7, 3) := by decide +kernel
theorem dM_isSentence_208 : decode bM_isSentence 208 = .ok (.iconst 1, 1) := by decide +kernel
theorem dM_isSentence_209 : decode bM_isSentence 209 = .ok (.goto 4, 3) := by decide +kernel
theorem dM_isSentence_212 : decode bM_isSentence 212 = .ok (.iconst 0, 1) := by decide +kernel
theorem dM_isSentence_213 : decode bM_isSentence 213 = .ok (.ireturn, 1) := by decide +kernel
theorem dM_next_0 : decode bM_next 0 = .ok (.aload_n 0, 1) := by decide +kernel
theorem dM_next_1 : decode bM_next 1 = .ok (.getfield 166, 3) := by decide +kernel
theorem dM_next_4 : decode bM_next 4 = .ok (.tableswitch 116 0 9 #[56, 62, 68, 74, 80, 86, 92, 98, 104, 110], 56) := by decide +kernel
theorem dM_next_60 : decode bM_next 60 = .ok (.aload_n 0, 1) := by decide +kernel
theorem dM_next_61 : decode bM_next 61 = .ok (.iload_n 1, 1) := by decide +kernel
theorem dM_next_62 : decode bM_next 62 = .ok (.invokevirtual 169, 3) := by decide +kernel
theorem dM_next_65 : decode bM_next 65 = .ok (.ireturn, 1) := by decide +kernel
theorem dM_next_66 : decode bM_next 66 = .ok (.aload_n 0, 1) := by decide +kernel
theorem dM_next_67 : decode bM_next 67 = .ok (.iload_n 1, 1) := by decide +kernel
theorem dM_next_68 : decode bM_next 68 = .ok (.invokevirtual 160, 3) := by decide +kernel
theorem dM_next_71 : decode bM_next 71 = .ok (.ireturn, 1) := by decide +kernel
theorem dM_next_72 : decode bM_next 72 = .ok (.aload_n 0, 1) := by decide +kernel
theorem dM_next_73 : decode bM_next 73 = .ok (.iload_n 1, 1) := by decide +kernel
theorem dM_next_74 : decode bM_next 74 = .ok (.invokevirtual 172, 3) := by decide +kernel
theorem dM_next_77 : decode bM_next 77 = .ok (.ireturn, 1) := by decide +kernel
theorem dM_next_78 : decode bM_next 78 = .ok (.aload_n 0, 1) := by decide +kernel
theorem dM_next_79 : decode bM_next 79 = .ok (.iload_n 1, 1) := by decide +kernel
theorem dM_next_80 : decode bM_next 80 = .ok (.invokevirtual 104, 3) := by decide +kernel
theorem dM_next_83 : decode bM_next 83 = .ok (.ireturn, 1) := by decide +kernel
theorem dM_next_84 : decode bM_next 84 = .ok (.aload_n 0, 1) := by decide +kernel
theorem dM_next_85 : decode bM_next 85 = .ok (.iload_n 1, 1) := by decide +kernel
theorem dM_next_86 : decode bM_next 86 = .ok (.invokevirtual 129, 3) := by decide +kernel
theorem dM_next_89 : decode bM_next 89 = .ok (.ireturn, 1) := by decide +kernel
theorem dM_next_90 : decode bM_next 90 = .ok (.aload_n 0, 1) := by decide +kernel
theorem dM_next_91 : decode bM_next 91 = .ok (.iload_n 1, 1) := by decide +kernel
theorem dM_next_92 : decode bM_next 92 = .ok (.invokevirtual 175, 3) := by decide +kernel
theorem dM_next_95 : decode bM_next 95 = .ok (.ireturn, 1) := by decide +kernel
theorem dM_next_96 : decode bM_next 96 = .ok (.aload_n 0, 1) := by decide +kernel
theorem dM_next_97 : decode bM_next 97 = .ok (.iload_n 1, 1) := by decide +kernel
theorem dM_next_98 : decode bM_next 98 = .ok (.invokevirtual 145, 3) := by decide +kernel
theorem dM_next_101 : decode bM_next 101 = .ok (.ireturn, 1) := by decide +kernel
theorem dM_next_102 : decode bM_next 102 = .ok (.aload_n 0, 1) := by decide +kernel
theorem dM_next_103 : decode bM_next 103 = .ok (.iload_n 1, 1) := by decide +kernel
theorem dM_next_104 : decode bM_next 104 = .ok (.invokevirtual 157, 3) := by decide +kernel
theorem dM_next_107 : decode bM_next 107 = .ok (.ireturn, 1) := by decide +kernel
theorem dM_next_108 : decode bM_next 108 = .ok (.aload_n 0, 1) := by decide +kernel
theorem dM_next_109 : decode bM_next 109 = .ok (.iload_n 1, 1) := by decide +kernel
theorem dM_next_110 : decode bM_next 110 = .ok (.invokevirtual 178, 3) := by decide +kernel
theorem dM_next_113 : decode bM_next 113 = .ok (.ireturn, 1) := by decide +kernel
theorem dM_next_114 : decode bM_next 114 = .ok (.aload_n 0, 1) := by decide +kernel
theorem dM_next_115 : decode bM_next 115 = .ok (.iload_n 1, 1) := by decide +kernel
theorem dM_next_116 : decode bM_next 116 = .ok (.invokevirtual 181, 3) := by decide +kernel
theorem dM_next_119 : decode bM_next 119 = .ok (.ireturn, 1) := by decide +kernel
theorem dM_next_120 : decode bM_next 120 = .ok (.bipush 10, 2) := by decide +kernel
theorem dM_next_122 : decode bM_next 122 = .ok (.ireturn, 1) := by decide +kernel
theorem dM_single_0 : decode bM_single 0 = .ok (.iload_n 1, 1) := by decide +kernel
theorem dM_single_1 : decode bM_single 1 = .ok (.invokestatic 108, 3) := by decide +kernel
theorem dM_single_4 : decode bM_single 4 = .ok (.istore_n 2, 1) := by decide +kernel
theorem dM_single_5 : decode bM_single 5 = .ok (.iload_n 1, 1) := by decide +kernel
theorem dM_single_6 : decode bM_single 6 = .ok (.bipush 45, 2) := by decide +kernel
theorem dM_single_8 : decode bM_single 8 = .ok (.if_icmp .ne 20, 3) := by decide +kernel
theorem dM_single_11 : decode bM_single 11 = .ok (.aload_n 0, 1) := by decide +kernel
theorem dM_single_12 : decode bM_single 12 = .ok (.bipush 9, 2) := by decide +kernel
theorem dM_single_14 : decode bM_single 14 = .ok (.invokevirtual 90, 3) := by decide +kernel
theorem dM_single_17 : decode bM_single 17 = .ok (.ifCond .eq 8, 3) := by decide +kernel
theorem dM_single_20 : decode bM_single 20 = .ok (.bipush 8, 2) := by decide +kernel
theorem dM_single_22 : decode bM_single 22 = .ok (.goto 5, 3) := by decide +kernel
theorem dM_single_25 : decode bM_single 25 = .ok (.bipush 10, 2) := by decide +kernel
theorem dM_single_27 : decode bM_single 27 = .ok (.ireturn, 1) := by decide +kernel
theorem dM_single_28 : decode bM_single 28 = .ok (.iload_n 1, 1) := by decide +kernel
theorem dM_single_29 : decode bM_single 29 = .ok (.bipush 40, 2) := by decide +kernel
theorem dM_single_31 : decode bM_single 31 = .ok (.if_icmp .ne 20, 3) := by decide +kernel
theorem dM_single_34 : decode bM_single 34 = .ok (.aload_n 0, 1) := by decide +kernel
theorem dM_single_35 : decode bM_single 35 = .ok (.bipush 10, 2) := by decide +kernel
theorem dM_single_37 : decode bM_single 37 = .ok (.invokevirtual 90, 3) := by decide +kernel
theorem dM_single_40 : decode bM_single 40 = .ok (.ifCond .eq 8, 3) := by decide +kernel
theorem dM_single_43 : decode bM_single 43 = .ok (.bipush 8, 2) := by decide +kernel
theorem dM_single_45 : decode bM_single 45 = .ok (.goto 5, 3) := by decide +kernel
theorem dM_single_48 : decode bM_single 48 = .ok (.bipush 10, 2) := by decide +kernel
theorem dM_single_50 : decode bM_single 50 = .ok (.ireturn, 1) := by decide +kernel
theorem dM_single_51 : decode bM_single 51 = .ok (.iload_n 1, 1) := by decide +kernel
theorem dM_single_52 : decode bM_single 52 = .ok (.bipush 48, 2) := by decide +kernel
theorem dM_single_54 : decode bM_single 54 = .ok (.if_icmp .eq 9, 3) := by decide +kernel
theorem dM_single_57 : decode bM_single 57 = .ok (.iload_n 1, 1) := by decide +kernel
theorem dM_single_58 : decode bM_single 58 = .ok (.bipush 49, 2) := by decide +kernel
theorem dM_single_60 : decode bM_single 60 = .ok (.if_icmp .ne 24, 3) := by decide +kernel
theorem dM_single_63 : decode bM_single 63 = .ok (.aload_n 0, 1) := by decide +kernel
theorem dM_single_64 : decode bM_single 64 = .ok (.iload_n 1, 1) := by decide +kernel
theorem dM_single_65 : decode bM_single 65 = .ok (.bipush 48, 2) := by decide +kernel
theorem dM_single_67 : decode bM_single 67 = .ok (.if_icmp .ne 8, 3) := by decide +kernel
theorem dM_single_70 : decode bM_single 70 = .ok (.bipush 23, 2) := by decide +kernel
theorem dM_single_72 : decode bM_single 72 = .ok (.goto 5, 3) := by decide +kernel
theorem dM_single_75 : decode bM_single 75 = .ok (.bipush 24, 2) := by decide +kernel
theorem dM_single_77 : decode bM_single 77 = .ok (.iconst 0, 1) := by decide +kernel
theorem dM_single_78 : decode bM_single 78 = .ok (.invokevirtual 86, 3) := by decide +kernel
theorem dM_single_81 : decode bM_single 81 = .ok (.goto 35, 3) := by decide +kernel
theorem dM_single_84 : decode bM_single 84 = .ok (.iload_n 2, 1) := by decide +kernel
theorem dM_single_85 : decode bM_single 85 = .ok (.iconst 2, 1) := by decide +kernel
theorem dM_single_86 : decode bM_single 86 = .ok (.if_icmp .le 27, 3) := by decide +kernel
theorem dM_single_89 : decode bM_single 89 = .ok (.aload_n 0, 1) := by decide +kernel
theorem dM_single_90 : decode bM_single 90 = .ok (.getfield 48, 3) := by decide +kernel
theorem dM_single_93 : decode bM_single 93 = .ok (.iload_n 2, 1) := by decide +kernel
theorem dM_single_94 : decode bM_single 94 = .ok (.iaload, 1) := by decide +kernel
theorem dM_single_95 : decode bM_single 95 = .ok (.ifCond .lt 18, 3) := by decide +kernel
theorem dM_single_98 : decode bM_single 98 = .ok (.aload_n 0, 1) := by decide +kernel
theorem dM_single_99 : decode bM_single 99 = .ok (.bipush 14, 2) := by decide +kernel
theorem dM_single_101 : decode bM_single 101 = .ok (.aload_n 0, 1) := by decide +kernel
theorem dM_single_102 : decode bM_single 102 = .ok (.getfield 48, 3) := by decide +kernel
theorem dM_single_105 : decode bM_single 105 = .ok (.iload_n 2, 1) := by decide +kernel
theorem dM_single_106 : decode bM_single 106 = .ok (.iaload, 1) := by decide +kernel
theorem dM_single_107 : decode bM_single 107 = .ok (.invokevirtual 86, 3) := by decide +kernel
theorem dM_single_110 : decode bM_single 110 = .ok (.goto 6, 3) := by decide +kernel
theorem dM_single_113 : decode bM_single 113 = .ok (.bipush 10, 2) := by decide +kernel
theorem dM_single_115 : decode bM_single 115 = .ok (.ireturn, 1) := by decide +kernel
theorem dM_single_116 : decode bM_single 116 = .ok (.aload_n 0, 1) := by decide +kernel
theorem dM_single_117 : decode bM_single 117 = .ok (.invokevirtual 163, 3) := by decide +kernel
theorem dM_single_120 : decode bM_single 120 = .ok (.ireturn, 1) := by decide +kernel
theorem dM_wholeSingle_0 : decode bM_wholeSingle 0 = .ok (.aload_n 0, 1) := by decide +kernel
theorem dM_wholeSingle_1 : decode bM_wholeSingle 1 = .ok (.invokevirtual 82, 3) := by decide +kernel
theorem dM_wholeSingle_4 : decode bM_wholeSingle 4 = .ok (.bipush 9, 2) := by decide +kernel
theorem dM_wholeSingle_6 : decode bM_wholeSingle 6 = .ok (.if_icmp .ne 17, 3) := by decide +kernel
theorem dM_wholeSingle_9 : decode bM_wholeSingle 9 = .ok (.aload_n 0, 1) := by decide +kernel
theorem dM_wholeSingle_10 : decode bM_wholeSingle 10 = .ok (.bipush 9, 2) := by decide +kernel
theorem dM_wholeSingle_12 : decode bM_wholeSingle 12 = .ok (.iconst 0, 1) := by decide +kernel
theorem dM_wholeSingle_13 : decode bM_wholeSingle 13 = .ok (.invokevirtual 86, 3) := by decide +kernel
theorem dM_wholeSingle_16 : decode bM_wholeSingle 16 = .ok (.aload_n 0, 1) := by decide +kernel
theorem dM_wholeSingle_17 : decode bM_wholeSingle 17 = .ok (.invokevirtual 111, 3) := by decide +kernel
theorem dM_wholeSingle_20 : decode bM_wholeSingle 20 = .ok (.goto (-20), 3) := by decide +kernel
theorem dM_wholeSingle_23 : decode bM_wholeSingle 23 = .ok (.aload_n 0, 1) := by decide +kernel
theorem dM_wholeSingle_24 : decode bM_wholeSingle 24 = .ok (.invokevirtual 82, 3) := by decide +kernel
theorem dM_wholeSingle_27 : decode bM_wholeSingle 27 = .ok (.bipush 11, 2) := by decide +kernel
theorem dM_wholeSingle_29 : decode bM_wholeSingle 29 = .ok (.if_icmp .eq 6, 3) := by decide +kernel
theorem dM_wholeSingle_32 : decode bM_wholeSingle 32 = .ok (.bipush 9, 2) := by decide +kernel
theorem dM_wholeSingle_34 : decode bM_wholeSingle 34 = .ok (.ireturn, 1) := by decide +kernel
theorem dM_wholeSingle_35 : decode bM_wholeSingle 35 = .ok (.aload_n 0, 1) := by decide +kernel
theorem dM_wholeSingle_36 : decode bM_wholeSingle 36 = .ok (.bipush 11, 2) := by decide +kernel
theorem dM_wholeSingle_38 : decode bM_wholeSingle 38 = .ok (.iconst 0, 1) := by decide +kernel
theorem dM_wholeSingle_39 : decode bM_wholeSingle 39 = .ok (.invokevirtual 86, 3) := by decide +kernel
theorem dM_wholeSingle_42 : decode bM_wholeSingle 42 = .ok (.aload_n 0, 1) := by decide +kernel
theorem dM_wholeSingle_43 : decode bM_wholeSingle 43 = .ok (.invokevirtual 111, 3) := by decide +kernel
theorem dM_wholeSingle_46 : decode bM_wholeSingle 46 = .ok (.aload_n 0, 1) := by decide +kernel
theorem dM_wholeSingle_47 : decode bM_wholeSingle 47 = .ok (.invokevirtual 154, 3) := by decide +kernel
theorem dM_wholeSingle_50 : decode bM_wholeSingle 50 = .ok (.bipush 7, 2) := by decide +kernel
theorem dM_wholeSingle_52 : decode bM_wholeSingle 52 = .ok (.ireturn, 1) := by decide +kernel
theorem dM_afterSingle_0 : decode bM_afterSingle 0 = .ok (.iload_n 1, 1) := by decide +kernel
theorem dM_afterSingle_1 : decode bM_afterSingle 1 = .ok (.bipush 42, 2) := by decide +kernel
theorem dM_afterSingle_3 : decode bM_afterSingle 3 = .ok (.if_icmp .ne 20, 3) := by decide +kernel
theorem dM_afterSingle_6 : decode bM_afterSingle 6 = .ok (.aload_n 0, 1) := by decide +kernel
theorem dM_afterSingle_7 : decode bM_afterSingle 7 = .ok (.bipush 8, 2) := by decide +kernel
theorem dM_afterSingle_9 : decode bM_afterSingle 9 = .ok (.bipush 8, 2) := by decide +kernel
theorem dM_afterSingle_11 : decode bM_afterSingle 11 = .ok (.invokevirtual 114, 3) := by decide +kernel
theorem dM_afterSingle_14 : decode bM_afterSingle 14 = .ok (.aload_n 0, 1) := by decide +kernel
theorem dM_afterSingle_15 : decode bM_afterSingle 15 = .ok (.bipush 8, 2) := by decide +kernel
theorem dM_afterSingle_17 : decode bM_afterSingle 17 = .ok (.invokevirtual 78, 3) := by decide +kernel
theorem dM_afterSingle_20 : decode bM_afterSingle 20 = .ok (.bipush 8, 2) := by decide +kernel
theorem dM_afterSingle_22 : decode bM_afterSingle 22 = .ok (.ireturn, 1) := by decide +kernel
theorem dM_afterSingle_23 : decode bM_afterSingle 23 = .ok (.aload_n 0, 1) := by decide +kernel
theorem dM_afterSingle_24 : decode bM_afterSingle 24 = .ok (.bipush 8, 2) := by decide +kernel
theorem dM_afterSingle_26 : decode bM_afterSingle 26 = .ok (.bipush 7, 2) := by decide +kernel
theorem dM_afterSingle_28 : decode bM_afterSingle 28 = .ok (.invokevirtual 114, 3) := by decide +kernel
theorem dM_afterSingle_31 : decode bM_afterSingle 31 = .ok (.iload_n 1, 1) := by decide +kernel
theorem dM_afterSingle_32 : decode bM_afterSingle 32 = .ok (.bipush 43, 2) := by decide +kernel
theorem dM_afterSingle_34 : decode bM_afterSingle 34 = .ok (.if_icmp .ne 12, 3) := by decide +kernel
theorem dM_afterSingle_37 : decode bM_afterSingle 37 = .ok (.aload_n 0, 1) := by decide +kernel
theorem dM_afterSingle_38 : decode bM_afterSingle 38 = .ok (.bipush 7, 2) := by decide +kernel
theorem dM_afterSingle_40 : decode bM_afterSingle 40 = .ok (.invokevirtual 78, 3) := by decide +kernel
theorem dM_afterSingle_43 : decode bM_afterSingle 43 = .ok (.bipush 8, 2) := by decide +kernel
theorem dM_afterSingle_45 : decode bM_afterSingle 45 = .ok (.ireturn, 1) := by decide +kernel
theorem dM_afterSingle_46 : decode bM_afterSingle 46 = .ok (.iload_n 1, 1) := by decide +kernel
theorem dM_afterSingle_47 : decode bM_afterSingle 47 = .ok (.bipush 41, 2) := by decide +kernel
theorem dM_afterSingle_49 : decode bM_afterSingle 49 = .ok (.if_icmp .ne 21, 3) := by decide +kernel
theorem dM_afterSingle_52 : decode bM_afterSingle 52 = .ok (.aload_n 0, 1) := by decide +kernel
theorem dM_afterSingle_53 : decode bM_afterSingle 53 = .ok (.invokevirtual 82, 3) := by decide +kernel
theorem dM_afterSingle_56 : decode bM_afterSingle 56 = .ok (.bipush 10, 2) := by decide +kernel
theorem dM_afterSingle_58 : decode bM_afterSingle 58 = .ok (.if_icmp .ne 12, 3) := by decide +kernel
theorem dM_afterSingle_61 : decode bM_afterSingle 61 = .ok (.aload_n 0, 1) := by decide +kernel
theorem dM_afterSingle_62 : decode bM_afterSingle 62 = .ok (.invokevirtual 111, 3) := by decide +kernel
theorem dM_afterSingle_65 : decode bM_afterSingle 65 = .ok (.aload_n 0, 1) := by decide +kernel
theorem dM_afterSingle_66 : decode bM_afterSingle 66 = .ok (.invokevirtual 163, 3) := by decide +kernel
theorem dM_afterSingle_69 : decode bM_afterSingle 69 = .ok (.ireturn, 1) := by decide +kernel
theorem dM_afterSingle_70 : decode bM_afterSingle 70 = .ok (.aload_n 0, 1) := by decide +kernel
theorem dM_afterSingle_71 : decode bM_afterSingle 71 = .ok (.invokevirtual 82, 3) := by decide +kernel
theorem dM_afterSingle_74 : decode bM_afterSingle 74 = .ok (.bipush 6, 2) := by decide +kernel
theorem dM_afterSingle_76 : decode bM_afterSingle 76 = .ok (.if_icmp .eq 6, 3) := by decide +kernel
theorem dM_afterSingle_79 : decode bM_afterSingle 79 = .ok (.bipush 10, 2) := by decide +kernel
theorem dM_afterSingle_81 : decode bM_afterSingle 81 = .ok (.ireturn, 1) := by decide +kernel
theorem dM_afterSingle_82 : decode bM_afterSingle 82 = .ok (.aload_n 0, 1) := by decide +kernel
theorem dM_afterSingle_83 : decode bM_afterSingle 83 = .ok (.getfield 101, 3) := by decide +kernel
theorem dM_afterSingle_86 : decode bM_afterSingle 86 = .ok (.ifCond .ne 43, 3) := by decide +kernel
theorem dM_afterSingle_89 : decode bM_afterSingle 89 = .ok (.aload_n 0, 1) := by decide +kernel
theorem dM_afterSingle_90 : decode bM_afterSingle 90 = .ok (.iload_n 1, 1) := by decide +kernel
theorem dM_afterSingle_91 : decode bM_afterSingle 91 = .ok (.bipush 60, 2) := by decide +kernel
theorem dM_afterSingle_93 : decode bM_afterSingle 93 = .ok (.if_icmp .ne 7, 3) := by decide +kernel
theorem dM_afterSingle_96 : decode bM_afterSingle 96 = .ok (.iconst 1, 1) := by decide +kernel
theorem dM_afterSingle_97 : decode bM_afterSingle 97 = .ok (.goto 14, 3) := by decide +kernel
theorem dM_afterSingle_100 : decode bM_afterSingle 100 = .ok (.iload_n 1, 1) := by decide +kernel
theorem dM_afterSingle_101 : decode bM_afterSingle 101 = .ok (.bipush 61, 2) := by decide +kernel
theorem dM_afterSingle_103 : decode bM_afterSingle 103 = .ok (.if_icmp .ne 7, 3) := by decide +kernel
theorem dM_afterSingle_106 : decode bM_afterSingle 106 = .ok (.iconst 2, 1) := by decide +kernel
theorem dM_afterSingle_107 : decode bM_afterSingle 107 = .ok (.goto 4, 3) := by decide +kernel
theorem dM_afterSingle_110 : decode bM_afterSingle 110 = .ok (.iconst 0, 1) := by decide +kernel
theorem dM_afterSingle_111 : decode bM_afterSingle 111 = .ok (.putfield 101, 3) := by decide +kernel
theorem dM_afterSingle_114 : decode bM_afterSingle 114 = .ok (.aload_n 0, 1) := by decide +kernel
theorem dM_afterSingle_115 : decode bM_afterSingle 115 = .ok (.getfield 101, 3) := by decide +kernel
theorem dM_afterSingle_118 : decode bM_afterSingle 118 = .ok (.ifCond .le 8, 3) := by decide +kernel
theorem dM_afterSingle_121 : decode bM_afterSingle 121 = .ok (.bipush 8, 2) := by decide +kernel
theorem dM_afterSingle_123 : decode bM_afterSingle 123 = .ok (.goto 5, 3) := by decide +kernel
theorem dM_afterSingle_126 : decode bM_afterSingle 126 = .ok (.bipush 10, 2) := by decide +kernel
theorem dM_afterSingle_128 : decode bM_afterSingle 128 = .ok (.ireturn, 1) := by decide +kernel
theorem dM_afterSingle_129 : decode bM_afterSingle 129 = .ok (.aload_n 0, 1) := by decide +kernel
theorem dM_afterSingle_130 : decode bM_afterSingle 130 = .ok (.dup, 1) := by decide +kernel
theorem dM_afterSingle_131 : decode bM_afterSingle 131 = .ok (.getfield 72, 3) := by decide +kernel
theorem dM_afterSingle_134 : decode bM_afterSingle 134 = .ok (.iconst 1, 1) := by decide +kernel
theorem dM_afterSingle_135 : decode bM_afterSingle 135 = .ok (.isub, 1) := by decide +kernel
theorem dM_afterSingle_136 : decode bM_afterSingle 136 = .ok (.putfield 72, 3) := by decide +kernel
theorem dM_afterSingle_139 : decode bM_afterSingle 139 = .ok (.aload_n 0, 1) := by decide +kernel
theorem dM_afterSingle_140 : decode bM_afterSingle 140 = .ok (.aload_n 0, 1) := by decide +kernel
theorem dM_afterSingle_141 : decode bM_afterSingle 141 = .ok (.getfield 101, 3) := by decide +kernel
theorem dM_afterSingle_144 : decode bM_afterSingle 144 = .ok (.iconst 1, 1) := by decide +kernel
theorem dM_afterSingle_145 : decode bM_afterSingle 145 = .ok (.if_icmp .ne 8, 3) := by decide +kernel
theorem dM_afterSingle_148 : decode bM_afterSingle 148 = .ok (.bipush 22, 2) := by decide +kernel
theorem dM_afterSingle_150 : decode bM_afterSingle 150 = .ok (.goto 5, 3) := by decide +kernel
theorem dM_afterSingle_153 : decode bM_afterSingle 153 = .ok (.bipush 20, 2) := by decide +kernel
theorem dM_afterSingle_155 : decode bM_afterSingle 155 = .ok (.iconst 0, 1) := by decide +kernel
theorem dM_afterSingle_156 : decode bM_afterSingle 156 = .ok (.invokevirtual 86, 3) := by decide +kernel
theorem dM_afterSingle_159 : decode bM_afterSingle 159 = .ok (.iload_n 1, 1) := by decide +kernel
theorem dM_afterSingle_160 : decode bM_afterSingle 160 = .ok (.bipush 93, 2) := by decide +kernel
theorem dM_afterSingle_162 : decode bM_afterSingle 162 = .ok (.if_icmp .ne 10, 3) := by decide +kernel
theorem dM_afterSingle_165 : decode bM_afterSingle 165 = .ok (.aload_n 0, 1) := by decide +kernel
theorem dM_afterSingle_166 : decode bM_afterSingle 166 = .ok (.invokevirtual 117, 3) := by decide +kernel
theorem dM_afterSingle_169 : decode bM_afterSingle 169 = .ok (.goto 5, 3) := by decide +kernel
theorem dM_afterSingle_172 : decode bM_afterSingle 172 = .ok (.bipush 10, 2) := by decide +kernel
theorem dM_afterSingle_174 : decode bM_afterSingle 174 = .ok (.ireturn, 1) := by decide +kernel
section
variable {p : Program} {l : Launch} {e : Env} {R : Room} {s : State} {m : MethodId} {args : Array Value} {below : List Frame} {meth : Method} {c : Code} {G : Gx} {M0 M' : Mem} {r : Option Value ⊕ Nat} {d : Nat} {C : Cx}

def fM_read_95 (n d : Nat) (C : Cx) : Nat → Nat → Int32 → Mem → Rz
  | 0, _, _, _ => none
  | w + 1, a0, x2, M => if mK M a0 = 5 then (if (mI M a0 5) ≤ x2 then (rzM (setI M a0 1 0) fun M_3 => (some (.inl (some (.int (mI M_3 a0 5))), M_3))) else (rzD (mP M a0 16) fun a_6 => (if mK M a_6 = 23 then (if inA x2 (mL M a_6) then (rzD (mP M a0 8) fun a_10 => (if mK M a_10 = 23 then (if inA x2 (mL M a_10) then (if fits .boolean (.int (mI M a_6 x2.toNatClampNeg)) = true then (rzM (setI M a_10 x2.toNatClampNeg (mI M a_6 x2.toNatClampNeg)) fun M_15 => (rzD (mP M_15 a0 17) fun a_20 => (if mK M_15 a_20 = 23 then (if inA x2 (mL M_15 a_20) then (rzD (mP M_15 a0 9) fun a_24 => (if mK M_15 a_24 = 23 then (if inA x2 (mL M_15 a_24) then (if fits .boolean (.int (mI M_15 a_20 x2.toNatClampNeg)) = true then (rzM (setI M_15 a_24 x2.toNatClampNeg (mI M_15 a_20 x2.toNatClampNeg)) fun M_29 => (fM_read_95 n d C w a0 (x2 + 1) M_29)) else none) else none) else none)) else none) else none))) else none) else none) else none)) else none) else none))) else none
set_option maxRecDepth 100000 in
set_option maxHeartbeats 4000000 in
theorem tM_read_95 {n : Nat} (F : FX p s m meth c G R M0 d "HeadCountModel" bM_read 3 (some .int)) (hC : CBs l G d C) : ∀ (w : Nat) (a0 : Nat) (x2 : Int32) (M : Mem) (H : Heap) (locs : List Loc) (cells slots : Nat) (ls : Array Slot), fM_read_95 n d C w a0 x2 M = some (r, M') → RL G M0 M H locs cells slots → lv_has ls 3 [(0, .ref a0), (2, .int x2)] → W p l e R s m args below meth c H locs cells slots (CQ G below s M0 r M') (F0 m 95 ls []) := by
  obtain ⟨hx, hb, hml, hown, hrt, hlk, hex, hK, hRm⟩ := id F
  intro w
  induction w with
  | zero => intro a0 x2 M H locs cells slots ls h; cases h
  | succ w ih =>
    intro a0 x2 M H locs cells slots ls h hR hl
    rw [fM_read_95] at h
    refine lv_iload_n hx hb dM_read_95 rfl (lv_at hl 1 rfl) ?_
    refine lv_aload_n hx hb dM_read_96 rfl (lv_at hl 0 rfl) ?_
    obtain ⟨c_1, h⟩ := rz_chk h
    refine rg_getI hx hb hown hK hR hk_M 5 (by decide) kf_M_200 rfl c_1 dM_read_97 ?_
    refine lv_icmp_ge (tgt := 133) hx hb dM_read_100 (by decide) (fun c_2 => ?_) (fun c_2 => ?_)
    · replace h := rz_t c_2 h
      refine lv_aload_n hx hb dM_read_133 rfl (lv_at hl 0 rfl) ?_
      refine lv_iconst (v := 0) hx hb dM_read_134 (by decide) ?_
      obtain ⟨M_3, q_4, h⟩ := rz_m h
      refine rg_putI hx hb hown hK hR hk_M 1 (by decide) kf_M_66 rfl rfl (ty := .int) (by decide +kernel) (Or.inl rfl) rfl c_1 dM_read_135 (fun H locs hR => ?_)
      rw [← q_4] at hR
      have c_5 : mK M_3 a0 = 5 := by rw [q_4]; exact c_1
      refine lv_aload_n hx hb dM_read_138 rfl (lv_at hl 0 rfl) ?_
      refine rg_getI hx hb hown hK hR hk_M 5 (by decide) kf_M_200 rfl c_5 dM_read_139 ?_
      cases h
      exact rt_i hx hb hlk hrt (Or.inl rfl) rfl hR dM_read_142
    · replace h := rz_f c_2 h
      refine lv_aload_n hx hb dM_read_103 rfl (lv_at hl 0 rfl) ?_
      refine rg_getP hx hb hown hK hR hk_M 8 (by decide) kf_M_20 rfl c_1 dM_read_104 ?_
      refine lv_iload_n hx hb dM_read_107 rfl (lv_at hl 1 rfl) ?_
      refine lv_aload_n hx hb dM_read_108 rfl (lv_at hl 0 rfl) ?_
      refine rg_getP hx hb hown hK hR hk_M 16 (by decide) kf_M_33 rfl c_1 dM_read_109 ?_
      refine lv_iload_n hx hb dM_read_112 rfl (lv_at hl 1 rfl) ?_
      obtain ⟨a_6, e_7, h⟩ := rz_d h
      rw [e_7]
      obtain ⟨c_8, h⟩ := rz_chk h
      obtain ⟨c_9, h⟩ := rz_chk h
      refine rg_zald hx hb hK hR c_8 c_9 dM_read_113 ?_
      obtain ⟨a_10, e_11, h⟩ := rz_d h
      rw [e_11]
      obtain ⟨c_12, h⟩ := rz_chk h
      obtain ⟨c_13, h⟩ := rz_chk h
      obtain ⟨c_14, h⟩ := rz_chk h
      obtain ⟨M_15, q_16, h⟩ := rz_m h
      refine rg_zast hx hb hK hR c_12 c_13 c_14 dM_read_114 (fun H locs hR => ?_)
      rw [← q_16] at hR
      have c_17 : mK M_15 a0 = 5 := by rw [q_16]; exact c_1
      have c_18 : mK M_15 a_6 = 23 := by rw [q_16]; exact c_8
      have c_19 : mK M_15 a_10 = 23 := by rw [q_16]; exact c_12
      refine lv_aload_n hx hb dM_read_115 rfl (lv_at hl 0 rfl) ?_
      refine rg_getP hx hb hown hK hR hk_M 9 (by decide) kf_M_24 rfl c_17 dM_read_116 ?_
      refine lv_iload_n hx hb dM_read_119 rfl (lv_at hl 1 rfl) ?_
      refine lv_aload_n hx hb dM_read_120 rfl (lv_at hl 0 rfl) ?_
      refine rg_getP hx hb hown hK hR hk_M 17 (by decide) kf_M_36 rfl c_17 dM_read_121 ?_
      refine lv_iload_n hx hb dM_read_124 rfl (lv_at hl 1 rfl) ?_
      obtain ⟨a_20, e_21, h⟩ := rz_d h
      rw [e_21]
      obtain ⟨c_22, h⟩ := rz_chk h
      obtain ⟨c_23, h⟩ := rz_chk h
      refine rg_zald hx hb hK hR c_22 c_23 dM_read_125 ?_
      obtain ⟨a_24, e_25, h⟩ := rz_d h
      rw [e_25]
      obtain ⟨c_26, h⟩ := rz_chk h
      obtain ⟨c_27, h⟩ := rz_chk h
      obtain ⟨c_28, h⟩ := rz_chk h
      obtain ⟨M_29, q_30, h⟩ := rz_m h
      refine rg_zast hx hb hK hR c_26 c_27 c_28 dM_read_126 (fun H locs hR => ?_)
      rw [← q_30] at hR
      have c_31 : mK M_29 a0 = 5 := by rw [q_30]; exact c_17
      have c_32 : mK M_29 a_6 = 23 := by rw [q_30]; exact c_18
      have c_33 : mK M_29 a_10 = 23 := by rw [q_30]; exact c_19
      have c_34 : mK M_29 a_20 = 23 := by rw [q_30]; exact c_22
      have c_35 : mK M_29 a_24 = 23 := by rw [q_30]; exact c_26
      refine lv_iinc (k := 1) (v := x2 + 1) (lv' := [(2, .int (x2 + 1)), (0, .ref a0)]) hx hb dM_read_127 hl rfl (by rw [show Int32.ofInt 1 = 1 from by decide]) (by decide) rfl (fun ls hl => ?_)
      refine lv_goto (tgt := 95) hx hb dM_read_130 (by decide) ?_
      exact ih a0 (x2 + 1) _ _ _ _ _ _ h hR (lv_sub hl [1, 0] rfl)
def fM_read_55 (n d : Nat) (C : Cx) : Nat → Nat → Int32 → Mem → Rz
  | 0, _, _, _ => none
  | w + 1, a0, x2, M => if mK M a0 = 5 then (if (mI M a0 4) ≤ x2 then (fM_read_95 n d C n a0 0 M) else (rzD (mP M a0 14) fun a_3 => (if mK M a_3 = 21 then (if inA x2 (mL M a_3) then (rzD (mP M a0 6) fun a_7 => (if mK M a_7 = 21 then (if inA x2 (mL M a_7) then (rzM (setI M a_7 x2.toNatClampNeg (mI M a_3 x2.toNatClampNeg)) fun M_11 => (rzD (mP M_11 a0 15) fun a_16 => (if mK M_11 a_16 = 21 then (if inA x2 (mL M_11 a_16) then (rzD (mP M_11 a0 7) fun a_20 => (if mK M_11 a_20 = 21 then (if inA x2 (mL M_11 a_20) then (rzM (setI M_11 a_20 x2.toNatClampNeg (mI M_11 a_16 x2.toNatClampNeg)) fun M_24 => (fM_read_55 n d C w a0 (x2 + 1) M_24)) else none) else none)) else none) else none))) else none) else none)) else none) else none))) else none
set_option maxRecDepth 100000 in
set_option maxHeartbeats 4000000 in
theorem tM_read_55 {n : Nat} (F : FX p s m meth c G R M0 d "HeadCountModel" bM_read 3 (some .int)) (hC : CBs l G d C) : ∀ (w : Nat) (a0 : Nat) (x2 : Int32) (M : Mem) (H : Heap) (locs : List Loc) (cells slots : Nat) (ls : Array Slot), fM_read_55 n d C w a0 x2 M = some (r, M') → RL G M0 M H locs cells slots → lv_has ls 3 [(0, .ref a0), (2, .int x2)] → W p l e R s m args below meth c H locs cells slots (CQ G below s M0 r M') (F0 m 55 ls []) := by
  obtain ⟨hx, hb, hml, hown, hrt, hlk, hex, hK, hRm⟩ := id F
  intro w
  induction w with
  | zero => intro a0 x2 M H locs cells slots ls h; cases h
  | succ w ih =>
    intro a0 x2 M H locs cells slots ls h hR hl
    rw [fM_read_55] at h
    refine lv_iload_n hx hb dM_read_55 rfl (lv_at hl 1 rfl) ?_
    refine lv_aload_n hx hb dM_read_56 rfl (lv_at hl 0 rfl) ?_
    obtain ⟨c_1, h⟩ := rz_chk h
    refine rg_getI hx hb hown hK hR hk_M 4 (by decide) kf_M_197 rfl c_1 dM_read_57 ?_
    refine lv_icmp_ge (tgt := 93) hx hb dM_read_60 (by decide) (fun c_2 => ?_) (fun c_2 => ?_)
    · replace h := rz_t c_2 h
      refine lv_iconst (v := 0) hx hb dM_read_93 (by decide) ?_
      refine lv_istore_n (lv' := [(2, .int 0), (0, .ref a0)]) hx hb dM_read_94 rfl hl (by decide) rfl (fun ls hl => ?_)
      exact tM_read_95 F hC n a0 0 _ _ _ _ _ _ h hR (lv_sub hl [1, 0] rfl)
    · replace h := rz_f c_2 h
      refine lv_aload_n hx hb dM_read_63 rfl (lv_at hl 0 rfl) ?_
      refine rg_getP hx hb hown hK hR hk_M 6 (by decide) kf_M_13 rfl c_1 dM_read_64 ?_
      refine lv_iload_n hx hb dM_read_67 rfl (lv_at hl 1 rfl) ?_
      refine lv_aload_n hx hb dM_read_68 rfl (lv_at hl 0 rfl) ?_
      refine rg_getP hx hb hown hK hR hk_M 14 (by decide) kf_M_27 rfl c_1 dM_read_69 ?_
      refine lv_iload_n hx hb dM_read_72 rfl (lv_at hl 1 rfl) ?_
      obtain ⟨a_3, e_4, h⟩ := rz_d h
      rw [e_4]
      obtain ⟨c_5, h⟩ := rz_chk h
      obtain ⟨c_6, h⟩ := rz_chk h
      refine rg_iald hx hb hK hR c_5 c_6 dM_read_73 ?_
      obtain ⟨a_7, e_8, h⟩ := rz_d h
      rw [e_8]
      obtain ⟨c_9, h⟩ := rz_chk h
      obtain ⟨c_10, h⟩ := rz_chk h
      obtain ⟨M_11, q_12, h⟩ := rz_m h
      refine rg_iast hx hb hK hR c_9 c_10 dM_read_74 (fun H locs hR => ?_)
      rw [← q_12] at hR
      have c_13 : mK M_11 a0 = 5 := by rw [q_12]; exact c_1
      have c_14 : mK M_11 a_3 = 21 := by rw [q_12]; exact c_5
      have c_15 : mK M_11 a_7 = 21 := by rw [q_12]; exact c_9
      refine lv_aload_n hx hb dM_read_75 rfl (lv_at hl 0 rfl) ?_
      refine rg_getP hx hb hown hK hR hk_M 7 (by decide) kf_M_17 rfl c_13 dM_read_76 ?_
      refine lv_iload_n hx hb dM_read_79 rfl (lv_at hl 1 rfl) ?_
      refine lv_aload_n hx hb dM_read_80 rfl (lv_at hl 0 rfl) ?_
      refine rg_getP hx hb hown hK hR hk_M 15 (by decide) kf_M_30 rfl c_13 dM_read_81 ?_
      refine lv_iload_n hx hb dM_read_84 rfl (lv_at hl 1 rfl) ?_
      obtain ⟨a_16, e_17, h⟩ := rz_d h
      rw [e_17]
      obtain ⟨c_18, h⟩ := rz_chk h
      obtain ⟨c_19, h⟩ := rz_chk h
      refine rg_iald hx hb hK hR c_18 c_19 dM_read_85 ?_
      obtain ⟨a_20, e_21, h⟩ := rz_d h
      rw [e_21]
      obtain ⟨c_22, h⟩ := rz_chk h
      obtain ⟨c_23, h⟩ := rz_chk h
      obtain ⟨M_24, q_25, h⟩ := rz_m h
      refine rg_iast hx hb hK hR c_22 c_23 dM_read_86 (fun H locs hR => ?_)
      rw [← q_25] at hR
      have c_26 : mK M_24 a0 = 5 := by rw [q_25]; exact c_13
      have c_27 : mK M_24 a_3 = 21 := by rw [q_25]; exact c_14
      have c_28 : mK M_24 a_7 = 21 := by rw [q_25]; exact c_15
      have c_29 : mK M_24 a_16 = 21 := by rw [q_25]; exact c_18
      have c_30 : mK M_24 a_20 = 21 := by rw [q_25]; exact c_22
      refine lv_iinc (k := 1) (v := x2 + 1) (lv' := [(2, .int (x2 + 1)), (0, .ref a0)]) hx hb dM_read_87 hl rfl (by rw [show Int32.ofInt 1 = 1 from by decide]) (by decide) rfl (fun ls hl => ?_)
      refine lv_goto (tgt := 55) hx hb dM_read_90 (by decide) ?_
      exact ih a0 (x2 + 1) _ _ _ _ _ _ h hR (lv_sub hl [1, 0] rfl)
def fM_read_15 (n d : Nat) (C : Cx) (a0 : Nat) (x1 : Int32) (xs0 : Int32) (as1 : Nat) (M : Mem) : Rz := if mK M as1 = 5 then (rzM (setI M as1 0 xs0) fun M_2 => (if x1 = 0 then (some (.inl (some (.int 0)), M_2)) else (if mK M_2 a0 = 5 then (if fits .boolean (.int 1) = true then (rzM (setI M_2 a0 3 1) fun M_8 => (rzM (setI M_8 a0 4 (mI M_8 a0 12)) fun M_12 => (rzM (setI M_12 a0 5 (mI M_12 a0 13)) fun M_16 => (if fits .boolean (.int (mI M_16 a0 11)) = true then (rzM (setI M_16 a0 10 (mI M_16 a0 11)) fun M_21 => (fM_read_55 n d C n a0 0 M_21)) else none)))) else none) else none))) else none
set_option maxRecDepth 100000 in
set_option maxHeartbeats 4000000 in
theorem tM_read_15 {n : Nat} (F : FX p s m meth c G R M0 d "HeadCountModel" bM_read 3 (some .int)) (hC : CBs l G d C) : ∀ (a0 : Nat) (x1 : Int32) (xs0 : Int32) (as1 : Nat) (M : Mem) (H : Heap) (locs : List Loc) (cells slots : Nat) (ls : Array Slot), fM_read_15 n d C a0 x1 xs0 as1 M = some (r, M') → RL G M0 M H locs cells slots → lv_has ls 3 [(0, .ref a0), (1, .int x1)] → W p l e R s m args below meth c H locs cells slots (CQ G below s M0 r M') (F0 m 15 ls [.int xs0, .ref as1]) := by
  obtain ⟨hx, hb, hml, hown, hrt, hlk, hex, hK, hRm⟩ := id F
  intro a0 x1 xs0 as1 M H locs cells slots ls h hR hl
  unfold fM_read_15 at h
  obtain ⟨c_1, h⟩ := rz_chk h
  obtain ⟨M_2, q_3, h⟩ := rz_m h
  refine rg_putI hx hb hown hK hR hk_M 0 (by decide) kf_M_60 rfl rfl (ty := .int) (by decide +kernel) (Or.inl rfl) rfl c_1 dM_read_15 (fun H locs hR => ?_)
  rw [← q_3] at hR
  have c_4 : mK M_2 as1 = 5 := by rw [q_3]; exact c_1
  refine lv_iload_n hx hb dM_read_18 rfl (lv_at hl 1 rfl) ?_
  refine lv_if_ne (tgt := 24) hx hb dM_read_19 (by decide) (fun c_5 => ?_) (fun c_5 => ?_)
  · replace h := rz_f c_5 h
    refine lv_aload_n hx hb dM_read_24 rfl (lv_at hl 0 rfl) ?_
    refine lv_iconst (v := 1) hx hb dM_read_25 (by decide) ?_
    obtain ⟨c_6, h⟩ := rz_chk h
    obtain ⟨c_7, h⟩ := rz_chk h
    obtain ⟨M_8, q_9, h⟩ := rz_m h
    refine rg_putI hx hb hown hK hR hk_M 3 (by decide) kf_M_194 rfl rfl (ty := .boolean) (by decide +kernel) (Or.inr (Or.inr rfl)) c_7 c_6 dM_read_26 (fun H locs hR => ?_)
    rw [← q_9] at hR
    have c_10 : mK M_8 as1 = 5 := by rw [q_9]; exact c_4
    have c_11 : mK M_8 a0 = 5 := by rw [q_9]; exact c_6
    refine lv_aload_n hx hb dM_read_29 rfl (lv_at hl 0 rfl) ?_
    refine lv_aload_n hx hb dM_read_30 rfl (lv_at hl 0 rfl) ?_
    refine rg_getI hx hb hown hK hR hk_M 12 (by decide) kf_M_69 rfl c_11 dM_read_31 ?_
    obtain ⟨M_12, q_13, h⟩ := rz_m h
    refine rg_putI hx hb hown hK hR hk_M 4 (by decide) kf_M_197 rfl rfl (ty := .int) (by decide +kernel) (Or.inl rfl) rfl c_11 dM_read_34 (fun H locs hR => ?_)
    rw [← q_13] at hR
    have c_14 : mK M_12 as1 = 5 := by rw [q_13]; exact c_10
    have c_15 : mK M_12 a0 = 5 := by rw [q_13]; exact c_11
    refine lv_aload_n hx hb dM_read_37 rfl (lv_at hl 0 rfl) ?_
    refine lv_aload_n hx hb dM_read_38 rfl (lv_at hl 0 rfl) ?_
    refine rg_getI hx hb hown hK hR hk_M 13 (by decide) kf_M_98 rfl c_15 dM_read_39 ?_
    obtain ⟨M_16, q_17, h⟩ := rz_m h
    refine rg_putI hx hb hown hK hR hk_M 5 (by decide) kf_M_200 rfl rfl (ty := .int) (by decide +kernel) (Or.inl rfl) rfl c_15 dM_read_42 (fun H locs hR => ?_)
    rw [← q_17] at hR
    have c_18 : mK M_16 as1 = 5 := by rw [q_17]; exact c_14
    have c_19 : mK M_16 a0 = 5 := by rw [q_17]; exact c_15
    refine lv_aload_n hx hb dM_read_45 rfl (lv_at hl 0 rfl) ?_
    refine lv_aload_n hx hb dM_read_46 rfl (lv_at hl 0 rfl) ?_
    refine rg_getI hx hb hown hK hR hk_M 11 (by decide) kf_M_184 rfl c_19 dM_read_47 ?_
    obtain ⟨c_20, h⟩ := rz_chk h
    obtain ⟨M_21, q_22, h⟩ := rz_m h
    refine rg_putI hx hb hown hK hR hk_M 10 (by decide) kf_M_203 rfl rfl (ty := .boolean) (by decide +kernel) (Or.inr (Or.inr rfl)) c_20 c_19 dM_read_50 (fun H locs hR => ?_)
    rw [← q_22] at hR
    have c_23 : mK M_21 as1 = 5 := by rw [q_22]; exact c_18
    have c_24 : mK M_21 a0 = 5 := by rw [q_22]; exact c_19
    refine lv_iconst (v := 0) hx hb dM_read_53 (by decide) ?_
    refine lv_istore_n (lv' := [(2, .int 0), (0, .ref a0), (1, .int x1)]) hx hb dM_read_54 rfl hl (by decide) rfl (fun ls hl => ?_)
    exact tM_read_55 F hC n a0 0 _ _ _ _ _ _ h hR (lv_sub hl [1, 0] rfl)
  · replace h := rz_t c_5 h
    refine lv_iconst (v := 0) hx hb dM_read_22 (by decide) ?_
    cases h
    exact rt_i hx hb hlk hrt (Or.inl rfl) rfl hR dM_read_23
def fM_read_0 (n d : Nat) (C : Cx) (a0 : Nat) (M : Mem) : Rz := if mK M a0 = 5 then (rzC (C 71 [.ref a0] M) fun v_2 M_3 => (rzI v_2 fun x_6 => (if x_6 = 0 then (fM_read_15 n d C a0 x_6 1 a0 M_3) else (fM_read_15 n d C a0 x_6 0 a0 M_3)))) else none
set_option maxRecDepth 100000 in
set_option maxHeartbeats 4000000 in
theorem tM_read_0 {n : Nat} (F : FX p s m meth c G R M0 d "HeadCountModel" bM_read 3 (some .int)) (hC : CBs l G d C) : ∀ (a0 : Nat) (M : Mem) (H : Heap) (locs : List Loc) (cells slots : Nat) (ls : Array Slot), fM_read_0 n d C a0 M = some (r, M') → RL G M0 M H locs cells slots → lv_has ls 3 [(0, .ref a0)] → W p l e R s m args below meth c H locs cells slots (CQ G below s M0 r M') (F0 m 0 ls []) := by
  obtain ⟨hx, hb, hml, hown, hrt, hlk, hex, hK, hRm⟩ := id F
  intro a0 M H locs cells slots ls h hR hl
  unfold fM_read_0 at h
  refine lv_aload_n hx hb dM_read_0 rfl (lv_at hl 0 rfl) ?_
  obtain ⟨c_1, h⟩ := rz_chk h
  obtain ⟨q_5, M_3, h_4, h⟩ := rz_c h
  refine rc_V (rest := []) (As := []) hx hb (hl.1.trans hml.symm) hown hK hR hRm mfM_isSentence kl_M_190 hk_M rfl rfl c_1 (by simp [cat_rf, Value.category]) (hC 71 _ _ _ _ h_4) dM_read_1 (fun v1 H locs cells slots ev hR => ?_) (fun x1 q1 ce1 H locs cells slots ex hR g1 g2 g3 => ?_)
  · rcases h with ⟨v_2, ev2, h⟩ | ⟨e2, ee2, -⟩
    · cases ev.symm.trans ev2
      replace h := rz_i h
      obtain ⟨x_6, rfl, h⟩ := h
      dsimp only [Option.toList, List.cons_append, List.nil_append]
      refine lv_istore_n (lv' := [(1, .int x_6), (0, .ref a0)]) hx hb dM_read_4 rfl hl (by decide) rfl (fun ls hl => ?_)
      refine lv_aload_n hx hb dM_read_5 rfl (lv_at hl 1 rfl) ?_
      refine lv_iload_n hx hb dM_read_6 rfl (lv_at hl 0 rfl) ?_
      refine lv_if_eq (tgt := 14) hx hb dM_read_7 (by decide) (fun c_7 => ?_) (fun c_7 => ?_)
      · replace h := rz_t c_7 h
        refine lv_iconst (v := 1) hx hb dM_read_14 (by decide) ?_
        exact tM_read_15 F hC a0 x_6 1 a0 _ _ _ _ _ _ h hR (lv_sub hl [1, 0] rfl)
      · replace h := rz_f c_7 h
        refine lv_iconst (v := 0) hx hb dM_read_10 (by decide) ?_
        refine lv_goto (tgt := 15) hx hb dM_read_11 (by decide) ?_
        exact tM_read_15 F hC a0 x_6 0 a0 _ _ _ _ _ _ h hR (lv_sub hl [1, 0] rfl)
    · cases ev.symm.trans ee2
  · rcases h with ⟨v2, ev2, -⟩ | ⟨e2, ee2, h⟩
    · cases ex.symm.trans ev2
    · cases ex.symm.trans ee2
      cases h
      exact rt_x hlk hex hR g1 g2 g3
set_option maxRecDepth 100000 in
set_option maxHeartbeats 4000000 in
theorem sM_read {l : Launch} {G : Gx} {n d : Nat} {C : Cx} (hC : CBs l G d C) (a0 : Nat) {M M' : Mem} {r : Option Value ⊕ Nat} (h : fM_read_0 n d C a0 M = some (r, M')) : CB l G (d + 1) yM_read [.ref a0] M r M' := by
  intro p e R s m below meth c hx hn hm hc hlk hK hR hcap hS hU hfr hlo hrc hrs
  obtain ⟨hb, hml, hrt, hex, hown⟩ := fx_of hn hm hc (hK.w mfM_read.2.2.1 rfl #[])
  have F : FX p s m meth c G R M d "HeadCountModel" bM_read 3 (some .int) := ⟨hx, hb, hml, hown, hrt, hlk, hex, hK, hfr, hlo, by rw [← hcap]; exact hrc, hrs⟩
  rw [hml]
  have hl := lv_entry ([.ref a0]) (n := 3) (by simp [lg_sl, cat_rf, Value.category])
  rw [lg_entry_eq]
  generalize (lg_sl ([.ref a0]) ++ List.replicate (3 - (lg_sl ([.ref a0])).length) Slot.unset).toArray = ls at hl ⊢
  have hl : lv_has ls 3 [(0, .ref a0)] := by simpa [lv_args, cat_rf, Value.category] using hl
  exact tM_read_0 F hC a0 _ _ _ _ _ _ h (RL.start hR hcap hS hU) (lv_sub hl [0] rfl)
def fM_isSentence_128 (n d : Nat) (C : Cx) (k55 : Nat → Int32 → Int32 → Mem → Rz) (a0 : Nat) (x1 : Int32) (x2 : Int32) (M : Mem) : Rz := k55 a0 x1 (x2 + 1) M
set_option maxRecDepth 100000 in
set_option maxHeartbeats 4000000 in
theorem tM_isSentence_128 {n : Nat} {k55 : Nat → Int32 → Int32 → Mem → Rz} (F : FX p s m meth c G R M0 d "HeadCountModel" bM_isSentence 4 (some .boolean)) (hC : CBs l G d C) (hk55 : ∀ (a0 : Nat) (x1 : Int32) (x2 : Int32) (M : Mem) (H : Heap) (locs : List Loc) (cells slots : Nat) (ls : Array Slot), k55 a0 x1 x2 M = some (r, M') → RL G M0 M H locs cells slots → lv_has ls 4 [(0, .ref a0), (1, .int x1), (2, .int x2)] → W p l e R s m args below meth c H locs cells slots (CQ G below s M0 r M') (F0 m 55 ls [])) : ∀ (a0 : Nat) (x1 : Int32) (x2 : Int32) (M : Mem) (H : Heap) (locs : List Loc) (cells slots : Nat) (ls : Array Slot), fM_isSentence_128 n d C k55 a0 x1 x2 M = some (r, M') → RL G M0 M H locs cells slots → lv_has ls 4 [(0, .ref a0), (1, .int x1), (2, .int x2)] → W p l e R s m args below meth c H locs cells slots (CQ G below s M0 r M') (F0 m 128 ls []) := by
  obtain ⟨hx, hb, hml, hown, hrt, hlk, hex, hK, hRm⟩ := id F
  intro a0 x1 x2 M H locs cells slots ls h hR hl
  unfold fM_isSentence_128 at h
  refine lv_iinc (k := 2) (v := x2 + 1) (lv' := [(2, .int (x2 + 1)), (0, .ref a0), (1, .int x1)]) hx hb dM_isSentence_128 hl rfl (by rw [show Int32.ofInt 1 = 1 from by decide]) (by decide) rfl (fun ls hl => ?_)
  refine lv_goto (tgt := 55) hx hb dM_isSentence_131 (by decide) ?_
  exact hk55 a0 x1 (x2 + 1) _ _ _ _ _ _ h hR (lv_sub hl [1, 2, 0] rfl)
def fM_isSentence_114 (n d : Nat) (C : Cx) (k55 : Nat → Int32 → Int32 → Mem → Rz) (a0 : Nat) (x2 : Int32) (x3 : Int32) (xs0 : Int32) (as1 : Nat) (M : Mem) : Rz := if mK M as1 = 5 then (if fits .boolean (.int xs0) = true then (rzM (setI M as1 11 xs0) fun M_3 => (if mK M_3 a0 = 5 then (rzC (C 72 [.ref a0, .int x3] M_3) fun v_7 M_8 => (rzI v_7 fun x_11 => (if mK M_8 a0 = 5 then (rzM (setI M_8 a0 18 x_11) fun M_13 => (fM_isSentence_128 n d C k55 a0 0 x2 M_13)) else none))) else none)) else none) else none
set_option maxRecDepth 100000 in
set_option maxHeartbeats 4000000 in
theorem tM_isSentence_114 {n : Nat} {k55 : Nat → Int32 → Int32 → Mem → Rz} (F : FX p s m meth c G R M0 d "HeadCountModel" bM_isSentence 4 (some .boolean)) (hC : CBs l G d C) (hk55 : ∀ (a0 : Nat) (x1 : Int32) (x2 : Int32) (M : Mem) (H : Heap) (locs : List Loc) (cells slots : Nat) (ls : Array Slot), k55 a0 x1 x2 M = some (r, M') → RL G M0 M H locs cells slots → lv_has ls 4 [(0, .ref a0), (1, .int x1), (2, .int x2)] → W p l e R s m args below meth c H locs cells slots (CQ G below s M0 r M') (F0 m 55 ls [])) : ∀ (a0 : Nat) (x2 : Int32) (x3 : Int32) (xs0 : Int32) (as1 : Nat) (M : Mem) (H : Heap) (locs : List Loc) (cells slots : Nat) (ls : Array Slot), fM_isSentence_114 n d C k55 a0 x2 x3 xs0 as1 M = some (r, M') → RL G M0 M H locs cells slots → lv_has ls 4 [(0, .ref a0), (2, .int x2), (3, .int x3)] → W p l e R s m args below meth c H locs cells slots (CQ G below s M0 r M') (F0 m 114 ls [.int xs0, .ref as1]) := by
  obtain ⟨hx, hb, hml, hown, hrt, hlk, hex, hK, hRm⟩ := id F
  intro a0 x2 x3 xs0 as1 M H locs cells slots ls h hR hl
  unfold fM_isSentence_114 at h
  obtain ⟨c_1, h⟩ := rz_chk h
  obtain ⟨c_2, h⟩ := rz_chk h
  obtain ⟨M_3, q_4, h⟩ := rz_m h
  refine rg_putI hx hb hown hK hR hk_M 11 (by decide) kf_M_184 rfl rfl (ty := .boolean) (by decide +kernel) (Or.inr (Or.inr rfl)) c_2 c_1 dM_isSentence_114 (fun H locs hR => ?_)
  rw [← q_4] at hR
  have c_5 : mK M_3 as1 = 5 := by rw [q_4]; exact c_1
  refine lv_iconst (v := 0) hx hb dM_isSentence_117 (by decide) ?_
  refine lv_istore_n (lv' := [(1, .int 0), (0, .ref a0), (2, .int x2), (3, .int x3)]) hx hb dM_isSentence_118 rfl hl (by decide) rfl (fun ls hl => ?_)
  refine lv_aload_n hx hb dM_isSentence_119 rfl (lv_at hl 1 rfl) ?_
  refine lv_aload_n hx hb dM_isSentence_120 rfl (lv_at hl 1 rfl) ?_
  refine lv_iload_n hx hb dM_isSentence_121 rfl (lv_at hl 3 rfl) ?_
  obtain ⟨c_6, h⟩ := rz_chk h
  obtain ⟨q_10, M_8, h_9, h⟩ := rz_c h
  refine rc_V (rest := [.ref a0]) (As := [.int x3]) hx hb (hl.1.trans hml.symm) hown hK hR hRm mfM_next kl_M_187 hk_M rfl rfl c_6 (by simp [cat_rf, Value.category]) (hC 72 _ _ _ _ h_9) dM_isSentence_122 (fun v1 H locs cells slots ev hR => ?_) (fun x1 q1 ce1 H locs cells slots ex hR g1 g2 g3 => ?_)
  · rcases h with ⟨v_7, ev2, h⟩ | ⟨e2, ee2, -⟩
    · cases ev.symm.trans ev2
      replace h := rz_i h
      obtain ⟨x_11, rfl, h⟩ := h
      dsimp only [Option.toList, List.cons_append, List.nil_append]
      obtain ⟨c_12, h⟩ := rz_chk h
      obtain ⟨M_13, q_14, h⟩ := rz_m h
      refine rg_putI hx hb hown hK hR hk_M 18 (by decide) kf_M_166 rfl rfl (ty := .int) (by decide +kernel) (Or.inl rfl) rfl c_12 dM_isSentence_125 (fun H locs hR => ?_)
      rw [← q_14] at hR
      have c_15 : mK M_13 a0 = 5 := by rw [q_14]; exact c_12
      exact tM_isSentence_128 F hC hk55 a0 0 x2 _ _ _ _ _ _ h hR (lv_sub hl [1, 0, 2] rfl)
    · cases ev.symm.trans ee2
  · rcases h with ⟨v2, ev2, -⟩ | ⟨e2, ee2, h⟩
    · cases ex.symm.trans ev2
    · cases ex.symm.trans ee2
      cases h
      exact rt_x hlk hex hR g1 g2 g3
def fM_isSentence_102 (n d : Nat) (C : Cx) (k55 : Nat → Int32 → Int32 → Mem → Rz) (a0 : Nat) (x2 : Int32) (x3 : Int32) (as0 : Nat) (M : Mem) : Rz := fM_isSentence_114 n d C k55 a0 x2 x3 1 as0 M
set_option maxRecDepth 100000 in
set_option maxHeartbeats 4000000 in
theorem tM_isSentence_102 {n : Nat} {k55 : Nat → Int32 → Int32 → Mem → Rz} (F : FX p s m meth c G R M0 d "HeadCountModel" bM_isSentence 4 (some .boolean)) (hC : CBs l G d C) (hk55 : ∀ (a0 : Nat) (x1 : Int32) (x2 : Int32) (M : Mem) (H : Heap) (locs : List Loc) (cells slots : Nat) (ls : Array Slot), k55 a0 x1 x2 M = some (r, M') → RL G M0 M H locs cells slots → lv_has ls 4 [(0, .ref a0), (1, .int x1), (2, .int x2)] → W p l e R s m args below meth c H locs cells slots (CQ G below s M0 r M') (F0 m 55 ls [])) : ∀ (a0 : Nat) (x2 : Int32) (x3 : Int32) (as0 : Nat) (M : Mem) (H : Heap) (locs : List Loc) (cells slots : Nat) (ls : Array Slot), fM_isSentence_102 n d C k55 a0 x2 x3 as0 M = some (r, M') → RL G M0 M H locs cells slots → lv_has ls 4 [(0, .ref a0), (2, .int x2), (3, .int x3)] → W p l e R s m args below meth c H locs cells slots (CQ G below s M0 r M') (F0 m 102 ls [.ref as0]) := by
  obtain ⟨hx, hb, hml, hown, hrt, hlk, hex, hK, hRm⟩ := id F
  intro a0 x2 x3 as0 M H locs cells slots ls h hR hl
  unfold fM_isSentence_102 at h
  refine lv_iconst (v := 1) hx hb dM_isSentence_102 (by decide) ?_
  refine lv_goto (tgt := 114) hx hb dM_isSentence_103 (by decide) ?_
  exact tM_isSentence_114 F hC hk55 a0 x2 x3 1 as0 _ _ _ _ _ _ h hR (lv_sub hl [0, 1, 2] rfl)
def fM_isSentence_213 (n d : Nat) (C : Cx) (xs0 : Int32) (M : Mem) : Rz := if fits .boolean (.int xs0) = true then (some (.inl (some (.int xs0)), M)) else none
set_option maxRecDepth 100000 in
set_option maxHeartbeats 4000000 in
theorem tM_isSentence_213 {n : Nat} (F : FX p s m meth c G R M0 d "HeadCountModel" bM_isSentence 4 (some .boolean)) (hC : CBs l G d C) : ∀ (xs0 : Int32) (M : Mem) (H : Heap) (locs : List Loc) (cells slots : Nat) (ls : Array Slot), fM_isSentence_213 n d C xs0 M = some (r, M') → RL G M0 M H locs cells slots → lv_has ls 4 [] → W p l e R s m args below meth c H locs cells slots (CQ G below s M0 r M') (F0 m 213 ls [.int xs0]) := by
  obtain ⟨hx, hb, hml, hown, hrt, hlk, hex, hK, hRm⟩ := id F
  intro xs0 M H locs cells slots ls h hR hl
  unfold fM_isSentence_213 at h
  obtain ⟨c_1, h⟩ := rz_chk h
  cases h
  exact rt_i hx hb hlk hrt (Or.inr (Or.inr rfl)) c_1 hR dM_isSentence_213
def fM_isSentence_185 (n d : Nat) (C : Cx) (a0 : Nat) (M : Mem) : Rz := if mK M a0 = 5 then (if (mI M a0 18) = 1 then (rzC (C 84 [.ref a0, .int 2, .int 1] M) fun v_3 M_4 => (rzV v_3 (if mK M_4 a0 = 5 then (if (mI M_4 a0 19) = 0 then (fM_isSentence_213 n d C 1 M_4) else (fM_isSentence_213 n d C 0 M_4)) else none))) else (if fits .boolean (.int 0) = true then (some (.inl (some (.int 0)), M)) else none)) else none
set_option maxRecDepth 100000 in
set_option maxHeartbeats 4000000 in
theorem tM_isSentence_185 {n : Nat} (F : FX p s m meth c G R M0 d "HeadCountModel" bM_isSentence 4 (some .boolean)) (hC : CBs l G d C) : ∀ (a0 : Nat) (M : Mem) (H : Heap) (locs : List Loc) (cells slots : Nat) (ls : Array Slot), fM_isSentence_185 n d C a0 M = some (r, M') → RL G M0 M H locs cells slots → lv_has ls 4 [(0, .ref a0)] → W p l e R s m args below meth c H locs cells slots (CQ G below s M0 r M') (F0 m 185 ls []) := by
  obtain ⟨hx, hb, hml, hown, hrt, hlk, hex, hK, hRm⟩ := id F
  intro a0 M H locs cells slots ls h hR hl
  unfold fM_isSentence_185 at h
  refine lv_aload_n hx hb dM_isSentence_185 rfl (lv_at hl 0 rfl) ?_
  obtain ⟨c_1, h⟩ := rz_chk h
  refine rg_getI hx hb hown hK hR hk_M 18 (by decide) kf_M_166 rfl c_1 dM_isSentence_186 ?_
  refine lv_iconst (v := 1) hx hb dM_isSentence_189 (by decide) ?_
  refine lv_icmp_eq (tgt := 195) hx hb dM_isSentence_190 (by decide) (fun c_2 => ?_) (fun c_2 => ?_)
  · replace h := rz_t c_2 h
    refine lv_aload_n hx hb dM_isSentence_195 rfl (lv_at hl 0 rfl) ?_
    refine lv_iconst (v := 2) hx hb dM_isSentence_196 (by decide) ?_
    refine lv_iconst (v := 1) hx hb dM_isSentence_197 (by decide) ?_
    obtain ⟨q_6, M_4, h_5, h⟩ := rz_c h
    refine rc_V (rest := []) (As := [.int 2, .int 1]) hx hb (hl.1.trans hml.symm) hown hK hR hRm mfM_settle kl_M_114 hk_M rfl rfl c_1 (by simp [cat_rf, Value.category]) (hC 84 _ _ _ _ h_5) dM_isSentence_198 (fun v1 H locs cells slots ev hR => ?_) (fun x1 q1 ce1 H locs cells slots ex hR g1 g2 g3 => ?_)
    · rcases h with ⟨v_3, ev2, h⟩ | ⟨e2, ee2, -⟩
      · cases ev.symm.trans ev2
        replace h := rz_v h
        obtain ⟨rfl, h⟩ := h
        dsimp only [Option.toList, List.cons_append, List.nil_append]
        refine lv_aload_n hx hb dM_isSentence_201 rfl (lv_at hl 0 rfl) ?_
        obtain ⟨c_7, h⟩ := rz_chk h
        refine rg_getI hx hb hown hK hR hk_M 19 (by decide) kf_M_72 rfl c_7 dM_isSentence_202 ?_
        refine lv_if_ne (tgt := 212) hx hb dM_isSentence_205 (by decide) (fun c_8 => ?_) (fun c_8 => ?_)
        · replace h := rz_f c_8 h
          refine lv_iconst (v := 0) hx hb dM_isSentence_212 (by decide) ?_
          exact tM_isSentence_213 F hC 0 _ _ _ _ _ _ h hR (lv_sub hl [] rfl)
        · replace h := rz_t c_8 h
          refine lv_iconst (v := 1) hx hb dM_isSentence_208 (by decide) ?_
          refine lv_goto (tgt := 213) hx hb dM_isSentence_209 (by decide) ?_
          exact tM_isSentence_213 F hC 1 _ _ _ _ _ _ h hR (lv_sub hl [] rfl)
      · cases ev.symm.trans ee2
    · rcases h with ⟨v2, ev2, -⟩ | ⟨e2, ee2, h⟩
      · cases ex.symm.trans ev2
      · cases ex.symm.trans ee2
        cases h
        exact rt_x hlk hex hR g1 g2 g3
  · replace h := rz_f c_2 h
    refine lv_iconst (v := 0) hx hb dM_isSentence_193 (by decide) ?_
    obtain ⟨c_9, h⟩ := rz_chk h
    cases h
    exact rt_i hx hb hlk hrt (Or.inr (Or.inr rfl)) c_9 hR dM_isSentence_194
def fM_isSentence_182 (n d : Nat) (C : Cx) (a0 : Nat) (xs0 : Int32) (as1 : Nat) (M : Mem) : Rz := if mK M as1 = 5 then (rzM (setI M as1 18 xs0) fun M_2 => (fM_isSentence_185 n d C a0 M_2)) else none
set_option maxRecDepth 100000 in
set_option maxHeartbeats 4000000 in
theorem tM_isSentence_182 {n : Nat} (F : FX p s m meth c G R M0 d "HeadCountModel" bM_isSentence 4 (some .boolean)) (hC : CBs l G d C) : ∀ (a0 : Nat) (xs0 : Int32) (as1 : Nat) (M : Mem) (H : Heap) (locs : List Loc) (cells slots : Nat) (ls : Array Slot), fM_isSentence_182 n d C a0 xs0 as1 M = some (r, M') → RL G M0 M H locs cells slots → lv_has ls 4 [(0, .ref a0)] → W p l e R s m args below meth c H locs cells slots (CQ G below s M0 r M') (F0 m 182 ls [.int xs0, .ref as1]) := by
  obtain ⟨hx, hb, hml, hown, hrt, hlk, hex, hK, hRm⟩ := id F
  intro a0 xs0 as1 M H locs cells slots ls h hR hl
  unfold fM_isSentence_182 at h
  obtain ⟨c_1, h⟩ := rz_chk h
  obtain ⟨M_2, q_3, h⟩ := rz_m h
  refine rg_putI hx hb hown hK hR hk_M 18 (by decide) kf_M_166 rfl rfl (ty := .int) (by decide +kernel) (Or.inl rfl) rfl c_1 dM_isSentence_182 (fun H locs hR => ?_)
  rw [← q_3] at hR
  have c_4 : mK M_2 as1 = 5 := by rw [q_3]; exact c_1
  exact tM_isSentence_185 F hC a0 _ _ _ _ _ _ h hR (lv_sub hl [0] rfl)
def fM_isSentence_163 (n d : Nat) (C : Cx) (a0 : Nat) (xs0 : Int32) (M : Mem) : Rz := if mK M a0 = 5 then (rzC (C 72 [.ref a0, .int 32] M) fun v_2 M_3 => (rzI v_2 fun x_6 => (if xs0 = 0 then (fM_isSentence_182 n d C a0 10 a0 M_3) else (fM_isSentence_182 n d C a0 1 a0 M_3)))) else none
set_option maxRecDepth 100000 in
set_option maxHeartbeats 4000000 in
theorem tM_isSentence_163 {n : Nat} (F : FX p s m meth c G R M0 d "HeadCountModel" bM_isSentence 4 (some .boolean)) (hC : CBs l G d C) : ∀ (a0 : Nat) (xs0 : Int32) (M : Mem) (H : Heap) (locs : List Loc) (cells slots : Nat) (ls : Array Slot), fM_isSentence_163 n d C a0 xs0 M = some (r, M') → RL G M0 M H locs cells slots → lv_has ls 4 [(0, .ref a0)] → W p l e R s m args below meth c H locs cells slots (CQ G below s M0 r M') (F0 m 163 ls [.int xs0]) := by
  obtain ⟨hx, hb, hml, hown, hrt, hlk, hex, hK, hRm⟩ := id F
  intro a0 xs0 M H locs cells slots ls h hR hl
  unfold fM_isSentence_163 at h
  refine lv_istore_n (lv' := [(2, .int xs0), (0, .ref a0)]) hx hb dM_isSentence_163 rfl hl (by decide) rfl (fun ls hl => ?_)
  refine lv_aload_n hx hb dM_isSentence_164 rfl (lv_at hl 1 rfl) ?_
  refine lv_bipush (v := 32) hx hb dM_isSentence_165 (by decide) ?_
  obtain ⟨c_1, h⟩ := rz_chk h
  obtain ⟨q_5, M_3, h_4, h⟩ := rz_c h
  refine rc_V (rest := []) (As := [.int 32]) hx hb (hl.1.trans hml.symm) hown hK hR hRm mfM_next kl_M_187 hk_M rfl rfl c_1 (by simp [cat_rf, Value.category]) (hC 72 _ _ _ _ h_4) dM_isSentence_167 (fun v1 H locs cells slots ev hR => ?_) (fun x1 q1 ce1 H locs cells slots ex hR g1 g2 g3 => ?_)
  · rcases h with ⟨v_2, ev2, h⟩ | ⟨e2, ee2, -⟩
    · cases ev.symm.trans ev2
      replace h := rz_i h
      obtain ⟨x_6, rfl, h⟩ := h
      dsimp only [Option.toList, List.cons_append, List.nil_append]
      refine lv_pop hx hb dM_isSentence_170 rfl ?_
      refine lv_aload_n hx hb dM_isSentence_171 rfl (lv_at hl 1 rfl) ?_
      refine lv_iload_n hx hb dM_isSentence_172 rfl (lv_at hl 0 rfl) ?_
      refine lv_if_eq (tgt := 180) hx hb dM_isSentence_173 (by decide) (fun c_7 => ?_) (fun c_7 => ?_)
      · replace h := rz_t c_7 h
        refine lv_bipush (v := 10) hx hb dM_isSentence_180 (by decide) ?_
        exact tM_isSentence_182 F hC a0 10 a0 _ _ _ _ _ _ h hR (lv_sub hl [1] rfl)
      · replace h := rz_f c_7 h
        refine lv_iconst (v := 1) hx hb dM_isSentence_176 (by decide) ?_
        refine lv_goto (tgt := 182) hx hb dM_isSentence_177 (by decide) ?_
        exact tM_isSentence_182 F hC a0 1 a0 _ _ _ _ _ _ h hR (lv_sub hl [1] rfl)
    · cases ev.symm.trans ee2
  · rcases h with ⟨v2, ev2, -⟩ | ⟨e2, ee2, h⟩
    · cases ex.symm.trans ev2
    · cases ex.symm.trans ee2
      cases h
      exact rt_x hlk hex hR g1 g2 g3
def fM_isSentence_151 (n d : Nat) (C : Cx) (a0 : Nat) (M : Mem) : Rz := if mK M a0 = 5 then (if (mI M a0 33) ≤ 0 then (fM_isSentence_163 n d C a0 0 M) else (fM_isSentence_163 n d C a0 1 M)) else none
set_option maxRecDepth 100000 in
set_option maxHeartbeats 4000000 in
theorem tM_isSentence_151 {n : Nat} (F : FX p s m meth c G R M0 d "HeadCountModel" bM_isSentence 4 (some .boolean)) (hC : CBs l G d C) : ∀ (a0 : Nat) (M : Mem) (H : Heap) (locs : List Loc) (cells slots : Nat) (ls : Array Slot), fM_isSentence_151 n d C a0 M = some (r, M') → RL G M0 M H locs cells slots → lv_has ls 4 [(0, .ref a0)] → W p l e R s m args below meth c H locs cells slots (CQ G below s M0 r M') (F0 m 151 ls []) := by
  obtain ⟨hx, hb, hml, hown, hrt, hlk, hex, hK, hRm⟩ := id F
  intro a0 M H locs cells slots ls h hR hl
  unfold fM_isSentence_151 at h
  refine lv_aload_n hx hb dM_isSentence_151 rfl (lv_at hl 0 rfl) ?_
  obtain ⟨c_1, h⟩ := rz_chk h
  refine rg_getI hx hb hown hK hR hk_M 33 (by decide) kf_M_101 rfl c_1 dM_isSentence_152 ?_
  refine lv_if_le (tgt := 162) hx hb dM_isSentence_155 (by decide) (fun c_2 => ?_) (fun c_2 => ?_)
  · replace h := rz_t c_2 h
    refine lv_iconst (v := 0) hx hb dM_isSentence_162 (by decide) ?_
    exact tM_isSentence_163 F hC a0 0 _ _ _ _ _ _ h hR (lv_sub hl [0] rfl)
  · replace h := rz_f c_2 h
    refine lv_iconst (v := 1) hx hb dM_isSentence_158 (by decide) ?_
    refine lv_goto (tgt := 163) hx hb dM_isSentence_159 (by decide) ?_
    exact tM_isSentence_163 F hC a0 1 _ _ _ _ _ _ h hR (lv_sub hl [0] rfl)
def fM_isSentence_134 (n d : Nat) (C : Cx) (a0 : Nat) (M : Mem) : Rz := if mK M a0 = 5 then (if (mI M a0 18) = 5 then (fM_isSentence_151 n d C a0 M) else (if (mI M a0 18) = 7 then (fM_isSentence_151 n d C a0 M) else (fM_isSentence_185 n d C a0 M))) else none
set_option maxRecDepth 100000 in
set_option maxHeartbeats 4000000 in
theorem tM_isSentence_134 {n : Nat} (F : FX p s m meth c G R M0 d "HeadCountModel" bM_isSentence 4 (some .boolean)) (hC : CBs l G d C) : ∀ (a0 : Nat) (M : Mem) (H : Heap) (locs : List Loc) (cells slots : Nat) (ls : Array Slot), fM_isSentence_134 n d C a0 M = some (r, M') → RL G M0 M H locs cells slots → lv_has ls 4 [(0, .ref a0)] → W p l e R s m args below meth c H locs cells slots (CQ G below s M0 r M') (F0 m 134 ls []) := by
  obtain ⟨hx, hb, hml, hown, hrt, hlk, hex, hK, hRm⟩ := id F
  intro a0 M H locs cells slots ls h hR hl
  unfold fM_isSentence_134 at h
  refine lv_aload_n hx hb dM_isSentence_134 rfl (lv_at hl 0 rfl) ?_
  obtain ⟨c_1, h⟩ := rz_chk h
  refine rg_getI hx hb hown hK hR hk_M 18 (by decide) kf_M_166 rfl c_1 dM_isSentence_135 ?_
  refine lv_iconst (v := 5) hx hb dM_isSentence_138 (by decide) ?_
  refine lv_icmp_eq (tgt := 151) hx hb dM_isSentence_139 (by decide) (fun c_2 => ?_) (fun c_2 => ?_)
  · replace h := rz_t c_2 h
    exact tM_isSentence_151 F hC a0 _ _ _ _ _ _ h hR (lv_sub hl [0] rfl)
  · replace h := rz_f c_2 h
    refine lv_aload_n hx hb dM_isSentence_142 rfl (lv_at hl 0 rfl) ?_
    refine rg_getI hx hb hown hK hR hk_M 18 (by decide) kf_M_166 rfl c_1 dM_isSentence_143 ?_
    refine lv_bipush (v := 7) hx hb dM_isSentence_146 (by decide) ?_
    refine lv_icmp_ne (tgt := 185) hx hb dM_isSentence_148 (by decide) (fun c_3 => ?_) (fun c_3 => ?_)
    · replace h := rz_f c_3 h
      exact tM_isSentence_185 F hC a0 _ _ _ _ _ _ h hR (lv_sub hl [0] rfl)
    · replace h := rz_t c_3 h
      exact tM_isSentence_151 F hC a0 _ _ _ _ _ _ h hR (lv_sub hl [0] rfl)
def fM_isSentence_55 (n d : Nat) (C : Cx) : Nat → Nat → Int32 → Int32 → Mem → Rz
  | 0, _, _, _, _ => none
  | w + 1, a0, x1, x2, M => if mK M a0 = 5 then (if (mI M a0 1) ≤ x2 then (fM_isSentence_134 n d C a0 M) else (if (mI M a0 18) = 10 then (fM_isSentence_134 n d C a0 M) else (rzD (mP M a0 2) fun a_4 => (if mK M a_4 = 22 then (if inA x2 (mL M a_4) then (if (mI M a_4 x2.toNatClampNeg) = 32 then (fM_isSentence_128 n d C (fM_isSentence_55 n d C w) a0 x1 x2 M) else (if x1 = 0 then (fM_isSentence_114 n d C (fM_isSentence_55 n d C w) a0 x2 (mI M a_4 x2.toNatClampNeg) (mI M a0 11) a0 M) else (if (mI M a_4 x2.toNatClampNeg) = 65 then (fM_isSentence_102 n d C (fM_isSentence_55 n d C w) a0 x2 (mI M a_4 x2.toNatClampNeg) a0 M) else (if (mI M a_4 x2.toNatClampNeg) = 69 then (fM_isSentence_102 n d C (fM_isSentence_55 n d C w) a0 x2 (mI M a_4 x2.toNatClampNeg) a0 M) else (fM_isSentence_114 n d C (fM_isSentence_55 n d C w) a0 x2 (mI M a_4 x2.toNatClampNeg) 0 a0 M))))) else none) else none)))) else none
set_option maxRecDepth 100000 in
set_option maxHeartbeats 4000000 in
theorem tM_isSentence_55 {n : Nat} (F : FX p s m meth c G R M0 d "HeadCountModel" bM_isSentence 4 (some .boolean)) (hC : CBs l G d C) : ∀ (w : Nat) (a0 : Nat) (x1 : Int32) (x2 : Int32) (M : Mem) (H : Heap) (locs : List Loc) (cells slots : Nat) (ls : Array Slot), fM_isSentence_55 n d C w a0 x1 x2 M = some (r, M') → RL G M0 M H locs cells slots → lv_has ls 4 [(0, .ref a0), (1, .int x1), (2, .int x2)] → W p l e R s m args below meth c H locs cells slots (CQ G below s M0 r M') (F0 m 55 ls []) := by
  obtain ⟨hx, hb, hml, hown, hrt, hlk, hex, hK, hRm⟩ := id F
  intro w
  induction w with
  | zero => intro a0 x1 x2 M H locs cells slots ls h; cases h
  | succ w ih =>
    intro a0 x1 x2 M H locs cells slots ls h hR hl
    rw [fM_isSentence_55] at h
    refine lv_iload_n hx hb dM_isSentence_55 rfl (lv_at hl 2 rfl) ?_
    refine lv_aload_n hx hb dM_isSentence_56 rfl (lv_at hl 0 rfl) ?_
    obtain ⟨c_1, h⟩ := rz_chk h
    refine rg_getI hx hb hown hK hR hk_M 1 (by decide) kf_M_66 rfl c_1 dM_isSentence_57 ?_
    refine lv_icmp_ge (tgt := 134) hx hb dM_isSentence_60 (by decide) (fun c_2 => ?_) (fun c_2 => ?_)
    · replace h := rz_t c_2 h
      exact tM_isSentence_134 F hC a0 _ _ _ _ _ _ h hR (lv_sub hl [0] rfl)
    · replace h := rz_f c_2 h
      refine lv_aload_n hx hb dM_isSentence_63 rfl (lv_at hl 0 rfl) ?_
      refine rg_getI hx hb hown hK hR hk_M 18 (by decide) kf_M_166 rfl c_1 dM_isSentence_64 ?_
      refine lv_bipush (v := 10) hx hb dM_isSentence_67 (by decide) ?_
      refine lv_icmp_eq (tgt := 134) hx hb dM_isSentence_69 (by decide) (fun c_3 => ?_) (fun c_3 => ?_)
      · replace h := rz_t c_3 h
        exact tM_isSentence_134 F hC a0 _ _ _ _ _ _ h hR (lv_sub hl [0] rfl)
      · replace h := rz_f c_3 h
        refine lv_aload_n hx hb dM_isSentence_72 rfl (lv_at hl 0 rfl) ?_
        refine rg_getP hx hb hown hK hR hk_M 2 (by decide) kf_M_7 rfl c_1 dM_isSentence_73 ?_
        refine lv_iload_n hx hb dM_isSentence_76 rfl (lv_at hl 2 rfl) ?_
        obtain ⟨a_4, e_5, h⟩ := rz_d h
        rw [e_5]
        obtain ⟨c_6, h⟩ := rz_chk h
        obtain ⟨c_7, h⟩ := rz_chk h
        refine rg_cald hx hb hK hR c_6 c_7 dM_isSentence_77 ?_
        refine lv_istore_n (lv' := [(3, .int (mI M a_4 x2.toNatClampNeg)), (0, .ref a0), (1, .int x1), (2, .int x2)]) hx hb dM_isSentence_78 rfl hl (by decide) rfl (fun ls hl => ?_)
        refine lv_iload_n hx hb dM_isSentence_79 rfl (lv_at hl 0 rfl) ?_
        refine lv_bipush (v := 32) hx hb dM_isSentence_80 (by decide) ?_
        refine lv_icmp_eq (tgt := 128) hx hb dM_isSentence_82 (by decide) (fun c_8 => ?_) (fun c_8 => ?_)
        · replace h := rz_t c_8 h
          exact tM_isSentence_128 F hC ih a0 x1 x2 _ _ _ _ _ _ h hR (lv_sub hl [1, 2, 3] rfl)
        · replace h := rz_f c_8 h
          refine lv_aload_n hx hb dM_isSentence_85 rfl (lv_at hl 1 rfl) ?_
          refine lv_iload_n hx hb dM_isSentence_86 rfl (lv_at hl 2 rfl) ?_
          refine lv_if_eq (tgt := 110) hx hb dM_isSentence_87 (by decide) (fun c_9 => ?_) (fun c_9 => ?_)
          · replace h := rz_t c_9 h
            refine lv_aload_n hx hb dM_isSentence_110 rfl (lv_at hl 1 rfl) ?_
            refine rg_getI hx hb hown hK hR hk_M 11 (by decide) kf_M_184 rfl c_1 dM_isSentence_111 ?_
            exact tM_isSentence_114 F hC ih a0 x2 (mI M a_4 x2.toNatClampNeg) (mI M a0 11) a0 _ _ _ _ _ _ h hR (lv_sub hl [1, 3, 0] rfl)
          · replace h := rz_f c_9 h
            refine lv_iload_n hx hb dM_isSentence_90 rfl (lv_at hl 0 rfl) ?_
            refine lv_bipush (v := 65) hx hb dM_isSentence_91 (by decide) ?_
            refine lv_icmp_eq (tgt := 102) hx hb dM_isSentence_93 (by decide) (fun c_10 => ?_) (fun c_10 => ?_)
            · replace h := rz_t c_10 h
              exact tM_isSentence_102 F hC ih a0 x2 (mI M a_4 x2.toNatClampNeg) a0 _ _ _ _ _ _ h hR (lv_sub hl [1, 3, 0] rfl)
            · replace h := rz_f c_10 h
              refine lv_iload_n hx hb dM_isSentence_96 rfl (lv_at hl 0 rfl) ?_
              refine lv_bipush (v := 69) hx hb dM_isSentence_97 (by decide) ?_
              refine lv_icmp_ne (tgt := 106) hx hb dM_isSentence_99 (by decide) (fun c_11 => ?_) (fun c_11 => ?_)
              · replace h := rz_f c_11 h
                refine lv_iconst (v := 0) hx hb dM_isSentence_106 (by decide) ?_
                refine lv_goto (tgt := 114) hx hb dM_isSentence_107 (by decide) ?_
                exact tM_isSentence_114 F hC ih a0 x2 (mI M a_4 x2.toNatClampNeg) 0 a0 _ _ _ _ _ _ h hR (lv_sub hl [1, 3, 0] rfl)
              · replace h := rz_t c_11 h
                exact tM_isSentence_102 F hC ih a0 x2 (mI M a_4 x2.toNatClampNeg) a0 _ _ _ _ _ _ h hR (lv_sub hl [1, 3, 0] rfl)
def fM_isSentence_27 (n d : Nat) (C : Cx) : Nat → Nat → Int32 → Mem → Rz
  | 0, _, _, _ => none
  | w + 1, a0, x1, M => if 6 ≤ x1 then (if mK M a0 = 5 then (if fits .boolean (.int 0) = true then (rzM (setI M a0 11 0) fun M_4 => (fM_isSentence_55 n d C n a0 1 0 M_4)) else none) else none) else (if mK M a0 = 5 then (rzD (mP M a0 23) fun a_8 => (if mK M a_8 = 21 then (if inA x1 (mL M a_8) then (rzM (setI M a_8 x1.toNatClampNeg ((-1))) fun M_12 => (fM_isSentence_27 n d C w a0 (x1 + 1) M_12)) else none) else none)) else none)
set_option maxRecDepth 100000 in
set_option maxHeartbeats 4000000 in
theorem tM_isSentence_27 {n : Nat} (F : FX p s m meth c G R M0 d "HeadCountModel" bM_isSentence 4 (some .boolean)) (hC : CBs l G d C) : ∀ (w : Nat) (a0 : Nat) (x1 : Int32) (M : Mem) (H : Heap) (locs : List Loc) (cells slots : Nat) (ls : Array Slot), fM_isSentence_27 n d C w a0 x1 M = some (r, M') → RL G M0 M H locs cells slots → lv_has ls 4 [(0, .ref a0), (1, .int x1)] → W p l e R s m args below meth c H locs cells slots (CQ G below s M0 r M') (F0 m 27 ls []) := by
  obtain ⟨hx, hb, hml, hown, hrt, hlk, hex, hK, hRm⟩ := id F
  intro w
  induction w with
  | zero => intro a0 x1 M H locs cells slots ls h; cases h
  | succ w ih =>
    intro a0 x1 M H locs cells slots ls h hR hl
    rw [fM_isSentence_27] at h
    refine lv_iload_n hx hb dM_isSentence_27 rfl (lv_at hl 1 rfl) ?_
    refine lv_bipush (v := 6) hx hb dM_isSentence_28 (by decide) ?_
    refine lv_icmp_ge (tgt := 46) hx hb dM_isSentence_30 (by decide) (fun c_1 => ?_) (fun c_1 => ?_)
    · replace h := rz_t c_1 h
      refine lv_aload_n hx hb dM_isSentence_46 rfl (lv_at hl 0 rfl) ?_
      refine lv_iconst (v := 0) hx hb dM_isSentence_47 (by decide) ?_
      obtain ⟨c_2, h⟩ := rz_chk h
      obtain ⟨c_3, h⟩ := rz_chk h
      obtain ⟨M_4, q_5, h⟩ := rz_m h
      refine rg_putI hx hb hown hK hR hk_M 11 (by decide) kf_M_184 rfl rfl (ty := .boolean) (by decide +kernel) (Or.inr (Or.inr rfl)) c_3 c_2 dM_isSentence_48 (fun H locs hR => ?_)
      rw [← q_5] at hR
      have c_6 : mK M_4 a0 = 5 := by rw [q_5]; exact c_2
      refine lv_iconst (v := 1) hx hb dM_isSentence_51 (by decide) ?_
      refine lv_istore_n (lv' := [(1, .int 1), (0, .ref a0)]) hx hb dM_isSentence_52 rfl hl (by decide) rfl (fun ls hl => ?_)
      refine lv_iconst (v := 0) hx hb dM_isSentence_53 (by decide) ?_
      refine lv_istore_n (lv' := [(2, .int 0), (1, .int 1), (0, .ref a0)]) hx hb dM_isSentence_54 rfl hl (by decide) rfl (fun ls hl => ?_)
      exact tM_isSentence_55 F hC n a0 1 0 _ _ _ _ _ _ h hR (lv_sub hl [2, 1, 0] rfl)
    · replace h := rz_f c_1 h
      refine lv_aload_n hx hb dM_isSentence_33 rfl (lv_at hl 0 rfl) ?_
      obtain ⟨c_7, h⟩ := rz_chk h
      refine rg_getP hx hb hown hK hR hk_M 23 (by decide) kf_M_48 rfl c_7 dM_isSentence_34 ?_
      refine lv_iload_n hx hb dM_isSentence_37 rfl (lv_at hl 1 rfl) ?_
      refine lv_iconst (v := (-1)) hx hb dM_isSentence_38 (by decide) ?_
      obtain ⟨a_8, e_9, h⟩ := rz_d h
      rw [e_9]
      obtain ⟨c_10, h⟩ := rz_chk h
      obtain ⟨c_11, h⟩ := rz_chk h
      obtain ⟨M_12, q_13, h⟩ := rz_m h
      refine rg_iast hx hb hK hR c_10 c_11 dM_isSentence_39 (fun H locs hR => ?_)
      rw [← q_13] at hR
      have c_14 : mK M_12 a0 = 5 := by rw [q_13]; exact c_7
      have c_15 : mK M_12 a_8 = 21 := by rw [q_13]; exact c_10
      refine lv_iinc (k := 1) (v := x1 + 1) (lv' := [(1, .int (x1 + 1)), (0, .ref a0)]) hx hb dM_isSentence_40 hl rfl (by rw [show Int32.ofInt 1 = 1 from by decide]) (by decide) rfl (fun ls hl => ?_)
      refine lv_goto (tgt := 27) hx hb dM_isSentence_43 (by decide) ?_
      exact ih a0 (x1 + 1) _ _ _ _ _ _ h hR (lv_sub hl [1, 0] rfl)
def fM_isSentence_0 (n d : Nat) (C : Cx) (a0 : Nat) (M : Mem) : Rz := if mK M a0 = 5 then (rzM (setI M a0 18 0) fun M_2 => (rzM (setI M_2 a0 19 0) fun M_5 => (rzM (setI M_5 a0 24 0) fun M_8 => (rzM (setI M_8 a0 12 0) fun M_11 => (rzM (setI M_11 a0 13 0) fun M_14 => (fM_isSentence_27 n d C n a0 0 M_14)))))) else none
set_option maxRecDepth 100000 in
set_option maxHeartbeats 4000000 in
theorem tM_isSentence_0 {n : Nat} (F : FX p s m meth c G R M0 d "HeadCountModel" bM_isSentence 4 (some .boolean)) (hC : CBs l G d C) : ∀ (a0 : Nat) (M : Mem) (H : Heap) (locs : List Loc) (cells slots : Nat) (ls : Array Slot), fM_isSentence_0 n d C a0 M = some (r, M') → RL G M0 M H locs cells slots → lv_has ls 4 [(0, .ref a0)] → W p l e R s m args below meth c H locs cells slots (CQ G below s M0 r M') (F0 m 0 ls []) := by
  obtain ⟨hx, hb, hml, hown, hrt, hlk, hex, hK, hRm⟩ := id F
  intro a0 M H locs cells slots ls h hR hl
  unfold fM_isSentence_0 at h
  refine lv_aload_n hx hb dM_isSentence_0 rfl (lv_at hl 0 rfl) ?_
  refine lv_iconst (v := 0) hx hb dM_isSentence_1 (by decide) ?_
  obtain ⟨c_1, h⟩ := rz_chk h
  obtain ⟨M_2, q_3, h⟩ := rz_m h
  refine rg_putI hx hb hown hK hR hk_M 18 (by decide) kf_M_166 rfl rfl (ty := .int) (by decide +kernel) (Or.inl rfl) rfl c_1 dM_isSentence_2 (fun H locs hR => ?_)
  rw [← q_3] at hR
  have c_4 : mK M_2 a0 = 5 := by rw [q_3]; exact c_1
  refine lv_aload_n hx hb dM_isSentence_5 rfl (lv_at hl 0 rfl) ?_
  refine lv_iconst (v := 0) hx hb dM_isSentence_6 (by decide) ?_
  obtain ⟨M_5, q_6, h⟩ := rz_m h
  refine rg_putI hx hb hown hK hR hk_M 19 (by decide) kf_M_72 rfl rfl (ty := .int) (by decide +kernel) (Or.inl rfl) rfl c_4 dM_isSentence_7 (fun H locs hR => ?_)
  rw [← q_6] at hR
  have c_7 : mK M_5 a0 = 5 := by rw [q_6]; exact c_4
  refine lv_aload_n hx hb dM_isSentence_10 rfl (lv_at hl 0 rfl) ?_
  refine lv_iconst (v := 0) hx hb dM_isSentence_11 (by decide) ?_
  obtain ⟨M_8, q_9, h⟩ := rz_m h
  refine rg_putI hx hb hown hK hR hk_M 24 (by decide) kf_M_75 rfl rfl (ty := .int) (by decide +kernel) (Or.inl rfl) rfl c_7 dM_isSentence_12 (fun H locs hR => ?_)
  rw [← q_9] at hR
  have c_10 : mK M_8 a0 = 5 := by rw [q_9]; exact c_7
  refine lv_aload_n hx hb dM_isSentence_15 rfl (lv_at hl 0 rfl) ?_
  refine lv_iconst (v := 0) hx hb dM_isSentence_16 (by decide) ?_
  obtain ⟨M_11, q_12, h⟩ := rz_m h
  refine rg_putI hx hb hown hK hR hk_M 12 (by decide) kf_M_69 rfl rfl (ty := .int) (by decide +kernel) (Or.inl rfl) rfl c_10 dM_isSentence_17 (fun H locs hR => ?_)
  rw [← q_12] at hR
  have c_13 : mK M_11 a0 = 5 := by rw [q_12]; exact c_10
  refine lv_aload_n hx hb dM_isSentence_20 rfl (lv_at hl 0 rfl) ?_
  refine lv_iconst (v := 0) hx hb dM_isSentence_21 (by decide) ?_
  obtain ⟨M_14, q_15, h⟩ := rz_m h
  refine rg_putI hx hb hown hK hR hk_M 13 (by decide) kf_M_98 rfl rfl (ty := .int) (by decide +kernel) (Or.inl rfl) rfl c_13 dM_isSentence_22 (fun H locs hR => ?_)
  rw [← q_15] at hR
  have c_16 : mK M_14 a0 = 5 := by rw [q_15]; exact c_13
  refine lv_iconst (v := 0) hx hb dM_isSentence_25 (by decide) ?_
  refine lv_istore_n (lv' := [(1, .int 0), (0, .ref a0)]) hx hb dM_isSentence_26 rfl hl (by decide) rfl (fun ls hl => ?_)
  exact tM_isSentence_27 F hC n a0 0 _ _ _ _ _ _ h hR (lv_sub hl [1, 0] rfl)
set_option maxRecDepth 100000 in
set_option maxHeartbeats 4000000 in
theorem sM_isSentence {l : Launch} {G : Gx} {n d : Nat} {C : Cx} (hC : CBs l G d C) (a0 : Nat) {M M' : Mem} {r : Option Value ⊕ Nat} (h : fM_isSentence_0 n d C a0 M = some (r, M')) : CB l G (d + 1) yM_isSentence [.ref a0] M r M' := by
  intro p e R s m below meth c hx hn hm hc hlk hK hR hcap hS hU hfr hlo hrc hrs
  obtain ⟨hb, hml, hrt, hex, hown⟩ := fx_of hn hm hc (hK.w mfM_isSentence.2.2.1 rfl #[])
  have F : FX p s m meth c G R M d "HeadCountModel" bM_isSentence 4 (some .boolean) := ⟨hx, hb, hml, hown, hrt, hlk, hex, hK, hfr, hlo, by rw [← hcap]; exact hrc, hrs⟩
  rw [hml]
  have hl := lv_entry ([.ref a0]) (n := 4) (by simp [lg_sl, cat_rf, Value.category])
  rw [lg_entry_eq]
  generalize (lg_sl ([.ref a0]) ++ List.replicate (4 - (lg_sl ([.ref a0])).length) Slot.unset).toArray = ls at hl ⊢
  have hl : lv_has ls 4 [(0, .ref a0)] := by simpa [lv_args, cat_rf, Value.category] using hl
  exact tM_isSentence_0 F hC a0 _ _ _ _ _ _ h (RL.start hR hcap hS hU) (lv_sub hl [0] rfl)
def fM_next_0 (n d : Nat) (C : Cx) (a0 : Nat) (x1 : Int32) (M : Mem) : Rz := if mK M a0 = 5 then (if (mI M a0 18) = 0 then (rzC (C 73 [.ref a0, .int x1] M) fun v_3 M_4 => (rzI v_3 fun x_7 => (some (.inl (some (.int x_7)), M_4)))) else (if (mI M a0 18) = 1 then (rzC (C 83 [.ref a0, .int x1] M) fun v_9 M_10 => (rzI v_9 fun x_13 => (some (.inl (some (.int x_13)), M_10)))) else (if (mI M a0 18) = 2 then (rzC (C 88 [.ref a0, .int x1] M) fun v_15 M_16 => (rzI v_15 fun x_19 => (some (.inl (some (.int x_19)), M_16)))) else (if (mI M a0 18) = 3 then (rzC (C 76 [.ref a0, .int x1] M) fun v_21 M_22 => (rzI v_21 fun x_25 => (some (.inl (some (.int x_25)), M_22)))) else (if (mI M a0 18) = 4 then (rzC (C 77 [.ref a0, .int x1] M) fun v_27 M_28 => (rzI v_27 fun x_31 => (some (.inl (some (.int x_31)), M_28)))) else (if (mI M a0 18) = 5 then (rzC (C 89 [.ref a0, .int x1] M) fun v_33 M_34 => (rzI v_33 fun x_37 => (some (.inl (some (.int x_37)), M_34)))) else (if (mI M a0 18) = 6 then (rzC (C 79 [.ref a0, .int x1] M) fun v_39 M_40 => (rzI v_39 fun x_43 => (some (.inl (some (.int x_43)), M_40)))) else (if (mI M a0 18) = 7 then (rzC (C 90 [.ref a0, .int x1] M) fun v_45 M_46 => (rzI v_45 fun x_49 => (some (.inl (some (.int x_49)), M_46)))) else (if (mI M a0 18) = 8 then (rzC (C 91 [.ref a0, .int x1] M) fun v_51 M_52 => (rzI v_51 fun x_55 => (some (.inl (some (.int x_55)), M_52)))) else (if (mI M a0 18) = 9 then (rzC (C 93 [.ref a0, .int x1] M) fun v_57 M_58 => (rzI v_57 fun x_61 => (some (.inl (some (.int x_61)), M_58)))) else (some (.inl (some (.int 10)), M)))))))))))) else none
set_option maxRecDepth 100000 in
set_option maxHeartbeats 4000000 in
theorem tM_next_0 {n : Nat} (F : FX p s m meth c G R M0 d "HeadCountModel" bM_next 2 (some .int)) (hC : CBs l G d C) : ∀ (a0 : Nat) (x1 : Int32) (M : Mem) (H : Heap) (locs : List Loc) (cells slots : Nat) (ls : Array Slot), fM_next_0 n d C a0 x1 M = some (r, M') → RL G M0 M H locs cells slots → lv_has ls 2 [(0, .ref a0), (1, .int x1)] → W p l e R s m args below meth c H locs cells slots (CQ G below s M0 r M') (F0 m 0 ls []) := by
  obtain ⟨hx, hb, hml, hown, hrt, hlk, hex, hK, hRm⟩ := id F
  intro a0 x1 M H locs cells slots ls h hR hl
  unfold fM_next_0 at h
  refine lv_aload_n hx hb dM_next_0 rfl (lv_at hl 0 rfl) ?_
  obtain ⟨c_1, h⟩ := rz_chk h
  refine rg_getI hx hb hown hK hR hk_M 18 (by decide) kf_M_166 rfl c_1 dM_next_1 ?_
  by_cases c_2 : (mI M a0 18) = 0
  · replace h := rz_t c_2 h
    refine lv_tableIn (off := 56) (tgt := 60) hx hb dM_next_4 (by rw [c_2]; decide) (by rw [c_2]; decide) (by rw [c_2]; decide) (by decide) ?_
    refine lv_aload_n hx hb dM_next_60 rfl (lv_at hl 0 rfl) ?_
    refine lv_iload_n hx hb dM_next_61 rfl (lv_at hl 1 rfl) ?_
    obtain ⟨q_6, M_4, h_5, h⟩ := rz_c h
    refine rc_V (rest := []) (As := [.int x1]) hx hb (hl.1.trans hml.symm) hown hK hR hRm mfM_one kl_M_169 hk_M rfl rfl c_1 (by simp [cat_rf, Value.category]) (hC 73 _ _ _ _ h_5) dM_next_62 (fun v1 H locs cells slots ev hR => ?_) (fun x1 q1 ce1 H locs cells slots ex hR g1 g2 g3 => ?_)
    · rcases h with ⟨v_3, ev2, h⟩ | ⟨e2, ee2, -⟩
      · cases ev.symm.trans ev2
        replace h := rz_i h
        obtain ⟨x_7, rfl, h⟩ := h
        dsimp only [Option.toList, List.cons_append, List.nil_append]
        cases h
        exact rt_i hx hb hlk hrt (Or.inl rfl) rfl hR dM_next_65
      · cases ev.symm.trans ee2
    · rcases h with ⟨v2, ev2, -⟩ | ⟨e2, ee2, h⟩
      · cases ex.symm.trans ev2
      · cases ex.symm.trans ee2
        cases h
        exact rt_x hlk hex hR g1 g2 g3
  · replace h := rz_f c_2 h
    by_cases c_8 : (mI M a0 18) = 1
    · replace h := rz_t c_8 h
      refine lv_tableIn (off := 62) (tgt := 66) hx hb dM_next_4 (by rw [c_8]; decide) (by rw [c_8]; decide) (by rw [c_8]; decide) (by decide) ?_
      refine lv_aload_n hx hb dM_next_66 rfl (lv_at hl 0 rfl) ?_
      refine lv_iload_n hx hb dM_next_67 rfl (lv_at hl 1 rfl) ?_
      obtain ⟨q_12, M_10, h_11, h⟩ := rz_c h
      refine rc_V (rest := []) (As := [.int x1]) hx hb (hl.1.trans hml.symm) hown hK hR hRm mfM_afterOne kl_M_160 hk_M rfl rfl c_1 (by simp [cat_rf, Value.category]) (hC 83 _ _ _ _ h_11) dM_next_68 (fun v1 H locs cells slots ev hR => ?_) (fun x1 q1 ce1 H locs cells slots ex hR g1 g2 g3 => ?_)
      · rcases h with ⟨v_9, ev2, h⟩ | ⟨e2, ee2, -⟩
        · cases ev.symm.trans ev2
          replace h := rz_i h
          obtain ⟨x_13, rfl, h⟩ := h
          dsimp only [Option.toList, List.cons_append, List.nil_append]
          cases h
          exact rt_i hx hb hlk hrt (Or.inl rfl) rfl hR dM_next_71
        · cases ev.symm.trans ee2
      · rcases h with ⟨v2, ev2, -⟩ | ⟨e2, ee2, h⟩
        · cases ex.symm.trans ev2
        · cases ex.symm.trans ee2
          cases h
          exact rt_x hlk hex hR g1 g2 g3
    · replace h := rz_f c_8 h
      by_cases c_14 : (mI M a0 18) = 2
      · replace h := rz_t c_14 h
        refine lv_tableIn (off := 68) (tgt := 72) hx hb dM_next_4 (by rw [c_14]; decide) (by rw [c_14]; decide) (by rw [c_14]; decide) (by decide) ?_
        refine lv_aload_n hx hb dM_next_72 rfl (lv_at hl 0 rfl) ?_
        refine lv_iload_n hx hb dM_next_73 rfl (lv_at hl 1 rfl) ?_
        obtain ⟨q_18, M_16, h_17, h⟩ := rz_c h
        refine rc_V (rest := []) (As := [.int x1]) hx hb (hl.1.trans hml.symm) hown hK hR hRm mfM_bound kl_M_172 hk_M rfl rfl c_1 (by simp [cat_rf, Value.category]) (hC 88 _ _ _ _ h_17) dM_next_74 (fun v1 H locs cells slots ev hR => ?_) (fun x1 q1 ce1 H locs cells slots ex hR g1 g2 g3 => ?_)
        · rcases h with ⟨v_15, ev2, h⟩ | ⟨e2, ee2, -⟩
          · cases ev.symm.trans ev2
            replace h := rz_i h
            obtain ⟨x_19, rfl, h⟩ := h
            dsimp only [Option.toList, List.cons_append, List.nil_append]
            cases h
            exact rt_i hx hb hlk hrt (Or.inl rfl) rfl hR dM_next_77
          · cases ev.symm.trans ee2
        · rcases h with ⟨v2, ev2, -⟩ | ⟨e2, ee2, h⟩
          · cases ex.symm.trans ev2
          · cases ex.symm.trans ee2
            cases h
            exact rt_x hlk hex hR g1 g2 g3
      · replace h := rz_f c_14 h
        by_cases c_20 : (mI M a0 18) = 3
        · replace h := rz_t c_20 h
          refine lv_tableIn (off := 74) (tgt := 78) hx hb dM_next_4 (by rw [c_20]; decide) (by rw [c_20]; decide) (by rw [c_20]; decide) (by decide) ?_
          refine lv_aload_n hx hb dM_next_78 rfl (lv_at hl 0 rfl) ?_
          refine lv_iload_n hx hb dM_next_79 rfl (lv_at hl 1 rfl) ?_
          obtain ⟨q_24, M_22, h_23, h⟩ := rz_c h
          refine rc_V (rest := []) (As := [.int x1]) hx hb (hl.1.trans hml.symm) hown hK hR hRm mfM_sum kl_M_104 hk_M rfl rfl c_1 (by simp [cat_rf, Value.category]) (hC 76 _ _ _ _ h_23) dM_next_80 (fun v1 H locs cells slots ev hR => ?_) (fun x1 q1 ce1 H locs cells slots ex hR g1 g2 g3 => ?_)
          · rcases h with ⟨v_21, ev2, h⟩ | ⟨e2, ee2, -⟩
            · cases ev.symm.trans ev2
              replace h := rz_i h
              obtain ⟨x_25, rfl, h⟩ := h
              dsimp only [Option.toList, List.cons_append, List.nil_append]
              cases h
              exact rt_i hx hb hlk hrt (Or.inl rfl) rfl hR dM_next_83
            · cases ev.symm.trans ee2
          · rcases h with ⟨v2, ev2, -⟩ | ⟨e2, ee2, h⟩
            · cases ex.symm.trans ev2
            · cases ex.symm.trans ee2
              cases h
              exact rt_x hlk hex hR g1 g2 g3
        · replace h := rz_f c_20 h
          by_cases c_26 : (mI M a0 18) = 4
          · replace h := rz_t c_26 h
            refine lv_tableIn (off := 80) (tgt := 84) hx hb dM_next_4 (by rw [c_26]; decide) (by rw [c_26]; decide) (by rw [c_26]; decide) (by decide) ?_
            refine lv_aload_n hx hb dM_next_84 rfl (lv_at hl 0 rfl) ?_
            refine lv_iload_n hx hb dM_next_85 rfl (lv_at hl 1 rfl) ?_
            obtain ⟨q_30, M_28, h_29, h⟩ := rz_c h
            refine rc_V (rest := []) (As := [.int x1]) hx hb (hl.1.trans hml.symm) hown hK hR hRm mfM_part kl_M_129 hk_M rfl rfl c_1 (by simp [cat_rf, Value.category]) (hC 77 _ _ _ _ h_29) dM_next_86 (fun v1 H locs cells slots ev hR => ?_) (fun x1 q1 ce1 H locs cells slots ex hR g1 g2 g3 => ?_)
            · rcases h with ⟨v_27, ev2, h⟩ | ⟨e2, ee2, -⟩
              · cases ev.symm.trans ev2
                replace h := rz_i h
                obtain ⟨x_31, rfl, h⟩ := h
                dsimp only [Option.toList, List.cons_append, List.nil_append]
                cases h
                exact rt_i hx hb hlk hrt (Or.inl rfl) rfl hR dM_next_89
              · cases ev.symm.trans ee2
            · rcases h with ⟨v2, ev2, -⟩ | ⟨e2, ee2, h⟩
              · cases ex.symm.trans ev2
              · cases ex.symm.trans ee2
                cases h
                exact rt_x hlk hex hR g1 g2 g3
          · replace h := rz_f c_26 h
            by_cases c_32 : (mI M a0 18) = 5
            · replace h := rz_t c_32 h
              refine lv_tableIn (off := 86) (tgt := 90) hx hb dM_next_4 (by rw [c_32]; decide) (by rw [c_32]; decide) (by rw [c_32]; decide) (by decide) ?_
              refine lv_aload_n hx hb dM_next_90 rfl (lv_at hl 0 rfl) ?_
              refine lv_iload_n hx hb dM_next_91 rfl (lv_at hl 1 rfl) ?_
              obtain ⟨q_36, M_34, h_35, h⟩ := rz_c h
              refine rc_V (rest := []) (As := [.int x1]) hx hb (hl.1.trans hml.symm) hown hK hR hRm mfM_afterNumber kl_M_175 hk_M rfl rfl c_1 (by simp [cat_rf, Value.category]) (hC 89 _ _ _ _ h_35) dM_next_92 (fun v1 H locs cells slots ev hR => ?_) (fun x1 q1 ce1 H locs cells slots ex hR g1 g2 g3 => ?_)
              · rcases h with ⟨v_33, ev2, h⟩ | ⟨e2, ee2, -⟩
                · cases ev.symm.trans ev2
                  replace h := rz_i h
                  obtain ⟨x_37, rfl, h⟩ := h
                  dsimp only [Option.toList, List.cons_append, List.nil_append]
                  cases h
                  exact rt_i hx hb hlk hrt (Or.inl rfl) rfl hR dM_next_95
                · cases ev.symm.trans ee2
              · rcases h with ⟨v2, ev2, -⟩ | ⟨e2, ee2, h⟩
                · cases ex.symm.trans ev2
                · cases ex.symm.trans ee2
                  cases h
                  exact rt_x hlk hex hR g1 g2 g3
            · replace h := rz_f c_32 h
              by_cases c_38 : (mI M a0 18) = 6
              · replace h := rz_t c_38 h
                refine lv_tableIn (off := 92) (tgt := 96) hx hb dM_next_4 (by rw [c_38]; decide) (by rw [c_38]; decide) (by rw [c_38]; decide) (by decide) ?_
                refine lv_aload_n hx hb dM_next_96 rfl (lv_at hl 0 rfl) ?_
                refine lv_iload_n hx hb dM_next_97 rfl (lv_at hl 1 rfl) ?_
                obtain ⟨q_42, M_40, h_41, h⟩ := rz_c h
                refine rc_V (rest := []) (As := [.int x1]) hx hb (hl.1.trans hml.symm) hown hK hR hRm mfM_thing kl_M_145 hk_M rfl rfl c_1 (by simp [cat_rf, Value.category]) (hC 79 _ _ _ _ h_41) dM_next_98 (fun v1 H locs cells slots ev hR => ?_) (fun x1 q1 ce1 H locs cells slots ex hR g1 g2 g3 => ?_)
                · rcases h with ⟨v_39, ev2, h⟩ | ⟨e2, ee2, -⟩
                  · cases ev.symm.trans ev2
                    replace h := rz_i h
                    obtain ⟨x_43, rfl, h⟩ := h
                    dsimp only [Option.toList, List.cons_append, List.nil_append]
                    cases h
                    exact rt_i hx hb hlk hrt (Or.inl rfl) rfl hR dM_next_101
                  · cases ev.symm.trans ee2
                · rcases h with ⟨v2, ev2, -⟩ | ⟨e2, ee2, h⟩
                  · cases ex.symm.trans ev2
                  · cases ex.symm.trans ee2
                    cases h
                    exact rt_x hlk hex hR g1 g2 g3
              · replace h := rz_f c_38 h
                by_cases c_44 : (mI M a0 18) = 7
                · replace h := rz_t c_44 h
                  refine lv_tableIn (off := 98) (tgt := 102) hx hb dM_next_4 (by rw [c_44]; decide) (by rw [c_44]; decide) (by rw [c_44]; decide) (by decide) ?_
                  refine lv_aload_n hx hb dM_next_102 rfl (lv_at hl 0 rfl) ?_
                  refine lv_iload_n hx hb dM_next_103 rfl (lv_at hl 1 rfl) ?_
                  obtain ⟨q_48, M_46, h_47, h⟩ := rz_c h
                  refine rc_V (rest := []) (As := [.int x1]) hx hb (hl.1.trans hml.symm) hown hK hR hRm mfM_afterPart kl_M_157 hk_M rfl rfl c_1 (by simp [cat_rf, Value.category]) (hC 90 _ _ _ _ h_47) dM_next_104 (fun v1 H locs cells slots ev hR => ?_) (fun x1 q1 ce1 H locs cells slots ex hR g1 g2 g3 => ?_)
                  · rcases h with ⟨v_45, ev2, h⟩ | ⟨e2, ee2, -⟩
                    · cases ev.symm.trans ev2
                      replace h := rz_i h
                      obtain ⟨x_49, rfl, h⟩ := h
                      dsimp only [Option.toList, List.cons_append, List.nil_append]
                      cases h
                      exact rt_i hx hb hlk hrt (Or.inl rfl) rfl hR dM_next_107
                    · cases ev.symm.trans ee2
                  · rcases h with ⟨v2, ev2, -⟩ | ⟨e2, ee2, h⟩
                    · cases ex.symm.trans ev2
                    · cases ex.symm.trans ee2
                      cases h
                      exact rt_x hlk hex hR g1 g2 g3
                · replace h := rz_f c_44 h
                  by_cases c_50 : (mI M a0 18) = 8
                  · replace h := rz_t c_50 h
                    refine lv_tableIn (off := 104) (tgt := 108) hx hb dM_next_4 (by rw [c_50]; decide) (by rw [c_50]; decide) (by rw [c_50]; decide) (by decide) ?_
                    refine lv_aload_n hx hb dM_next_108 rfl (lv_at hl 0 rfl) ?_
                    refine lv_iload_n hx hb dM_next_109 rfl (lv_at hl 1 rfl) ?_
                    obtain ⟨q_54, M_52, h_53, h⟩ := rz_c h
                    refine rc_V (rest := []) (As := [.int x1]) hx hb (hl.1.trans hml.symm) hown hK hR hRm mfM_single kl_M_178 hk_M rfl rfl c_1 (by simp [cat_rf, Value.category]) (hC 91 _ _ _ _ h_53) dM_next_110 (fun v1 H locs cells slots ev hR => ?_) (fun x1 q1 ce1 H locs cells slots ex hR g1 g2 g3 => ?_)
                    · rcases h with ⟨v_51, ev2, h⟩ | ⟨e2, ee2, -⟩
                      · cases ev.symm.trans ev2
                        replace h := rz_i h
                        obtain ⟨x_55, rfl, h⟩ := h
                        dsimp only [Option.toList, List.cons_append, List.nil_append]
                        cases h
                        exact rt_i hx hb hlk hrt (Or.inl rfl) rfl hR dM_next_113
                      · cases ev.symm.trans ee2
                    · rcases h with ⟨v2, ev2, -⟩ | ⟨e2, ee2, h⟩
                      · cases ex.symm.trans ev2
                      · cases ex.symm.trans ee2
                        cases h
                        exact rt_x hlk hex hR g1 g2 g3
                  · replace h := rz_f c_50 h
                    by_cases c_56 : (mI M a0 18) = 9
                    · replace h := rz_t c_56 h
                      refine lv_tableIn (off := 110) (tgt := 114) hx hb dM_next_4 (by rw [c_56]; decide) (by rw [c_56]; decide) (by rw [c_56]; decide) (by decide) ?_
                      refine lv_aload_n hx hb dM_next_114 rfl (lv_at hl 0 rfl) ?_
                      refine lv_iload_n hx hb dM_next_115 rfl (lv_at hl 1 rfl) ?_
                      obtain ⟨q_60, M_58, h_59, h⟩ := rz_c h
                      refine rc_V (rest := []) (As := [.int x1]) hx hb (hl.1.trans hml.symm) hown hK hR hRm mfM_afterSingle kl_M_181 hk_M rfl rfl c_1 (by simp [cat_rf, Value.category]) (hC 93 _ _ _ _ h_59) dM_next_116 (fun v1 H locs cells slots ev hR => ?_) (fun x1 q1 ce1 H locs cells slots ex hR g1 g2 g3 => ?_)
                      · rcases h with ⟨v_57, ev2, h⟩ | ⟨e2, ee2, -⟩
                        · cases ev.symm.trans ev2
                          replace h := rz_i h
                          obtain ⟨x_61, rfl, h⟩ := h
                          dsimp only [Option.toList, List.cons_append, List.nil_append]
                          cases h
                          exact rt_i hx hb hlk hrt (Or.inl rfl) rfl hR dM_next_119
                        · cases ev.symm.trans ee2
                      · rcases h with ⟨v2, ev2, -⟩ | ⟨e2, ee2, h⟩
                        · cases ex.symm.trans ev2
                        · cases ex.symm.trans ee2
                          cases h
                          exact rt_x hlk hex hR g1 g2 g3
                    · replace h := rz_f c_56 h
                      have zc_2 := lv_neT c_2 (k := 0) (a := 0) (by decide)
                      have zc_8 := lv_neT c_8 (k := 1) (a := 1) (by decide)
                      have zc_14 := lv_neT c_14 (k := 2) (a := 2) (by decide)
                      have zc_20 := lv_neT c_20 (k := 3) (a := 3) (by decide)
                      have zc_26 := lv_neT c_26 (k := 4) (a := 4) (by decide)
                      have zc_32 := lv_neT c_32 (k := 5) (a := 5) (by decide)
                      have zc_38 := lv_neT c_38 (k := 6) (a := 6) (by decide)
                      have zc_44 := lv_neT c_44 (k := 7) (a := 7) (by decide)
                      have zc_50 := lv_neT c_50 (k := 8) (a := 8) (by decide)
                      have zc_56 := lv_neT c_56 (k := 9) (a := 9) (by decide)
                      refine lv_tableOut (tgt := 120) hx hb dM_next_4 (by omega) (by decide) ?_
                      refine lv_bipush (v := 10) hx hb dM_next_120 (by decide) ?_
                      cases h
                      exact rt_i hx hb hlk hrt (Or.inl rfl) rfl hR dM_next_122
set_option maxRecDepth 100000 in
set_option maxHeartbeats 4000000 in
theorem sM_next {l : Launch} {G : Gx} {n d : Nat} {C : Cx} (hC : CBs l G d C) (a0 : Nat) (x1 : Int32) {M M' : Mem} {r : Option Value ⊕ Nat} (h : fM_next_0 n d C a0 x1 M = some (r, M')) : CB l G (d + 1) yM_next [.ref a0, .int x1] M r M' := by
  intro p e R s m below meth c hx hn hm hc hlk hK hR hcap hS hU hfr hlo hrc hrs
  obtain ⟨hb, hml, hrt, hex, hown⟩ := fx_of hn hm hc (hK.w mfM_next.2.2.1 rfl #[])
  have F : FX p s m meth c G R M d "HeadCountModel" bM_next 2 (some .int) := ⟨hx, hb, hml, hown, hrt, hlk, hex, hK, hfr, hlo, by rw [← hcap]; exact hrc, hrs⟩
  rw [hml]
  have hl := lv_entry ([.ref a0, .int x1]) (n := 2) (by simp [lg_sl, cat_rf, Value.category])
  rw [lg_entry_eq]
  generalize (lg_sl ([.ref a0, .int x1]) ++ List.replicate (2 - (lg_sl ([.ref a0, .int x1])).length) Slot.unset).toArray = ls at hl ⊢
  have hl : lv_has ls 2 [(0, .ref a0), (1, .int x1)] := by simpa [lv_args, cat_rf, Value.category] using hl
  exact tM_next_0 F hC a0 x1 _ _ _ _ _ _ h (RL.start hR hcap hS hU) (lv_sub hl [0, 1] rfl)
def fM_single_27 (n d : Nat) (C : Cx) (xs0 : Int32) (M : Mem) : Rz := some (.inl (some (.int xs0)), M)
set_option maxRecDepth 100000 in
set_option maxHeartbeats 4000000 in
theorem tM_single_27 {n : Nat} (F : FX p s m meth c G R M0 d "HeadCountModel" bM_single 3 (some .int)) (hC : CBs l G d C) : ∀ (xs0 : Int32) (M : Mem) (H : Heap) (locs : List Loc) (cells slots : Nat) (ls : Array Slot), fM_single_27 n d C xs0 M = some (r, M') → RL G M0 M H locs cells slots → lv_has ls 3 [] → W p l e R s m args below meth c H locs cells slots (CQ G below s M0 r M') (F0 m 27 ls [.int xs0]) := by
  obtain ⟨hx, hb, hml, hown, hrt, hlk, hex, hK, hRm⟩ := id F
  intro xs0 M H locs cells slots ls h hR hl
  unfold fM_single_27 at h
  cases h
  exact rt_i hx hb hlk hrt (Or.inl rfl) rfl hR dM_single_27
def fM_single_50 (n d : Nat) (C : Cx) (xs0 : Int32) (M : Mem) : Rz := some (.inl (some (.int xs0)), M)
set_option maxRecDepth 100000 in
set_option maxHeartbeats 4000000 in
theorem tM_single_50 {n : Nat} (F : FX p s m meth c G R M0 d "HeadCountModel" bM_single 3 (some .int)) (hC : CBs l G d C) : ∀ (xs0 : Int32) (M : Mem) (H : Heap) (locs : List Loc) (cells slots : Nat) (ls : Array Slot), fM_single_50 n d C xs0 M = some (r, M') → RL G M0 M H locs cells slots → lv_has ls 3 [] → W p l e R s m args below meth c H locs cells slots (CQ G below s M0 r M') (F0 m 50 ls [.int xs0]) := by
  obtain ⟨hx, hb, hml, hown, hrt, hlk, hex, hK, hRm⟩ := id F
  intro xs0 M H locs cells slots ls h hR hl
  unfold fM_single_50 at h
  cases h
  exact rt_i hx hb hlk hrt (Or.inl rfl) rfl hR dM_single_50
def fM_single_116 (n d : Nat) (C : Cx) (a0 : Nat) (M : Mem) : Rz := if mK M a0 = 5 then (rzC (C 92 [.ref a0] M) fun v_2 M_3 => (rzI v_2 fun x_6 => (some (.inl (some (.int x_6)), M_3)))) else none
set_option maxRecDepth 100000 in
set_option maxHeartbeats 4000000 in
theorem tM_single_116 {n : Nat} (F : FX p s m meth c G R M0 d "HeadCountModel" bM_single 3 (some .int)) (hC : CBs l G d C) : ∀ (a0 : Nat) (M : Mem) (H : Heap) (locs : List Loc) (cells slots : Nat) (ls : Array Slot), fM_single_116 n d C a0 M = some (r, M') → RL G M0 M H locs cells slots → lv_has ls 3 [(0, .ref a0)] → W p l e R s m args below meth c H locs cells slots (CQ G below s M0 r M') (F0 m 116 ls []) := by
  obtain ⟨hx, hb, hml, hown, hrt, hlk, hex, hK, hRm⟩ := id F
  intro a0 M H locs cells slots ls h hR hl
  unfold fM_single_116 at h
  refine lv_aload_n hx hb dM_single_116 rfl (lv_at hl 0 rfl) ?_
  obtain ⟨c_1, h⟩ := rz_chk h
  obtain ⟨q_5, M_3, h_4, h⟩ := rz_c h
  refine rc_V (rest := []) (As := []) hx hb (hl.1.trans hml.symm) hown hK hR hRm mfM_wholeSingle kl_M_163 hk_M rfl rfl c_1 (by simp [cat_rf, Value.category]) (hC 92 _ _ _ _ h_4) dM_single_117 (fun v1 H locs cells slots ev hR => ?_) (fun x1 q1 ce1 H locs cells slots ex hR g1 g2 g3 => ?_)
  · rcases h with ⟨v_2, ev2, h⟩ | ⟨e2, ee2, -⟩
    · cases ev.symm.trans ev2
      replace h := rz_i h
      obtain ⟨x_6, rfl, h⟩ := h
      dsimp only [Option.toList, List.cons_append, List.nil_append]
      cases h
      exact rt_i hx hb hlk hrt (Or.inl rfl) rfl hR dM_single_120
    · cases ev.symm.trans ee2
  · rcases h with ⟨v2, ev2, -⟩ | ⟨e2, ee2, h⟩
    · cases ex.symm.trans ev2
    · cases ex.symm.trans ee2
      cases h
      exact rt_x hlk hex hR g1 g2 g3
def fM_single_77 (n d : Nat) (C : Cx) (a0 : Nat) (xs0 : Int32) (as1 : Nat) (M : Mem) : Rz := if mK M as1 = 5 then (rzC (C 81 [.ref as1, .int xs0, .int 0] M) fun v_2 M_3 => (rzV v_2 (fM_single_116 n d C a0 M_3))) else none
set_option maxRecDepth 100000 in
set_option maxHeartbeats 4000000 in
theorem tM_single_77 {n : Nat} (F : FX p s m meth c G R M0 d "HeadCountModel" bM_single 3 (some .int)) (hC : CBs l G d C) : ∀ (a0 : Nat) (xs0 : Int32) (as1 : Nat) (M : Mem) (H : Heap) (locs : List Loc) (cells slots : Nat) (ls : Array Slot), fM_single_77 n d C a0 xs0 as1 M = some (r, M') → RL G M0 M H locs cells slots → lv_has ls 3 [(0, .ref a0)] → W p l e R s m args below meth c H locs cells slots (CQ G below s M0 r M') (F0 m 77 ls [.int xs0, .ref as1]) := by
  obtain ⟨hx, hb, hml, hown, hrt, hlk, hex, hK, hRm⟩ := id F
  intro a0 xs0 as1 M H locs cells slots ls h hR hl
  unfold fM_single_77 at h
  refine lv_iconst (v := 0) hx hb dM_single_77 (by decide) ?_
  obtain ⟨c_1, h⟩ := rz_chk h
  obtain ⟨q_5, M_3, h_4, h⟩ := rz_c h
  refine rc_V (rest := []) (As := [.int xs0, .int 0]) hx hb (hl.1.trans hml.symm) hown hK hR hRm mfM_emit kl_M_86 hk_M rfl rfl c_1 (by simp [cat_rf, Value.category]) (hC 81 _ _ _ _ h_4) dM_single_78 (fun v1 H locs cells slots ev hR => ?_) (fun x1 q1 ce1 H locs cells slots ex hR g1 g2 g3 => ?_)
  · rcases h with ⟨v_2, ev2, h⟩ | ⟨e2, ee2, -⟩
    · cases ev.symm.trans ev2
      replace h := rz_v h
      obtain ⟨rfl, h⟩ := h
      dsimp only [Option.toList, List.cons_append, List.nil_append]
      refine lv_goto (tgt := 116) hx hb dM_single_81 (by decide) ?_
      exact tM_single_116 F hC a0 _ _ _ _ _ _ h hR (lv_sub hl [0] rfl)
    · cases ev.symm.trans ee2
  · rcases h with ⟨v2, ev2, -⟩ | ⟨e2, ee2, h⟩
    · cases ex.symm.trans ev2
    · cases ex.symm.trans ee2
      cases h
      exact rt_x hlk hex hR g1 g2 g3
def fM_single_63 (n d : Nat) (C : Cx) (a0 : Nat) (x1 : Int32) (M : Mem) : Rz := if x1 = 48 then (fM_single_77 n d C a0 23 a0 M) else (fM_single_77 n d C a0 24 a0 M)
set_option maxRecDepth 100000 in
set_option maxHeartbeats 4000000 in
theorem tM_single_63 {n : Nat} (F : FX p s m meth c G R M0 d "HeadCountModel" bM_single 3 (some .int)) (hC : CBs l G d C) : ∀ (a0 : Nat) (x1 : Int32) (M : Mem) (H : Heap) (locs : List Loc) (cells slots : Nat) (ls : Array Slot), fM_single_63 n d C a0 x1 M = some (r, M') → RL G M0 M H locs cells slots → lv_has ls 3 [(0, .ref a0), (1, .int x1)] → W p l e R s m args below meth c H locs cells slots (CQ G below s M0 r M') (F0 m 63 ls []) := by
  obtain ⟨hx, hb, hml, hown, hrt, hlk, hex, hK, hRm⟩ := id F
  intro a0 x1 M H locs cells slots ls h hR hl
  unfold fM_single_63 at h
  refine lv_aload_n hx hb dM_single_63 rfl (lv_at hl 0 rfl) ?_
  refine lv_iload_n hx hb dM_single_64 rfl (lv_at hl 1 rfl) ?_
  refine lv_bipush (v := 48) hx hb dM_single_65 (by decide) ?_
  refine lv_icmp_ne (tgt := 75) hx hb dM_single_67 (by decide) (fun c_1 => ?_) (fun c_1 => ?_)
  · replace h := rz_f c_1 h
    refine lv_bipush (v := 24) hx hb dM_single_75 (by decide) ?_
    exact tM_single_77 F hC a0 24 a0 _ _ _ _ _ _ h hR (lv_sub hl [0] rfl)
  · replace h := rz_t c_1 h
    refine lv_bipush (v := 23) hx hb dM_single_70 (by decide) ?_
    refine lv_goto (tgt := 77) hx hb dM_single_72 (by decide) ?_
    exact tM_single_77 F hC a0 23 a0 _ _ _ _ _ _ h hR (lv_sub hl [0] rfl)
def fM_single_113 (n d : Nat) (C : Cx) (M : Mem) : Rz := some (.inl (some (.int 10)), M)
set_option maxRecDepth 100000 in
set_option maxHeartbeats 4000000 in
theorem tM_single_113 {n : Nat} (F : FX p s m meth c G R M0 d "HeadCountModel" bM_single 3 (some .int)) (hC : CBs l G d C) : ∀ (M : Mem) (H : Heap) (locs : List Loc) (cells slots : Nat) (ls : Array Slot), fM_single_113 n d C M = some (r, M') → RL G M0 M H locs cells slots → lv_has ls 3 [] → W p l e R s m args below meth c H locs cells slots (CQ G below s M0 r M') (F0 m 113 ls []) := by
  obtain ⟨hx, hb, hml, hown, hrt, hlk, hex, hK, hRm⟩ := id F
  intro M H locs cells slots ls h hR hl
  unfold fM_single_113 at h
  refine lv_bipush (v := 10) hx hb dM_single_113 (by decide) ?_
  cases h
  exact rt_i hx hb hlk hrt (Or.inl rfl) rfl hR dM_single_115
def fM_single_0 (n d : Nat) (C : Cx) (a0 : Nat) (x1 : Int32) (M : Mem) : Rz := rzC (C 80 [.int x1] M) fun v_1 M_2 => (rzI v_1 fun x_5 => (if x1 = 45 then (if mK M_2 a0 = 5 then (rzC (C 74 [.ref a0, .int 9] M_2) fun v_30 M_31 => (rzI v_30 fun x_34 => (if x_34 = 0 then (fM_single_27 n d C 10 M_31) else (fM_single_27 n d C 8 M_31)))) else none) else (if x1 = 40 then (if mK M_2 a0 = 5 then (rzC (C 74 [.ref a0, .int 10] M_2) fun v_23 M_24 => (rzI v_23 fun x_27 => (if x_27 = 0 then (fM_single_50 n d C 10 M_24) else (fM_single_50 n d C 8 M_24)))) else none) else (if x1 = 48 then (fM_single_63 n d C a0 x1 M_2) else (if x1 = 49 then (fM_single_63 n d C a0 x1 M_2) else (if x_5 ≤ 2 then (fM_single_113 n d C M_2) else (if mK M_2 a0 = 5 then (rzD (mP M_2 a0 23) fun a_12 => (if mK M_2 a_12 = 21 then (if inA x_5 (mL M_2 a_12) then (if (mI M_2 a_12 x_5.toNatClampNeg) < 0 then (fM_single_113 n d C M_2) else (if inA x_5 (mL M_2 a_12) then (rzC (C 81 [.ref a0, .int 14, .int (mI M_2 a_12 x_5.toNatClampNeg)] M_2) fun v_18 M_19 => (rzV v_18 (fM_single_116 n d C a0 M_19))) else none)) else none) else none)) else none)))))))
set_option maxRecDepth 100000 in
set_option maxHeartbeats 4000000 in
theorem tM_single_0 {n : Nat} (F : FX p s m meth c G R M0 d "HeadCountModel" bM_single 3 (some .int)) (hC : CBs l G d C) : ∀ (a0 : Nat) (x1 : Int32) (M : Mem) (H : Heap) (locs : List Loc) (cells slots : Nat) (ls : Array Slot), fM_single_0 n d C a0 x1 M = some (r, M') → RL G M0 M H locs cells slots → lv_has ls 3 [(0, .ref a0), (1, .int x1)] → W p l e R s m args below meth c H locs cells slots (CQ G below s M0 r M') (F0 m 0 ls []) := by
  obtain ⟨hx, hb, hml, hown, hrt, hlk, hex, hK, hRm⟩ := id F
  intro a0 x1 M H locs cells slots ls h hR hl
  unfold fM_single_0 at h
  refine lv_iload_n hx hb dM_single_0 rfl (lv_at hl 1 rfl) ?_
  obtain ⟨q_4, M_2, h_3, h⟩ := rz_c h
  refine rc_S (rest := []) (As := [.int x1]) hx hb (hl.1.trans hml.symm) hown hK hR hRm mfM_variableOf kl_M_108 rfl (by simp [cat_rf, Value.category]) (hC 80 _ _ _ _ h_3) dM_single_1 (fun v1 H locs cells slots ev hR => ?_) (fun x1 q1 ce1 H locs cells slots ex hR g1 g2 g3 => ?_)
  · rcases h with ⟨v_1, ev2, h⟩ | ⟨e2, ee2, -⟩
    · cases ev.symm.trans ev2
      replace h := rz_i h
      obtain ⟨x_5, rfl, h⟩ := h
      dsimp only [Option.toList, List.cons_append, List.nil_append]
      refine lv_istore_n (lv' := [(2, .int x_5), (0, .ref a0), (1, .int x1)]) hx hb dM_single_4 rfl hl (by decide) rfl (fun ls hl => ?_)
      refine lv_iload_n hx hb dM_single_5 rfl (lv_at hl 2 rfl) ?_
      refine lv_bipush (v := 45) hx hb dM_single_6 (by decide) ?_
      refine lv_icmp_ne (tgt := 28) hx hb dM_single_8 (by decide) (fun c_6 => ?_) (fun c_6 => ?_)
      · replace h := rz_f c_6 h
        refine lv_iload_n hx hb dM_single_28 rfl (lv_at hl 2 rfl) ?_
        refine lv_bipush (v := 40) hx hb dM_single_29 (by decide) ?_
        refine lv_icmp_ne (tgt := 51) hx hb dM_single_31 (by decide) (fun c_7 => ?_) (fun c_7 => ?_)
        · replace h := rz_f c_7 h
          refine lv_iload_n hx hb dM_single_51 rfl (lv_at hl 2 rfl) ?_
          refine lv_bipush (v := 48) hx hb dM_single_52 (by decide) ?_
          refine lv_icmp_eq (tgt := 63) hx hb dM_single_54 (by decide) (fun c_8 => ?_) (fun c_8 => ?_)
          · replace h := rz_t c_8 h
            exact tM_single_63 F hC a0 x1 _ _ _ _ _ _ h hR (lv_sub hl [1, 2] rfl)
          · replace h := rz_f c_8 h
            refine lv_iload_n hx hb dM_single_57 rfl (lv_at hl 2 rfl) ?_
            refine lv_bipush (v := 49) hx hb dM_single_58 (by decide) ?_
            refine lv_icmp_ne (tgt := 84) hx hb dM_single_60 (by decide) (fun c_9 => ?_) (fun c_9 => ?_)
            · replace h := rz_f c_9 h
              refine lv_iload_n hx hb dM_single_84 rfl (lv_at hl 0 rfl) ?_
              refine lv_iconst (v := 2) hx hb dM_single_85 (by decide) ?_
              refine lv_icmp_le (tgt := 113) hx hb dM_single_86 (by decide) (fun c_10 => ?_) (fun c_10 => ?_)
              · replace h := rz_t c_10 h
                exact tM_single_113 F hC _ _ _ _ _ _ h hR (lv_sub hl [] rfl)
              · replace h := rz_f c_10 h
                refine lv_aload_n hx hb dM_single_89 rfl (lv_at hl 1 rfl) ?_
                obtain ⟨c_11, h⟩ := rz_chk h
                refine rg_getP hx hb hown hK hR hk_M 23 (by decide) kf_M_48 rfl c_11 dM_single_90 ?_
                refine lv_iload_n hx hb dM_single_93 rfl (lv_at hl 0 rfl) ?_
                obtain ⟨a_12, e_13, h⟩ := rz_d h
                rw [e_13]
                obtain ⟨c_14, h⟩ := rz_chk h
                obtain ⟨c_15, h⟩ := rz_chk h
                refine rg_iald hx hb hK hR c_14 c_15 dM_single_94 ?_
                refine lv_if_lt (tgt := 113) hx hb dM_single_95 (by decide) (fun c_16 => ?_) (fun c_16 => ?_)
                · replace h := rz_t c_16 h
                  exact tM_single_113 F hC _ _ _ _ _ _ h hR (lv_sub hl [] rfl)
                · replace h := rz_f c_16 h
                  refine lv_aload_n hx hb dM_single_98 rfl (lv_at hl 1 rfl) ?_
                  refine lv_bipush (v := 14) hx hb dM_single_99 (by decide) ?_
                  refine lv_aload_n hx hb dM_single_101 rfl (lv_at hl 1 rfl) ?_
                  refine rg_getP hx hb hown hK hR hk_M 23 (by decide) kf_M_48 rfl c_11 dM_single_102 ?_
                  refine lv_iload_n hx hb dM_single_105 rfl (lv_at hl 0 rfl) ?_
                  rw [e_13]
                  obtain ⟨c_17, h⟩ := rz_chk h
                  refine rg_iald hx hb hK hR c_14 c_17 dM_single_106 ?_
                  obtain ⟨q_21, M_19, h_20, h⟩ := rz_c h
                  refine rc_V (rest := []) (As := [.int 14, .int (mI M_2 a_12 x_5.toNatClampNeg)]) hx hb (hl.1.trans hml.symm) hown hK hR hRm mfM_emit kl_M_86 hk_M rfl rfl c_11 (by simp [cat_rf, Value.category]) (hC 81 _ _ _ _ h_20) dM_single_107 (fun v1 H locs cells slots ev hR => ?_) (fun x1 q1 ce1 H locs cells slots ex hR g1 g2 g3 => ?_)
                  · rcases h with ⟨v_18, ev2, h⟩ | ⟨e2, ee2, -⟩
                    · cases ev.symm.trans ev2
                      replace h := rz_v h
                      obtain ⟨rfl, h⟩ := h
                      dsimp only [Option.toList, List.cons_append, List.nil_append]
                      refine lv_goto (tgt := 116) hx hb dM_single_110 (by decide) ?_
                      exact tM_single_116 F hC a0 _ _ _ _ _ _ h hR (lv_sub hl [1] rfl)
                    · cases ev.symm.trans ee2
                  · rcases h with ⟨v2, ev2, -⟩ | ⟨e2, ee2, h⟩
                    · cases ex.symm.trans ev2
                    · cases ex.symm.trans ee2
                      cases h
                      exact rt_x hlk hex hR g1 g2 g3
            · replace h := rz_t c_9 h
              exact tM_single_63 F hC a0 x1 _ _ _ _ _ _ h hR (lv_sub hl [1, 2] rfl)
        · replace h := rz_t c_7 h
          refine lv_aload_n hx hb dM_single_34 rfl (lv_at hl 1 rfl) ?_
          refine lv_bipush (v := 10) hx hb dM_single_35 (by decide) ?_
          obtain ⟨c_22, h⟩ := rz_chk h
          obtain ⟨q_26, M_24, h_25, h⟩ := rz_c h
          refine rc_V (rest := []) (As := [.int 10]) hx hb (hl.1.trans hml.symm) hown hK hR hRm mfM_deeper kl_M_90 hk_M rfl rfl c_22 (by simp [cat_rf, Value.category]) (hC 74 _ _ _ _ h_25) dM_single_37 (fun v1 H locs cells slots ev hR => ?_) (fun x1 q1 ce1 H locs cells slots ex hR g1 g2 g3 => ?_)
          · rcases h with ⟨v_23, ev2, h⟩ | ⟨e2, ee2, -⟩
            · cases ev.symm.trans ev2
              replace h := rz_i h
              obtain ⟨x_27, rfl, h⟩ := h
              dsimp only [Option.toList, List.cons_append, List.nil_append]
              refine lv_if_eq (tgt := 48) hx hb dM_single_40 (by decide) (fun c_28 => ?_) (fun c_28 => ?_)
              · replace h := rz_t c_28 h
                refine lv_bipush (v := 10) hx hb dM_single_48 (by decide) ?_
                exact tM_single_50 F hC 10 _ _ _ _ _ _ h hR (lv_sub hl [] rfl)
              · replace h := rz_f c_28 h
                refine lv_bipush (v := 8) hx hb dM_single_43 (by decide) ?_
                refine lv_goto (tgt := 50) hx hb dM_single_45 (by decide) ?_
                exact tM_single_50 F hC 8 _ _ _ _ _ _ h hR (lv_sub hl [] rfl)
            · cases ev.symm.trans ee2
          · rcases h with ⟨v2, ev2, -⟩ | ⟨e2, ee2, h⟩
            · cases ex.symm.trans ev2
            · cases ex.symm.trans ee2
              cases h
              exact rt_x hlk hex hR g1 g2 g3
      · replace h := rz_t c_6 h
        refine lv_aload_n hx hb dM_single_11 rfl (lv_at hl 1 rfl) ?_
        refine lv_bipush (v := 9) hx hb dM_single_12 (by decide) ?_
        obtain ⟨c_29, h⟩ := rz_chk h
        obtain ⟨q_33, M_31, h_32, h⟩ := rz_c h
        refine rc_V (rest := []) (As := [.int 9]) hx hb (hl.1.trans hml.symm) hown hK hR hRm mfM_deeper kl_M_90 hk_M rfl rfl c_29 (by simp [cat_rf, Value.category]) (hC 74 _ _ _ _ h_32) dM_single_14 (fun v1 H locs cells slots ev hR => ?_) (fun x1 q1 ce1 H locs cells slots ex hR g1 g2 g3 => ?_)
        · rcases h with ⟨v_30, ev2, h⟩ | ⟨e2, ee2, -⟩
          · cases ev.symm.trans ev2
            replace h := rz_i h
            obtain ⟨x_34, rfl, h⟩ := h
            dsimp only [Option.toList, List.cons_append, List.nil_append]
            refine lv_if_eq (tgt := 25) hx hb dM_single_17 (by decide) (fun c_35 => ?_) (fun c_35 => ?_)
            · replace h := rz_t c_35 h
              refine lv_bipush (v := 10) hx hb dM_single_25 (by decide) ?_
              exact tM_single_27 F hC 10 _ _ _ _ _ _ h hR (lv_sub hl [] rfl)
            · replace h := rz_f c_35 h
              refine lv_bipush (v := 8) hx hb dM_single_20 (by decide) ?_
              refine lv_goto (tgt := 27) hx hb dM_single_22 (by decide) ?_
              exact tM_single_27 F hC 8 _ _ _ _ _ _ h hR (lv_sub hl [] rfl)
          · cases ev.symm.trans ee2
        · rcases h with ⟨v2, ev2, -⟩ | ⟨e2, ee2, h⟩
          · cases ex.symm.trans ev2
          · cases ex.symm.trans ee2
            cases h
            exact rt_x hlk hex hR g1 g2 g3
    · cases ev.symm.trans ee2
  · rcases h with ⟨v2, ev2, -⟩ | ⟨e2, ee2, h⟩
    · cases ex.symm.trans ev2
    · cases ex.symm.trans ee2
      cases h
      exact rt_x hlk hex hR g1 g2 g3
set_option maxRecDepth 100000 in
set_option maxHeartbeats 4000000 in
theorem sM_single {l : Launch} {G : Gx} {n d : Nat} {C : Cx} (hC : CBs l G d C) (a0 : Nat) (x1 : Int32) {M M' : Mem} {r : Option Value ⊕ Nat} (h : fM_single_0 n d C a0 x1 M = some (r, M')) : CB l G (d + 1) yM_single [.ref a0, .int x1] M r M' := by
  intro p e R s m below meth c hx hn hm hc hlk hK hR hcap hS hU hfr hlo hrc hrs
  obtain ⟨hb, hml, hrt, hex, hown⟩ := fx_of hn hm hc (hK.w mfM_single.2.2.1 rfl #[])
  have F : FX p s m meth c G R M d "HeadCountModel" bM_single 3 (some .int) := ⟨hx, hb, hml, hown, hrt, hlk, hex, hK, hfr, hlo, by rw [← hcap]; exact hrc, hrs⟩
  rw [hml]
  have hl := lv_entry ([.ref a0, .int x1]) (n := 3) (by simp [lg_sl, cat_rf, Value.category])
  rw [lg_entry_eq]
  generalize (lg_sl ([.ref a0, .int x1]) ++ List.replicate (3 - (lg_sl ([.ref a0, .int x1])).length) Slot.unset).toArray = ls at hl ⊢
  have hl : lv_has ls 3 [(0, .ref a0), (1, .int x1)] := by simpa [lv_args, cat_rf, Value.category] using hl
  exact tM_single_0 F hC a0 x1 _ _ _ _ _ _ h (RL.start hR hcap hS hU) (lv_sub hl [0, 1] rfl)
def fM_wholeSingle_0 (n d : Nat) (C : Cx) : Nat → Nat → Mem → Rz
  | 0, _, _ => none
  | w + 1, a0, M => if mK M a0 = 5 then (rzC (C 85 [.ref a0] M) fun v_2 M_3 => (rzI v_2 fun x_6 => (if x_6 = 9 then (if mK M_3 a0 = 5 then (rzC (C 81 [.ref a0, .int 9, .int 0] M_3) fun v_31 M_32 => (rzV v_31 (if mK M_32 a0 = 5 then (rzC (C 86 [.ref a0] M_32) fun v_36 M_37 => (rzV v_36 (fM_wholeSingle_0 n d C w a0 M_37))) else none))) else none) else (if mK M_3 a0 = 5 then (rzC (C 85 [.ref a0] M_3) fun v_9 M_10 => (rzI v_9 fun x_13 => (if x_13 = 11 then (if mK M_10 a0 = 5 then (rzC (C 81 [.ref a0, .int 11, .int 0] M_10) fun v_16 M_17 => (rzV v_16 (if mK M_17 a0 = 5 then (rzC (C 86 [.ref a0] M_17) fun v_21 M_22 => (rzV v_21 (if mK M_22 a0 = 5 then (rzC (C 82 [.ref a0] M_22) fun v_26 M_27 => (rzV v_26 (some (.inl (some (.int 7)), M_27)))) else none))) else none))) else none) else (some (.inl (some (.int 9)), M_10))))) else none)))) else none
set_option maxRecDepth 100000 in
set_option maxHeartbeats 4000000 in
theorem tM_wholeSingle_0 {n : Nat} (F : FX p s m meth c G R M0 d "HeadCountModel" bM_wholeSingle 1 (some .int)) (hC : CBs l G d C) : ∀ (w : Nat) (a0 : Nat) (M : Mem) (H : Heap) (locs : List Loc) (cells slots : Nat) (ls : Array Slot), fM_wholeSingle_0 n d C w a0 M = some (r, M') → RL G M0 M H locs cells slots → lv_has ls 1 [(0, .ref a0)] → W p l e R s m args below meth c H locs cells slots (CQ G below s M0 r M') (F0 m 0 ls []) := by
  obtain ⟨hx, hb, hml, hown, hrt, hlk, hex, hK, hRm⟩ := id F
  intro w
  induction w with
  | zero => intro a0 M H locs cells slots ls h; cases h
  | succ w ih =>
    intro a0 M H locs cells slots ls h hR hl
    rw [fM_wholeSingle_0] at h
    refine lv_aload_n hx hb dM_wholeSingle_0 rfl (lv_at hl 0 rfl) ?_
    obtain ⟨c_1, h⟩ := rz_chk h
    obtain ⟨q_5, M_3, h_4, h⟩ := rz_c h
    refine rc_V (rest := []) (As := []) hx hb (hl.1.trans hml.symm) hown hK hR hRm mfM_upper kl_M_82 hk_M rfl rfl c_1 (by simp [cat_rf, Value.category]) (hC 85 _ _ _ _ h_4) dM_wholeSingle_1 (fun v1 H locs cells slots ev hR => ?_) (fun x1 q1 ce1 H locs cells slots ex hR g1 g2 g3 => ?_)
    · rcases h with ⟨v_2, ev2, h⟩ | ⟨e2, ee2, -⟩
      · cases ev.symm.trans ev2
        replace h := rz_i h
        obtain ⟨x_6, rfl, h⟩ := h
        dsimp only [Option.toList, List.cons_append, List.nil_append]
        refine lv_bipush (v := 9) hx hb dM_wholeSingle_4 (by decide) ?_
        refine lv_icmp_ne (tgt := 23) hx hb dM_wholeSingle_6 (by decide) (fun c_7 => ?_) (fun c_7 => ?_)
        · replace h := rz_f c_7 h
          refine lv_aload_n hx hb dM_wholeSingle_23 rfl (lv_at hl 0 rfl) ?_
          obtain ⟨c_8, h⟩ := rz_chk h
          obtain ⟨q_12, M_10, h_11, h⟩ := rz_c h
          refine rc_V (rest := []) (As := []) hx hb (hl.1.trans hml.symm) hown hK hR hRm mfM_upper kl_M_82 hk_M rfl rfl c_8 (by simp [cat_rf, Value.category]) (hC 85 _ _ _ _ h_11) dM_wholeSingle_24 (fun v1 H locs cells slots ev hR => ?_) (fun x1 q1 ce1 H locs cells slots ex hR g1 g2 g3 => ?_)
          · rcases h with ⟨v_9, ev2, h⟩ | ⟨e2, ee2, -⟩
            · cases ev.symm.trans ev2
              replace h := rz_i h
              obtain ⟨x_13, rfl, h⟩ := h
              dsimp only [Option.toList, List.cons_append, List.nil_append]
              refine lv_bipush (v := 11) hx hb dM_wholeSingle_27 (by decide) ?_
              refine lv_icmp_eq (tgt := 35) hx hb dM_wholeSingle_29 (by decide) (fun c_14 => ?_) (fun c_14 => ?_)
              · replace h := rz_t c_14 h
                refine lv_aload_n hx hb dM_wholeSingle_35 rfl (lv_at hl 0 rfl) ?_
                refine lv_bipush (v := 11) hx hb dM_wholeSingle_36 (by decide) ?_
                refine lv_iconst (v := 0) hx hb dM_wholeSingle_38 (by decide) ?_
                obtain ⟨c_15, h⟩ := rz_chk h
                obtain ⟨q_19, M_17, h_18, h⟩ := rz_c h
                refine rc_V (rest := []) (As := [.int 11, .int 0]) hx hb (hl.1.trans hml.symm) hown hK hR hRm mfM_emit kl_M_86 hk_M rfl rfl c_15 (by simp [cat_rf, Value.category]) (hC 81 _ _ _ _ h_18) dM_wholeSingle_39 (fun v1 H locs cells slots ev hR => ?_) (fun x1 q1 ce1 H locs cells slots ex hR g1 g2 g3 => ?_)
                · rcases h with ⟨v_16, ev2, h⟩ | ⟨e2, ee2, -⟩
                  · cases ev.symm.trans ev2
                    replace h := rz_v h
                    obtain ⟨rfl, h⟩ := h
                    dsimp only [Option.toList, List.cons_append, List.nil_append]
                    refine lv_aload_n hx hb dM_wholeSingle_42 rfl (lv_at hl 0 rfl) ?_
                    obtain ⟨c_20, h⟩ := rz_chk h
                    obtain ⟨q_24, M_22, h_23, h⟩ := rz_c h
                    refine rc_V (rest := []) (As := []) hx hb (hl.1.trans hml.symm) hown hK hR hRm mfM_close kl_M_111 hk_M rfl rfl c_20 (by simp [cat_rf, Value.category]) (hC 86 _ _ _ _ h_23) dM_wholeSingle_43 (fun v1 H locs cells slots ev hR => ?_) (fun x1 q1 ce1 H locs cells slots ex hR g1 g2 g3 => ?_)
                    · rcases h with ⟨v_21, ev2, h⟩ | ⟨e2, ee2, -⟩
                      · cases ev.symm.trans ev2
                        replace h := rz_v h
                        obtain ⟨rfl, h⟩ := h
                        dsimp only [Option.toList, List.cons_append, List.nil_append]
                        refine lv_aload_n hx hb dM_wholeSingle_46 rfl (lv_at hl 0 rfl) ?_
                        obtain ⟨c_25, h⟩ := rz_chk h
                        obtain ⟨q_29, M_27, h_28, h⟩ := rz_c h
                        refine rc_V (rest := []) (As := []) hx hb (hl.1.trans hml.symm) hown hK hR hRm mfM_wholePart kl_M_154 hk_M rfl rfl c_25 (by simp [cat_rf, Value.category]) (hC 82 _ _ _ _ h_28) dM_wholeSingle_47 (fun v1 H locs cells slots ev hR => ?_) (fun x1 q1 ce1 H locs cells slots ex hR g1 g2 g3 => ?_)
                        · rcases h with ⟨v_26, ev2, h⟩ | ⟨e2, ee2, -⟩
                          · cases ev.symm.trans ev2
                            replace h := rz_v h
                            obtain ⟨rfl, h⟩ := h
                            dsimp only [Option.toList, List.cons_append, List.nil_append]
                            refine lv_bipush (v := 7) hx hb dM_wholeSingle_50 (by decide) ?_
                            cases h
                            exact rt_i hx hb hlk hrt (Or.inl rfl) rfl hR dM_wholeSingle_52
                          · cases ev.symm.trans ee2
                        · rcases h with ⟨v2, ev2, -⟩ | ⟨e2, ee2, h⟩
                          · cases ex.symm.trans ev2
                          · cases ex.symm.trans ee2
                            cases h
                            exact rt_x hlk hex hR g1 g2 g3
                      · cases ev.symm.trans ee2
                    · rcases h with ⟨v2, ev2, -⟩ | ⟨e2, ee2, h⟩
                      · cases ex.symm.trans ev2
                      · cases ex.symm.trans ee2
                        cases h
                        exact rt_x hlk hex hR g1 g2 g3
                  · cases ev.symm.trans ee2
                · rcases h with ⟨v2, ev2, -⟩ | ⟨e2, ee2, h⟩
                  · cases ex.symm.trans ev2
                  · cases ex.symm.trans ee2
                    cases h
                    exact rt_x hlk hex hR g1 g2 g3
              · replace h := rz_f c_14 h
                refine lv_bipush (v := 9) hx hb dM_wholeSingle_32 (by decide) ?_
                cases h
                exact rt_i hx hb hlk hrt (Or.inl rfl) rfl hR dM_wholeSingle_34
            · cases ev.symm.trans ee2
          · rcases h with ⟨v2, ev2, -⟩ | ⟨e2, ee2, h⟩
            · cases ex.symm.trans ev2
            · cases ex.symm.trans ee2
              cases h
              exact rt_x hlk hex hR g1 g2 g3
        · replace h := rz_t c_7 h
          refine lv_aload_n hx hb dM_wholeSingle_9 rfl (lv_at hl 0 rfl) ?_
          refine lv_bipush (v := 9) hx hb dM_wholeSingle_10 (by decide) ?_
          refine lv_iconst (v := 0) hx hb dM_wholeSingle_12 (by decide) ?_
          obtain ⟨c_30, h⟩ := rz_chk h
          obtain ⟨q_34, M_32, h_33, h⟩ := rz_c h
          refine rc_V (rest := []) (As := [.int 9, .int 0]) hx hb (hl.1.trans hml.symm) hown hK hR hRm mfM_emit kl_M_86 hk_M rfl rfl c_30 (by simp [cat_rf, Value.category]) (hC 81 _ _ _ _ h_33) dM_wholeSingle_13 (fun v1 H locs cells slots ev hR => ?_) (fun x1 q1 ce1 H locs cells slots ex hR g1 g2 g3 => ?_)
          · rcases h with ⟨v_31, ev2, h⟩ | ⟨e2, ee2, -⟩
            · cases ev.symm.trans ev2
              replace h := rz_v h
              obtain ⟨rfl, h⟩ := h
              dsimp only [Option.toList, List.cons_append, List.nil_append]
              refine lv_aload_n hx hb dM_wholeSingle_16 rfl (lv_at hl 0 rfl) ?_
              obtain ⟨c_35, h⟩ := rz_chk h
              obtain ⟨q_39, M_37, h_38, h⟩ := rz_c h
              refine rc_V (rest := []) (As := []) hx hb (hl.1.trans hml.symm) hown hK hR hRm mfM_close kl_M_111 hk_M rfl rfl c_35 (by simp [cat_rf, Value.category]) (hC 86 _ _ _ _ h_38) dM_wholeSingle_17 (fun v1 H locs cells slots ev hR => ?_) (fun x1 q1 ce1 H locs cells slots ex hR g1 g2 g3 => ?_)
              · rcases h with ⟨v_36, ev2, h⟩ | ⟨e2, ee2, -⟩
                · cases ev.symm.trans ev2
                  replace h := rz_v h
                  obtain ⟨rfl, h⟩ := h
                  dsimp only [Option.toList, List.cons_append, List.nil_append]
                  refine lv_goto (tgt := 0) hx hb dM_wholeSingle_20 (by decide) ?_
                  exact ih a0 _ _ _ _ _ _ h hR (lv_sub hl [0] rfl)
                · cases ev.symm.trans ee2
              · rcases h with ⟨v2, ev2, -⟩ | ⟨e2, ee2, h⟩
                · cases ex.symm.trans ev2
                · cases ex.symm.trans ee2
                  cases h
                  exact rt_x hlk hex hR g1 g2 g3
            · cases ev.symm.trans ee2
          · rcases h with ⟨v2, ev2, -⟩ | ⟨e2, ee2, h⟩
            · cases ex.symm.trans ev2
            · cases ex.symm.trans ee2
              cases h
              exact rt_x hlk hex hR g1 g2 g3
      · cases ev.symm.trans ee2
    · rcases h with ⟨v2, ev2, -⟩ | ⟨e2, ee2, h⟩
      · cases ex.symm.trans ev2
      · cases ex.symm.trans ee2
        cases h
        exact rt_x hlk hex hR g1 g2 g3
set_option maxRecDepth 100000 in
set_option maxHeartbeats 4000000 in
theorem sM_wholeSingle {l : Launch} {G : Gx} {n d : Nat} {C : Cx} (hC : CBs l G d C) (a0 : Nat) {M M' : Mem} {r : Option Value ⊕ Nat} (h : fM_wholeSingle_0 n d C n a0 M = some (r, M')) : CB l G (d + 1) yM_wholeSingle [.ref a0] M r M' := by
  intro p e R s m below meth c hx hn hm hc hlk hK hR hcap hS hU hfr hlo hrc hrs
  obtain ⟨hb, hml, hrt, hex, hown⟩ := fx_of hn hm hc (hK.w mfM_wholeSingle.2.2.1 rfl #[])
  have F : FX p s m meth c G R M d "HeadCountModel" bM_wholeSingle 1 (some .int) := ⟨hx, hb, hml, hown, hrt, hlk, hex, hK, hfr, hlo, by rw [← hcap]; exact hrc, hrs⟩
  rw [hml]
  have hl := lv_entry ([.ref a0]) (n := 1) (by simp [lg_sl, cat_rf, Value.category])
  rw [lg_entry_eq]
  generalize (lg_sl ([.ref a0]) ++ List.replicate (1 - (lg_sl ([.ref a0])).length) Slot.unset).toArray = ls at hl ⊢
  have hl : lv_has ls 1 [(0, .ref a0)] := by simpa [lv_args, cat_rf, Value.category] using hl
  exact tM_wholeSingle_0 F hC n a0 _ _ _ _ _ _ h (RL.start hR hcap hS hU) (lv_sub hl [0] rfl)
def fM_afterSingle_128 (n d : Nat) (C : Cx) (xs0 : Int32) (M : Mem) : Rz := some (.inl (some (.int xs0)), M)
set_option maxRecDepth 100000 in
set_option maxHeartbeats 4000000 in
theorem tM_afterSingle_128 {n : Nat} (F : FX p s m meth c G R M0 d "HeadCountModel" bM_afterSingle 2 (some .int)) (hC : CBs l G d C) : ∀ (xs0 : Int32) (M : Mem) (H : Heap) (locs : List Loc) (cells slots : Nat) (ls : Array Slot), fM_afterSingle_128 n d C xs0 M = some (r, M') → RL G M0 M H locs cells slots → lv_has ls 2 [] → W p l e R s m args below meth c H locs cells slots (CQ G below s M0 r M') (F0 m 128 ls [.int xs0]) := by
  obtain ⟨hx, hb, hml, hown, hrt, hlk, hex, hK, hRm⟩ := id F
  intro xs0 M H locs cells slots ls h hR hl
  unfold fM_afterSingle_128 at h
  cases h
  exact rt_i hx hb hlk hrt (Or.inl rfl) rfl hR dM_afterSingle_128
def fM_afterSingle_111 (n d : Nat) (C : Cx) (a0 : Nat) (xs0 : Int32) (as1 : Nat) (M : Mem) : Rz := if mK M as1 = 5 then (rzM (setI M as1 33 xs0) fun M_2 => (if mK M_2 a0 = 5 then (if (mI M_2 a0 33) ≤ 0 then (fM_afterSingle_128 n d C 10 M_2) else (fM_afterSingle_128 n d C 8 M_2)) else none)) else none
set_option maxRecDepth 100000 in
set_option maxHeartbeats 4000000 in
theorem tM_afterSingle_111 {n : Nat} (F : FX p s m meth c G R M0 d "HeadCountModel" bM_afterSingle 2 (some .int)) (hC : CBs l G d C) : ∀ (a0 : Nat) (xs0 : Int32) (as1 : Nat) (M : Mem) (H : Heap) (locs : List Loc) (cells slots : Nat) (ls : Array Slot), fM_afterSingle_111 n d C a0 xs0 as1 M = some (r, M') → RL G M0 M H locs cells slots → lv_has ls 2 [(0, .ref a0)] → W p l e R s m args below meth c H locs cells slots (CQ G below s M0 r M') (F0 m 111 ls [.int xs0, .ref as1]) := by
  obtain ⟨hx, hb, hml, hown, hrt, hlk, hex, hK, hRm⟩ := id F
  intro a0 xs0 as1 M H locs cells slots ls h hR hl
  unfold fM_afterSingle_111 at h
  obtain ⟨c_1, h⟩ := rz_chk h
  obtain ⟨M_2, q_3, h⟩ := rz_m h
  refine rg_putI hx hb hown hK hR hk_M 33 (by decide) kf_M_101 rfl rfl (ty := .int) (by decide +kernel) (Or.inl rfl) rfl c_1 dM_afterSingle_111 (fun H locs hR => ?_)
  rw [← q_3] at hR
  have c_4 : mK M_2 as1 = 5 := by rw [q_3]; exact c_1
  refine lv_aload_n hx hb dM_afterSingle_114 rfl (lv_at hl 0 rfl) ?_
  obtain ⟨c_5, h⟩ := rz_chk h
  refine rg_getI hx hb hown hK hR hk_M 33 (by decide) kf_M_101 rfl c_5 dM_afterSingle_115 ?_
  refine lv_if_le (tgt := 126) hx hb dM_afterSingle_118 (by decide) (fun c_6 => ?_) (fun c_6 => ?_)
  · replace h := rz_t c_6 h
    refine lv_bipush (v := 10) hx hb dM_afterSingle_126 (by decide) ?_
    exact tM_afterSingle_128 F hC 10 _ _ _ _ _ _ h hR (lv_sub hl [] rfl)
  · replace h := rz_f c_6 h
    refine lv_bipush (v := 8) hx hb dM_afterSingle_121 (by decide) ?_
    refine lv_goto (tgt := 128) hx hb dM_afterSingle_123 (by decide) ?_
    exact tM_afterSingle_128 F hC 8 _ _ _ _ _ _ h hR (lv_sub hl [] rfl)
def fM_afterSingle_174 (n d : Nat) (C : Cx) (xs0 : Int32) (M : Mem) : Rz := some (.inl (some (.int xs0)), M)
set_option maxRecDepth 100000 in
set_option maxHeartbeats 4000000 in
theorem tM_afterSingle_174 {n : Nat} (F : FX p s m meth c G R M0 d "HeadCountModel" bM_afterSingle 2 (some .int)) (hC : CBs l G d C) : ∀ (xs0 : Int32) (M : Mem) (H : Heap) (locs : List Loc) (cells slots : Nat) (ls : Array Slot), fM_afterSingle_174 n d C xs0 M = some (r, M') → RL G M0 M H locs cells slots → lv_has ls 2 [] → W p l e R s m args below meth c H locs cells slots (CQ G below s M0 r M') (F0 m 174 ls [.int xs0]) := by
  obtain ⟨hx, hb, hml, hown, hrt, hlk, hex, hK, hRm⟩ := id F
  intro xs0 M H locs cells slots ls h hR hl
  unfold fM_afterSingle_174 at h
  cases h
  exact rt_i hx hb hlk hrt (Or.inl rfl) rfl hR dM_afterSingle_174
def fM_afterSingle_155 (n d : Nat) (C : Cx) (a0 : Nat) (x1 : Int32) (xs0 : Int32) (as1 : Nat) (M : Mem) : Rz := if mK M as1 = 5 then (rzC (C 81 [.ref as1, .int xs0, .int 0] M) fun v_2 M_3 => (rzV v_2 (if x1 = 93 then (if mK M_3 a0 = 5 then (rzC (C 87 [.ref a0] M_3) fun v_8 M_9 => (rzI v_8 fun x_12 => (fM_afterSingle_174 n d C x_12 M_9))) else none) else (fM_afterSingle_174 n d C 10 M_3)))) else none
set_option maxRecDepth 100000 in
set_option maxHeartbeats 4000000 in
theorem tM_afterSingle_155 {n : Nat} (F : FX p s m meth c G R M0 d "HeadCountModel" bM_afterSingle 2 (some .int)) (hC : CBs l G d C) : ∀ (a0 : Nat) (x1 : Int32) (xs0 : Int32) (as1 : Nat) (M : Mem) (H : Heap) (locs : List Loc) (cells slots : Nat) (ls : Array Slot), fM_afterSingle_155 n d C a0 x1 xs0 as1 M = some (r, M') → RL G M0 M H locs cells slots → lv_has ls 2 [(0, .ref a0), (1, .int x1)] → W p l e R s m args below meth c H locs cells slots (CQ G below s M0 r M') (F0 m 155 ls [.int xs0, .ref as1]) := by
  obtain ⟨hx, hb, hml, hown, hrt, hlk, hex, hK, hRm⟩ := id F
  intro a0 x1 xs0 as1 M H locs cells slots ls h hR hl
  unfold fM_afterSingle_155 at h
  refine lv_iconst (v := 0) hx hb dM_afterSingle_155 (by decide) ?_
  obtain ⟨c_1, h⟩ := rz_chk h
  obtain ⟨q_5, M_3, h_4, h⟩ := rz_c h
  refine rc_V (rest := []) (As := [.int xs0, .int 0]) hx hb (hl.1.trans hml.symm) hown hK hR hRm mfM_emit kl_M_86 hk_M rfl rfl c_1 (by simp [cat_rf, Value.category]) (hC 81 _ _ _ _ h_4) dM_afterSingle_156 (fun v1 H locs cells slots ev hR => ?_) (fun x1 q1 ce1 H locs cells slots ex hR g1 g2 g3 => ?_)
  · rcases h with ⟨v_2, ev2, h⟩ | ⟨e2, ee2, -⟩
    · cases ev.symm.trans ev2
      replace h := rz_v h
      obtain ⟨rfl, h⟩ := h
      dsimp only [Option.toList, List.cons_append, List.nil_append]
      refine lv_iload_n hx hb dM_afterSingle_159 rfl (lv_at hl 1 rfl) ?_
      refine lv_bipush (v := 93) hx hb dM_afterSingle_160 (by decide) ?_
      refine lv_icmp_ne (tgt := 172) hx hb dM_afterSingle_162 (by decide) (fun c_6 => ?_) (fun c_6 => ?_)
      · replace h := rz_f c_6 h
        refine lv_bipush (v := 10) hx hb dM_afterSingle_172 (by decide) ?_
        exact tM_afterSingle_174 F hC 10 _ _ _ _ _ _ h hR (lv_sub hl [] rfl)
      · replace h := rz_t c_6 h
        refine lv_aload_n hx hb dM_afterSingle_165 rfl (lv_at hl 0 rfl) ?_
        obtain ⟨c_7, h⟩ := rz_chk h
        obtain ⟨q_11, M_9, h_10, h⟩ := rz_c h
        refine rc_V (rest := []) (As := []) hx hb (hl.1.trans hml.symm) hown hK hR hRm mfM_wholeOne kl_M_117 hk_M rfl rfl c_7 (by simp [cat_rf, Value.category]) (hC 87 _ _ _ _ h_10) dM_afterSingle_166 (fun v1 H locs cells slots ev hR => ?_) (fun x1 q1 ce1 H locs cells slots ex hR g1 g2 g3 => ?_)
        · rcases h with ⟨v_8, ev2, h⟩ | ⟨e2, ee2, -⟩
          · cases ev.symm.trans ev2
            replace h := rz_i h
            obtain ⟨x_12, rfl, h⟩ := h
            dsimp only [Option.toList, List.cons_append, List.nil_append]
            refine lv_goto (tgt := 174) hx hb dM_afterSingle_169 (by decide) ?_
            exact tM_afterSingle_174 F hC x_12 _ _ _ _ _ _ h hR (lv_sub hl [] rfl)
          · cases ev.symm.trans ee2
        · rcases h with ⟨v2, ev2, -⟩ | ⟨e2, ee2, h⟩
          · cases ex.symm.trans ev2
          · cases ex.symm.trans ee2
            cases h
            exact rt_x hlk hex hR g1 g2 g3
    · cases ev.symm.trans ee2
  · rcases h with ⟨v2, ev2, -⟩ | ⟨e2, ee2, h⟩
    · cases ex.symm.trans ev2
    · cases ex.symm.trans ee2
      cases h
      exact rt_x hlk hex hR g1 g2 g3
def fM_afterSingle_70 (n d : Nat) (C : Cx) (a0 : Nat) (x1 : Int32) (M : Mem) : Rz := if mK M a0 = 5 then (rzC (C 85 [.ref a0] M) fun v_2 M_3 => (rzI v_2 fun x_6 => (if x_6 = 6 then (if mK M_3 a0 = 5 then (if (mI M_3 a0 33) = 0 then (if x1 = 60 then (fM_afterSingle_111 n d C a0 1 a0 M_3) else (if x1 = 61 then (fM_afterSingle_111 n d C a0 2 a0 M_3) else (fM_afterSingle_111 n d C a0 0 a0 M_3))) else (rzM (setI M_3 a0 19 ((mI M_3 a0 19) - 1)) fun M_10 => (if (mI M_10 a0 33) = 1 then (fM_afterSingle_155 n d C a0 x1 22 a0 M_10) else (fM_afterSingle_155 n d C a0 x1 20 a0 M_10)))) else none) else (some (.inl (some (.int 10)), M_3))))) else none
set_option maxRecDepth 100000 in
set_option maxHeartbeats 4000000 in
theorem tM_afterSingle_70 {n : Nat} (F : FX p s m meth c G R M0 d "HeadCountModel" bM_afterSingle 2 (some .int)) (hC : CBs l G d C) : ∀ (a0 : Nat) (x1 : Int32) (M : Mem) (H : Heap) (locs : List Loc) (cells slots : Nat) (ls : Array Slot), fM_afterSingle_70 n d C a0 x1 M = some (r, M') → RL G M0 M H locs cells slots → lv_has ls 2 [(0, .ref a0), (1, .int x1)] → W p l e R s m args below meth c H locs cells slots (CQ G below s M0 r M') (F0 m 70 ls []) := by
  obtain ⟨hx, hb, hml, hown, hrt, hlk, hex, hK, hRm⟩ := id F
  intro a0 x1 M H locs cells slots ls h hR hl
  unfold fM_afterSingle_70 at h
  refine lv_aload_n hx hb dM_afterSingle_70 rfl (lv_at hl 0 rfl) ?_
  obtain ⟨c_1, h⟩ := rz_chk h
  obtain ⟨q_5, M_3, h_4, h⟩ := rz_c h
  refine rc_V (rest := []) (As := []) hx hb (hl.1.trans hml.symm) hown hK hR hRm mfM_upper kl_M_82 hk_M rfl rfl c_1 (by simp [cat_rf, Value.category]) (hC 85 _ _ _ _ h_4) dM_afterSingle_71 (fun v1 H locs cells slots ev hR => ?_) (fun x1 q1 ce1 H locs cells slots ex hR g1 g2 g3 => ?_)
  · rcases h with ⟨v_2, ev2, h⟩ | ⟨e2, ee2, -⟩
    · cases ev.symm.trans ev2
      replace h := rz_i h
      obtain ⟨x_6, rfl, h⟩ := h
      dsimp only [Option.toList, List.cons_append, List.nil_append]
      refine lv_bipush (v := 6) hx hb dM_afterSingle_74 (by decide) ?_
      refine lv_icmp_eq (tgt := 82) hx hb dM_afterSingle_76 (by decide) (fun c_7 => ?_) (fun c_7 => ?_)
      · replace h := rz_t c_7 h
        refine lv_aload_n hx hb dM_afterSingle_82 rfl (lv_at hl 0 rfl) ?_
        obtain ⟨c_8, h⟩ := rz_chk h
        refine rg_getI hx hb hown hK hR hk_M 33 (by decide) kf_M_101 rfl c_8 dM_afterSingle_83 ?_
        refine lv_if_ne (tgt := 129) hx hb dM_afterSingle_86 (by decide) (fun c_9 => ?_) (fun c_9 => ?_)
        · replace h := rz_f c_9 h
          refine lv_aload_n hx hb dM_afterSingle_129 rfl (lv_at hl 0 rfl) ?_
          refine lv_dup hx hb dM_afterSingle_130 rfl ?_
          refine rg_getI hx hb hown hK hR hk_M 19 (by decide) kf_M_72 rfl c_8 dM_afterSingle_131 ?_
          refine lv_iconst (v := 1) hx hb dM_afterSingle_134 (by decide) ?_
          refine lv_isub hx hb dM_afterSingle_135 ?_
          obtain ⟨M_10, q_11, h⟩ := rz_m h
          refine rg_putI hx hb hown hK hR hk_M 19 (by decide) kf_M_72 rfl rfl (ty := .int) (by decide +kernel) (Or.inl rfl) rfl c_8 dM_afterSingle_136 (fun H locs hR => ?_)
          rw [← q_11] at hR
          have c_12 : mK M_10 a0 = 5 := by rw [q_11]; exact c_8
          refine lv_aload_n hx hb dM_afterSingle_139 rfl (lv_at hl 0 rfl) ?_
          refine lv_aload_n hx hb dM_afterSingle_140 rfl (lv_at hl 0 rfl) ?_
          refine rg_getI hx hb hown hK hR hk_M 33 (by decide) kf_M_101 rfl c_12 dM_afterSingle_141 ?_
          refine lv_iconst (v := 1) hx hb dM_afterSingle_144 (by decide) ?_
          refine lv_icmp_ne (tgt := 153) hx hb dM_afterSingle_145 (by decide) (fun c_13 => ?_) (fun c_13 => ?_)
          · replace h := rz_f c_13 h
            refine lv_bipush (v := 20) hx hb dM_afterSingle_153 (by decide) ?_
            exact tM_afterSingle_155 F hC a0 x1 20 a0 _ _ _ _ _ _ h hR (lv_sub hl [0, 1] rfl)
          · replace h := rz_t c_13 h
            refine lv_bipush (v := 22) hx hb dM_afterSingle_148 (by decide) ?_
            refine lv_goto (tgt := 155) hx hb dM_afterSingle_150 (by decide) ?_
            exact tM_afterSingle_155 F hC a0 x1 22 a0 _ _ _ _ _ _ h hR (lv_sub hl [0, 1] rfl)
        · replace h := rz_t c_9 h
          refine lv_aload_n hx hb dM_afterSingle_89 rfl (lv_at hl 0 rfl) ?_
          refine lv_iload_n hx hb dM_afterSingle_90 rfl (lv_at hl 1 rfl) ?_
          refine lv_bipush (v := 60) hx hb dM_afterSingle_91 (by decide) ?_
          refine lv_icmp_ne (tgt := 100) hx hb dM_afterSingle_93 (by decide) (fun c_14 => ?_) (fun c_14 => ?_)
          · replace h := rz_f c_14 h
            refine lv_iload_n hx hb dM_afterSingle_100 rfl (lv_at hl 1 rfl) ?_
            refine lv_bipush (v := 61) hx hb dM_afterSingle_101 (by decide) ?_
            refine lv_icmp_ne (tgt := 110) hx hb dM_afterSingle_103 (by decide) (fun c_15 => ?_) (fun c_15 => ?_)
            · replace h := rz_f c_15 h
              refine lv_iconst (v := 0) hx hb dM_afterSingle_110 (by decide) ?_
              exact tM_afterSingle_111 F hC a0 0 a0 _ _ _ _ _ _ h hR (lv_sub hl [0] rfl)
            · replace h := rz_t c_15 h
              refine lv_iconst (v := 2) hx hb dM_afterSingle_106 (by decide) ?_
              refine lv_goto (tgt := 111) hx hb dM_afterSingle_107 (by decide) ?_
              exact tM_afterSingle_111 F hC a0 2 a0 _ _ _ _ _ _ h hR (lv_sub hl [0] rfl)
          · replace h := rz_t c_14 h
            refine lv_iconst (v := 1) hx hb dM_afterSingle_96 (by decide) ?_
            refine lv_goto (tgt := 111) hx hb dM_afterSingle_97 (by decide) ?_
            exact tM_afterSingle_111 F hC a0 1 a0 _ _ _ _ _ _ h hR (lv_sub hl [0] rfl)
      · replace h := rz_f c_7 h
        refine lv_bipush (v := 10) hx hb dM_afterSingle_79 (by decide) ?_
        cases h
        exact rt_i hx hb hlk hrt (Or.inl rfl) rfl hR dM_afterSingle_81
    · cases ev.symm.trans ee2
  · rcases h with ⟨v2, ev2, -⟩ | ⟨e2, ee2, h⟩
    · cases ex.symm.trans ev2
    · cases ex.symm.trans ee2
      cases h
      exact rt_x hlk hex hR g1 g2 g3
def fM_afterSingle_0 (n d : Nat) (C : Cx) (a0 : Nat) (x1 : Int32) (M : Mem) : Rz := if x1 = 42 then (if mK M a0 = 5 then (rzC (C 84 [.ref a0, .int 8, .int 8] M) fun v_33 M_34 => (rzV v_33 (if mK M_34 a0 = 5 then (rzC (C 75 [.ref a0, .int 8] M_34) fun v_38 M_39 => (rzV v_38 (some (.inl (some (.int 8)), M_39)))) else none))) else none) else (if mK M a0 = 5 then (rzC (C 84 [.ref a0, .int 8, .int 7] M) fun v_3 M_4 => (rzV v_3 (if x1 = 43 then (if mK M_4 a0 = 5 then (rzC (C 75 [.ref a0, .int 7] M_4) fun v_28 M_29 => (rzV v_28 (some (.inl (some (.int 8)), M_29)))) else none) else (if x1 = 41 then (if mK M_4 a0 = 5 then (rzC (C 85 [.ref a0] M_4) fun v_10 M_11 => (rzI v_10 fun x_14 => (if x_14 = 10 then (if mK M_11 a0 = 5 then (rzC (C 86 [.ref a0] M_11) fun v_17 M_18 => (rzV v_17 (if mK M_18 a0 = 5 then (rzC (C 92 [.ref a0] M_18) fun v_22 M_23 => (rzI v_22 fun x_26 => (some (.inl (some (.int x_26)), M_23)))) else none))) else none) else (fM_afterSingle_70 n d C a0 x1 M_11)))) else none) else (fM_afterSingle_70 n d C a0 x1 M_4))))) else none)
set_option maxRecDepth 100000 in
set_option maxHeartbeats 4000000 in
theorem tM_afterSingle_0 {n : Nat} (F : FX p s m meth c G R M0 d "HeadCountModel" bM_afterSingle 2 (some .int)) (hC : CBs l G d C) : ∀ (a0 : Nat) (x1 : Int32) (M : Mem) (H : Heap) (locs : List Loc) (cells slots : Nat) (ls : Array Slot), fM_afterSingle_0 n d C a0 x1 M = some (r, M') → RL G M0 M H locs cells slots → lv_has ls 2 [(0, .ref a0), (1, .int x1)] → W p l e R s m args below meth c H locs cells slots (CQ G below s M0 r M') (F0 m 0 ls []) := by
  obtain ⟨hx, hb, hml, hown, hrt, hlk, hex, hK, hRm⟩ := id F
  intro a0 x1 M H locs cells slots ls h hR hl
  unfold fM_afterSingle_0 at h
  refine lv_iload_n hx hb dM_afterSingle_0 rfl (lv_at hl 1 rfl) ?_
  refine lv_bipush (v := 42) hx hb dM_afterSingle_1 (by decide) ?_
  refine lv_icmp_ne (tgt := 23) hx hb dM_afterSingle_3 (by decide) (fun c_1 => ?_) (fun c_1 => ?_)
  · replace h := rz_f c_1 h
    refine lv_aload_n hx hb dM_afterSingle_23 rfl (lv_at hl 0 rfl) ?_
    refine lv_bipush (v := 8) hx hb dM_afterSingle_24 (by decide) ?_
    refine lv_bipush (v := 7) hx hb dM_afterSingle_26 (by decide) ?_
    obtain ⟨c_2, h⟩ := rz_chk h
    obtain ⟨q_6, M_4, h_5, h⟩ := rz_c h
    refine rc_V (rest := []) (As := [.int 8, .int 7]) hx hb (hl.1.trans hml.symm) hown hK hR hRm mfM_settle kl_M_114 hk_M rfl rfl c_2 (by simp [cat_rf, Value.category]) (hC 84 _ _ _ _ h_5) dM_afterSingle_28 (fun v1 H locs cells slots ev hR => ?_) (fun x1 q1 ce1 H locs cells slots ex hR g1 g2 g3 => ?_)
    · rcases h with ⟨v_3, ev2, h⟩ | ⟨e2, ee2, -⟩
      · cases ev.symm.trans ev2
        replace h := rz_v h
        obtain ⟨rfl, h⟩ := h
        dsimp only [Option.toList, List.cons_append, List.nil_append]
        refine lv_iload_n hx hb dM_afterSingle_31 rfl (lv_at hl 1 rfl) ?_
        refine lv_bipush (v := 43) hx hb dM_afterSingle_32 (by decide) ?_
        refine lv_icmp_ne (tgt := 46) hx hb dM_afterSingle_34 (by decide) (fun c_7 => ?_) (fun c_7 => ?_)
        · replace h := rz_f c_7 h
          refine lv_iload_n hx hb dM_afterSingle_46 rfl (lv_at hl 1 rfl) ?_
          refine lv_bipush (v := 41) hx hb dM_afterSingle_47 (by decide) ?_
          refine lv_icmp_ne (tgt := 70) hx hb dM_afterSingle_49 (by decide) (fun c_8 => ?_) (fun c_8 => ?_)
          · replace h := rz_f c_8 h
            exact tM_afterSingle_70 F hC a0 x1 _ _ _ _ _ _ h hR (lv_sub hl [0, 1] rfl)
          · replace h := rz_t c_8 h
            refine lv_aload_n hx hb dM_afterSingle_52 rfl (lv_at hl 0 rfl) ?_
            obtain ⟨c_9, h⟩ := rz_chk h
            obtain ⟨q_13, M_11, h_12, h⟩ := rz_c h
            refine rc_V (rest := []) (As := []) hx hb (hl.1.trans hml.symm) hown hK hR hRm mfM_upper kl_M_82 hk_M rfl rfl c_9 (by simp [cat_rf, Value.category]) (hC 85 _ _ _ _ h_12) dM_afterSingle_53 (fun v1 H locs cells slots ev hR => ?_) (fun x1 q1 ce1 H locs cells slots ex hR g1 g2 g3 => ?_)
            · rcases h with ⟨v_10, ev2, h⟩ | ⟨e2, ee2, -⟩
              · cases ev.symm.trans ev2
                replace h := rz_i h
                obtain ⟨x_14, rfl, h⟩ := h
                dsimp only [Option.toList, List.cons_append, List.nil_append]
                refine lv_bipush (v := 10) hx hb dM_afterSingle_56 (by decide) ?_
                refine lv_icmp_ne (tgt := 70) hx hb dM_afterSingle_58 (by decide) (fun c_15 => ?_) (fun c_15 => ?_)
                · replace h := rz_f c_15 h
                  exact tM_afterSingle_70 F hC a0 x1 _ _ _ _ _ _ h hR (lv_sub hl [0, 1] rfl)
                · replace h := rz_t c_15 h
                  refine lv_aload_n hx hb dM_afterSingle_61 rfl (lv_at hl 0 rfl) ?_
                  obtain ⟨c_16, h⟩ := rz_chk h
                  obtain ⟨q_20, M_18, h_19, h⟩ := rz_c h
                  refine rc_V (rest := []) (As := []) hx hb (hl.1.trans hml.symm) hown hK hR hRm mfM_close kl_M_111 hk_M rfl rfl c_16 (by simp [cat_rf, Value.category]) (hC 86 _ _ _ _ h_19) dM_afterSingle_62 (fun v1 H locs cells slots ev hR => ?_) (fun x1 q1 ce1 H locs cells slots ex hR g1 g2 g3 => ?_)
                  · rcases h with ⟨v_17, ev2, h⟩ | ⟨e2, ee2, -⟩
                    · cases ev.symm.trans ev2
                      replace h := rz_v h
                      obtain ⟨rfl, h⟩ := h
                      dsimp only [Option.toList, List.cons_append, List.nil_append]
                      refine lv_aload_n hx hb dM_afterSingle_65 rfl (lv_at hl 0 rfl) ?_
                      obtain ⟨c_21, h⟩ := rz_chk h
                      obtain ⟨q_25, M_23, h_24, h⟩ := rz_c h
                      refine rc_V (rest := []) (As := []) hx hb (hl.1.trans hml.symm) hown hK hR hRm mfM_wholeSingle kl_M_163 hk_M rfl rfl c_21 (by simp [cat_rf, Value.category]) (hC 92 _ _ _ _ h_24) dM_afterSingle_66 (fun v1 H locs cells slots ev hR => ?_) (fun x1 q1 ce1 H locs cells slots ex hR g1 g2 g3 => ?_)
                      · rcases h with ⟨v_22, ev2, h⟩ | ⟨e2, ee2, -⟩
                        · cases ev.symm.trans ev2
                          replace h := rz_i h
                          obtain ⟨x_26, rfl, h⟩ := h
                          dsimp only [Option.toList, List.cons_append, List.nil_append]
                          cases h
                          exact rt_i hx hb hlk hrt (Or.inl rfl) rfl hR dM_afterSingle_69
                        · cases ev.symm.trans ee2
                      · rcases h with ⟨v2, ev2, -⟩ | ⟨e2, ee2, h⟩
                        · cases ex.symm.trans ev2
                        · cases ex.symm.trans ee2
                          cases h
                          exact rt_x hlk hex hR g1 g2 g3
                    · cases ev.symm.trans ee2
                  · rcases h with ⟨v2, ev2, -⟩ | ⟨e2, ee2, h⟩
                    · cases ex.symm.trans ev2
                    · cases ex.symm.trans ee2
                      cases h
                      exact rt_x hlk hex hR g1 g2 g3
              · cases ev.symm.trans ee2
            · rcases h with ⟨v2, ev2, -⟩ | ⟨e2, ee2, h⟩
              · cases ex.symm.trans ev2
              · cases ex.symm.trans ee2
                cases h
                exact rt_x hlk hex hR g1 g2 g3
        · replace h := rz_t c_7 h
          refine lv_aload_n hx hb dM_afterSingle_37 rfl (lv_at hl 0 rfl) ?_
          refine lv_bipush (v := 7) hx hb dM_afterSingle_38 (by decide) ?_
          obtain ⟨c_27, h⟩ := rz_chk h
          obtain ⟨q_31, M_29, h_30, h⟩ := rz_c h
          refine rc_V (rest := []) (As := [.int 7]) hx hb (hl.1.trans hml.symm) hown hK hR hRm mfM_push kl_M_78 hk_M rfl rfl c_27 (by simp [cat_rf, Value.category]) (hC 75 _ _ _ _ h_30) dM_afterSingle_40 (fun v1 H locs cells slots ev hR => ?_) (fun x1 q1 ce1 H locs cells slots ex hR g1 g2 g3 => ?_)
          · rcases h with ⟨v_28, ev2, h⟩ | ⟨e2, ee2, -⟩
            · cases ev.symm.trans ev2
              replace h := rz_v h
              obtain ⟨rfl, h⟩ := h
              dsimp only [Option.toList, List.cons_append, List.nil_append]
              refine lv_bipush (v := 8) hx hb dM_afterSingle_43 (by decide) ?_
              cases h
              exact rt_i hx hb hlk hrt (Or.inl rfl) rfl hR dM_afterSingle_45
            · cases ev.symm.trans ee2
          · rcases h with ⟨v2, ev2, -⟩ | ⟨e2, ee2, h⟩
            · cases ex.symm.trans ev2
            · cases ex.symm.trans ee2
              cases h
              exact rt_x hlk hex hR g1 g2 g3
      · cases ev.symm.trans ee2
    · rcases h with ⟨v2, ev2, -⟩ | ⟨e2, ee2, h⟩
      · cases ex.symm.trans ev2
      · cases ex.symm.trans ee2
        cases h
        exact rt_x hlk hex hR g1 g2 g3
  · replace h := rz_t c_1 h
    refine lv_aload_n hx hb dM_afterSingle_6 rfl (lv_at hl 0 rfl) ?_
    refine lv_bipush (v := 8) hx hb dM_afterSingle_7 (by decide) ?_
    refine lv_bipush (v := 8) hx hb dM_afterSingle_9 (by decide) ?_
    obtain ⟨c_32, h⟩ := rz_chk h
    obtain ⟨q_36, M_34, h_35, h⟩ := rz_c h
    refine rc_V (rest := []) (As := [.int 8, .int 8]) hx hb (hl.1.trans hml.symm) hown hK hR hRm mfM_settle kl_M_114 hk_M rfl rfl c_32 (by simp [cat_rf, Value.category]) (hC 84 _ _ _ _ h_35) dM_afterSingle_11 (fun v1 H locs cells slots ev hR => ?_) (fun x1 q1 ce1 H locs cells slots ex hR g1 g2 g3 => ?_)
    · rcases h with ⟨v_33, ev2, h⟩ | ⟨e2, ee2, -⟩
      · cases ev.symm.trans ev2
        replace h := rz_v h
        obtain ⟨rfl, h⟩ := h
        dsimp only [Option.toList, List.cons_append, List.nil_append]
        refine lv_aload_n hx hb dM_afterSingle_14 rfl (lv_at hl 0 rfl) ?_
        refine lv_bipush (v := 8) hx hb dM_afterSingle_15 (by decide) ?_
        obtain ⟨c_37, h⟩ := rz_chk h
        obtain ⟨q_41, M_39, h_40, h⟩ := rz_c h
        refine rc_V (rest := []) (As := [.int 8]) hx hb (hl.1.trans hml.symm) hown hK hR hRm mfM_push kl_M_78 hk_M rfl rfl c_37 (by simp [cat_rf, Value.category]) (hC 75 _ _ _ _ h_40) dM_afterSingle_17 (fun v1 H locs cells slots ev hR => ?_) (fun x1 q1 ce1 H locs cells slots ex hR g1 g2 g3 => ?_)
        · rcases h with ⟨v_38, ev2, h⟩ | ⟨e2, ee2, -⟩
          · cases ev.symm.trans ev2
            replace h := rz_v h
            obtain ⟨rfl, h⟩ := h
            dsimp only [Option.toList, List.cons_append, List.nil_append]
            refine lv_bipush (v := 8) hx hb dM_afterSingle_20 (by decide) ?_
            cases h
            exact rt_i hx hb hlk hrt (Or.inl rfl) rfl hR dM_afterSingle_22
          · cases ev.symm.trans ee2
        · rcases h with ⟨v2, ev2, -⟩ | ⟨e2, ee2, h⟩
          · cases ex.symm.trans ev2
          · cases ex.symm.trans ee2
            cases h
            exact rt_x hlk hex hR g1 g2 g3
      · cases ev.symm.trans ee2
    · rcases h with ⟨v2, ev2, -⟩ | ⟨e2, ee2, h⟩
      · cases ex.symm.trans ev2
      · cases ex.symm.trans ee2
        cases h
        exact rt_x hlk hex hR g1 g2 g3
set_option maxRecDepth 100000 in
set_option maxHeartbeats 4000000 in
theorem sM_afterSingle {l : Launch} {G : Gx} {n d : Nat} {C : Cx} (hC : CBs l G d C) (a0 : Nat) (x1 : Int32) {M M' : Mem} {r : Option Value ⊕ Nat} (h : fM_afterSingle_0 n d C a0 x1 M = some (r, M')) : CB l G (d + 1) yM_afterSingle [.ref a0, .int x1] M r M' := by
  intro p e R s m below meth c hx hn hm hc hlk hK hR hcap hS hU hfr hlo hrc hrs
  obtain ⟨hb, hml, hrt, hex, hown⟩ := fx_of hn hm hc (hK.w mfM_afterSingle.2.2.1 rfl #[])
  have F : FX p s m meth c G R M d "HeadCountModel" bM_afterSingle 2 (some .int) := ⟨hx, hb, hml, hown, hrt, hlk, hex, hK, hfr, hlo, by rw [← hcap]; exact hrc, hrs⟩
  rw [hml]
  have hl := lv_entry ([.ref a0, .int x1]) (n := 2) (by simp [lg_sl, cat_rf, Value.category])
  rw [lg_entry_eq]
  generalize (lg_sl ([.ref a0, .int x1]) ++ List.replicate (2 - (lg_sl ([.ref a0, .int x1])).length) Slot.unset).toArray = ls at hl ⊢
  have hl : lv_has ls 2 [(0, .ref a0), (1, .int x1)] := by simpa [lv_args, cat_rf, Value.category] using hl
  exact tM_afterSingle_0 F hC a0 x1 _ _ _ _ _ _ h (RL.start hR hcap hS hU) (lv_sub hl [0, 1] rfl)
end
end
section
theorem dM_holds_0 : decode bM_holds 0 = .ok (.aload_n 0, 1) := by decide +kernel
theorem dM_holds_1 : decode bM_holds 1 = .ok (.aload_n 0, 1) := by decide +kernel
theorem dM_holds_2 : decode bM_holds 2 = .ok (.getfield 194, 3) := by decide +kernel
theorem dM_holds_5 : decode bM_holds 5 = .ok (.ifCond .ne 7, 3) := by decide +kernel
theorem dM_holds_8 : decode bM_holds 8 = .ok (.iconst 1, 1) := by decide +kernel
theorem dM_holds_9 : decode bM_holds 9 = .ok (.goto 15, 3) := by decide +kernel
theorem dM_holds_12 : decode bM_holds 12 = .ok (.iload_n 1, 1) := by decide +kernel
theorem dM_holds_13 : decode bM_holds 13 = .ok (.invokestatic 238, 3) := by decide +kernel
theorem dM_holds_16 : decode bM_holds 16 = .ok (.ifCond .ne 7, 3) := by decide +kernel
theorem dM_holds_19 : decode bM_holds 19 = .ok (.iconst 2, 1) := by decide +kernel
theorem dM_holds_20 : decode bM_holds 20 = .ok (.goto 4, 3) := by decide +kernel
theorem dM_holds_23 : decode bM_holds 23 = .ok (.iconst 0, 1) := by decide +kernel
theorem dM_holds_24 : decode bM_holds 24 = .ok (.putfield 60, 3) := by decide +kernel
theorem dM_holds_27 : decode bM_holds 27 = .ok (.aload_n 0, 1) := by decide +kernel
theorem dM_holds_28 : decode bM_holds 28 = .ok (.getfield 60, 3) := by decide +kernel
theorem dM_holds_31 : decode bM_holds 31 = .ok (.ifCond .ne 16, 3) := by decide +kernel
theorem dM_holds_34 : decode bM_holds 34 = .ok (.aload_n 0, 1) := by decide +kernel
theorem dM_holds_35 : decode bM_holds 35 = .ok (.iload_n 1, 1) := by decide +kernel
theorem dM_holds_36 : decode bM_holds 36 = .ok (.iconst 0, 1) := by decide +kernel
theorem dM_holds_37 : decode bM_holds 37 = .ok (.invokevirtual 241, 3) := by decide +kernel
theorem dM_holds_40 : decode bM_holds 40 = .ok (.ifCond .eq 7, 3) := by decide +kernel
theorem dM_holds_43 : decode bM_holds 43 = .ok (.iconst 1, 1) := by decide +kernel
theorem dM_holds_44 : decode bM_holds 44 = .ok (.goto 4, 3) := by decide +kernel
theorem dM_holds_47 : decode bM_holds 47 = .ok (.iconst 0, 1) := by decide +kernel
theorem dM_holds_48 : decode bM_holds 48 = .ok (.ireturn, 1) := by decide +kernel
theorem dM_isSize_0 : decode bM_isSize 0 = .ok (.iload_n 0, 1) := by decide +kernel
theorem dM_isSize_1 : decode bM_isSize 1 = .ok (.ifCond .lt 12, 3) := by decide +kernel
theorem dM_isSize_4 : decode bM_isSize 4 = .ok (.iload_n 0, 1) := by decide +kernel
theorem dM_isSize_5 : decode bM_isSize 5 = .ok (.iconst 4, 1) := by decide +kernel
theorem dM_isSize_6 : decode bM_isSize 6 = .ok (.if_icmp .gt 7, 3) := by decide +kernel
theorem dM_isSize_9 : decode bM_isSize 9 = .ok (.iconst 1, 1) := by decide +kernel
theorem dM_isSize_10 : decode bM_isSize 10 = .ok (.goto 4, 3) := by decide +kernel
theorem dM_isSize_13 : decode bM_isSize 13 = .ok (.iconst 0, 1) := by decide +kernel
theorem dM_isSize_14 : decode bM_isSize 14 = .ok (.ireturn, 1) := by decide +kernel
theorem dM_run_0 : decode bM_run 0 = .ok (.aload_n 0, 1) := by decide +kernel
theorem dM_run_1 : decode bM_run 1 = .ok (.iload_n 1, 1) := by decide +kernel
theorem dM_run_2 : decode bM_run 2 = .ok (.putfield 216, 3) := by decide +kernel
theorem dM_run_5 : decode bM_run 5 = .ok (.aload_n 0, 1) := by decide +kernel
theorem dM_run_6 : decode bM_run 6 = .ok (.iconst 0, 1) := by decide +kernel
theorem dM_run_7 : decode bM_run 7 = .ok (.putfield 206, 3) := by decide +kernel
theorem dM_run_10 : decode bM_run 10 = .ok (.aload_n 0, 1) := by decide +kernel
theorem dM_run_11 : decode bM_run 11 = .ok (.iconst 0, 1) := by decide +kernel
theorem dM_run_12 : decode bM_run 12 = .ok (.putfield 222, 3) := by decide +kernel
theorem dM_run_15 : decode bM_run 15 = .ok (.iconst 0, 1) := by decide +kernel
theorem dM_run_16 : decode bM_run 16 = .ok (.istore_n 3, 1) := by decide +kernel
theorem dM_run_17 : decode bM_run 17 = .ok (.iload_n 3, 1) := by decide +kernel
theorem dM_run_18 : decode bM_run 18 = .ok (.aload_n 0, 1) := by decide +kernel
theorem dM_run_19 : decode bM_run 19 = .ok (.getfield 197, 3) := by decide +kernel
theorem dM_run_22 : decode bM_run 22 = .ok (.if_icmp .ge 177, 3) := by decide +kernel
theorem dM_run_25 : decode bM_run 25 = .ok (.aload_n 0, 1) := by decide +kernel
theorem dM_run_26 : decode bM_run 26 = .ok (.getfield 13, 3) := by decide +kernel
theorem dM_run_29 : decode bM_run 29 = .ok (.iload_n 3, 1) := by decide +kernel
theorem dM_run_30 : decode bM_run 30 = .ok (.iaload, 1) := by decide +kernel
theorem dM_run_31 : decode bM_run 31 = .ok (.istore 4, 2) := by decide +kernel
theorem dM_run_33 : decode bM_run 33 = .ok (.aload_n 0, 1) := by decide +kernel
theorem dM_run_34 : decode bM_run 34 = .ok (.getfield 17, 3) := by decide +kernel
theorem dM_run_37 : decode bM_run 37 = .ok (.iload_n 3, 1) := by decide +kernel
theorem dM_run_38 : decode bM_run 38 = .ok (.iaload, 1) := by decide +kernel
theorem dM_run_39 : decode bM_run 39 = .ok (.istore 5, 2) := by decide +kernel
theorem dM_run_41 : decode bM_run 41 = .ok (.iload_n 3, 1) := by decide +kernel
theorem dM_run_42 : decode bM_run 42 = .ok (.iconst 1, 1) := by decide +kernel
theorem dM_run_43 : decode bM_run 43 = .ok (.iadd, 1) := by decide +kernel
theorem dM_run_44 : decode bM_run 44 = .ok (.istore 6, 2) := by decide +kernel
theorem dM_run_46 : decode bM_run 46 = .ok (.iload 4, 2) := by decide +kernel
theorem dM_run_48 : decode bM_run 48 = .ok (.bipush 12, 2) := by decide +kernel
theorem dM_run_50 : decode bM_run 50 = .ok (.if_icmp .ne 38, 3) := by decide +kernel
theorem dM_run_53 : decode bM_run 53 = .ok (.aload_n 0, 1) := by decide +kernel
theorem dM_run_54 : decode bM_run 54 = .ok (.getfield 51, 3) := by decide +kernel
theorem dM_run_57 : decode bM_run 57 = .ok (.iload 5, 2) := by decide +kernel
theorem dM_run_59 : decode bM_run 59 = .ok (.aload_n 0, 1) := by decide +kernel
theorem dM_run_60 : decode bM_run 60 = .ok (.getfield 24, 3) := by decide +kernel
theorem dM_run_63 : decode bM_run 63 = .ok (.iload 5, 2) := by decide +kernel
theorem dM_run_65 : decode bM_run 65 = .ok (.baload, 1) := by decide +kernel
theorem dM_run_66 : decode bM_run 66 = .ok (.ifCond .eq 7, 3) := by decide +kernel
theorem dM_run_69 : decode bM_run 69 = .ok (.iconst 0, 1) := by decide +kernel
theorem dM_run_70 : decode bM_run 70 = .ok (.goto 5, 3) := by decide +kernel
theorem dM_run_73 : decode bM_run 73 = .ok (.bipush (-8), 2) := by decide +kernel
theorem dM_run_75 : decode bM_run 75 = .ok (.iastore, 1) := by decide +kernel
theorem dM_run_76 : decode bM_run 76 = .ok (.aload_n 0, 1) := by decide +kernel
theorem dM_run_77 : decode bM_run 77 = .ok (.getfield 54, 3) := by decide +kernel
theorem dM_run_80 : decode bM_run 80 = .ok (.iload 5, 2) := by decide +kernel
theorem dM_run_82 : decode bM_run 82 = .ok (.iload 6, 2) := by decide +kernel
theorem dM_run_84 : decode bM_run 84 = .ok (.iastore, 1) := by decide +kernel
theorem dM_run_85 : decode bM_run 85 = .ok (.goto 108, 3) := by decide +kernel
theorem dM_run_88 : decode bM_run 88 = .ok (.iload 4, 2) := by decide +kernel
theorem dM_run_90 : decode bM_run 90 = .ok (.iconst 5, 1) := by decide +kernel
theorem dM_run_91 : decode bM_run 91 = .ok (.if_icmp .ne 57, 3) := by decide +kernel
theorem dM_run_94 : decode bM_run 94 = .ok (.aload_n 0, 1) := by decide +kernel
theorem dM_run_95 : decode bM_run 95 = .ok (.invokevirtual 209, 3) := by decide +kernel
theorem dM_run_98 : decode bM_run 98 = .ok (.istore 7, 2) := by decide +kernel
theorem dM_run_100 : decode bM_run 100 = .ok (.aload_n 0, 1) := by decide +kernel
theorem dM_run_101 : decode bM_run 101 = .ok (.iload 5, 2) := by decide +kernel
theorem dM_run_103 : decode bM_run 103 = .ok (.iload 7, 2) := by decide +kernel
theorem dM_run_105 : decode bM_run 105 = .ok (.iload_n 2, 1) := by decide +kernel
theorem dM_run_106 : decode bM_run 106 = .ok (.ifCond .eq 12, 3) := by decide +kernel
theorem dM_run_109 : decode bM_run 109 = .ok (.iload 5, 2) := by decide +kernel
theorem dM_run_111 : decode bM_run 111 = .ok (.ifCond .ne 7, 3) := by decide +kernel
theorem dM_run_114 : decode bM_run 114 = .ok (.iconst 1, 1) := by decide +kernel
theorem dM_run_115 : decode bM_run 115 = .ok (.goto 4, 3) := by decide +kernel
theorem dM_run_118 : decode bM_run 118 = .ok (.iconst 0, 1) := by decide +kernel
theorem dM_run_119 : decode bM_run 119 = .ok (.invokevirtual 228, 3) := by decide +kernel
theorem dM_run_122 : decode bM_run 122 = .ok (.ifCond .ne 23, 3) := by decide +kernel
theorem dM_run_125 : decode bM_run 125 = .ok (.aload_n 0, 1) := by decide +kernel
theorem dM_run_126 : decode bM_run 126 = .ok (.getfield 51, 3) := by decide +kernel
theorem dM_run_129 : decode bM_run 129 = .ok (.iload 5, 2) := by decide +kernel
theorem dM_run_131 : decode bM_run 131 = .ok (.dup2, 1) := by decide +kernel
theorem dM_run_132 : decode bM_run 132 = .ok (.iaload, 1) := by decide +kernel
theorem dM_run_133 : decode bM_run 133 = .ok (.iconst 1, 1) := by decide +kernel
theorem dM_run_134 : decode bM_run 134 = .ok (.iadd, 1) := by decide +kernel
theorem dM_run_135 : decode bM_run 135 = .ok (.iastore, 1) := by decide +kernel
theorem dM_run_136 : decode bM_run 136 = .ok (.aload_n 0, 1) := by decide +kernel
theorem dM_run_137 : decode bM_run 137 = .ok (.getfield 54, 3) := by decide +kernel
theorem dM_run_140 : decode bM_run 140 = .ok (.iload 5, 2) := by decide +kernel
theorem dM_run_142 : decode bM_run 142 = .ok (.iaload, 1) := by decide +kernel
theorem dM_run_143 : decode bM_run 143 = .ok (.istore 6, 2) := by decide +kernel
theorem dM_run_145 : decode bM_run 145 = .ok (.goto 48, 3) := by decide +kernel
theorem dM_run_148 : decode bM_run 148 = .ok (.iload 4, 2) := by decide +kernel
theorem dM_run_150 : decode bM_run 150 = .ok (.bipush 13, 2) := by decide +kernel
theorem dM_run_152 : decode bM_run 152 = .ok (.if_icmp .lt 10, 3) := by decide +kernel
theorem dM_run_155 : decode bM_run 155 = .ok (.iload 4, 2) := by decide +kernel
theorem dM_run_157 : decode bM_run 157 = .ok (.bipush 18, 2) := by decide +kernel
theorem dM_run_159 : decode bM_run 159 = .ok (.if_icmp .le 17, 3) := by decide +kernel
theorem dM_run_162 : decode bM_run 162 = .ok (.iload 4, 2) := by decide +kernel
theorem dM_run_164 : decode bM_run 164 = .ok (.bipush 21, 2) := by decide +kernel
theorem dM_run_166 : decode bM_run 166 = .ok (.if_icmp .eq 10, 3) := by decide +kernel
theorem dM_run_169 : decode bM_run 169 = .ok (.iload 4, 2) := by decide +kernel
theorem dM_run_171 : decode bM_run 171 = .ok (.bipush 11, 2) := by decide +kernel
theorem dM_run_173 : decode bM_run 173 = .ok (.if_icmp .ne 14, 3) := by decide +kernel
theorem dM_run_176 : decode bM_run 176 = .ok (.aload_n 0, 1) := by decide +kernel
theorem dM_run_177 : decode bM_run 177 = .ok (.iload 4, 2) := by decide +kernel
theorem dM_run_179 : decode bM_run 179 = .ok (.iload 5, 2) := by decide +kernel
theorem dM_run_181 : decode bM_run 181 = .ok (.invokevirtual 232, 3) := by decide +kernel
theorem dM_run_184 : decode bM_run 184 = .ok (.goto 9, 3) := by decide +kernel
theorem dM_run_187 : decode bM_run 187 = .ok (.aload_n 0, 1) := by decide +kernel
theorem dM_run_188 : decode bM_run 188 = .ok (.iload 4, 2) := by decide +kernel
theorem dM_run_190 : decode bM_run 190 = .ok (.invokevirtual 235, 3) := by decide +kernel
theorem dM_run_193 : decode bM_run 193 = .ok (.iload 6, 2) := by decide +kernel
theorem dM_run_195 : decode bM_run 195 = .ok (.istore_n 3, 1) := by decide +kernel
theorem dM_run_196 : decode bM_run 196 = .ok (.goto (-179), 3) := by decide +kernel
theorem dM_run_199 : decode bM_run 199 = .ok (.aload_n 0, 1) := by decide +kernel
theorem dM_run_200 : decode bM_run 200 = .ok (.getfield 57, 3) := by decide +kernel
theorem dM_run_203 : decode bM_run 203 = .ok (.iconst 0, 1) := by decide +kernel
theorem dM_run_204 : decode bM_run 204 = .ok (.iaload, 1) := by decide +kernel
theorem dM_run_205 : decode bM_run 205 = .ok (.iconst 1, 1) := by decide +kernel
theorem dM_run_206 : decode bM_run 206 = .ok (.if_icmp .ne 7, 3) := by decide +kernel
theorem dM_run_209 : decode bM_run 209 = .ok (.iconst 1, 1) := by decide +kernel
theorem dM_run_210 : decode bM_run 210 = .ok (.goto 4, 3) := by decide +kernel
theorem dM_run_213 : decode bM_run 213 = .ok (.iconst 0, 1) := by decide +kernel
theorem dM_run_214 : decode bM_run 214 = .ok (.ireturn, 1) := by decide +kernel
theorem dM_pop_0 : decode bM_pop 0 = .ok (.aload_n 0, 1) := by decide +kernel
theorem dM_pop_1 : decode bM_pop 1 = .ok (.dup, 1) := by decide +kernel
theorem dM_pop_2 : decode bM_pop 2 = .ok (.getfield 206, 3) := by decide +kernel
theorem dM_pop_5 : decode bM_pop 5 = .ok (.iconst 1, 1) := by decide +kernel
theorem dM_pop_6 : decode bM_pop 6 = .ok (.isub, 1) := by decide +kernel
theorem dM_pop_7 : decode bM_pop 7 = .ok (.putfield 206, 3) := by decide +kernel
theorem dM_pop_10 : decode bM_pop 10 = .ok (.aload_n 0, 1) := by decide +kernel
theorem dM_pop_11 : decode bM_pop 11 = .ok (.getfield 57, 3) := by decide +kernel
theorem dM_pop_14 : decode bM_pop 14 = .ok (.aload_n 0, 1) := by decide +kernel
theorem dM_pop_15 : decode bM_pop 15 = .ok (.getfield 206, 3) := by decide +kernel
theorem dM_pop_18 : decode bM_pop 18 = .ok (.iaload, 1) := by decide +kernel
theorem dM_pop_19 : decode bM_pop 19 = .ok (.ireturn, 1) := by decide +kernel
theorem dM_ends_0 : decode bM_ends 0 = .ok (.aload_n 0, 1) := by decide +kernel
theorem dM_ends_1 : decode bM_ends 1 = .ok (.dup, 1) := by decide +kernel
theorem dM_ends_2 : decode bM_ends 2 = .ok (.getfield 222, 3) := by decide +kernel
theorem dM_ends_5 : decode bM_ends 5 = .ok (.iload_n 3, 1) := by decide +kernel
theorem dM_ends_6 : decode bM_ends 6 = .ok (.ifCond .eq 7, 3) := by decide +kernel
theorem dM_ends_9 : decode bM_ends 9 = .ok (.iload_n 2, 1) := by decide +kernel
theorem dM_ends_10 : decode bM_ends 10 = .ok (.goto 4, 3) := by decide +kernel
theorem dM_ends_13 : decode bM_ends 13 = .ok (.iconst 0, 1) := by decide +kernel
theorem dM_ends_14 : decode bM_ends 14 = .ok (.iadd, 1) := by decide +kernel
theorem dM_ends_15 : decode bM_ends 15 = .ok (.putfield 222, 3) := by decide +kernel
theorem dM_ends_18 : decode bM_ends 18 = .ok (.iload_n 3, 1) := by decide +kernel
theorem dM_ends_19 : decode bM_ends 19 = .ok (.ifCond .ne 25, 3) := by decide +kernel
theorem dM_ends_22 : decode bM_ends 22 = .ok (.iload_n 2, 1) := by decide +kernel
theorem dM_ends_23 : decode bM_ends 23 = .ok (.aload_n 0, 1) := by decide +kernel
theorem dM_ends_24 : decode bM_ends 24 = .ok (.getfield 20, 3) := by decide +kernel
theorem dM_ends_27 : decode bM_ends 27 = .ok (.iload_n 1, 1) := by decide +kernel
theorem dM_ends_28 : decode bM_ends 28 = .ok (.baload, 1) := by decide +kernel
theorem dM_ends_29 : decode bM_ends 29 = .ok (.ifCond .eq 7, 3) := by decide +kernel
theorem dM_ends_32 : decode bM_ends 32 = .ok (.iconst 0, 1) := by decide +kernel
theorem dM_ends_33 : decode bM_ends 33 = .ok (.goto 4, 3) := by decide +kernel
theorem dM_ends_36 : decode bM_ends 36 = .ok (.iconst 1, 1) := by decide +kernel
theorem dM_ends_37 : decode bM_ends 37 = .ok (.if_icmp .ne 7, 3) := by decide +kernel
theorem dM_ends_40 : decode bM_ends 40 = .ok (.iconst 1, 1) := by decide +kernel
theorem dM_ends_41 : decode bM_ends 41 = .ok (.goto 4, 3) := by decide +kernel
theorem dM_ends_44 : decode bM_ends 44 = .ok (.iconst 0, 1) := by decide +kernel
theorem dM_ends_45 : decode bM_ends 45 = .ok (.istore 4, 2) := by decide +kernel
theorem dM_ends_47 : decode bM_ends 47 = .ok (.iload 4, 2) := by decide +kernel
theorem dM_ends_49 : decode bM_ends 49 = .ok (.ifCond .ne 19, 3) := by decide +kernel
theorem dM_ends_52 : decode bM_ends 52 = .ok (.aload_n 0, 1) := by decide +kernel
theorem dM_ends_53 : decode bM_ends 53 = .ok (.getfield 51, 3) := by decide +kernel
theorem dM_ends_56 : decode bM_ends 56 = .ok (.iload_n 1, 1) := by decide +kernel
theorem dM_ends_57 : decode bM_ends 57 = .ok (.iaload, 1) := by decide +kernel
theorem dM_ends_58 : decode bM_ends 58 = .ok (.aload_n 0, 1) := by decide +kernel
theorem dM_ends_59 : decode bM_ends 59 = .ok (.iload_n 1, 1) := by decide +kernel
theorem dM_ends_60 : decode bM_ends 60 = .ok (.invokevirtual 225, 3) := by decide +kernel
theorem dM_ends_63 : decode bM_ends 63 = .ok (.if_icmp .ge 5, 3) := by decide +kernel
theorem dM_ends_66 : decode bM_ends 66 = .ok (.iconst 0, 1) := by decide +kernel
theorem dM_ends_67 : decode bM_ends 67 = .ok (.ireturn, 1) := by decide +kernel
theorem dM_ends_68 : decode bM_ends 68 = .ok (.aload_n 0, 1) := by decide +kernel
theorem dM_ends_69 : decode bM_ends 69 = .ok (.iload 4, 2) := by decide +kernel
theorem dM_ends_71 : decode bM_ends 71 = .ok (.ifCond .eq 7, 3) := by decide +kernel
theorem dM_ends_74 : decode bM_ends 74 = .ok (.iload_n 2, 1) := by decide +kernel
theorem dM_ends_75 : decode bM_ends 75 = .ok (.goto 17, 3) := by decide +kernel
theorem dM_ends_78 : decode bM_ends 78 = .ok (.aload_n 0, 1) := by decide +kernel
theorem dM_ends_79 : decode bM_ends 79 = .ok (.getfield 20, 3) := by decide +kernel
theorem dM_ends_82 : decode bM_ends 82 = .ok (.iload_n 1, 1) := by decide +kernel
theorem dM_ends_83 : decode bM_ends 83 = .ok (.baload, 1) := by decide +kernel
theorem dM_ends_84 : decode bM_ends 84 = .ok (.ifCond .eq 7, 3) := by decide +kernel
theorem dM_ends_87 : decode bM_ends 87 = .ok (.iconst 1, 1) := by decide +kernel
theorem dM_ends_88 : decode bM_ends 88 = .ok (.goto 4, 3) := by decide +kernel
theorem dM_ends_91 : decode bM_ends 91 = .ok (.iconst 0, 1) := by decide +kernel
theorem dM_ends_92 : decode bM_ends 92 = .ok (.invokevirtual 219, 3) := by decide +kernel
theorem dM_ends_95 : decode bM_ends 95 = .ok (.iconst 1, 1) := by decide +kernel
theorem dM_ends_96 : decode bM_ends 96 = .ok (.ireturn, 1) := by decide +kernel
theorem dM_lastOf_0 : decode bM_lastOf 0 = .ok (.aload_n 0, 1) := by decide +kernel
theorem dM_lastOf_1 : decode bM_lastOf 1 = .ok (.getfield 24, 3) := by decide +kernel
theorem dM_lastOf_4 : decode bM_lastOf 4 = .ok (.iload_n 1, 1) := by decide +kernel
theorem dM_lastOf_5 : decode bM_lastOf 5 = .ok (.baload, 1) := by decide +kernel
theorem dM_lastOf_6 : decode bM_lastOf 6 = .ok (.ifCond .eq 14, 3) := by decide +kernel
theorem dM_lastOf_9 : decode bM_lastOf 9 = .ok (.iconst 1, 1) := by decide +kernel
theorem dM_lastOf_10 : decode bM_lastOf 10 = .ok (.aload_n 0, 1) := by decide +kernel
theorem dM_lastOf_11 : decode bM_lastOf 11 = .ok (.getfield 216, 3) := by decide +kernel
theorem dM_lastOf_14 : decode bM_lastOf 14 = .ok (.ishl, 1) := by decide +kernel
theorem dM_lastOf_15 : decode bM_lastOf 15 = .ok (.iconst 1, 1) := by decide +kernel
theorem dM_lastOf_16 : decode bM_lastOf 16 = .ok (.isub, 1) := by decide +kernel
theorem dM_lastOf_17 : decode bM_lastOf 17 = .ok (.goto 5, 3) := by decide +kernel
theorem dM_lastOf_20 : decode bM_lastOf 20 = .ok (.bipush 8, 2) := by decide +kernel
theorem dM_lastOf_22 : decode bM_lastOf 22 = .ok (.ireturn, 1) := by decide +kernel
theorem dM_put_0 : decode bM_put 0 = .ok (.aload_n 0, 1) := by decide +kernel
theorem dM_put_1 : decode bM_put 1 = .ok (.getfield 57, 3) := by decide +kernel
theorem dM_put_4 : decode bM_put 4 = .ok (.aload_n 0, 1) := by decide +kernel
theorem dM_put_5 : decode bM_put 5 = .ok (.getfield 206, 3) := by decide +kernel
theorem dM_put_8 : decode bM_put 8 = .ok (.iload_n 1, 1) := by decide +kernel
theorem dM_put_9 : decode bM_put 9 = .ok (.iastore, 1) := by decide +kernel
theorem dM_put_10 : decode bM_put 10 = .ok (.aload_n 0, 1) := by decide +kernel
theorem dM_put_11 : decode bM_put 11 = .ok (.dup, 1) := by decide +kernel
theorem dM_put_12 : decode bM_put 12 = .ok (.getfield 206, 3) := by decide +kernel
theorem dM_put_15 : decode bM_put 15 = .ok (.iconst 1, 1) := by decide +kernel
theorem dM_put_16 : decode bM_put 16 = .ok (.iadd, 1) := by decide +kernel
theorem dM_put_17 : decode bM_put 17 = .ok (.putfield 206, 3) := by decide +kernel
theorem dM_put_20 : decode bM_put 20 = .ok (.return_, 1) := by decide +kernel
theorem dM_doSum_0 : decode bM_doSum 0 = .ok (.iload_n 1, 1) := by decide +kernel
theorem dM_doSum_1 : decode bM_doSum 1 = .ok (.bipush 18, 2) := by decide +kernel
theorem dM_doSum_3 : decode bM_doSum 3 = .ok (.if_icmp .ne 26, 3) := by decide +kernel
theorem dM_doSum_6 : decode bM_doSum 6 = .ok (.aload_n 0, 1) := by decide +kernel
theorem dM_doSum_7 : decode bM_doSum 7 = .ok (.invokevirtual 209, 3) := by decide +kernel
theorem dM_doSum_10 : decode bM_doSum 10 = .ok (.istore_n 3, 1) := by decide +kernel
theorem dM_doSum_11 : decode bM_doSum 11 = .ok (.aload_n 0, 1) := by decide +kernel
theorem dM_doSum_12 : decode bM_doSum 12 = .ok (.getfield 57, 3) := by decide +kernel
theorem dM_doSum_15 : decode bM_doSum 15 = .ok (.aload_n 0, 1) := by decide +kernel
theorem dM_doSum_16 : decode bM_doSum 16 = .ok (.getfield 206, 3) := by decide +kernel
theorem dM_doSum_19 : decode bM_doSum 19 = .ok (.iconst 1, 1) := by decide +kernel
theorem dM_doSum_20 : decode bM_doSum 20 = .ok (.isub, 1) := by decide +kernel
theorem dM_doSum_21 : decode bM_doSum 21 = .ok (.dup2, 1) := by decide +kernel
theorem dM_doSum_22 : decode bM_doSum 22 = .ok (.iaload, 1) := by decide +kernel
theorem dM_doSum_23 : decode bM_doSum 23 = .ok (.iload_n 3, 1) := by decide +kernel
theorem dM_doSum_24 : decode bM_doSum 24 = .ok (.iadd, 1) := by decide +kernel
theorem dM_doSum_25 : decode bM_doSum 25 = .ok (.iastore, 1) := by decide +kernel
theorem dM_doSum_26 : decode bM_doSum 26 = .ok (.goto 176, 3) := by decide +kernel
theorem dM_doSum_29 : decode bM_doSum 29 = .ok (.iload_n 1, 1) := by decide +kernel
theorem dM_doSum_30 : decode bM_doSum 30 = .ok (.bipush 16, 2) := by decide +kernel
theorem dM_doSum_32 : decode bM_doSum 32 = .ok (.if_icmp .ne 30, 3) := by decide +kernel
theorem dM_doSum_35 : decode bM_doSum 35 = .ok (.aload_n 0, 1) := by decide +kernel
theorem dM_doSum_36 : decode bM_doSum 36 = .ok (.getfield 57, 3) := by decide +kernel
theorem dM_doSum_39 : decode bM_doSum 39 = .ok (.aload_n 0, 1) := by decide +kernel
theorem dM_doSum_40 : decode bM_doSum 40 = .ok (.getfield 206, 3) := by decide +kernel
theorem dM_doSum_43 : decode bM_doSum 43 = .ok (.iconst 1, 1) := by decide +kernel
theorem dM_doSum_44 : decode bM_doSum 44 = .ok (.isub, 1) := by decide +kernel
theorem dM_doSum_45 : decode bM_doSum 45 = .ok (.iload_n 2, 1) := by decide +kernel
theorem dM_doSum_46 : decode bM_doSum 46 = .ok (.aload_n 0, 1) := by decide +kernel
theorem dM_doSum_47 : decode bM_doSum 47 = .ok (.getfield 57, 3) := by decide +kernel
theorem dM_doSum_50 : decode bM_doSum 50 = .ok (.aload_n 0, 1) := by decide +kernel
theorem dM_doSum_51 : decode bM_doSum 51 = .ok (.getfield 206, 3) := by decide +kernel
theorem dM_doSum_54 : decode bM_doSum 54 = .ok (.iconst 1, 1) := by decide +kernel
theorem dM_doSum_55 : decode bM_doSum 55 = .ok (.isub, 1) := by decide +kernel
theorem dM_doSum_56 : decode bM_doSum 56 = .ok (.iaload, 1) := by decide +kernel
theorem dM_doSum_57 : decode bM_doSum 57 = .ok (.imul, 1) := by decide +kernel
theorem dM_doSum_58 : decode bM_doSum 58 = .ok (.iastore, 1) := by decide +kernel
theorem dM_doSum_59 : decode bM_doSum 59 = .ok (.goto 143, 3) := by decide +kernel
theorem dM_doSum_62 : decode bM_doSum 62 = .ok (.iload_n 1, 1) := by decide +kernel
theorem dM_doSum_63 : decode bM_doSum 63 = .ok (.bipush 17, 2) := by decide +kernel
theorem dM_doSum_65 : decode bM_doSum 65 = .ok (.if_icmp .ne 29, 3) := by decide +kernel
theorem dM_doSum_68 : decode bM_doSum 68 = .ok (.aload_n 0, 1) := by decide +kernel
theorem dM_doSum_69 : decode bM_doSum 69 = .ok (.getfield 57, 3) := by decide +kernel
theorem dM_doSum_72 : decode bM_doSum 72 = .ok (.aload_n 0, 1) := by decide +kernel
theorem dM_doSum_73 : decode bM_doSum 73 = .ok (.getfield 206, 3) := by decide +kernel
theorem dM_doSum_76 : decode bM_doSum 76 = .ok (.iconst 1, 1) := by decide +kernel
theorem dM_doSum_77 : decode bM_doSum 77 = .ok (.isub, 1) := by decide +kernel
theorem dM_doSum_78 : decode bM_doSum 78 = .ok (.aload_n 0, 1) := by decide +kernel
theorem dM_doSum_79 : decode bM_doSum 79 = .ok (.getfield 57, 3) := by decide +kernel
theorem dM_doSum_82 : decode bM_doSum 82 = .ok (.aload_n 0, 1) := by decide +kernel
theorem dM_doSum_83 : decode bM_doSum 83 = .ok (.getfield 206, 3) := by decide +kernel
theorem dM_doSum_86 : decode bM_doSum 86 = .ok (.iconst 1, 1) := by decide +kernel
theorem dM_doSum_87 : decode bM_doSum 87 = .ok (.isub, 1) := by decide +kernel
theorem dM_doSum_88 : decode bM_doSum 88 = .ok (.iaload, 1) := by decide +kernel
theorem dM_doSum_89 : decode bM_doSum 89 = .ok (.ineg, 1) := by decide +kernel
theorem dM_doSum_90 : decode bM_doSum 90 = .ok (.iastore, 1) := by decide +kernel
theorem dM_doSum_91 : decode bM_doSum 91 = .ok (.goto 111, 3) := by decide +kernel
theorem dM_doSum_94 : decode bM_doSum 94 = .ok (.iload_n 1, 1) := by decide +kernel
theorem dM_doSum_95 : decode bM_doSum 95 = .ok (.bipush 11, 2) := by decide +kernel
theorem dM_doSum_97 : decode bM_doSum 97 = .ok (.if_icmp .ne 31, 3) := by decide +kernel
theorem dM_doSum_100 : decode bM_doSum 100 = .ok (.aload_n 0, 1) := by decide +kernel
theorem dM_doSum_101 : decode bM_doSum 101 = .ok (.getfield 57, 3) := by decide +kernel
theorem dM_doSum_104 : decode bM_doSum 104 = .ok (.aload_n 0, 1) := by decide +kernel
theorem dM_doSum_105 : decode bM_doSum 105 = .ok (.getfield 206, 3) := by decide +kernel
theorem dM_doSum_108 : decode bM_doSum 108 = .ok (.iconst 1, 1) := by decide +kernel
theorem dM_doSum_109 : decode bM_doSum 109 = .ok (.isub, 1) := by decide +kernel
theorem dM_doSum_110 : decode bM_doSum 110 = .ok (.aload_n 0, 1) := by decide +kernel
theorem dM_doSum_111 : decode bM_doSum 111 = .ok (.getfield 57, 3) := by decide +kernel
theorem dM_doSum_114 : decode bM_doSum 114 = .ok (.aload_n 0, 1) := by decide +kernel
theorem dM_doSum_115 : decode bM_doSum 115 = .ok (.getfield 206, 3) := by decide +kernel
theorem dM_doSum_118 : decode bM_doSum 118 = .ok (.iconst 1, 1) := by decide +kernel
theorem dM_doSum_119 : decode bM_doSum 119 = .ok (.isub, 1) := by decide +kernel
theorem dM_doSum_120 : decode bM_doSum 120 = .ok (.iaload, 1) := by decide +kernel
theorem dM_doSum_121 : decode bM_doSum 121 = .ok (.invokestatic 212, 3) := by decide +kernel
theorem dM_doSum_124 : decode bM_doSum 124 = .ok (.iastore, 1) := by decide +kernel
theorem dM_doSum_125 : decode bM_doSum 125 = .ok (.goto 77, 3) := by decide +kernel
theorem dM_doSum_128 : decode bM_doSum 128 = .ok (.iload_n 1, 1) := by decide +kernel
theorem dM_doSum_129 : decode bM_doSum 129 = .ok (.bipush 21, 2) := by decide +kernel
theorem dM_doSum_131 : decode bM_doSum 131 = .ok (.if_icmp .ne 38, 3) := by decide +kernel
theorem dM_doSum_134 : decode bM_doSum 134 = .ok (.aload_n 0, 1) := by decide +kernel
theorem dM_doSum_135 : decode bM_doSum 135 = .ok (.getfield 57, 3) := by decide +kernel
theorem dM_doSum_138 : decode bM_doSum 138 = .ok (.aload_n 0, 1) := by decide +kernel
theorem dM_doSum_139 : decode bM_doSum 139 = .ok (.getfield 206, 3) := by decide +kernel
theorem dM_doSum_142 : decode bM_doSum 142 = .ok (.iconst 1, 1) := by decide +kernel
theorem dM_doSum_143 : decode bM_doSum 143 = .ok (.isub, 1) := by decide +kernel
theorem dM_doSum_144 : decode bM_doSum 144 = .ok (.aload_n 0, 1) := by decide +kernel
theorem dM_doSum_145 : decode bM_doSum 145 = .ok (.getfield 57, 3) := by decide +kernel
theorem dM_doSum_148 : decode bM_doSum 148 = .ok (.aload_n 0, 1) := by decide +kernel
theorem dM_doSum_149 : decode bM_doSum 149 = .ok (.getfield 206, 3) := by decide +kernel
theorem dM_doSum_152 : decode bM_doSum 152 = .ok (.iconst 1, 1) := by decide +kernel
theorem dM_doSum_153 : decode bM_doSum 153 = .ok (.isub, 1) := by decide +kernel
theorem dM_doSum_154 : decode bM_doSum 154 = .ok (.iaload, 1) := by decide +kernel
theorem dM_doSum_155 : decode bM_doSum 155 = .ok (.iload_n 2, 1) := by decide +kernel
theorem dM_doSum_156 : decode bM_doSum 156 = .ok (.irem, 1) := by decide +kernel
theorem dM_doSum_157 : decode bM_doSum 157 = .ok (.ifCond .ne 7, 3) := by decide +kernel
theorem dM_doSum_160 : decode bM_doSum 160 = .ok (.iconst 1, 1) := by decide +kernel
theorem dM_doSum_161 : decode bM_doSum 161 = .ok (.goto 4, 3) := by decide +kernel
theorem dM_doSum_164 : decode bM_doSum 164 = .ok (.iconst 0, 1) := by decide +kernel
theorem dM_doSum_165 : decode bM_doSum 165 = .ok (.iastore, 1) := by decide +kernel
theorem dM_doSum_166 : decode bM_doSum 166 = .ok (.goto 36, 3) := by decide +kernel
theorem dM_doSum_169 : decode bM_doSum 169 = .ok (.aload_n 0, 1) := by decide +kernel
theorem dM_doSum_170 : decode bM_doSum 170 = .ok (.iload_n 1, 1) := by decide +kernel
theorem dM_doSum_171 : decode bM_doSum 171 = .ok (.bipush 13, 2) := by decide +kernel
theorem dM_doSum_173 : decode bM_doSum 173 = .ok (.if_icmp .ne 7, 3) := by decide +kernel
theorem dM_doSum_176 : decode bM_doSum 176 = .ok (.iload_n 2, 1) := by decide +kernel
theorem dM_doSum_177 : decode bM_doSum 177 = .ok (.goto 22, 3) := by decide +kernel
theorem dM_doSum_180 : decode bM_doSum 180 = .ok (.iload_n 1, 1) := by decide +kernel
theorem dM_doSum_181 : decode bM_doSum 181 = .ok (.bipush 15, 2) := by decide +kernel
theorem dM_doSum_183 : decode bM_doSum 183 = .ok (.if_icmp .ne 10, 3) := by decide +kernel
theorem dM_doSum_186 : decode bM_doSum 186 = .ok (.aload_n 0, 1) := by decide +kernel
theorem dM_doSum_187 : decode bM_doSum 187 = .ok (.getfield 216, 3) := by decide +kernel
theorem dM_doSum_190 : decode bM_doSum 190 = .ok (.goto 9, 3) := by decide +kernel
theorem dM_doSum_193 : decode bM_doSum 193 = .ok (.aload_n 0, 1) := by decide +kernel
theorem dM_doSum_194 : decode bM_doSum 194 = .ok (.getfield 51, 3) := by decide +kernel
theorem dM_doSum_197 : decode bM_doSum 197 = .ok (.iload_n 2, 1) := by decide +kernel
theorem dM_doSum_198 : decode bM_doSum 198 = .ok (.iaload, 1) := by decide +kernel
theorem dM_doSum_199 : decode bM_doSum 199 = .ok (.invokevirtual 219, 3) := by decide +kernel
theorem dM_doSum_202 : decode bM_doSum 202 = .ok (.return_, 1) := by decide +kernel
theorem dM_count_0 : decode bM_count 0 = .ok (.iconst 0, 1) := by decide +kernel
theorem dM_count_1 : decode bM_count 1 = .ok (.istore_n 1, 1) := by decide +kernel
theorem dM_count_2 : decode bM_count 2 = .ok (.iconst 0, 1) := by decide +kernel
theorem dM_count_3 : decode bM_count 3 = .ok (.istore_n 2, 1) := by decide +kernel
theorem dM_count_4 : decode bM_count 4 = .ok (.iload_n 2, 1) := by decide +kernel
theorem dM_count_5 : decode bM_count 5 = .ok (.iconst 4, 1) := by decide +kernel
theorem dM_count_6 : decode bM_count 6 = .ok (.if_icmp .ge 17, 3) := by decide +kernel
theorem dM_count_9 : decode bM_count 9 = .ok (.iload_n 1, 1) := by decide +kernel
theorem dM_count_10 : decode bM_count 10 = .ok (.iload_n 0, 1) := by decide +kernel
theorem dM_count_11 : decode bM_count 11 = .ok (.iload_n 2, 1) := by decide +kernel
theorem dM_count_12 : decode bM_count 12 = .ok (.ishr, 1) := by decide +kernel
theorem dM_count_13 : decode bM_count 13 = .ok (.iconst 1, 1) := by decide +kernel
theorem dM_count_14 : decode bM_count 14 = .ok (.iand, 1) := by decide +kernel
theorem dM_count_15 : decode bM_count 15 = .ok (.iadd, 1) := by decide +kernel
theorem dM_count_16 : decode bM_count 16 = .ok (.istore_n 1, 1) := by decide +kernel
theorem dM_count_17 : decode bM_count 17 = .ok (.iinc 2 1, 3) := by decide +kernel
theorem dM_count_20 : decode bM_count 20 = .ok (.goto (-16), 3) := by decide +kernel
theorem dM_count_23 : decode bM_count 23 = .ok (.iload_n 1, 1) := by decide +kernel
theorem dM_count_24 : decode bM_count 24 = .ok (.ireturn, 1) := by decide +kernel
theorem dM_doOther_0 : decode bM_doOther 0 = .ok (.iconst 1, 1) := by decide +kernel
theorem dM_doOther_1 : decode bM_doOther 1 = .ok (.aload_n 0, 1) := by decide +kernel
theorem dM_doOther_2 : decode bM_doOther 2 = .ok (.getfield 216, 3) := by decide +kernel
theorem dM_doOther_5 : decode bM_doOther 5 = .ok (.ishl, 1) := by decide +kernel
theorem dM_doOther_6 : decode bM_doOther 6 = .ok (.iconst 1, 1) := by decide +kernel
theorem dM_doOther_7 : decode bM_doOther 7 = .ok (.isub, 1) := by decide +kernel
theorem dM_doOther_8 : decode bM_doOther 8 = .ok (.istore_n 2, 1) := by decide +kernel
theorem dM_doOther_9 : decode bM_doOther 9 = .ok (.iload_n 1, 1) := by decide +kernel
theorem dM_doOther_10 : decode bM_doOther 10 = .ok (.bipush 23, 2) := by decide +kernel
theorem dM_doOther_12 : decode bM_doOther 12 = .ok (.if_icmp .eq 9, 3) := by decide +kernel
theorem dM_doOther_15 : decode bM_doOther 15 = .ok (.iload_n 1, 1) := by decide +kernel
theorem dM_doOther_16 : decode bM_doOther 16 = .ok (.bipush 24, 2) := by decide +kernel
theorem dM_doOther_18 : decode bM_doOther 18 = .ok (.if_icmp .ne 21, 3) := by decide +kernel
theorem dM_doOther_21 : decode bM_doOther 21 = .ok (.aload_n 0, 1) := by decide +kernel
theorem dM_doOther_22 : decode bM_doOther 22 = .ok (.iload_n 1, 1) := by decide +kernel
theorem dM_doOther_23 : decode bM_doOther 23 = .ok (.bipush 23, 2) := by decide +kernel
theorem dM_doOther_25 : decode bM_doOther 25 = .ok (.if_icmp .ne 7, 3) := by decide +kernel
theorem dM_doOther_28 : decode bM_doOther 28 = .ok (.iconst 0, 1) := by decide +kernel
theorem dM_doOther_29 : decode bM_doOther 29 = .ok (.goto 4, 3) := by decide +kernel
theorem dM_doOther_32 : decode bM_doOther 32 = .ok (.iload_n 2, 1) := by decide +kernel
theorem dM_doOther_33 : decode bM_doOther 33 = .ok (.invokevirtual 219, 3) := by decide +kernel
theorem dM_doOther_36 : decode bM_doOther 36 = .ok (.goto 189, 3) := by decide +kernel
theorem dM_doOther_39 : decode bM_doOther 39 = .ok (.iload_n 1, 1) := by decide +kernel
theorem dM_doOther_40 : decode bM_doOther 40 = .ok (.bipush 9, 2) := by decide +kernel
theorem dM_doOther_42 : decode bM_doOther 42 = .ok (.if_icmp .ne 32, 3) := by decide +kernel
theorem dM_doOther_45 : decode bM_doOther 45 = .ok (.aload_n 0, 1) := by decide +kernel
theorem dM_doOther_46 : decode bM_doOther 46 = .ok (.getfield 57, 3) := by decide +kernel
theorem dM_doOther_49 : decode bM_doOther 49 = .ok (.aload_n 0, 1) := by decide +kernel
theorem dM_doOther_50 : decode bM_doOther 50 = .ok (.getfield 206, 3) := by decide +kernel
theorem dM_doOther_53 : decode bM_doOther 53 = .ok (.iconst 1, 1) := by decide +kernel
theorem dM_doOther_54 : decode bM_doOther 54 = .ok (.isub, 1) := by decide +kernel
theorem dM_doOther_55 : decode bM_doOther 55 = .ok (.iload_n 2, 1) := by decide +kernel
theorem dM_doOther_56 : decode bM_doOther 56 = .ok (.aload_n 0, 1) := by decide +kernel
theorem dM_doOther_57 : decode bM_doOther 57 = .ok (.getfield 57, 3) := by decide +kernel
theorem dM_doOther_60 : decode bM_doOther 60 = .ok (.aload_n 0, 1) := by decide +kernel
theorem dM_doOther_61 : decode bM_doOther 61 = .ok (.getfield 206, 3) := by decide +kernel
theorem dM_doOther_64 : decode bM_doOther 64 = .ok (.iconst 1, 1) := by decide +kernel
theorem dM_doOther_65 : decode bM_doOther 65 = .ok (.isub, 1) := by decide +kernel
theorem dM_doOther_66 : decode bM_doOther 66 = .ok (.iaload, 1) := by decide +kernel
theorem dM_doOther_67 : decode bM_doOther 67 = .ok (.iconst (-1), 1) := by decide +kernel
theorem dM_doOther_68 : decode bM_doOther 68 = .ok (.ixor, 1) := by decide +kernel
theorem dM_doOther_69 : decode bM_doOther 69 = .ok (.iand, 1) := by decide +kernel
theorem dM_doOther_70 : decode bM_doOther 70 = .ok (.iastore, 1) := by decide +kernel
theorem dM_doOther_71 : decode bM_doOther 71 = .ok (.goto 154, 3) := by decide +kernel
theorem dM_doOther_74 : decode bM_doOther 74 = .ok (.iload_n 1, 1) := by decide +kernel
theorem dM_doOther_75 : decode bM_doOther 75 = .ok (.iconst 3, 1) := by decide +kernel
theorem dM_doOther_76 : decode bM_doOther 76 = .ok (.if_icmp .ne 30, 3) := by decide +kernel
theorem dM_doOther_79 : decode bM_doOther 79 = .ok (.aload_n 0, 1) := by decide +kernel
theorem dM_doOther_80 : decode bM_doOther 80 = .ok (.getfield 57, 3) := by decide +kernel
theorem dM_doOther_83 : decode bM_doOther 83 = .ok (.aload_n 0, 1) := by decide +kernel
theorem dM_doOther_84 : decode bM_doOther 84 = .ok (.getfield 206, 3) := by decide +kernel
theorem dM_doOther_87 : decode bM_doOther 87 = .ok (.iconst 1, 1) := by decide +kernel
theorem dM_doOther_88 : decode bM_doOther 88 = .ok (.isub, 1) := by decide +kernel
theorem dM_doOther_89 : decode bM_doOther 89 = .ok (.iconst 1, 1) := by decide +kernel
theorem dM_doOther_90 : decode bM_doOther 90 = .ok (.aload_n 0, 1) := by decide +kernel
theorem dM_doOther_91 : decode bM_doOther 91 = .ok (.getfield 57, 3) := by decide +kernel
theorem dM_doOther_94 : decode bM_doOther 94 = .ok (.aload_n 0, 1) := by decide +kernel
theorem dM_doOther_95 : decode bM_doOther 95 = .ok (.getfield 206, 3) := by decide +kernel
theorem dM_doOther_98 : decode bM_doOther 98 = .ok (.iconst 1, 1) := by decide +kernel
theorem dM_doOther_99 : decode bM_doOther 99 = .ok (.isub, 1) := by decide +kernel
theorem dM_doOther_100 : decode bM_doOther 100 = .ok (.iaload, 1) := by decide +kernel
theorem dM_doOther_101 : decode bM_doOther 101 = .ok (.isub, 1) := by decide +kernel
theorem dM_doOther_102 : decode bM_doOther 102 = .ok (.iastore, 1) := by decide +kernel
theorem dM_doOther_103 : decode bM_doOther 103 = .ok (.goto 122, 3) := by decide +kernel
theorem dM_doOther_106 : decode bM_doOther 106 = .ok (.aload_n 0, 1) := by decide +kernel
theorem dM_doOther_107 : decode bM_doOther 107 = .ok (.invokevirtual 209, 3) := by decide +kernel
theorem dM_doOther_110 : decode bM_doOther 110 = .ok (.istore_n 3, 1) := by decide +kernel
theorem dM_doOther_111 : decode bM_doOther 111 = .ok (.aload_n 0, 1) := by decide +kernel
theorem dM_doOther_112 : decode bM_doOther 112 = .ok (.getfield 57, 3) := by decide +kernel
theorem dM_doOther_115 : decode bM_doOther 115 = .ok (.aload_n 0, 1) := by decide +kernel
theorem dM_doOther_116 : decode bM_doOther 116 = .ok (.getfield 206, 3) := by decide +kernel
theorem dM_doOther_119 : decode bM_doOther 119 = .ok (.iconst 1, 1) := by decide +kernel
theorem dM_doOther_120 : decode bM_doOther 120 = .ok (.isub, 1) := by decide +kernel
theorem dM_doOther_121 : decode bM_doOther 121 = .ok (.iaload, 1) := by decide +kernel
theorem dM_doOther_122 : decode bM_doOther 122 = .ok (.istore 4, 2) := by decide +kernel
theorem dM_doOther_124 : decode bM_doOther 124 = .ok (.aload_n 0, 1) := by decide +kernel
theorem dM_doOther_125 : decode bM_doOther 125 = .ok (.getfield 57, 3) := by decide +kernel
theorem dM_doOther_128 : decode bM_doOther 128 = .ok (.aload_n 0, 1) := by decide +kernel
theorem dM_doOther_129 : decode bM_doOther 129 = .ok (.getfield 206, 3) := by decide +kernel
theorem dM_doOther_132 : decode bM_doOther 132 = .ok (.iconst 1, 1) := by decide +kernel
theorem dM_doOther_133 : decode bM_doOther 133 = .ok (.isub, 1) := by decide +kernel
theorem dM_doOther_134 : decode bM_doOther 134 = .ok (.iload_n 1, 1) := by decide +kernel
theorem dM_doOther_135 : decode bM_doOther 135 = .ok (.bipush 7, 2) := by decide +kernel
theorem dM_doOther_137 : decode bM_doOther 137 = .ok (.if_icmp .eq 8, 3) := by decide +kernel
theorem dM_doOther_140 : decode bM_doOther 140 = .ok (.iload_n 1, 1) := by decide +kernel
theorem dM_doOther_141 : decode bM_doOther 141 = .ok (.iconst 1, 1) := by decide +kernel
theorem dM_doOther_142 : decode bM_doOther 142 = .ok (.if_icmp .ne 10, 3) := by decide +kernel
theorem dM_doOther_145 : decode bM_doOther 145 = .ok (.iload 4, 2) := by decide +kernel
theorem dM_doOther_147 : decode bM_doOther 147 = .ok (.iload_n 3, 1) := by decide +kernel
theorem dM_doOther_148 : decode bM_doOther 148 = .ok (.ior, 1) := by decide +kernel
theorem dM_doOther_149 : decode bM_doOther 149 = .ok (.goto 75, 3) := by decide +kernel
theorem dM_doOther_152 : decode bM_doOther 152 = .ok (.iload_n 1, 1) := by decide +kernel
theorem dM_doOther_153 : decode bM_doOther 153 = .ok (.bipush 8, 2) := by decide +kernel
theorem dM_doOther_155 : decode bM_doOther 155 = .ok (.if_icmp .eq 8, 3) := by decide +kernel
theorem dM_doOther_158 : decode bM_doOther 158 = .ok (.iload_n 1, 1) := by decide +kernel
theorem dM_doOther_159 : decode bM_doOther 159 = .ok (.iconst 2, 1) := by decide +kernel
theorem dM_doOther_160 : decode bM_doOther 160 = .ok (.if_icmp .ne 10, 3) := by decide +kernel
theorem dM_doOther_163 : decode bM_doOther 163 = .ok (.iload 4, 2) := by decide +kernel
theorem dM_doOther_165 : decode bM_doOther 165 = .ok (.iload_n 3, 1) := by decide +kernel
theorem dM_doOther_166 : decode bM_doOther 166 = .ok (.iand, 1) := by decide +kernel
theorem dM_doOther_167 : decode bM_doOther 167 = .ok (.goto 57, 3) := by decide +kernel
theorem dM_doOther_170 : decode bM_doOther 170 = .ok (.iload_n 1, 1) := by decide +kernel
theorem dM_doOther_171 : decode bM_doOther 171 = .ok (.bipush 20, 2) := by decide +kernel
theorem dM_doOther_173 : decode bM_doOther 173 = .ok (.if_icmp .ne 17, 3) := by decide +kernel
theorem dM_doOther_176 : decode bM_doOther 176 = .ok (.iload 4, 2) := by decide +kernel
theorem dM_doOther_178 : decode bM_doOther 178 = .ok (.iload_n 3, 1) := by decide +kernel
theorem dM_doOther_179 : decode bM_doOther 179 = .ok (.if_icmp .ne 7, 3) := by decide +kernel
theorem dM_doOther_182 : decode bM_doOther 182 = .ok (.iconst 1, 1) := by decide +kernel
theorem dM_doOther_183 : decode bM_doOther 183 = .ok (.goto 41, 3) := by decide +kernel
theorem dM_doOther_186 : decode bM_doOther 186 = .ok (.iconst 0, 1) := by decide +kernel
theorem dM_doOther_187 : decode bM_doOther 187 = .ok (.goto 37, 3) := by decide +kernel
theorem dM_doOther_190 : decode bM_doOther 190 = .ok (.iload_n 1, 1) := by decide +kernel
theorem dM_doOther_191 : decode bM_doOther 191 = .ok (.bipush 19, 2) := by decide +kernel
theorem dM_doOther_193 : decode bM_doOther 193 = .ok (.if_icmp .ne 17, 3) := by decide +kernel
theorem dM_doOther_196 : decode bM_doOther 196 = .ok (.iload 4, 2) := by decide +kernel
theorem dM_doOther_198 : decode bM_doOther 198 = .ok (.iload_n 3, 1) := by decide +kernel
theorem dM_doOther_199 : decode bM_doOther 199 = .ok (.if_icmp .ge 7, 3) := by decide +kernel
theorem dM_doOther_202 : decode bM_doOther 202 = .ok (.iconst 1, 1) := by decide +kernel
theorem dM_doOther_203 : decode bM_doOther 203 = .ok (.goto 21, 3) := by decide +kernel
theorem dM_doOther_206 : decode bM_doOther 206 = .ok (.iconst 0, 1) := by decide +kernel
theorem dM_doOther_207 : decode bM_doOther 207 = .ok (.goto 17, 3) := by decide +kernel
theorem dM_doOther_210 : decode bM_doOther 210 = .ok (.iload 4, 2) := by decide +kernel
theorem dM_doOther_212 : decode bM_doOther 212 = .ok (.iload_n 3, 1) := by decide +kernel
theorem dM_doOther_213 : decode bM_doOther 213 = .ok (.iconst (-1), 1) := by decide +kernel
theorem dM_doOther_214 : decode bM_doOther 214 = .ok (.ixor, 1) := by decide +kernel
theorem dM_doOther_215 : decode bM_doOther 215 = .ok (.iand, 1) := by decide +kernel
theorem dM_doOther_216 : decode bM_doOther 216 = .ok (.ifCond .ne 7, 3) := by decide +kernel
theorem dM_doOther_219 : decode bM_doOther 219 = .ok (.iconst 1, 1) := by decide +kernel
theorem dM_doOther_220 : decode bM_doOther 220 = .ok (.goto 4, 3) := by decide +kernel
theorem dM_doOther_223 : decode bM_doOther 223 = .ok (.iconst 0, 1) := by decide +kernel
theorem dM_doOther_224 : decode bM_doOther 224 = .ok (.iastore, 1) := by decide +kernel
theorem dM_doOther_225 : decode bM_doOther 225 = .ok (.return_, 1) := by decide +kernel
theorem dM_fails_0 : decode bM_fails 0 = .ok (.aload_n 0, 1) := by decide +kernel
theorem dM_fails_1 : decode bM_fails 1 = .ok (.aload_n 0, 1) := by decide +kernel
theorem dM_fails_2 : decode bM_fails 2 = .ok (.getfield 194, 3) := by decide +kernel
theorem dM_fails_5 : decode bM_fails 5 = .ok (.ifCond .eq 7, 3) := by decide +kernel
theorem dM_fails_8 : decode bM_fails 8 = .ok (.iconst 0, 1) := by decide +kernel
theorem dM_fails_9 : decode bM_fails 9 = .ok (.goto 4, 3) := by decide +kernel
theorem dM_fails_12 : decode bM_fails 12 = .ok (.iconst 1, 1) := by decide +kernel
theorem dM_fails_13 : decode bM_fails 13 = .ok (.putfield 60, 3) := by decide +kernel
theorem dM_fails_16 : decode bM_fails 16 = .ok (.iconst (-1), 1) := by decide +kernel
theorem dM_fails_17 : decode bM_fails 17 = .ok (.istore_n 1, 1) := by decide +kernel
theorem dM_fails_18 : decode bM_fails 18 = .ok (.iconst 4, 1) := by decide +kernel
theorem dM_fails_19 : decode bM_fails 19 = .ok (.istore_n 2, 1) := by decide +kernel
theorem dM_fails_20 : decode bM_fails 20 = .ok (.iload_n 2, 1) := by decide +kernel
theorem dM_fails_21 : decode bM_fails 21 = .ok (.ifCond .lt 31, 3) := by decide +kernel
theorem dM_fails_24 : decode bM_fails 24 = .ok (.aload_n 0, 1) := by decide +kernel
theorem dM_fails_25 : decode bM_fails 25 = .ok (.getfield 60, 3) := by decide +kernel
theorem dM_fails_28 : decode bM_fails 28 = .ok (.ifCond .ne 24, 3) := by decide +kernel
theorem dM_fails_31 : decode bM_fails 31 = .ok (.aload_n 0, 1) := by decide +kernel
theorem dM_fails_32 : decode bM_fails 32 = .ok (.iload_n 2, 1) := by decide +kernel
theorem dM_fails_33 : decode bM_fails 33 = .ok (.iconst 0, 1) := by decide +kernel
theorem dM_fails_34 : decode bM_fails 34 = .ok (.invokevirtual 241, 3) := by decide +kernel
theorem dM_fails_37 : decode bM_fails 37 = .ok (.ifCond .eq 7, 3) := by decide +kernel
theorem dM_fails_40 : decode bM_fails 40 = .ok (.iload_n 1, 1) := by decide +kernel
theorem dM_fails_41 : decode bM_fails 41 = .ok (.goto 4, 3) := by decide +kernel
theorem dM_fails_44 : decode bM_fails 44 = .ok (.iload_n 2, 1) := by decide +kernel
theorem dM_fails_45 : decode bM_fails 45 = .ok (.istore_n 1, 1) := by decide +kernel
theorem dM_fails_46 : decode bM_fails 46 = .ok (.iinc 2 (-1), 3) := by decide +kernel
theorem dM_fails_49 : decode bM_fails 49 = .ok (.goto (-29), 3) := by decide +kernel
theorem dM_fails_52 : decode bM_fails 52 = .ok (.aload_n 0, 1) := by decide +kernel
theorem dM_fails_53 : decode bM_fails 53 = .ok (.getfield 60, 3) := by decide +kernel
theorem dM_fails_56 : decode bM_fails 56 = .ok (.ifCond .ne 7, 3) := by decide +kernel
theorem dM_fails_59 : decode bM_fails 59 = .ok (.iload_n 1, 1) := by decide +kernel
theorem dM_fails_60 : decode bM_fails 60 = .ok (.goto 4, 3) := by decide +kernel
theorem dM_fails_63 : decode bM_fails 63 = .ok (.iconst 0, 1) := by decide +kernel
theorem dM_fails_64 : decode bM_fails 64 = .ok (.ireturn, 1) := by decide +kernel
theorem dM_ways_0 : decode bM_ways 0 = .ok (.aload_n 0, 1) := by decide +kernel
theorem dM_ways_1 : decode bM_ways 1 = .ok (.aload_n 0, 1) := by decide +kernel
theorem dM_ways_2 : decode bM_ways 2 = .ok (.getfield 194, 3) := by decide +kernel
theorem dM_ways_5 : decode bM_ways 5 = .ok (.ifCond .ne 7, 3) := by decide +kernel
theorem dM_ways_8 : decode bM_ways 8 = .ok (.iconst 1, 1) := by decide +kernel
theorem dM_ways_9 : decode bM_ways 9 = .ok (.goto 15, 3) := by decide +kernel
theorem dM_ways_12 : decode bM_ways 12 = .ok (.iload_n 1, 1) := by decide +kernel
theorem dM_ways_13 : decode bM_ways 13 = .ok (.invokestatic 238, 3) := by decide +kernel
theorem dM_ways_16 : decode bM_ways 16 = .ok (.ifCond .ne 7, 3) := by decide +kernel
theorem dM_ways_19 : decode bM_ways 19 = .ok (.iconst 2, 1) := by decide +kernel
theorem dM_ways_20 : decode bM_ways 20 = .ok (.goto 4, 3) := by decide +kernel
theorem dM_ways_23 : decode bM_ways 23 = .ok (.iconst 0, 1) := by decide +kernel
theorem dM_ways_24 : decode bM_ways 24 = .ok (.putfield 60, 3) := by decide +kernel
theorem dM_ways_27 : decode bM_ways 27 = .ok (.aload_n 0, 1) := by decide +kernel
theorem dM_ways_28 : decode bM_ways 28 = .ok (.getfield 60, 3) := by decide +kernel
theorem dM_ways_31 : decode bM_ways 31 = .ok (.ifCond .le 5, 3) := by decide +kernel
theorem dM_ways_34 : decode bM_ways 34 = .ok (.iconst 0, 1) := by decide +kernel
theorem dM_ways_35 : decode bM_ways 35 = .ok (.ireturn, 1) := by decide +kernel
theorem dM_ways_36 : decode bM_ways 36 = .ok (.aload_n 0, 1) := by decide +kernel
theorem dM_ways_37 : decode bM_ways 37 = .ok (.invokevirtual 245, 3) := by decide +kernel
theorem dM_ways_40 : decode bM_ways 40 = .ok (.istore_n 2, 1) := by decide +kernel
theorem dM_ways_41 : decode bM_ways 41 = .ok (.aload_n 0, 1) := by decide +kernel
theorem dM_ways_42 : decode bM_ways 42 = .ok (.iload_n 1, 1) := by decide +kernel
theorem dM_ways_43 : decode bM_ways 43 = .ok (.iload_n 2, 1) := by decide +kernel
theorem dM_ways_44 : decode bM_ways 44 = .ok (.invokevirtual 241, 3) := by decide +kernel
theorem dM_ways_47 : decode bM_ways 47 = .ok (.istore_n 3, 1) := by decide +kernel
theorem dM_ways_48 : decode bM_ways 48 = .ok (.iload_n 2, 1) := by decide +kernel
theorem dM_ways_49 : decode bM_ways 49 = .ok (.ifCond .eq 10, 3) := by decide +kernel
theorem dM_ways_52 : decode bM_ways 52 = .ok (.aload_n 0, 1) := by decide +kernel
theorem dM_ways_53 : decode bM_ways 53 = .ok (.getfield 222, 3) := by decide +kernel
theorem dM_ways_56 : decode bM_ways 56 = .ok (.goto 12, 3) := by decide +kernel
theorem dM_ways_59 : decode bM_ways 59 = .ok (.iload_n 3, 1) := by decide +kernel
theorem dM_ways_60 : decode bM_ways 60 = .ok (.ifCond .eq 7, 3) := by decide +kernel
theorem dM_ways_63 : decode bM_ways 63 = .ok (.iconst 1, 1) := by decide +kernel
theorem dM_ways_64 : decode bM_ways 64 = .ok (.goto 4, 3) := by decide +kernel
theorem dM_ways_67 : decode bM_ways 67 = .ok (.iconst 0, 1) := by decide +kernel
theorem dM_ways_68 : decode bM_ways 68 = .ok (.ireturn, 1) := by decide +kernel
theorem dM_isLoop_0 : decode bM_isLoop 0 = .ok (.aload_n 0, 1) := by decide +kernel
theorem dM_isLoop_1 : decode bM_isLoop 1 = .ok (.getfield 203, 3) := by decide +kernel
theorem dM_isLoop_4 : decode bM_isLoop 4 = .ok (.ifCond .eq 36, 3) := by decide +kernel
theorem dM_isLoop_7 : decode bM_isLoop 7 = .ok (.aload_n 0, 1) := by decide +kernel
theorem dM_isLoop_8 : decode bM_isLoop 8 = .ok (.getfield 13, 3) := by decide +kernel
theorem dM_isLoop_11 : decode bM_isLoop 11 = .ok (.aload_n 0, 1) := by decide +kernel
theorem dM_isLoop_12 : decode bM_isLoop 12 = .ok (.getfield 197, 3) := by decide +kernel
theorem dM_isLoop_15 : decode bM_isLoop 15 = .ok (.iconst 1, 1) := by decide +kernel
theorem dM_isLoop_16 : decode bM_isLoop 16 = .ok (.isub, 1) := by decide +kernel
theorem dM_isLoop_17 : decode bM_isLoop 17 = .ok (.iaload, 1) := by decide +kernel
theorem dM_isLoop_18 : decode bM_isLoop 18 = .ok (.iconst 5, 1) := by decide +kernel
theorem dM_isLoop_19 : decode bM_isLoop 19 = .ok (.if_icmp .ne 21, 3) := by decide +kernel
theorem dM_isLoop_22 : decode bM_isLoop 22 = .ok (.aload_n 0, 1) := by decide +kernel
theorem dM_isLoop_23 : decode bM_isLoop 23 = .ok (.getfield 17, 3) := by decide +kernel
theorem dM_isLoop_26 : decode bM_isLoop 26 = .ok (.aload_n 0, 1) := by decide +kernel
theorem dM_isLoop_27 : decode bM_isLoop 27 = .ok (.getfield 197, 3) := by decide +kernel
theorem dM_isLoop_30 : decode bM_isLoop 30 = .ok (.iconst 1, 1) := by decide +kernel
theorem dM_isLoop_31 : decode bM_isLoop 31 = .ok (.isub, 1) := by decide +kernel
theorem dM_isLoop_32 : decode bM_isLoop 32 = .ok (.iaload, 1) := by decide +kernel
theorem dM_isLoop_33 : decode bM_isLoop 33 = .ok (.ifCond .ne 7, 3) := by decide +kernel
theorem dM_isLoop_36 : decode bM_isLoop 36 = .ok (.iconst 1, 1) := by decide +kernel
theorem dM_isLoop_37 : decode bM_isLoop 37 = .ok (.goto 4, 3) := by decide +kernel
theorem dM_isLoop_40 : decode bM_isLoop 40 = .ok (.iconst 0, 1) := by decide +kernel
theorem dM_isLoop_41 : decode bM_isLoop 41 = .ok (.ireturn, 1) := by decide +kernel
section
variable {p : Program} {l : Launch} {e : Env} {R : Room} {s : State} {m : MethodId} {args : Array Value} {below : List Frame} {meth : Method} {c : Code} {G : Gx} {M0 M' : Mem} {r : Option Value ⊕ Nat} {d : Nat} {C : Cx}

def fM_holds_48 (n d : Nat) (C : Cx) (xs0 : Int32) (M : Mem) : Rz := if fits .boolean (.int xs0) = true then (some (.inl (some (.int xs0)), M)) else none
set_option maxRecDepth 100000 in
set_option maxHeartbeats 4000000 in
theorem tM_holds_48 {n : Nat} (F : FX p s m meth c G R M0 d "HeadCountModel" bM_holds 2 (some .boolean)) (hC : CBs l G d C) : ∀ (xs0 : Int32) (M : Mem) (H : Heap) (locs : List Loc) (cells slots : Nat) (ls : Array Slot), fM_holds_48 n d C xs0 M = some (r, M') → RL G M0 M H locs cells slots → lv_has ls 2 [] → W p l e R s m args below meth c H locs cells slots (CQ G below s M0 r M') (F0 m 48 ls [.int xs0]) := by
  obtain ⟨hx, hb, hml, hown, hrt, hlk, hex, hK, hRm⟩ := id F
  intro xs0 M H locs cells slots ls h hR hl
  unfold fM_holds_48 at h
  obtain ⟨c_1, h⟩ := rz_chk h
  cases h
  exact rt_i hx hb hlk hrt (Or.inr (Or.inr rfl)) c_1 hR dM_holds_48
def fM_holds_47 (n d : Nat) (C : Cx) (M : Mem) : Rz := fM_holds_48 n d C 0 M
set_option maxRecDepth 100000 in
set_option maxHeartbeats 4000000 in
theorem tM_holds_47 {n : Nat} (F : FX p s m meth c G R M0 d "HeadCountModel" bM_holds 2 (some .boolean)) (hC : CBs l G d C) : ∀ (M : Mem) (H : Heap) (locs : List Loc) (cells slots : Nat) (ls : Array Slot), fM_holds_47 n d C M = some (r, M') → RL G M0 M H locs cells slots → lv_has ls 2 [] → W p l e R s m args below meth c H locs cells slots (CQ G below s M0 r M') (F0 m 47 ls []) := by
  obtain ⟨hx, hb, hml, hown, hrt, hlk, hex, hK, hRm⟩ := id F
  intro M H locs cells slots ls h hR hl
  unfold fM_holds_47 at h
  refine lv_iconst (v := 0) hx hb dM_holds_47 (by decide) ?_
  exact tM_holds_48 F hC 0 _ _ _ _ _ _ h hR (lv_sub hl [] rfl)
def fM_holds_24 (n d : Nat) (C : Cx) (a0 : Nat) (x1 : Int32) (xs0 : Int32) (as1 : Nat) (M : Mem) : Rz := if mK M as1 = 5 then (rzM (setI M as1 0 xs0) fun M_2 => (if mK M_2 a0 = 5 then (if (mI M_2 a0 0) = 0 then (rzC (C 96 [.ref a0, .int x1, .int 0] M_2) fun v_7 M_8 => (rzI v_7 fun x_11 => (if x_11 = 0 then (fM_holds_47 n d C M_8) else (fM_holds_48 n d C 1 M_8)))) else (fM_holds_47 n d C M_2)) else none)) else none
set_option maxRecDepth 100000 in
set_option maxHeartbeats 4000000 in
theorem tM_holds_24 {n : Nat} (F : FX p s m meth c G R M0 d "HeadCountModel" bM_holds 2 (some .boolean)) (hC : CBs l G d C) : ∀ (a0 : Nat) (x1 : Int32) (xs0 : Int32) (as1 : Nat) (M : Mem) (H : Heap) (locs : List Loc) (cells slots : Nat) (ls : Array Slot), fM_holds_24 n d C a0 x1 xs0 as1 M = some (r, M') → RL G M0 M H locs cells slots → lv_has ls 2 [(0, .ref a0), (1, .int x1)] → W p l e R s m args below meth c H locs cells slots (CQ G below s M0 r M') (F0 m 24 ls [.int xs0, .ref as1]) := by
  obtain ⟨hx, hb, hml, hown, hrt, hlk, hex, hK, hRm⟩ := id F
  intro a0 x1 xs0 as1 M H locs cells slots ls h hR hl
  unfold fM_holds_24 at h
  obtain ⟨c_1, h⟩ := rz_chk h
  obtain ⟨M_2, q_3, h⟩ := rz_m h
  refine rg_putI hx hb hown hK hR hk_M 0 (by decide) kf_M_60 rfl rfl (ty := .int) (by decide +kernel) (Or.inl rfl) rfl c_1 dM_holds_24 (fun H locs hR => ?_)
  rw [← q_3] at hR
  have c_4 : mK M_2 as1 = 5 := by rw [q_3]; exact c_1
  refine lv_aload_n hx hb dM_holds_27 rfl (lv_at hl 0 rfl) ?_
  obtain ⟨c_5, h⟩ := rz_chk h
  refine rg_getI hx hb hown hK hR hk_M 0 (by decide) kf_M_60 rfl c_5 dM_holds_28 ?_
  refine lv_if_ne (tgt := 47) hx hb dM_holds_31 (by decide) (fun c_6 => ?_) (fun c_6 => ?_)
  · replace h := rz_f c_6 h
    exact tM_holds_47 F hC _ _ _ _ _ _ h hR (lv_sub hl [] rfl)
  · replace h := rz_t c_6 h
    refine lv_aload_n hx hb dM_holds_34 rfl (lv_at hl 0 rfl) ?_
    refine lv_iload_n hx hb dM_holds_35 rfl (lv_at hl 1 rfl) ?_
    refine lv_iconst (v := 0) hx hb dM_holds_36 (by decide) ?_
    obtain ⟨q_10, M_8, h_9, h⟩ := rz_c h
    refine rc_V (rest := []) (As := [.int x1, .int 0]) hx hb (hl.1.trans hml.symm) hown hK hR hRm mfM_run kl_M_241 hk_M rfl rfl c_5 (by simp [cat_rf, Value.category]) (hC 96 _ _ _ _ h_9) dM_holds_37 (fun v1 H locs cells slots ev hR => ?_) (fun x1 q1 ce1 H locs cells slots ex hR g1 g2 g3 => ?_)
    · rcases h with ⟨v_7, ev2, h⟩ | ⟨e2, ee2, -⟩
      · cases ev.symm.trans ev2
        replace h := rz_i h
        obtain ⟨x_11, rfl, h⟩ := h
        dsimp only [Option.toList, List.cons_append, List.nil_append]
        refine lv_if_eq (tgt := 47) hx hb dM_holds_40 (by decide) (fun c_12 => ?_) (fun c_12 => ?_)
        · replace h := rz_t c_12 h
          exact tM_holds_47 F hC _ _ _ _ _ _ h hR (lv_sub hl [] rfl)
        · replace h := rz_f c_12 h
          refine lv_iconst (v := 1) hx hb dM_holds_43 (by decide) ?_
          refine lv_goto (tgt := 48) hx hb dM_holds_44 (by decide) ?_
          exact tM_holds_48 F hC 1 _ _ _ _ _ _ h hR (lv_sub hl [] rfl)
      · cases ev.symm.trans ee2
    · rcases h with ⟨v2, ev2, -⟩ | ⟨e2, ee2, h⟩
      · cases ex.symm.trans ev2
      · cases ex.symm.trans ee2
        cases h
        exact rt_x hlk hex hR g1 g2 g3
def fM_holds_0 (n d : Nat) (C : Cx) (a0 : Nat) (x1 : Int32) (M : Mem) : Rz := if mK M a0 = 5 then (if (mI M a0 3) = 0 then (fM_holds_24 n d C a0 x1 1 a0 M) else (rzC (C 95 [.int x1] M) fun v_3 M_4 => (rzI v_3 fun x_7 => (if x_7 = 0 then (fM_holds_24 n d C a0 x1 2 a0 M_4) else (fM_holds_24 n d C a0 x1 0 a0 M_4))))) else none
set_option maxRecDepth 100000 in
set_option maxHeartbeats 4000000 in
theorem tM_holds_0 {n : Nat} (F : FX p s m meth c G R M0 d "HeadCountModel" bM_holds 2 (some .boolean)) (hC : CBs l G d C) : ∀ (a0 : Nat) (x1 : Int32) (M : Mem) (H : Heap) (locs : List Loc) (cells slots : Nat) (ls : Array Slot), fM_holds_0 n d C a0 x1 M = some (r, M') → RL G M0 M H locs cells slots → lv_has ls 2 [(0, .ref a0), (1, .int x1)] → W p l e R s m args below meth c H locs cells slots (CQ G below s M0 r M') (F0 m 0 ls []) := by
  obtain ⟨hx, hb, hml, hown, hrt, hlk, hex, hK, hRm⟩ := id F
  intro a0 x1 M H locs cells slots ls h hR hl
  unfold fM_holds_0 at h
  refine lv_aload_n hx hb dM_holds_0 rfl (lv_at hl 0 rfl) ?_
  refine lv_aload_n hx hb dM_holds_1 rfl (lv_at hl 0 rfl) ?_
  obtain ⟨c_1, h⟩ := rz_chk h
  refine rg_getI hx hb hown hK hR hk_M 3 (by decide) kf_M_194 rfl c_1 dM_holds_2 ?_
  refine lv_if_ne (tgt := 12) hx hb dM_holds_5 (by decide) (fun c_2 => ?_) (fun c_2 => ?_)
  · replace h := rz_f c_2 h
    refine lv_iload_n hx hb dM_holds_12 rfl (lv_at hl 1 rfl) ?_
    obtain ⟨q_6, M_4, h_5, h⟩ := rz_c h
    refine rc_S (rest := [.ref a0]) (As := [.int x1]) hx hb (hl.1.trans hml.symm) hown hK hR hRm mfM_isSize kl_M_238 rfl (by simp [cat_rf, Value.category]) (hC 95 _ _ _ _ h_5) dM_holds_13 (fun v1 H locs cells slots ev hR => ?_) (fun x1 q1 ce1 H locs cells slots ex hR g1 g2 g3 => ?_)
    · rcases h with ⟨v_3, ev2, h⟩ | ⟨e2, ee2, -⟩
      · cases ev.symm.trans ev2
        replace h := rz_i h
        obtain ⟨x_7, rfl, h⟩ := h
        dsimp only [Option.toList, List.cons_append, List.nil_append]
        refine lv_if_ne (tgt := 23) hx hb dM_holds_16 (by decide) (fun c_8 => ?_) (fun c_8 => ?_)
        · replace h := rz_f c_8 h
          refine lv_iconst (v := 0) hx hb dM_holds_23 (by decide) ?_
          exact tM_holds_24 F hC a0 x1 0 a0 _ _ _ _ _ _ h hR (lv_sub hl [0, 1] rfl)
        · replace h := rz_t c_8 h
          refine lv_iconst (v := 2) hx hb dM_holds_19 (by decide) ?_
          refine lv_goto (tgt := 24) hx hb dM_holds_20 (by decide) ?_
          exact tM_holds_24 F hC a0 x1 2 a0 _ _ _ _ _ _ h hR (lv_sub hl [0, 1] rfl)
      · cases ev.symm.trans ee2
    · rcases h with ⟨v2, ev2, -⟩ | ⟨e2, ee2, h⟩
      · cases ex.symm.trans ev2
      · cases ex.symm.trans ee2
        cases h
        exact rt_x hlk hex hR g1 g2 g3
  · replace h := rz_t c_2 h
    refine lv_iconst (v := 1) hx hb dM_holds_8 (by decide) ?_
    refine lv_goto (tgt := 24) hx hb dM_holds_9 (by decide) ?_
    exact tM_holds_24 F hC a0 x1 1 a0 _ _ _ _ _ _ h hR (lv_sub hl [0, 1] rfl)
set_option maxRecDepth 100000 in
set_option maxHeartbeats 4000000 in
theorem sM_holds {l : Launch} {G : Gx} {n d : Nat} {C : Cx} (hC : CBs l G d C) (a0 : Nat) (x1 : Int32) {M M' : Mem} {r : Option Value ⊕ Nat} (h : fM_holds_0 n d C a0 x1 M = some (r, M')) : CB l G (d + 1) yM_holds [.ref a0, .int x1] M r M' := by
  intro p e R s m below meth c hx hn hm hc hlk hK hR hcap hS hU hfr hlo hrc hrs
  obtain ⟨hb, hml, hrt, hex, hown⟩ := fx_of hn hm hc (hK.w mfM_holds.2.2.1 rfl #[])
  have F : FX p s m meth c G R M d "HeadCountModel" bM_holds 2 (some .boolean) := ⟨hx, hb, hml, hown, hrt, hlk, hex, hK, hfr, hlo, by rw [← hcap]; exact hrc, hrs⟩
  rw [hml]
  have hl := lv_entry ([.ref a0, .int x1]) (n := 2) (by simp [lg_sl, cat_rf, Value.category])
  rw [lg_entry_eq]
  generalize (lg_sl ([.ref a0, .int x1]) ++ List.replicate (2 - (lg_sl ([.ref a0, .int x1])).length) Slot.unset).toArray = ls at hl ⊢
  have hl : lv_has ls 2 [(0, .ref a0), (1, .int x1)] := by simpa [lv_args, cat_rf, Value.category] using hl
  exact tM_holds_0 F hC a0 x1 _ _ _ _ _ _ h (RL.start hR hcap hS hU) (lv_sub hl [0, 1] rfl)
def fM_isSize_14 (n d : Nat) (C : Cx) (xs0 : Int32) (M : Mem) : Rz := if fits .boolean (.int xs0) = true then (some (.inl (some (.int xs0)), M)) else none
set_option maxRecDepth 100000 in
set_option maxHeartbeats 4000000 in
theorem tM_isSize_14 {n : Nat} (F : FX p s m meth c G R M0 d "HeadCountModel" bM_isSize 1 (some .boolean)) (hC : CBs l G d C) : ∀ (xs0 : Int32) (M : Mem) (H : Heap) (locs : List Loc) (cells slots : Nat) (ls : Array Slot), fM_isSize_14 n d C xs0 M = some (r, M') → RL G M0 M H locs cells slots → lv_has ls 1 [] → W p l e R s m args below meth c H locs cells slots (CQ G below s M0 r M') (F0 m 14 ls [.int xs0]) := by
  obtain ⟨hx, hb, hml, hown, hrt, hlk, hex, hK, hRm⟩ := id F
  intro xs0 M H locs cells slots ls h hR hl
  unfold fM_isSize_14 at h
  obtain ⟨c_1, h⟩ := rz_chk h
  cases h
  exact rt_i hx hb hlk hrt (Or.inr (Or.inr rfl)) c_1 hR dM_isSize_14
def fM_isSize_13 (n d : Nat) (C : Cx) (M : Mem) : Rz := fM_isSize_14 n d C 0 M
set_option maxRecDepth 100000 in
set_option maxHeartbeats 4000000 in
theorem tM_isSize_13 {n : Nat} (F : FX p s m meth c G R M0 d "HeadCountModel" bM_isSize 1 (some .boolean)) (hC : CBs l G d C) : ∀ (M : Mem) (H : Heap) (locs : List Loc) (cells slots : Nat) (ls : Array Slot), fM_isSize_13 n d C M = some (r, M') → RL G M0 M H locs cells slots → lv_has ls 1 [] → W p l e R s m args below meth c H locs cells slots (CQ G below s M0 r M') (F0 m 13 ls []) := by
  obtain ⟨hx, hb, hml, hown, hrt, hlk, hex, hK, hRm⟩ := id F
  intro M H locs cells slots ls h hR hl
  unfold fM_isSize_13 at h
  refine lv_iconst (v := 0) hx hb dM_isSize_13 (by decide) ?_
  exact tM_isSize_14 F hC 0 _ _ _ _ _ _ h hR (lv_sub hl [] rfl)
def fM_isSize_0 (n d : Nat) (C : Cx) (x0 : Int32) (M : Mem) : Rz := if x0 < 0 then (fM_isSize_13 n d C M) else (if 4 < x0 then (fM_isSize_13 n d C M) else (fM_isSize_14 n d C 1 M))
set_option maxRecDepth 100000 in
set_option maxHeartbeats 4000000 in
theorem tM_isSize_0 {n : Nat} (F : FX p s m meth c G R M0 d "HeadCountModel" bM_isSize 1 (some .boolean)) (hC : CBs l G d C) : ∀ (x0 : Int32) (M : Mem) (H : Heap) (locs : List Loc) (cells slots : Nat) (ls : Array Slot), fM_isSize_0 n d C x0 M = some (r, M') → RL G M0 M H locs cells slots → lv_has ls 1 [(0, .int x0)] → W p l e R s m args below meth c H locs cells slots (CQ G below s M0 r M') (F0 m 0 ls []) := by
  obtain ⟨hx, hb, hml, hown, hrt, hlk, hex, hK, hRm⟩ := id F
  intro x0 M H locs cells slots ls h hR hl
  unfold fM_isSize_0 at h
  refine lv_iload_n hx hb dM_isSize_0 rfl (lv_at hl 0 rfl) ?_
  refine lv_if_lt (tgt := 13) hx hb dM_isSize_1 (by decide) (fun c_1 => ?_) (fun c_1 => ?_)
  · replace h := rz_t c_1 h
    exact tM_isSize_13 F hC _ _ _ _ _ _ h hR (lv_sub hl [] rfl)
  · replace h := rz_f c_1 h
    refine lv_iload_n hx hb dM_isSize_4 rfl (lv_at hl 0 rfl) ?_
    refine lv_iconst (v := 4) hx hb dM_isSize_5 (by decide) ?_
    refine lv_icmp_gt (tgt := 13) hx hb dM_isSize_6 (by decide) (fun c_2 => ?_) (fun c_2 => ?_)
    · replace h := rz_t c_2 h
      exact tM_isSize_13 F hC _ _ _ _ _ _ h hR (lv_sub hl [] rfl)
    · replace h := rz_f c_2 h
      refine lv_iconst (v := 1) hx hb dM_isSize_9 (by decide) ?_
      refine lv_goto (tgt := 14) hx hb dM_isSize_10 (by decide) ?_
      exact tM_isSize_14 F hC 1 _ _ _ _ _ _ h hR (lv_sub hl [] rfl)
set_option maxRecDepth 100000 in
set_option maxHeartbeats 4000000 in
theorem sM_isSize {l : Launch} {G : Gx} {n d : Nat} {C : Cx} (hC : CBs l G d C) (x0 : Int32) {M M' : Mem} {r : Option Value ⊕ Nat} (h : fM_isSize_0 n d C x0 M = some (r, M')) : CB l G (d + 1) yM_isSize [.int x0] M r M' := by
  intro p e R s m below meth c hx hn hm hc hlk hK hR hcap hS hU hfr hlo hrc hrs
  obtain ⟨hb, hml, hrt, hex, hown⟩ := fx_of hn hm hc (hK.w mfM_isSize.2.2.1 rfl #[])
  have F : FX p s m meth c G R M d "HeadCountModel" bM_isSize 1 (some .boolean) := ⟨hx, hb, hml, hown, hrt, hlk, hex, hK, hfr, hlo, by rw [← hcap]; exact hrc, hrs⟩
  rw [hml]
  have hl := lv_entry ([.int x0]) (n := 1) (by simp [lg_sl, cat_rf, Value.category])
  rw [lg_entry_eq]
  generalize (lg_sl ([.int x0]) ++ List.replicate (1 - (lg_sl ([.int x0])).length) Slot.unset).toArray = ls at hl ⊢
  have hl : lv_has ls 1 [(0, .int x0)] := by simpa [lv_args, cat_rf, Value.category] using hl
  exact tM_isSize_0 F hC x0 _ _ _ _ _ _ h (RL.start hR hcap hS hU) (lv_sub hl [0] rfl)
def fM_run_193 (n d : Nat) (C : Cx) (k17 : Nat → Int32 → Int32 → Mem → Rz) (a0 : Nat) (x2 : Int32) (x6 : Int32) (M : Mem) : Rz := k17 a0 x2 x6 M
set_option maxRecDepth 100000 in
set_option maxHeartbeats 4000000 in
theorem tM_run_193 {n : Nat} {k17 : Nat → Int32 → Int32 → Mem → Rz} (F : FX p s m meth c G R M0 d "HeadCountModel" bM_run 8 (some .boolean)) (hC : CBs l G d C) (hk17 : ∀ (a0 : Nat) (x2 : Int32) (x3 : Int32) (M : Mem) (H : Heap) (locs : List Loc) (cells slots : Nat) (ls : Array Slot), k17 a0 x2 x3 M = some (r, M') → RL G M0 M H locs cells slots → lv_has ls 8 [(0, .ref a0), (2, .int x2), (3, .int x3)] → W p l e R s m args below meth c H locs cells slots (CQ G below s M0 r M') (F0 m 17 ls [])) : ∀ (a0 : Nat) (x2 : Int32) (x6 : Int32) (M : Mem) (H : Heap) (locs : List Loc) (cells slots : Nat) (ls : Array Slot), fM_run_193 n d C k17 a0 x2 x6 M = some (r, M') → RL G M0 M H locs cells slots → lv_has ls 8 [(0, .ref a0), (2, .int x2), (6, .int x6)] → W p l e R s m args below meth c H locs cells slots (CQ G below s M0 r M') (F0 m 193 ls []) := by
  obtain ⟨hx, hb, hml, hown, hrt, hlk, hex, hK, hRm⟩ := id F
  intro a0 x2 x6 M H locs cells slots ls h hR hl
  unfold fM_run_193 at h
  refine lv_iload hx hb dM_run_193 (lv_at hl 2 rfl) ?_
  refine lv_istore_n (lv' := [(3, .int x6), (0, .ref a0), (2, .int x2), (6, .int x6)]) hx hb dM_run_195 rfl hl (by decide) rfl (fun ls hl => ?_)
  refine lv_goto (tgt := 17) hx hb dM_run_196 (by decide) ?_
  exact hk17 a0 x2 x6 _ _ _ _ _ _ h hR (lv_sub hl [1, 2, 0] rfl)
def fM_run_75 (n d : Nat) (C : Cx) (k17 : Nat → Int32 → Int32 → Mem → Rz) (a0 : Nat) (x2 : Int32) (x5 : Int32) (x6 : Int32) (xs0 : Int32) (xs1 : Int32) (rs2 : Option Nat) (M : Mem) : Rz := rzD rs2 fun a_1 => (if mK M a_1 = 21 then (if inA xs1 (mL M a_1) then (rzM (setI M a_1 xs1.toNatClampNeg xs0) fun M_5 => (if mK M_5 a0 = 5 then (rzD (mP M_5 a0 37) fun a_9 => (if mK M_5 a_9 = 21 then (if inA x5 (mL M_5 a_9) then (rzM (setI M_5 a_9 x5.toNatClampNeg x6) fun M_13 => (fM_run_193 n d C k17 a0 x2 x6 M_13)) else none) else none)) else none)) else none) else none)
set_option maxRecDepth 100000 in
set_option maxHeartbeats 4000000 in
theorem tM_run_75 {n : Nat} {k17 : Nat → Int32 → Int32 → Mem → Rz} (F : FX p s m meth c G R M0 d "HeadCountModel" bM_run 8 (some .boolean)) (hC : CBs l G d C) (hk17 : ∀ (a0 : Nat) (x2 : Int32) (x3 : Int32) (M : Mem) (H : Heap) (locs : List Loc) (cells slots : Nat) (ls : Array Slot), k17 a0 x2 x3 M = some (r, M') → RL G M0 M H locs cells slots → lv_has ls 8 [(0, .ref a0), (2, .int x2), (3, .int x3)] → W p l e R s m args below meth c H locs cells slots (CQ G below s M0 r M') (F0 m 17 ls [])) : ∀ (a0 : Nat) (x2 : Int32) (x5 : Int32) (x6 : Int32) (xs0 : Int32) (xs1 : Int32) (rs2 : Option Nat) (M : Mem) (H : Heap) (locs : List Loc) (cells slots : Nat) (ls : Array Slot), fM_run_75 n d C k17 a0 x2 x5 x6 xs0 xs1 rs2 M = some (r, M') → RL G M0 M H locs cells slots → lv_has ls 8 [(0, .ref a0), (2, .int x2), (5, .int x5), (6, .int x6)] → W p l e R s m args below meth c H locs cells slots (CQ G below s M0 r M') (F0 m 75 ls [.int xs0, .int xs1, va_rf rs2]) := by
  obtain ⟨hx, hb, hml, hown, hrt, hlk, hex, hK, hRm⟩ := id F
  intro a0 x2 x5 x6 xs0 xs1 rs2 M H locs cells slots ls h hR hl
  unfold fM_run_75 at h
  obtain ⟨a_1, e_2, h⟩ := rz_d h
  rw [e_2]
  obtain ⟨c_3, h⟩ := rz_chk h
  obtain ⟨c_4, h⟩ := rz_chk h
  obtain ⟨M_5, q_6, h⟩ := rz_m h
  refine rg_iast hx hb hK hR c_3 c_4 dM_run_75 (fun H locs hR => ?_)
  rw [← q_6] at hR
  have c_7 : mK M_5 a_1 = 21 := by rw [q_6]; exact c_3
  refine lv_aload_n hx hb dM_run_76 rfl (lv_at hl 0 rfl) ?_
  obtain ⟨c_8, h⟩ := rz_chk h
  refine rg_getP hx hb hown hK hR hk_M 37 (by decide) kf_M_54 rfl c_8 dM_run_77 ?_
  refine lv_iload hx hb dM_run_80 (lv_at hl 2 rfl) ?_
  refine lv_iload hx hb dM_run_82 (lv_at hl 3 rfl) ?_
  obtain ⟨a_9, e_10, h⟩ := rz_d h
  rw [e_10]
  obtain ⟨c_11, h⟩ := rz_chk h
  obtain ⟨c_12, h⟩ := rz_chk h
  obtain ⟨M_13, q_14, h⟩ := rz_m h
  refine rg_iast hx hb hK hR c_11 c_12 dM_run_84 (fun H locs hR => ?_)
  rw [← q_14] at hR
  have c_15 : mK M_13 a_1 = 21 := by rw [q_14]; exact c_7
  have c_16 : mK M_13 a0 = 5 := by rw [q_14]; exact c_8
  have c_17 : mK M_13 a_9 = 21 := by rw [q_14]; exact c_11
  refine lv_goto (tgt := 193) hx hb dM_run_85 (by decide) ?_
  exact tM_run_193 F hC hk17 a0 x2 x6 _ _ _ _ _ _ h hR (lv_sub hl [0, 1, 3] rfl)
def fM_run_145 (n d : Nat) (C : Cx) (k17 : Nat → Int32 → Int32 → Mem → Rz) (a0 : Nat) (x2 : Int32) (x6 : Int32) (M : Mem) : Rz := fM_run_193 n d C k17 a0 x2 x6 M
set_option maxRecDepth 100000 in
set_option maxHeartbeats 4000000 in
theorem tM_run_145 {n : Nat} {k17 : Nat → Int32 → Int32 → Mem → Rz} (F : FX p s m meth c G R M0 d "HeadCountModel" bM_run 8 (some .boolean)) (hC : CBs l G d C) (hk17 : ∀ (a0 : Nat) (x2 : Int32) (x3 : Int32) (M : Mem) (H : Heap) (locs : List Loc) (cells slots : Nat) (ls : Array Slot), k17 a0 x2 x3 M = some (r, M') → RL G M0 M H locs cells slots → lv_has ls 8 [(0, .ref a0), (2, .int x2), (3, .int x3)] → W p l e R s m args below meth c H locs cells slots (CQ G below s M0 r M') (F0 m 17 ls [])) : ∀ (a0 : Nat) (x2 : Int32) (x6 : Int32) (M : Mem) (H : Heap) (locs : List Loc) (cells slots : Nat) (ls : Array Slot), fM_run_145 n d C k17 a0 x2 x6 M = some (r, M') → RL G M0 M H locs cells slots → lv_has ls 8 [(0, .ref a0), (2, .int x2), (6, .int x6)] → W p l e R s m args below meth c H locs cells slots (CQ G below s M0 r M') (F0 m 145 ls []) := by
  obtain ⟨hx, hb, hml, hown, hrt, hlk, hex, hK, hRm⟩ := id F
  intro a0 x2 x6 M H locs cells slots ls h hR hl
  unfold fM_run_145 at h
  refine lv_goto (tgt := 193) hx hb dM_run_145 (by decide) ?_
  exact tM_run_193 F hC hk17 a0 x2 x6 _ _ _ _ _ _ h hR (lv_sub hl [0, 1, 2] rfl)
def fM_run_119 (n d : Nat) (C : Cx) (k17 : Nat → Int32 → Int32 → Mem → Rz) (a0 : Nat) (x2 : Int32) (x5 : Int32) (x6 : Int32) (xs0 : Int32) (xs1 : Int32) (xs2 : Int32) (as3 : Nat) (M : Mem) : Rz := if mK M as3 = 5 then (rzC (C 98 [.ref as3, .int xs2, .int xs1, .int xs0] M) fun v_2 M_3 => (rzI v_2 fun x_6 => (if x_6 = 0 then (if mK M_3 a0 = 5 then (rzD (mP M_3 a0 36) fun a_9 => (if mK M_3 a_9 = 21 then (if inA x5 (mL M_3 a_9) then (if inA x5 (mL M_3 a_9) then (rzM (setI M_3 a_9 x5.toNatClampNeg ((mI M_3 a_9 x5.toNatClampNeg) + 1)) fun M_14 => (rzD (mP M_14 a0 37) fun a_18 => (if mK M_14 a_18 = 21 then (if inA x5 (mL M_14 a_18) then (fM_run_145 n d C k17 a0 x2 (mI M_14 a_18 x5.toNatClampNeg) M_14) else none) else none))) else none) else none) else none)) else none) else (fM_run_145 n d C k17 a0 x2 x6 M_3)))) else none
set_option maxRecDepth 100000 in
set_option maxHeartbeats 4000000 in
theorem tM_run_119 {n : Nat} {k17 : Nat → Int32 → Int32 → Mem → Rz} (F : FX p s m meth c G R M0 d "HeadCountModel" bM_run 8 (some .boolean)) (hC : CBs l G d C) (hk17 : ∀ (a0 : Nat) (x2 : Int32) (x3 : Int32) (M : Mem) (H : Heap) (locs : List Loc) (cells slots : Nat) (ls : Array Slot), k17 a0 x2 x3 M = some (r, M') → RL G M0 M H locs cells slots → lv_has ls 8 [(0, .ref a0), (2, .int x2), (3, .int x3)] → W p l e R s m args below meth c H locs cells slots (CQ G below s M0 r M') (F0 m 17 ls [])) : ∀ (a0 : Nat) (x2 : Int32) (x5 : Int32) (x6 : Int32) (xs0 : Int32) (xs1 : Int32) (xs2 : Int32) (as3 : Nat) (M : Mem) (H : Heap) (locs : List Loc) (cells slots : Nat) (ls : Array Slot), fM_run_119 n d C k17 a0 x2 x5 x6 xs0 xs1 xs2 as3 M = some (r, M') → RL G M0 M H locs cells slots → lv_has ls 8 [(0, .ref a0), (2, .int x2), (5, .int x5), (6, .int x6)] → W p l e R s m args below meth c H locs cells slots (CQ G below s M0 r M') (F0 m 119 ls [.int xs0, .int xs1, .int xs2, .ref as3]) := by
  obtain ⟨hx, hb, hml, hown, hrt, hlk, hex, hK, hRm⟩ := id F
  intro a0 x2 x5 x6 xs0 xs1 xs2 as3 M H locs cells slots ls h hR hl
  unfold fM_run_119 at h
  obtain ⟨c_1, h⟩ := rz_chk h
  obtain ⟨q_5, M_3, h_4, h⟩ := rz_c h
  refine rc_V (rest := []) (As := [.int xs2, .int xs1, .int xs0]) hx hb (hl.1.trans hml.symm) hown hK hR hRm mfM_ends kl_M_228 hk_M rfl rfl c_1 (by simp [cat_rf, Value.category]) (hC 98 _ _ _ _ h_4) dM_run_119 (fun v1 H locs cells slots ev hR => ?_) (fun x1 q1 ce1 H locs cells slots ex hR g1 g2 g3 => ?_)
  · rcases h with ⟨v_2, ev2, h⟩ | ⟨e2, ee2, -⟩
    · cases ev.symm.trans ev2
      replace h := rz_i h
      obtain ⟨x_6, rfl, h⟩ := h
      dsimp only [Option.toList, List.cons_append, List.nil_append]
      refine lv_if_ne (tgt := 145) hx hb dM_run_122 (by decide) (fun c_7 => ?_) (fun c_7 => ?_)
      · replace h := rz_f c_7 h
        exact tM_run_145 F hC hk17 a0 x2 x6 _ _ _ _ _ _ h hR (lv_sub hl [0, 1, 3] rfl)
      · replace h := rz_t c_7 h
        refine lv_aload_n hx hb dM_run_125 rfl (lv_at hl 0 rfl) ?_
        obtain ⟨c_8, h⟩ := rz_chk h
        refine rg_getP hx hb hown hK hR hk_M 36 (by decide) kf_M_51 rfl c_8 dM_run_126 ?_
        refine lv_iload hx hb dM_run_129 (lv_at hl 2 rfl) ?_
        refine lv_dup2_11 hx hb dM_run_131 rfl (cat_rf _) ?_
        obtain ⟨a_9, e_10, h⟩ := rz_d h
        rw [e_10]
        obtain ⟨c_11, h⟩ := rz_chk h
        obtain ⟨c_12, h⟩ := rz_chk h
        refine rg_iald hx hb hK hR c_11 c_12 dM_run_132 ?_
        refine lv_iconst (v := 1) hx hb dM_run_133 (by decide) ?_
        refine lv_iadd hx hb dM_run_134 ?_
        obtain ⟨c_13, h⟩ := rz_chk h
        obtain ⟨M_14, q_15, h⟩ := rz_m h
        refine rg_iast hx hb hK hR c_11 c_13 dM_run_135 (fun H locs hR => ?_)
        rw [← q_15] at hR
        have c_16 : mK M_14 a0 = 5 := by rw [q_15]; exact c_8
        have c_17 : mK M_14 a_9 = 21 := by rw [q_15]; exact c_11
        refine lv_aload_n hx hb dM_run_136 rfl (lv_at hl 0 rfl) ?_
        refine rg_getP hx hb hown hK hR hk_M 37 (by decide) kf_M_54 rfl c_16 dM_run_137 ?_
        refine lv_iload hx hb dM_run_140 (lv_at hl 2 rfl) ?_
        obtain ⟨a_18, e_19, h⟩ := rz_d h
        rw [e_19]
        obtain ⟨c_20, h⟩ := rz_chk h
        obtain ⟨c_21, h⟩ := rz_chk h
        refine rg_iald hx hb hK hR c_20 c_21 dM_run_142 ?_
        refine lv_istore (lv' := [(6, .int (mI M_14 a_18 x5.toNatClampNeg)), (0, .ref a0), (2, .int x2), (5, .int x5)]) hx hb dM_run_143 hl (by decide) rfl (fun ls hl => ?_)
        exact tM_run_145 F hC hk17 a0 x2 (mI M_14 a_18 x5.toNatClampNeg) _ _ _ _ _ _ h hR (lv_sub hl [1, 2, 0] rfl)
    · cases ev.symm.trans ee2
  · rcases h with ⟨v2, ev2, -⟩ | ⟨e2, ee2, h⟩
    · cases ex.symm.trans ev2
    · cases ex.symm.trans ee2
      cases h
      exact rt_x hlk hex hR g1 g2 g3
def fM_run_118 (n d : Nat) (C : Cx) (k17 : Nat → Int32 → Int32 → Mem → Rz) (a0 : Nat) (x2 : Int32) (x5 : Int32) (x6 : Int32) (xs0 : Int32) (xs1 : Int32) (as2 : Nat) (M : Mem) : Rz := fM_run_119 n d C k17 a0 x2 x5 x6 0 xs0 xs1 as2 M
set_option maxRecDepth 100000 in
set_option maxHeartbeats 4000000 in
theorem tM_run_118 {n : Nat} {k17 : Nat → Int32 → Int32 → Mem → Rz} (F : FX p s m meth c G R M0 d "HeadCountModel" bM_run 8 (some .boolean)) (hC : CBs l G d C) (hk17 : ∀ (a0 : Nat) (x2 : Int32) (x3 : Int32) (M : Mem) (H : Heap) (locs : List Loc) (cells slots : Nat) (ls : Array Slot), k17 a0 x2 x3 M = some (r, M') → RL G M0 M H locs cells slots → lv_has ls 8 [(0, .ref a0), (2, .int x2), (3, .int x3)] → W p l e R s m args below meth c H locs cells slots (CQ G below s M0 r M') (F0 m 17 ls [])) : ∀ (a0 : Nat) (x2 : Int32) (x5 : Int32) (x6 : Int32) (xs0 : Int32) (xs1 : Int32) (as2 : Nat) (M : Mem) (H : Heap) (locs : List Loc) (cells slots : Nat) (ls : Array Slot), fM_run_118 n d C k17 a0 x2 x5 x6 xs0 xs1 as2 M = some (r, M') → RL G M0 M H locs cells slots → lv_has ls 8 [(0, .ref a0), (2, .int x2), (5, .int x5), (6, .int x6)] → W p l e R s m args below meth c H locs cells slots (CQ G below s M0 r M') (F0 m 118 ls [.int xs0, .int xs1, .ref as2]) := by
  obtain ⟨hx, hb, hml, hown, hrt, hlk, hex, hK, hRm⟩ := id F
  intro a0 x2 x5 x6 xs0 xs1 as2 M H locs cells slots ls h hR hl
  unfold fM_run_118 at h
  refine lv_iconst (v := 0) hx hb dM_run_118 (by decide) ?_
  exact tM_run_119 F hC hk17 a0 x2 x5 x6 0 xs0 xs1 as2 _ _ _ _ _ _ h hR (lv_sub hl [0, 1, 2, 3] rfl)
def fM_run_176 (n d : Nat) (C : Cx) (k17 : Nat → Int32 → Int32 → Mem → Rz) (a0 : Nat) (x2 : Int32) (x4 : Int32) (x5 : Int32) (x6 : Int32) (M : Mem) : Rz := if mK M a0 = 5 then (rzC (C 101 [.ref a0, .int x4, .int x5] M) fun v_2 M_3 => (rzV v_2 (fM_run_193 n d C k17 a0 x2 x6 M_3))) else none
set_option maxRecDepth 100000 in
set_option maxHeartbeats 4000000 in
theorem tM_run_176 {n : Nat} {k17 : Nat → Int32 → Int32 → Mem → Rz} (F : FX p s m meth c G R M0 d "HeadCountModel" bM_run 8 (some .boolean)) (hC : CBs l G d C) (hk17 : ∀ (a0 : Nat) (x2 : Int32) (x3 : Int32) (M : Mem) (H : Heap) (locs : List Loc) (cells slots : Nat) (ls : Array Slot), k17 a0 x2 x3 M = some (r, M') → RL G M0 M H locs cells slots → lv_has ls 8 [(0, .ref a0), (2, .int x2), (3, .int x3)] → W p l e R s m args below meth c H locs cells slots (CQ G below s M0 r M') (F0 m 17 ls [])) : ∀ (a0 : Nat) (x2 : Int32) (x4 : Int32) (x5 : Int32) (x6 : Int32) (M : Mem) (H : Heap) (locs : List Loc) (cells slots : Nat) (ls : Array Slot), fM_run_176 n d C k17 a0 x2 x4 x5 x6 M = some (r, M') → RL G M0 M H locs cells slots → lv_has ls 8 [(0, .ref a0), (2, .int x2), (4, .int x4), (5, .int x5), (6, .int x6)] → W p l e R s m args below meth c H locs cells slots (CQ G below s M0 r M') (F0 m 176 ls []) := by
  obtain ⟨hx, hb, hml, hown, hrt, hlk, hex, hK, hRm⟩ := id F
  intro a0 x2 x4 x5 x6 M H locs cells slots ls h hR hl
  unfold fM_run_176 at h
  refine lv_aload_n hx hb dM_run_176 rfl (lv_at hl 0 rfl) ?_
  refine lv_iload hx hb dM_run_177 (lv_at hl 2 rfl) ?_
  refine lv_iload hx hb dM_run_179 (lv_at hl 3 rfl) ?_
  obtain ⟨c_1, h⟩ := rz_chk h
  obtain ⟨q_5, M_3, h_4, h⟩ := rz_c h
  refine rc_V (rest := []) (As := [.int x4, .int x5]) hx hb (hl.1.trans hml.symm) hown hK hR hRm mfM_doSum kl_M_232 hk_M rfl rfl c_1 (by simp [cat_rf, Value.category]) (hC 101 _ _ _ _ h_4) dM_run_181 (fun v1 H locs cells slots ev hR => ?_) (fun x1 q1 ce1 H locs cells slots ex hR g1 g2 g3 => ?_)
  · rcases h with ⟨v_2, ev2, h⟩ | ⟨e2, ee2, -⟩
    · cases ev.symm.trans ev2
      replace h := rz_v h
      obtain ⟨rfl, h⟩ := h
      dsimp only [Option.toList, List.cons_append, List.nil_append]
      refine lv_goto (tgt := 193) hx hb dM_run_184 (by decide) ?_
      exact tM_run_193 F hC hk17 a0 x2 x6 _ _ _ _ _ _ h hR (lv_sub hl [0, 1, 4] rfl)
    · cases ev.symm.trans ee2
  · rcases h with ⟨v2, ev2, -⟩ | ⟨e2, ee2, h⟩
    · cases ex.symm.trans ev2
    · cases ex.symm.trans ee2
      cases h
      exact rt_x hlk hex hR g1 g2 g3
def fM_run_162 (n d : Nat) (C : Cx) (k17 : Nat → Int32 → Int32 → Mem → Rz) (a0 : Nat) (x2 : Int32) (x4 : Int32) (x5 : Int32) (x6 : Int32) (M : Mem) : Rz := if x4 = 21 then (fM_run_176 n d C k17 a0 x2 x4 x5 x6 M) else (if x4 = 11 then (fM_run_176 n d C k17 a0 x2 x4 x5 x6 M) else (if mK M a0 = 5 then (rzC (C 103 [.ref a0, .int x4] M) fun v_4 M_5 => (rzV v_4 (fM_run_193 n d C k17 a0 x2 x6 M_5))) else none))
set_option maxRecDepth 100000 in
set_option maxHeartbeats 4000000 in
theorem tM_run_162 {n : Nat} {k17 : Nat → Int32 → Int32 → Mem → Rz} (F : FX p s m meth c G R M0 d "HeadCountModel" bM_run 8 (some .boolean)) (hC : CBs l G d C) (hk17 : ∀ (a0 : Nat) (x2 : Int32) (x3 : Int32) (M : Mem) (H : Heap) (locs : List Loc) (cells slots : Nat) (ls : Array Slot), k17 a0 x2 x3 M = some (r, M') → RL G M0 M H locs cells slots → lv_has ls 8 [(0, .ref a0), (2, .int x2), (3, .int x3)] → W p l e R s m args below meth c H locs cells slots (CQ G below s M0 r M') (F0 m 17 ls [])) : ∀ (a0 : Nat) (x2 : Int32) (x4 : Int32) (x5 : Int32) (x6 : Int32) (M : Mem) (H : Heap) (locs : List Loc) (cells slots : Nat) (ls : Array Slot), fM_run_162 n d C k17 a0 x2 x4 x5 x6 M = some (r, M') → RL G M0 M H locs cells slots → lv_has ls 8 [(0, .ref a0), (2, .int x2), (4, .int x4), (5, .int x5), (6, .int x6)] → W p l e R s m args below meth c H locs cells slots (CQ G below s M0 r M') (F0 m 162 ls []) := by
  obtain ⟨hx, hb, hml, hown, hrt, hlk, hex, hK, hRm⟩ := id F
  intro a0 x2 x4 x5 x6 M H locs cells slots ls h hR hl
  unfold fM_run_162 at h
  refine lv_iload hx hb dM_run_162 (lv_at hl 2 rfl) ?_
  refine lv_bipush (v := 21) hx hb dM_run_164 (by decide) ?_
  refine lv_icmp_eq (tgt := 176) hx hb dM_run_166 (by decide) (fun c_1 => ?_) (fun c_1 => ?_)
  · replace h := rz_t c_1 h
    exact tM_run_176 F hC hk17 a0 x2 x4 x5 x6 _ _ _ _ _ _ h hR (lv_sub hl [0, 1, 2, 3, 4] rfl)
  · replace h := rz_f c_1 h
    refine lv_iload hx hb dM_run_169 (lv_at hl 2 rfl) ?_
    refine lv_bipush (v := 11) hx hb dM_run_171 (by decide) ?_
    refine lv_icmp_ne (tgt := 187) hx hb dM_run_173 (by decide) (fun c_2 => ?_) (fun c_2 => ?_)
    · replace h := rz_f c_2 h
      refine lv_aload_n hx hb dM_run_187 rfl (lv_at hl 0 rfl) ?_
      refine lv_iload hx hb dM_run_188 (lv_at hl 2 rfl) ?_
      obtain ⟨c_3, h⟩ := rz_chk h
      obtain ⟨q_7, M_5, h_6, h⟩ := rz_c h
      refine rc_V (rest := []) (As := [.int x4]) hx hb (hl.1.trans hml.symm) hown hK hR hRm mfM_doOther kl_M_235 hk_M rfl rfl c_3 (by simp [cat_rf, Value.category]) (hC 103 _ _ _ _ h_6) dM_run_190 (fun v1 H locs cells slots ev hR => ?_) (fun x1 q1 ce1 H locs cells slots ex hR g1 g2 g3 => ?_)
      · rcases h with ⟨v_4, ev2, h⟩ | ⟨e2, ee2, -⟩
        · cases ev.symm.trans ev2
          replace h := rz_v h
          obtain ⟨rfl, h⟩ := h
          dsimp only [Option.toList, List.cons_append, List.nil_append]
          exact tM_run_193 F hC hk17 a0 x2 x6 _ _ _ _ _ _ h hR (lv_sub hl [0, 1, 4] rfl)
        · cases ev.symm.trans ee2
      · rcases h with ⟨v2, ev2, -⟩ | ⟨e2, ee2, h⟩
        · cases ex.symm.trans ev2
        · cases ex.symm.trans ee2
          cases h
          exact rt_x hlk hex hR g1 g2 g3
    · replace h := rz_t c_2 h
      exact tM_run_176 F hC hk17 a0 x2 x4 x5 x6 _ _ _ _ _ _ h hR (lv_sub hl [0, 1, 2, 3, 4] rfl)
def fM_run_214 (n d : Nat) (C : Cx) (xs0 : Int32) (M : Mem) : Rz := if fits .boolean (.int xs0) = true then (some (.inl (some (.int xs0)), M)) else none
set_option maxRecDepth 100000 in
set_option maxHeartbeats 4000000 in
theorem tM_run_214 {n : Nat} (F : FX p s m meth c G R M0 d "HeadCountModel" bM_run 8 (some .boolean)) (hC : CBs l G d C) : ∀ (xs0 : Int32) (M : Mem) (H : Heap) (locs : List Loc) (cells slots : Nat) (ls : Array Slot), fM_run_214 n d C xs0 M = some (r, M') → RL G M0 M H locs cells slots → lv_has ls 8 [] → W p l e R s m args below meth c H locs cells slots (CQ G below s M0 r M') (F0 m 214 ls [.int xs0]) := by
  obtain ⟨hx, hb, hml, hown, hrt, hlk, hex, hK, hRm⟩ := id F
  intro xs0 M H locs cells slots ls h hR hl
  unfold fM_run_214 at h
  obtain ⟨c_1, h⟩ := rz_chk h
  cases h
  exact rt_i hx hb hlk hrt (Or.inr (Or.inr rfl)) c_1 hR dM_run_214
def fM_run_17 (n d : Nat) (C : Cx) : Nat → Nat → Int32 → Int32 → Mem → Rz
  | 0, _, _, _, _ => none
  | w + 1, a0, x2, x3, M => if mK M a0 = 5 then (if (mI M a0 4) ≤ x3 then (rzD (mP M a0 39) fun a_3 => (if mK M a_3 = 21 then (if inA 0 (mL M a_3) then (if (mI M a_3 (0 : Int32).toNatClampNeg) = 1 then (fM_run_214 n d C 1 M) else (fM_run_214 n d C 0 M)) else none) else none)) else (rzD (mP M a0 6) fun a_8 => (if mK M a_8 = 21 then (if inA x3 (mL M a_8) then (rzD (mP M a0 7) fun a_12 => (if mK M a_12 = 21 then (if inA x3 (mL M a_12) then (if (mI M a_8 x3.toNatClampNeg) = 12 then (rzD (mP M a0 9) fun a_27 => (if mK M a_27 = 23 then (if inA (mI M a_12 x3.toNatClampNeg) (mL M a_27) then (if (mI M a_27 (mI M a_12 x3.toNatClampNeg).toNatClampNeg) = 0 then (fM_run_75 n d C (fM_run_17 n d C w) a0 x2 (mI M a_12 x3.toNatClampNeg) (x3 + 1) ((-8)) (mI M a_12 x3.toNatClampNeg) (mP M a0 36) M) else (fM_run_75 n d C (fM_run_17 n d C w) a0 x2 (mI M a_12 x3.toNatClampNeg) (x3 + 1) 0 (mI M a_12 x3.toNatClampNeg) (mP M a0 36) M)) else none) else none)) else (if (mI M a_8 x3.toNatClampNeg) = 5 then (rzC (C 97 [.ref a0] M) fun v_20 M_21 => (rzI v_20 fun x_24 => (if x2 = 0 then (fM_run_118 n d C (fM_run_17 n d C w) a0 x2 (mI M a_12 x3.toNatClampNeg) (x3 + 1) x_24 (mI M a_12 x3.toNatClampNeg) a0 M_21) else (if (mI M a_12 x3.toNatClampNeg) = 0 then (fM_run_119 n d C (fM_run_17 n d C w) a0 x2 (mI M a_12 x3.toNatClampNeg) (x3 + 1) 1 x_24 (mI M a_12 x3.toNatClampNeg) a0 M_21) else (fM_run_118 n d C (fM_run_17 n d C w) a0 x2 (mI M a_12 x3.toNatClampNeg) (x3 + 1) x_24 (mI M a_12 x3.toNatClampNeg) a0 M_21))))) else (if (mI M a_8 x3.toNatClampNeg) < 13 then (fM_run_162 n d C (fM_run_17 n d C w) a0 x2 (mI M a_8 x3.toNatClampNeg) (mI M a_12 x3.toNatClampNeg) (x3 + 1) M) else (if (mI M a_8 x3.toNatClampNeg) ≤ 18 then (fM_run_176 n d C (fM_run_17 n d C w) a0 x2 (mI M a_8 x3.toNatClampNeg) (mI M a_12 x3.toNatClampNeg) (x3 + 1) M) else (fM_run_162 n d C (fM_run_17 n d C w) a0 x2 (mI M a_8 x3.toNatClampNeg) (mI M a_12 x3.toNatClampNeg) (x3 + 1) M))))) else none) else none)) else none) else none))) else none
set_option maxRecDepth 100000 in
set_option maxHeartbeats 4000000 in
theorem tM_run_17 {n : Nat} (F : FX p s m meth c G R M0 d "HeadCountModel" bM_run 8 (some .boolean)) (hC : CBs l G d C) : ∀ (w : Nat) (a0 : Nat) (x2 : Int32) (x3 : Int32) (M : Mem) (H : Heap) (locs : List Loc) (cells slots : Nat) (ls : Array Slot), fM_run_17 n d C w a0 x2 x3 M = some (r, M') → RL G M0 M H locs cells slots → lv_has ls 8 [(0, .ref a0), (2, .int x2), (3, .int x3)] → W p l e R s m args below meth c H locs cells slots (CQ G below s M0 r M') (F0 m 17 ls []) := by
  obtain ⟨hx, hb, hml, hown, hrt, hlk, hex, hK, hRm⟩ := id F
  intro w
  induction w with
  | zero => intro a0 x2 x3 M H locs cells slots ls h; cases h
  | succ w ih =>
    intro a0 x2 x3 M H locs cells slots ls h hR hl
    rw [fM_run_17] at h
    refine lv_iload_n hx hb dM_run_17 rfl (lv_at hl 2 rfl) ?_
    refine lv_aload_n hx hb dM_run_18 rfl (lv_at hl 0 rfl) ?_
    obtain ⟨c_1, h⟩ := rz_chk h
    refine rg_getI hx hb hown hK hR hk_M 4 (by decide) kf_M_197 rfl c_1 dM_run_19 ?_
    refine lv_icmp_ge (tgt := 199) hx hb dM_run_22 (by decide) (fun c_2 => ?_) (fun c_2 => ?_)
    · replace h := rz_t c_2 h
      refine lv_aload_n hx hb dM_run_199 rfl (lv_at hl 0 rfl) ?_
      refine rg_getP hx hb hown hK hR hk_M 39 (by decide) kf_M_57 rfl c_1 dM_run_200 ?_
      refine lv_iconst (v := 0) hx hb dM_run_203 (by decide) ?_
      obtain ⟨a_3, e_4, h⟩ := rz_d h
      rw [e_4]
      obtain ⟨c_5, h⟩ := rz_chk h
      obtain ⟨c_6, h⟩ := rz_chk h
      refine rg_iald hx hb hK hR c_5 c_6 dM_run_204 ?_
      refine lv_iconst (v := 1) hx hb dM_run_205 (by decide) ?_
      refine lv_icmp_ne (tgt := 213) hx hb dM_run_206 (by decide) (fun c_7 => ?_) (fun c_7 => ?_)
      · replace h := rz_f c_7 h
        refine lv_iconst (v := 0) hx hb dM_run_213 (by decide) ?_
        exact tM_run_214 F hC 0 _ _ _ _ _ _ h hR (lv_sub hl [] rfl)
      · replace h := rz_t c_7 h
        refine lv_iconst (v := 1) hx hb dM_run_209 (by decide) ?_
        refine lv_goto (tgt := 214) hx hb dM_run_210 (by decide) ?_
        exact tM_run_214 F hC 1 _ _ _ _ _ _ h hR (lv_sub hl [] rfl)
    · replace h := rz_f c_2 h
      refine lv_aload_n hx hb dM_run_25 rfl (lv_at hl 0 rfl) ?_
      refine rg_getP hx hb hown hK hR hk_M 6 (by decide) kf_M_13 rfl c_1 dM_run_26 ?_
      refine lv_iload_n hx hb dM_run_29 rfl (lv_at hl 2 rfl) ?_
      obtain ⟨a_8, e_9, h⟩ := rz_d h
      rw [e_9]
      obtain ⟨c_10, h⟩ := rz_chk h
      obtain ⟨c_11, h⟩ := rz_chk h
      refine rg_iald hx hb hK hR c_10 c_11 dM_run_30 ?_
      refine lv_istore (lv' := [(4, .int (mI M a_8 x3.toNatClampNeg)), (0, .ref a0), (2, .int x2), (3, .int x3)]) hx hb dM_run_31 hl (by decide) rfl (fun ls hl => ?_)
      refine lv_aload_n hx hb dM_run_33 rfl (lv_at hl 1 rfl) ?_
      refine rg_getP hx hb hown hK hR hk_M 7 (by decide) kf_M_17 rfl c_1 dM_run_34 ?_
      refine lv_iload_n hx hb dM_run_37 rfl (lv_at hl 3 rfl) ?_
      obtain ⟨a_12, e_13, h⟩ := rz_d h
      rw [e_13]
      obtain ⟨c_14, h⟩ := rz_chk h
      obtain ⟨c_15, h⟩ := rz_chk h
      refine rg_iald hx hb hK hR c_14 c_15 dM_run_38 ?_
      refine lv_istore (lv' := [(5, .int (mI M a_12 x3.toNatClampNeg)), (4, .int (mI M a_8 x3.toNatClampNeg)), (0, .ref a0), (2, .int x2), (3, .int x3)]) hx hb dM_run_39 hl (by decide) rfl (fun ls hl => ?_)
      refine lv_iload_n hx hb dM_run_41 rfl (lv_at hl 4 rfl) ?_
      refine lv_iconst (v := 1) hx hb dM_run_42 (by decide) ?_
      refine lv_iadd hx hb dM_run_43 ?_
      refine lv_istore (lv' := [(6, .int (x3 + 1)), (5, .int (mI M a_12 x3.toNatClampNeg)), (4, .int (mI M a_8 x3.toNatClampNeg)), (0, .ref a0), (2, .int x2), (3, .int x3)]) hx hb dM_run_44 hl (by decide) rfl (fun ls hl => ?_)
      refine lv_iload hx hb dM_run_46 (lv_at hl 2 rfl) ?_
      refine lv_bipush (v := 12) hx hb dM_run_48 (by decide) ?_
      refine lv_icmp_ne (tgt := 88) hx hb dM_run_50 (by decide) (fun c_16 => ?_) (fun c_16 => ?_)
      · replace h := rz_f c_16 h
        refine lv_iload hx hb dM_run_88 (lv_at hl 2 rfl) ?_
        refine lv_iconst (v := 5) hx hb dM_run_90 (by decide) ?_
        refine lv_icmp_ne (tgt := 148) hx hb dM_run_91 (by decide) (fun c_17 => ?_) (fun c_17 => ?_)
        · replace h := rz_f c_17 h
          refine lv_iload hx hb dM_run_148 (lv_at hl 2 rfl) ?_
          refine lv_bipush (v := 13) hx hb dM_run_150 (by decide) ?_
          refine lv_icmp_lt (tgt := 162) hx hb dM_run_152 (by decide) (fun c_18 => ?_) (fun c_18 => ?_)
          · replace h := rz_t c_18 h
            exact tM_run_162 F hC ih a0 x2 (mI M a_8 x3.toNatClampNeg) (mI M a_12 x3.toNatClampNeg) (x3 + 1) _ _ _ _ _ _ h hR (lv_sub hl [3, 4, 2, 1, 0] rfl)
          · replace h := rz_f c_18 h
            refine lv_iload hx hb dM_run_155 (lv_at hl 2 rfl) ?_
            refine lv_bipush (v := 18) hx hb dM_run_157 (by decide) ?_
            refine lv_icmp_le (tgt := 176) hx hb dM_run_159 (by decide) (fun c_19 => ?_) (fun c_19 => ?_)
            · replace h := rz_t c_19 h
              exact tM_run_176 F hC ih a0 x2 (mI M a_8 x3.toNatClampNeg) (mI M a_12 x3.toNatClampNeg) (x3 + 1) _ _ _ _ _ _ h hR (lv_sub hl [3, 4, 2, 1, 0] rfl)
            · replace h := rz_f c_19 h
              exact tM_run_162 F hC ih a0 x2 (mI M a_8 x3.toNatClampNeg) (mI M a_12 x3.toNatClampNeg) (x3 + 1) _ _ _ _ _ _ h hR (lv_sub hl [3, 4, 2, 1, 0] rfl)
        · replace h := rz_t c_17 h
          refine lv_aload_n hx hb dM_run_94 rfl (lv_at hl 3 rfl) ?_
          obtain ⟨q_23, M_21, h_22, h⟩ := rz_c h
          refine rc_V (rest := []) (As := []) hx hb (hl.1.trans hml.symm) hown hK hR hRm mfM_pop kl_M_209 hk_M rfl rfl c_1 (by simp [cat_rf, Value.category]) (hC 97 _ _ _ _ h_22) dM_run_95 (fun v1 H locs cells slots ev hR => ?_) (fun x1 q1 ce1 H locs cells slots ex hR g1 g2 g3 => ?_)
          · rcases h with ⟨v_20, ev2, h⟩ | ⟨e2, ee2, -⟩
            · cases ev.symm.trans ev2
              replace h := rz_i h
              obtain ⟨x_24, rfl, h⟩ := h
              dsimp only [Option.toList, List.cons_append, List.nil_append]
              refine lv_istore (lv' := [(7, .int x_24), (6, .int (x3 + 1)), (5, .int (mI M a_12 x3.toNatClampNeg)), (4, .int (mI M a_8 x3.toNatClampNeg)), (0, .ref a0), (2, .int x2), (3, .int x3)]) hx hb dM_run_98 hl (by decide) rfl (fun ls hl => ?_)
              refine lv_aload_n hx hb dM_run_100 rfl (lv_at hl 4 rfl) ?_
              refine lv_iload hx hb dM_run_101 (lv_at hl 2 rfl) ?_
              refine lv_iload hx hb dM_run_103 (lv_at hl 0 rfl) ?_
              refine lv_iload_n hx hb dM_run_105 rfl (lv_at hl 5 rfl) ?_
              refine lv_if_eq (tgt := 118) hx hb dM_run_106 (by decide) (fun c_25 => ?_) (fun c_25 => ?_)
              · replace h := rz_t c_25 h
                exact tM_run_118 F hC ih a0 x2 (mI M a_12 x3.toNatClampNeg) (x3 + 1) x_24 (mI M a_12 x3.toNatClampNeg) a0 _ _ _ _ _ _ h hR (lv_sub hl [4, 5, 2, 1] rfl)
              · replace h := rz_f c_25 h
                refine lv_iload hx hb dM_run_109 (lv_at hl 2 rfl) ?_
                refine lv_if_ne (tgt := 118) hx hb dM_run_111 (by decide) (fun c_26 => ?_) (fun c_26 => ?_)
                · replace h := rz_f c_26 h
                  exact tM_run_118 F hC ih a0 x2 (mI M a_12 x3.toNatClampNeg) (x3 + 1) x_24 (mI M a_12 x3.toNatClampNeg) a0 _ _ _ _ _ _ h hR (lv_sub hl [4, 5, 2, 1] rfl)
                · replace h := rz_t c_26 h
                  refine lv_iconst (v := 1) hx hb dM_run_114 (by decide) ?_
                  refine lv_goto (tgt := 119) hx hb dM_run_115 (by decide) ?_
                  exact tM_run_119 F hC ih a0 x2 (mI M a_12 x3.toNatClampNeg) (x3 + 1) 1 x_24 (mI M a_12 x3.toNatClampNeg) a0 _ _ _ _ _ _ h hR (lv_sub hl [4, 5, 2, 1] rfl)
            · cases ev.symm.trans ee2
          · rcases h with ⟨v2, ev2, -⟩ | ⟨e2, ee2, h⟩
            · cases ex.symm.trans ev2
            · cases ex.symm.trans ee2
              cases h
              exact rt_x hlk hex hR g1 g2 g3
      · replace h := rz_t c_16 h
        refine lv_aload_n hx hb dM_run_53 rfl (lv_at hl 3 rfl) ?_
        refine rg_getP hx hb hown hK hR hk_M 36 (by decide) kf_M_51 rfl c_1 dM_run_54 ?_
        refine lv_iload hx hb dM_run_57 (lv_at hl 1 rfl) ?_
        refine lv_aload_n hx hb dM_run_59 rfl (lv_at hl 3 rfl) ?_
        refine rg_getP hx hb hown hK hR hk_M 9 (by decide) kf_M_24 rfl c_1 dM_run_60 ?_
        refine lv_iload hx hb dM_run_63 (lv_at hl 1 rfl) ?_
        obtain ⟨a_27, e_28, h⟩ := rz_d h
        rw [e_28]
        obtain ⟨c_29, h⟩ := rz_chk h
        obtain ⟨c_30, h⟩ := rz_chk h
        refine rg_zald hx hb hK hR c_29 c_30 dM_run_65 ?_
        refine lv_if_eq (tgt := 73) hx hb dM_run_66 (by decide) (fun c_31 => ?_) (fun c_31 => ?_)
        · replace h := rz_t c_31 h
          refine lv_bipush (v := (-8)) hx hb dM_run_73 (by decide) ?_
          exact tM_run_75 F hC ih a0 x2 (mI M a_12 x3.toNatClampNeg) (x3 + 1) ((-8)) (mI M a_12 x3.toNatClampNeg) (mP M a0 36) _ _ _ _ _ _ h hR (lv_sub hl [3, 4, 1, 0] rfl)
        · replace h := rz_f c_31 h
          refine lv_iconst (v := 0) hx hb dM_run_69 (by decide) ?_
          refine lv_goto (tgt := 75) hx hb dM_run_70 (by decide) ?_
          exact tM_run_75 F hC ih a0 x2 (mI M a_12 x3.toNatClampNeg) (x3 + 1) 0 (mI M a_12 x3.toNatClampNeg) (mP M a0 36) _ _ _ _ _ _ h hR (lv_sub hl [3, 4, 1, 0] rfl)
def fM_run_0 (n d : Nat) (C : Cx) (a0 : Nat) (x1 : Int32) (x2 : Int32) (M : Mem) : Rz := if mK M a0 = 5 then (rzM (setI M a0 35 x1) fun M_2 => (rzM (setI M_2 a0 38 0) fun M_5 => (rzM (setI M_5 a0 40 0) fun M_8 => (fM_run_17 n d C n a0 x2 0 M_8)))) else none
set_option maxRecDepth 100000 in
set_option maxHeartbeats 4000000 in
theorem tM_run_0 {n : Nat} (F : FX p s m meth c G R M0 d "HeadCountModel" bM_run 8 (some .boolean)) (hC : CBs l G d C) : ∀ (a0 : Nat) (x1 : Int32) (x2 : Int32) (M : Mem) (H : Heap) (locs : List Loc) (cells slots : Nat) (ls : Array Slot), fM_run_0 n d C a0 x1 x2 M = some (r, M') → RL G M0 M H locs cells slots → lv_has ls 8 [(0, .ref a0), (1, .int x1), (2, .int x2)] → W p l e R s m args below meth c H locs cells slots (CQ G below s M0 r M') (F0 m 0 ls []) := by
  obtain ⟨hx, hb, hml, hown, hrt, hlk, hex, hK, hRm⟩ := id F
  intro a0 x1 x2 M H locs cells slots ls h hR hl
  unfold fM_run_0 at h
  refine lv_aload_n hx hb dM_run_0 rfl (lv_at hl 0 rfl) ?_
  refine lv_iload_n hx hb dM_run_1 rfl (lv_at hl 1 rfl) ?_
  obtain ⟨c_1, h⟩ := rz_chk h
  obtain ⟨M_2, q_3, h⟩ := rz_m h
  refine rg_putI hx hb hown hK hR hk_M 35 (by decide) kf_M_216 rfl rfl (ty := .int) (by decide +kernel) (Or.inl rfl) rfl c_1 dM_run_2 (fun H locs hR => ?_)
  rw [← q_3] at hR
  have c_4 : mK M_2 a0 = 5 := by rw [q_3]; exact c_1
  refine lv_aload_n hx hb dM_run_5 rfl (lv_at hl 0 rfl) ?_
  refine lv_iconst (v := 0) hx hb dM_run_6 (by decide) ?_
  obtain ⟨M_5, q_6, h⟩ := rz_m h
  refine rg_putI hx hb hown hK hR hk_M 38 (by decide) kf_M_206 rfl rfl (ty := .int) (by decide +kernel) (Or.inl rfl) rfl c_4 dM_run_7 (fun H locs hR => ?_)
  rw [← q_6] at hR
  have c_7 : mK M_5 a0 = 5 := by rw [q_6]; exact c_4
  refine lv_aload_n hx hb dM_run_10 rfl (lv_at hl 0 rfl) ?_
  refine lv_iconst (v := 0) hx hb dM_run_11 (by decide) ?_
  obtain ⟨M_8, q_9, h⟩ := rz_m h
  refine rg_putI hx hb hown hK hR hk_M 40 (by decide) kf_M_222 rfl rfl (ty := .int) (by decide +kernel) (Or.inl rfl) rfl c_7 dM_run_12 (fun H locs hR => ?_)
  rw [← q_9] at hR
  have c_10 : mK M_8 a0 = 5 := by rw [q_9]; exact c_7
  refine lv_iconst (v := 0) hx hb dM_run_15 (by decide) ?_
  refine lv_istore_n (lv' := [(3, .int 0), (0, .ref a0), (1, .int x1), (2, .int x2)]) hx hb dM_run_16 rfl hl (by decide) rfl (fun ls hl => ?_)
  exact tM_run_17 F hC n a0 x2 0 _ _ _ _ _ _ h hR (lv_sub hl [1, 3, 0] rfl)
set_option maxRecDepth 100000 in
set_option maxHeartbeats 4000000 in
theorem sM_run {l : Launch} {G : Gx} {n d : Nat} {C : Cx} (hC : CBs l G d C) (a0 : Nat) (x1 : Int32) (x2 : Int32) {M M' : Mem} {r : Option Value ⊕ Nat} (h : fM_run_0 n d C a0 x1 x2 M = some (r, M')) : CB l G (d + 1) yM_run [.ref a0, .int x1, .int x2] M r M' := by
  intro p e R s m below meth c hx hn hm hc hlk hK hR hcap hS hU hfr hlo hrc hrs
  obtain ⟨hb, hml, hrt, hex, hown⟩ := fx_of hn hm hc (hK.w mfM_run.2.2.1 rfl #[])
  have F : FX p s m meth c G R M d "HeadCountModel" bM_run 8 (some .boolean) := ⟨hx, hb, hml, hown, hrt, hlk, hex, hK, hfr, hlo, by rw [← hcap]; exact hrc, hrs⟩
  rw [hml]
  have hl := lv_entry ([.ref a0, .int x1, .int x2]) (n := 8) (by simp [lg_sl, cat_rf, Value.category])
  rw [lg_entry_eq]
  generalize (lg_sl ([.ref a0, .int x1, .int x2]) ++ List.replicate (8 - (lg_sl ([.ref a0, .int x1, .int x2])).length) Slot.unset).toArray = ls at hl ⊢
  have hl : lv_has ls 8 [(0, .ref a0), (1, .int x1), (2, .int x2)] := by simpa [lv_args, cat_rf, Value.category] using hl
  exact tM_run_0 F hC a0 x1 x2 _ _ _ _ _ _ h (RL.start hR hcap hS hU) (lv_sub hl [0, 1, 2] rfl)
def fM_pop_0 (n d : Nat) (C : Cx) (a0 : Nat) (M : Mem) : Rz := if mK M a0 = 5 then (rzM (setI M a0 38 ((mI M a0 38) - 1)) fun M_2 => (rzD (mP M_2 a0 39) fun a_5 => (if mK M_2 a_5 = 21 then (if inA (mI M_2 a0 38) (mL M_2 a_5) then (some (.inl (some (.int (mI M_2 a_5 (mI M_2 a0 38).toNatClampNeg))), M_2)) else none) else none))) else none
set_option maxRecDepth 100000 in
set_option maxHeartbeats 4000000 in
theorem tM_pop_0 {n : Nat} (F : FX p s m meth c G R M0 d "HeadCountModel" bM_pop 1 (some .int)) (hC : CBs l G d C) : ∀ (a0 : Nat) (M : Mem) (H : Heap) (locs : List Loc) (cells slots : Nat) (ls : Array Slot), fM_pop_0 n d C a0 M = some (r, M') → RL G M0 M H locs cells slots → lv_has ls 1 [(0, .ref a0)] → W p l e R s m args below meth c H locs cells slots (CQ G below s M0 r M') (F0 m 0 ls []) := by
  obtain ⟨hx, hb, hml, hown, hrt, hlk, hex, hK, hRm⟩ := id F
  intro a0 M H locs cells slots ls h hR hl
  unfold fM_pop_0 at h
  refine lv_aload_n hx hb dM_pop_0 rfl (lv_at hl 0 rfl) ?_
  refine lv_dup hx hb dM_pop_1 rfl ?_
  obtain ⟨c_1, h⟩ := rz_chk h
  refine rg_getI hx hb hown hK hR hk_M 38 (by decide) kf_M_206 rfl c_1 dM_pop_2 ?_
  refine lv_iconst (v := 1) hx hb dM_pop_5 (by decide) ?_
  refine lv_isub hx hb dM_pop_6 ?_
  obtain ⟨M_2, q_3, h⟩ := rz_m h
  refine rg_putI hx hb hown hK hR hk_M 38 (by decide) kf_M_206 rfl rfl (ty := .int) (by decide +kernel) (Or.inl rfl) rfl c_1 dM_pop_7 (fun H locs hR => ?_)
  rw [← q_3] at hR
  have c_4 : mK M_2 a0 = 5 := by rw [q_3]; exact c_1
  refine lv_aload_n hx hb dM_pop_10 rfl (lv_at hl 0 rfl) ?_
  refine rg_getP hx hb hown hK hR hk_M 39 (by decide) kf_M_57 rfl c_4 dM_pop_11 ?_
  refine lv_aload_n hx hb dM_pop_14 rfl (lv_at hl 0 rfl) ?_
  refine rg_getI hx hb hown hK hR hk_M 38 (by decide) kf_M_206 rfl c_4 dM_pop_15 ?_
  obtain ⟨a_5, e_6, h⟩ := rz_d h
  rw [e_6]
  obtain ⟨c_7, h⟩ := rz_chk h
  obtain ⟨c_8, h⟩ := rz_chk h
  refine rg_iald hx hb hK hR c_7 c_8 dM_pop_18 ?_
  cases h
  exact rt_i hx hb hlk hrt (Or.inl rfl) rfl hR dM_pop_19
set_option maxRecDepth 100000 in
set_option maxHeartbeats 4000000 in
theorem sM_pop {l : Launch} {G : Gx} {n d : Nat} {C : Cx} (hC : CBs l G d C) (a0 : Nat) {M M' : Mem} {r : Option Value ⊕ Nat} (h : fM_pop_0 n d C a0 M = some (r, M')) : CB l G (d + 1) yM_pop [.ref a0] M r M' := by
  intro p e R s m below meth c hx hn hm hc hlk hK hR hcap hS hU hfr hlo hrc hrs
  obtain ⟨hb, hml, hrt, hex, hown⟩ := fx_of hn hm hc (hK.w mfM_pop.2.2.1 rfl #[])
  have F : FX p s m meth c G R M d "HeadCountModel" bM_pop 1 (some .int) := ⟨hx, hb, hml, hown, hrt, hlk, hex, hK, hfr, hlo, by rw [← hcap]; exact hrc, hrs⟩
  rw [hml]
  have hl := lv_entry ([.ref a0]) (n := 1) (by simp [lg_sl, cat_rf, Value.category])
  rw [lg_entry_eq]
  generalize (lg_sl ([.ref a0]) ++ List.replicate (1 - (lg_sl ([.ref a0])).length) Slot.unset).toArray = ls at hl ⊢
  have hl : lv_has ls 1 [(0, .ref a0)] := by simpa [lv_args, cat_rf, Value.category] using hl
  exact tM_pop_0 F hC a0 _ _ _ _ _ _ h (RL.start hR hcap hS hU) (lv_sub hl [0] rfl)
def fM_ends_92 (n d : Nat) (C : Cx) (xs0 : Int32) (as1 : Nat) (M : Mem) : Rz := if mK M as1 = 5 then (rzC (C 100 [.ref as1, .int xs0] M) fun v_2 M_3 => (rzV v_2 (if fits .boolean (.int 1) = true then (some (.inl (some (.int 1)), M_3)) else none))) else none
set_option maxRecDepth 100000 in
set_option maxHeartbeats 4000000 in
theorem tM_ends_92 {n : Nat} (F : FX p s m meth c G R M0 d "HeadCountModel" bM_ends 5 (some .boolean)) (hC : CBs l G d C) : ∀ (xs0 : Int32) (as1 : Nat) (M : Mem) (H : Heap) (locs : List Loc) (cells slots : Nat) (ls : Array Slot), fM_ends_92 n d C xs0 as1 M = some (r, M') → RL G M0 M H locs cells slots → lv_has ls 5 [] → W p l e R s m args below meth c H locs cells slots (CQ G below s M0 r M') (F0 m 92 ls [.int xs0, .ref as1]) := by
  obtain ⟨hx, hb, hml, hown, hrt, hlk, hex, hK, hRm⟩ := id F
  intro xs0 as1 M H locs cells slots ls h hR hl
  unfold fM_ends_92 at h
  obtain ⟨c_1, h⟩ := rz_chk h
  obtain ⟨q_5, M_3, h_4, h⟩ := rz_c h
  refine rc_V (rest := []) (As := [.int xs0]) hx hb (hl.1.trans hml.symm) hown hK hR hRm mfM_put kl_M_219 hk_M rfl rfl c_1 (by simp [cat_rf, Value.category]) (hC 100 _ _ _ _ h_4) dM_ends_92 (fun v1 H locs cells slots ev hR => ?_) (fun x1 q1 ce1 H locs cells slots ex hR g1 g2 g3 => ?_)
  · rcases h with ⟨v_2, ev2, h⟩ | ⟨e2, ee2, -⟩
    · cases ev.symm.trans ev2
      replace h := rz_v h
      obtain ⟨rfl, h⟩ := h
      dsimp only [Option.toList, List.cons_append, List.nil_append]
      refine lv_iconst (v := 1) hx hb dM_ends_95 (by decide) ?_
      obtain ⟨c_6, h⟩ := rz_chk h
      cases h
      exact rt_i hx hb hlk hrt (Or.inr (Or.inr rfl)) c_6 hR dM_ends_96
    · cases ev.symm.trans ee2
  · rcases h with ⟨v2, ev2, -⟩ | ⟨e2, ee2, h⟩
    · cases ex.symm.trans ev2
    · cases ex.symm.trans ee2
      cases h
      exact rt_x hlk hex hR g1 g2 g3
def fM_ends_68 (n d : Nat) (C : Cx) (a0 : Nat) (x1 : Int32) (x2 : Int32) (x4 : Int32) (M : Mem) : Rz := if x4 = 0 then (if mK M a0 = 5 then (rzD (mP M a0 8) fun a_3 => (if mK M a_3 = 23 then (if inA x1 (mL M a_3) then (if (mI M a_3 x1.toNatClampNeg) = 0 then (fM_ends_92 n d C 0 a0 M) else (fM_ends_92 n d C 1 a0 M)) else none) else none)) else none) else (fM_ends_92 n d C x2 a0 M)
set_option maxRecDepth 100000 in
set_option maxHeartbeats 4000000 in
theorem tM_ends_68 {n : Nat} (F : FX p s m meth c G R M0 d "HeadCountModel" bM_ends 5 (some .boolean)) (hC : CBs l G d C) : ∀ (a0 : Nat) (x1 : Int32) (x2 : Int32) (x4 : Int32) (M : Mem) (H : Heap) (locs : List Loc) (cells slots : Nat) (ls : Array Slot), fM_ends_68 n d C a0 x1 x2 x4 M = some (r, M') → RL G M0 M H locs cells slots → lv_has ls 5 [(0, .ref a0), (1, .int x1), (2, .int x2), (4, .int x4)] → W p l e R s m args below meth c H locs cells slots (CQ G below s M0 r M') (F0 m 68 ls []) := by
  obtain ⟨hx, hb, hml, hown, hrt, hlk, hex, hK, hRm⟩ := id F
  intro a0 x1 x2 x4 M H locs cells slots ls h hR hl
  unfold fM_ends_68 at h
  refine lv_aload_n hx hb dM_ends_68 rfl (lv_at hl 0 rfl) ?_
  refine lv_iload hx hb dM_ends_69 (lv_at hl 3 rfl) ?_
  refine lv_if_eq (tgt := 78) hx hb dM_ends_71 (by decide) (fun c_1 => ?_) (fun c_1 => ?_)
  · replace h := rz_t c_1 h
    refine lv_aload_n hx hb dM_ends_78 rfl (lv_at hl 0 rfl) ?_
    obtain ⟨c_2, h⟩ := rz_chk h
    refine rg_getP hx hb hown hK hR hk_M 8 (by decide) kf_M_20 rfl c_2 dM_ends_79 ?_
    refine lv_iload_n hx hb dM_ends_82 rfl (lv_at hl 1 rfl) ?_
    obtain ⟨a_3, e_4, h⟩ := rz_d h
    rw [e_4]
    obtain ⟨c_5, h⟩ := rz_chk h
    obtain ⟨c_6, h⟩ := rz_chk h
    refine rg_zald hx hb hK hR c_5 c_6 dM_ends_83 ?_
    refine lv_if_eq (tgt := 91) hx hb dM_ends_84 (by decide) (fun c_7 => ?_) (fun c_7 => ?_)
    · replace h := rz_t c_7 h
      refine lv_iconst (v := 0) hx hb dM_ends_91 (by decide) ?_
      exact tM_ends_92 F hC 0 a0 _ _ _ _ _ _ h hR (lv_sub hl [] rfl)
    · replace h := rz_f c_7 h
      refine lv_iconst (v := 1) hx hb dM_ends_87 (by decide) ?_
      refine lv_goto (tgt := 92) hx hb dM_ends_88 (by decide) ?_
      exact tM_ends_92 F hC 1 a0 _ _ _ _ _ _ h hR (lv_sub hl [] rfl)
  · replace h := rz_f c_1 h
    refine lv_iload_n hx hb dM_ends_74 rfl (lv_at hl 2 rfl) ?_
    refine lv_goto (tgt := 92) hx hb dM_ends_75 (by decide) ?_
    exact tM_ends_92 F hC x2 a0 _ _ _ _ _ _ h hR (lv_sub hl [] rfl)
def fM_ends_45 (n d : Nat) (C : Cx) (a0 : Nat) (x1 : Int32) (x2 : Int32) (xs0 : Int32) (M : Mem) : Rz := if xs0 = 0 then (if mK M a0 = 5 then (rzD (mP M a0 36) fun a_3 => (if mK M a_3 = 21 then (if inA x1 (mL M a_3) then (rzC (C 99 [.ref a0, .int x1] M) fun v_7 M_8 => (rzI v_7 fun x_11 => (if x_11 ≤ (mI M a_3 x1.toNatClampNeg) then (fM_ends_68 n d C a0 x1 x2 xs0 M_8) else (if fits .boolean (.int 0) = true then (some (.inl (some (.int 0)), M_8)) else none)))) else none) else none)) else none) else (fM_ends_68 n d C a0 x1 x2 xs0 M)
set_option maxRecDepth 100000 in
set_option maxHeartbeats 4000000 in
theorem tM_ends_45 {n : Nat} (F : FX p s m meth c G R M0 d "HeadCountModel" bM_ends 5 (some .boolean)) (hC : CBs l G d C) : ∀ (a0 : Nat) (x1 : Int32) (x2 : Int32) (xs0 : Int32) (M : Mem) (H : Heap) (locs : List Loc) (cells slots : Nat) (ls : Array Slot), fM_ends_45 n d C a0 x1 x2 xs0 M = some (r, M') → RL G M0 M H locs cells slots → lv_has ls 5 [(0, .ref a0), (1, .int x1), (2, .int x2)] → W p l e R s m args below meth c H locs cells slots (CQ G below s M0 r M') (F0 m 45 ls [.int xs0]) := by
  obtain ⟨hx, hb, hml, hown, hrt, hlk, hex, hK, hRm⟩ := id F
  intro a0 x1 x2 xs0 M H locs cells slots ls h hR hl
  unfold fM_ends_45 at h
  refine lv_istore (lv' := [(4, .int xs0), (0, .ref a0), (1, .int x1), (2, .int x2)]) hx hb dM_ends_45 hl (by decide) rfl (fun ls hl => ?_)
  refine lv_iload hx hb dM_ends_47 (lv_at hl 0 rfl) ?_
  refine lv_if_ne (tgt := 68) hx hb dM_ends_49 (by decide) (fun c_1 => ?_) (fun c_1 => ?_)
  · replace h := rz_f c_1 h
    exact tM_ends_68 F hC a0 x1 x2 xs0 _ _ _ _ _ _ h hR (lv_sub hl [1, 2, 3, 0] rfl)
  · replace h := rz_t c_1 h
    refine lv_aload_n hx hb dM_ends_52 rfl (lv_at hl 1 rfl) ?_
    obtain ⟨c_2, h⟩ := rz_chk h
    refine rg_getP hx hb hown hK hR hk_M 36 (by decide) kf_M_51 rfl c_2 dM_ends_53 ?_
    refine lv_iload_n hx hb dM_ends_56 rfl (lv_at hl 2 rfl) ?_
    obtain ⟨a_3, e_4, h⟩ := rz_d h
    rw [e_4]
    obtain ⟨c_5, h⟩ := rz_chk h
    obtain ⟨c_6, h⟩ := rz_chk h
    refine rg_iald hx hb hK hR c_5 c_6 dM_ends_57 ?_
    refine lv_aload_n hx hb dM_ends_58 rfl (lv_at hl 1 rfl) ?_
    refine lv_iload_n hx hb dM_ends_59 rfl (lv_at hl 2 rfl) ?_
    obtain ⟨q_10, M_8, h_9, h⟩ := rz_c h
    refine rc_V (rest := [.int (mI M a_3 x1.toNatClampNeg)]) (As := [.int x1]) hx hb (hl.1.trans hml.symm) hown hK hR hRm mfM_lastOf kl_M_225 hk_M rfl rfl c_2 (by simp [cat_rf, Value.category]) (hC 99 _ _ _ _ h_9) dM_ends_60 (fun v1 H locs cells slots ev hR => ?_) (fun x1 q1 ce1 H locs cells slots ex hR g1 g2 g3 => ?_)
    · rcases h with ⟨v_7, ev2, h⟩ | ⟨e2, ee2, -⟩
      · cases ev.symm.trans ev2
        replace h := rz_i h
        obtain ⟨x_11, rfl, h⟩ := h
        dsimp only [Option.toList, List.cons_append, List.nil_append]
        refine lv_icmp_ge (tgt := 68) hx hb dM_ends_63 (by decide) (fun c_12 => ?_) (fun c_12 => ?_)
        · replace h := rz_t c_12 h
          exact tM_ends_68 F hC a0 x1 x2 xs0 _ _ _ _ _ _ h hR (lv_sub hl [1, 2, 3, 0] rfl)
        · replace h := rz_f c_12 h
          refine lv_iconst (v := 0) hx hb dM_ends_66 (by decide) ?_
          obtain ⟨c_13, h⟩ := rz_chk h
          cases h
          exact rt_i hx hb hlk hrt (Or.inr (Or.inr rfl)) c_13 hR dM_ends_67
      · cases ev.symm.trans ee2
    · rcases h with ⟨v2, ev2, -⟩ | ⟨e2, ee2, h⟩
      · cases ex.symm.trans ev2
      · cases ex.symm.trans ee2
        cases h
        exact rt_x hlk hex hR g1 g2 g3
def fM_ends_44 (n d : Nat) (C : Cx) (a0 : Nat) (x1 : Int32) (x2 : Int32) (M : Mem) : Rz := fM_ends_45 n d C a0 x1 x2 0 M
set_option maxRecDepth 100000 in
set_option maxHeartbeats 4000000 in
theorem tM_ends_44 {n : Nat} (F : FX p s m meth c G R M0 d "HeadCountModel" bM_ends 5 (some .boolean)) (hC : CBs l G d C) : ∀ (a0 : Nat) (x1 : Int32) (x2 : Int32) (M : Mem) (H : Heap) (locs : List Loc) (cells slots : Nat) (ls : Array Slot), fM_ends_44 n d C a0 x1 x2 M = some (r, M') → RL G M0 M H locs cells slots → lv_has ls 5 [(0, .ref a0), (1, .int x1), (2, .int x2)] → W p l e R s m args below meth c H locs cells slots (CQ G below s M0 r M') (F0 m 44 ls []) := by
  obtain ⟨hx, hb, hml, hown, hrt, hlk, hex, hK, hRm⟩ := id F
  intro a0 x1 x2 M H locs cells slots ls h hR hl
  unfold fM_ends_44 at h
  refine lv_iconst (v := 0) hx hb dM_ends_44 (by decide) ?_
  exact tM_ends_45 F hC a0 x1 x2 0 _ _ _ _ _ _ h hR (lv_sub hl [0, 1, 2] rfl)
def fM_ends_37 (n d : Nat) (C : Cx) (a0 : Nat) (x1 : Int32) (x2 : Int32) (xs0 : Int32) (xs1 : Int32) (M : Mem) : Rz := if xs1 = xs0 then (fM_ends_45 n d C a0 x1 x2 1 M) else (fM_ends_44 n d C a0 x1 x2 M)
set_option maxRecDepth 100000 in
set_option maxHeartbeats 4000000 in
theorem tM_ends_37 {n : Nat} (F : FX p s m meth c G R M0 d "HeadCountModel" bM_ends 5 (some .boolean)) (hC : CBs l G d C) : ∀ (a0 : Nat) (x1 : Int32) (x2 : Int32) (xs0 : Int32) (xs1 : Int32) (M : Mem) (H : Heap) (locs : List Loc) (cells slots : Nat) (ls : Array Slot), fM_ends_37 n d C a0 x1 x2 xs0 xs1 M = some (r, M') → RL G M0 M H locs cells slots → lv_has ls 5 [(0, .ref a0), (1, .int x1), (2, .int x2)] → W p l e R s m args below meth c H locs cells slots (CQ G below s M0 r M') (F0 m 37 ls [.int xs0, .int xs1]) := by
  obtain ⟨hx, hb, hml, hown, hrt, hlk, hex, hK, hRm⟩ := id F
  intro a0 x1 x2 xs0 xs1 M H locs cells slots ls h hR hl
  unfold fM_ends_37 at h
  refine lv_icmp_ne (tgt := 44) hx hb dM_ends_37 (by decide) (fun c_1 => ?_) (fun c_1 => ?_)
  · replace h := rz_f c_1 h
    exact tM_ends_44 F hC a0 x1 x2 _ _ _ _ _ _ h hR (lv_sub hl [0, 1, 2] rfl)
  · replace h := rz_t c_1 h
    refine lv_iconst (v := 1) hx hb dM_ends_40 (by decide) ?_
    refine lv_goto (tgt := 45) hx hb dM_ends_41 (by decide) ?_
    exact tM_ends_45 F hC a0 x1 x2 1 _ _ _ _ _ _ h hR (lv_sub hl [0, 1, 2] rfl)
def fM_ends_14 (n d : Nat) (C : Cx) (a0 : Nat) (x1 : Int32) (x2 : Int32) (x3 : Int32) (xs0 : Int32) (xs1 : Int32) (as2 : Nat) (M : Mem) : Rz := if mK M as2 = 5 then (rzM (setI M as2 40 (xs1 + xs0)) fun M_2 => (if x3 = 0 then (if mK M_2 a0 = 5 then (rzD (mP M_2 a0 8) fun a_7 => (if mK M_2 a_7 = 23 then (if inA x1 (mL M_2 a_7) then (if (mI M_2 a_7 x1.toNatClampNeg) = 0 then (fM_ends_37 n d C a0 x1 x2 1 x2 M_2) else (fM_ends_37 n d C a0 x1 x2 0 x2 M_2)) else none) else none)) else none) else (fM_ends_44 n d C a0 x1 x2 M_2))) else none
set_option maxRecDepth 100000 in
set_option maxHeartbeats 4000000 in
theorem tM_ends_14 {n : Nat} (F : FX p s m meth c G R M0 d "HeadCountModel" bM_ends 5 (some .boolean)) (hC : CBs l G d C) : ∀ (a0 : Nat) (x1 : Int32) (x2 : Int32) (x3 : Int32) (xs0 : Int32) (xs1 : Int32) (as2 : Nat) (M : Mem) (H : Heap) (locs : List Loc) (cells slots : Nat) (ls : Array Slot), fM_ends_14 n d C a0 x1 x2 x3 xs0 xs1 as2 M = some (r, M') → RL G M0 M H locs cells slots → lv_has ls 5 [(0, .ref a0), (1, .int x1), (2, .int x2), (3, .int x3)] → W p l e R s m args below meth c H locs cells slots (CQ G below s M0 r M') (F0 m 14 ls [.int xs0, .int xs1, .ref as2]) := by
  obtain ⟨hx, hb, hml, hown, hrt, hlk, hex, hK, hRm⟩ := id F
  intro a0 x1 x2 x3 xs0 xs1 as2 M H locs cells slots ls h hR hl
  unfold fM_ends_14 at h
  refine lv_iadd hx hb dM_ends_14 ?_
  obtain ⟨c_1, h⟩ := rz_chk h
  obtain ⟨M_2, q_3, h⟩ := rz_m h
  refine rg_putI hx hb hown hK hR hk_M 40 (by decide) kf_M_222 rfl rfl (ty := .int) (by decide +kernel) (Or.inl rfl) rfl c_1 dM_ends_15 (fun H locs hR => ?_)
  rw [← q_3] at hR
  have c_4 : mK M_2 as2 = 5 := by rw [q_3]; exact c_1
  refine lv_iload_n hx hb dM_ends_18 rfl (lv_at hl 3 rfl) ?_
  refine lv_if_ne (tgt := 44) hx hb dM_ends_19 (by decide) (fun c_5 => ?_) (fun c_5 => ?_)
  · replace h := rz_f c_5 h
    exact tM_ends_44 F hC a0 x1 x2 _ _ _ _ _ _ h hR (lv_sub hl [0, 1, 2] rfl)
  · replace h := rz_t c_5 h
    refine lv_iload_n hx hb dM_ends_22 rfl (lv_at hl 2 rfl) ?_
    refine lv_aload_n hx hb dM_ends_23 rfl (lv_at hl 0 rfl) ?_
    obtain ⟨c_6, h⟩ := rz_chk h
    refine rg_getP hx hb hown hK hR hk_M 8 (by decide) kf_M_20 rfl c_6 dM_ends_24 ?_
    refine lv_iload_n hx hb dM_ends_27 rfl (lv_at hl 1 rfl) ?_
    obtain ⟨a_7, e_8, h⟩ := rz_d h
    rw [e_8]
    obtain ⟨c_9, h⟩ := rz_chk h
    obtain ⟨c_10, h⟩ := rz_chk h
    refine rg_zald hx hb hK hR c_9 c_10 dM_ends_28 ?_
    refine lv_if_eq (tgt := 36) hx hb dM_ends_29 (by decide) (fun c_11 => ?_) (fun c_11 => ?_)
    · replace h := rz_t c_11 h
      refine lv_iconst (v := 1) hx hb dM_ends_36 (by decide) ?_
      exact tM_ends_37 F hC a0 x1 x2 1 x2 _ _ _ _ _ _ h hR (lv_sub hl [0, 1, 2] rfl)
    · replace h := rz_f c_11 h
      refine lv_iconst (v := 0) hx hb dM_ends_32 (by decide) ?_
      refine lv_goto (tgt := 37) hx hb dM_ends_33 (by decide) ?_
      exact tM_ends_37 F hC a0 x1 x2 0 x2 _ _ _ _ _ _ h hR (lv_sub hl [0, 1, 2] rfl)
def fM_ends_0 (n d : Nat) (C : Cx) (a0 : Nat) (x1 : Int32) (x2 : Int32) (x3 : Int32) (M : Mem) : Rz := if mK M a0 = 5 then (if x3 = 0 then (fM_ends_14 n d C a0 x1 x2 x3 0 (mI M a0 40) a0 M) else (fM_ends_14 n d C a0 x1 x2 x3 x2 (mI M a0 40) a0 M)) else none
set_option maxRecDepth 100000 in
set_option maxHeartbeats 4000000 in
theorem tM_ends_0 {n : Nat} (F : FX p s m meth c G R M0 d "HeadCountModel" bM_ends 5 (some .boolean)) (hC : CBs l G d C) : ∀ (a0 : Nat) (x1 : Int32) (x2 : Int32) (x3 : Int32) (M : Mem) (H : Heap) (locs : List Loc) (cells slots : Nat) (ls : Array Slot), fM_ends_0 n d C a0 x1 x2 x3 M = some (r, M') → RL G M0 M H locs cells slots → lv_has ls 5 [(0, .ref a0), (1, .int x1), (2, .int x2), (3, .int x3)] → W p l e R s m args below meth c H locs cells slots (CQ G below s M0 r M') (F0 m 0 ls []) := by
  obtain ⟨hx, hb, hml, hown, hrt, hlk, hex, hK, hRm⟩ := id F
  intro a0 x1 x2 x3 M H locs cells slots ls h hR hl
  unfold fM_ends_0 at h
  refine lv_aload_n hx hb dM_ends_0 rfl (lv_at hl 0 rfl) ?_
  refine lv_dup hx hb dM_ends_1 rfl ?_
  obtain ⟨c_1, h⟩ := rz_chk h
  refine rg_getI hx hb hown hK hR hk_M 40 (by decide) kf_M_222 rfl c_1 dM_ends_2 ?_
  refine lv_iload_n hx hb dM_ends_5 rfl (lv_at hl 3 rfl) ?_
  refine lv_if_eq (tgt := 13) hx hb dM_ends_6 (by decide) (fun c_2 => ?_) (fun c_2 => ?_)
  · replace h := rz_t c_2 h
    refine lv_iconst (v := 0) hx hb dM_ends_13 (by decide) ?_
    exact tM_ends_14 F hC a0 x1 x2 x3 0 (mI M a0 40) a0 _ _ _ _ _ _ h hR (lv_sub hl [0, 1, 2, 3] rfl)
  · replace h := rz_f c_2 h
    refine lv_iload_n hx hb dM_ends_9 rfl (lv_at hl 2 rfl) ?_
    refine lv_goto (tgt := 14) hx hb dM_ends_10 (by decide) ?_
    exact tM_ends_14 F hC a0 x1 x2 x3 x2 (mI M a0 40) a0 _ _ _ _ _ _ h hR (lv_sub hl [0, 1, 2, 3] rfl)
set_option maxRecDepth 100000 in
set_option maxHeartbeats 4000000 in
theorem sM_ends {l : Launch} {G : Gx} {n d : Nat} {C : Cx} (hC : CBs l G d C) (a0 : Nat) (x1 : Int32) (x2 : Int32) (x3 : Int32) {M M' : Mem} {r : Option Value ⊕ Nat} (h : fM_ends_0 n d C a0 x1 x2 x3 M = some (r, M')) : CB l G (d + 1) yM_ends [.ref a0, .int x1, .int x2, .int x3] M r M' := by
  intro p e R s m below meth c hx hn hm hc hlk hK hR hcap hS hU hfr hlo hrc hrs
  obtain ⟨hb, hml, hrt, hex, hown⟩ := fx_of hn hm hc (hK.w mfM_ends.2.2.1 rfl #[])
  have F : FX p s m meth c G R M d "HeadCountModel" bM_ends 5 (some .boolean) := ⟨hx, hb, hml, hown, hrt, hlk, hex, hK, hfr, hlo, by rw [← hcap]; exact hrc, hrs⟩
  rw [hml]
  have hl := lv_entry ([.ref a0, .int x1, .int x2, .int x3]) (n := 5) (by simp [lg_sl, cat_rf, Value.category])
  rw [lg_entry_eq]
  generalize (lg_sl ([.ref a0, .int x1, .int x2, .int x3]) ++ List.replicate (5 - (lg_sl ([.ref a0, .int x1, .int x2, .int x3])).length) Slot.unset).toArray = ls at hl ⊢
  have hl : lv_has ls 5 [(0, .ref a0), (1, .int x1), (2, .int x2), (3, .int x3)] := by simpa [lv_args, cat_rf, Value.category] using hl
  exact tM_ends_0 F hC a0 x1 x2 x3 _ _ _ _ _ _ h (RL.start hR hcap hS hU) (lv_sub hl [0, 1, 2, 3] rfl)
def fM_lastOf_22 (n d : Nat) (C : Cx) (xs0 : Int32) (M : Mem) : Rz := some (.inl (some (.int xs0)), M)
set_option maxRecDepth 100000 in
set_option maxHeartbeats 4000000 in
theorem tM_lastOf_22 {n : Nat} (F : FX p s m meth c G R M0 d "HeadCountModel" bM_lastOf 2 (some .int)) (hC : CBs l G d C) : ∀ (xs0 : Int32) (M : Mem) (H : Heap) (locs : List Loc) (cells slots : Nat) (ls : Array Slot), fM_lastOf_22 n d C xs0 M = some (r, M') → RL G M0 M H locs cells slots → lv_has ls 2 [] → W p l e R s m args below meth c H locs cells slots (CQ G below s M0 r M') (F0 m 22 ls [.int xs0]) := by
  obtain ⟨hx, hb, hml, hown, hrt, hlk, hex, hK, hRm⟩ := id F
  intro xs0 M H locs cells slots ls h hR hl
  unfold fM_lastOf_22 at h
  cases h
  exact rt_i hx hb hlk hrt (Or.inl rfl) rfl hR dM_lastOf_22
def fM_lastOf_0 (n d : Nat) (C : Cx) (a0 : Nat) (x1 : Int32) (M : Mem) : Rz := if mK M a0 = 5 then (rzD (mP M a0 9) fun a_2 => (if mK M a_2 = 23 then (if inA x1 (mL M a_2) then (if (mI M a_2 x1.toNatClampNeg) = 0 then (fM_lastOf_22 n d C 8 M) else (fM_lastOf_22 n d C ((1 <<< ((mI M a0 35) &&& 31)) - 1) M)) else none) else none)) else none
set_option maxRecDepth 100000 in
set_option maxHeartbeats 4000000 in
theorem tM_lastOf_0 {n : Nat} (F : FX p s m meth c G R M0 d "HeadCountModel" bM_lastOf 2 (some .int)) (hC : CBs l G d C) : ∀ (a0 : Nat) (x1 : Int32) (M : Mem) (H : Heap) (locs : List Loc) (cells slots : Nat) (ls : Array Slot), fM_lastOf_0 n d C a0 x1 M = some (r, M') → RL G M0 M H locs cells slots → lv_has ls 2 [(0, .ref a0), (1, .int x1)] → W p l e R s m args below meth c H locs cells slots (CQ G below s M0 r M') (F0 m 0 ls []) := by
  obtain ⟨hx, hb, hml, hown, hrt, hlk, hex, hK, hRm⟩ := id F
  intro a0 x1 M H locs cells slots ls h hR hl
  unfold fM_lastOf_0 at h
  refine lv_aload_n hx hb dM_lastOf_0 rfl (lv_at hl 0 rfl) ?_
  obtain ⟨c_1, h⟩ := rz_chk h
  refine rg_getP hx hb hown hK hR hk_M 9 (by decide) kf_M_24 rfl c_1 dM_lastOf_1 ?_
  refine lv_iload_n hx hb dM_lastOf_4 rfl (lv_at hl 1 rfl) ?_
  obtain ⟨a_2, e_3, h⟩ := rz_d h
  rw [e_3]
  obtain ⟨c_4, h⟩ := rz_chk h
  obtain ⟨c_5, h⟩ := rz_chk h
  refine rg_zald hx hb hK hR c_4 c_5 dM_lastOf_5 ?_
  refine lv_if_eq (tgt := 20) hx hb dM_lastOf_6 (by decide) (fun c_6 => ?_) (fun c_6 => ?_)
  · replace h := rz_t c_6 h
    refine lv_bipush (v := 8) hx hb dM_lastOf_20 (by decide) ?_
    exact tM_lastOf_22 F hC 8 _ _ _ _ _ _ h hR (lv_sub hl [] rfl)
  · replace h := rz_f c_6 h
    refine lv_iconst (v := 1) hx hb dM_lastOf_9 (by decide) ?_
    refine lv_aload_n hx hb dM_lastOf_10 rfl (lv_at hl 0 rfl) ?_
    refine rg_getI hx hb hown hK hR hk_M 35 (by decide) kf_M_216 rfl c_1 dM_lastOf_11 ?_
    refine lv_ishl hx hb dM_lastOf_14 ?_
    refine lv_iconst (v := 1) hx hb dM_lastOf_15 (by decide) ?_
    refine lv_isub hx hb dM_lastOf_16 ?_
    refine lv_goto (tgt := 22) hx hb dM_lastOf_17 (by decide) ?_
    exact tM_lastOf_22 F hC ((1 <<< ((mI M a0 35) &&& 31)) - 1) _ _ _ _ _ _ h hR (lv_sub hl [] rfl)
set_option maxRecDepth 100000 in
set_option maxHeartbeats 4000000 in
theorem sM_lastOf {l : Launch} {G : Gx} {n d : Nat} {C : Cx} (hC : CBs l G d C) (a0 : Nat) (x1 : Int32) {M M' : Mem} {r : Option Value ⊕ Nat} (h : fM_lastOf_0 n d C a0 x1 M = some (r, M')) : CB l G (d + 1) yM_lastOf [.ref a0, .int x1] M r M' := by
  intro p e R s m below meth c hx hn hm hc hlk hK hR hcap hS hU hfr hlo hrc hrs
  obtain ⟨hb, hml, hrt, hex, hown⟩ := fx_of hn hm hc (hK.w mfM_lastOf.2.2.1 rfl #[])
  have F : FX p s m meth c G R M d "HeadCountModel" bM_lastOf 2 (some .int) := ⟨hx, hb, hml, hown, hrt, hlk, hex, hK, hfr, hlo, by rw [← hcap]; exact hrc, hrs⟩
  rw [hml]
  have hl := lv_entry ([.ref a0, .int x1]) (n := 2) (by simp [lg_sl, cat_rf, Value.category])
  rw [lg_entry_eq]
  generalize (lg_sl ([.ref a0, .int x1]) ++ List.replicate (2 - (lg_sl ([.ref a0, .int x1])).length) Slot.unset).toArray = ls at hl ⊢
  have hl : lv_has ls 2 [(0, .ref a0), (1, .int x1)] := by simpa [lv_args, cat_rf, Value.category] using hl
  exact tM_lastOf_0 F hC a0 x1 _ _ _ _ _ _ h (RL.start hR hcap hS hU) (lv_sub hl [0, 1] rfl)
def fM_put_0 (n d : Nat) (C : Cx) (a0 : Nat) (x1 : Int32) (M : Mem) : Rz := if mK M a0 = 5 then (rzD (mP M a0 39) fun a_2 => (if mK M a_2 = 21 then (if inA (mI M a0 38) (mL M a_2) then (rzM (setI M a_2 (mI M a0 38).toNatClampNeg x1) fun M_6 => (rzM (setI M_6 a0 38 ((mI M_6 a0 38) + 1)) fun M_10 => (some (.inl none, M_10)))) else none) else none)) else none
set_option maxRecDepth 100000 in
set_option maxHeartbeats 4000000 in
theorem tM_put_0 {n : Nat} (F : FX p s m meth c G R M0 d "HeadCountModel" bM_put 2 none) (hC : CBs l G d C) : ∀ (a0 : Nat) (x1 : Int32) (M : Mem) (H : Heap) (locs : List Loc) (cells slots : Nat) (ls : Array Slot), fM_put_0 n d C a0 x1 M = some (r, M') → RL G M0 M H locs cells slots → lv_has ls 2 [(0, .ref a0), (1, .int x1)] → W p l e R s m args below meth c H locs cells slots (CQ G below s M0 r M') (F0 m 0 ls []) := by
  obtain ⟨hx, hb, hml, hown, hrt, hlk, hex, hK, hRm⟩ := id F
  intro a0 x1 M H locs cells slots ls h hR hl
  unfold fM_put_0 at h
  refine lv_aload_n hx hb dM_put_0 rfl (lv_at hl 0 rfl) ?_
  obtain ⟨c_1, h⟩ := rz_chk h
  refine rg_getP hx hb hown hK hR hk_M 39 (by decide) kf_M_57 rfl c_1 dM_put_1 ?_
  refine lv_aload_n hx hb dM_put_4 rfl (lv_at hl 0 rfl) ?_
  refine rg_getI hx hb hown hK hR hk_M 38 (by decide) kf_M_206 rfl c_1 dM_put_5 ?_
  refine lv_iload_n hx hb dM_put_8 rfl (lv_at hl 1 rfl) ?_
  obtain ⟨a_2, e_3, h⟩ := rz_d h
  rw [e_3]
  obtain ⟨c_4, h⟩ := rz_chk h
  obtain ⟨c_5, h⟩ := rz_chk h
  obtain ⟨M_6, q_7, h⟩ := rz_m h
  refine rg_iast hx hb hK hR c_4 c_5 dM_put_9 (fun H locs hR => ?_)
  rw [← q_7] at hR
  have c_8 : mK M_6 a0 = 5 := by rw [q_7]; exact c_1
  have c_9 : mK M_6 a_2 = 21 := by rw [q_7]; exact c_4
  refine lv_aload_n hx hb dM_put_10 rfl (lv_at hl 0 rfl) ?_
  refine lv_dup hx hb dM_put_11 rfl ?_
  refine rg_getI hx hb hown hK hR hk_M 38 (by decide) kf_M_206 rfl c_8 dM_put_12 ?_
  refine lv_iconst (v := 1) hx hb dM_put_15 (by decide) ?_
  refine lv_iadd hx hb dM_put_16 ?_
  obtain ⟨M_10, q_11, h⟩ := rz_m h
  refine rg_putI hx hb hown hK hR hk_M 38 (by decide) kf_M_206 rfl rfl (ty := .int) (by decide +kernel) (Or.inl rfl) rfl c_8 dM_put_17 (fun H locs hR => ?_)
  rw [← q_11] at hR
  have c_12 : mK M_10 a0 = 5 := by rw [q_11]; exact c_8
  have c_13 : mK M_10 a_2 = 21 := by rw [q_11]; exact c_9
  cases h
  exact rt_v hx hb hlk hrt hR dM_put_20
set_option maxRecDepth 100000 in
set_option maxHeartbeats 4000000 in
theorem sM_put {l : Launch} {G : Gx} {n d : Nat} {C : Cx} (hC : CBs l G d C) (a0 : Nat) (x1 : Int32) {M M' : Mem} {r : Option Value ⊕ Nat} (h : fM_put_0 n d C a0 x1 M = some (r, M')) : CB l G (d + 1) yM_put [.ref a0, .int x1] M r M' := by
  intro p e R s m below meth c hx hn hm hc hlk hK hR hcap hS hU hfr hlo hrc hrs
  obtain ⟨hb, hml, hrt, hex, hown⟩ := fx_of hn hm hc (hK.w mfM_put.2.2.1 rfl #[])
  have F : FX p s m meth c G R M d "HeadCountModel" bM_put 2 none := ⟨hx, hb, hml, hown, hrt, hlk, hex, hK, hfr, hlo, by rw [← hcap]; exact hrc, hrs⟩
  rw [hml]
  have hl := lv_entry ([.ref a0, .int x1]) (n := 2) (by simp [lg_sl, cat_rf, Value.category])
  rw [lg_entry_eq]
  generalize (lg_sl ([.ref a0, .int x1]) ++ List.replicate (2 - (lg_sl ([.ref a0, .int x1])).length) Slot.unset).toArray = ls at hl ⊢
  have hl : lv_has ls 2 [(0, .ref a0), (1, .int x1)] := by simpa [lv_args, cat_rf, Value.category] using hl
  exact tM_put_0 F hC a0 x1 _ _ _ _ _ _ h (RL.start hR hcap hS hU) (lv_sub hl [0, 1] rfl)
def fM_doSum_202 (n d : Nat) (C : Cx) (M : Mem) : Rz := some (.inl none, M)
set_option maxRecDepth 100000 in
set_option maxHeartbeats 4000000 in
theorem tM_doSum_202 {n : Nat} (F : FX p s m meth c G R M0 d "HeadCountModel" bM_doSum 4 none) (hC : CBs l G d C) : ∀ (M : Mem) (H : Heap) (locs : List Loc) (cells slots : Nat) (ls : Array Slot), fM_doSum_202 n d C M = some (r, M') → RL G M0 M H locs cells slots → lv_has ls 4 [] → W p l e R s m args below meth c H locs cells slots (CQ G below s M0 r M') (F0 m 202 ls []) := by
  obtain ⟨hx, hb, hml, hown, hrt, hlk, hex, hK, hRm⟩ := id F
  intro M H locs cells slots ls h hR hl
  unfold fM_doSum_202 at h
  cases h
  exact rt_v hx hb hlk hrt hR dM_doSum_202
def fM_doSum_165 (n d : Nat) (C : Cx) (xs0 : Int32) (xs1 : Int32) (rs2 : Option Nat) (M : Mem) : Rz := rzD rs2 fun a_1 => (if mK M a_1 = 21 then (if inA xs1 (mL M a_1) then (rzM (setI M a_1 xs1.toNatClampNeg xs0) fun M_5 => (fM_doSum_202 n d C M_5)) else none) else none)
set_option maxRecDepth 100000 in
set_option maxHeartbeats 4000000 in
theorem tM_doSum_165 {n : Nat} (F : FX p s m meth c G R M0 d "HeadCountModel" bM_doSum 4 none) (hC : CBs l G d C) : ∀ (xs0 : Int32) (xs1 : Int32) (rs2 : Option Nat) (M : Mem) (H : Heap) (locs : List Loc) (cells slots : Nat) (ls : Array Slot), fM_doSum_165 n d C xs0 xs1 rs2 M = some (r, M') → RL G M0 M H locs cells slots → lv_has ls 4 [] → W p l e R s m args below meth c H locs cells slots (CQ G below s M0 r M') (F0 m 165 ls [.int xs0, .int xs1, va_rf rs2]) := by
  obtain ⟨hx, hb, hml, hown, hrt, hlk, hex, hK, hRm⟩ := id F
  intro xs0 xs1 rs2 M H locs cells slots ls h hR hl
  unfold fM_doSum_165 at h
  obtain ⟨a_1, e_2, h⟩ := rz_d h
  rw [e_2]
  obtain ⟨c_3, h⟩ := rz_chk h
  obtain ⟨c_4, h⟩ := rz_chk h
  obtain ⟨M_5, q_6, h⟩ := rz_m h
  refine rg_iast hx hb hK hR c_3 c_4 dM_doSum_165 (fun H locs hR => ?_)
  rw [← q_6] at hR
  have c_7 : mK M_5 a_1 = 21 := by rw [q_6]; exact c_3
  refine lv_goto (tgt := 202) hx hb dM_doSum_166 (by decide) ?_
  exact tM_doSum_202 F hC _ _ _ _ _ _ h hR (lv_sub hl [] rfl)
def fM_doSum_199 (n d : Nat) (C : Cx) (xs0 : Int32) (as1 : Nat) (M : Mem) : Rz := if mK M as1 = 5 then (rzC (C 100 [.ref as1, .int xs0] M) fun v_2 M_3 => (rzV v_2 (fM_doSum_202 n d C M_3))) else none
set_option maxRecDepth 100000 in
set_option maxHeartbeats 4000000 in
theorem tM_doSum_199 {n : Nat} (F : FX p s m meth c G R M0 d "HeadCountModel" bM_doSum 4 none) (hC : CBs l G d C) : ∀ (xs0 : Int32) (as1 : Nat) (M : Mem) (H : Heap) (locs : List Loc) (cells slots : Nat) (ls : Array Slot), fM_doSum_199 n d C xs0 as1 M = some (r, M') → RL G M0 M H locs cells slots → lv_has ls 4 [] → W p l e R s m args below meth c H locs cells slots (CQ G below s M0 r M') (F0 m 199 ls [.int xs0, .ref as1]) := by
  obtain ⟨hx, hb, hml, hown, hrt, hlk, hex, hK, hRm⟩ := id F
  intro xs0 as1 M H locs cells slots ls h hR hl
  unfold fM_doSum_199 at h
  obtain ⟨c_1, h⟩ := rz_chk h
  obtain ⟨q_5, M_3, h_4, h⟩ := rz_c h
  refine rc_V (rest := []) (As := [.int xs0]) hx hb (hl.1.trans hml.symm) hown hK hR hRm mfM_put kl_M_219 hk_M rfl rfl c_1 (by simp [cat_rf, Value.category]) (hC 100 _ _ _ _ h_4) dM_doSum_199 (fun v1 H locs cells slots ev hR => ?_) (fun x1 q1 ce1 H locs cells slots ex hR g1 g2 g3 => ?_)
  · rcases h with ⟨v_2, ev2, h⟩ | ⟨e2, ee2, -⟩
    · cases ev.symm.trans ev2
      replace h := rz_v h
      obtain ⟨rfl, h⟩ := h
      dsimp only [Option.toList, List.cons_append, List.nil_append]
      exact tM_doSum_202 F hC _ _ _ _ _ _ h hR (lv_sub hl [] rfl)
    · cases ev.symm.trans ee2
  · rcases h with ⟨v2, ev2, -⟩ | ⟨e2, ee2, h⟩
    · cases ex.symm.trans ev2
    · cases ex.symm.trans ee2
      cases h
      exact rt_x hlk hex hR g1 g2 g3
def fM_doSum_0 (n d : Nat) (C : Cx) (a0 : Nat) (x1 : Int32) (x2 : Int32) (M : Mem) : Rz := if x1 = 18 then (if mK M a0 = 5 then (rzC (C 97 [.ref a0] M) fun v_57 M_58 => (rzI v_57 fun x_61 => (if mK M_58 a0 = 5 then (rzD (mP M_58 a0 39) fun a_63 => (if mK M_58 a_63 = 21 then (if inA ((mI M_58 a0 38) - 1) (mL M_58 a_63) then (if inA ((mI M_58 a0 38) - 1) (mL M_58 a_63) then (rzM (setI M_58 a_63 ((mI M_58 a0 38) - 1).toNatClampNeg ((mI M_58 a_63 ((mI M_58 a0 38) - 1).toNatClampNeg) + x_61)) fun M_68 => (fM_doSum_202 n d C M_68)) else none) else none) else none)) else none))) else none) else (if x1 = 16 then (if mK M a0 = 5 then (rzD (mP M a0 39) fun a_47 => (if mK M a_47 = 21 then (if inA ((mI M a0 38) - 1) (mL M a_47) then (if inA ((mI M a0 38) - 1) (mL M a_47) then (rzM (setI M a_47 ((mI M a0 38) - 1).toNatClampNeg (x2 * (mI M a_47 ((mI M a0 38) - 1).toNatClampNeg))) fun M_52 => (fM_doSum_202 n d C M_52)) else none) else none) else none)) else none) else (if x1 = 17 then (if mK M a0 = 5 then (rzD (mP M a0 39) fun a_37 => (if mK M a_37 = 21 then (if inA ((mI M a0 38) - 1) (mL M a_37) then (if inA ((mI M a0 38) - 1) (mL M a_37) then (rzM (setI M a_37 ((mI M a0 38) - 1).toNatClampNeg (-(mI M a_37 ((mI M a0 38) - 1).toNatClampNeg))) fun M_42 => (fM_doSum_202 n d C M_42)) else none) else none) else none)) else none) else (if x1 = 11 then (if mK M a0 = 5 then (rzD (mP M a0 39) fun a_22 => (if mK M a_22 = 21 then (if inA ((mI M a0 38) - 1) (mL M a_22) then (rzC (C 102 [.int (mI M a_22 ((mI M a0 38) - 1).toNatClampNeg)] M) fun v_26 M_27 => (rzI v_26 fun x_30 => (if mK M_27 a_22 = 21 then (if inA ((mI M a0 38) - 1) (mL M_27 a_22) then (rzM (setI M_27 a_22 ((mI M a0 38) - 1).toNatClampNeg x_30) fun M_33 => (fM_doSum_202 n d C M_33)) else none) else none))) else none) else none)) else none) else (if x1 = 21 then (if mK M a0 = 5 then (rzD (mP M a0 39) fun a_15 => (if mK M a_15 = 21 then (if inA ((mI M a0 38) - 1) (mL M a_15) then (if ¬ x2 = 0 then (if ((mI M a_15 ((mI M a0 38) - 1).toNatClampNeg) - (mI M a_15 ((mI M a0 38) - 1).toNatClampNeg) / x2 * x2) = 0 then (fM_doSum_165 n d C 1 ((mI M a0 38) - 1) (some a_15) M) else (fM_doSum_165 n d C 0 ((mI M a0 38) - 1) (some a_15) M)) else none) else none) else none)) else none) else (if x1 = 13 then (fM_doSum_199 n d C x2 a0 M) else (if x1 = 15 then (if mK M a0 = 5 then (fM_doSum_199 n d C (mI M a0 35) a0 M) else none) else (if mK M a0 = 5 then (rzD (mP M a0 36) fun a_9 => (if mK M a_9 = 21 then (if inA x2 (mL M a_9) then (fM_doSum_199 n d C (mI M a_9 x2.toNatClampNeg) a0 M) else none) else none)) else none)))))))
set_option maxRecDepth 100000 in
set_option maxHeartbeats 4000000 in
theorem tM_doSum_0 {n : Nat} (F : FX p s m meth c G R M0 d "HeadCountModel" bM_doSum 4 none) (hC : CBs l G d C) : ∀ (a0 : Nat) (x1 : Int32) (x2 : Int32) (M : Mem) (H : Heap) (locs : List Loc) (cells slots : Nat) (ls : Array Slot), fM_doSum_0 n d C a0 x1 x2 M = some (r, M') → RL G M0 M H locs cells slots → lv_has ls 4 [(0, .ref a0), (1, .int x1), (2, .int x2)] → W p l e R s m args below meth c H locs cells slots (CQ G below s M0 r M') (F0 m 0 ls []) := by
  obtain ⟨hx, hb, hml, hown, hrt, hlk, hex, hK, hRm⟩ := id F
  intro a0 x1 x2 M H locs cells slots ls h hR hl
  unfold fM_doSum_0 at h
  refine lv_iload_n hx hb dM_doSum_0 rfl (lv_at hl 1 rfl) ?_
  refine lv_bipush (v := 18) hx hb dM_doSum_1 (by decide) ?_
  refine lv_icmp_ne (tgt := 29) hx hb dM_doSum_3 (by decide) (fun c_1 => ?_) (fun c_1 => ?_)
  · replace h := rz_f c_1 h
    refine lv_iload_n hx hb dM_doSum_29 rfl (lv_at hl 1 rfl) ?_
    refine lv_bipush (v := 16) hx hb dM_doSum_30 (by decide) ?_
    refine lv_icmp_ne (tgt := 62) hx hb dM_doSum_32 (by decide) (fun c_2 => ?_) (fun c_2 => ?_)
    · replace h := rz_f c_2 h
      refine lv_iload_n hx hb dM_doSum_62 rfl (lv_at hl 1 rfl) ?_
      refine lv_bipush (v := 17) hx hb dM_doSum_63 (by decide) ?_
      refine lv_icmp_ne (tgt := 94) hx hb dM_doSum_65 (by decide) (fun c_3 => ?_) (fun c_3 => ?_)
      · replace h := rz_f c_3 h
        refine lv_iload_n hx hb dM_doSum_94 rfl (lv_at hl 1 rfl) ?_
        refine lv_bipush (v := 11) hx hb dM_doSum_95 (by decide) ?_
        refine lv_icmp_ne (tgt := 128) hx hb dM_doSum_97 (by decide) (fun c_4 => ?_) (fun c_4 => ?_)
        · replace h := rz_f c_4 h
          refine lv_iload_n hx hb dM_doSum_128 rfl (lv_at hl 1 rfl) ?_
          refine lv_bipush (v := 21) hx hb dM_doSum_129 (by decide) ?_
          refine lv_icmp_ne (tgt := 169) hx hb dM_doSum_131 (by decide) (fun c_5 => ?_) (fun c_5 => ?_)
          · replace h := rz_f c_5 h
            refine lv_aload_n hx hb dM_doSum_169 rfl (lv_at hl 0 rfl) ?_
            refine lv_iload_n hx hb dM_doSum_170 rfl (lv_at hl 1 rfl) ?_
            refine lv_bipush (v := 13) hx hb dM_doSum_171 (by decide) ?_
            refine lv_icmp_ne (tgt := 180) hx hb dM_doSum_173 (by decide) (fun c_6 => ?_) (fun c_6 => ?_)
            · replace h := rz_f c_6 h
              refine lv_iload_n hx hb dM_doSum_180 rfl (lv_at hl 1 rfl) ?_
              refine lv_bipush (v := 15) hx hb dM_doSum_181 (by decide) ?_
              refine lv_icmp_ne (tgt := 193) hx hb dM_doSum_183 (by decide) (fun c_7 => ?_) (fun c_7 => ?_)
              · replace h := rz_f c_7 h
                refine lv_aload_n hx hb dM_doSum_193 rfl (lv_at hl 0 rfl) ?_
                obtain ⟨c_8, h⟩ := rz_chk h
                refine rg_getP hx hb hown hK hR hk_M 36 (by decide) kf_M_51 rfl c_8 dM_doSum_194 ?_
                refine lv_iload_n hx hb dM_doSum_197 rfl (lv_at hl 2 rfl) ?_
                obtain ⟨a_9, e_10, h⟩ := rz_d h
                rw [e_10]
                obtain ⟨c_11, h⟩ := rz_chk h
                obtain ⟨c_12, h⟩ := rz_chk h
                refine rg_iald hx hb hK hR c_11 c_12 dM_doSum_198 ?_
                exact tM_doSum_199 F hC (mI M a_9 x2.toNatClampNeg) a0 _ _ _ _ _ _ h hR (lv_sub hl [] rfl)
              · replace h := rz_t c_7 h
                refine lv_aload_n hx hb dM_doSum_186 rfl (lv_at hl 0 rfl) ?_
                obtain ⟨c_13, h⟩ := rz_chk h
                refine rg_getI hx hb hown hK hR hk_M 35 (by decide) kf_M_216 rfl c_13 dM_doSum_187 ?_
                refine lv_goto (tgt := 199) hx hb dM_doSum_190 (by decide) ?_
                exact tM_doSum_199 F hC (mI M a0 35) a0 _ _ _ _ _ _ h hR (lv_sub hl [] rfl)
            · replace h := rz_t c_6 h
              refine lv_iload_n hx hb dM_doSum_176 rfl (lv_at hl 2 rfl) ?_
              refine lv_goto (tgt := 199) hx hb dM_doSum_177 (by decide) ?_
              exact tM_doSum_199 F hC x2 a0 _ _ _ _ _ _ h hR (lv_sub hl [] rfl)
          · replace h := rz_t c_5 h
            refine lv_aload_n hx hb dM_doSum_134 rfl (lv_at hl 0 rfl) ?_
            obtain ⟨c_14, h⟩ := rz_chk h
            refine rg_getP hx hb hown hK hR hk_M 39 (by decide) kf_M_57 rfl c_14 dM_doSum_135 ?_
            refine lv_aload_n hx hb dM_doSum_138 rfl (lv_at hl 0 rfl) ?_
            refine rg_getI hx hb hown hK hR hk_M 38 (by decide) kf_M_206 rfl c_14 dM_doSum_139 ?_
            refine lv_iconst (v := 1) hx hb dM_doSum_142 (by decide) ?_
            refine lv_isub hx hb dM_doSum_143 ?_
            refine lv_aload_n hx hb dM_doSum_144 rfl (lv_at hl 0 rfl) ?_
            refine rg_getP hx hb hown hK hR hk_M 39 (by decide) kf_M_57 rfl c_14 dM_doSum_145 ?_
            refine lv_aload_n hx hb dM_doSum_148 rfl (lv_at hl 0 rfl) ?_
            refine rg_getI hx hb hown hK hR hk_M 38 (by decide) kf_M_206 rfl c_14 dM_doSum_149 ?_
            refine lv_iconst (v := 1) hx hb dM_doSum_152 (by decide) ?_
            refine lv_isub hx hb dM_doSum_153 ?_
            obtain ⟨a_15, e_16, h⟩ := rz_d h
            rw [e_16]
            obtain ⟨c_17, h⟩ := rz_chk h
            obtain ⟨c_18, h⟩ := rz_chk h
            refine rg_iald hx hb hK hR c_17 c_18 dM_doSum_154 ?_
            refine lv_iload_n hx hb dM_doSum_155 rfl (lv_at hl 2 rfl) ?_
            obtain ⟨c_19, h⟩ := rz_chk h
            refine lv_irem hx hb dM_doSum_156 c_19 ?_
            refine lv_if_ne (tgt := 164) hx hb dM_doSum_157 (by decide) (fun c_20 => ?_) (fun c_20 => ?_)
            · replace h := rz_f c_20 h
              refine lv_iconst (v := 0) hx hb dM_doSum_164 (by decide) ?_
              exact tM_doSum_165 F hC 0 ((mI M a0 38) - 1) (some a_15) _ _ _ _ _ _ h hR (lv_sub hl [] rfl)
            · replace h := rz_t c_20 h
              refine lv_iconst (v := 1) hx hb dM_doSum_160 (by decide) ?_
              refine lv_goto (tgt := 165) hx hb dM_doSum_161 (by decide) ?_
              exact tM_doSum_165 F hC 1 ((mI M a0 38) - 1) (some a_15) _ _ _ _ _ _ h hR (lv_sub hl [] rfl)
        · replace h := rz_t c_4 h
          refine lv_aload_n hx hb dM_doSum_100 rfl (lv_at hl 0 rfl) ?_
          obtain ⟨c_21, h⟩ := rz_chk h
          refine rg_getP hx hb hown hK hR hk_M 39 (by decide) kf_M_57 rfl c_21 dM_doSum_101 ?_
          refine lv_aload_n hx hb dM_doSum_104 rfl (lv_at hl 0 rfl) ?_
          refine rg_getI hx hb hown hK hR hk_M 38 (by decide) kf_M_206 rfl c_21 dM_doSum_105 ?_
          refine lv_iconst (v := 1) hx hb dM_doSum_108 (by decide) ?_
          refine lv_isub hx hb dM_doSum_109 ?_
          refine lv_aload_n hx hb dM_doSum_110 rfl (lv_at hl 0 rfl) ?_
          refine rg_getP hx hb hown hK hR hk_M 39 (by decide) kf_M_57 rfl c_21 dM_doSum_111 ?_
          refine lv_aload_n hx hb dM_doSum_114 rfl (lv_at hl 0 rfl) ?_
          refine rg_getI hx hb hown hK hR hk_M 38 (by decide) kf_M_206 rfl c_21 dM_doSum_115 ?_
          refine lv_iconst (v := 1) hx hb dM_doSum_118 (by decide) ?_
          refine lv_isub hx hb dM_doSum_119 ?_
          obtain ⟨a_22, e_23, h⟩ := rz_d h
          rw [e_23]
          obtain ⟨c_24, h⟩ := rz_chk h
          obtain ⟨c_25, h⟩ := rz_chk h
          refine rg_iald hx hb hK hR c_24 c_25 dM_doSum_120 ?_
          obtain ⟨q_29, M_27, h_28, h⟩ := rz_c h
          refine rc_S (rest := [.int ((mI M a0 38) - 1), .ref a_22]) (As := [.int (mI M a_22 ((mI M a0 38) - 1).toNatClampNeg)]) hx hb (hl.1.trans hml.symm) hown hK hR hRm mfM_count kl_M_212 rfl (by simp [cat_rf, Value.category]) (hC 102 _ _ _ _ h_28) dM_doSum_121 (fun v1 H locs cells slots ev hR => ?_) (fun x1 q1 ce1 H locs cells slots ex hR g1 g2 g3 => ?_)
          · rcases h with ⟨v_26, ev2, h⟩ | ⟨e2, ee2, -⟩
            · cases ev.symm.trans ev2
              replace h := rz_i h
              obtain ⟨x_30, rfl, h⟩ := h
              dsimp only [Option.toList, List.cons_append, List.nil_append]
              obtain ⟨c_31, h⟩ := rz_chk h
              obtain ⟨c_32, h⟩ := rz_chk h
              obtain ⟨M_33, q_34, h⟩ := rz_m h
              refine rg_iast hx hb hK hR c_31 c_32 dM_doSum_124 (fun H locs hR => ?_)
              rw [← q_34] at hR
              have c_35 : mK M_33 a_22 = 21 := by rw [q_34]; exact c_31
              refine lv_goto (tgt := 202) hx hb dM_doSum_125 (by decide) ?_
              exact tM_doSum_202 F hC _ _ _ _ _ _ h hR (lv_sub hl [] rfl)
            · cases ev.symm.trans ee2
          · rcases h with ⟨v2, ev2, -⟩ | ⟨e2, ee2, h⟩
            · cases ex.symm.trans ev2
            · cases ex.symm.trans ee2
              cases h
              exact rt_x hlk hex hR g1 g2 g3
      · replace h := rz_t c_3 h
        refine lv_aload_n hx hb dM_doSum_68 rfl (lv_at hl 0 rfl) ?_
        obtain ⟨c_36, h⟩ := rz_chk h
        refine rg_getP hx hb hown hK hR hk_M 39 (by decide) kf_M_57 rfl c_36 dM_doSum_69 ?_
        refine lv_aload_n hx hb dM_doSum_72 rfl (lv_at hl 0 rfl) ?_
        refine rg_getI hx hb hown hK hR hk_M 38 (by decide) kf_M_206 rfl c_36 dM_doSum_73 ?_
        refine lv_iconst (v := 1) hx hb dM_doSum_76 (by decide) ?_
        refine lv_isub hx hb dM_doSum_77 ?_
        refine lv_aload_n hx hb dM_doSum_78 rfl (lv_at hl 0 rfl) ?_
        refine rg_getP hx hb hown hK hR hk_M 39 (by decide) kf_M_57 rfl c_36 dM_doSum_79 ?_
        refine lv_aload_n hx hb dM_doSum_82 rfl (lv_at hl 0 rfl) ?_
        refine rg_getI hx hb hown hK hR hk_M 38 (by decide) kf_M_206 rfl c_36 dM_doSum_83 ?_
        refine lv_iconst (v := 1) hx hb dM_doSum_86 (by decide) ?_
        refine lv_isub hx hb dM_doSum_87 ?_
        obtain ⟨a_37, e_38, h⟩ := rz_d h
        rw [e_38]
        obtain ⟨c_39, h⟩ := rz_chk h
        obtain ⟨c_40, h⟩ := rz_chk h
        refine rg_iald hx hb hK hR c_39 c_40 dM_doSum_88 ?_
        refine lv_ineg hx hb dM_doSum_89 ?_
        obtain ⟨c_41, h⟩ := rz_chk h
        obtain ⟨M_42, q_43, h⟩ := rz_m h
        refine rg_iast hx hb hK hR c_39 c_41 dM_doSum_90 (fun H locs hR => ?_)
        rw [← q_43] at hR
        have c_44 : mK M_42 a0 = 5 := by rw [q_43]; exact c_36
        have c_45 : mK M_42 a_37 = 21 := by rw [q_43]; exact c_39
        refine lv_goto (tgt := 202) hx hb dM_doSum_91 (by decide) ?_
        exact tM_doSum_202 F hC _ _ _ _ _ _ h hR (lv_sub hl [] rfl)
    · replace h := rz_t c_2 h
      refine lv_aload_n hx hb dM_doSum_35 rfl (lv_at hl 0 rfl) ?_
      obtain ⟨c_46, h⟩ := rz_chk h
      refine rg_getP hx hb hown hK hR hk_M 39 (by decide) kf_M_57 rfl c_46 dM_doSum_36 ?_
      refine lv_aload_n hx hb dM_doSum_39 rfl (lv_at hl 0 rfl) ?_
      refine rg_getI hx hb hown hK hR hk_M 38 (by decide) kf_M_206 rfl c_46 dM_doSum_40 ?_
      refine lv_iconst (v := 1) hx hb dM_doSum_43 (by decide) ?_
      refine lv_isub hx hb dM_doSum_44 ?_
      refine lv_iload_n hx hb dM_doSum_45 rfl (lv_at hl 2 rfl) ?_
      refine lv_aload_n hx hb dM_doSum_46 rfl (lv_at hl 0 rfl) ?_
      refine rg_getP hx hb hown hK hR hk_M 39 (by decide) kf_M_57 rfl c_46 dM_doSum_47 ?_
      refine lv_aload_n hx hb dM_doSum_50 rfl (lv_at hl 0 rfl) ?_
      refine rg_getI hx hb hown hK hR hk_M 38 (by decide) kf_M_206 rfl c_46 dM_doSum_51 ?_
      refine lv_iconst (v := 1) hx hb dM_doSum_54 (by decide) ?_
      refine lv_isub hx hb dM_doSum_55 ?_
      obtain ⟨a_47, e_48, h⟩ := rz_d h
      rw [e_48]
      obtain ⟨c_49, h⟩ := rz_chk h
      obtain ⟨c_50, h⟩ := rz_chk h
      refine rg_iald hx hb hK hR c_49 c_50 dM_doSum_56 ?_
      refine lv_imul hx hb dM_doSum_57 ?_
      obtain ⟨c_51, h⟩ := rz_chk h
      obtain ⟨M_52, q_53, h⟩ := rz_m h
      refine rg_iast hx hb hK hR c_49 c_51 dM_doSum_58 (fun H locs hR => ?_)
      rw [← q_53] at hR
      have c_54 : mK M_52 a0 = 5 := by rw [q_53]; exact c_46
      have c_55 : mK M_52 a_47 = 21 := by rw [q_53]; exact c_49
      refine lv_goto (tgt := 202) hx hb dM_doSum_59 (by decide) ?_
      exact tM_doSum_202 F hC _ _ _ _ _ _ h hR (lv_sub hl [] rfl)
  · replace h := rz_t c_1 h
    refine lv_aload_n hx hb dM_doSum_6 rfl (lv_at hl 0 rfl) ?_
    obtain ⟨c_56, h⟩ := rz_chk h
    obtain ⟨q_60, M_58, h_59, h⟩ := rz_c h
    refine rc_V (rest := []) (As := []) hx hb (hl.1.trans hml.symm) hown hK hR hRm mfM_pop kl_M_209 hk_M rfl rfl c_56 (by simp [cat_rf, Value.category]) (hC 97 _ _ _ _ h_59) dM_doSum_7 (fun v1 H locs cells slots ev hR => ?_) (fun x1 q1 ce1 H locs cells slots ex hR g1 g2 g3 => ?_)
    · rcases h with ⟨v_57, ev2, h⟩ | ⟨e2, ee2, -⟩
      · cases ev.symm.trans ev2
        replace h := rz_i h
        obtain ⟨x_61, rfl, h⟩ := h
        dsimp only [Option.toList, List.cons_append, List.nil_append]
        refine lv_istore_n (lv' := [(3, .int x_61), (0, .ref a0), (1, .int x1), (2, .int x2)]) hx hb dM_doSum_10 rfl hl (by decide) rfl (fun ls hl => ?_)
        refine lv_aload_n hx hb dM_doSum_11 rfl (lv_at hl 1 rfl) ?_
        obtain ⟨c_62, h⟩ := rz_chk h
        refine rg_getP hx hb hown hK hR hk_M 39 (by decide) kf_M_57 rfl c_62 dM_doSum_12 ?_
        refine lv_aload_n hx hb dM_doSum_15 rfl (lv_at hl 1 rfl) ?_
        refine rg_getI hx hb hown hK hR hk_M 38 (by decide) kf_M_206 rfl c_62 dM_doSum_16 ?_
        refine lv_iconst (v := 1) hx hb dM_doSum_19 (by decide) ?_
        refine lv_isub hx hb dM_doSum_20 ?_
        refine lv_dup2_11 hx hb dM_doSum_21 rfl (cat_rf _) ?_
        obtain ⟨a_63, e_64, h⟩ := rz_d h
        rw [e_64]
        obtain ⟨c_65, h⟩ := rz_chk h
        obtain ⟨c_66, h⟩ := rz_chk h
        refine rg_iald hx hb hK hR c_65 c_66 dM_doSum_22 ?_
        refine lv_iload_n hx hb dM_doSum_23 rfl (lv_at hl 0 rfl) ?_
        refine lv_iadd hx hb dM_doSum_24 ?_
        obtain ⟨c_67, h⟩ := rz_chk h
        obtain ⟨M_68, q_69, h⟩ := rz_m h
        refine rg_iast hx hb hK hR c_65 c_67 dM_doSum_25 (fun H locs hR => ?_)
        rw [← q_69] at hR
        have c_70 : mK M_68 a0 = 5 := by rw [q_69]; exact c_62
        have c_71 : mK M_68 a_63 = 21 := by rw [q_69]; exact c_65
        refine lv_goto (tgt := 202) hx hb dM_doSum_26 (by decide) ?_
        exact tM_doSum_202 F hC _ _ _ _ _ _ h hR (lv_sub hl [] rfl)
      · cases ev.symm.trans ee2
    · rcases h with ⟨v2, ev2, -⟩ | ⟨e2, ee2, h⟩
      · cases ex.symm.trans ev2
      · cases ex.symm.trans ee2
        cases h
        exact rt_x hlk hex hR g1 g2 g3
set_option maxRecDepth 100000 in
set_option maxHeartbeats 4000000 in
theorem sM_doSum {l : Launch} {G : Gx} {n d : Nat} {C : Cx} (hC : CBs l G d C) (a0 : Nat) (x1 : Int32) (x2 : Int32) {M M' : Mem} {r : Option Value ⊕ Nat} (h : fM_doSum_0 n d C a0 x1 x2 M = some (r, M')) : CB l G (d + 1) yM_doSum [.ref a0, .int x1, .int x2] M r M' := by
  intro p e R s m below meth c hx hn hm hc hlk hK hR hcap hS hU hfr hlo hrc hrs
  obtain ⟨hb, hml, hrt, hex, hown⟩ := fx_of hn hm hc (hK.w mfM_doSum.2.2.1 rfl #[])
  have F : FX p s m meth c G R M d "HeadCountModel" bM_doSum 4 none := ⟨hx, hb, hml, hown, hrt, hlk, hex, hK, hfr, hlo, by rw [← hcap]; exact hrc, hrs⟩
  rw [hml]
  have hl := lv_entry ([.ref a0, .int x1, .int x2]) (n := 4) (by simp [lg_sl, cat_rf, Value.category])
  rw [lg_entry_eq]
  generalize (lg_sl ([.ref a0, .int x1, .int x2]) ++ List.replicate (4 - (lg_sl ([.ref a0, .int x1, .int x2])).length) Slot.unset).toArray = ls at hl ⊢
  have hl : lv_has ls 4 [(0, .ref a0), (1, .int x1), (2, .int x2)] := by simpa [lv_args, cat_rf, Value.category] using hl
  exact tM_doSum_0 F hC a0 x1 x2 _ _ _ _ _ _ h (RL.start hR hcap hS hU) (lv_sub hl [0, 1, 2] rfl)
def fM_count_4 (n d : Nat) (C : Cx) : Nat → Int32 → Int32 → Int32 → Mem → Rz
  | 0, _, _, _, _ => none
  | w + 1, x0, x1, x2, M => if 4 ≤ x2 then (some (.inl (some (.int x1)), M)) else (fM_count_4 n d C w x0 (x1 + ((x0 >>> (x2 &&& 31)) &&& 1)) (x2 + 1) M)
set_option maxRecDepth 100000 in
set_option maxHeartbeats 4000000 in
theorem tM_count_4 {n : Nat} (F : FX p s m meth c G R M0 d "HeadCountModel" bM_count 3 (some .int)) (hC : CBs l G d C) : ∀ (w : Nat) (x0 : Int32) (x1 : Int32) (x2 : Int32) (M : Mem) (H : Heap) (locs : List Loc) (cells slots : Nat) (ls : Array Slot), fM_count_4 n d C w x0 x1 x2 M = some (r, M') → RL G M0 M H locs cells slots → lv_has ls 3 [(0, .int x0), (1, .int x1), (2, .int x2)] → W p l e R s m args below meth c H locs cells slots (CQ G below s M0 r M') (F0 m 4 ls []) := by
  obtain ⟨hx, hb, hml, hown, hrt, hlk, hex, hK, hRm⟩ := id F
  intro w
  induction w with
  | zero => intro x0 x1 x2 M H locs cells slots ls h; cases h
  | succ w ih =>
    intro x0 x1 x2 M H locs cells slots ls h hR hl
    rw [fM_count_4] at h
    refine lv_iload_n hx hb dM_count_4 rfl (lv_at hl 2 rfl) ?_
    refine lv_iconst (v := 4) hx hb dM_count_5 (by decide) ?_
    refine lv_icmp_ge (tgt := 23) hx hb dM_count_6 (by decide) (fun c_1 => ?_) (fun c_1 => ?_)
    · replace h := rz_t c_1 h
      refine lv_iload_n hx hb dM_count_23 rfl (lv_at hl 1 rfl) ?_
      cases h
      exact rt_i hx hb hlk hrt (Or.inl rfl) rfl hR dM_count_24
    · replace h := rz_f c_1 h
      refine lv_iload_n hx hb dM_count_9 rfl (lv_at hl 1 rfl) ?_
      refine lv_iload_n hx hb dM_count_10 rfl (lv_at hl 0 rfl) ?_
      refine lv_iload_n hx hb dM_count_11 rfl (lv_at hl 2 rfl) ?_
      refine lv_ishr hx hb dM_count_12 ?_
      refine lv_iconst (v := 1) hx hb dM_count_13 (by decide) ?_
      refine lv_iand hx hb dM_count_14 ?_
      refine lv_iadd hx hb dM_count_15 ?_
      refine lv_istore_n (lv' := [(1, .int (x1 + ((x0 >>> (x2 &&& 31)) &&& 1))), (0, .int x0), (2, .int x2)]) hx hb dM_count_16 rfl hl (by decide) rfl (fun ls hl => ?_)
      refine lv_iinc (k := 2) (v := x2 + 1) (lv' := [(2, .int (x2 + 1)), (1, .int (x1 + ((x0 >>> (x2 &&& 31)) &&& 1))), (0, .int x0)]) hx hb dM_count_17 hl rfl (by rw [show Int32.ofInt 1 = 1 from by decide]) (by decide) rfl (fun ls hl => ?_)
      refine lv_goto (tgt := 4) hx hb dM_count_20 (by decide) ?_
      exact ih x0 (x1 + ((x0 >>> (x2 &&& 31)) &&& 1)) (x2 + 1) _ _ _ _ _ _ h hR (lv_sub hl [2, 1, 0] rfl)
def fM_count_0 (n d : Nat) (C : Cx) (x0 : Int32) (M : Mem) : Rz := fM_count_4 n d C n x0 0 0 M
set_option maxRecDepth 100000 in
set_option maxHeartbeats 4000000 in
theorem tM_count_0 {n : Nat} (F : FX p s m meth c G R M0 d "HeadCountModel" bM_count 3 (some .int)) (hC : CBs l G d C) : ∀ (x0 : Int32) (M : Mem) (H : Heap) (locs : List Loc) (cells slots : Nat) (ls : Array Slot), fM_count_0 n d C x0 M = some (r, M') → RL G M0 M H locs cells slots → lv_has ls 3 [(0, .int x0)] → W p l e R s m args below meth c H locs cells slots (CQ G below s M0 r M') (F0 m 0 ls []) := by
  obtain ⟨hx, hb, hml, hown, hrt, hlk, hex, hK, hRm⟩ := id F
  intro x0 M H locs cells slots ls h hR hl
  unfold fM_count_0 at h
  refine lv_iconst (v := 0) hx hb dM_count_0 (by decide) ?_
  refine lv_istore_n (lv' := [(1, .int 0), (0, .int x0)]) hx hb dM_count_1 rfl hl (by decide) rfl (fun ls hl => ?_)
  refine lv_iconst (v := 0) hx hb dM_count_2 (by decide) ?_
  refine lv_istore_n (lv' := [(2, .int 0), (1, .int 0), (0, .int x0)]) hx hb dM_count_3 rfl hl (by decide) rfl (fun ls hl => ?_)
  exact tM_count_4 F hC n x0 0 0 _ _ _ _ _ _ h hR (lv_sub hl [2, 1, 0] rfl)
set_option maxRecDepth 100000 in
set_option maxHeartbeats 4000000 in
theorem sM_count {l : Launch} {G : Gx} {n d : Nat} {C : Cx} (hC : CBs l G d C) (x0 : Int32) {M M' : Mem} {r : Option Value ⊕ Nat} (h : fM_count_0 n d C x0 M = some (r, M')) : CB l G (d + 1) yM_count [.int x0] M r M' := by
  intro p e R s m below meth c hx hn hm hc hlk hK hR hcap hS hU hfr hlo hrc hrs
  obtain ⟨hb, hml, hrt, hex, hown⟩ := fx_of hn hm hc (hK.w mfM_count.2.2.1 rfl #[])
  have F : FX p s m meth c G R M d "HeadCountModel" bM_count 3 (some .int) := ⟨hx, hb, hml, hown, hrt, hlk, hex, hK, hfr, hlo, by rw [← hcap]; exact hrc, hrs⟩
  rw [hml]
  have hl := lv_entry ([.int x0]) (n := 3) (by simp [lg_sl, cat_rf, Value.category])
  rw [lg_entry_eq]
  generalize (lg_sl ([.int x0]) ++ List.replicate (3 - (lg_sl ([.int x0])).length) Slot.unset).toArray = ls at hl ⊢
  have hl : lv_has ls 3 [(0, .int x0)] := by simpa [lv_args, cat_rf, Value.category] using hl
  exact tM_count_0 F hC x0 _ _ _ _ _ _ h (RL.start hR hcap hS hU) (lv_sub hl [0] rfl)
def fM_doOther_225 (n d : Nat) (C : Cx) (M : Mem) : Rz := some (.inl none, M)
set_option maxRecDepth 100000 in
set_option maxHeartbeats 4000000 in
theorem tM_doOther_225 {n : Nat} (F : FX p s m meth c G R M0 d "HeadCountModel" bM_doOther 5 none) (hC : CBs l G d C) : ∀ (M : Mem) (H : Heap) (locs : List Loc) (cells slots : Nat) (ls : Array Slot), fM_doOther_225 n d C M = some (r, M') → RL G M0 M H locs cells slots → lv_has ls 5 [] → W p l e R s m args below meth c H locs cells slots (CQ G below s M0 r M') (F0 m 225 ls []) := by
  obtain ⟨hx, hb, hml, hown, hrt, hlk, hex, hK, hRm⟩ := id F
  intro M H locs cells slots ls h hR hl
  unfold fM_doOther_225 at h
  cases h
  exact rt_v hx hb hlk hrt hR dM_doOther_225
def fM_doOther_33 (n d : Nat) (C : Cx) (xs0 : Int32) (as1 : Nat) (M : Mem) : Rz := if mK M as1 = 5 then (rzC (C 100 [.ref as1, .int xs0] M) fun v_2 M_3 => (rzV v_2 (fM_doOther_225 n d C M_3))) else none
set_option maxRecDepth 100000 in
set_option maxHeartbeats 4000000 in
theorem tM_doOther_33 {n : Nat} (F : FX p s m meth c G R M0 d "HeadCountModel" bM_doOther 5 none) (hC : CBs l G d C) : ∀ (xs0 : Int32) (as1 : Nat) (M : Mem) (H : Heap) (locs : List Loc) (cells slots : Nat) (ls : Array Slot), fM_doOther_33 n d C xs0 as1 M = some (r, M') → RL G M0 M H locs cells slots → lv_has ls 5 [] → W p l e R s m args below meth c H locs cells slots (CQ G below s M0 r M') (F0 m 33 ls [.int xs0, .ref as1]) := by
  obtain ⟨hx, hb, hml, hown, hrt, hlk, hex, hK, hRm⟩ := id F
  intro xs0 as1 M H locs cells slots ls h hR hl
  unfold fM_doOther_33 at h
  obtain ⟨c_1, h⟩ := rz_chk h
  obtain ⟨q_5, M_3, h_4, h⟩ := rz_c h
  refine rc_V (rest := []) (As := [.int xs0]) hx hb (hl.1.trans hml.symm) hown hK hR hRm mfM_put kl_M_219 hk_M rfl rfl c_1 (by simp [cat_rf, Value.category]) (hC 100 _ _ _ _ h_4) dM_doOther_33 (fun v1 H locs cells slots ev hR => ?_) (fun x1 q1 ce1 H locs cells slots ex hR g1 g2 g3 => ?_)
  · rcases h with ⟨v_2, ev2, h⟩ | ⟨e2, ee2, -⟩
    · cases ev.symm.trans ev2
      replace h := rz_v h
      obtain ⟨rfl, h⟩ := h
      dsimp only [Option.toList, List.cons_append, List.nil_append]
      refine lv_goto (tgt := 225) hx hb dM_doOther_36 (by decide) ?_
      exact tM_doOther_225 F hC _ _ _ _ _ _ h hR (lv_sub hl [] rfl)
    · cases ev.symm.trans ee2
  · rcases h with ⟨v2, ev2, -⟩ | ⟨e2, ee2, h⟩
    · cases ex.symm.trans ev2
    · cases ex.symm.trans ee2
      cases h
      exact rt_x hlk hex hR g1 g2 g3
def fM_doOther_21 (n d : Nat) (C : Cx) (a0 : Nat) (x1 : Int32) (x2 : Int32) (M : Mem) : Rz := if x1 = 23 then (fM_doOther_33 n d C 0 a0 M) else (fM_doOther_33 n d C x2 a0 M)
set_option maxRecDepth 100000 in
set_option maxHeartbeats 4000000 in
theorem tM_doOther_21 {n : Nat} (F : FX p s m meth c G R M0 d "HeadCountModel" bM_doOther 5 none) (hC : CBs l G d C) : ∀ (a0 : Nat) (x1 : Int32) (x2 : Int32) (M : Mem) (H : Heap) (locs : List Loc) (cells slots : Nat) (ls : Array Slot), fM_doOther_21 n d C a0 x1 x2 M = some (r, M') → RL G M0 M H locs cells slots → lv_has ls 5 [(0, .ref a0), (1, .int x1), (2, .int x2)] → W p l e R s m args below meth c H locs cells slots (CQ G below s M0 r M') (F0 m 21 ls []) := by
  obtain ⟨hx, hb, hml, hown, hrt, hlk, hex, hK, hRm⟩ := id F
  intro a0 x1 x2 M H locs cells slots ls h hR hl
  unfold fM_doOther_21 at h
  refine lv_aload_n hx hb dM_doOther_21 rfl (lv_at hl 0 rfl) ?_
  refine lv_iload_n hx hb dM_doOther_22 rfl (lv_at hl 1 rfl) ?_
  refine lv_bipush (v := 23) hx hb dM_doOther_23 (by decide) ?_
  refine lv_icmp_ne (tgt := 32) hx hb dM_doOther_25 (by decide) (fun c_1 => ?_) (fun c_1 => ?_)
  · replace h := rz_f c_1 h
    refine lv_iload_n hx hb dM_doOther_32 rfl (lv_at hl 2 rfl) ?_
    exact tM_doOther_33 F hC x2 a0 _ _ _ _ _ _ h hR (lv_sub hl [] rfl)
  · replace h := rz_t c_1 h
    refine lv_iconst (v := 0) hx hb dM_doOther_28 (by decide) ?_
    refine lv_goto (tgt := 33) hx hb dM_doOther_29 (by decide) ?_
    exact tM_doOther_33 F hC 0 a0 _ _ _ _ _ _ h hR (lv_sub hl [] rfl)
def fM_doOther_224 (n d : Nat) (C : Cx) (xs0 : Int32) (xs1 : Int32) (rs2 : Option Nat) (M : Mem) : Rz := rzD rs2 fun a_1 => (if mK M a_1 = 21 then (if inA xs1 (mL M a_1) then (rzM (setI M a_1 xs1.toNatClampNeg xs0) fun M_5 => (fM_doOther_225 n d C M_5)) else none) else none)
set_option maxRecDepth 100000 in
set_option maxHeartbeats 4000000 in
theorem tM_doOther_224 {n : Nat} (F : FX p s m meth c G R M0 d "HeadCountModel" bM_doOther 5 none) (hC : CBs l G d C) : ∀ (xs0 : Int32) (xs1 : Int32) (rs2 : Option Nat) (M : Mem) (H : Heap) (locs : List Loc) (cells slots : Nat) (ls : Array Slot), fM_doOther_224 n d C xs0 xs1 rs2 M = some (r, M') → RL G M0 M H locs cells slots → lv_has ls 5 [] → W p l e R s m args below meth c H locs cells slots (CQ G below s M0 r M') (F0 m 224 ls [.int xs0, .int xs1, va_rf rs2]) := by
  obtain ⟨hx, hb, hml, hown, hrt, hlk, hex, hK, hRm⟩ := id F
  intro xs0 xs1 rs2 M H locs cells slots ls h hR hl
  unfold fM_doOther_224 at h
  obtain ⟨a_1, e_2, h⟩ := rz_d h
  rw [e_2]
  obtain ⟨c_3, h⟩ := rz_chk h
  obtain ⟨c_4, h⟩ := rz_chk h
  obtain ⟨M_5, q_6, h⟩ := rz_m h
  refine rg_iast hx hb hK hR c_3 c_4 dM_doOther_224 (fun H locs hR => ?_)
  rw [← q_6] at hR
  have c_7 : mK M_5 a_1 = 21 := by rw [q_6]; exact c_3
  exact tM_doOther_225 F hC _ _ _ _ _ _ h hR (lv_sub hl [] rfl)
def fM_doOther_145 (n d : Nat) (C : Cx) (x3 : Int32) (x4 : Int32) (xs0 : Int32) (rs1 : Option Nat) (M : Mem) : Rz := fM_doOther_224 n d C (x4 ||| x3) xs0 rs1 M
set_option maxRecDepth 100000 in
set_option maxHeartbeats 4000000 in
theorem tM_doOther_145 {n : Nat} (F : FX p s m meth c G R M0 d "HeadCountModel" bM_doOther 5 none) (hC : CBs l G d C) : ∀ (x3 : Int32) (x4 : Int32) (xs0 : Int32) (rs1 : Option Nat) (M : Mem) (H : Heap) (locs : List Loc) (cells slots : Nat) (ls : Array Slot), fM_doOther_145 n d C x3 x4 xs0 rs1 M = some (r, M') → RL G M0 M H locs cells slots → lv_has ls 5 [(3, .int x3), (4, .int x4)] → W p l e R s m args below meth c H locs cells slots (CQ G below s M0 r M') (F0 m 145 ls [.int xs0, va_rf rs1]) := by
  obtain ⟨hx, hb, hml, hown, hrt, hlk, hex, hK, hRm⟩ := id F
  intro x3 x4 xs0 rs1 M H locs cells slots ls h hR hl
  unfold fM_doOther_145 at h
  refine lv_iload hx hb dM_doOther_145 (lv_at hl 1 rfl) ?_
  refine lv_iload_n hx hb dM_doOther_147 rfl (lv_at hl 0 rfl) ?_
  refine lv_ior hx hb dM_doOther_148 ?_
  refine lv_goto (tgt := 224) hx hb dM_doOther_149 (by decide) ?_
  exact tM_doOther_224 F hC (x4 ||| x3) xs0 rs1 _ _ _ _ _ _ h hR (lv_sub hl [] rfl)
def fM_doOther_163 (n d : Nat) (C : Cx) (x3 : Int32) (x4 : Int32) (xs0 : Int32) (rs1 : Option Nat) (M : Mem) : Rz := fM_doOther_224 n d C (x4 &&& x3) xs0 rs1 M
set_option maxRecDepth 100000 in
set_option maxHeartbeats 4000000 in
theorem tM_doOther_163 {n : Nat} (F : FX p s m meth c G R M0 d "HeadCountModel" bM_doOther 5 none) (hC : CBs l G d C) : ∀ (x3 : Int32) (x4 : Int32) (xs0 : Int32) (rs1 : Option Nat) (M : Mem) (H : Heap) (locs : List Loc) (cells slots : Nat) (ls : Array Slot), fM_doOther_163 n d C x3 x4 xs0 rs1 M = some (r, M') → RL G M0 M H locs cells slots → lv_has ls 5 [(3, .int x3), (4, .int x4)] → W p l e R s m args below meth c H locs cells slots (CQ G below s M0 r M') (F0 m 163 ls [.int xs0, va_rf rs1]) := by
  obtain ⟨hx, hb, hml, hown, hrt, hlk, hex, hK, hRm⟩ := id F
  intro x3 x4 xs0 rs1 M H locs cells slots ls h hR hl
  unfold fM_doOther_163 at h
  refine lv_iload hx hb dM_doOther_163 (lv_at hl 1 rfl) ?_
  refine lv_iload_n hx hb dM_doOther_165 rfl (lv_at hl 0 rfl) ?_
  refine lv_iand hx hb dM_doOther_166 ?_
  refine lv_goto (tgt := 224) hx hb dM_doOther_167 (by decide) ?_
  exact tM_doOther_224 F hC (x4 &&& x3) xs0 rs1 _ _ _ _ _ _ h hR (lv_sub hl [] rfl)
def fM_doOther_0 (n d : Nat) (C : Cx) (a0 : Nat) (x1 : Int32) (M : Mem) : Rz := if mK M a0 = 5 then (if x1 = 23 then (fM_doOther_21 n d C a0 x1 ((1 <<< ((mI M a0 35) &&& 31)) - 1) M) else (if x1 = 24 then (fM_doOther_21 n d C a0 x1 ((1 <<< ((mI M a0 35) &&& 31)) - 1) M) else (if x1 = 9 then (rzD (mP M a0 39) fun a_34 => (if mK M a_34 = 21 then (if inA ((mI M a0 38) - 1) (mL M a_34) then (if inA ((mI M a0 38) - 1) (mL M a_34) then (rzM (setI M a_34 ((mI M a0 38) - 1).toNatClampNeg (((1 <<< ((mI M a0 35) &&& 31)) - 1) &&& ((mI M a_34 ((mI M a0 38) - 1).toNatClampNeg) ^^^ ((-1))))) fun M_39 => (fM_doOther_225 n d C M_39)) else none) else none) else none)) else (if x1 = 3 then (rzD (mP M a0 39) fun a_25 => (if mK M a_25 = 21 then (if inA ((mI M a0 38) - 1) (mL M a_25) then (if inA ((mI M a0 38) - 1) (mL M a_25) then (rzM (setI M a_25 ((mI M a0 38) - 1).toNatClampNeg (1 - (mI M a_25 ((mI M a0 38) - 1).toNatClampNeg))) fun M_30 => (fM_doOther_225 n d C M_30)) else none) else none) else none)) else (rzC (C 97 [.ref a0] M) fun v_6 M_7 => (rzI v_6 fun x_10 => (if mK M_7 a0 = 5 then (rzD (mP M_7 a0 39) fun a_12 => (if mK M_7 a_12 = 21 then (if inA ((mI M_7 a0 38) - 1) (mL M_7 a_12) then (if x1 = 7 then (fM_doOther_145 n d C x_10 (mI M_7 a_12 ((mI M_7 a0 38) - 1).toNatClampNeg) ((mI M_7 a0 38) - 1) (mP M_7 a0 39) M_7) else (if x1 = 1 then (fM_doOther_145 n d C x_10 (mI M_7 a_12 ((mI M_7 a0 38) - 1).toNatClampNeg) ((mI M_7 a0 38) - 1) (mP M_7 a0 39) M_7) else (if x1 = 8 then (fM_doOther_163 n d C x_10 (mI M_7 a_12 ((mI M_7 a0 38) - 1).toNatClampNeg) ((mI M_7 a0 38) - 1) (mP M_7 a0 39) M_7) else (if x1 = 2 then (fM_doOther_163 n d C x_10 (mI M_7 a_12 ((mI M_7 a0 38) - 1).toNatClampNeg) ((mI M_7 a0 38) - 1) (mP M_7 a0 39) M_7) else (if x1 = 20 then (if (mI M_7 a_12 ((mI M_7 a0 38) - 1).toNatClampNeg) = x_10 then (fM_doOther_224 n d C 1 ((mI M_7 a0 38) - 1) (mP M_7 a0 39) M_7) else (fM_doOther_224 n d C 0 ((mI M_7 a0 38) - 1) (mP M_7 a0 39) M_7)) else (if x1 = 19 then (if x_10 ≤ (mI M_7 a_12 ((mI M_7 a0 38) - 1).toNatClampNeg) then (fM_doOther_224 n d C 0 ((mI M_7 a0 38) - 1) (mP M_7 a0 39) M_7) else (fM_doOther_224 n d C 1 ((mI M_7 a0 38) - 1) (mP M_7 a0 39) M_7)) else (if ((mI M_7 a_12 ((mI M_7 a0 38) - 1).toNatClampNeg) &&& (x_10 ^^^ ((-1)))) = 0 then (fM_doOther_224 n d C 1 ((mI M_7 a0 38) - 1) (mP M_7 a0 39) M_7) else (fM_doOther_224 n d C 0 ((mI M_7 a0 38) - 1) (mP M_7 a0 39) M_7)))))))) else none) else none)) else none))))))) else none
set_option maxRecDepth 100000 in
set_option maxHeartbeats 4000000 in
theorem tM_doOther_0 {n : Nat} (F : FX p s m meth c G R M0 d "HeadCountModel" bM_doOther 5 none) (hC : CBs l G d C) : ∀ (a0 : Nat) (x1 : Int32) (M : Mem) (H : Heap) (locs : List Loc) (cells slots : Nat) (ls : Array Slot), fM_doOther_0 n d C a0 x1 M = some (r, M') → RL G M0 M H locs cells slots → lv_has ls 5 [(0, .ref a0), (1, .int x1)] → W p l e R s m args below meth c H locs cells slots (CQ G below s M0 r M') (F0 m 0 ls []) := by
  obtain ⟨hx, hb, hml, hown, hrt, hlk, hex, hK, hRm⟩ := id F
  intro a0 x1 M H locs cells slots ls h hR hl
  unfold fM_doOther_0 at h
  refine lv_iconst (v := 1) hx hb dM_doOther_0 (by decide) ?_
  refine lv_aload_n hx hb dM_doOther_1 rfl (lv_at hl 0 rfl) ?_
  obtain ⟨c_1, h⟩ := rz_chk h
  refine rg_getI hx hb hown hK hR hk_M 35 (by decide) kf_M_216 rfl c_1 dM_doOther_2 ?_
  refine lv_ishl hx hb dM_doOther_5 ?_
  refine lv_iconst (v := 1) hx hb dM_doOther_6 (by decide) ?_
  refine lv_isub hx hb dM_doOther_7 ?_
  refine lv_istore_n (lv' := [(2, .int ((1 <<< ((mI M a0 35) &&& 31)) - 1)), (0, .ref a0), (1, .int x1)]) hx hb dM_doOther_8 rfl hl (by decide) rfl (fun ls hl => ?_)
  refine lv_iload_n hx hb dM_doOther_9 rfl (lv_at hl 2 rfl) ?_
  refine lv_bipush (v := 23) hx hb dM_doOther_10 (by decide) ?_
  refine lv_icmp_eq (tgt := 21) hx hb dM_doOther_12 (by decide) (fun c_2 => ?_) (fun c_2 => ?_)
  · replace h := rz_t c_2 h
    exact tM_doOther_21 F hC a0 x1 ((1 <<< ((mI M a0 35) &&& 31)) - 1) _ _ _ _ _ _ h hR (lv_sub hl [1, 2, 0] rfl)
  · replace h := rz_f c_2 h
    refine lv_iload_n hx hb dM_doOther_15 rfl (lv_at hl 2 rfl) ?_
    refine lv_bipush (v := 24) hx hb dM_doOther_16 (by decide) ?_
    refine lv_icmp_ne (tgt := 39) hx hb dM_doOther_18 (by decide) (fun c_3 => ?_) (fun c_3 => ?_)
    · replace h := rz_f c_3 h
      refine lv_iload_n hx hb dM_doOther_39 rfl (lv_at hl 2 rfl) ?_
      refine lv_bipush (v := 9) hx hb dM_doOther_40 (by decide) ?_
      refine lv_icmp_ne (tgt := 74) hx hb dM_doOther_42 (by decide) (fun c_4 => ?_) (fun c_4 => ?_)
      · replace h := rz_f c_4 h
        refine lv_iload_n hx hb dM_doOther_74 rfl (lv_at hl 2 rfl) ?_
        refine lv_iconst (v := 3) hx hb dM_doOther_75 (by decide) ?_
        refine lv_icmp_ne (tgt := 106) hx hb dM_doOther_76 (by decide) (fun c_5 => ?_) (fun c_5 => ?_)
        · replace h := rz_f c_5 h
          refine lv_aload_n hx hb dM_doOther_106 rfl (lv_at hl 1 rfl) ?_
          obtain ⟨q_9, M_7, h_8, h⟩ := rz_c h
          refine rc_V (rest := []) (As := []) hx hb (hl.1.trans hml.symm) hown hK hR hRm mfM_pop kl_M_209 hk_M rfl rfl c_1 (by simp [cat_rf, Value.category]) (hC 97 _ _ _ _ h_8) dM_doOther_107 (fun v1 H locs cells slots ev hR => ?_) (fun x1 q1 ce1 H locs cells slots ex hR g1 g2 g3 => ?_)
          · rcases h with ⟨v_6, ev2, h⟩ | ⟨e2, ee2, -⟩
            · cases ev.symm.trans ev2
              replace h := rz_i h
              obtain ⟨x_10, rfl, h⟩ := h
              dsimp only [Option.toList, List.cons_append, List.nil_append]
              refine lv_istore_n (lv' := [(3, .int x_10), (2, .int ((1 <<< ((mI M a0 35) &&& 31)) - 1)), (0, .ref a0), (1, .int x1)]) hx hb dM_doOther_110 rfl hl (by decide) rfl (fun ls hl => ?_)
              refine lv_aload_n hx hb dM_doOther_111 rfl (lv_at hl 2 rfl) ?_
              obtain ⟨c_11, h⟩ := rz_chk h
              refine rg_getP hx hb hown hK hR hk_M 39 (by decide) kf_M_57 rfl c_11 dM_doOther_112 ?_
              refine lv_aload_n hx hb dM_doOther_115 rfl (lv_at hl 2 rfl) ?_
              refine rg_getI hx hb hown hK hR hk_M 38 (by decide) kf_M_206 rfl c_11 dM_doOther_116 ?_
              refine lv_iconst (v := 1) hx hb dM_doOther_119 (by decide) ?_
              refine lv_isub hx hb dM_doOther_120 ?_
              obtain ⟨a_12, e_13, h⟩ := rz_d h
              rw [e_13]
              obtain ⟨c_14, h⟩ := rz_chk h
              obtain ⟨c_15, h⟩ := rz_chk h
              refine rg_iald hx hb hK hR c_14 c_15 dM_doOther_121 ?_
              refine lv_istore (lv' := [(4, .int (mI M_7 a_12 ((mI M_7 a0 38) - 1).toNatClampNeg)), (3, .int x_10), (2, .int ((1 <<< ((mI M a0 35) &&& 31)) - 1)), (0, .ref a0), (1, .int x1)]) hx hb dM_doOther_122 hl (by decide) rfl (fun ls hl => ?_)
              refine lv_aload_n hx hb dM_doOther_124 rfl (lv_at hl 3 rfl) ?_
              refine rg_getP hx hb hown hK hR hk_M 39 (by decide) kf_M_57 rfl c_11 dM_doOther_125 ?_
              refine lv_aload_n hx hb dM_doOther_128 rfl (lv_at hl 3 rfl) ?_
              refine rg_getI hx hb hown hK hR hk_M 38 (by decide) kf_M_206 rfl c_11 dM_doOther_129 ?_
              refine lv_iconst (v := 1) hx hb dM_doOther_132 (by decide) ?_
              refine lv_isub hx hb dM_doOther_133 ?_
              refine lv_iload_n hx hb dM_doOther_134 rfl (lv_at hl 4 rfl) ?_
              refine lv_bipush (v := 7) hx hb dM_doOther_135 (by decide) ?_
              refine lv_icmp_eq (tgt := 145) hx hb dM_doOther_137 (by decide) (fun c_16 => ?_) (fun c_16 => ?_)
              · replace h := rz_t c_16 h
                exact tM_doOther_145 F hC x_10 (mI M_7 a_12 ((mI M_7 a0 38) - 1).toNatClampNeg) ((mI M_7 a0 38) - 1) (mP M_7 a0 39) _ _ _ _ _ _ h hR (lv_sub hl [1, 0] rfl)
              · replace h := rz_f c_16 h
                refine lv_iload_n hx hb dM_doOther_140 rfl (lv_at hl 4 rfl) ?_
                refine lv_iconst (v := 1) hx hb dM_doOther_141 (by decide) ?_
                refine lv_icmp_ne (tgt := 152) hx hb dM_doOther_142 (by decide) (fun c_17 => ?_) (fun c_17 => ?_)
                · replace h := rz_f c_17 h
                  refine lv_iload_n hx hb dM_doOther_152 rfl (lv_at hl 4 rfl) ?_
                  refine lv_bipush (v := 8) hx hb dM_doOther_153 (by decide) ?_
                  refine lv_icmp_eq (tgt := 163) hx hb dM_doOther_155 (by decide) (fun c_18 => ?_) (fun c_18 => ?_)
                  · replace h := rz_t c_18 h
                    exact tM_doOther_163 F hC x_10 (mI M_7 a_12 ((mI M_7 a0 38) - 1).toNatClampNeg) ((mI M_7 a0 38) - 1) (mP M_7 a0 39) _ _ _ _ _ _ h hR (lv_sub hl [1, 0] rfl)
                  · replace h := rz_f c_18 h
                    refine lv_iload_n hx hb dM_doOther_158 rfl (lv_at hl 4 rfl) ?_
                    refine lv_iconst (v := 2) hx hb dM_doOther_159 (by decide) ?_
                    refine lv_icmp_ne (tgt := 170) hx hb dM_doOther_160 (by decide) (fun c_19 => ?_) (fun c_19 => ?_)
                    · replace h := rz_f c_19 h
                      refine lv_iload_n hx hb dM_doOther_170 rfl (lv_at hl 4 rfl) ?_
                      refine lv_bipush (v := 20) hx hb dM_doOther_171 (by decide) ?_
                      refine lv_icmp_ne (tgt := 190) hx hb dM_doOther_173 (by decide) (fun c_20 => ?_) (fun c_20 => ?_)
                      · replace h := rz_f c_20 h
                        refine lv_iload_n hx hb dM_doOther_190 rfl (lv_at hl 4 rfl) ?_
                        refine lv_bipush (v := 19) hx hb dM_doOther_191 (by decide) ?_
                        refine lv_icmp_ne (tgt := 210) hx hb dM_doOther_193 (by decide) (fun c_21 => ?_) (fun c_21 => ?_)
                        · replace h := rz_f c_21 h
                          refine lv_iload hx hb dM_doOther_210 (lv_at hl 0 rfl) ?_
                          refine lv_iload_n hx hb dM_doOther_212 rfl (lv_at hl 1 rfl) ?_
                          refine lv_iconst (v := (-1)) hx hb dM_doOther_213 (by decide) ?_
                          refine lv_ixor hx hb dM_doOther_214 ?_
                          refine lv_iand hx hb dM_doOther_215 ?_
                          refine lv_if_ne (tgt := 223) hx hb dM_doOther_216 (by decide) (fun c_22 => ?_) (fun c_22 => ?_)
                          · replace h := rz_f c_22 h
                            refine lv_iconst (v := 0) hx hb dM_doOther_223 (by decide) ?_
                            exact tM_doOther_224 F hC 0 ((mI M_7 a0 38) - 1) (mP M_7 a0 39) _ _ _ _ _ _ h hR (lv_sub hl [] rfl)
                          · replace h := rz_t c_22 h
                            refine lv_iconst (v := 1) hx hb dM_doOther_219 (by decide) ?_
                            refine lv_goto (tgt := 224) hx hb dM_doOther_220 (by decide) ?_
                            exact tM_doOther_224 F hC 1 ((mI M_7 a0 38) - 1) (mP M_7 a0 39) _ _ _ _ _ _ h hR (lv_sub hl [] rfl)
                        · replace h := rz_t c_21 h
                          refine lv_iload hx hb dM_doOther_196 (lv_at hl 0 rfl) ?_
                          refine lv_iload_n hx hb dM_doOther_198 rfl (lv_at hl 1 rfl) ?_
                          refine lv_icmp_ge (tgt := 206) hx hb dM_doOther_199 (by decide) (fun c_23 => ?_) (fun c_23 => ?_)
                          · replace h := rz_t c_23 h
                            refine lv_iconst (v := 0) hx hb dM_doOther_206 (by decide) ?_
                            refine lv_goto (tgt := 224) hx hb dM_doOther_207 (by decide) ?_
                            exact tM_doOther_224 F hC 0 ((mI M_7 a0 38) - 1) (mP M_7 a0 39) _ _ _ _ _ _ h hR (lv_sub hl [] rfl)
                          · replace h := rz_f c_23 h
                            refine lv_iconst (v := 1) hx hb dM_doOther_202 (by decide) ?_
                            refine lv_goto (tgt := 224) hx hb dM_doOther_203 (by decide) ?_
                            exact tM_doOther_224 F hC 1 ((mI M_7 a0 38) - 1) (mP M_7 a0 39) _ _ _ _ _ _ h hR (lv_sub hl [] rfl)
                      · replace h := rz_t c_20 h
                        refine lv_iload hx hb dM_doOther_176 (lv_at hl 0 rfl) ?_
                        refine lv_iload_n hx hb dM_doOther_178 rfl (lv_at hl 1 rfl) ?_
                        refine lv_icmp_ne (tgt := 186) hx hb dM_doOther_179 (by decide) (fun c_24 => ?_) (fun c_24 => ?_)
                        · replace h := rz_f c_24 h
                          refine lv_iconst (v := 0) hx hb dM_doOther_186 (by decide) ?_
                          refine lv_goto (tgt := 224) hx hb dM_doOther_187 (by decide) ?_
                          exact tM_doOther_224 F hC 0 ((mI M_7 a0 38) - 1) (mP M_7 a0 39) _ _ _ _ _ _ h hR (lv_sub hl [] rfl)
                        · replace h := rz_t c_24 h
                          refine lv_iconst (v := 1) hx hb dM_doOther_182 (by decide) ?_
                          refine lv_goto (tgt := 224) hx hb dM_doOther_183 (by decide) ?_
                          exact tM_doOther_224 F hC 1 ((mI M_7 a0 38) - 1) (mP M_7 a0 39) _ _ _ _ _ _ h hR (lv_sub hl [] rfl)
                    · replace h := rz_t c_19 h
                      exact tM_doOther_163 F hC x_10 (mI M_7 a_12 ((mI M_7 a0 38) - 1).toNatClampNeg) ((mI M_7 a0 38) - 1) (mP M_7 a0 39) _ _ _ _ _ _ h hR (lv_sub hl [1, 0] rfl)
                · replace h := rz_t c_17 h
                  exact tM_doOther_145 F hC x_10 (mI M_7 a_12 ((mI M_7 a0 38) - 1).toNatClampNeg) ((mI M_7 a0 38) - 1) (mP M_7 a0 39) _ _ _ _ _ _ h hR (lv_sub hl [1, 0] rfl)
            · cases ev.symm.trans ee2
          · rcases h with ⟨v2, ev2, -⟩ | ⟨e2, ee2, h⟩
            · cases ex.symm.trans ev2
            · cases ex.symm.trans ee2
              cases h
              exact rt_x hlk hex hR g1 g2 g3
        · replace h := rz_t c_5 h
          refine lv_aload_n hx hb dM_doOther_79 rfl (lv_at hl 1 rfl) ?_
          refine rg_getP hx hb hown hK hR hk_M 39 (by decide) kf_M_57 rfl c_1 dM_doOther_80 ?_
          refine lv_aload_n hx hb dM_doOther_83 rfl (lv_at hl 1 rfl) ?_
          refine rg_getI hx hb hown hK hR hk_M 38 (by decide) kf_M_206 rfl c_1 dM_doOther_84 ?_
          refine lv_iconst (v := 1) hx hb dM_doOther_87 (by decide) ?_
          refine lv_isub hx hb dM_doOther_88 ?_
          refine lv_iconst (v := 1) hx hb dM_doOther_89 (by decide) ?_
          refine lv_aload_n hx hb dM_doOther_90 rfl (lv_at hl 1 rfl) ?_
          refine rg_getP hx hb hown hK hR hk_M 39 (by decide) kf_M_57 rfl c_1 dM_doOther_91 ?_
          refine lv_aload_n hx hb dM_doOther_94 rfl (lv_at hl 1 rfl) ?_
          refine rg_getI hx hb hown hK hR hk_M 38 (by decide) kf_M_206 rfl c_1 dM_doOther_95 ?_
          refine lv_iconst (v := 1) hx hb dM_doOther_98 (by decide) ?_
          refine lv_isub hx hb dM_doOther_99 ?_
          obtain ⟨a_25, e_26, h⟩ := rz_d h
          rw [e_26]
          obtain ⟨c_27, h⟩ := rz_chk h
          obtain ⟨c_28, h⟩ := rz_chk h
          refine rg_iald hx hb hK hR c_27 c_28 dM_doOther_100 ?_
          refine lv_isub hx hb dM_doOther_101 ?_
          obtain ⟨c_29, h⟩ := rz_chk h
          obtain ⟨M_30, q_31, h⟩ := rz_m h
          refine rg_iast hx hb hK hR c_27 c_29 dM_doOther_102 (fun H locs hR => ?_)
          rw [← q_31] at hR
          have c_32 : mK M_30 a0 = 5 := by rw [q_31]; exact c_1
          have c_33 : mK M_30 a_25 = 21 := by rw [q_31]; exact c_27
          refine lv_goto (tgt := 225) hx hb dM_doOther_103 (by decide) ?_
          exact tM_doOther_225 F hC _ _ _ _ _ _ h hR (lv_sub hl [] rfl)
      · replace h := rz_t c_4 h
        refine lv_aload_n hx hb dM_doOther_45 rfl (lv_at hl 1 rfl) ?_
        refine rg_getP hx hb hown hK hR hk_M 39 (by decide) kf_M_57 rfl c_1 dM_doOther_46 ?_
        refine lv_aload_n hx hb dM_doOther_49 rfl (lv_at hl 1 rfl) ?_
        refine rg_getI hx hb hown hK hR hk_M 38 (by decide) kf_M_206 rfl c_1 dM_doOther_50 ?_
        refine lv_iconst (v := 1) hx hb dM_doOther_53 (by decide) ?_
        refine lv_isub hx hb dM_doOther_54 ?_
        refine lv_iload_n hx hb dM_doOther_55 rfl (lv_at hl 0 rfl) ?_
        refine lv_aload_n hx hb dM_doOther_56 rfl (lv_at hl 1 rfl) ?_
        refine rg_getP hx hb hown hK hR hk_M 39 (by decide) kf_M_57 rfl c_1 dM_doOther_57 ?_
        refine lv_aload_n hx hb dM_doOther_60 rfl (lv_at hl 1 rfl) ?_
        refine rg_getI hx hb hown hK hR hk_M 38 (by decide) kf_M_206 rfl c_1 dM_doOther_61 ?_
        refine lv_iconst (v := 1) hx hb dM_doOther_64 (by decide) ?_
        refine lv_isub hx hb dM_doOther_65 ?_
        obtain ⟨a_34, e_35, h⟩ := rz_d h
        rw [e_35]
        obtain ⟨c_36, h⟩ := rz_chk h
        obtain ⟨c_37, h⟩ := rz_chk h
        refine rg_iald hx hb hK hR c_36 c_37 dM_doOther_66 ?_
        refine lv_iconst (v := (-1)) hx hb dM_doOther_67 (by decide) ?_
        refine lv_ixor hx hb dM_doOther_68 ?_
        refine lv_iand hx hb dM_doOther_69 ?_
        obtain ⟨c_38, h⟩ := rz_chk h
        obtain ⟨M_39, q_40, h⟩ := rz_m h
        refine rg_iast hx hb hK hR c_36 c_38 dM_doOther_70 (fun H locs hR => ?_)
        rw [← q_40] at hR
        have c_41 : mK M_39 a0 = 5 := by rw [q_40]; exact c_1
        have c_42 : mK M_39 a_34 = 21 := by rw [q_40]; exact c_36
        refine lv_goto (tgt := 225) hx hb dM_doOther_71 (by decide) ?_
        exact tM_doOther_225 F hC _ _ _ _ _ _ h hR (lv_sub hl [] rfl)
    · replace h := rz_t c_3 h
      exact tM_doOther_21 F hC a0 x1 ((1 <<< ((mI M a0 35) &&& 31)) - 1) _ _ _ _ _ _ h hR (lv_sub hl [1, 2, 0] rfl)
set_option maxRecDepth 100000 in
set_option maxHeartbeats 4000000 in
theorem sM_doOther {l : Launch} {G : Gx} {n d : Nat} {C : Cx} (hC : CBs l G d C) (a0 : Nat) (x1 : Int32) {M M' : Mem} {r : Option Value ⊕ Nat} (h : fM_doOther_0 n d C a0 x1 M = some (r, M')) : CB l G (d + 1) yM_doOther [.ref a0, .int x1] M r M' := by
  intro p e R s m below meth c hx hn hm hc hlk hK hR hcap hS hU hfr hlo hrc hrs
  obtain ⟨hb, hml, hrt, hex, hown⟩ := fx_of hn hm hc (hK.w mfM_doOther.2.2.1 rfl #[])
  have F : FX p s m meth c G R M d "HeadCountModel" bM_doOther 5 none := ⟨hx, hb, hml, hown, hrt, hlk, hex, hK, hfr, hlo, by rw [← hcap]; exact hrc, hrs⟩
  rw [hml]
  have hl := lv_entry ([.ref a0, .int x1]) (n := 5) (by simp [lg_sl, cat_rf, Value.category])
  rw [lg_entry_eq]
  generalize (lg_sl ([.ref a0, .int x1]) ++ List.replicate (5 - (lg_sl ([.ref a0, .int x1])).length) Slot.unset).toArray = ls at hl ⊢
  have hl : lv_has ls 5 [(0, .ref a0), (1, .int x1)] := by simpa [lv_args, cat_rf, Value.category] using hl
  exact tM_doOther_0 F hC a0 x1 _ _ _ _ _ _ h (RL.start hR hcap hS hU) (lv_sub hl [0, 1] rfl)
def fM_fails_45 (n d : Nat) (C : Cx) (k20 : Nat → Int32 → Int32 → Mem → Rz) (a0 : Nat) (x2 : Int32) (xs0 : Int32) (M : Mem) : Rz := k20 a0 xs0 (x2 + (-1)) M
set_option maxRecDepth 100000 in
set_option maxHeartbeats 4000000 in
theorem tM_fails_45 {n : Nat} {k20 : Nat → Int32 → Int32 → Mem → Rz} (F : FX p s m meth c G R M0 d "HeadCountModel" bM_fails 3 (some .int)) (hC : CBs l G d C) (hk20 : ∀ (a0 : Nat) (x1 : Int32) (x2 : Int32) (M : Mem) (H : Heap) (locs : List Loc) (cells slots : Nat) (ls : Array Slot), k20 a0 x1 x2 M = some (r, M') → RL G M0 M H locs cells slots → lv_has ls 3 [(0, .ref a0), (1, .int x1), (2, .int x2)] → W p l e R s m args below meth c H locs cells slots (CQ G below s M0 r M') (F0 m 20 ls [])) : ∀ (a0 : Nat) (x2 : Int32) (xs0 : Int32) (M : Mem) (H : Heap) (locs : List Loc) (cells slots : Nat) (ls : Array Slot), fM_fails_45 n d C k20 a0 x2 xs0 M = some (r, M') → RL G M0 M H locs cells slots → lv_has ls 3 [(0, .ref a0), (2, .int x2)] → W p l e R s m args below meth c H locs cells slots (CQ G below s M0 r M') (F0 m 45 ls [.int xs0]) := by
  obtain ⟨hx, hb, hml, hown, hrt, hlk, hex, hK, hRm⟩ := id F
  intro a0 x2 xs0 M H locs cells slots ls h hR hl
  unfold fM_fails_45 at h
  refine lv_istore_n (lv' := [(1, .int xs0), (0, .ref a0), (2, .int x2)]) hx hb dM_fails_45 rfl hl (by decide) rfl (fun ls hl => ?_)
  refine lv_iinc (k := 2) (v := x2 + (-1)) (lv' := [(2, .int (x2 + (-1))), (1, .int xs0), (0, .ref a0)]) hx hb dM_fails_46 hl rfl (by rw [show Int32.ofInt (-1) = (-1) from by decide]) (by decide) rfl (fun ls hl => ?_)
  refine lv_goto (tgt := 20) hx hb dM_fails_49 (by decide) ?_
  exact hk20 a0 xs0 (x2 + (-1)) _ _ _ _ _ _ h hR (lv_sub hl [2, 1, 0] rfl)
def fM_fails_64 (n d : Nat) (C : Cx) (xs0 : Int32) (M : Mem) : Rz := some (.inl (some (.int xs0)), M)
set_option maxRecDepth 100000 in
set_option maxHeartbeats 4000000 in
theorem tM_fails_64 {n : Nat} (F : FX p s m meth c G R M0 d "HeadCountModel" bM_fails 3 (some .int)) (hC : CBs l G d C) : ∀ (xs0 : Int32) (M : Mem) (H : Heap) (locs : List Loc) (cells slots : Nat) (ls : Array Slot), fM_fails_64 n d C xs0 M = some (r, M') → RL G M0 M H locs cells slots → lv_has ls 3 [] → W p l e R s m args below meth c H locs cells slots (CQ G below s M0 r M') (F0 m 64 ls [.int xs0]) := by
  obtain ⟨hx, hb, hml, hown, hrt, hlk, hex, hK, hRm⟩ := id F
  intro xs0 M H locs cells slots ls h hR hl
  unfold fM_fails_64 at h
  cases h
  exact rt_i hx hb hlk hrt (Or.inl rfl) rfl hR dM_fails_64
def fM_fails_52 (n d : Nat) (C : Cx) (a0 : Nat) (x1 : Int32) (M : Mem) : Rz := if mK M a0 = 5 then (if (mI M a0 0) = 0 then (fM_fails_64 n d C x1 M) else (fM_fails_64 n d C 0 M)) else none
set_option maxRecDepth 100000 in
set_option maxHeartbeats 4000000 in
theorem tM_fails_52 {n : Nat} (F : FX p s m meth c G R M0 d "HeadCountModel" bM_fails 3 (some .int)) (hC : CBs l G d C) : ∀ (a0 : Nat) (x1 : Int32) (M : Mem) (H : Heap) (locs : List Loc) (cells slots : Nat) (ls : Array Slot), fM_fails_52 n d C a0 x1 M = some (r, M') → RL G M0 M H locs cells slots → lv_has ls 3 [(0, .ref a0), (1, .int x1)] → W p l e R s m args below meth c H locs cells slots (CQ G below s M0 r M') (F0 m 52 ls []) := by
  obtain ⟨hx, hb, hml, hown, hrt, hlk, hex, hK, hRm⟩ := id F
  intro a0 x1 M H locs cells slots ls h hR hl
  unfold fM_fails_52 at h
  refine lv_aload_n hx hb dM_fails_52 rfl (lv_at hl 0 rfl) ?_
  obtain ⟨c_1, h⟩ := rz_chk h
  refine rg_getI hx hb hown hK hR hk_M 0 (by decide) kf_M_60 rfl c_1 dM_fails_53 ?_
  refine lv_if_ne (tgt := 63) hx hb dM_fails_56 (by decide) (fun c_2 => ?_) (fun c_2 => ?_)
  · replace h := rz_f c_2 h
    refine lv_iconst (v := 0) hx hb dM_fails_63 (by decide) ?_
    exact tM_fails_64 F hC 0 _ _ _ _ _ _ h hR (lv_sub hl [] rfl)
  · replace h := rz_t c_2 h
    refine lv_iload_n hx hb dM_fails_59 rfl (lv_at hl 1 rfl) ?_
    refine lv_goto (tgt := 64) hx hb dM_fails_60 (by decide) ?_
    exact tM_fails_64 F hC x1 _ _ _ _ _ _ h hR (lv_sub hl [] rfl)
def fM_fails_20 (n d : Nat) (C : Cx) : Nat → Nat → Int32 → Int32 → Mem → Rz
  | 0, _, _, _, _ => none
  | w + 1, a0, x1, x2, M => if x2 < 0 then (fM_fails_52 n d C a0 x1 M) else (if mK M a0 = 5 then (if (mI M a0 0) = 0 then (rzC (C 96 [.ref a0, .int x2, .int 0] M) fun v_4 M_5 => (rzI v_4 fun x_8 => (if x_8 = 0 then (fM_fails_45 n d C (fM_fails_20 n d C w) a0 x2 x2 M_5) else (fM_fails_45 n d C (fM_fails_20 n d C w) a0 x2 x1 M_5)))) else (fM_fails_52 n d C a0 x1 M)) else none)
set_option maxRecDepth 100000 in
set_option maxHeartbeats 4000000 in
theorem tM_fails_20 {n : Nat} (F : FX p s m meth c G R M0 d "HeadCountModel" bM_fails 3 (some .int)) (hC : CBs l G d C) : ∀ (w : Nat) (a0 : Nat) (x1 : Int32) (x2 : Int32) (M : Mem) (H : Heap) (locs : List Loc) (cells slots : Nat) (ls : Array Slot), fM_fails_20 n d C w a0 x1 x2 M = some (r, M') → RL G M0 M H locs cells slots → lv_has ls 3 [(0, .ref a0), (1, .int x1), (2, .int x2)] → W p l e R s m args below meth c H locs cells slots (CQ G below s M0 r M') (F0 m 20 ls []) := by
  obtain ⟨hx, hb, hml, hown, hrt, hlk, hex, hK, hRm⟩ := id F
  intro w
  induction w with
  | zero => intro a0 x1 x2 M H locs cells slots ls h; cases h
  | succ w ih =>
    intro a0 x1 x2 M H locs cells slots ls h hR hl
    rw [fM_fails_20] at h
    refine lv_iload_n hx hb dM_fails_20 rfl (lv_at hl 2 rfl) ?_
    refine lv_if_lt (tgt := 52) hx hb dM_fails_21 (by decide) (fun c_1 => ?_) (fun c_1 => ?_)
    · replace h := rz_t c_1 h
      exact tM_fails_52 F hC a0 x1 _ _ _ _ _ _ h hR (lv_sub hl [0, 1] rfl)
    · replace h := rz_f c_1 h
      refine lv_aload_n hx hb dM_fails_24 rfl (lv_at hl 0 rfl) ?_
      obtain ⟨c_2, h⟩ := rz_chk h
      refine rg_getI hx hb hown hK hR hk_M 0 (by decide) kf_M_60 rfl c_2 dM_fails_25 ?_
      refine lv_if_ne (tgt := 52) hx hb dM_fails_28 (by decide) (fun c_3 => ?_) (fun c_3 => ?_)
      · replace h := rz_f c_3 h
        exact tM_fails_52 F hC a0 x1 _ _ _ _ _ _ h hR (lv_sub hl [0, 1] rfl)
      · replace h := rz_t c_3 h
        refine lv_aload_n hx hb dM_fails_31 rfl (lv_at hl 0 rfl) ?_
        refine lv_iload_n hx hb dM_fails_32 rfl (lv_at hl 2 rfl) ?_
        refine lv_iconst (v := 0) hx hb dM_fails_33 (by decide) ?_
        obtain ⟨q_7, M_5, h_6, h⟩ := rz_c h
        refine rc_V (rest := []) (As := [.int x2, .int 0]) hx hb (hl.1.trans hml.symm) hown hK hR hRm mfM_run kl_M_241 hk_M rfl rfl c_2 (by simp [cat_rf, Value.category]) (hC 96 _ _ _ _ h_6) dM_fails_34 (fun v1 H locs cells slots ev hR => ?_) (fun x1 q1 ce1 H locs cells slots ex hR g1 g2 g3 => ?_)
        · rcases h with ⟨v_4, ev2, h⟩ | ⟨e2, ee2, -⟩
          · cases ev.symm.trans ev2
            replace h := rz_i h
            obtain ⟨x_8, rfl, h⟩ := h
            dsimp only [Option.toList, List.cons_append, List.nil_append]
            refine lv_if_eq (tgt := 44) hx hb dM_fails_37 (by decide) (fun c_9 => ?_) (fun c_9 => ?_)
            · replace h := rz_t c_9 h
              refine lv_iload_n hx hb dM_fails_44 rfl (lv_at hl 2 rfl) ?_
              exact tM_fails_45 F hC ih a0 x2 x2 _ _ _ _ _ _ h hR (lv_sub hl [0, 2] rfl)
            · replace h := rz_f c_9 h
              refine lv_iload_n hx hb dM_fails_40 rfl (lv_at hl 1 rfl) ?_
              refine lv_goto (tgt := 45) hx hb dM_fails_41 (by decide) ?_
              exact tM_fails_45 F hC ih a0 x2 x1 _ _ _ _ _ _ h hR (lv_sub hl [0, 2] rfl)
          · cases ev.symm.trans ee2
        · rcases h with ⟨v2, ev2, -⟩ | ⟨e2, ee2, h⟩
          · cases ex.symm.trans ev2
          · cases ex.symm.trans ee2
            cases h
            exact rt_x hlk hex hR g1 g2 g3
def fM_fails_13 (n d : Nat) (C : Cx) (a0 : Nat) (xs0 : Int32) (as1 : Nat) (M : Mem) : Rz := if mK M as1 = 5 then (rzM (setI M as1 0 xs0) fun M_2 => (fM_fails_20 n d C n a0 ((-1)) 4 M_2)) else none
set_option maxRecDepth 100000 in
set_option maxHeartbeats 4000000 in
theorem tM_fails_13 {n : Nat} (F : FX p s m meth c G R M0 d "HeadCountModel" bM_fails 3 (some .int)) (hC : CBs l G d C) : ∀ (a0 : Nat) (xs0 : Int32) (as1 : Nat) (M : Mem) (H : Heap) (locs : List Loc) (cells slots : Nat) (ls : Array Slot), fM_fails_13 n d C a0 xs0 as1 M = some (r, M') → RL G M0 M H locs cells slots → lv_has ls 3 [(0, .ref a0)] → W p l e R s m args below meth c H locs cells slots (CQ G below s M0 r M') (F0 m 13 ls [.int xs0, .ref as1]) := by
  obtain ⟨hx, hb, hml, hown, hrt, hlk, hex, hK, hRm⟩ := id F
  intro a0 xs0 as1 M H locs cells slots ls h hR hl
  unfold fM_fails_13 at h
  obtain ⟨c_1, h⟩ := rz_chk h
  obtain ⟨M_2, q_3, h⟩ := rz_m h
  refine rg_putI hx hb hown hK hR hk_M 0 (by decide) kf_M_60 rfl rfl (ty := .int) (by decide +kernel) (Or.inl rfl) rfl c_1 dM_fails_13 (fun H locs hR => ?_)
  rw [← q_3] at hR
  have c_4 : mK M_2 as1 = 5 := by rw [q_3]; exact c_1
  refine lv_iconst (v := (-1)) hx hb dM_fails_16 (by decide) ?_
  refine lv_istore_n (lv' := [(1, .int ((-1))), (0, .ref a0)]) hx hb dM_fails_17 rfl hl (by decide) rfl (fun ls hl => ?_)
  refine lv_iconst (v := 4) hx hb dM_fails_18 (by decide) ?_
  refine lv_istore_n (lv' := [(2, .int 4), (1, .int ((-1))), (0, .ref a0)]) hx hb dM_fails_19 rfl hl (by decide) rfl (fun ls hl => ?_)
  exact tM_fails_20 F hC n a0 ((-1)) 4 _ _ _ _ _ _ h hR (lv_sub hl [2, 1, 0] rfl)
def fM_fails_0 (n d : Nat) (C : Cx) (a0 : Nat) (M : Mem) : Rz := if mK M a0 = 5 then (if (mI M a0 3) = 0 then (fM_fails_13 n d C a0 1 a0 M) else (fM_fails_13 n d C a0 0 a0 M)) else none
set_option maxRecDepth 100000 in
set_option maxHeartbeats 4000000 in
theorem tM_fails_0 {n : Nat} (F : FX p s m meth c G R M0 d "HeadCountModel" bM_fails 3 (some .int)) (hC : CBs l G d C) : ∀ (a0 : Nat) (M : Mem) (H : Heap) (locs : List Loc) (cells slots : Nat) (ls : Array Slot), fM_fails_0 n d C a0 M = some (r, M') → RL G M0 M H locs cells slots → lv_has ls 3 [(0, .ref a0)] → W p l e R s m args below meth c H locs cells slots (CQ G below s M0 r M') (F0 m 0 ls []) := by
  obtain ⟨hx, hb, hml, hown, hrt, hlk, hex, hK, hRm⟩ := id F
  intro a0 M H locs cells slots ls h hR hl
  unfold fM_fails_0 at h
  refine lv_aload_n hx hb dM_fails_0 rfl (lv_at hl 0 rfl) ?_
  refine lv_aload_n hx hb dM_fails_1 rfl (lv_at hl 0 rfl) ?_
  obtain ⟨c_1, h⟩ := rz_chk h
  refine rg_getI hx hb hown hK hR hk_M 3 (by decide) kf_M_194 rfl c_1 dM_fails_2 ?_
  refine lv_if_eq (tgt := 12) hx hb dM_fails_5 (by decide) (fun c_2 => ?_) (fun c_2 => ?_)
  · replace h := rz_t c_2 h
    refine lv_iconst (v := 1) hx hb dM_fails_12 (by decide) ?_
    exact tM_fails_13 F hC a0 1 a0 _ _ _ _ _ _ h hR (lv_sub hl [0] rfl)
  · replace h := rz_f c_2 h
    refine lv_iconst (v := 0) hx hb dM_fails_8 (by decide) ?_
    refine lv_goto (tgt := 13) hx hb dM_fails_9 (by decide) ?_
    exact tM_fails_13 F hC a0 0 a0 _ _ _ _ _ _ h hR (lv_sub hl [0] rfl)
set_option maxRecDepth 100000 in
set_option maxHeartbeats 4000000 in
theorem sM_fails {l : Launch} {G : Gx} {n d : Nat} {C : Cx} (hC : CBs l G d C) (a0 : Nat) {M M' : Mem} {r : Option Value ⊕ Nat} (h : fM_fails_0 n d C a0 M = some (r, M')) : CB l G (d + 1) yM_fails [.ref a0] M r M' := by
  intro p e R s m below meth c hx hn hm hc hlk hK hR hcap hS hU hfr hlo hrc hrs
  obtain ⟨hb, hml, hrt, hex, hown⟩ := fx_of hn hm hc (hK.w mfM_fails.2.2.1 rfl #[])
  have F : FX p s m meth c G R M d "HeadCountModel" bM_fails 3 (some .int) := ⟨hx, hb, hml, hown, hrt, hlk, hex, hK, hfr, hlo, by rw [← hcap]; exact hrc, hrs⟩
  rw [hml]
  have hl := lv_entry ([.ref a0]) (n := 3) (by simp [lg_sl, cat_rf, Value.category])
  rw [lg_entry_eq]
  generalize (lg_sl ([.ref a0]) ++ List.replicate (3 - (lg_sl ([.ref a0])).length) Slot.unset).toArray = ls at hl ⊢
  have hl : lv_has ls 3 [(0, .ref a0)] := by simpa [lv_args, cat_rf, Value.category] using hl
  exact tM_fails_0 F hC a0 _ _ _ _ _ _ h (RL.start hR hcap hS hU) (lv_sub hl [0] rfl)
def fM_ways_68 (n d : Nat) (C : Cx) (xs0 : Int32) (M : Mem) : Rz := some (.inl (some (.int xs0)), M)
set_option maxRecDepth 100000 in
set_option maxHeartbeats 4000000 in
theorem tM_ways_68 {n : Nat} (F : FX p s m meth c G R M0 d "HeadCountModel" bM_ways 4 (some .int)) (hC : CBs l G d C) : ∀ (xs0 : Int32) (M : Mem) (H : Heap) (locs : List Loc) (cells slots : Nat) (ls : Array Slot), fM_ways_68 n d C xs0 M = some (r, M') → RL G M0 M H locs cells slots → lv_has ls 4 [] → W p l e R s m args below meth c H locs cells slots (CQ G below s M0 r M') (F0 m 68 ls [.int xs0]) := by
  obtain ⟨hx, hb, hml, hown, hrt, hlk, hex, hK, hRm⟩ := id F
  intro xs0 M H locs cells slots ls h hR hl
  unfold fM_ways_68 at h
  cases h
  exact rt_i hx hb hlk hrt (Or.inl rfl) rfl hR dM_ways_68
def fM_ways_24 (n d : Nat) (C : Cx) (a0 : Nat) (x1 : Int32) (xs0 : Int32) (as1 : Nat) (M : Mem) : Rz := if mK M as1 = 5 then (rzM (setI M as1 0 xs0) fun M_2 => (if mK M_2 a0 = 5 then (if (mI M_2 a0 0) ≤ 0 then (rzC (C 106 [.ref a0] M_2) fun v_7 M_8 => (rzI v_7 fun x_11 => (if mK M_8 a0 = 5 then (rzC (C 96 [.ref a0, .int x1, .int x_11] M_8) fun v_13 M_14 => (rzI v_13 fun x_17 => (if x_11 = 0 then (if x_17 = 0 then (fM_ways_68 n d C 0 M_14) else (fM_ways_68 n d C 1 M_14)) else (if mK M_14 a0 = 5 then (fM_ways_68 n d C (mI M_14 a0 40) M_14) else none)))) else none))) else (some (.inl (some (.int 0)), M_2))) else none)) else none
set_option maxRecDepth 100000 in
set_option maxHeartbeats 4000000 in
theorem tM_ways_24 {n : Nat} (F : FX p s m meth c G R M0 d "HeadCountModel" bM_ways 4 (some .int)) (hC : CBs l G d C) : ∀ (a0 : Nat) (x1 : Int32) (xs0 : Int32) (as1 : Nat) (M : Mem) (H : Heap) (locs : List Loc) (cells slots : Nat) (ls : Array Slot), fM_ways_24 n d C a0 x1 xs0 as1 M = some (r, M') → RL G M0 M H locs cells slots → lv_has ls 4 [(0, .ref a0), (1, .int x1)] → W p l e R s m args below meth c H locs cells slots (CQ G below s M0 r M') (F0 m 24 ls [.int xs0, .ref as1]) := by
  obtain ⟨hx, hb, hml, hown, hrt, hlk, hex, hK, hRm⟩ := id F
  intro a0 x1 xs0 as1 M H locs cells slots ls h hR hl
  unfold fM_ways_24 at h
  obtain ⟨c_1, h⟩ := rz_chk h
  obtain ⟨M_2, q_3, h⟩ := rz_m h
  refine rg_putI hx hb hown hK hR hk_M 0 (by decide) kf_M_60 rfl rfl (ty := .int) (by decide +kernel) (Or.inl rfl) rfl c_1 dM_ways_24 (fun H locs hR => ?_)
  rw [← q_3] at hR
  have c_4 : mK M_2 as1 = 5 := by rw [q_3]; exact c_1
  refine lv_aload_n hx hb dM_ways_27 rfl (lv_at hl 0 rfl) ?_
  obtain ⟨c_5, h⟩ := rz_chk h
  refine rg_getI hx hb hown hK hR hk_M 0 (by decide) kf_M_60 rfl c_5 dM_ways_28 ?_
  refine lv_if_le (tgt := 36) hx hb dM_ways_31 (by decide) (fun c_6 => ?_) (fun c_6 => ?_)
  · replace h := rz_t c_6 h
    refine lv_aload_n hx hb dM_ways_36 rfl (lv_at hl 0 rfl) ?_
    obtain ⟨q_10, M_8, h_9, h⟩ := rz_c h
    refine rc_V (rest := []) (As := []) hx hb (hl.1.trans hml.symm) hown hK hR hRm mfM_isLoop kl_M_245 hk_M rfl rfl c_5 (by simp [cat_rf, Value.category]) (hC 106 _ _ _ _ h_9) dM_ways_37 (fun v1 H locs cells slots ev hR => ?_) (fun x1 q1 ce1 H locs cells slots ex hR g1 g2 g3 => ?_)
    · rcases h with ⟨v_7, ev2, h⟩ | ⟨e2, ee2, -⟩
      · cases ev.symm.trans ev2
        replace h := rz_i h
        obtain ⟨x_11, rfl, h⟩ := h
        dsimp only [Option.toList, List.cons_append, List.nil_append]
        refine lv_istore_n (lv' := [(2, .int x_11), (0, .ref a0), (1, .int x1)]) hx hb dM_ways_40 rfl hl (by decide) rfl (fun ls hl => ?_)
        refine lv_aload_n hx hb dM_ways_41 rfl (lv_at hl 1 rfl) ?_
        refine lv_iload_n hx hb dM_ways_42 rfl (lv_at hl 2 rfl) ?_
        refine lv_iload_n hx hb dM_ways_43 rfl (lv_at hl 0 rfl) ?_
        obtain ⟨c_12, h⟩ := rz_chk h
        obtain ⟨q_16, M_14, h_15, h⟩ := rz_c h
        refine rc_V (rest := []) (As := [.int x1, .int x_11]) hx hb (hl.1.trans hml.symm) hown hK hR hRm mfM_run kl_M_241 hk_M rfl rfl c_12 (by simp [cat_rf, Value.category]) (hC 96 _ _ _ _ h_15) dM_ways_44 (fun v1 H locs cells slots ev hR => ?_) (fun x1 q1 ce1 H locs cells slots ex hR g1 g2 g3 => ?_)
        · rcases h with ⟨v_13, ev2, h⟩ | ⟨e2, ee2, -⟩
          · cases ev.symm.trans ev2
            replace h := rz_i h
            obtain ⟨x_17, rfl, h⟩ := h
            dsimp only [Option.toList, List.cons_append, List.nil_append]
            refine lv_istore_n (lv' := [(3, .int x_17), (2, .int x_11), (0, .ref a0), (1, .int x1)]) hx hb dM_ways_47 rfl hl (by decide) rfl (fun ls hl => ?_)
            refine lv_iload_n hx hb dM_ways_48 rfl (lv_at hl 1 rfl) ?_
            refine lv_if_eq (tgt := 59) hx hb dM_ways_49 (by decide) (fun c_18 => ?_) (fun c_18 => ?_)
            · replace h := rz_t c_18 h
              refine lv_iload_n hx hb dM_ways_59 rfl (lv_at hl 0 rfl) ?_
              refine lv_if_eq (tgt := 67) hx hb dM_ways_60 (by decide) (fun c_19 => ?_) (fun c_19 => ?_)
              · replace h := rz_t c_19 h
                refine lv_iconst (v := 0) hx hb dM_ways_67 (by decide) ?_
                exact tM_ways_68 F hC 0 _ _ _ _ _ _ h hR (lv_sub hl [] rfl)
              · replace h := rz_f c_19 h
                refine lv_iconst (v := 1) hx hb dM_ways_63 (by decide) ?_
                refine lv_goto (tgt := 68) hx hb dM_ways_64 (by decide) ?_
                exact tM_ways_68 F hC 1 _ _ _ _ _ _ h hR (lv_sub hl [] rfl)
            · replace h := rz_f c_18 h
              refine lv_aload_n hx hb dM_ways_52 rfl (lv_at hl 2 rfl) ?_
              obtain ⟨c_20, h⟩ := rz_chk h
              refine rg_getI hx hb hown hK hR hk_M 40 (by decide) kf_M_222 rfl c_20 dM_ways_53 ?_
              refine lv_goto (tgt := 68) hx hb dM_ways_56 (by decide) ?_
              exact tM_ways_68 F hC (mI M_14 a0 40) _ _ _ _ _ _ h hR (lv_sub hl [] rfl)
          · cases ev.symm.trans ee2
        · rcases h with ⟨v2, ev2, -⟩ | ⟨e2, ee2, h⟩
          · cases ex.symm.trans ev2
          · cases ex.symm.trans ee2
            cases h
            exact rt_x hlk hex hR g1 g2 g3
      · cases ev.symm.trans ee2
    · rcases h with ⟨v2, ev2, -⟩ | ⟨e2, ee2, h⟩
      · cases ex.symm.trans ev2
      · cases ex.symm.trans ee2
        cases h
        exact rt_x hlk hex hR g1 g2 g3
  · replace h := rz_f c_6 h
    refine lv_iconst (v := 0) hx hb dM_ways_34 (by decide) ?_
    cases h
    exact rt_i hx hb hlk hrt (Or.inl rfl) rfl hR dM_ways_35
def fM_ways_0 (n d : Nat) (C : Cx) (a0 : Nat) (x1 : Int32) (M : Mem) : Rz := if mK M a0 = 5 then (if (mI M a0 3) = 0 then (fM_ways_24 n d C a0 x1 1 a0 M) else (rzC (C 95 [.int x1] M) fun v_3 M_4 => (rzI v_3 fun x_7 => (if x_7 = 0 then (fM_ways_24 n d C a0 x1 2 a0 M_4) else (fM_ways_24 n d C a0 x1 0 a0 M_4))))) else none
set_option maxRecDepth 100000 in
set_option maxHeartbeats 4000000 in
theorem tM_ways_0 {n : Nat} (F : FX p s m meth c G R M0 d "HeadCountModel" bM_ways 4 (some .int)) (hC : CBs l G d C) : ∀ (a0 : Nat) (x1 : Int32) (M : Mem) (H : Heap) (locs : List Loc) (cells slots : Nat) (ls : Array Slot), fM_ways_0 n d C a0 x1 M = some (r, M') → RL G M0 M H locs cells slots → lv_has ls 4 [(0, .ref a0), (1, .int x1)] → W p l e R s m args below meth c H locs cells slots (CQ G below s M0 r M') (F0 m 0 ls []) := by
  obtain ⟨hx, hb, hml, hown, hrt, hlk, hex, hK, hRm⟩ := id F
  intro a0 x1 M H locs cells slots ls h hR hl
  unfold fM_ways_0 at h
  refine lv_aload_n hx hb dM_ways_0 rfl (lv_at hl 0 rfl) ?_
  refine lv_aload_n hx hb dM_ways_1 rfl (lv_at hl 0 rfl) ?_
  obtain ⟨c_1, h⟩ := rz_chk h
  refine rg_getI hx hb hown hK hR hk_M 3 (by decide) kf_M_194 rfl c_1 dM_ways_2 ?_
  refine lv_if_ne (tgt := 12) hx hb dM_ways_5 (by decide) (fun c_2 => ?_) (fun c_2 => ?_)
  · replace h := rz_f c_2 h
    refine lv_iload_n hx hb dM_ways_12 rfl (lv_at hl 1 rfl) ?_
    obtain ⟨q_6, M_4, h_5, h⟩ := rz_c h
    refine rc_S (rest := [.ref a0]) (As := [.int x1]) hx hb (hl.1.trans hml.symm) hown hK hR hRm mfM_isSize kl_M_238 rfl (by simp [cat_rf, Value.category]) (hC 95 _ _ _ _ h_5) dM_ways_13 (fun v1 H locs cells slots ev hR => ?_) (fun x1 q1 ce1 H locs cells slots ex hR g1 g2 g3 => ?_)
    · rcases h with ⟨v_3, ev2, h⟩ | ⟨e2, ee2, -⟩
      · cases ev.symm.trans ev2
        replace h := rz_i h
        obtain ⟨x_7, rfl, h⟩ := h
        dsimp only [Option.toList, List.cons_append, List.nil_append]
        refine lv_if_ne (tgt := 23) hx hb dM_ways_16 (by decide) (fun c_8 => ?_) (fun c_8 => ?_)
        · replace h := rz_f c_8 h
          refine lv_iconst (v := 0) hx hb dM_ways_23 (by decide) ?_
          exact tM_ways_24 F hC a0 x1 0 a0 _ _ _ _ _ _ h hR (lv_sub hl [0, 1] rfl)
        · replace h := rz_t c_8 h
          refine lv_iconst (v := 2) hx hb dM_ways_19 (by decide) ?_
          refine lv_goto (tgt := 24) hx hb dM_ways_20 (by decide) ?_
          exact tM_ways_24 F hC a0 x1 2 a0 _ _ _ _ _ _ h hR (lv_sub hl [0, 1] rfl)
      · cases ev.symm.trans ee2
    · rcases h with ⟨v2, ev2, -⟩ | ⟨e2, ee2, h⟩
      · cases ex.symm.trans ev2
      · cases ex.symm.trans ee2
        cases h
        exact rt_x hlk hex hR g1 g2 g3
  · replace h := rz_t c_2 h
    refine lv_iconst (v := 1) hx hb dM_ways_8 (by decide) ?_
    refine lv_goto (tgt := 24) hx hb dM_ways_9 (by decide) ?_
    exact tM_ways_24 F hC a0 x1 1 a0 _ _ _ _ _ _ h hR (lv_sub hl [0, 1] rfl)
set_option maxRecDepth 100000 in
set_option maxHeartbeats 4000000 in
theorem sM_ways {l : Launch} {G : Gx} {n d : Nat} {C : Cx} (hC : CBs l G d C) (a0 : Nat) (x1 : Int32) {M M' : Mem} {r : Option Value ⊕ Nat} (h : fM_ways_0 n d C a0 x1 M = some (r, M')) : CB l G (d + 1) yM_ways [.ref a0, .int x1] M r M' := by
  intro p e R s m below meth c hx hn hm hc hlk hK hR hcap hS hU hfr hlo hrc hrs
  obtain ⟨hb, hml, hrt, hex, hown⟩ := fx_of hn hm hc (hK.w mfM_ways.2.2.1 rfl #[])
  have F : FX p s m meth c G R M d "HeadCountModel" bM_ways 4 (some .int) := ⟨hx, hb, hml, hown, hrt, hlk, hex, hK, hfr, hlo, by rw [← hcap]; exact hrc, hrs⟩
  rw [hml]
  have hl := lv_entry ([.ref a0, .int x1]) (n := 4) (by simp [lg_sl, cat_rf, Value.category])
  rw [lg_entry_eq]
  generalize (lg_sl ([.ref a0, .int x1]) ++ List.replicate (4 - (lg_sl ([.ref a0, .int x1])).length) Slot.unset).toArray = ls at hl ⊢
  have hl : lv_has ls 4 [(0, .ref a0), (1, .int x1)] := by simpa [lv_args, cat_rf, Value.category] using hl
  exact tM_ways_0 F hC a0 x1 _ _ _ _ _ _ h (RL.start hR hcap hS hU) (lv_sub hl [0, 1] rfl)
def fM_isLoop_41 (n d : Nat) (C : Cx) (xs0 : Int32) (M : Mem) : Rz := if fits .boolean (.int xs0) = true then (some (.inl (some (.int xs0)), M)) else none
set_option maxRecDepth 100000 in
set_option maxHeartbeats 4000000 in
theorem tM_isLoop_41 {n : Nat} (F : FX p s m meth c G R M0 d "HeadCountModel" bM_isLoop 1 (some .boolean)) (hC : CBs l G d C) : ∀ (xs0 : Int32) (M : Mem) (H : Heap) (locs : List Loc) (cells slots : Nat) (ls : Array Slot), fM_isLoop_41 n d C xs0 M = some (r, M') → RL G M0 M H locs cells slots → lv_has ls 1 [] → W p l e R s m args below meth c H locs cells slots (CQ G below s M0 r M') (F0 m 41 ls [.int xs0]) := by
  obtain ⟨hx, hb, hml, hown, hrt, hlk, hex, hK, hRm⟩ := id F
  intro xs0 M H locs cells slots ls h hR hl
  unfold fM_isLoop_41 at h
  obtain ⟨c_1, h⟩ := rz_chk h
  cases h
  exact rt_i hx hb hlk hrt (Or.inr (Or.inr rfl)) c_1 hR dM_isLoop_41
def fM_isLoop_40 (n d : Nat) (C : Cx) (M : Mem) : Rz := fM_isLoop_41 n d C 0 M
set_option maxRecDepth 100000 in
set_option maxHeartbeats 4000000 in
theorem tM_isLoop_40 {n : Nat} (F : FX p s m meth c G R M0 d "HeadCountModel" bM_isLoop 1 (some .boolean)) (hC : CBs l G d C) : ∀ (M : Mem) (H : Heap) (locs : List Loc) (cells slots : Nat) (ls : Array Slot), fM_isLoop_40 n d C M = some (r, M') → RL G M0 M H locs cells slots → lv_has ls 1 [] → W p l e R s m args below meth c H locs cells slots (CQ G below s M0 r M') (F0 m 40 ls []) := by
  obtain ⟨hx, hb, hml, hown, hrt, hlk, hex, hK, hRm⟩ := id F
  intro M H locs cells slots ls h hR hl
  unfold fM_isLoop_40 at h
  refine lv_iconst (v := 0) hx hb dM_isLoop_40 (by decide) ?_
  exact tM_isLoop_41 F hC 0 _ _ _ _ _ _ h hR (lv_sub hl [] rfl)
def fM_isLoop_0 (n d : Nat) (C : Cx) (a0 : Nat) (M : Mem) : Rz := if mK M a0 = 5 then (if (mI M a0 10) = 0 then (fM_isLoop_40 n d C M) else (rzD (mP M a0 6) fun a_3 => (if mK M a_3 = 21 then (if inA ((mI M a0 4) - 1) (mL M a_3) then (if (mI M a_3 ((mI M a0 4) - 1).toNatClampNeg) = 5 then (rzD (mP M a0 7) fun a_8 => (if mK M a_8 = 21 then (if inA ((mI M a0 4) - 1) (mL M a_8) then (if (mI M a_8 ((mI M a0 4) - 1).toNatClampNeg) = 0 then (fM_isLoop_41 n d C 1 M) else (fM_isLoop_40 n d C M)) else none) else none)) else (fM_isLoop_40 n d C M)) else none) else none))) else none
set_option maxRecDepth 100000 in
set_option maxHeartbeats 4000000 in
theorem tM_isLoop_0 {n : Nat} (F : FX p s m meth c G R M0 d "HeadCountModel" bM_isLoop 1 (some .boolean)) (hC : CBs l G d C) : ∀ (a0 : Nat) (M : Mem) (H : Heap) (locs : List Loc) (cells slots : Nat) (ls : Array Slot), fM_isLoop_0 n d C a0 M = some (r, M') → RL G M0 M H locs cells slots → lv_has ls 1 [(0, .ref a0)] → W p l e R s m args below meth c H locs cells slots (CQ G below s M0 r M') (F0 m 0 ls []) := by
  obtain ⟨hx, hb, hml, hown, hrt, hlk, hex, hK, hRm⟩ := id F
  intro a0 M H locs cells slots ls h hR hl
  unfold fM_isLoop_0 at h
  refine lv_aload_n hx hb dM_isLoop_0 rfl (lv_at hl 0 rfl) ?_
  obtain ⟨c_1, h⟩ := rz_chk h
  refine rg_getI hx hb hown hK hR hk_M 10 (by decide) kf_M_203 rfl c_1 dM_isLoop_1 ?_
  refine lv_if_eq (tgt := 40) hx hb dM_isLoop_4 (by decide) (fun c_2 => ?_) (fun c_2 => ?_)
  · replace h := rz_t c_2 h
    exact tM_isLoop_40 F hC _ _ _ _ _ _ h hR (lv_sub hl [] rfl)
  · replace h := rz_f c_2 h
    refine lv_aload_n hx hb dM_isLoop_7 rfl (lv_at hl 0 rfl) ?_
    refine rg_getP hx hb hown hK hR hk_M 6 (by decide) kf_M_13 rfl c_1 dM_isLoop_8 ?_
    refine lv_aload_n hx hb dM_isLoop_11 rfl (lv_at hl 0 rfl) ?_
    refine rg_getI hx hb hown hK hR hk_M 4 (by decide) kf_M_197 rfl c_1 dM_isLoop_12 ?_
    refine lv_iconst (v := 1) hx hb dM_isLoop_15 (by decide) ?_
    refine lv_isub hx hb dM_isLoop_16 ?_
    obtain ⟨a_3, e_4, h⟩ := rz_d h
    rw [e_4]
    obtain ⟨c_5, h⟩ := rz_chk h
    obtain ⟨c_6, h⟩ := rz_chk h
    refine rg_iald hx hb hK hR c_5 c_6 dM_isLoop_17 ?_
    refine lv_iconst (v := 5) hx hb dM_isLoop_18 (by decide) ?_
    refine lv_icmp_ne (tgt := 40) hx hb dM_isLoop_19 (by decide) (fun c_7 => ?_) (fun c_7 => ?_)
    · replace h := rz_f c_7 h
      exact tM_isLoop_40 F hC _ _ _ _ _ _ h hR (lv_sub hl [] rfl)
    · replace h := rz_t c_7 h
      refine lv_aload_n hx hb dM_isLoop_22 rfl (lv_at hl 0 rfl) ?_
      refine rg_getP hx hb hown hK hR hk_M 7 (by decide) kf_M_17 rfl c_1 dM_isLoop_23 ?_
      refine lv_aload_n hx hb dM_isLoop_26 rfl (lv_at hl 0 rfl) ?_
      refine rg_getI hx hb hown hK hR hk_M 4 (by decide) kf_M_197 rfl c_1 dM_isLoop_27 ?_
      refine lv_iconst (v := 1) hx hb dM_isLoop_30 (by decide) ?_
      refine lv_isub hx hb dM_isLoop_31 ?_
      obtain ⟨a_8, e_9, h⟩ := rz_d h
      rw [e_9]
      obtain ⟨c_10, h⟩ := rz_chk h
      obtain ⟨c_11, h⟩ := rz_chk h
      refine rg_iald hx hb hK hR c_10 c_11 dM_isLoop_32 ?_
      refine lv_if_ne (tgt := 40) hx hb dM_isLoop_33 (by decide) (fun c_12 => ?_) (fun c_12 => ?_)
      · replace h := rz_f c_12 h
        exact tM_isLoop_40 F hC _ _ _ _ _ _ h hR (lv_sub hl [] rfl)
      · replace h := rz_t c_12 h
        refine lv_iconst (v := 1) hx hb dM_isLoop_36 (by decide) ?_
        refine lv_goto (tgt := 41) hx hb dM_isLoop_37 (by decide) ?_
        exact tM_isLoop_41 F hC 1 _ _ _ _ _ _ h hR (lv_sub hl [] rfl)
set_option maxRecDepth 100000 in
set_option maxHeartbeats 4000000 in
theorem sM_isLoop {l : Launch} {G : Gx} {n d : Nat} {C : Cx} (hC : CBs l G d C) (a0 : Nat) {M M' : Mem} {r : Option Value ⊕ Nat} (h : fM_isLoop_0 n d C a0 M = some (r, M')) : CB l G (d + 1) yM_isLoop [.ref a0] M r M' := by
  intro p e R s m below meth c hx hn hm hc hlk hK hR hcap hS hU hfr hlo hrc hrs
  obtain ⟨hb, hml, hrt, hex, hown⟩ := fx_of hn hm hc (hK.w mfM_isLoop.2.2.1 rfl #[])
  have F : FX p s m meth c G R M d "HeadCountModel" bM_isLoop 1 (some .boolean) := ⟨hx, hb, hml, hown, hrt, hlk, hex, hK, hfr, hlo, by rw [← hcap]; exact hrc, hrs⟩
  rw [hml]
  have hl := lv_entry ([.ref a0]) (n := 1) (by simp [lg_sl, cat_rf, Value.category])
  rw [lg_entry_eq]
  generalize (lg_sl ([.ref a0]) ++ List.replicate (1 - (lg_sl ([.ref a0])).length) Slot.unset).toArray = ls at hl ⊢
  have hl : lv_has ls 1 [(0, .ref a0)] := by simpa [lv_args, cat_rf, Value.category] using hl
  exact tM_isLoop_0 F hC a0 _ _ _ _ _ _ h (RL.start hR hcap hS hU) (lv_sub hl [0] rfl)
end
end
