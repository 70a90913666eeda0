section
-- ===== PART A: goes FIRST, ahead of the names: the tables' words, and 'selects' of the private methods out of them =====
/-- a private method of a class that the tables say can be made, by its rows of tables_1 -/
def lw_okq (q : MethodName × Nat) : Prop := (q.1.cls ≠ "java/lang/invoke/MethodHandle" ∧ q.1.cls ≠ "java/lang/invoke/VarHandle") ∧ Cond.instantiable q.1.cls q.2 ∈ tables_1 ∧ Cond.privateMethod q.1 ∈ tables_1 ∧ Cond.instanceMethod q.1 ∈ tables_1
theorem lw_p0 : lw_okq (⟨"LetterExchange", "beginAsSpare", "()V"⟩, 18) := ⟨⟨by decide +kernel, by decide +kernel⟩, List.mem_of_getElem? (i := 17) (by decide +kernel), List.mem_of_getElem? (i := 322) (by decide +kernel), List.mem_of_getElem? (i := 323) (by decide +kernel)⟩
theorem lw_p1 : lw_okq (⟨"LetterExchange", "takeSpare", "()V"⟩, 18) := ⟨⟨by decide +kernel, by decide +kernel⟩, List.mem_of_getElem? (i := 17) (by decide +kernel), List.mem_of_getElem? (i := 338) (by decide +kernel), List.mem_of_getElem? (i := 339) (by decide +kernel)⟩
theorem lw_p2 : lw_okq (⟨"LetterExchange$Text", "readCount", "(LLetterExchange$State;)Z"⟩, 6) := ⟨⟨by decide +kernel, by decide +kernel⟩, List.mem_of_getElem? (i := 25) (by decide +kernel), List.mem_of_getElem? (i := 431) (by decide +kernel), List.mem_of_getElem? (i := 432) (by decide +kernel)⟩
theorem lw_p3 : lw_okq (⟨"LetterExchange$Text", "take", "()I"⟩, 6) := ⟨⟨by decide +kernel, by decide +kernel⟩, List.mem_of_getElem? (i := 25) (by decide +kernel), List.mem_of_getElem? (i := 435) (by decide +kernel), List.mem_of_getElem? (i := 436) (by decide +kernel)⟩
theorem lw_p4 : lw_okq (⟨"LetterExchange$Text", "blame", "(I)Z"⟩, 6) := ⟨⟨by decide +kernel, by decide +kernel⟩, List.mem_of_getElem? (i := 25) (by decide +kernel), List.mem_of_getElem? (i := 439) (by decide +kernel), List.mem_of_getElem? (i := 440) (by decide +kernel)⟩
theorem lw_p5 : lw_okq (⟨"LetterExchange$Text", "figure", "(II)I"⟩, 6) := ⟨⟨by decide +kernel, by decide +kernel⟩, List.mem_of_getElem? (i := 25) (by decide +kernel), List.mem_of_getElem? (i := 443) (by decide +kernel), List.mem_of_getElem? (i := 444) (by decide +kernel)⟩
theorem lw_p6 : lw_okq (⟨"LetterExchange$Text", "readEnd", "()Z"⟩, 6) := ⟨⟨by decide +kernel, by decide +kernel⟩, List.mem_of_getElem? (i := 25) (by decide +kernel), List.mem_of_getElem? (i := 448) (by decide +kernel), List.mem_of_getElem? (i := 449) (by decide +kernel)⟩
theorem lw_p7 : lw_okq (⟨"LetterExchange$Text", "readClause", "(ILLetterExchange$State;)Z"⟩, 6) := ⟨⟨by decide +kernel, by decide +kernel⟩, List.mem_of_getElem? (i := 25) (by decide +kernel), List.mem_of_getElem? (i := 452) (by decide +kernel), List.mem_of_getElem? (i := 453) (by decide +kernel)⟩
theorem lw_p8 : lw_okq (⟨"LetterExchange$Text", "readHang", "(LLetterExchange$Shape;)Z"⟩, 6) := ⟨⟨by decide +kernel, by decide +kernel⟩, List.mem_of_getElem? (i := 25) (by decide +kernel), List.mem_of_getElem? (i := 456) (by decide +kernel), List.mem_of_getElem? (i := 457) (by decide +kernel)⟩
theorem lw_p9 : lw_okq (⟨"LetterExchange$Text", "readWorth", "(LLetterExchange$State;)Z"⟩, 6) := ⟨⟨by decide +kernel, by decide +kernel⟩, List.mem_of_getElem? (i := 25) (by decide +kernel), List.mem_of_getElem? (i := 461) (by decide +kernel), List.mem_of_getElem? (i := 462) (by decide +kernel)⟩
theorem lw_p10 : lw_okq (⟨"LetterExchange", "isOpen", "()Z"⟩, 18) := ⟨⟨by decide +kernel, by decide +kernel⟩, List.mem_of_getElem? (i := 17) (by decide +kernel), List.mem_of_getElem? (i := 473) (by decide +kernel), List.mem_of_getElem? (i := 474) (by decide +kernel)⟩
theorem lw_p11 : lw_okq (⟨"LetterExchange$Graph", "fillProbe", "(LLetterExchange$Shape;)V"⟩, 13) := ⟨⟨by decide +kernel, by decide +kernel⟩, List.mem_of_getElem? (i := 200) (by decide +kernel), List.mem_of_getElem? (i := 485) (by decide +kernel), List.mem_of_getElem? (i := 486) (by decide +kernel)⟩
theorem lw_p12 : lw_okq (⟨"LetterExchange$Graph", "addProbe", "()I"⟩, 13) := ⟨⟨by decide +kernel, by decide +kernel⟩, List.mem_of_getElem? (i := 200) (by decide +kernel), List.mem_of_getElem? (i := 497) (by decide +kernel), List.mem_of_getElem? (i := 498) (by decide +kernel)⟩
theorem lw_p13 : lw_okq (⟨"LetterExchange$Graph", "load", "(I)V"⟩, 13) := ⟨⟨by decide +kernel, by decide +kernel⟩, List.mem_of_getElem? (i := 200) (by decide +kernel), List.mem_of_getElem? (i := 502) (by decide +kernel), List.mem_of_getElem? (i := 503) (by decide +kernel)⟩
theorem lw_p14 : lw_okq (⟨"LetterExchange$Graph", "spread", "(I[II)V"⟩, 13) := ⟨⟨by decide +kernel, by decide +kernel⟩, List.mem_of_getElem? (i := 200) (by decide +kernel), List.mem_of_getElem? (i := 506) (by decide +kernel), List.mem_of_getElem? (i := 507) (by decide +kernel)⟩
theorem lw_p15 : lw_okq (⟨"LetterExchange$Graph", "findLead", "(II)Z"⟩, 13) := ⟨⟨by decide +kernel, by decide +kernel⟩, List.mem_of_getElem? (i := 200) (by decide +kernel), List.mem_of_getElem? (i := 510) (by decide +kernel), List.mem_of_getElem? (i := 511) (by decide +kernel)⟩
def lw_privs_1 : List (MethodName × Nat) := [(⟨"LetterExchange", "beginAsSpare", "()V"⟩, 18), (⟨"LetterExchange", "takeSpare", "()V"⟩, 18), (⟨"LetterExchange$Text", "readCount", "(LLetterExchange$State;)Z"⟩, 6), (⟨"LetterExchange$Text", "take", "()I"⟩, 6), (⟨"LetterExchange$Text", "blame", "(I)Z"⟩, 6), (⟨"LetterExchange$Text", "figure", "(II)I"⟩, 6), (⟨"LetterExchange$Text", "readEnd", "()Z"⟩, 6), (⟨"LetterExchange$Text", "readClause", "(ILLetterExchange$State;)Z"⟩, 6), (⟨"LetterExchange$Text", "readHang", "(LLetterExchange$Shape;)Z"⟩, 6), (⟨"LetterExchange$Text", "readWorth", "(LLetterExchange$State;)Z"⟩, 6), (⟨"LetterExchange", "isOpen", "()Z"⟩, 18), (⟨"LetterExchange$Graph", "fillProbe", "(LLetterExchange$Shape;)V"⟩, 13), (⟨"LetterExchange$Graph", "addProbe", "()I"⟩, 13), (⟨"LetterExchange$Graph", "load", "(I)V"⟩, 13), (⟨"LetterExchange$Graph", "spread", "(I[II)V"⟩, 13), (⟨"LetterExchange$Graph", "findLead", "(II)Z"⟩, 13)]
theorem lw_r1 : ∀ q ∈ lw_privs_1, lw_okq q := List.forall_mem_cons.mpr ⟨lw_p0, List.forall_mem_cons.mpr ⟨lw_p1, List.forall_mem_cons.mpr ⟨lw_p2, List.forall_mem_cons.mpr ⟨lw_p3, List.forall_mem_cons.mpr ⟨lw_p4, List.forall_mem_cons.mpr ⟨lw_p5, List.forall_mem_cons.mpr ⟨lw_p6, List.forall_mem_cons.mpr ⟨lw_p7, List.forall_mem_cons.mpr ⟨lw_p8, List.forall_mem_cons.mpr ⟨lw_p9, List.forall_mem_cons.mpr ⟨lw_p10, List.forall_mem_cons.mpr ⟨lw_p11, List.forall_mem_cons.mpr ⟨lw_p12, List.forall_mem_cons.mpr ⟨lw_p13, List.forall_mem_cons.mpr ⟨lw_p14, List.forall_mem_cons.mpr ⟨lw_p15, fun _ h => absurd h List.not_mem_nil⟩⟩⟩⟩⟩⟩⟩⟩⟩⟩⟩⟩⟩⟩⟩⟩
theorem lw_p16 : lw_okq (⟨"LetterExchange$Shape", "tableAfter", "(III)I"⟩, 3) := ⟨⟨by decide +kernel, by decide +kernel⟩, List.mem_of_getElem? (i := 110) (by decide +kernel), List.mem_of_getElem? (i := 518) (by decide +kernel), List.mem_of_getElem? (i := 519) (by decide +kernel)⟩
theorem lw_p17 : lw_okq (⟨"LetterExchange$Shape", "rowAfter", "(II)I"⟩, 3) := ⟨⟨by decide +kernel, by decide +kernel⟩, List.mem_of_getElem? (i := 110) (by decide +kernel), List.mem_of_getElem? (i := 522) (by decide +kernel), List.mem_of_getElem? (i := 523) (by decide +kernel)⟩
theorem lw_p18 : lw_okq (⟨"LetterExchange$Graph", "standOfProbe", "()I"⟩, 13) := ⟨⟨by decide +kernel, by decide +kernel⟩, List.mem_of_getElem? (i := 200) (by decide +kernel), List.mem_of_getElem? (i := 532) (by decide +kernel), List.mem_of_getElem? (i := 533) (by decide +kernel)⟩
theorem lw_p19 : lw_okq (⟨"LetterExchange$Graph", "isProbe", "(I)Z"⟩, 13) := ⟨⟨by decide +kernel, by decide +kernel⟩, List.mem_of_getElem? (i := 200) (by decide +kernel), List.mem_of_getElem? (i := 536) (by decide +kernel), List.mem_of_getElem? (i := 537) (by decide +kernel)⟩
theorem lw_p20 : lw_okq (⟨"LetterExchange$Graph", "countAllLetters", "()I"⟩, 13) := ⟨⟨by decide +kernel, by decide +kernel⟩, List.mem_of_getElem? (i := 200) (by decide +kernel), List.mem_of_getElem? (i := 540) (by decide +kernel), List.mem_of_getElem? (i := 541) (by decide +kernel)⟩
theorem lw_p21 : lw_okq (⟨"LetterExchange$Graph", "isSeen", "(II)Z"⟩, 13) := ⟨⟨by decide +kernel, by decide +kernel⟩, List.mem_of_getElem? (i := 200) (by decide +kernel), List.mem_of_getElem? (i := 544) (by decide +kernel), List.mem_of_getElem? (i := 545) (by decide +kernel)⟩
theorem lw_p22 : lw_okq (⟨"LetterExchange$Walk", "add", "(III)V"⟩, 6) := ⟨⟨by decide +kernel, by decide +kernel⟩, List.mem_of_getElem? (i := 253) (by decide +kernel), List.mem_of_getElem? (i := 556) (by decide +kernel), List.mem_of_getElem? (i := 557) (by decide +kernel)⟩
theorem lw_p23 : lw_okq (⟨"LetterExchange", "isNoLetter", "(I)Z"⟩, 18) := ⟨⟨by decide +kernel, by decide +kernel⟩, List.mem_of_getElem? (i := 17) (by decide +kernel), List.mem_of_getElem? (i := 577) (by decide +kernel), List.mem_of_getElem? (i := 578) (by decide +kernel)⟩
theorem lw_p24 : lw_okq (⟨"LetterExchange", "placeNow", "(I)I"⟩, 18) := ⟨⟨by decide +kernel, by decide +kernel⟩, List.mem_of_getElem? (i := 17) (by decide +kernel), List.mem_of_getElem? (i := 590) (by decide +kernel), List.mem_of_getElem? (i := 591) (by decide +kernel)⟩
theorem lw_p25 : lw_okq (⟨"LetterExchange", "exchangesIntoSpare", "(I)Z"⟩, 18) := ⟨⟨by decide +kernel, by decide +kernel⟩, List.mem_of_getElem? (i := 17) (by decide +kernel), List.mem_of_getElem? (i := 596) (by decide +kernel), List.mem_of_getElem? (i := 597) (by decide +kernel)⟩
theorem lw_p26 : lw_okq (⟨"LetterExchange$Exchanger", "findWorth", "(LLetterExchange$State;I)Z"⟩, 2) := ⟨⟨by decide +kernel, by decide +kernel⟩, List.mem_of_getElem? (i := 69) (by decide +kernel), List.mem_of_getElem? (i := 604) (by decide +kernel), List.mem_of_getElem? (i := 605) (by decide +kernel)⟩
theorem lw_p27 : lw_okq (⟨"LetterExchange$Fraction", "isSmallInLowestTerms", "()Z"⟩, 2) := ⟨⟨by decide +kernel, by decide +kernel⟩, List.mem_of_getElem? (i := 75) (by decide +kernel), List.mem_of_getElem? (i := 620) (by decide +kernel), List.mem_of_getElem? (i := 621) (by decide +kernel)⟩
theorem lw_p28 : lw_okq (⟨"LetterExchange", "draw", "(I)I"⟩, 18) := ⟨⟨by decide +kernel, by decide +kernel⟩, List.mem_of_getElem? (i := 17) (by decide +kernel), List.mem_of_getElem? (i := 690) (by decide +kernel), List.mem_of_getElem? (i := 691) (by decide +kernel)⟩
theorem lw_p29 : lw_okq (⟨"LetterExchangeModel", "begin", "()V"⟩, 30) := ⟨⟨by decide +kernel, by decide +kernel⟩, List.mem_of_getElem? (i := 762) (by decide +kernel), List.mem_of_getElem? (i := 768) (by decide +kernel), List.mem_of_getElem? (i := 769) (by decide +kernel)⟩
theorem lw_p30 : lw_okq (⟨"LetterExchangeModel", "copyRow", "(II)V"⟩, 30) := ⟨⟨by decide +kernel, by decide +kernel⟩, List.mem_of_getElem? (i := 762) (by decide +kernel), List.mem_of_getElem? (i := 772) (by decide +kernel), List.mem_of_getElem? (i := 773) (by decide +kernel)⟩
theorem lw_p31 : lw_okq (⟨"LetterExchangeModel", "walk", "()Z"⟩, 30) := ⟨⟨by decide +kernel, by decide +kernel⟩, List.mem_of_getElem? (i := 762) (by decide +kernel), List.mem_of_getElem? (i := 871) (by decide +kernel), List.mem_of_getElem? (i := 872) (by decide +kernel)⟩
def lw_privs_2 : List (MethodName × Nat) := [(⟨"LetterExchange$Shape", "tableAfter", "(III)I"⟩, 3), (⟨"LetterExchange$Shape", "rowAfter", "(II)I"⟩, 3), (⟨"LetterExchange$Graph", "standOfProbe", "()I"⟩, 13), (⟨"LetterExchange$Graph", "isProbe", "(I)Z"⟩, 13), (⟨"LetterExchange$Graph", "countAllLetters", "()I"⟩, 13), (⟨"LetterExchange$Graph", "isSeen", "(II)Z"⟩, 13), (⟨"LetterExchange$Walk", "add", "(III)V"⟩, 6), (⟨"LetterExchange", "isNoLetter", "(I)Z"⟩, 18), (⟨"LetterExchange", "placeNow", "(I)I"⟩, 18), (⟨"LetterExchange", "exchangesIntoSpare", "(I)Z"⟩, 18), (⟨"LetterExchange$Exchanger", "findWorth", "(LLetterExchange$State;I)Z"⟩, 2), (⟨"LetterExchange$Fraction", "isSmallInLowestTerms", "()Z"⟩, 2), (⟨"LetterExchange", "draw", "(I)I"⟩, 18), (⟨"LetterExchangeModel", "begin", "()V"⟩, 30), (⟨"LetterExchangeModel", "copyRow", "(II)V"⟩, 30), (⟨"LetterExchangeModel", "walk", "()Z"⟩, 30)]
theorem lw_r2 : ∀ q ∈ lw_privs_2, lw_okq q := List.forall_mem_cons.mpr ⟨lw_p16, List.forall_mem_cons.mpr ⟨lw_p17, List.forall_mem_cons.mpr ⟨lw_p18, List.forall_mem_cons.mpr ⟨lw_p19, List.forall_mem_cons.mpr ⟨lw_p20, List.forall_mem_cons.mpr ⟨lw_p21, List.forall_mem_cons.mpr ⟨lw_p22, List.forall_mem_cons.mpr ⟨lw_p23, List.forall_mem_cons.mpr ⟨lw_p24, List.forall_mem_cons.mpr ⟨lw_p25, List.forall_mem_cons.mpr ⟨lw_p26, List.forall_mem_cons.mpr ⟨lw_p27, List.forall_mem_cons.mpr ⟨lw_p28, List.forall_mem_cons.mpr ⟨lw_p29, List.forall_mem_cons.mpr ⟨lw_p30, List.forall_mem_cons.mpr ⟨lw_p31, fun _ h => absurd h List.not_mem_nil⟩⟩⟩⟩⟩⟩⟩⟩⟩⟩⟩⟩⟩⟩⟩⟩
theorem lw_p32 : lw_okq (⟨"LetterExchangeModel", "isWell", "()Z"⟩, 30) := ⟨⟨by decide +kernel, by decide +kernel⟩, List.mem_of_getElem? (i := 762) (by decide +kernel), List.mem_of_getElem? (i := 875) (by decide +kernel), List.mem_of_getElem? (i := 876) (by decide +kernel)⟩
theorem lw_p33 : lw_okq (⟨"LetterExchangeModel", "areWeights", "()Z"⟩, 30) := ⟨⟨by decide +kernel, by decide +kernel⟩, List.mem_of_getElem? (i := 762) (by decide +kernel), List.mem_of_getElem? (i := 879) (by decide +kernel), List.mem_of_getElem? (i := 880) (by decide +kernel)⟩
theorem lw_p34 : lw_okq (⟨"LetterExchangeModel", "b", "(III)I"⟩, 30) := ⟨⟨by decide +kernel, by decide +kernel⟩, List.mem_of_getElem? (i := 762) (by decide +kernel), List.mem_of_getElem? (i := 883) (by decide +kernel), List.mem_of_getElem? (i := 884) (by decide +kernel)⟩
theorem lw_p35 : lw_okq (⟨"LetterExchangeModel", "layStand", "(II)Z"⟩, 30) := ⟨⟨by decide +kernel, by decide +kernel⟩, List.mem_of_getElem? (i := 762) (by decide +kernel), List.mem_of_getElem? (i := 887) (by decide +kernel), List.mem_of_getElem? (i := 888) (by decide +kernel)⟩
theorem lw_p36 : lw_okq (⟨"LetterExchangeModel", "rankedAt", "(II)I"⟩, 30) := ⟨⟨by decide +kernel, by decide +kernel⟩, List.mem_of_getElem? (i := 762) (by decide +kernel), List.mem_of_getElem? (i := 891) (by decide +kernel), List.mem_of_getElem? (i := 892) (by decide +kernel)⟩
theorem lw_p37 : lw_okq (⟨"LetterExchangeModel", "placeOf", "(II)I"⟩, 30) := ⟨⟨by decide +kernel, by decide +kernel⟩, List.mem_of_getElem? (i := 762) (by decide +kernel), List.mem_of_getElem? (i := 895) (by decide +kernel), List.mem_of_getElem? (i := 896) (by decide +kernel)⟩
theorem lw_p38 : lw_okq (⟨"LetterExchangeModel", "isBefore", "(III)Z"⟩, 30) := ⟨⟨by decide +kernel, by decide +kernel⟩, List.mem_of_getElem? (i := 762) (by decide +kernel), List.mem_of_getElem? (i := 899) (by decide +kernel), List.mem_of_getElem? (i := 900) (by decide +kernel)⟩
theorem lw_p39 : lw_okq (⟨"LetterExchangeModel", "leadOn", "(II)Z"⟩, 30) := ⟨⟨by decide +kernel, by decide +kernel⟩, List.mem_of_getElem? (i := 762) (by decide +kernel), List.mem_of_getElem? (i := 903) (by decide +kernel), List.mem_of_getElem? (i := 904) (by decide +kernel)⟩
theorem lw_p40 : lw_okq (⟨"LetterExchangeModel", "unlay", "(I)V"⟩, 30) := ⟨⟨by decide +kernel, by decide +kernel⟩, List.mem_of_getElem? (i := 762) (by decide +kernel), List.mem_of_getElem? (i := 907) (by decide +kernel), List.mem_of_getElem? (i := 908) (by decide +kernel)⟩
theorem lw_p41 : lw_okq (⟨"LetterExchangeModel", "steps", "(I)Z"⟩, 30) := ⟨⟨by decide +kernel, by decide +kernel⟩, List.mem_of_getElem? (i := 762) (by decide +kernel), List.mem_of_getElem? (i := 911) (by decide +kernel), List.mem_of_getElem? (i := 912) (by decide +kernel)⟩
theorem lw_p42 : lw_okq (⟨"LetterExchangeModel", "gathered", "(IIIII)I"⟩, 30) := ⟨⟨by decide +kernel, by decide +kernel⟩, List.mem_of_getElem? (i := 762) (by decide +kernel), List.mem_of_getElem? (i := 915) (by decide +kernel), List.mem_of_getElem? (i := 916) (by decide +kernel)⟩
theorem lw_p43 : lw_okq (⟨"LetterExchangeModel", "lay", "(II)Z"⟩, 30) := ⟨⟨by decide +kernel, by decide +kernel⟩, List.mem_of_getElem? (i := 762) (by decide +kernel), List.mem_of_getElem? (i := 922) (by decide +kernel), List.mem_of_getElem? (i := 923) (by decide +kernel)⟩
theorem lw_p44 : lw_okq (⟨"LetterExchangeModel", "leadBack", "(II)Z"⟩, 30) := ⟨⟨by decide +kernel, by decide +kernel⟩, List.mem_of_getElem? (i := 762) (by decide +kernel), List.mem_of_getElem? (i := 929) (by decide +kernel), List.mem_of_getElem? (i := 930) (by decide +kernel)⟩
theorem lw_p45 : lw_okq (⟨"LetterExchangeModel", "find", "(I)I"⟩, 30) := ⟨⟨by decide +kernel, by decide +kernel⟩, List.mem_of_getElem? (i := 762) (by decide +kernel), List.mem_of_getElem? (i := 933) (by decide +kernel), List.mem_of_getElem? (i := 934) (by decide +kernel)⟩
theorem lw_p46 : lw_okq (⟨"LetterExchangeModel", "isSame", "(II)Z"⟩, 30) := ⟨⟨by decide +kernel, by decide +kernel⟩, List.mem_of_getElem? (i := 762) (by decide +kernel), List.mem_of_getElem? (i := 937) (by decide +kernel), List.mem_of_getElem? (i := 938) (by decide +kernel)⟩
theorem lw_p47 : lw_okq (⟨"LetterExchangeModel", "isLetter", "(I)Z"⟩, 30) := ⟨⟨by decide +kernel, by decide +kernel⟩, List.mem_of_getElem? (i := 762) (by decide +kernel), List.mem_of_getElem? (i := 947) (by decide +kernel), List.mem_of_getElem? (i := 948) (by decide +kernel)⟩
def lw_privs_3 : List (MethodName × Nat) := [(⟨"LetterExchangeModel", "isWell", "()Z"⟩, 30), (⟨"LetterExchangeModel", "areWeights", "()Z"⟩, 30), (⟨"LetterExchangeModel", "b", "(III)I"⟩, 30), (⟨"LetterExchangeModel", "layStand", "(II)Z"⟩, 30), (⟨"LetterExchangeModel", "rankedAt", "(II)I"⟩, 30), (⟨"LetterExchangeModel", "placeOf", "(II)I"⟩, 30), (⟨"LetterExchangeModel", "isBefore", "(III)Z"⟩, 30), (⟨"LetterExchangeModel", "leadOn", "(II)Z"⟩, 30), (⟨"LetterExchangeModel", "unlay", "(I)V"⟩, 30), (⟨"LetterExchangeModel", "steps", "(I)Z"⟩, 30), (⟨"LetterExchangeModel", "gathered", "(IIIII)I"⟩, 30), (⟨"LetterExchangeModel", "lay", "(II)Z"⟩, 30), (⟨"LetterExchangeModel", "leadBack", "(II)Z"⟩, 30), (⟨"LetterExchangeModel", "find", "(I)I"⟩, 30), (⟨"LetterExchangeModel", "isSame", "(II)Z"⟩, 30), (⟨"LetterExchangeModel", "isLetter", "(I)Z"⟩, 30)]
theorem lw_r3 : ∀ q ∈ lw_privs_3, lw_okq q := List.forall_mem_cons.mpr ⟨lw_p32, List.forall_mem_cons.mpr ⟨lw_p33, List.forall_mem_cons.mpr ⟨lw_p34, List.forall_mem_cons.mpr ⟨lw_p35, List.forall_mem_cons.mpr ⟨lw_p36, List.forall_mem_cons.mpr ⟨lw_p37, List.forall_mem_cons.mpr ⟨lw_p38, List.forall_mem_cons.mpr ⟨lw_p39, List.forall_mem_cons.mpr ⟨lw_p40, List.forall_mem_cons.mpr ⟨lw_p41, List.forall_mem_cons.mpr ⟨lw_p42, List.forall_mem_cons.mpr ⟨lw_p43, List.forall_mem_cons.mpr ⟨lw_p44, List.forall_mem_cons.mpr ⟨lw_p45, List.forall_mem_cons.mpr ⟨lw_p46, List.forall_mem_cons.mpr ⟨lw_p47, fun _ h => absurd h List.not_mem_nil⟩⟩⟩⟩⟩⟩⟩⟩⟩⟩⟩⟩⟩⟩⟩⟩
theorem lw_p48 : lw_okq (⟨"LetterExchangeModel", "isHome", "()Z"⟩, 30) := ⟨⟨by decide +kernel, by decide +kernel⟩, List.mem_of_getElem? (i := 762) (by decide +kernel), List.mem_of_getElem? (i := 963) (by decide +kernel), List.mem_of_getElem? (i := 964) (by decide +kernel)⟩
theorem lw_p49 : lw_okq (⟨"LetterExchangeModel", "readClause", "(Z)V"⟩, 30) := ⟨⟨by decide +kernel, by decide +kernel⟩, List.mem_of_getElem? (i := 762) (by decide +kernel), List.mem_of_getElem? (i := 976) (by decide +kernel), List.mem_of_getElem? (i := 977) (by decide +kernel)⟩
theorem lw_p50 : lw_okq (⟨"LetterExchangeModel", "here", "()I"⟩, 30) := ⟨⟨by decide +kernel, by decide +kernel⟩, List.mem_of_getElem? (i := 762) (by decide +kernel), List.mem_of_getElem? (i := 980) (by decide +kernel), List.mem_of_getElem? (i := 981) (by decide +kernel)⟩
theorem lw_p51 : lw_okq (⟨"LetterExchangeModel", "fail", "(I)V"⟩, 30) := ⟨⟨by decide +kernel, by decide +kernel⟩, List.mem_of_getElem? (i := 762) (by decide +kernel), List.mem_of_getElem? (i := 984) (by decide +kernel), List.mem_of_getElem? (i := 985) (by decide +kernel)⟩
theorem lw_p52 : lw_okq (⟨"LetterExchangeModel", "readMany", "()V"⟩, 30) := ⟨⟨by decide +kernel, by decide +kernel⟩, List.mem_of_getElem? (i := 762) (by decide +kernel), List.mem_of_getElem? (i := 988) (by decide +kernel), List.mem_of_getElem? (i := 989) (by decide +kernel)⟩
theorem lw_p53 : lw_okq (⟨"LetterExchangeModel", "figure", "(II)I"⟩, 30) := ⟨⟨by decide +kernel, by decide +kernel⟩, List.mem_of_getElem? (i := 762) (by decide +kernel), List.mem_of_getElem? (i := 992) (by decide +kernel), List.mem_of_getElem? (i := 993) (by decide +kernel)⟩
theorem lw_p54 : lw_okq (⟨"LetterExchangeModel", "pass", "(Z)V"⟩, 30) := ⟨⟨by decide +kernel, by decide +kernel⟩, List.mem_of_getElem? (i := 762) (by decide +kernel), List.mem_of_getElem? (i := 996) (by decide +kernel), List.mem_of_getElem? (i := 997) (by decide +kernel)⟩
theorem lw_p55 : lw_okq (⟨"LetterExchangeModel", "readTable", "()V"⟩, 30) := ⟨⟨by decide +kernel, by decide +kernel⟩, List.mem_of_getElem? (i := 762) (by decide +kernel), List.mem_of_getElem? (i := 1000) (by decide +kernel), List.mem_of_getElem? (i := 1001) (by decide +kernel)⟩
theorem lw_p56 : lw_okq (⟨"LetterExchangeModel", "readWorth", "()V"⟩, 30) := ⟨⟨by decide +kernel, by decide +kernel⟩, List.mem_of_getElem? (i := 762) (by decide +kernel), List.mem_of_getElem? (i := 1004) (by decide +kernel), List.mem_of_getElem? (i := 1005) (by decide +kernel)⟩
theorem lw_p57 : lw_okq (⟨"LetterExchangeModel", "ofStands", "(I)I"⟩, 30) := ⟨⟨by decide +kernel, by decide +kernel⟩, List.mem_of_getElem? (i := 762) (by decide +kernel), List.mem_of_getElem? (i := 1016) (by decide +kernel), List.mem_of_getElem? (i := 1017) (by decide +kernel)⟩
theorem lw_p58 : lw_okq (⟨"LetterExchangeModel", "allLetters", "()I"⟩, 30) := ⟨⟨by decide +kernel, by decide +kernel⟩, List.mem_of_getElem? (i := 762) (by decide +kernel), List.mem_of_getElem? (i := 1020) (by decide +kernel), List.mem_of_getElem? (i := 1021) (by decide +kernel)⟩
theorem lw_p59 : lw_okq (⟨"LetterExchangeModel", "isRowNew", "(I)Z"⟩, 30) := ⟨⟨by decide +kernel, by decide +kernel⟩, List.mem_of_getElem? (i := 762) (by decide +kernel), List.mem_of_getElem? (i := 1024) (by decide +kernel), List.mem_of_getElem? (i := 1025) (by decide +kernel)⟩
theorem lw_p60 : lw_okq (⟨"LetterExchangeModel", "far", "()I"⟩, 30) := ⟨⟨by decide +kernel, by decide +kernel⟩, List.mem_of_getElem? (i := 762) (by decide +kernel), List.mem_of_getElem? (i := 1028) (by decide +kernel), List.mem_of_getElem? (i := 1029) (by decide +kernel)⟩
theorem lw_p61 : lw_okq (⟨"LetterExchangeModel", "wrongEntry", "()I"⟩, 30) := ⟨⟨by decide +kernel, by decide +kernel⟩, List.mem_of_getElem? (i := 762) (by decide +kernel), List.mem_of_getElem? (i := 1032) (by decide +kernel), List.mem_of_getElem? (i := 1033) (by decide +kernel)⟩
theorem lw_p62 : lw_okq (⟨"LetterExchangeModel", "code", "(I)I"⟩, 30) := ⟨⟨by decide +kernel, by decide +kernel⟩, List.mem_of_getElem? (i := 762) (by decide +kernel), List.mem_of_getElem? (i := 1036) (by decide +kernel), List.mem_of_getElem? (i := 1037) (by decide +kernel)⟩
theorem lw_p63 : lw_okq (⟨"LetterExchangeModel", "bound", "(I)I"⟩, 30) := ⟨⟨by decide +kernel, by decide +kernel⟩, List.mem_of_getElem? (i := 762) (by decide +kernel), List.mem_of_getElem? (i := 1048) (by decide +kernel), List.mem_of_getElem? (i := 1049) (by decide +kernel)⟩
def lw_privs_4 : List (MethodName × Nat) := [(⟨"LetterExchangeModel", "isHome", "()Z"⟩, 30), (⟨"LetterExchangeModel", "readClause", "(Z)V"⟩, 30), (⟨"LetterExchangeModel", "here", "()I"⟩, 30), (⟨"LetterExchangeModel", "fail", "(I)V"⟩, 30), (⟨"LetterExchangeModel", "readMany", "()V"⟩, 30), (⟨"LetterExchangeModel", "figure", "(II)I"⟩, 30), (⟨"LetterExchangeModel", "pass", "(Z)V"⟩, 30), (⟨"LetterExchangeModel", "readTable", "()V"⟩, 30), (⟨"LetterExchangeModel", "readWorth", "()V"⟩, 30), (⟨"LetterExchangeModel", "ofStands", "(I)I"⟩, 30), (⟨"LetterExchangeModel", "allLetters", "()I"⟩, 30), (⟨"LetterExchangeModel", "isRowNew", "(I)Z"⟩, 30), (⟨"LetterExchangeModel", "far", "()I"⟩, 30), (⟨"LetterExchangeModel", "wrongEntry", "()I"⟩, 30), (⟨"LetterExchangeModel", "code", "(I)I"⟩, 30), (⟨"LetterExchangeModel", "bound", "(I)I"⟩, 30)]
theorem lw_r4 : ∀ q ∈ lw_privs_4, lw_okq q := List.forall_mem_cons.mpr ⟨lw_p48, List.forall_mem_cons.mpr ⟨lw_p49, List.forall_mem_cons.mpr ⟨lw_p50, List.forall_mem_cons.mpr ⟨lw_p51, List.forall_mem_cons.mpr ⟨lw_p52, List.forall_mem_cons.mpr ⟨lw_p53, List.forall_mem_cons.mpr ⟨lw_p54, List.forall_mem_cons.mpr ⟨lw_p55, List.forall_mem_cons.mpr ⟨lw_p56, List.forall_mem_cons.mpr ⟨lw_p57, List.forall_mem_cons.mpr ⟨lw_p58, List.forall_mem_cons.mpr ⟨lw_p59, List.forall_mem_cons.mpr ⟨lw_p60, List.forall_mem_cons.mpr ⟨lw_p61, List.forall_mem_cons.mpr ⟨lw_p62, List.forall_mem_cons.mpr ⟨lw_p63, fun _ h => absurd h List.not_mem_nil⟩⟩⟩⟩⟩⟩⟩⟩⟩⟩⟩⟩⟩⟩⟩⟩
theorem lw_p64 : lw_okq (⟨"LetterExchangeModel", "would", "(II)I"⟩, 30) := ⟨⟨by decide +kernel, by decide +kernel⟩, List.mem_of_getElem? (i := 762) (by decide +kernel), List.mem_of_getElem? (i := 1052) (by decide +kernel), List.mem_of_getElem? (i := 1053) (by decide +kernel)⟩
theorem lw_p65 : lw_okq (⟨"LetterExchangeModel", "tries", "(I)Z"⟩, 30) := ⟨⟨by decide +kernel, by decide +kernel⟩, List.mem_of_getElem? (i := 762) (by decide +kernel), List.mem_of_getElem? (i := 1056) (by decide +kernel), List.mem_of_getElem? (i := 1057) (by decide +kernel)⟩
theorem lw_p66 : lw_okq (⟨"LetterExchangeModel", "worth", "(II)Z"⟩, 30) := ⟨⟨by decide +kernel, by decide +kernel⟩, List.mem_of_getElem? (i := 762) (by decide +kernel), List.mem_of_getElem? (i := 1060) (by decide +kernel), List.mem_of_getElem? (i := 1061) (by decide +kernel)⟩
theorem lw_p67 : lw_okq (⟨"LetterExchangeModel", "product", "(III)V"⟩, 30) := ⟨⟨by decide +kernel, by decide +kernel⟩, List.mem_of_getElem? (i := 762) (by decide +kernel), List.mem_of_getElem? (i := 1064) (by decide +kernel), List.mem_of_getElem? (i := 1065) (by decide +kernel)⟩
theorem lw_p68 : lw_okq (⟨"LetterExchangeModel", "times", "(JJ)V"⟩, 30) := ⟨⟨by decide +kernel, by decide +kernel⟩, List.mem_of_getElem? (i := 762) (by decide +kernel), List.mem_of_getElem? (i := 1068) (by decide +kernel), List.mem_of_getElem? (i := 1069) (by decide +kernel)⟩
theorem lw_p69 : lw_okq (⟨"LetterExchangeModel", "shorten", "()V"⟩, 30) := ⟨⟨by decide +kernel, by decide +kernel⟩, List.mem_of_getElem? (i := 762) (by decide +kernel), List.mem_of_getElem? (i := 1072) (by decide +kernel), List.mem_of_getElem? (i := 1073) (by decide +kernel)⟩
theorem lw_p70 : lw_okq (⟨"LetterExchangeModel", "turned", "(III)Z"⟩, 30) := ⟨⟨by decide +kernel, by decide +kernel⟩, List.mem_of_getElem? (i := 762) (by decide +kernel), List.mem_of_getElem? (i := 1077) (by decide +kernel), List.mem_of_getElem? (i := 1078) (by decide +kernel)⟩
theorem lw_p71 : lw_okq (⟨"LetterExchangeModel", "denominators", "(III)Z"⟩, 30) := ⟨⟨by decide +kernel, by decide +kernel⟩, List.mem_of_getElem? (i := 762) (by decide +kernel), List.mem_of_getElem? (i := 1081) (by decide +kernel), List.mem_of_getElem? (i := 1082) (by decide +kernel)⟩
theorem lw_p72 : lw_okq (⟨"LetterExchangeModel", "signs", "(III)Z"⟩, 30) := ⟨⟨by decide +kernel, by decide +kernel⟩, List.mem_of_getElem? (i := 762) (by decide +kernel), List.mem_of_getElem? (i := 1085) (by decide +kernel), List.mem_of_getElem? (i := 1086) (by decide +kernel)⟩
theorem lw_p73 : lw_okq (⟨"LetterExchangeModel", "degrees", "(III)Z"⟩, 30) := ⟨⟨by decide +kernel, by decide +kernel⟩, List.mem_of_getElem? (i := 762) (by decide +kernel), List.mem_of_getElem? (i := 1089) (by decide +kernel), List.mem_of_getElem? (i := 1090) (by decide +kernel)⟩
theorem lw_p74 : lw_okq (⟨"LetterExchangeModel", "remember", "()V"⟩, 30) := ⟨⟨by decide +kernel, by decide +kernel⟩, List.mem_of_getElem? (i := 762) (by decide +kernel), List.mem_of_getElem? (i := 1102) (by decide +kernel), List.mem_of_getElem? (i := 1103) (by decide +kernel)⟩
theorem lw_p75 : lw_okq (⟨"LetterExchangeModel", "take", "()V"⟩, 30) := ⟨⟨by decide +kernel, by decide +kernel⟩, List.mem_of_getElem? (i := 762) (by decide +kernel), List.mem_of_getElem? (i := 1106) (by decide +kernel), List.mem_of_getElem? (i := 1107) (by decide +kernel)⟩
theorem lw_p76 : lw_okq (⟨"LetterExchangeModel", "draw", "(I)I"⟩, 30) := ⟨⟨by decide +kernel, by decide +kernel⟩, List.mem_of_getElem? (i := 762) (by decide +kernel), List.mem_of_getElem? (i := 1119) (by decide +kernel), List.mem_of_getElem? (i := 1120) (by decide +kernel)⟩
def lw_privs_5 : List (MethodName × Nat) := [(⟨"LetterExchangeModel", "would", "(II)I"⟩, 30), (⟨"LetterExchangeModel", "tries", "(I)Z"⟩, 30), (⟨"LetterExchangeModel", "worth", "(II)Z"⟩, 30), (⟨"LetterExchangeModel", "product", "(III)V"⟩, 30), (⟨"LetterExchangeModel", "times", "(JJ)V"⟩, 30), (⟨"LetterExchangeModel", "shorten", "()V"⟩, 30), (⟨"LetterExchangeModel", "turned", "(III)Z"⟩, 30), (⟨"LetterExchangeModel", "denominators", "(III)Z"⟩, 30), (⟨"LetterExchangeModel", "signs", "(III)Z"⟩, 30), (⟨"LetterExchangeModel", "degrees", "(III)Z"⟩, 30), (⟨"LetterExchangeModel", "remember", "()V"⟩, 30), (⟨"LetterExchangeModel", "take", "()V"⟩, 30), (⟨"LetterExchangeModel", "draw", "(I)I"⟩, 30)]
theorem lw_r5 : ∀ q ∈ lw_privs_5, lw_okq q := List.forall_mem_cons.mpr ⟨lw_p64, List.forall_mem_cons.mpr ⟨lw_p65, List.forall_mem_cons.mpr ⟨lw_p66, List.forall_mem_cons.mpr ⟨lw_p67, List.forall_mem_cons.mpr ⟨lw_p68, List.forall_mem_cons.mpr ⟨lw_p69, List.forall_mem_cons.mpr ⟨lw_p70, List.forall_mem_cons.mpr ⟨lw_p71, List.forall_mem_cons.mpr ⟨lw_p72, List.forall_mem_cons.mpr ⟨lw_p73, List.forall_mem_cons.mpr ⟨lw_p74, List.forall_mem_cons.mpr ⟨lw_p75, List.forall_mem_cons.mpr ⟨lw_p76, fun _ h => absurd h List.not_mem_nil⟩⟩⟩⟩⟩⟩⟩⟩⟩⟩⟩⟩⟩
def lw_privs : List (MethodName × Nat) := lw_privs_1 ++ (lw_privs_2 ++ (lw_privs_3 ++ (lw_privs_4 ++ (lw_privs_5))))
def lw_tbl : List Cond := k2_sels lw_privs ++ tables_1
theorem lw_privs_ok : ∀ q ∈ lw_privs, lw_okq q := by
  show ∀ q ∈ lw_privs_1 ++ (lw_privs_2 ++ (lw_privs_3 ++ (lw_privs_4 ++ (lw_privs_5)))), lw_okq q
  exact List.forall_mem_append.mpr ⟨lw_r1, List.forall_mem_append.mpr ⟨lw_r2, List.forall_mem_append.mpr ⟨lw_r3, List.forall_mem_append.mpr ⟨lw_r4, lw_r5⟩⟩⟩⟩
end
section
/-! names: classes, their fields, links, methods (written by gen_names.py) -/
def gx_tbl : List Cond := lw_tbl.filter goodWord
theorem gx_gd {w : Cond} (h : w ∈ lw_tbl) (hg : goodWord w = true) : w ∈ gx_tbl := List.mem_filter.mpr ⟨h, hg⟩
def nc_RLE : String := "LetterExchange"
def nc_TLE : u_T := fun k => match k with
  | 0 => ("LetterExchange", "text", "LLetterExchange$Text;", true)
  | 1 => ("LetterExchange", "scales", "LLetterExchange$Scales;", true)
  | 2 => ("LetterExchange", "exchanger", "LLetterExchange$Exchanger;", true)
  | 3 => ("LetterExchange", "history", "LLetterExchange$History;", true)
  | 4 => ("LetterExchange", "book", "LLetterExchange$Book;", true)
  | 5 => ("LetterExchange", "graph", "LLetterExchange$Graph;", true)
  | 6 => ("LetterExchange", "walk", "LLetterExchange$Walk;", true)
  | 7 => ("LetterExchange", "turns", "LLetterExchange$Turns;", true)
  | 8 => ("LetterExchange", "first", "LLetterExchange$State;", true)
  | 9 => ("LetterExchange", "images", "[LLetterExchange$State;", true)
  | 10 => ("LetterExchange", "kept", "[Z", true)
  | 11 => ("LetterExchange", "imageSeeds", "[I", true)
  | 12 => ("LetterExchange", "codesNow", "[I", true)
  | 13 => ("LetterExchange", "now", "LLetterExchange$State;", false)
  | 14 => ("LetterExchange", "spare", "LLetterExchange$State;", false)
  | 15 => ("LetterExchange", "theSeed", "I", false)
  | 16 => ("LetterExchange", "graphIsOld", "Z", false)
  | _ => ("LetterExchange", "walkIsOld", "Z", false)
def nc_tLE : Nat → FieldType := fun k => match k with
  | 0 => .object "LetterExchange$Text"
  | 1 => .object "LetterExchange$Scales"
  | 2 => .object "LetterExchange$Exchanger"
  | 3 => .object "LetterExchange$History"
  | 4 => .object "LetterExchange$Book"
  | 5 => .object "LetterExchange$Graph"
  | 6 => .object "LetterExchange$Walk"
  | 7 => .object "LetterExchange$Turns"
  | 8 => .object "LetterExchange$State"
  | 9 => .array (.object "LetterExchange$State")
  | 10 => .array (.boolean)
  | 11 => .array (.int)
  | 12 => .array (.int)
  | 13 => .object "LetterExchange$State"
  | 14 => .object "LetterExchange$State"
  | 15 => .int
  | 16 => .boolean
  | _ => .boolean
def nc_RMD : String := "LetterExchangeModel"
def nc_TMD : u_T := fun k => match k with
  | 0 => ("LetterExchangeModel", "w", "[I", true)
  | 1 => ("LetterExchangeModel", "many", "I", false)
  | 2 => ("LetterExchangeModel", "known", "I", false)
  | 3 => ("LetterExchangeModel", "kept", "I", false)
  | 4 => ("LetterExchangeModel", "seed", "I", false)
  | 5 => ("LetterExchangeModel", "keptSeed", "[I", true)
  | 6 => ("LetterExchangeModel", "text", "[I", true)
  | 7 => ("LetterExchangeModel", "size", "I", false)
  | 8 => ("LetterExchangeModel", "fault", "I", false)
  | 9 => ("LetterExchangeModel", "bookOf", "[I", true)
  | 10 => ("LetterExchangeModel", "bookIs", "[I", true)
  | 11 => ("LetterExchangeModel", "booked", "I", false)
  | 12 => ("LetterExchangeModel", "weight", "[I", true)
  | 13 => ("LetterExchangeModel", "up", "J", false)
  | 14 => ("LetterExchangeModel", "down", "J", false)
  | 15 => ("LetterExchangeModel", "beyond", "Z", false)
  | 16 => ("LetterExchangeModel", "standTable", "[I", true)
  | 17 => ("LetterExchangeModel", "standRow", "[I", true)
  | 18 => ("LetterExchangeModel", "leads", "[I", true)
  | 19 => ("LetterExchangeModel", "away", "[I", true)
  | 20 => ("LetterExchangeModel", "from", "[I", true)
  | 21 => ("LetterExchangeModel", "by", "[I", true)
  | 22 => ("LetterExchangeModel", "stands", "I", false)
  | 23 => ("LetterExchangeModel", "hand", "[I", true)
  | 24 => ("LetterExchangeModel", "at", "I", false)
  | 25 => ("LetterExchangeModel", "wrong", "I", false)
  | 26 => ("LetterExchangeModel", "place", "I", false)
  | 27 => ("LetterExchangeModel", "newMany", "I", false)
  | 28 => ("LetterExchangeModel", "newTable", "[I", true)
  | _ => ("LetterExchangeModel", "newWorth", "[I", true)
def nc_tMD : Nat → FieldType := fun k => match k with
  | 0 => .array (.int)
  | 1 => .int
  | 2 => .int
  | 3 => .int
  | 4 => .int
  | 5 => .array (.int)
  | 6 => .array (.int)
  | 7 => .int
  | 8 => .int
  | 9 => .array (.int)
  | 10 => .array (.int)
  | 11 => .int
  | 12 => .array (.int)
  | 13 => .long
  | 14 => .long
  | 15 => .boolean
  | 16 => .array (.int)
  | 17 => .array (.int)
  | 18 => .array (.int)
  | 19 => .array (.int)
  | 20 => .array (.int)
  | 21 => .array (.int)
  | 22 => .int
  | 23 => .array (.int)
  | 24 => .int
  | 25 => .int
  | 26 => .int
  | 27 => .int
  | 28 => .array (.int)
  | _ => .array (.int)
def nc_RBK : String := "LetterExchange$Book"
def nc_TBK : u_T := fun k => match k with
  | 0 => ("LetterExchange$Book", "letters", "[I", true)
  | 1 => ("LetterExchange$Book", "codes", "[I", true)
  | _ => ("LetterExchange$Book", "size", "I", false)
def nc_tBK : Nat → FieldType := fun k => match k with
  | 0 => .array (.int)
  | 1 => .array (.int)
  | _ => .int
def nc_REX : String := "LetterExchange$Exchanger"
def nc_TEX : u_T := fun k => match k with
  | 0 => ("LetterExchange$Exchanger", "worth", "LLetterExchange$Fraction;", true)
  | _ => ("LetterExchange$Exchanger", "other", "LLetterExchange$Fraction;", true)
def nc_tEX : Nat → FieldType := fun k => match k with
  | 0 => .object "LetterExchange$Fraction"
  | _ => .object "LetterExchange$Fraction"
def nc_RFR : String := "LetterExchange$Fraction"
def nc_TFR : u_T := fun k => match k with
  | 0 => ("LetterExchange$Fraction", "above", "J", false)
  | _ => ("LetterExchange$Fraction", "below", "J", false)
def nc_tFR : Nat → FieldType := fun k => match k with
  | 0 => .long
  | _ => .long
def nc_RGR : String := "LetterExchange$Graph"
def nc_TGR : u_T := fun k => match k with
  | 0 => ("LetterExchange$Graph", "count", "I", false)
  | 1 => ("LetterExchange$Graph", "letters", "I", false)
  | 2 => ("LetterExchange$Graph", "allLetters", "I", false)
  | 3 => ("LetterExchange$Graph", "open", "Z", false)
  | 4 => ("LetterExchange$Graph", "leads", "[I", true)
  | 5 => ("LetterExchange$Graph", "codes", "[I", true)
  | 6 => ("LetterExchange$Graph", "probe", "[I", true)
  | 7 => ("LetterExchange$Graph", "ownCodes", "[I", true)
  | 8 => ("LetterExchange$Graph", "places", "[I", true)
  | 9 => ("LetterExchange$Graph", "ranked", "[I", true)
  | 10 => ("LetterExchange$Graph", "seen", "[I", true)
  | 11 => ("LetterExchange$Graph", "here", "LLetterExchange$Shape;", true)
  | _ => ("LetterExchange$Graph", "there", "LLetterExchange$Shape;", true)
def nc_tGR : Nat → FieldType := fun k => match k with
  | 0 => .int
  | 1 => .int
  | 2 => .int
  | 3 => .boolean
  | 4 => .array (.int)
  | 5 => .array (.int)
  | 6 => .array (.int)
  | 7 => .array (.int)
  | 8 => .array (.int)
  | 9 => .array (.int)
  | 10 => .array (.int)
  | 11 => .object "LetterExchange$Shape"
  | _ => .object "LetterExchange$Shape"
def nc_RHI : String := "LetterExchange$History"
def nc_THI : u_T := fun k => match k with
  | 0 => ("LetterExchange$History", "states", "[LLetterExchange$State;", true)
  | 1 => ("LetterExchange$History", "oldest", "I", false)
  | _ => ("LetterExchange$History", "size", "I", false)
def nc_tHI : Nat → FieldType := fun k => match k with
  | 0 => .array (.object "LetterExchange$State")
  | 1 => .int
  | _ => .int
def nc_RSC : String := "LetterExchange$Scales"
def nc_TSC : u_T := fun k => match k with
  | 0 => ("LetterExchange$Scales", "well", "Z", false)
  | _ => ("LetterExchange$Scales", "weights", "[I", true)
def nc_tSC : Nat → FieldType := fun k => match k with
  | 0 => .boolean
  | _ => .array (.int)
def nc_RSH : String := "LetterExchange$Shape"
def nc_TSH : u_T := fun k => match k with
  | 0 => ("LetterExchange$Shape", "count", "I", false)
  | 1 => ("LetterExchange$Shape", "table", "[I", true)
  | _ => ("LetterExchange$Shape", "rows", "[I", true)
def nc_tSH : Nat → FieldType := fun k => match k with
  | 0 => .int
  | 1 => .array (.int)
  | _ => .array (.int)
def nc_RST : String := "LetterExchange$State"
def nc_TST : u_T := fun k => match k with
  | 0 => ("LetterExchange$State", "shape", "LLetterExchange$Shape;", true)
  | 1 => ("LetterExchange$State", "above", "[I", true)
  | 2 => ("LetterExchange$State", "below", "[I", true)
  | 3 => ("LetterExchange$State", "signs", "[I", true)
  | 4 => ("LetterExchange$State", "degrees", "[I", true)
  | _ => ("LetterExchange$State", "exchanges", "I", false)
def nc_tST : Nat → FieldType := fun k => match k with
  | 0 => .object "LetterExchange$Shape"
  | 1 => .array (.int)
  | 2 => .array (.int)
  | 3 => .array (.int)
  | 4 => .array (.int)
  | _ => .int
def nc_RTX : String := "LetterExchange$Text"
def nc_TTX : u_T := fun k => match k with
  | 0 => ("LetterExchange$Text", "signs", "[I", true)
  | 1 => ("LetterExchange$Text", "length", "I", false)
  | 2 => ("LetterExchange$Text", "fault", "I", false)
  | 3 => ("LetterExchange$Text", "faultPlace", "I", false)
  | 4 => ("LetterExchange$Text", "at", "I", false)
  | _ => ("LetterExchange$Text", "place", "I", false)
def nc_tTX : Nat → FieldType := fun k => match k with
  | 0 => .array (.int)
  | 1 => .int
  | 2 => .int
  | 3 => .int
  | 4 => .int
  | _ => .int
def nc_RTU : String := "LetterExchange$Turns"
def nc_TTU : u_T := fun k => match k with
  | 0 => ("LetterExchange$Turns", "one", "LLetterExchange$Shape;", true)
  | 1 => ("LetterExchange$Turns", "other", "LLetterExchange$Shape;", true)
  | 2 => ("LetterExchange$Turns", "startCodes", "[I", true)
  | _ => ("LetterExchange$Turns", "codes", "[I", true)
def nc_tTU : Nat → FieldType := fun k => match k with
  | 0 => .object "LetterExchange$Shape"
  | 1 => .object "LetterExchange$Shape"
  | 2 => .array (.int)
  | _ => .array (.int)
def nc_RWA : String := "LetterExchange$Walk"
def nc_TWA : u_T := fun k => match k with
  | 0 => ("LetterExchange$Walk", "count", "I", false)
  | 1 => ("LetterExchange$Walk", "stands", "[I", true)
  | 2 => ("LetterExchange$Walk", "numbers", "[I", true)
  | 3 => ("LetterExchange$Walk", "steps", "[I", true)
  | 4 => ("LetterExchange$Walk", "parents", "[I", true)
  | _ => ("LetterExchange$Walk", "ways", "[I", true)
def nc_tWA : Nat → FieldType := fun k => match k with
  | 0 => .int
  | 1 => .array (.int)
  | 2 => .array (.int)
  | 3 => .array (.int)
  | 4 => .array (.int)
  | _ => .array (.int)
def gx_cls : List vw_C := [(nc_RLE, nc_TLE, 18), (nc_RMD, nc_TMD, 30), (nc_RBK, nc_TBK, 3), (nc_REX, nc_TEX, 2), (nc_RFR, nc_TFR, 2), (nc_RGR, nc_TGR, 13), (nc_RHI, nc_THI, 3), (nc_RSC, nc_TSC, 2), (nc_RSH, nc_TSH, 3), (nc_RST, nc_TST, 6), (nc_RTX, nc_TTX, 6), (nc_RTU, nc_TTU, 4), (nc_RWA, nc_TWA, 6)]
def gx_ftl : List (List Nat) := [[3, 3, 3, 3, 3, 3, 3, 3, 3, 3, 3, 3, 3, 3, 3, 0, 1, 1], [3, 0, 0, 0, 0, 3, 3, 0, 0, 3, 3, 0, 3, 2, 2, 1, 3, 3, 3, 3, 3, 3, 0, 3, 0, 0, 0, 0, 3, 3], [3, 3, 0], [3, 3], [2, 2], [0, 0, 0, 1, 3, 3, 3, 3, 3, 3, 3, 3, 3], [3, 0, 0], [1, 3], [0, 3, 3], [3, 3, 3, 3, 3, 0], [3, 0, 0, 0, 0, 0], [3, 3, 3, 3], [0, 3, 3, 3, 3, 3]]
def gx_fty (ci k : Nat) : Nat := (gx_ftl.getD ci []).getD k 0
def gx_tyok (t : Nat) (ty : FieldType) : Prop := match t with
  | 0 => ty = .int
  | 1 => ty = .boolean
  | 2 => ty = .long
  | _ => (∃ C, ty = .object C) ∨ ∃ t, ty = .array t
/-- what the tables say of a class -/
def gx_CL (ci : Nat) (C : String) (T : u_T) (N : Nat) (ty : Nat → FieldType) : Prop := gx_cls[ci]? = some (C, T, N) ∧ (∀ w ∈ u_ws C T N, w ∈ gx_tbl) ∧ (∀ k, k < N → parseFieldDescriptor (T k).2.2.1 = some (ty k)) ∧ (∀ a, a < N → ∀ b, b < N → a ≠ b → (T a).2.1 ≠ (T b).2.1) ∧ (∀ k, k < N → gx_tyok (gx_fty ci k) (ty k)) ∧ ∀ k, k < N → (T k).1 = C
theorem nl_LE_0 : u_lay nc_RLE nc_TLE 0 ∈ lw_tbl := List.mem_of_getElem? (i := 451) (by decide +kernel)
theorem nl_LE_1 : u_lay nc_RLE nc_TLE 1 ∈ lw_tbl := List.mem_of_getElem? (i := 453) (by decide +kernel)
theorem nl_LE_2 : u_lay nc_RLE nc_TLE 2 ∈ lw_tbl := List.mem_of_getElem? (i := 455) (by decide +kernel)
theorem nl_LE_3 : u_lay nc_RLE nc_TLE 3 ∈ lw_tbl := List.mem_of_getElem? (i := 457) (by decide +kernel)
theorem nl_LE_4 : u_lay nc_RLE nc_TLE 4 ∈ lw_tbl := List.mem_of_getElem? (i := 459) (by decide +kernel)
theorem nl_LE_5 : u_lay nc_RLE nc_TLE 5 ∈ lw_tbl := List.mem_of_getElem? (i := 461) (by decide +kernel)
theorem nl_LE_6 : u_lay nc_RLE nc_TLE 6 ∈ lw_tbl := List.mem_of_getElem? (i := 463) (by decide +kernel)
theorem nl_LE_7 : u_lay nc_RLE nc_TLE 7 ∈ lw_tbl := List.mem_of_getElem? (i := 465) (by decide +kernel)
theorem nl_LE_8 : u_lay nc_RLE nc_TLE 8 ∈ lw_tbl := List.mem_of_getElem? (i := 467) (by decide +kernel)
theorem nl_LE_9 : u_lay nc_RLE nc_TLE 9 ∈ lw_tbl := List.mem_of_getElem? (i := 469) (by decide +kernel)
theorem nl_LE_10 : u_lay nc_RLE nc_TLE 10 ∈ lw_tbl := List.mem_of_getElem? (i := 471) (by decide +kernel)
theorem nl_LE_11 : u_lay nc_RLE nc_TLE 11 ∈ lw_tbl := List.mem_of_getElem? (i := 473) (by decide +kernel)
theorem nl_LE_12 : u_lay nc_RLE nc_TLE 12 ∈ lw_tbl := List.mem_of_getElem? (i := 475) (by decide +kernel)
theorem nl_LE_13 : u_lay nc_RLE nc_TLE 13 ∈ lw_tbl := List.mem_of_getElem? (i := 477) (by decide +kernel)
theorem nl_LE_14 : u_lay nc_RLE nc_TLE 14 ∈ lw_tbl := List.mem_of_getElem? (i := 479) (by decide +kernel)
theorem nl_LE_15 : u_lay nc_RLE nc_TLE 15 ∈ lw_tbl := List.mem_of_getElem? (i := 481) (by decide +kernel)
theorem nl_LE_16 : u_lay nc_RLE nc_TLE 16 ∈ lw_tbl := List.mem_of_getElem? (i := 483) (by decide +kernel)
theorem nl_LE_17 : u_lay nc_RLE nc_TLE 17 ∈ lw_tbl := List.mem_of_getElem? (i := 485) (by decide +kernel)
theorem nw_LE : ∀ w ∈ u_ws nc_RLE nc_TLE 18, w ∈ gx_tbl := by
  intro w hw
  obtain ⟨k, hk, rfl⟩ := List.mem_map.mp hw
  have hk := List.mem_range.mp hk
  match k, hk with
  | 0, _ => exact gx_gd nl_LE_0 rfl
  | 1, _ => exact gx_gd nl_LE_1 rfl
  | 2, _ => exact gx_gd nl_LE_2 rfl
  | 3, _ => exact gx_gd nl_LE_3 rfl
  | 4, _ => exact gx_gd nl_LE_4 rfl
  | 5, _ => exact gx_gd nl_LE_5 rfl
  | 6, _ => exact gx_gd nl_LE_6 rfl
  | 7, _ => exact gx_gd nl_LE_7 rfl
  | 8, _ => exact gx_gd nl_LE_8 rfl
  | 9, _ => exact gx_gd nl_LE_9 rfl
  | 10, _ => exact gx_gd nl_LE_10 rfl
  | 11, _ => exact gx_gd nl_LE_11 rfl
  | 12, _ => exact gx_gd nl_LE_12 rfl
  | 13, _ => exact gx_gd nl_LE_13 rfl
  | 14, _ => exact gx_gd nl_LE_14 rfl
  | 15, _ => exact gx_gd nl_LE_15 rfl
  | 16, _ => exact gx_gd nl_LE_16 rfl
  | 17, _ => exact gx_gd nl_LE_17 rfl
  | k + 18, hk => exact absurd hk (by omega)
theorem gk_LE : gx_CL 0 nc_RLE nc_TLE 18 nc_tLE := by
  refine ⟨rfl, nw_LE, by decide +kernel, by decide +kernel, ?_, by decide +kernel⟩
  intro k hk
  match k, hk with
  | 0, _ => exact Or.inl ⟨_, rfl⟩
  | 1, _ => exact Or.inl ⟨_, rfl⟩
  | 2, _ => exact Or.inl ⟨_, rfl⟩
  | 3, _ => exact Or.inl ⟨_, rfl⟩
  | 4, _ => exact Or.inl ⟨_, rfl⟩
  | 5, _ => exact Or.inl ⟨_, rfl⟩
  | 6, _ => exact Or.inl ⟨_, rfl⟩
  | 7, _ => exact Or.inl ⟨_, rfl⟩
  | 8, _ => exact Or.inl ⟨_, rfl⟩
  | 9, _ => exact Or.inr ⟨_, rfl⟩
  | 10, _ => exact Or.inr ⟨_, rfl⟩
  | 11, _ => exact Or.inr ⟨_, rfl⟩
  | 12, _ => exact Or.inr ⟨_, rfl⟩
  | 13, _ => exact Or.inl ⟨_, rfl⟩
  | 14, _ => exact Or.inl ⟨_, rfl⟩
  | 15, _ => exact rfl
  | 16, _ => exact rfl
  | 17, _ => exact rfl
  | k + 18, hk => exact absurd hk (by omega)
theorem nl_MD_0 : u_lay nc_RMD nc_TMD 0 ∈ lw_tbl := List.mem_of_getElem? (i := 882) (by decide +kernel)
theorem nl_MD_1 : u_lay nc_RMD nc_TMD 1 ∈ lw_tbl := List.mem_of_getElem? (i := 884) (by decide +kernel)
theorem nl_MD_2 : u_lay nc_RMD nc_TMD 2 ∈ lw_tbl := List.mem_of_getElem? (i := 886) (by decide +kernel)
theorem nl_MD_3 : u_lay nc_RMD nc_TMD 3 ∈ lw_tbl := List.mem_of_getElem? (i := 888) (by decide +kernel)
theorem nl_MD_4 : u_lay nc_RMD nc_TMD 4 ∈ lw_tbl := List.mem_of_getElem? (i := 890) (by decide +kernel)
theorem nl_MD_5 : u_lay nc_RMD nc_TMD 5 ∈ lw_tbl := List.mem_of_getElem? (i := 892) (by decide +kernel)
theorem nl_MD_6 : u_lay nc_RMD nc_TMD 6 ∈ lw_tbl := List.mem_of_getElem? (i := 894) (by decide +kernel)
theorem nl_MD_7 : u_lay nc_RMD nc_TMD 7 ∈ lw_tbl := List.mem_of_getElem? (i := 896) (by decide +kernel)
theorem nl_MD_8 : u_lay nc_RMD nc_TMD 8 ∈ lw_tbl := List.mem_of_getElem? (i := 898) (by decide +kernel)
theorem nl_MD_9 : u_lay nc_RMD nc_TMD 9 ∈ lw_tbl := List.mem_of_getElem? (i := 900) (by decide +kernel)
theorem nl_MD_10 : u_lay nc_RMD nc_TMD 10 ∈ lw_tbl := List.mem_of_getElem? (i := 902) (by decide +kernel)
theorem nl_MD_11 : u_lay nc_RMD nc_TMD 11 ∈ lw_tbl := List.mem_of_getElem? (i := 904) (by decide +kernel)
theorem nl_MD_12 : u_lay nc_RMD nc_TMD 12 ∈ lw_tbl := List.mem_of_getElem? (i := 906) (by decide +kernel)
theorem nl_MD_13 : u_lay nc_RMD nc_TMD 13 ∈ lw_tbl := List.mem_of_getElem? (i := 908) (by decide +kernel)
theorem nl_MD_14 : u_lay nc_RMD nc_TMD 14 ∈ lw_tbl := List.mem_of_getElem? (i := 910) (by decide +kernel)
theorem nl_MD_15 : u_lay nc_RMD nc_TMD 15 ∈ lw_tbl := List.mem_of_getElem? (i := 912) (by decide +kernel)
theorem nl_MD_16 : u_lay nc_RMD nc_TMD 16 ∈ lw_tbl := List.mem_of_getElem? (i := 914) (by decide +kernel)
theorem nl_MD_17 : u_lay nc_RMD nc_TMD 17 ∈ lw_tbl := List.mem_of_getElem? (i := 916) (by decide +kernel)
theorem nl_MD_18 : u_lay nc_RMD nc_TMD 18 ∈ lw_tbl := List.mem_of_getElem? (i := 918) (by decide +kernel)
theorem nl_MD_19 : u_lay nc_RMD nc_TMD 19 ∈ lw_tbl := List.mem_of_getElem? (i := 920) (by decide +kernel)
theorem nl_MD_20 : u_lay nc_RMD nc_TMD 20 ∈ lw_tbl := List.mem_of_getElem? (i := 922) (by decide +kernel)
theorem nl_MD_21 : u_lay nc_RMD nc_TMD 21 ∈ lw_tbl := List.mem_of_getElem? (i := 924) (by decide +kernel)
theorem nl_MD_22 : u_lay nc_RMD nc_TMD 22 ∈ lw_tbl := List.mem_of_getElem? (i := 926) (by decide +kernel)
theorem nl_MD_23 : u_lay nc_RMD nc_TMD 23 ∈ lw_tbl := List.mem_of_getElem? (i := 928) (by decide +kernel)
theorem nl_MD_24 : u_lay nc_RMD nc_TMD 24 ∈ lw_tbl := List.mem_of_getElem? (i := 930) (by decide +kernel)
theorem nl_MD_25 : u_lay nc_RMD nc_TMD 25 ∈ lw_tbl := List.mem_of_getElem? (i := 932) (by decide +kernel)
theorem nl_MD_26 : u_lay nc_RMD nc_TMD 26 ∈ lw_tbl := List.mem_of_getElem? (i := 934) (by decide +kernel)
theorem nl_MD_27 : u_lay nc_RMD nc_TMD 27 ∈ lw_tbl := List.mem_of_getElem? (i := 936) (by decide +kernel)
theorem nl_MD_28 : u_lay nc_RMD nc_TMD 28 ∈ lw_tbl := List.mem_of_getElem? (i := 938) (by decide +kernel)
theorem nl_MD_29 : u_lay nc_RMD nc_TMD 29 ∈ lw_tbl := List.mem_of_getElem? (i := 940) (by decide +kernel)
theorem nw_MD : ∀ w ∈ u_ws nc_RMD nc_TMD 30, w ∈ gx_tbl := by
  intro w hw
  obtain ⟨k, hk, rfl⟩ := List.mem_map.mp hw
  have hk := List.mem_range.mp hk
  match k, hk with
  | 0, _ => exact gx_gd nl_MD_0 rfl
  | 1, _ => exact gx_gd nl_MD_1 rfl
  | 2, _ => exact gx_gd nl_MD_2 rfl
  | 3, _ => exact gx_gd nl_MD_3 rfl
  | 4, _ => exact gx_gd nl_MD_4 rfl
  | 5, _ => exact gx_gd nl_MD_5 rfl
  | 6, _ => exact gx_gd nl_MD_6 rfl
  | 7, _ => exact gx_gd nl_MD_7 rfl
  | 8, _ => exact gx_gd nl_MD_8 rfl
  | 9, _ => exact gx_gd nl_MD_9 rfl
  | 10, _ => exact gx_gd nl_MD_10 rfl
  | 11, _ => exact gx_gd nl_MD_11 rfl
  | 12, _ => exact gx_gd nl_MD_12 rfl
  | 13, _ => exact gx_gd nl_MD_13 rfl
  | 14, _ => exact gx_gd nl_MD_14 rfl
  | 15, _ => exact gx_gd nl_MD_15 rfl
  | 16, _ => exact gx_gd nl_MD_16 rfl
  | 17, _ => exact gx_gd nl_MD_17 rfl
  | 18, _ => exact gx_gd nl_MD_18 rfl
  | 19, _ => exact gx_gd nl_MD_19 rfl
  | 20, _ => exact gx_gd nl_MD_20 rfl
  | 21, _ => exact gx_gd nl_MD_21 rfl
  | 22, _ => exact gx_gd nl_MD_22 rfl
  | 23, _ => exact gx_gd nl_MD_23 rfl
  | 24, _ => exact gx_gd nl_MD_24 rfl
  | 25, _ => exact gx_gd nl_MD_25 rfl
  | 26, _ => exact gx_gd nl_MD_26 rfl
  | 27, _ => exact gx_gd nl_MD_27 rfl
  | 28, _ => exact gx_gd nl_MD_28 rfl
  | 29, _ => exact gx_gd nl_MD_29 rfl
  | k + 30, hk => exact absurd hk (by omega)
theorem gk_MD : gx_CL 1 nc_RMD nc_TMD 30 nc_tMD := by
  refine ⟨rfl, nw_MD, by decide +kernel, by decide +kernel, ?_, by decide +kernel⟩
  intro k hk
  match k, hk with
  | 0, _ => exact Or.inr ⟨_, rfl⟩
  | 1, _ => exact rfl
  | 2, _ => exact rfl
  | 3, _ => exact rfl
  | 4, _ => exact rfl
  | 5, _ => exact Or.inr ⟨_, rfl⟩
  | 6, _ => exact Or.inr ⟨_, rfl⟩
  | 7, _ => exact rfl
  | 8, _ => exact rfl
  | 9, _ => exact Or.inr ⟨_, rfl⟩
  | 10, _ => exact Or.inr ⟨_, rfl⟩
  | 11, _ => exact rfl
  | 12, _ => exact Or.inr ⟨_, rfl⟩
  | 13, _ => exact rfl
  | 14, _ => exact rfl
  | 15, _ => exact rfl
  | 16, _ => exact Or.inr ⟨_, rfl⟩
  | 17, _ => exact Or.inr ⟨_, rfl⟩
  | 18, _ => exact Or.inr ⟨_, rfl⟩
  | 19, _ => exact Or.inr ⟨_, rfl⟩
  | 20, _ => exact Or.inr ⟨_, rfl⟩
  | 21, _ => exact Or.inr ⟨_, rfl⟩
  | 22, _ => exact rfl
  | 23, _ => exact Or.inr ⟨_, rfl⟩
  | 24, _ => exact rfl
  | 25, _ => exact rfl
  | 26, _ => exact rfl
  | 27, _ => exact rfl
  | 28, _ => exact Or.inr ⟨_, rfl⟩
  | 29, _ => exact Or.inr ⟨_, rfl⟩
  | k + 30, hk => exact absurd hk (by omega)
theorem nl_BK_0 : u_lay nc_RBK nc_TBK 0 ∈ lw_tbl := List.mem_of_getElem? (i := 269) (by decide +kernel)
theorem nl_BK_1 : u_lay nc_RBK nc_TBK 1 ∈ lw_tbl := List.mem_of_getElem? (i := 271) (by decide +kernel)
theorem nl_BK_2 : u_lay nc_RBK nc_TBK 2 ∈ lw_tbl := List.mem_of_getElem? (i := 273) (by decide +kernel)
theorem nw_BK : ∀ w ∈ u_ws nc_RBK nc_TBK 3, w ∈ gx_tbl := by
  intro w hw
  obtain ⟨k, hk, rfl⟩ := List.mem_map.mp hw
  have hk := List.mem_range.mp hk
  match k, hk with
  | 0, _ => exact gx_gd nl_BK_0 rfl
  | 1, _ => exact gx_gd nl_BK_1 rfl
  | 2, _ => exact gx_gd nl_BK_2 rfl
  | k + 3, hk => exact absurd hk (by omega)
theorem gk_BK : gx_CL 2 nc_RBK nc_TBK 3 nc_tBK := by
  refine ⟨rfl, nw_BK, by decide +kernel, by decide +kernel, ?_, by decide +kernel⟩
  intro k hk
  match k, hk with
  | 0, _ => exact Or.inr ⟨_, rfl⟩
  | 1, _ => exact Or.inr ⟨_, rfl⟩
  | 2, _ => exact rfl
  | k + 3, hk => exact absurd hk (by omega)
theorem nl_EX_0 : u_lay nc_REX nc_TEX 0 ∈ lw_tbl := List.mem_of_getElem? (i := 168) (by decide +kernel)
theorem nl_EX_1 : u_lay nc_REX nc_TEX 1 ∈ lw_tbl := List.mem_of_getElem? (i := 170) (by decide +kernel)
theorem nw_EX : ∀ w ∈ u_ws nc_REX nc_TEX 2, w ∈ gx_tbl := by
  intro w hw
  obtain ⟨k, hk, rfl⟩ := List.mem_map.mp hw
  have hk := List.mem_range.mp hk
  match k, hk with
  | 0, _ => exact gx_gd nl_EX_0 rfl
  | 1, _ => exact gx_gd nl_EX_1 rfl
  | k + 2, hk => exact absurd hk (by omega)
theorem gk_EX : gx_CL 3 nc_REX nc_TEX 2 nc_tEX := by
  refine ⟨rfl, nw_EX, by decide +kernel, by decide +kernel, ?_, by decide +kernel⟩
  intro k hk
  match k, hk with
  | 0, _ => exact Or.inl ⟨_, rfl⟩
  | 1, _ => exact Or.inl ⟨_, rfl⟩
  | k + 2, hk => exact absurd hk (by omega)
theorem nl_FR_0 : u_lay nc_RFR nc_TFR 0 ∈ lw_tbl := List.mem_of_getElem? (i := 161) (by decide +kernel)
theorem nl_FR_1 : u_lay nc_RFR nc_TFR 1 ∈ lw_tbl := List.mem_of_getElem? (i := 163) (by decide +kernel)
theorem nw_FR : ∀ w ∈ u_ws nc_RFR nc_TFR 2, w ∈ gx_tbl := by
  intro w hw
  obtain ⟨k, hk, rfl⟩ := List.mem_map.mp hw
  have hk := List.mem_range.mp hk
  match k, hk with
  | 0, _ => exact gx_gd nl_FR_0 rfl
  | 1, _ => exact gx_gd nl_FR_1 rfl
  | k + 2, hk => exact absurd hk (by omega)
theorem gk_FR : gx_CL 4 nc_RFR nc_TFR 2 nc_tFR := by
  refine ⟨rfl, nw_FR, by decide +kernel, by decide +kernel, ?_, by decide +kernel⟩
  intro k hk
  match k, hk with
  | 0, _ => exact rfl
  | 1, _ => exact rfl
  | k + 2, hk => exact absurd hk (by omega)
theorem nl_GR_0 : u_lay nc_RGR nc_TGR 0 ∈ lw_tbl := List.mem_of_getElem? (i := 302) (by decide +kernel)
theorem nl_GR_1 : u_lay nc_RGR nc_TGR 1 ∈ lw_tbl := List.mem_of_getElem? (i := 304) (by decide +kernel)
theorem nl_GR_2 : u_lay nc_RGR nc_TGR 2 ∈ lw_tbl := List.mem_of_getElem? (i := 306) (by decide +kernel)
theorem nl_GR_3 : u_lay nc_RGR nc_TGR 3 ∈ lw_tbl := List.mem_of_getElem? (i := 308) (by decide +kernel)
theorem nl_GR_4 : u_lay nc_RGR nc_TGR 4 ∈ lw_tbl := List.mem_of_getElem? (i := 310) (by decide +kernel)
theorem nl_GR_5 : u_lay nc_RGR nc_TGR 5 ∈ lw_tbl := List.mem_of_getElem? (i := 312) (by decide +kernel)
theorem nl_GR_6 : u_lay nc_RGR nc_TGR 6 ∈ lw_tbl := List.mem_of_getElem? (i := 314) (by decide +kernel)
theorem nl_GR_7 : u_lay nc_RGR nc_TGR 7 ∈ lw_tbl := List.mem_of_getElem? (i := 316) (by decide +kernel)
theorem nl_GR_8 : u_lay nc_RGR nc_TGR 8 ∈ lw_tbl := List.mem_of_getElem? (i := 318) (by decide +kernel)
theorem nl_GR_9 : u_lay nc_RGR nc_TGR 9 ∈ lw_tbl := List.mem_of_getElem? (i := 320) (by decide +kernel)
theorem nl_GR_10 : u_lay nc_RGR nc_TGR 10 ∈ lw_tbl := List.mem_of_getElem? (i := 322) (by decide +kernel)
theorem nl_GR_11 : u_lay nc_RGR nc_TGR 11 ∈ lw_tbl := List.mem_of_getElem? (i := 324) (by decide +kernel)
theorem nl_GR_12 : u_lay nc_RGR nc_TGR 12 ∈ lw_tbl := List.mem_of_getElem? (i := 326) (by decide +kernel)
theorem nw_GR : ∀ w ∈ u_ws nc_RGR nc_TGR 13, w ∈ gx_tbl := by
  intro w hw
  obtain ⟨k, hk, rfl⟩ := List.mem_map.mp hw
  have hk := List.mem_range.mp hk
  match k, hk with
  | 0, _ => exact gx_gd nl_GR_0 rfl
  | 1, _ => exact gx_gd nl_GR_1 rfl
  | 2, _ => exact gx_gd nl_GR_2 rfl
  | 3, _ => exact gx_gd nl_GR_3 rfl
  | 4, _ => exact gx_gd nl_GR_4 rfl
  | 5, _ => exact gx_gd nl_GR_5 rfl
  | 6, _ => exact gx_gd nl_GR_6 rfl
  | 7, _ => exact gx_gd nl_GR_7 rfl
  | 8, _ => exact gx_gd nl_GR_8 rfl
  | 9, _ => exact gx_gd nl_GR_9 rfl
  | 10, _ => exact gx_gd nl_GR_10 rfl
  | 11, _ => exact gx_gd nl_GR_11 rfl
  | 12, _ => exact gx_gd nl_GR_12 rfl
  | k + 13, hk => exact absurd hk (by omega)
theorem gk_GR : gx_CL 5 nc_RGR nc_TGR 13 nc_tGR := by
  refine ⟨rfl, nw_GR, by decide +kernel, by decide +kernel, ?_, by decide +kernel⟩
  intro k hk
  match k, hk with
  | 0, _ => exact rfl
  | 1, _ => exact rfl
  | 2, _ => exact rfl
  | 3, _ => exact rfl
  | 4, _ => exact Or.inr ⟨_, rfl⟩
  | 5, _ => exact Or.inr ⟨_, rfl⟩
  | 6, _ => exact Or.inr ⟨_, rfl⟩
  | 7, _ => exact Or.inr ⟨_, rfl⟩
  | 8, _ => exact Or.inr ⟨_, rfl⟩
  | 9, _ => exact Or.inr ⟨_, rfl⟩
  | 10, _ => exact Or.inr ⟨_, rfl⟩
  | 11, _ => exact Or.inl ⟨_, rfl⟩
  | 12, _ => exact Or.inl ⟨_, rfl⟩
  | k + 13, hk => exact absurd hk (by omega)
theorem nl_HI_0 : u_lay nc_RHI nc_THI 0 ∈ lw_tbl := List.mem_of_getElem? (i := 252) (by decide +kernel)
theorem nl_HI_1 : u_lay nc_RHI nc_THI 1 ∈ lw_tbl := List.mem_of_getElem? (i := 254) (by decide +kernel)
theorem nl_HI_2 : u_lay nc_RHI nc_THI 2 ∈ lw_tbl := List.mem_of_getElem? (i := 256) (by decide +kernel)
theorem nw_HI : ∀ w ∈ u_ws nc_RHI nc_THI 3, w ∈ gx_tbl := by
  intro w hw
  obtain ⟨k, hk, rfl⟩ := List.mem_map.mp hw
  have hk := List.mem_range.mp hk
  match k, hk with
  | 0, _ => exact gx_gd nl_HI_0 rfl
  | 1, _ => exact gx_gd nl_HI_1 rfl
  | 2, _ => exact gx_gd nl_HI_2 rfl
  | k + 3, hk => exact absurd hk (by omega)
theorem gk_HI : gx_CL 6 nc_RHI nc_THI 3 nc_tHI := by
  refine ⟨rfl, nw_HI, by decide +kernel, by decide +kernel, ?_, by decide +kernel⟩
  intro k hk
  match k, hk with
  | 0, _ => exact Or.inr ⟨_, rfl⟩
  | 1, _ => exact rfl
  | 2, _ => exact rfl
  | k + 3, hk => exact absurd hk (by omega)
theorem nl_SC_0 : u_lay nc_RSC nc_TSC 0 ∈ lw_tbl := List.mem_of_getElem? (i := 140) (by decide +kernel)
theorem nl_SC_1 : u_lay nc_RSC nc_TSC 1 ∈ lw_tbl := List.mem_of_getElem? (i := 142) (by decide +kernel)
theorem nw_SC : ∀ w ∈ u_ws nc_RSC nc_TSC 2, w ∈ gx_tbl := by
  intro w hw
  obtain ⟨k, hk, rfl⟩ := List.mem_map.mp hw
  have hk := List.mem_range.mp hk
  match k, hk with
  | 0, _ => exact gx_gd nl_SC_0 rfl
  | 1, _ => exact gx_gd nl_SC_1 rfl
  | k + 2, hk => exact absurd hk (by omega)
theorem gk_SC : gx_CL 7 nc_RSC nc_TSC 2 nc_tSC := by
  refine ⟨rfl, nw_SC, by decide +kernel, by decide +kernel, ?_, by decide +kernel⟩
  intro k hk
  match k, hk with
  | 0, _ => exact rfl
  | 1, _ => exact Or.inr ⟨_, rfl⟩
  | k + 2, hk => exact absurd hk (by omega)
theorem nl_SH_0 : u_lay nc_RSH nc_TSH 0 ∈ lw_tbl := List.mem_of_getElem? (i := 208) (by decide +kernel)
theorem nl_SH_1 : u_lay nc_RSH nc_TSH 1 ∈ lw_tbl := List.mem_of_getElem? (i := 210) (by decide +kernel)
theorem nl_SH_2 : u_lay nc_RSH nc_TSH 2 ∈ lw_tbl := List.mem_of_getElem? (i := 212) (by decide +kernel)
theorem nw_SH : ∀ w ∈ u_ws nc_RSH nc_TSH 3, w ∈ gx_tbl := by
  intro w hw
  obtain ⟨k, hk, rfl⟩ := List.mem_map.mp hw
  have hk := List.mem_range.mp hk
  match k, hk with
  | 0, _ => exact gx_gd nl_SH_0 rfl
  | 1, _ => exact gx_gd nl_SH_1 rfl
  | 2, _ => exact gx_gd nl_SH_2 rfl
  | k + 3, hk => exact absurd hk (by omega)
theorem gk_SH : gx_CL 8 nc_RSH nc_TSH 3 nc_tSH := by
  refine ⟨rfl, nw_SH, by decide +kernel, by decide +kernel, ?_, by decide +kernel⟩
  intro k hk
  match k, hk with
  | 0, _ => exact rfl
  | 1, _ => exact Or.inr ⟨_, rfl⟩
  | 2, _ => exact Or.inr ⟨_, rfl⟩
  | k + 3, hk => exact absurd hk (by omega)
theorem nl_ST_0 : u_lay nc_RST nc_TST 0 ∈ lw_tbl := List.mem_of_getElem? (i := 235) (by decide +kernel)
theorem nl_ST_1 : u_lay nc_RST nc_TST 1 ∈ lw_tbl := List.mem_of_getElem? (i := 237) (by decide +kernel)
theorem nl_ST_2 : u_lay nc_RST nc_TST 2 ∈ lw_tbl := List.mem_of_getElem? (i := 239) (by decide +kernel)
theorem nl_ST_3 : u_lay nc_RST nc_TST 3 ∈ lw_tbl := List.mem_of_getElem? (i := 241) (by decide +kernel)
theorem nl_ST_4 : u_lay nc_RST nc_TST 4 ∈ lw_tbl := List.mem_of_getElem? (i := 243) (by decide +kernel)
theorem nl_ST_5 : u_lay nc_RST nc_TST 5 ∈ lw_tbl := List.mem_of_getElem? (i := 245) (by decide +kernel)
theorem nw_ST : ∀ w ∈ u_ws nc_RST nc_TST 6, w ∈ gx_tbl := by
  intro w hw
  obtain ⟨k, hk, rfl⟩ := List.mem_map.mp hw
  have hk := List.mem_range.mp hk
  match k, hk with
  | 0, _ => exact gx_gd nl_ST_0 rfl
  | 1, _ => exact gx_gd nl_ST_1 rfl
  | 2, _ => exact gx_gd nl_ST_2 rfl
  | 3, _ => exact gx_gd nl_ST_3 rfl
  | 4, _ => exact gx_gd nl_ST_4 rfl
  | 5, _ => exact gx_gd nl_ST_5 rfl
  | k + 6, hk => exact absurd hk (by omega)
theorem gk_ST : gx_CL 9 nc_RST nc_TST 6 nc_tST := by
  refine ⟨rfl, nw_ST, by decide +kernel, by decide +kernel, ?_, by decide +kernel⟩
  intro k hk
  match k, hk with
  | 0, _ => exact Or.inl ⟨_, rfl⟩
  | 1, _ => exact Or.inr ⟨_, rfl⟩
  | 2, _ => exact Or.inr ⟨_, rfl⟩
  | 3, _ => exact Or.inr ⟨_, rfl⟩
  | 4, _ => exact Or.inr ⟨_, rfl⟩
  | 5, _ => exact rfl
  | k + 6, hk => exact absurd hk (by omega)
theorem nl_TX_0 : u_lay nc_RTX nc_TTX 0 ∈ lw_tbl := List.mem_of_getElem? (i := 116) (by decide +kernel)
theorem nl_TX_1 : u_lay nc_RTX nc_TTX 1 ∈ lw_tbl := List.mem_of_getElem? (i := 118) (by decide +kernel)
theorem nl_TX_2 : u_lay nc_RTX nc_TTX 2 ∈ lw_tbl := List.mem_of_getElem? (i := 120) (by decide +kernel)
theorem nl_TX_3 : u_lay nc_RTX nc_TTX 3 ∈ lw_tbl := List.mem_of_getElem? (i := 122) (by decide +kernel)
theorem nl_TX_4 : u_lay nc_RTX nc_TTX 4 ∈ lw_tbl := List.mem_of_getElem? (i := 124) (by decide +kernel)
theorem nl_TX_5 : u_lay nc_RTX nc_TTX 5 ∈ lw_tbl := List.mem_of_getElem? (i := 126) (by decide +kernel)
theorem nw_TX : ∀ w ∈ u_ws nc_RTX nc_TTX 6, w ∈ gx_tbl := by
  intro w hw
  obtain ⟨k, hk, rfl⟩ := List.mem_map.mp hw
  have hk := List.mem_range.mp hk
  match k, hk with
  | 0, _ => exact gx_gd nl_TX_0 rfl
  | 1, _ => exact gx_gd nl_TX_1 rfl
  | 2, _ => exact gx_gd nl_TX_2 rfl
  | 3, _ => exact gx_gd nl_TX_3 rfl
  | 4, _ => exact gx_gd nl_TX_4 rfl
  | 5, _ => exact gx_gd nl_TX_5 rfl
  | k + 6, hk => exact absurd hk (by omega)
theorem gk_TX : gx_CL 10 nc_RTX nc_TTX 6 nc_tTX := by
  refine ⟨rfl, nw_TX, by decide +kernel, by decide +kernel, ?_, by decide +kernel⟩
  intro k hk
  match k, hk with
  | 0, _ => exact Or.inr ⟨_, rfl⟩
  | 1, _ => exact rfl
  | 2, _ => exact rfl
  | 3, _ => exact rfl
  | 4, _ => exact rfl
  | 5, _ => exact rfl
  | k + 6, hk => exact absurd hk (by omega)
theorem nl_TU_0 : u_lay nc_RTU nc_TTU 0 ∈ lw_tbl := List.mem_of_getElem? (i := 371) (by decide +kernel)
theorem nl_TU_1 : u_lay nc_RTU nc_TTU 1 ∈ lw_tbl := List.mem_of_getElem? (i := 373) (by decide +kernel)
theorem nl_TU_2 : u_lay nc_RTU nc_TTU 2 ∈ lw_tbl := List.mem_of_getElem? (i := 375) (by decide +kernel)
theorem nl_TU_3 : u_lay nc_RTU nc_TTU 3 ∈ lw_tbl := List.mem_of_getElem? (i := 377) (by decide +kernel)
theorem nw_TU : ∀ w ∈ u_ws nc_RTU nc_TTU 4, w ∈ gx_tbl := by
  intro w hw
  obtain ⟨k, hk, rfl⟩ := List.mem_map.mp hw
  have hk := List.mem_range.mp hk
  match k, hk with
  | 0, _ => exact gx_gd nl_TU_0 rfl
  | 1, _ => exact gx_gd nl_TU_1 rfl
  | 2, _ => exact gx_gd nl_TU_2 rfl
  | 3, _ => exact gx_gd nl_TU_3 rfl
  | k + 4, hk => exact absurd hk (by omega)
theorem gk_TU : gx_CL 11 nc_RTU nc_TTU 4 nc_tTU := by
  refine ⟨rfl, nw_TU, by decide +kernel, by decide +kernel, ?_, by decide +kernel⟩
  intro k hk
  match k, hk with
  | 0, _ => exact Or.inl ⟨_, rfl⟩
  | 1, _ => exact Or.inl ⟨_, rfl⟩
  | 2, _ => exact Or.inr ⟨_, rfl⟩
  | 3, _ => exact Or.inr ⟨_, rfl⟩
  | k + 4, hk => exact absurd hk (by omega)
theorem nl_WA_0 : u_lay nc_RWA nc_TWA 0 ∈ lw_tbl := List.mem_of_getElem? (i := 346) (by decide +kernel)
theorem nl_WA_1 : u_lay nc_RWA nc_TWA 1 ∈ lw_tbl := List.mem_of_getElem? (i := 348) (by decide +kernel)
theorem nl_WA_2 : u_lay nc_RWA nc_TWA 2 ∈ lw_tbl := List.mem_of_getElem? (i := 350) (by decide +kernel)
theorem nl_WA_3 : u_lay nc_RWA nc_TWA 3 ∈ lw_tbl := List.mem_of_getElem? (i := 352) (by decide +kernel)
theorem nl_WA_4 : u_lay nc_RWA nc_TWA 4 ∈ lw_tbl := List.mem_of_getElem? (i := 354) (by decide +kernel)
theorem nl_WA_5 : u_lay nc_RWA nc_TWA 5 ∈ lw_tbl := List.mem_of_getElem? (i := 356) (by decide +kernel)
theorem nw_WA : ∀ w ∈ u_ws nc_RWA nc_TWA 6, w ∈ gx_tbl := by
  intro w hw
  obtain ⟨k, hk, rfl⟩ := List.mem_map.mp hw
  have hk := List.mem_range.mp hk
  match k, hk with
  | 0, _ => exact gx_gd nl_WA_0 rfl
  | 1, _ => exact gx_gd nl_WA_1 rfl
  | 2, _ => exact gx_gd nl_WA_2 rfl
  | 3, _ => exact gx_gd nl_WA_3 rfl
  | 4, _ => exact gx_gd nl_WA_4 rfl
  | 5, _ => exact gx_gd nl_WA_5 rfl
  | k + 6, hk => exact absurd hk (by omega)
theorem gk_WA : gx_CL 12 nc_RWA nc_TWA 6 nc_tWA := by
  refine ⟨rfl, nw_WA, by decide +kernel, by decide +kernel, ?_, by decide +kernel⟩
  intro k hk
  match k, hk with
  | 0, _ => exact rfl
  | 1, _ => exact Or.inr ⟨_, rfl⟩
  | 2, _ => exact Or.inr ⟨_, rfl⟩
  | 3, _ => exact Or.inr ⟨_, rfl⟩
  | 4, _ => exact Or.inr ⟨_, rfl⟩
  | 5, _ => exact Or.inr ⟨_, rfl⟩
  | k + 6, hk => exact absurd hk (by omega)
/-! field links -/
theorem fl_TX_11 : Cond.fieldLink "LetterExchange$Text" 11 nc_RTX (nc_TTX 0).2.1 (nc_TTX 0).2.2.1 ∈ lw_tbl := List.mem_of_getElem? (i := 107) (by decide +kernel)
theorem fl_TX_15 : Cond.fieldLink "LetterExchange$Text" 15 nc_RTX (nc_TTX 1).2.1 (nc_TTX 1).2.2.1 ∈ lw_tbl := List.mem_of_getElem? (i := 108) (by decide +kernel)
theorem fl_LE_126 : Cond.fieldLink "LetterExchange" 126 nc_RTX (nc_TTX 1).2.1 (nc_TTX 1).2.2.1 ∈ lw_tbl := List.mem_of_getElem? (i := 109) (by decide +kernel)
theorem fl_TX_19 : Cond.fieldLink "LetterExchange$Text" 19 nc_RTX (nc_TTX 2).2.1 (nc_TTX 2).2.2.1 ∈ lw_tbl := List.mem_of_getElem? (i := 110) (by decide +kernel)
theorem fl_LE_134 : Cond.fieldLink "LetterExchange" 134 nc_RTX (nc_TTX 2).2.1 (nc_TTX 2).2.2.1 ∈ lw_tbl := List.mem_of_getElem? (i := 111) (by decide +kernel)
theorem fl_TX_22 : Cond.fieldLink "LetterExchange$Text" 22 nc_RTX (nc_TTX 3).2.1 (nc_TTX 3).2.2.1 ∈ lw_tbl := List.mem_of_getElem? (i := 112) (by decide +kernel)
theorem fl_LE_140 : Cond.fieldLink "LetterExchange" 140 nc_RTX (nc_TTX 3).2.1 (nc_TTX 3).2.2.1 ∈ lw_tbl := List.mem_of_getElem? (i := 113) (by decide +kernel)
theorem fl_TX_25 : Cond.fieldLink "LetterExchange$Text" 25 nc_RTX (nc_TTX 4).2.1 (nc_TTX 4).2.2.1 ∈ lw_tbl := List.mem_of_getElem? (i := 114) (by decide +kernel)
theorem fl_TX_28 : Cond.fieldLink "LetterExchange$Text" 28 nc_RTX (nc_TTX 5).2.1 (nc_TTX 5).2.2.1 ∈ lw_tbl := List.mem_of_getElem? (i := 115) (by decide +kernel)
theorem fl_SC_9 : Cond.fieldLink "LetterExchange$Scales" 9 nc_RSC (nc_TSC 0).2.1 (nc_TSC 0).2.2.1 ∈ lw_tbl := List.mem_of_getElem? (i := 136) (by decide +kernel)
theorem fl_LE_143 : Cond.fieldLink "LetterExchange" 143 nc_RSC (nc_TSC 0).2.1 (nc_TSC 0).2.2.1 ∈ lw_tbl := List.mem_of_getElem? (i := 137) (by decide +kernel)
theorem fl_SC_15 : Cond.fieldLink "LetterExchange$Scales" 15 nc_RSC (nc_TSC 1).2.1 (nc_TSC 1).2.2.1 ∈ lw_tbl := List.mem_of_getElem? (i := 138) (by decide +kernel)
theorem fl_LE_186 : Cond.fieldLink "LetterExchange" 186 nc_RSC (nc_TSC 1).2.1 (nc_TSC 1).2.2.1 ∈ lw_tbl := List.mem_of_getElem? (i := 139) (by decide +kernel)
theorem fl_FR_7 : Cond.fieldLink "LetterExchange$Fraction" 7 nc_RFR (nc_TFR 0).2.1 (nc_TFR 0).2.2.1 ∈ lw_tbl := List.mem_of_getElem? (i := 157) (by decide +kernel)
theorem fl_EX_71 : Cond.fieldLink "LetterExchange$Exchanger" 71 nc_RFR (nc_TFR 0).2.1 (nc_TFR 0).2.2.1 ∈ lw_tbl := List.mem_of_getElem? (i := 158) (by decide +kernel)
theorem fl_FR_13 : Cond.fieldLink "LetterExchange$Fraction" 13 nc_RFR (nc_TFR 1).2.1 (nc_TFR 1).2.2.1 ∈ lw_tbl := List.mem_of_getElem? (i := 159) (by decide +kernel)
theorem fl_EX_74 : Cond.fieldLink "LetterExchange$Exchanger" 74 nc_RFR (nc_TFR 1).2.1 (nc_TFR 1).2.2.1 ∈ lw_tbl := List.mem_of_getElem? (i := 160) (by decide +kernel)
theorem fl_EX_12 : Cond.fieldLink "LetterExchange$Exchanger" 12 nc_REX (nc_TEX 0).2.1 (nc_TEX 0).2.2.1 ∈ lw_tbl := List.mem_of_getElem? (i := 166) (by decide +kernel)
theorem fl_EX_18 : Cond.fieldLink "LetterExchange$Exchanger" 18 nc_REX (nc_TEX 1).2.1 (nc_TEX 1).2.2.1 ∈ lw_tbl := List.mem_of_getElem? (i := 167) (by decide +kernel)
theorem fl_SH_9 : Cond.fieldLink "LetterExchange$Shape" 9 nc_RSH (nc_TSH 0).2.1 (nc_TSH 0).2.2.1 ∈ lw_tbl := List.mem_of_getElem? (i := 192) (by decide +kernel)
theorem fl_GR_57 : Cond.fieldLink "LetterExchange$Graph" 57 nc_RSH (nc_TSH 0).2.1 (nc_TSH 0).2.2.1 ∈ lw_tbl := List.mem_of_getElem? (i := 193) (by decide +kernel)
theorem fl_EX_37 : Cond.fieldLink "LetterExchange$Exchanger" 37 nc_RSH (nc_TSH 0).2.1 (nc_TSH 0).2.2.1 ∈ lw_tbl := List.mem_of_getElem? (i := 194) (by decide +kernel)
theorem fl_TU_40 : Cond.fieldLink "LetterExchange$Turns" 40 nc_RSH (nc_TSH 0).2.1 (nc_TSH 0).2.2.1 ∈ lw_tbl := List.mem_of_getElem? (i := 195) (by decide +kernel)
theorem fl_SC_23 : Cond.fieldLink "LetterExchange$Scales" 23 nc_RSH (nc_TSH 0).2.1 (nc_TSH 0).2.2.1 ∈ lw_tbl := List.mem_of_getElem? (i := 196) (by decide +kernel)
theorem fl_BK_22 : Cond.fieldLink "LetterExchange$Book" 22 nc_RSH (nc_TSH 0).2.1 (nc_TSH 0).2.2.1 ∈ lw_tbl := List.mem_of_getElem? (i := 197) (by decide +kernel)
theorem fl_LE_137 : Cond.fieldLink "LetterExchange" 137 nc_RSH (nc_TSH 0).2.1 (nc_TSH 0).2.2.1 ∈ lw_tbl := List.mem_of_getElem? (i := 198) (by decide +kernel)
theorem fl_TX_72 : Cond.fieldLink "LetterExchange$Text" 72 nc_RSH (nc_TSH 0).2.1 (nc_TSH 0).2.2.1 ∈ lw_tbl := List.mem_of_getElem? (i := 199) (by decide +kernel)
theorem fl_SH_15 : Cond.fieldLink "LetterExchange$Shape" 15 nc_RSH (nc_TSH 1).2.1 (nc_TSH 1).2.2.1 ∈ lw_tbl := List.mem_of_getElem? (i := 200) (by decide +kernel)
theorem fl_SC_32 : Cond.fieldLink "LetterExchange$Scales" 32 nc_RSH (nc_TSH 1).2.1 (nc_TSH 1).2.2.1 ∈ lw_tbl := List.mem_of_getElem? (i := 201) (by decide +kernel)
theorem fl_EX_101 : Cond.fieldLink "LetterExchange$Exchanger" 101 nc_RSH (nc_TSH 1).2.1 (nc_TSH 1).2.2.1 ∈ lw_tbl := List.mem_of_getElem? (i := 202) (by decide +kernel)
theorem fl_GR_98 : Cond.fieldLink "LetterExchange$Graph" 98 nc_RSH (nc_TSH 1).2.1 (nc_TSH 1).2.2.1 ∈ lw_tbl := List.mem_of_getElem? (i := 203) (by decide +kernel)
theorem fl_LE_173 : Cond.fieldLink "LetterExchange" 173 nc_RSH (nc_TSH 1).2.1 (nc_TSH 1).2.2.1 ∈ lw_tbl := List.mem_of_getElem? (i := 204) (by decide +kernel)
theorem fl_SH_19 : Cond.fieldLink "LetterExchange$Shape" 19 nc_RSH (nc_TSH 2).2.1 (nc_TSH 2).2.2.1 ∈ lw_tbl := List.mem_of_getElem? (i := 205) (by decide +kernel)
theorem fl_GR_88 : Cond.fieldLink "LetterExchange$Graph" 88 nc_RSH (nc_TSH 2).2.1 (nc_TSH 2).2.2.1 ∈ lw_tbl := List.mem_of_getElem? (i := 206) (by decide +kernel)
theorem fl_LE_199 : Cond.fieldLink "LetterExchange" 199 nc_RSH (nc_TSH 2).2.1 (nc_TSH 2).2.2.1 ∈ lw_tbl := List.mem_of_getElem? (i := 207) (by decide +kernel)
theorem fl_ST_12 : Cond.fieldLink "LetterExchange$State" 12 nc_RST (nc_TST 0).2.1 (nc_TST 0).2.2.1 ∈ lw_tbl := List.mem_of_getElem? (i := 215) (by decide +kernel)
theorem fl_LE_108 : Cond.fieldLink "LetterExchange" 108 nc_RST (nc_TST 0).2.1 (nc_TST 0).2.2.1 ∈ lw_tbl := List.mem_of_getElem? (i := 216) (by decide +kernel)
theorem fl_EX_25 : Cond.fieldLink "LetterExchange$Exchanger" 25 nc_RST (nc_TST 0).2.1 (nc_TST 0).2.2.1 ∈ lw_tbl := List.mem_of_getElem? (i := 217) (by decide +kernel)
theorem fl_TX_61 : Cond.fieldLink "LetterExchange$Text" 61 nc_RST (nc_TST 0).2.1 (nc_TST 0).2.2.1 ∈ lw_tbl := List.mem_of_getElem? (i := 218) (by decide +kernel)
theorem fl_ST_18 : Cond.fieldLink "LetterExchange$State" 18 nc_RST (nc_TST 1).2.1 (nc_TST 1).2.2.1 ∈ lw_tbl := List.mem_of_getElem? (i := 219) (by decide +kernel)
theorem fl_EX_59 : Cond.fieldLink "LetterExchange$Exchanger" 59 nc_RST (nc_TST 1).2.1 (nc_TST 1).2.2.1 ∈ lw_tbl := List.mem_of_getElem? (i := 220) (by decide +kernel)
theorem fl_TX_81 : Cond.fieldLink "LetterExchange$Text" 81 nc_RST (nc_TST 1).2.1 (nc_TST 1).2.2.1 ∈ lw_tbl := List.mem_of_getElem? (i := 221) (by decide +kernel)
theorem fl_LE_180 : Cond.fieldLink "LetterExchange" 180 nc_RST (nc_TST 1).2.1 (nc_TST 1).2.2.1 ∈ lw_tbl := List.mem_of_getElem? (i := 222) (by decide +kernel)
theorem fl_ST_22 : Cond.fieldLink "LetterExchange$State" 22 nc_RST (nc_TST 2).2.1 (nc_TST 2).2.2.1 ∈ lw_tbl := List.mem_of_getElem? (i := 223) (by decide +kernel)
theorem fl_EX_68 : Cond.fieldLink "LetterExchange$Exchanger" 68 nc_RST (nc_TST 2).2.1 (nc_TST 2).2.2.1 ∈ lw_tbl := List.mem_of_getElem? (i := 224) (by decide +kernel)
theorem fl_LE_183 : Cond.fieldLink "LetterExchange" 183 nc_RST (nc_TST 2).2.1 (nc_TST 2).2.2.1 ∈ lw_tbl := List.mem_of_getElem? (i := 225) (by decide +kernel)
theorem fl_ST_25 : Cond.fieldLink "LetterExchange$State" 25 nc_RST (nc_TST 3).2.1 (nc_TST 3).2.2.1 ∈ lw_tbl := List.mem_of_getElem? (i := 226) (by decide +kernel)
theorem fl_EX_48 : Cond.fieldLink "LetterExchange$Exchanger" 48 nc_RST (nc_TST 3).2.1 (nc_TST 3).2.2.1 ∈ lw_tbl := List.mem_of_getElem? (i := 227) (by decide +kernel)
theorem fl_LE_202 : Cond.fieldLink "LetterExchange" 202 nc_RST (nc_TST 3).2.1 (nc_TST 3).2.2.1 ∈ lw_tbl := List.mem_of_getElem? (i := 228) (by decide +kernel)
theorem fl_ST_28 : Cond.fieldLink "LetterExchange$State" 28 nc_RST (nc_TST 4).2.1 (nc_TST 4).2.2.1 ∈ lw_tbl := List.mem_of_getElem? (i := 229) (by decide +kernel)
theorem fl_EX_56 : Cond.fieldLink "LetterExchange$Exchanger" 56 nc_RST (nc_TST 4).2.1 (nc_TST 4).2.2.1 ∈ lw_tbl := List.mem_of_getElem? (i := 230) (by decide +kernel)
theorem fl_LE_205 : Cond.fieldLink "LetterExchange" 205 nc_RST (nc_TST 4).2.1 (nc_TST 4).2.2.1 ∈ lw_tbl := List.mem_of_getElem? (i := 231) (by decide +kernel)
theorem fl_ST_31 : Cond.fieldLink "LetterExchange$State" 31 nc_RST (nc_TST 5).2.1 (nc_TST 5).2.2.1 ∈ lw_tbl := List.mem_of_getElem? (i := 232) (by decide +kernel)
theorem fl_EX_76 : Cond.fieldLink "LetterExchange$Exchanger" 76 nc_RST (nc_TST 5).2.1 (nc_TST 5).2.2.1 ∈ lw_tbl := List.mem_of_getElem? (i := 233) (by decide +kernel)
theorem fl_LE_146 : Cond.fieldLink "LetterExchange" 146 nc_RST (nc_TST 5).2.1 (nc_TST 5).2.2.1 ∈ lw_tbl := List.mem_of_getElem? (i := 234) (by decide +kernel)
theorem fl_HI_11 : Cond.fieldLink "LetterExchange$History" 11 nc_RHI (nc_THI 0).2.1 (nc_THI 0).2.2.1 ∈ lw_tbl := List.mem_of_getElem? (i := 248) (by decide +kernel)
theorem fl_HI_17 : Cond.fieldLink "LetterExchange$History" 17 nc_RHI (nc_THI 1).2.1 (nc_THI 1).2.2.1 ∈ lw_tbl := List.mem_of_getElem? (i := 249) (by decide +kernel)
theorem fl_HI_21 : Cond.fieldLink "LetterExchange$History" 21 nc_RHI (nc_THI 2).2.1 (nc_THI 2).2.2.1 ∈ lw_tbl := List.mem_of_getElem? (i := 250) (by decide +kernel)
theorem fl_LE_168 : Cond.fieldLink "LetterExchange" 168 nc_RHI (nc_THI 2).2.1 (nc_THI 2).2.2.1 ∈ lw_tbl := List.mem_of_getElem? (i := 251) (by decide +kernel)
theorem fl_BK_11 : Cond.fieldLink "LetterExchange$Book" 11 nc_RBK (nc_TBK 0).2.1 (nc_TBK 0).2.2.1 ∈ lw_tbl := List.mem_of_getElem? (i := 265) (by decide +kernel)
theorem fl_BK_15 : Cond.fieldLink "LetterExchange$Book" 15 nc_RBK (nc_TBK 1).2.1 (nc_TBK 1).2.2.1 ∈ lw_tbl := List.mem_of_getElem? (i := 266) (by decide +kernel)
theorem fl_BK_18 : Cond.fieldLink "LetterExchange$Book" 18 nc_RBK (nc_TBK 2).2.1 (nc_TBK 2).2.2.1 ∈ lw_tbl := List.mem_of_getElem? (i := 267) (by decide +kernel)
theorem fl_LE_161 : Cond.fieldLink "LetterExchange" 161 nc_RBK (nc_TBK 2).2.1 (nc_TBK 2).2.2.1 ∈ lw_tbl := List.mem_of_getElem? (i := 268) (by decide +kernel)
theorem fl_GR_9 : Cond.fieldLink "LetterExchange$Graph" 9 nc_RGR (nc_TGR 0).2.1 (nc_TGR 0).2.2.1 ∈ lw_tbl := List.mem_of_getElem? (i := 284) (by decide +kernel)
theorem fl_WA_33 : Cond.fieldLink "LetterExchange$Walk" 33 nc_RGR (nc_TGR 0).2.1 (nc_TGR 0).2.2.1 ∈ lw_tbl := List.mem_of_getElem? (i := 285) (by decide +kernel)
theorem fl_GR_15 : Cond.fieldLink "LetterExchange$Graph" 15 nc_RGR (nc_TGR 1).2.1 (nc_TGR 1).2.2.1 ∈ lw_tbl := List.mem_of_getElem? (i := 286) (by decide +kernel)
theorem fl_WA_38 : Cond.fieldLink "LetterExchange$Walk" 38 nc_RGR (nc_TGR 1).2.1 (nc_TGR 1).2.2.1 ∈ lw_tbl := List.mem_of_getElem? (i := 287) (by decide +kernel)
theorem fl_GR_18 : Cond.fieldLink "LetterExchange$Graph" 18 nc_RGR (nc_TGR 2).2.1 (nc_TGR 2).2.2.1 ∈ lw_tbl := List.mem_of_getElem? (i := 288) (by decide +kernel)
theorem fl_LE_154 : Cond.fieldLink "LetterExchange" 154 nc_RGR (nc_TGR 2).2.1 (nc_TGR 2).2.2.1 ∈ lw_tbl := List.mem_of_getElem? (i := 289) (by decide +kernel)
theorem fl_GR_21 : Cond.fieldLink "LetterExchange$Graph" 21 nc_RGR (nc_TGR 3).2.1 (nc_TGR 3).2.2.1 ∈ lw_tbl := List.mem_of_getElem? (i := 290) (by decide +kernel)
theorem fl_LE_269 : Cond.fieldLink "LetterExchange" 269 nc_RGR (nc_TGR 3).2.1 (nc_TGR 3).2.2.1 ∈ lw_tbl := List.mem_of_getElem? (i := 291) (by decide +kernel)
theorem fl_GR_25 : Cond.fieldLink "LetterExchange$Graph" 25 nc_RGR (nc_TGR 4).2.1 (nc_TGR 4).2.2.1 ∈ lw_tbl := List.mem_of_getElem? (i := 292) (by decide +kernel)
theorem fl_WA_41 : Cond.fieldLink "LetterExchange$Walk" 41 nc_RGR (nc_TGR 4).2.1 (nc_TGR 4).2.2.1 ∈ lw_tbl := List.mem_of_getElem? (i := 293) (by decide +kernel)
theorem fl_GR_29 : Cond.fieldLink "LetterExchange$Graph" 29 nc_RGR (nc_TGR 5).2.1 (nc_TGR 5).2.2.1 ∈ lw_tbl := List.mem_of_getElem? (i := 294) (by decide +kernel)
theorem fl_GR_32 : Cond.fieldLink "LetterExchange$Graph" 32 nc_RGR (nc_TGR 6).2.1 (nc_TGR 6).2.2.1 ∈ lw_tbl := List.mem_of_getElem? (i := 295) (by decide +kernel)
theorem fl_GR_35 : Cond.fieldLink "LetterExchange$Graph" 35 nc_RGR (nc_TGR 7).2.1 (nc_TGR 7).2.2.1 ∈ lw_tbl := List.mem_of_getElem? (i := 296) (by decide +kernel)
theorem fl_GR_38 : Cond.fieldLink "LetterExchange$Graph" 38 nc_RGR (nc_TGR 8).2.1 (nc_TGR 8).2.2.1 ∈ lw_tbl := List.mem_of_getElem? (i := 297) (by decide +kernel)
theorem fl_GR_41 : Cond.fieldLink "LetterExchange$Graph" 41 nc_RGR (nc_TGR 9).2.1 (nc_TGR 9).2.2.1 ∈ lw_tbl := List.mem_of_getElem? (i := 298) (by decide +kernel)
theorem fl_GR_44 : Cond.fieldLink "LetterExchange$Graph" 44 nc_RGR (nc_TGR 10).2.1 (nc_TGR 10).2.2.1 ∈ lw_tbl := List.mem_of_getElem? (i := 299) (by decide +kernel)
theorem fl_GR_50 : Cond.fieldLink "LetterExchange$Graph" 50 nc_RGR (nc_TGR 11).2.1 (nc_TGR 11).2.2.1 ∈ lw_tbl := List.mem_of_getElem? (i := 300) (by decide +kernel)
theorem fl_GR_54 : Cond.fieldLink "LetterExchange$Graph" 54 nc_RGR (nc_TGR 12).2.1 (nc_TGR 12).2.2.1 ∈ lw_tbl := List.mem_of_getElem? (i := 301) (by decide +kernel)
theorem fl_WA_9 : Cond.fieldLink "LetterExchange$Walk" 9 nc_RWA (nc_TWA 0).2.1 (nc_TWA 0).2.2.1 ∈ lw_tbl := List.mem_of_getElem? (i := 335) (by decide +kernel)
theorem fl_LE_153 : Cond.fieldLink "LetterExchange" 153 nc_RWA (nc_TWA 0).2.1 (nc_TWA 0).2.2.1 ∈ lw_tbl := List.mem_of_getElem? (i := 336) (by decide +kernel)
theorem fl_WA_17 : Cond.fieldLink "LetterExchange$Walk" 17 nc_RWA (nc_TWA 1).2.1 (nc_TWA 1).2.2.1 ∈ lw_tbl := List.mem_of_getElem? (i := 337) (by decide +kernel)
theorem fl_LE_248 : Cond.fieldLink "LetterExchange" 248 nc_RWA (nc_TWA 1).2.1 (nc_TWA 1).2.2.1 ∈ lw_tbl := List.mem_of_getElem? (i := 338) (by decide +kernel)
theorem fl_WA_21 : Cond.fieldLink "LetterExchange$Walk" 21 nc_RWA (nc_TWA 2).2.1 (nc_TWA 2).2.2.1 ∈ lw_tbl := List.mem_of_getElem? (i := 339) (by decide +kernel)
theorem fl_WA_24 : Cond.fieldLink "LetterExchange$Walk" 24 nc_RWA (nc_TWA 3).2.1 (nc_TWA 3).2.2.1 ∈ lw_tbl := List.mem_of_getElem? (i := 340) (by decide +kernel)
theorem fl_LE_232 : Cond.fieldLink "LetterExchange" 232 nc_RWA (nc_TWA 3).2.1 (nc_TWA 3).2.2.1 ∈ lw_tbl := List.mem_of_getElem? (i := 341) (by decide +kernel)
theorem fl_WA_27 : Cond.fieldLink "LetterExchange$Walk" 27 nc_RWA (nc_TWA 4).2.1 (nc_TWA 4).2.2.1 ∈ lw_tbl := List.mem_of_getElem? (i := 342) (by decide +kernel)
theorem fl_LE_235 : Cond.fieldLink "LetterExchange" 235 nc_RWA (nc_TWA 4).2.1 (nc_TWA 4).2.2.1 ∈ lw_tbl := List.mem_of_getElem? (i := 343) (by decide +kernel)
theorem fl_WA_30 : Cond.fieldLink "LetterExchange$Walk" 30 nc_RWA (nc_TWA 5).2.1 (nc_TWA 5).2.2.1 ∈ lw_tbl := List.mem_of_getElem? (i := 344) (by decide +kernel)
theorem fl_LE_238 : Cond.fieldLink "LetterExchange" 238 nc_RWA (nc_TWA 5).2.1 (nc_TWA 5).2.2.1 ∈ lw_tbl := List.mem_of_getElem? (i := 345) (by decide +kernel)
theorem fl_TU_12 : Cond.fieldLink "LetterExchange$Turns" 12 nc_RTU (nc_TTU 0).2.1 (nc_TTU 0).2.2.1 ∈ lw_tbl := List.mem_of_getElem? (i := 367) (by decide +kernel)
theorem fl_TU_18 : Cond.fieldLink "LetterExchange$Turns" 18 nc_RTU (nc_TTU 1).2.1 (nc_TTU 1).2.2.1 ∈ lw_tbl := List.mem_of_getElem? (i := 368) (by decide +kernel)
theorem fl_TU_21 : Cond.fieldLink "LetterExchange$Turns" 21 nc_RTU (nc_TTU 2).2.1 (nc_TTU 2).2.2.1 ∈ lw_tbl := List.mem_of_getElem? (i := 369) (by decide +kernel)
theorem fl_TU_25 : Cond.fieldLink "LetterExchange$Turns" 25 nc_RTU (nc_TTU 3).2.1 (nc_TTU 3).2.2.1 ∈ lw_tbl := List.mem_of_getElem? (i := 370) (by decide +kernel)
theorem fl_LE_12 : Cond.fieldLink "LetterExchange" 12 nc_RLE (nc_TLE 0).2.1 (nc_TLE 0).2.2.1 ∈ lw_tbl := List.mem_of_getElem? (i := 433) (by decide +kernel)
theorem fl_LE_19 : Cond.fieldLink "LetterExchange" 19 nc_RLE (nc_TLE 1).2.1 (nc_TLE 1).2.2.1 ∈ lw_tbl := List.mem_of_getElem? (i := 434) (by decide +kernel)
theorem fl_LE_26 : Cond.fieldLink "LetterExchange" 26 nc_RLE (nc_TLE 2).2.1 (nc_TLE 2).2.2.1 ∈ lw_tbl := List.mem_of_getElem? (i := 435) (by decide +kernel)
theorem fl_LE_33 : Cond.fieldLink "LetterExchange" 33 nc_RLE (nc_TLE 3).2.1 (nc_TLE 3).2.2.1 ∈ lw_tbl := List.mem_of_getElem? (i := 436) (by decide +kernel)
theorem fl_LE_40 : Cond.fieldLink "LetterExchange" 40 nc_RLE (nc_TLE 4).2.1 (nc_TLE 4).2.2.1 ∈ lw_tbl := List.mem_of_getElem? (i := 437) (by decide +kernel)
theorem fl_LE_47 : Cond.fieldLink "LetterExchange" 47 nc_RLE (nc_TLE 5).2.1 (nc_TLE 5).2.2.1 ∈ lw_tbl := List.mem_of_getElem? (i := 438) (by decide +kernel)
theorem fl_LE_54 : Cond.fieldLink "LetterExchange" 54 nc_RLE (nc_TLE 6).2.1 (nc_TLE 6).2.2.1 ∈ lw_tbl := List.mem_of_getElem? (i := 439) (by decide +kernel)
theorem fl_LE_61 : Cond.fieldLink "LetterExchange" 61 nc_RLE (nc_TLE 7).2.1 (nc_TLE 7).2.2.1 ∈ lw_tbl := List.mem_of_getElem? (i := 440) (by decide +kernel)
theorem fl_LE_68 : Cond.fieldLink "LetterExchange" 68 nc_RLE (nc_TLE 8).2.1 (nc_TLE 8).2.2.1 ∈ lw_tbl := List.mem_of_getElem? (i := 441) (by decide +kernel)
theorem fl_LE_72 : Cond.fieldLink "LetterExchange" 72 nc_RLE (nc_TLE 9).2.1 (nc_TLE 9).2.2.1 ∈ lw_tbl := List.mem_of_getElem? (i := 442) (by decide +kernel)
theorem fl_LE_76 : Cond.fieldLink "LetterExchange" 76 nc_RLE (nc_TLE 10).2.1 (nc_TLE 10).2.2.1 ∈ lw_tbl := List.mem_of_getElem? (i := 443) (by decide +kernel)
theorem fl_LE_80 : Cond.fieldLink "LetterExchange" 80 nc_RLE (nc_TLE 11).2.1 (nc_TLE 11).2.2.1 ∈ lw_tbl := List.mem_of_getElem? (i := 444) (by decide +kernel)
theorem fl_LE_84 : Cond.fieldLink "LetterExchange" 84 nc_RLE (nc_TLE 12).2.1 (nc_TLE 12).2.2.1 ∈ lw_tbl := List.mem_of_getElem? (i := 445) (by decide +kernel)
theorem fl_LE_87 : Cond.fieldLink "LetterExchange" 87 nc_RLE (nc_TLE 13).2.1 (nc_TLE 13).2.2.1 ∈ lw_tbl := List.mem_of_getElem? (i := 446) (by decide +kernel)
theorem fl_LE_90 : Cond.fieldLink "LetterExchange" 90 nc_RLE (nc_TLE 14).2.1 (nc_TLE 14).2.2.1 ∈ lw_tbl := List.mem_of_getElem? (i := 447) (by decide +kernel)
theorem fl_LE_93 : Cond.fieldLink "LetterExchange" 93 nc_RLE (nc_TLE 15).2.1 (nc_TLE 15).2.2.1 ∈ lw_tbl := List.mem_of_getElem? (i := 448) (by decide +kernel)
theorem fl_LE_97 : Cond.fieldLink "LetterExchange" 97 nc_RLE (nc_TLE 16).2.1 (nc_TLE 16).2.2.1 ∈ lw_tbl := List.mem_of_getElem? (i := 449) (by decide +kernel)
theorem fl_LE_101 : Cond.fieldLink "LetterExchange" 101 nc_RLE (nc_TLE 17).2.1 (nc_TLE 17).2.2.1 ∈ lw_tbl := List.mem_of_getElem? (i := 450) (by decide +kernel)
theorem fl_MD_7 : Cond.fieldLink "LetterExchangeModel" 7 nc_RMD (nc_TMD 0).2.1 (nc_TMD 0).2.2.1 ∈ lw_tbl := List.mem_of_getElem? (i := 852) (by decide +kernel)
theorem fl_MD_13 : Cond.fieldLink "LetterExchangeModel" 13 nc_RMD (nc_TMD 1).2.1 (nc_TMD 1).2.2.1 ∈ lw_tbl := List.mem_of_getElem? (i := 853) (by decide +kernel)
theorem fl_MD_230 : Cond.fieldLink "LetterExchangeModel" 230 nc_RMD (nc_TMD 2).2.1 (nc_TMD 2).2.2.1 ∈ lw_tbl := List.mem_of_getElem? (i := 854) (by decide +kernel)
theorem fl_MD_233 : Cond.fieldLink "LetterExchangeModel" 233 nc_RMD (nc_TMD 3).2.1 (nc_TMD 3).2.2.1 ∈ lw_tbl := List.mem_of_getElem? (i := 855) (by decide +kernel)
theorem fl_MD_268 : Cond.fieldLink "LetterExchangeModel" 268 nc_RMD (nc_TMD 4).2.1 (nc_TMD 4).2.2.1 ∈ lw_tbl := List.mem_of_getElem? (i := 856) (by decide +kernel)
theorem fl_MD_17 : Cond.fieldLink "LetterExchangeModel" 17 nc_RMD (nc_TMD 5).2.1 (nc_TMD 5).2.2.1 ∈ lw_tbl := List.mem_of_getElem? (i := 857) (by decide +kernel)
theorem fl_MD_20 : Cond.fieldLink "LetterExchangeModel" 20 nc_RMD (nc_TMD 6).2.1 (nc_TMD 6).2.2.1 ∈ lw_tbl := List.mem_of_getElem? (i := 858) (by decide +kernel)
theorem fl_MD_195 : Cond.fieldLink "LetterExchangeModel" 195 nc_RMD (nc_TMD 7).2.1 (nc_TMD 7).2.2.1 ∈ lw_tbl := List.mem_of_getElem? (i := 859) (by decide +kernel)
theorem fl_MD_23 : Cond.fieldLink "LetterExchangeModel" 23 nc_RMD (nc_TMD 8).2.1 (nc_TMD 8).2.2.1 ∈ lw_tbl := List.mem_of_getElem? (i := 860) (by decide +kernel)
theorem fl_MD_26 : Cond.fieldLink "LetterExchangeModel" 26 nc_RMD (nc_TMD 9).2.1 (nc_TMD 9).2.2.1 ∈ lw_tbl := List.mem_of_getElem? (i := 861) (by decide +kernel)
theorem fl_MD_29 : Cond.fieldLink "LetterExchangeModel" 29 nc_RMD (nc_TMD 10).2.1 (nc_TMD 10).2.2.1 ∈ lw_tbl := List.mem_of_getElem? (i := 862) (by decide +kernel)
theorem fl_MD_236 : Cond.fieldLink "LetterExchangeModel" 236 nc_RMD (nc_TMD 11).2.1 (nc_TMD 11).2.2.1 ∈ lw_tbl := List.mem_of_getElem? (i := 863) (by decide +kernel)
theorem fl_MD_32 : Cond.fieldLink "LetterExchangeModel" 32 nc_RMD (nc_TMD 12).2.1 (nc_TMD 12).2.2.1 ∈ lw_tbl := List.mem_of_getElem? (i := 864) (by decide +kernel)
theorem fl_MD_80 : Cond.fieldLink "LetterExchangeModel" 80 nc_RMD (nc_TMD 13).2.1 (nc_TMD 13).2.2.1 ∈ lw_tbl := List.mem_of_getElem? (i := 865) (by decide +kernel)
theorem fl_MD_84 : Cond.fieldLink "LetterExchangeModel" 84 nc_RMD (nc_TMD 14).2.1 (nc_TMD 14).2.2.1 ∈ lw_tbl := List.mem_of_getElem? (i := 866) (by decide +kernel)
theorem fl_MD_87 : Cond.fieldLink "LetterExchangeModel" 87 nc_RMD (nc_TMD 15).2.1 (nc_TMD 15).2.2.1 ∈ lw_tbl := List.mem_of_getElem? (i := 867) (by decide +kernel)
theorem fl_MD_35 : Cond.fieldLink "LetterExchangeModel" 35 nc_RMD (nc_TMD 16).2.1 (nc_TMD 16).2.2.1 ∈ lw_tbl := List.mem_of_getElem? (i := 868) (by decide +kernel)
theorem fl_MD_38 : Cond.fieldLink "LetterExchangeModel" 38 nc_RMD (nc_TMD 17).2.1 (nc_TMD 17).2.2.1 ∈ lw_tbl := List.mem_of_getElem? (i := 869) (by decide +kernel)
theorem fl_MD_41 : Cond.fieldLink "LetterExchangeModel" 41 nc_RMD (nc_TMD 18).2.1 (nc_TMD 18).2.2.1 ∈ lw_tbl := List.mem_of_getElem? (i := 870) (by decide +kernel)
theorem fl_MD_44 : Cond.fieldLink "LetterExchangeModel" 44 nc_RMD (nc_TMD 19).2.1 (nc_TMD 19).2.2.1 ∈ lw_tbl := List.mem_of_getElem? (i := 871) (by decide +kernel)
theorem fl_MD_47 : Cond.fieldLink "LetterExchangeModel" 47 nc_RMD (nc_TMD 20).2.1 (nc_TMD 20).2.2.1 ∈ lw_tbl := List.mem_of_getElem? (i := 872) (by decide +kernel)
theorem fl_MD_50 : Cond.fieldLink "LetterExchangeModel" 50 nc_RMD (nc_TMD 21).2.1 (nc_TMD 21).2.2.1 ∈ lw_tbl := List.mem_of_getElem? (i := 873) (by decide +kernel)
theorem fl_MD_150 : Cond.fieldLink "LetterExchangeModel" 150 nc_RMD (nc_TMD 22).2.1 (nc_TMD 22).2.2.1 ∈ lw_tbl := List.mem_of_getElem? (i := 874) (by decide +kernel)
theorem fl_MD_53 : Cond.fieldLink "LetterExchangeModel" 53 nc_RMD (nc_TMD 23).2.1 (nc_TMD 23).2.2.1 ∈ lw_tbl := List.mem_of_getElem? (i := 875) (by decide +kernel)
theorem fl_MD_202 : Cond.fieldLink "LetterExchangeModel" 202 nc_RMD (nc_TMD 24).2.1 (nc_TMD 24).2.2.1 ∈ lw_tbl := List.mem_of_getElem? (i := 876) (by decide +kernel)
theorem fl_MD_199 : Cond.fieldLink "LetterExchangeModel" 199 nc_RMD (nc_TMD 25).2.1 (nc_TMD 25).2.2.1 ∈ lw_tbl := List.mem_of_getElem? (i := 877) (by decide +kernel)
theorem fl_MD_205 : Cond.fieldLink "LetterExchangeModel" 205 nc_RMD (nc_TMD 26).2.1 (nc_TMD 26).2.2.1 ∈ lw_tbl := List.mem_of_getElem? (i := 878) (by decide +kernel)
theorem fl_MD_62 : Cond.fieldLink "LetterExchangeModel" 62 nc_RMD (nc_TMD 27).2.1 (nc_TMD 27).2.2.1 ∈ lw_tbl := List.mem_of_getElem? (i := 879) (by decide +kernel)
theorem fl_MD_56 : Cond.fieldLink "LetterExchangeModel" 56 nc_RMD (nc_TMD 28).2.1 (nc_TMD 28).2.2.1 ∈ lw_tbl := List.mem_of_getElem? (i := 880) (by decide +kernel)
theorem fl_MD_59 : Cond.fieldLink "LetterExchangeModel" 59 nc_RMD (nc_TMD 29).2.1 (nc_TMD 29).2.2.1 ∈ lw_tbl := List.mem_of_getElem? (i := 881) (by decide +kernel)
/-! constants -/
theorem kc_LE_121 : Cond.constant "LetterExchange" 121 (Int32.ofInt (-1000000002)) ∈ lw_tbl := List.mem_of_getElem? (i := 493) (by decide +kernel)
theorem kc_LE_129 : Cond.constant "LetterExchange" 129 (Int32.ofInt (-1000000004)) ∈ lw_tbl := List.mem_of_getElem? (i := 498) (by decide +kernel)
theorem kc_LE_172 : Cond.constant "LetterExchange" 172 (Int32.ofInt (-1000000001)) ∈ lw_tbl := List.mem_of_getElem? (i := 657) (by decide +kernel)
theorem kc_FR_20 : Cond.constantLong "LetterExchange$Fraction" 20 (Int64.ofInt (1000000000)) ∈ lw_tbl := List.mem_of_getElem? (i := 700) (by decide +kernel)
theorem kc_EX_79 : Cond.constant "LetterExchange$Exchanger" 79 (Int32.ofInt (99999)) ∈ lw_tbl := List.mem_of_getElem? (i := 723) (by decide +kernel)
theorem kc_LE_211 : Cond.constant "LetterExchange" 211 (Int32.ofInt (-1000000003)) ∈ lw_tbl := List.mem_of_getElem? (i := 752) (by decide +kernel)
theorem kc_LE_290 : Cond.constantLong "LetterExchange" 290 (Int64.ofInt (1103515245)) ∈ lw_tbl := List.mem_of_getElem? (i := 770) (by decide +kernel)
theorem kc_LE_292 : Cond.constantLong "LetterExchange" 292 (Int64.ofInt (12345)) ∈ lw_tbl := List.mem_of_getElem? (i := 771) (by decide +kernel)
theorem kc_LE_294 : Cond.constantLong "LetterExchange" 294 (Int64.ofInt (2147483647)) ∈ lw_tbl := List.mem_of_getElem? (i := 772) (by decide +kernel)
theorem kc_LE_296 : Cond.constant "LetterExchange" 296 (Int32.ofInt (65536)) ∈ lw_tbl := List.mem_of_getElem? (i := 773) (by decide +kernel)
theorem kc_MD_187 : Cond.constant "LetterExchangeModel" 187 (Int32.ofInt (-1000000001)) ∈ lw_tbl := List.mem_of_getElem? (i := 1017) (by decide +kernel)
theorem kc_MD_188 : Cond.constant "LetterExchangeModel" 188 (Int32.ofInt (-1000000002)) ∈ lw_tbl := List.mem_of_getElem? (i := 1018) (by decide +kernel)
theorem kc_MD_198 : Cond.constant "LetterExchangeModel" 198 (Int32.ofInt (-1000000004)) ∈ lw_tbl := List.mem_of_getElem? (i := 1047) (by decide +kernel)
theorem kc_MD_91 : Cond.constantLong "LetterExchangeModel" 91 (Int64.ofInt (1000000000)) ∈ lw_tbl := List.mem_of_getElem? (i := 1152) (by decide +kernel)
theorem kc_MD_261 : Cond.constant "LetterExchangeModel" 261 (Int32.ofInt (-1000000003)) ∈ lw_tbl := List.mem_of_getElem? (i := 1177) (by decide +kernel)
theorem kc_MD_260 : Cond.constant "LetterExchangeModel" 260 (Int32.ofInt (99999)) ∈ lw_tbl := List.mem_of_getElem? (i := 1186) (by decide +kernel)
theorem kc_MD_271 : Cond.constantLong "LetterExchangeModel" 271 (Int64.ofInt (1103515245)) ∈ lw_tbl := List.mem_of_getElem? (i := 1199) (by decide +kernel)
theorem kc_MD_273 : Cond.constantLong "LetterExchangeModel" 273 (Int64.ofInt (12345)) ∈ lw_tbl := List.mem_of_getElem? (i := 1200) (by decide +kernel)
theorem kc_MD_275 : Cond.constantLong "LetterExchangeModel" 275 (Int64.ofInt (2147483648)) ∈ lw_tbl := List.mem_of_getElem? (i := 1201) (by decide +kernel)
theorem kc_MD_277 : Cond.constant "LetterExchangeModel" 277 (Int32.ofInt (65536)) ∈ lw_tbl := List.mem_of_getElem? (i := 1202) (by decide +kernel)
/-! methods -/
abbrev gx_M : Type := MethodName × ByteArray × Nat × Option FieldType × Room × Nat × Nat
def gm_LE_init : gx_M := (⟨"LetterExchange", "<init>", "()V"⟩, prog_1_method_1_code, 1, (Option.none : Option FieldType), { frames := 11, cells := 245, slots := 6610, locals := 405 }, 245, 6610)
def gm_LE_feed : gx_M := (⟨"LetterExchange", "feed", "(I)I"⟩, prog_1_method_2_code, 2, (Option.some FieldType.int), { frames := 1, cells := 0, slots := 0, locals := 21 }, 0, 0)
def gm_LE_letters : gx_M := (⟨"LetterExchange", "letters", "()I"⟩, prog_1_method_3_code, 2, (Option.some FieldType.int), { frames := 11, cells := 0, slots := 0, locals := 405 }, 0, 0)
def gm_LE_fault : gx_M := (⟨"LetterExchange", "fault", "()I"⟩, prog_1_method_4_code, 1, (Option.some FieldType.int), { frames := 0, cells := 0, slots := 0, locals := 0 }, 0, 0)
def gm_LE_told : gx_M := (⟨"LetterExchange", "told", "(I)I"⟩, prog_1_method_5_code, 2, (Option.some FieldType.int), { frames := 6, cells := 0, slots := 0, locals := 177 }, 0, 0)
def gm_LE_table : gx_M := (⟨"LetterExchange", "table", "(II)I"⟩, prog_1_method_6_code, 3, (Option.some FieldType.int), { frames := 1, cells := 0, slots := 0, locals := 21 }, 0, 0)
def gm_LE_letter : gx_M := (⟨"LetterExchange", "letter", "(II)I"⟩, prog_1_method_7_code, 3, (Option.some FieldType.int), { frames := 6, cells := 0, slots := 0, locals := 155 }, 0, 0)
def gm_LE_row : gx_M := (⟨"LetterExchange", "row", "(III)I"⟩, prog_1_method_8_code, 4, (Option.some FieldType.int), { frames := 1, cells := 0, slots := 0, locals := 21 }, 0, 0)
def gm_LE_byTurns : gx_M := (⟨"LetterExchange", "byTurns", "(II)I"⟩, prog_1_method_9_code, 3, (Option.some FieldType.int), { frames := 5, cells := 0, slots := 0, locals := 137 }, 0, 0)
def gm_LE_exchange : gx_M := (⟨"LetterExchange", "exchange", "(I)I"⟩, prog_1_method_10_code, 2, (Option.some FieldType.int), { frames := 6, cells := 0, slots := 0, locals := 155 }, 0, 0)
def gm_LE_start : gx_M := (⟨"LetterExchange", "start", "()I"⟩, prog_1_method_11_code, 2, (Option.some FieldType.int), { frames := 4, cells := 0, slots := 0, locals := 123 }, 0, 0)
def gm_LE_drift : gx_M := (⟨"LetterExchange", "drift", "(I)I"⟩, prog_1_method_12_code, 4, (Option.some FieldType.int), { frames := 6, cells := 0, slots := 0, locals := 155 }, 0, 0)
def gm_LE_undo : gx_M := (⟨"LetterExchange", "undo", "(I)I"⟩, prog_1_method_13_code, 2, (Option.some FieldType.int), { frames := 4, cells := 0, slots := 0, locals := 124 }, 0, 0)
def gm_LE_stand : gx_M := (⟨"LetterExchange", "stand", "(II)I"⟩, prog_1_method_14_code, 3, (Option.some FieldType.int), { frames := 6, cells := 0, slots := 0, locals := 177 }, 0, 0)
def gm_LE_next : gx_M := (⟨"LetterExchange", "next", "(II)I"⟩, prog_1_method_15_code, 3, (Option.some FieldType.int), { frames := 6, cells := 0, slots := 0, locals := 177 }, 0, 0)
def gm_LE_away : gx_M := (⟨"LetterExchange", "away", "(I)I"⟩, prog_1_method_16_code, 2, (Option.some FieldType.int), { frames := 6, cells := 0, slots := 0, locals := 177 }, 0, 0)
def gm_LE_standRow : gx_M := (⟨"LetterExchange", "standRow", "(III)I"⟩, prog_1_method_17_code, 4, (Option.some FieldType.int), { frames := 6, cells := 0, slots := 0, locals := 177 }, 0, 0)
def gm_LE_write : gx_M := (⟨"LetterExchange", "write", "(II)I"⟩, prog_1_method_18_code, 3, (Option.some FieldType.int), { frames := 1, cells := 0, slots := 0, locals := 22 }, 0, 0)
def gm_LE_tear : gx_M := (⟨"LetterExchange", "tear", "()I"⟩, prog_1_method_19_code, 2, (Option.some FieldType.int), { frames := 0, cells := 0, slots := 0, locals := 0 }, 0, 0)
def gm_LE_seed : gx_M := (⟨"LetterExchange", "seed", "(I)I"⟩, prog_1_method_20_code, 3, (Option.some FieldType.int), { frames := 0, cells := 0, slots := 0, locals := 0 }, 0, 0)
def gm_LE_keep : gx_M := (⟨"LetterExchange", "keep", "(I)I"⟩, prog_1_method_21_code, 2, (Option.some FieldType.int), { frames := 3, cells := 0, slots := 0, locals := 102 }, 0, 0)
def gm_LE_goBack : gx_M := (⟨"LetterExchange", "goBack", "(I)I"⟩, prog_1_method_22_code, 2, (Option.some FieldType.int), { frames := 3, cells := 0, slots := 0, locals := 102 }, 0, 0)
def gm_LE_beginAsSpare : gx_M := (⟨"LetterExchange", "beginAsSpare", "()V"⟩, prog_1_method_23_code, 2, (Option.none : Option FieldType), { frames := 10, cells := 0, slots := 0, locals := 384 }, 0, 0)
def gm_LE_isNoLetter : gx_M := (⟨"LetterExchange", "isNoLetter", "(I)Z"⟩, prog_1_method_24_code, 2, (Option.some FieldType.boolean), { frames := 0, cells := 0, slots := 0, locals := 0 }, 0, 0)
def gm_LE_isOpen : gx_M := (⟨"LetterExchange", "isOpen", "()Z"⟩, prog_1_method_25_code, 1, (Option.some FieldType.boolean), { frames := 5, cells := 0, slots := 0, locals := 157 }, 0, 0)
def gm_LE_exchangesIntoSpare : gx_M := (⟨"LetterExchange", "exchangesIntoSpare", "(I)Z"⟩, prog_1_method_26_code, 2, (Option.some FieldType.boolean), { frames := 5, cells := 0, slots := 0, locals := 134 }, 0, 0)
def gm_LE_takeSpare : gx_M := (⟨"LetterExchange", "takeSpare", "()V"⟩, prog_1_method_27_code, 2, (Option.none : Option FieldType), { frames := 0, cells := 0, slots := 0, locals := 0 }, 0, 0)
def gm_LE_placeNow : gx_M := (⟨"LetterExchange", "placeNow", "(I)I"⟩, prog_1_method_28_code, 4, (Option.some FieldType.int), { frames := 3, cells := 0, slots := 0, locals := 66 }, 0, 0)
def gm_LE_draw : gx_M := (⟨"LetterExchange", "draw", "(I)I"⟩, prog_1_method_29_code, 2, (Option.some FieldType.int), { frames := 0, cells := 0, slots := 0, locals := 0 }, 0, 0)
def gm_LE_cell : gx_M := (⟨"LetterExchange", "cell", "(II)I"⟩, prog_1_method_30_code, 2, (Option.some FieldType.int), { frames := 0, cells := 0, slots := 0, locals := 0 }, 0, 0)
def gm_LE_hasNumberBeyond : gx_M := (⟨"LetterExchange", "hasNumberBeyond", "([II)Z"⟩, prog_1_method_31_code, 5, (Option.some FieldType.boolean), { frames := 1, cells := 0, slots := 0, locals := 21 }, 0, 0)
def gm_LE_codeOf : gx_M := (⟨"LetterExchange", "codeOf", "([III)I"⟩, prog_1_method_32_code, 5, (Option.some FieldType.int), { frames := 1, cells := 0, slots := 0, locals := 21 }, 0, 0)
def gm_LE_placeAmong : gx_M := (⟨"LetterExchange", "placeAmong", "([III)I"⟩, prog_1_method_33_code, 5, (Option.some FieldType.int), { frames := 0, cells := 0, slots := 0, locals := 0 }, 0, 0)
def gm_MD_init : gx_M := (⟨"LetterExchangeModel", "<init>", "()V"⟩, prog_14_method_1_code, 1, (Option.none : Option FieldType), { frames := 2, cells := 15, slots := 10046, locals := 60 }, 15, 10046)
def gm_MD_in : gx_M := (⟨"LetterExchangeModel", "in", "(III)Z"⟩, prog_14_method_2_code, 3, (Option.some FieldType.boolean), { frames := 0, cells := 0, slots := 0, locals := 0 }, 0, 0)
def gm_MD_isLetter : gx_M := (⟨"LetterExchangeModel", "isLetter", "(I)Z"⟩, prog_14_method_3_code, 2, (Option.some FieldType.boolean), { frames := 1, cells := 0, slots := 0, locals := 22 }, 0, 0)
def gm_MD_copyRow : gx_M := (⟨"LetterExchangeModel", "copyRow", "(II)V"⟩, prog_14_method_4_code, 4, (Option.none : Option FieldType), { frames := 0, cells := 0, slots := 0, locals := 0 }, 0, 0)
def gm_MD_b : gx_M := (⟨"LetterExchangeModel", "b", "(III)I"⟩, prog_14_method_5_code, 4, (Option.some FieldType.int), { frames := 0, cells := 0, slots := 0, locals := 0 }, 0, 0)
def gm_MD_areWeights : gx_M := (⟨"LetterExchangeModel", "areWeights", "()Z"⟩, prog_14_method_6_code, 4, (Option.some FieldType.boolean), { frames := 1, cells := 0, slots := 0, locals := 23 }, 0, 0)
def gm_MD_isWell : gx_M := (⟨"LetterExchangeModel", "isWell", "()Z"⟩, prog_14_method_7_code, 5, (Option.some FieldType.boolean), { frames := 2, cells := 0, slots := 0, locals := 46 }, 0, 0)
def gm_MD_shorten : gx_M := (⟨"LetterExchangeModel", "shorten", "()V"⟩, prog_14_method_8_code, 7, (Option.none : Option FieldType), { frames := 0, cells := 0, slots := 0, locals := 0 }, 0, 0)
def gm_MD_times : gx_M := (⟨"LetterExchangeModel", "times", "(JJ)V"⟩, prog_14_method_9_code, 5, (Option.none : Option FieldType), { frames := 1, cells := 0, slots := 0, locals := 26 }, 0, 0)
def gm_MD_product : gx_M := (⟨"LetterExchangeModel", "product", "(III)V"⟩, prog_14_method_10_code, 6, (Option.none : Option FieldType), { frames := 2, cells := 0, slots := 0, locals := 50 }, 0, 0)
def gm_MD_worth : gx_M := (⟨"LetterExchangeModel", "worth", "(II)Z"⟩, prog_14_method_11_code, 7, (Option.some FieldType.boolean), { frames := 3, cells := 0, slots := 0, locals := 75 }, 0, 0)
def gm_MD_lay : gx_M := (⟨"LetterExchangeModel", "lay", "(II)Z"⟩, prog_14_method_12_code, 3, (Option.some FieldType.boolean), { frames := 1, cells := 0, slots := 0, locals := 22 }, 0, 0)
def gm_MD_both : gx_M := (⟨"LetterExchangeModel", "both", "(II)I"⟩, prog_14_method_13_code, 2, (Option.some FieldType.int), { frames := 0, cells := 0, slots := 0, locals := 0 }, 0, 0)
def gm_MD_turned : gx_M := (⟨"LetterExchangeModel", "turned", "(III)Z"⟩, prog_14_method_14_code, 8, (Option.some FieldType.boolean), { frames := 2, cells := 0, slots := 0, locals := 44 }, 0, 0)
def gm_MD_gathered : gx_M := (⟨"LetterExchangeModel", "gathered", "(IIIII)I"⟩, prog_14_method_15_code, 9, (Option.some FieldType.int), { frames := 1, cells := 0, slots := 0, locals := 23 }, 0, 0)
def gm_MD_denominators : gx_M := (⟨"LetterExchangeModel", "denominators", "(III)Z"⟩, prog_14_method_16_code, 9, (Option.some FieldType.boolean), { frames := 2, cells := 0, slots := 0, locals := 51 }, 0, 0)
def gm_MD_signs : gx_M := (⟨"LetterExchangeModel", "signs", "(III)Z"⟩, prog_14_method_17_code, 9, (Option.some FieldType.boolean), { frames := 2, cells := 0, slots := 0, locals := 44 }, 0, 0)
def gm_MD_degrees : gx_M := (⟨"LetterExchangeModel", "degrees", "(III)Z"⟩, prog_14_method_18_code, 8, (Option.some FieldType.boolean), { frames := 2, cells := 0, slots := 0, locals := 51 }, 0, 0)
def gm_MD_tries : gx_M := (⟨"LetterExchangeModel", "tries", "(I)Z"⟩, prog_14_method_19_code, 3, (Option.some FieldType.boolean), { frames := 4, cells := 0, slots := 0, locals := 101 }, 0, 0)
def gm_MD_isBefore : gx_M := (⟨"LetterExchangeModel", "isBefore", "(III)Z"⟩, prog_14_method_20_code, 7, (Option.some FieldType.boolean), { frames := 0, cells := 0, slots := 0, locals := 0 }, 0, 0)
def gm_MD_placeOf : gx_M := (⟨"LetterExchangeModel", "placeOf", "(II)I"⟩, prog_14_method_21_code, 5, (Option.some FieldType.int), { frames := 1, cells := 0, slots := 0, locals := 26 }, 0, 0)
def gm_MD_rankedAt : gx_M := (⟨"LetterExchangeModel", "rankedAt", "(II)I"⟩, prog_14_method_22_code, 5, (Option.some FieldType.int), { frames := 2, cells := 0, slots := 0, locals := 50 }, 0, 0)
def gm_MD_layStand : gx_M := (⟨"LetterExchangeModel", "layStand", "(II)Z"⟩, prog_14_method_23_code, 8, (Option.some FieldType.boolean), { frames := 3, cells := 0, slots := 0, locals := 74 }, 0, 0)
def gm_MD_isSame : gx_M := (⟨"LetterExchangeModel", "isSame", "(II)Z"⟩, prog_14_method_24_code, 6, (Option.some FieldType.boolean), { frames := 0, cells := 0, slots := 0, locals := 0 }, 0, 0)
def gm_MD_find : gx_M := (⟨"LetterExchangeModel", "find", "(I)I"⟩, prog_14_method_25_code, 3, (Option.some FieldType.int), { frames := 1, cells := 0, slots := 0, locals := 25 }, 0, 0)
def gm_MD_unlay : gx_M := (⟨"LetterExchangeModel", "unlay", "(I)V"⟩, prog_14_method_26_code, 4, (Option.none : Option FieldType), { frames := 0, cells := 0, slots := 0, locals := 0 }, 0, 0)
def gm_MD_steps : gx_M := (⟨"LetterExchangeModel", "steps", "(I)Z"⟩, prog_14_method_27_code, 6, (Option.some FieldType.boolean), { frames := 2, cells := 0, slots := 0, locals := 51 }, 0, 0)
def gm_MD_walk : gx_M := (⟨"LetterExchangeModel", "walk", "()Z"⟩, prog_14_method_28_code, 3, (Option.some FieldType.boolean), { frames := 5, cells := 0, slots := 0, locals := 125 }, 0, 0)
def gm_MD_leadOn : gx_M := (⟨"LetterExchangeModel", "leadOn", "(II)Z"⟩, prog_14_method_29_code, 4, (Option.some FieldType.boolean), { frames := 4, cells := 0, slots := 0, locals := 102 }, 0, 0)
def gm_MD_leadBack : gx_M := (⟨"LetterExchangeModel", "leadBack", "(II)Z"⟩, prog_14_method_30_code, 9, (Option.some FieldType.boolean), { frames := 3, cells := 0, slots := 0, locals := 74 }, 0, 0)
def gm_MD_isRowNew : gx_M := (⟨"LetterExchangeModel", "isRowNew", "(I)Z"⟩, prog_14_method_31_code, 5, (Option.some FieldType.boolean), { frames := 1, cells := 0, slots := 0, locals := 22 }, 0, 0)
def gm_MD_allLetters : gx_M := (⟨"LetterExchangeModel", "allLetters", "()I"⟩, prog_14_method_32_code, 3, (Option.some FieldType.int), { frames := 2, cells := 0, slots := 0, locals := 46 }, 0, 0)
def gm_MD_far : gx_M := (⟨"LetterExchangeModel", "far", "()I"⟩, prog_14_method_33_code, 3, (Option.some FieldType.int), { frames := 0, cells := 0, slots := 0, locals := 0 }, 0, 0)
def gm_MD_ofStands : gx_M := (⟨"LetterExchangeModel", "ofStands", "(I)I"⟩, prog_14_method_34_code, 2, (Option.some FieldType.int), { frames := 6, cells := 0, slots := 0, locals := 147 }, 0, 0)
def gm_MD_stand : gx_M := (⟨"LetterExchangeModel", "stand", "(II)I"⟩, prog_14_method_35_code, 3, (Option.some FieldType.int), { frames := 6, cells := 0, slots := 0, locals := 147 }, 0, 0)
def gm_MD_next : gx_M := (⟨"LetterExchangeModel", "next", "(II)I"⟩, prog_14_method_36_code, 3, (Option.some FieldType.int), { frames := 6, cells := 0, slots := 0, locals := 147 }, 0, 0)
def gm_MD_away : gx_M := (⟨"LetterExchangeModel", "away", "(I)I"⟩, prog_14_method_37_code, 4, (Option.some FieldType.int), { frames := 6, cells := 0, slots := 0, locals := 147 }, 0, 0)
def gm_MD_standRow : gx_M := (⟨"LetterExchangeModel", "standRow", "(III)I"⟩, prog_14_method_38_code, 4, (Option.some FieldType.int), { frames := 6, cells := 0, slots := 0, locals := 147 }, 0, 0)
def gm_MD_isHome : gx_M := (⟨"LetterExchangeModel", "isHome", "()Z"⟩, prog_14_method_39_code, 3, (Option.some FieldType.boolean), { frames := 3, cells := 0, slots := 0, locals := 74 }, 0, 0)
def gm_MD_byTurns : gx_M := (⟨"LetterExchangeModel", "byTurns", "(II)I"⟩, prog_14_method_40_code, 4, (Option.some FieldType.int), { frames := 4, cells := 0, slots := 0, locals := 96 }, 0, 0)
def gm_MD_feed : gx_M := (⟨"LetterExchangeModel", "feed", "(I)I"⟩, prog_14_method_41_code, 2, (Option.some FieldType.int), { frames := 1, cells := 0, slots := 0, locals := 22 }, 0, 0)
def gm_MD_fail : gx_M := (⟨"LetterExchangeModel", "fail", "(I)V"⟩, prog_14_method_42_code, 2, (Option.none : Option FieldType), { frames := 0, cells := 0, slots := 0, locals := 0 }, 0, 0)
def gm_MD_here : gx_M := (⟨"LetterExchangeModel", "here", "()I"⟩, prog_14_method_43_code, 1, (Option.some FieldType.int), { frames := 0, cells := 0, slots := 0, locals := 0 }, 0, 0)
def gm_MD_figure : gx_M := (⟨"LetterExchangeModel", "figure", "(II)I"⟩, prog_14_method_44_code, 4, (Option.some FieldType.int), { frames := 1, cells := 0, slots := 0, locals := 22 }, 0, 0)
def gm_MD_pass : gx_M := (⟨"LetterExchangeModel", "pass", "(Z)V"⟩, prog_14_method_45_code, 2, (Option.none : Option FieldType), { frames := 1, cells := 0, slots := 0, locals := 21 }, 0, 0)
def gm_MD_readMany : gx_M := (⟨"LetterExchangeModel", "readMany", "()V"⟩, prog_14_method_46_code, 2, (Option.none : Option FieldType), { frames := 2, cells := 0, slots := 0, locals := 45 }, 0, 0)
def gm_MD_readTable : gx_M := (⟨"LetterExchangeModel", "readTable", "()V"⟩, prog_14_method_47_code, 5, (Option.none : Option FieldType), { frames := 2, cells := 0, slots := 0, locals := 45 }, 0, 0)
def gm_MD_readWorth : gx_M := (⟨"LetterExchangeModel", "readWorth", "()V"⟩, prog_14_method_48_code, 3, (Option.none : Option FieldType), { frames := 2, cells := 0, slots := 0, locals := 45 }, 0, 0)
def gm_MD_readClause : gx_M := (⟨"LetterExchangeModel", "readClause", "(Z)V"⟩, prog_14_method_49_code, 3, (Option.none : Option FieldType), { frames := 3, cells := 0, slots := 0, locals := 69 }, 0, 0)
def gm_MD_begin : gx_M := (⟨"LetterExchangeModel", "begin", "()V"⟩, prog_14_method_50_code, 3, (Option.none : Option FieldType), { frames := 1, cells := 0, slots := 0, locals := 23 }, 0, 0)
def gm_MD_letters : gx_M := (⟨"LetterExchangeModel", "letters", "()I"⟩, prog_14_method_51_code, 1, (Option.some FieldType.int), { frames := 4, cells := 0, slots := 0, locals := 91 }, 0, 0)
def gm_MD_fault : gx_M := (⟨"LetterExchangeModel", "fault", "()I"⟩, prog_14_method_52_code, 1, (Option.some FieldType.int), { frames := 0, cells := 0, slots := 0, locals := 0 }, 0, 0)
def gm_MD_code : gx_M := (⟨"LetterExchangeModel", "code", "(I)I"⟩, prog_14_method_53_code, 4, (Option.some FieldType.int), { frames := 0, cells := 0, slots := 0, locals := 0 }, 0, 0)
def gm_MD_wrongEntry : gx_M := (⟨"LetterExchangeModel", "wrongEntry", "()I"⟩, prog_14_method_54_code, 2, (Option.some FieldType.int), { frames := 2, cells := 0, slots := 0, locals := 43 }, 0, 0)
def gm_MD_told : gx_M := (⟨"LetterExchangeModel", "told", "(I)I"⟩, prog_14_method_55_code, 2, (Option.some FieldType.int), { frames := 7, cells := 0, slots := 0, locals := 168 }, 0, 0)
def gm_MD_table : gx_M := (⟨"LetterExchangeModel", "table", "(II)I"⟩, prog_14_method_56_code, 3, (Option.some FieldType.int), { frames := 2, cells := 0, slots := 0, locals := 43 }, 0, 0)
def gm_MD_bound : gx_M := (⟨"LetterExchangeModel", "bound", "(I)I"⟩, prog_14_method_57_code, 4, (Option.some FieldType.int), { frames := 1, cells := 0, slots := 0, locals := 23 }, 0, 0)
def gm_MD_would : gx_M := (⟨"LetterExchangeModel", "would", "(II)I"⟩, prog_14_method_58_code, 3, (Option.some FieldType.int), { frames := 5, cells := 0, slots := 0, locals := 123 }, 0, 0)
def gm_MD_letter : gx_M := (⟨"LetterExchangeModel", "letter", "(II)I"⟩, prog_14_method_59_code, 3, (Option.some FieldType.int), { frames := 6, cells := 0, slots := 0, locals := 145 }, 0, 0)
def gm_MD_row : gx_M := (⟨"LetterExchangeModel", "row", "(III)I"⟩, prog_14_method_60_code, 4, (Option.some FieldType.int), { frames := 2, cells := 0, slots := 0, locals := 43 }, 0, 0)
def gm_MD_remember : gx_M := (⟨"LetterExchangeModel", "remember", "()V"⟩, prog_14_method_61_code, 2, (Option.none : Option FieldType), { frames := 1, cells := 0, slots := 0, locals := 23 }, 0, 0)
def gm_MD_take : gx_M := (⟨"LetterExchangeModel", "take", "()V"⟩, prog_14_method_62_code, 1, (Option.none : Option FieldType), { frames := 1, cells := 0, slots := 0, locals := 23 }, 0, 0)
def gm_MD_exchange : gx_M := (⟨"LetterExchangeModel", "exchange", "(I)I"⟩, prog_14_method_63_code, 2, (Option.some FieldType.int), { frames := 5, cells := 0, slots := 0, locals := 123 }, 0, 0)
def gm_MD_start : gx_M := (⟨"LetterExchangeModel", "start", "()I"⟩, prog_14_method_64_code, 2, (Option.some FieldType.int), { frames := 2, cells := 0, slots := 0, locals := 44 }, 0, 0)
def gm_MD_draw : gx_M := (⟨"LetterExchangeModel", "draw", "(I)I"⟩, prog_14_method_65_code, 4, (Option.some FieldType.int), { frames := 0, cells := 0, slots := 0, locals := 0 }, 0, 0)
def gm_MD_drift : gx_M := (⟨"LetterExchangeModel", "drift", "(I)I"⟩, prog_14_method_66_code, 4, (Option.some FieldType.int), { frames := 5, cells := 0, slots := 0, locals := 123 }, 0, 0)
def gm_MD_undo : gx_M := (⟨"LetterExchangeModel", "undo", "(I)I"⟩, prog_14_method_67_code, 2, (Option.some FieldType.int), { frames := 1, cells := 0, slots := 0, locals := 23 }, 0, 0)
def gm_MD_write : gx_M := (⟨"LetterExchangeModel", "write", "(II)I"⟩, prog_14_method_68_code, 3, (Option.some FieldType.int), { frames := 2, cells := 0, slots := 0, locals := 43 }, 0, 0)
def gm_MD_tear : gx_M := (⟨"LetterExchangeModel", "tear", "()I"⟩, prog_14_method_69_code, 2, (Option.some FieldType.int), { frames := 0, cells := 0, slots := 0, locals := 0 }, 0, 0)
def gm_MD_seed : gx_M := (⟨"LetterExchangeModel", "seed", "(I)I"⟩, prog_14_method_70_code, 3, (Option.some FieldType.int), { frames := 0, cells := 0, slots := 0, locals := 0 }, 0, 0)
def gm_MD_keep : gx_M := (⟨"LetterExchangeModel", "keep", "(I)I"⟩, prog_14_method_71_code, 2, (Option.some FieldType.int), { frames := 1, cells := 0, slots := 0, locals := 23 }, 0, 0)
def gm_MD_goBack : gx_M := (⟨"LetterExchangeModel", "goBack", "(I)I"⟩, prog_14_method_72_code, 2, (Option.some FieldType.int), { frames := 1, cells := 0, slots := 0, locals := 23 }, 0, 0)
def gm_BK_init : gx_M := (⟨"LetterExchange$Book", "<init>", "()V"⟩, prog_2_method_1_code, 1, (Option.none : Option FieldType), { frames := 1, cells := 2, slots := 40, locals := 60 }, 2, 40)
def gm_BK_append : gx_M := (⟨"LetterExchange$Book", "append", "(II)Z"⟩, prog_2_method_2_code, 3, (Option.some FieldType.boolean), { frames := 0, cells := 0, slots := 0, locals := 0 }, 0, 0)
def gm_BK_firstWrong : gx_M := (⟨"LetterExchange$Book", "firstWrong", "(LLetterExchange$Shape;)I"⟩, prog_2_method_3_code, 4, (Option.some FieldType.int), { frames := 3, cells := 0, slots := 0, locals := 66 }, 0, 0)
def gm_EX_init : gx_M := (⟨"LetterExchange$Exchanger", "<init>", "()V"⟩, prog_3_method_1_code, 1, (Option.none : Option FieldType), { frames := 2, cells := 2, slots := 4, locals := 80 }, 2, 4)
def gm_EX_fill : gx_M := (⟨"LetterExchange$Exchanger", "fill", "(LLetterExchange$State;LLetterExchange$State;I)Z"⟩, prog_3_method_2_code, 5, (Option.some FieldType.boolean), { frames := 4, cells := 0, slots := 0, locals := 110 }, 0, 0)
def gm_EX_findWorth : gx_M := (⟨"LetterExchange$Exchanger", "findWorth", "(LLetterExchange$State;I)Z"⟩, prog_3_method_3_code, 3, (Option.some FieldType.boolean), { frames := 3, cells := 0, slots := 0, locals := 77 }, 0, 0)
def gm_EX_multiplyAll : gx_M := (⟨"LetterExchange$Exchanger", "multiplyAll", "(LLetterExchange$Fraction;LLetterExchange$State;II)Z"⟩, prog_3_method_4_code, 7, (Option.some FieldType.boolean), { frames := 2, cells := 0, slots := 0, locals := 51 }, 0, 0)
def gm_EX_fillSigns : gx_M := (⟨"LetterExchange$Exchanger", "fillSigns", "(LLetterExchange$State;LLetterExchange$State;I)V"⟩, prog_3_method_5_code, 6, (Option.none : Option FieldType), { frames := 2, cells := 0, slots := 0, locals := 47 }, 0, 0)
def gm_EX_signAfter : gx_M := (⟨"LetterExchange$Exchanger", "signAfter", "(LLetterExchange$State;III)I"⟩, prog_3_method_6_code, 7, (Option.some FieldType.int), { frames := 1, cells := 0, slots := 0, locals := 21 }, 0, 0)
def gm_EX_fillDegrees : gx_M := (⟨"LetterExchange$Exchanger", "fillDegrees", "(LLetterExchange$State;LLetterExchange$State;I)V"⟩, prog_3_method_7_code, 7, (Option.none : Option FieldType), { frames := 2, cells := 0, slots := 0, locals := 47 }, 0, 0)
def gm_EX_hasPositiveSign : gx_M := (⟨"LetterExchange$Exchanger", "hasPositiveSign", "(LLetterExchange$State;I)Z"⟩, prog_3_method_8_code, 3, (Option.some FieldType.boolean), { frames := 1, cells := 0, slots := 0, locals := 21 }, 0, 0)
def gm_EX_degreeAfter : gx_M := (⟨"LetterExchange$Exchanger", "degreeAfter", "(LLetterExchange$State;III)I"⟩, prog_3_method_9_code, 7, (Option.some FieldType.int), { frames := 1, cells := 0, slots := 0, locals := 21 }, 0, 0)
def gm_FR_init : gx_M := (⟨"LetterExchange$Fraction", "<init>", "()V"⟩, prog_4_method_1_code, 1, (Option.none : Option FieldType), { frames := 1, cells := 0, slots := 0, locals := 60 }, 0, 0)
def gm_FR_becomeOne : gx_M := (⟨"LetterExchange$Fraction", "becomeOne", "()V"⟩, prog_4_method_2_code, 1, (Option.none : Option FieldType), { frames := 0, cells := 0, slots := 0, locals := 0 }, 0, 0)
def gm_FR_multiply : gx_M := (⟨"LetterExchange$Fraction", "multiply", "(JJ)Z"⟩, prog_4_method_3_code, 5, (Option.some FieldType.boolean), { frames := 1, cells := 0, slots := 0, locals := 27 }, 0, 0)
def gm_FR_add : gx_M := (⟨"LetterExchange$Fraction", "add", "(LLetterExchange$Fraction;)Z"⟩, prog_4_method_4_code, 2, (Option.some FieldType.boolean), { frames := 1, cells := 0, slots := 0, locals := 27 }, 0, 0)
def gm_FR_isSmallInLowestTerms : gx_M := (⟨"LetterExchange$Fraction", "isSmallInLowestTerms", "()Z"⟩, prog_4_method_5_code, 8, (Option.some FieldType.boolean), { frames := 0, cells := 0, slots := 0, locals := 0 }, 0, 0)
def gm_GR_init : gx_M := (⟨"LetterExchange$Graph", "<init>", "()V"⟩, prog_5_method_1_code, 1, (Option.none : Option FieldType), { frames := 2, cells := 13, slots := 3290, locals := 80 }, 13, 3290)
def gm_GR_find : gx_M := (⟨"LetterExchange$Graph", "find", "(LLetterExchange$Shape;Z)V"⟩, prog_5_method_2_code, 5, (Option.none : Option FieldType), { frames := 4, cells := 0, slots := 0, locals := 133 }, 0, 0)
def gm_GR_standOf : gx_M := (⟨"LetterExchange$Graph", "standOf", "(LLetterExchange$Shape;)I"⟩, prog_5_method_3_code, 2, (Option.some FieldType.int), { frames := 3, cells := 0, slots := 0, locals := 69 }, 0, 0)
def gm_GR_findLead : gx_M := (⟨"LetterExchange$Graph", "findLead", "(II)Z"⟩, prog_5_method_4_code, 4, (Option.some FieldType.boolean), { frames := 3, cells := 0, slots := 0, locals := 110 }, 0, 0)
def gm_GR_fillProbe : gx_M := (⟨"LetterExchange$Graph", "fillProbe", "(LLetterExchange$Shape;)V"⟩, prog_5_method_5_code, 5, (Option.none : Option FieldType), { frames := 2, cells := 0, slots := 0, locals := 45 }, 0, 0)
def gm_GR_standOfProbe : gx_M := (⟨"LetterExchange$Graph", "standOfProbe", "()I"⟩, prog_5_method_6_code, 2, (Option.some FieldType.int), { frames := 1, cells := 0, slots := 0, locals := 22 }, 0, 0)
def gm_GR_isProbe : gx_M := (⟨"LetterExchange$Graph", "isProbe", "(I)Z"⟩, prog_5_method_7_code, 3, (Option.some FieldType.boolean), { frames := 0, cells := 0, slots := 0, locals := 0 }, 0, 0)
def gm_GR_addProbe : gx_M := (⟨"LetterExchange$Graph", "addProbe", "()I"⟩, prog_5_method_8_code, 2, (Option.some FieldType.int), { frames := 1, cells := 0, slots := 0, locals := 60 }, 0, 0)
def gm_GR_load : gx_M := (⟨"LetterExchange$Graph", "load", "(I)V"⟩, prog_5_method_9_code, 3, (Option.none : Option FieldType), { frames := 2, cells := 0, slots := 0, locals := 46 }, 0, 0)
def gm_GR_spread : gx_M := (⟨"LetterExchange$Graph", "spread", "(I[II)V"⟩, prog_5_method_10_code, 6, (Option.none : Option FieldType), { frames := 1, cells := 0, slots := 0, locals := 21 }, 0, 0)
def gm_GR_countAllLetters : gx_M := (⟨"LetterExchange$Graph", "countAllLetters", "()I"⟩, prog_5_method_11_code, 5, (Option.some FieldType.int), { frames := 1, cells := 0, slots := 0, locals := 23 }, 0, 0)
def gm_GR_isSeen : gx_M := (⟨"LetterExchange$Graph", "isSeen", "(II)Z"⟩, prog_5_method_12_code, 4, (Option.some FieldType.boolean), { frames := 0, cells := 0, slots := 0, locals := 0 }, 0, 0)
def gm_GR_rowNumber : gx_M := (⟨"LetterExchange$Graph", "rowNumber", "(III)I"⟩, prog_5_method_13_code, 6, (Option.some FieldType.int), { frames := 0, cells := 0, slots := 0, locals := 0 }, 0, 0)
def gm_HI_init : gx_M := (⟨"LetterExchange$History", "<init>", "()V"⟩, prog_6_method_1_code, 2, (Option.none : Option FieldType), { frames := 3, cells := 161, slots := 1640, locals := 100 }, 161, 1640)
def gm_HI_forget : gx_M := (⟨"LetterExchange$History", "forget", "()V"⟩, prog_6_method_2_code, 1, (Option.none : Option FieldType), { frames := 0, cells := 0, slots := 0, locals := 0 }, 0, 0)
def gm_HI_remember : gx_M := (⟨"LetterExchange$History", "remember", "(LLetterExchange$State;)V"⟩, prog_6_method_3_code, 2, (Option.none : Option FieldType), { frames := 3, cells := 0, slots := 0, locals := 102 }, 0, 0)
def gm_HI_takeBack : gx_M := (⟨"LetterExchange$History", "takeBack", "(ILLetterExchange$State;)V"⟩, prog_6_method_4_code, 3, (Option.none : Option FieldType), { frames := 3, cells := 0, slots := 0, locals := 102 }, 0, 0)
def gm_SC_init : gx_M := (⟨"LetterExchange$Scales", "<init>", "()V"⟩, prog_7_method_1_code, 1, (Option.none : Option FieldType), { frames := 1, cells := 1, slots := 4, locals := 60 }, 1, 4)
def gm_SC_weigh : gx_M := (⟨"LetterExchange$Scales", "weigh", "(LLetterExchange$Shape;)V"⟩, prog_7_method_2_code, 2, (Option.none : Option FieldType), { frames := 9, cells := 0, slots := 0, locals := 363 }, 0, 0)
def gm_SC_weighFrom (d : Nat) : gx_M := (⟨"LetterExchange$Scales", "weighFrom", "(LLetterExchange$Shape;[II)Z"⟩, prog_7_method_3_code, 4, (Option.some FieldType.boolean), { frames := d + 2, cells := 0, slots := 0, locals := 100 + 40 * d }, 0, 0)
def gm_SC_fits : gx_M := (⟨"LetterExchange$Scales", "fits", "(LLetterExchange$Shape;[II)Z"⟩, prog_7_method_4_code, 6, (Option.some FieldType.boolean), { frames := 1, cells := 0, slots := 0, locals := 21 }, 0, 0)
def gm_SH_init : gx_M := (⟨"LetterExchange$Shape", "<init>", "()V"⟩, prog_8_method_1_code, 1, (Option.none : Option FieldType), { frames := 1, cells := 2, slots := 32, locals := 60 }, 2, 32)
def gm_SH_begin : gx_M := (⟨"LetterExchange$Shape", "begin", "(I)V"⟩, prog_8_method_2_code, 4, (Option.none : Option FieldType), { frames := 1, cells := 0, slots := 0, locals := 21 }, 0, 0)
def gm_SH_hang : gx_M := (⟨"LetterExchange$Shape", "hang", "(IIII)V"⟩, prog_8_method_3_code, 5, (Option.none : Option FieldType), { frames := 1, cells := 0, slots := 0, locals := 21 }, 0, 0)
def gm_SH_copyFrom : gx_M := (⟨"LetterExchange$Shape", "copyFrom", "(LLetterExchange$Shape;)V"⟩, prog_8_method_4_code, 2, (Option.none : Option FieldType), { frames := 1, cells := 0, slots := 0, locals := 60 }, 0, 0)
def gm_SH_becomeExchanged : gx_M := (⟨"LetterExchange$Shape", "becomeExchanged", "(LLetterExchange$Shape;I)Z"⟩, prog_8_method_5_code, 5, (Option.some FieldType.boolean), { frames := 2, cells := 0, slots := 0, locals := 86 }, 0, 0)
def gm_SH_tableAfter : gx_M := (⟨"LetterExchange$Shape", "tableAfter", "(III)I"⟩, prog_8_method_6_code, 7, (Option.some FieldType.int), { frames := 1, cells := 0, slots := 0, locals := 21 }, 0, 0)
def gm_SH_rowAfter : gx_M := (⟨"LetterExchange$Shape", "rowAfter", "(II)I"⟩, prog_8_method_7_code, 7, (Option.some FieldType.int), { frames := 1, cells := 0, slots := 0, locals := 60 }, 0, 0)
def gm_SH_boundTo : gx_M := (⟨"LetterExchange$Shape", "boundTo", "(I)I"⟩, prog_8_method_8_code, 4, (Option.some FieldType.int), { frames := 1, cells := 0, slots := 0, locals := 21 }, 0, 0)
def gm_SH_code : gx_M := (⟨"LetterExchange$Shape", "code", "(I)I"⟩, prog_8_method_9_code, 2, (Option.some FieldType.int), { frames := 2, cells := 0, slots := 0, locals := 45 }, 0, 0)
def gm_SH_isMild : gx_M := (⟨"LetterExchange$Shape", "isMild", "()Z"⟩, prog_8_method_10_code, 3, (Option.some FieldType.boolean), { frames := 1, cells := 0, slots := 0, locals := 21 }, 0, 0)
def gm_ST_init : gx_M := (⟨"LetterExchange$State", "<init>", "()V"⟩, prog_9_method_1_code, 1, (Option.none : Option FieldType), { frames := 2, cells := 7, slots := 75, locals := 80 }, 7, 75)
def gm_ST_begin : gx_M := (⟨"LetterExchange$State", "begin", "(I)V"⟩, prog_9_method_2_code, 4, (Option.none : Option FieldType), { frames := 2, cells := 0, slots := 0, locals := 44 }, 0, 0)
def gm_ST_copyFrom : gx_M := (⟨"LetterExchange$State", "copyFrom", "(LLetterExchange$State;)V"⟩, prog_9_method_3_code, 2, (Option.none : Option FieldType), { frames := 2, cells := 0, slots := 0, locals := 81 }, 0, 0)
def gm_TX_init : gx_M := (⟨"LetterExchange$Text", "<init>", "()V"⟩, prog_10_method_1_code, 1, (Option.none : Option FieldType), { frames := 1, cells := 1, slots := 100, locals := 60 }, 1, 100)
def gm_TX_append : gx_M := (⟨"LetterExchange$Text", "append", "(I)Z"⟩, prog_10_method_2_code, 2, (Option.some FieldType.boolean), { frames := 0, cells := 0, slots := 0, locals := 0 }, 0, 0)
def gm_TX_readInto : gx_M := (⟨"LetterExchange$Text", "readInto", "(LLetterExchange$State;)Z"⟩, prog_10_method_3_code, 4, (Option.some FieldType.boolean), { frames := 4, cells := 0, slots := 0, locals := 92 }, 0, 0)
def gm_TX_readCount : gx_M := (⟨"LetterExchange$Text", "readCount", "(LLetterExchange$State;)Z"⟩, prog_10_method_4_code, 3, (Option.some FieldType.boolean), { frames := 3, cells := 0, slots := 0, locals := 67 }, 0, 0)
def gm_TX_readClause : gx_M := (⟨"LetterExchange$Text", "readClause", "(ILLetterExchange$State;)Z"⟩, prog_10_method_5_code, 3, (Option.some FieldType.boolean), { frames := 3, cells := 0, slots := 0, locals := 70 }, 0, 0)
def gm_TX_readHang : gx_M := (⟨"LetterExchange$Text", "readHang", "(LLetterExchange$Shape;)Z"⟩, prog_10_method_6_code, 6, (Option.some FieldType.boolean), { frames := 2, cells := 0, slots := 0, locals := 45 }, 0, 0)
def gm_TX_readWorth : gx_M := (⟨"LetterExchange$Text", "readWorth", "(LLetterExchange$State;)Z"⟩, prog_10_method_7_code, 4, (Option.some FieldType.boolean), { frames := 2, cells := 0, slots := 0, locals := 45 }, 0, 0)
def gm_TX_readEnd : gx_M := (⟨"LetterExchange$Text", "readEnd", "()Z"⟩, prog_10_method_8_code, 1, (Option.some FieldType.boolean), { frames := 1, cells := 0, slots := 0, locals := 21 }, 0, 0)
def gm_TX_figure : gx_M := (⟨"LetterExchange$Text", "figure", "(II)I"⟩, prog_10_method_9_code, 5, (Option.some FieldType.int), { frames := 1, cells := 0, slots := 0, locals := 21 }, 0, 0)
def gm_TX_take : gx_M := (⟨"LetterExchange$Text", "take", "()I"⟩, prog_10_method_10_code, 1, (Option.some FieldType.int), { frames := 0, cells := 0, slots := 0, locals := 0 }, 0, 0)
def gm_TX_blame : gx_M := (⟨"LetterExchange$Text", "blame", "(I)Z"⟩, prog_10_method_11_code, 2, (Option.some FieldType.boolean), { frames := 0, cells := 0, slots := 0, locals := 0 }, 0, 0)
def gm_TU_init : gx_M := (⟨"LetterExchange$Turns", "<init>", "()V"⟩, prog_11_method_1_code, 1, (Option.none : Option FieldType), { frames := 2, cells := 8, slots := 78, locals := 80 }, 8, 78)
def gm_TU_count : gx_M := (⟨"LetterExchange$Turns", "count", "(LLetterExchange$Shape;II)I"⟩, prog_11_method_2_code, 8, (Option.some FieldType.int), { frames := 4, cells := 0, slots := 0, locals := 110 }, 0, 0)
def gm_TU_fillRanked : gx_M := (⟨"LetterExchange$Turns", "fillRanked", "([ILLetterExchange$Shape;)V"⟩, prog_11_method_3_code, 5, (Option.none : Option FieldType), { frames := 3, cells := 0, slots := 0, locals := 66 }, 0, 0)
def gm_TU_areAlike : gx_M := (⟨"LetterExchange$Turns", "areAlike", "([I[II)Z"⟩, prog_11_method_4_code, 4, (Option.some FieldType.boolean), { frames := 0, cells := 0, slots := 0, locals := 0 }, 0, 0)
def gm_WA_init : gx_M := (⟨"LetterExchange$Walk", "<init>", "()V"⟩, prog_12_method_1_code, 1, (Option.none : Option FieldType), { frames := 1, cells := 5, slots := 1000, locals := 60 }, 5, 1000)
def gm_WA_number : gx_M := (⟨"LetterExchange$Walk", "number", "(LLetterExchange$Graph;I)V"⟩, prog_12_method_2_code, 6, (Option.none : Option FieldType), { frames := 1, cells := 0, slots := 0, locals := 23 }, 0, 0)
def gm_WA_add : gx_M := (⟨"LetterExchange$Walk", "add", "(III)V"⟩, prog_12_method_3_code, 4, (Option.none : Option FieldType), { frames := 0, cells := 0, slots := 0, locals := 0 }, 0, 0)
def gm_WA_lacks : gx_M := (⟨"LetterExchange$Walk", "lacks", "(I)Z"⟩, prog_12_method_4_code, 2, (Option.some FieldType.boolean), { frames := 0, cells := 0, slots := 0, locals := 0 }, 0, 0)
def gm_WA_lead : gx_M := (⟨"LetterExchange$Walk", "lead", "(LLetterExchange$Graph;II)I"⟩, prog_12_method_5_code, 5, (Option.some FieldType.int), { frames := 0, cells := 0, slots := 0, locals := 0 }, 0, 0)
def gm_WA_far : gx_M := (⟨"LetterExchange$Walk", "far", "()I"⟩, prog_12_method_6_code, 1, (Option.some FieldType.int), { frames := 0, cells := 0, slots := 0, locals := 0 }, 0, 0)
def gm_WA_countAway : gx_M := (⟨"LetterExchange$Walk", "countAway", "(I)I"⟩, prog_12_method_7_code, 4, (Option.some FieldType.int), { frames := 0, cells := 0, slots := 0, locals := 0 }, 0, 0)
end
section
/-! THE ABSTRACT MACHINE. Values: int, long, a cell's number. A heap: kinds of cells (tag, length), and what each slot holds. Tags: 0 int[], 1 boolean[], 2 State[], 3 + ci an object of class ci. -/
abbrev gx_V : Type := Int ⊕ Int ⊕ Nat
abbrev gx_I (a : Int) : gx_V := Sum.inl a
abbrev gx_L (a : Int) : gx_V := Sum.inr (Sum.inl a)
abbrev gx_R (o : Nat) : gx_V := Sum.inr (Sum.inr o)
def gx_v (ad : Nat → Nat) (v : gx_V) : Value := match v with
  | .inl a => .int (Int32.ofInt a)
  | .inr (.inl a) => .long (Int64.ofInt a)
  | .inr (.inr o) => .ref (ad o)
abbrev gx_K : Type := Nat × Nat
abbrev gx_H : Type := List gx_K × (Nat → Nat → Int)
abbrev gx_i (v : Int) : Prop := -2147483648 ≤ v ∧ v ≤ 2147483647
abbrev gx_l (v : Int) : Prop := -9223372036854775808 ≤ v ∧ v ≤ 9223372036854775807
def gx_sl (n t : Nat) (v : Int) : Prop := match t with
  | 0 => gx_i v
  | 1 => v = 0 ∨ v = 1
  | 2 => gx_l v
  | _ => v < (n : Int)
def gx_ty (k : gx_K) (j : Nat) : Nat := match k.1 with
  | 0 => 0
  | 1 => 1
  | 2 => 3
  | t + 3 => gx_fty t j
def gx_ok (h : gx_H) : Prop := ∀ (o : Nat) (k : gx_K), h.1[o]? = some k → k.2 ≤ 2147483647 ∧ ∀ j, j < k.2 → gx_sl h.1.length (gx_ty k j) (h.2 o j)
def gx_f (ad : Nat → Nat) (t : Nat) (v : Int) : Value := match t with
  | 0 => .int (Int32.ofInt v)
  | 1 => .int (Int32.ofInt v)
  | 2 => .long (Int64.ofInt v)
  | _ => if v < 0 then .null else .ref (ad v.toNat)
def gx_fs (ad : Nat → Nat) (ci n : Nat) (f : Nat → Int) : List Value := (List.range n).map (fun j => gx_f ad (gx_fty ci j) (f j))
def gx_rf (ad : Nat → Nat) (n : Nat) (f : Nat → Int) : Nat → Option Nat := fun j => if j < n then (if f j < 0 then none else some (ad (f j).toNat)) else none
def gx_c (cA : Nat → ClassId) (ad : Nat → Nat) (k : gx_K) (f : Nat → Int) : va_E := match k.1 with
  | 0 => .inl (cA 0, k.2, .inl (fun j => Int32.ofInt (f j)))
  | 1 => .inl (cA 1, k.2, .inl (fun j => Int32.ofInt (f j)))
  | 2 => .inl (cA 2, k.2, .inr (.inr (.inr (.inr (gx_rf ad k.2 f)))))
  | t + 3 => .inr (t, gx_fs ad t k.2 f)
def gx_W (cA : Nat → ClassId) (ad : Nat → Nat) (h : gx_H) : va_W := (List.range h.1.length).map (fun o => (ad o, gx_c cA ad (h.1.getD o (0, 0)) (h.2 o)))
def gx_us (c : Nat → Nat → Int) (o : Nat) (f : Nat → Int) : Nat → Nat → Int := fun o' => if o' = o then f else c o'
def gx_u1 (f : Nat → Int) (i : Nat) (v : Int) : Nat → Int := fun j => if j = i then v else f j
def gx_up (c : Nat → Nat → Int) (o i : Nat) (v : Int) : Nat → Nat → Int := gx_us c o (gx_u1 (c o) i v)
theorem gx_lt {h : gx_H} {o : Nat} {k : gx_K} (hk : h.1[o]? = some k) : o < h.1.length := (List.getElem?_eq_some_iff.mp hk).1
theorem gx_W_at {cA : Nat → ClassId} {ad : Nat → Nat} {h : gx_H} {o : Nat} {k : gx_K} (hk : h.1[o]? = some k) : (gx_W cA ad h)[o]? = some (ad o, gx_c cA ad k (h.2 o)) := by
  unfold gx_W
  rw [List.getElem?_map, List.getElem?_range (gx_lt hk)]
  simp [hk]
theorem gx_W_set {cA : Nat → ClassId} {ad : Nat → Nat} {h : gx_H} {o : Nat} {k : gx_K} (hk : h.1[o]? = some k) (f : Nat → Int) : (gx_W cA ad h).set o (ad o, gx_c cA ad k f) = gx_W cA ad (h.1, gx_us h.2 o f) := by
  apply List.ext_getElem?
  intro i
  have hl := gx_lt hk
  by_cases hi : i = o
  · subst hi
    rw [gx_W_at (h := (h.1, gx_us h.2 i f)) hk]
    rw [List.getElem?_set_self (by simp [gx_W]; exact hl)]
    simp [gx_us]
  · rw [List.getElem?_set_ne (fun e => hi e.symm)]
    simp only [gx_W, List.getElem?_map, gx_us, if_neg hi]
    by_cases hil : i < h.1.length
    · rw [List.getElem?_range hil]
      simp [if_neg hi]
    · rw [List.getElem?_eq_none (by simpa using hil)]
      rfl
def gx_ad (ad : Nat → Nat) (n q : Nat) : Nat → Nat := fun o => if o = n then q else ad o
theorem gx_f_ad {ad : Nat → Nat} {n q t : Nat} {v : Int} (h : t < 3 ∨ v < (n : Int)) : gx_f (gx_ad ad n q) t v = gx_f ad t v := by
  match t with
  | 0 => rfl
  | 1 => rfl
  | 2 => rfl
  | t + 3 =>
    have hv : v < (n : Int) := h.elim (fun z => absurd z (by omega)) id
    show (if v < 0 then Value.null else .ref (gx_ad ad n q v.toNat)) = if v < 0 then Value.null else .ref (ad v.toNat)
    by_cases h0 : v < 0
    · rw [if_pos h0, if_pos h0]
    · rw [if_neg h0, if_neg h0, gx_ad, if_neg (by omega)]
theorem gx_sl_ref {n t : Nat} {v : Int} (h : gx_sl n t v) : t < 3 ∨ v < (n : Int) := by
  match t with
  | 0 => exact Or.inl (by omega)
  | 1 => exact Or.inl (by omega)
  | 2 => exact Or.inl (by omega)
  | t + 3 => exact Or.inr h
theorem gx_c_ad {cA : Nat → ClassId} {ad : Nat → Nat} {n q : Nat} {k : gx_K} {f : Nat → Int} (h : ∀ j, j < k.2 → gx_sl n (gx_ty k j) (f j)) : gx_c cA (gx_ad ad n q) k f = gx_c cA ad k f := by
  obtain ⟨t, m⟩ := k
  match t with
  | 0 => rfl
  | 1 => rfl
  | 2 =>
    have e : gx_rf (gx_ad ad n q) m f = gx_rf ad m f := by
      funext j
      unfold gx_rf
      by_cases hj : j < m
      · rw [if_pos hj, if_pos hj]
        have h1 : f j < (n : Int) := h j hj
        by_cases h0 : f j < 0
        · rw [if_pos h0, if_pos h0]
        · rw [if_neg h0, if_neg h0, gx_ad, if_neg (by omega)]
      · rw [if_neg hj, if_neg hj]
    show Sum.inl (cA 2, m, _) = Sum.inl (cA 2, m, _)
    rw [e]
  | t + 3 =>
    have e : gx_fs (gx_ad ad n q) t m f = gx_fs ad t m f := by
      unfold gx_fs
      apply List.map_congr_left
      intro j hj
      exact gx_f_ad (gx_sl_ref (h j (List.mem_range.mp hj)))
    show Sum.inr (t, _) = Sum.inr (t, _)
    rw [e]
theorem gx_W_push {cA : Nat → ClassId} {ad : Nat → Nat} {h : gx_H} {q : Nat} {k : gx_K} {f : Nat → Int} (hok : gx_ok h) (hf : ∀ j, j < k.2 → gx_sl h.1.length (gx_ty k j) (f j)) : gx_W cA (gx_ad ad h.1.length q) (h.1 ++ [k], gx_us h.2 h.1.length f) = gx_W cA ad h ++ [(q, gx_c cA ad k f)] := by
  apply List.ext_getElem?
  intro i
  by_cases hi : i < h.1.length
  · have hk : h.1[i]? = some h.1[i] := List.getElem?_eq_getElem hi
    rw [gx_W_at (h := (h.1 ++ [k], gx_us h.2 h.1.length f)) (k := h.1[i]) (by rw [List.getElem?_append_left hi]; exact hk)]
    rw [List.getElem?_append_left (by simp [gx_W]; exact hi), gx_W_at hk]
    simp only [gx_us, gx_ad, if_neg (Nat.ne_of_lt hi)]
    exact congrArg (fun z => some (ad i, z)) (gx_c_ad (hok i _ hk).2)
  · by_cases he : i = h.1.length
    · subst he
      rw [gx_W_at (h := (h.1 ++ [k], gx_us h.2 h.1.length f)) (k := k) (by simp)]
      rw [List.getElem?_append_right (by simp [gx_W])]
      simp only [gx_us, gx_ad, if_true]
      rw [show h.1.length - (gx_W cA ad h).length = 0 by simp [gx_W]]
      exact congrArg (fun z => some (q, z)) (gx_c_ad hf)
    · rw [List.getElem?_eq_none (by simp [gx_W]; omega), List.getElem?_eq_none (by simp [gx_W]; omega)]
/-! the judgement -/
def gx_ws (M : gx_M) : List Cond := Cond.code M.1 M.2.1 M.2.2.1 M.2.2.2.1 :: gx_tbl
def gx_isN : Cond → Bool
  | .methodLinkNest .. => true
  | _ => false
def gx_Kn (D : va_G) (cA : Nat → ClassId) (U : State) : Prop := va_K D gx_cls [(cA 0, .int), (cA 1, .boolean), (cA 2, .object "LetterExchange$State")] U ∧ (∀ w ∈ lw_tbl, gx_isN w = true → va_Nw w U) ∧ va_AO "LetterExchange$State" U
theorem gx_Kn.warm {D : va_G} {cA : Nat → ClassId} {s U : State} (hW : s.WarmedH U.vm) (h : gx_Kn D cA s) : gx_Kn D cA U := by
  refine ⟨va_K.moved hW.alike h.1, fun w hw hn => ?_, va_AO.moved hW.alike h.2.2⟩
  have h1 := h.2.1 w hw hn
  cases w <;> first | exact va_Nw.warmM hW h1 | cases hn
theorem gx_Kn.same {D : va_G} {cA : Nat → ClassId} {s U : State} (hv : s.vm = U.vm) (h : gx_Kn D cA s) : gx_Kn D cA U := by
  have ha : s.vm.Alike U.vm := by rw [← hv]; exact Vm.Alike.refl _
  refine ⟨va_K.moved ha h.1, fun w hw hn => ?_, va_AO.moved ha h.2.2⟩
  have h1 := h.2.1 w hw hn
  cases w <;> first | exact va_Nw.same rfl hv h1 | cases hn
def gx_ret (ret : Option FieldType) (r : Int) : Option Value := match ret with
  | none => none
  | some _ => some (.int (Int32.ofInt r))
def gx_Q (ret : Option FieldType) (cA : Nat → ClassId) (D : va_G) (ad0 : Nat → Nat) (n0 : Nat) (A : Nat → Prop) (r : Int) (h' : gx_H) : Array Value → State → Outcome → State → Prop := fun _ s oc t =>
  (∃ ad : Nat → Nat, (∀ o, o < n0 → ad o = ad0 o) ∧ n0 ≤ h'.1.length ∧ oc = .returned (gx_ret ret r) ∧ gx_ok h' ∧ va_P D gx_cls (gx_W cA ad h') t.heap ∧ va_D A (gx_W cA ad h')) ∧ va_F A s t
def gx_vl (n : Nat) (v : gx_V) : Prop := match v with
  | .inl _ => True
  | .inr (.inl _) => True
  | .inr (.inr o) => o < n
def gx_has (ad : Nat → Nat) (ls : Array Slot) (nL : Nat) (l : List (Option gx_V)) : Prop := ls.size = nL ∧ lv_wf ls ∧ ∀ (i : Nat) (v : gx_V), l[i]? = some (some v) → ls[i]? = some (.val (gx_v ad v))
def gx_E (M : gx_M) (p : Program) (s : State) (m : MethodId) (args : Array Value) (meth : Method) (c : Code) : Prop :=
  p.tables.exec = Jvm.exec ∧ c.code = M.2.1 ∧ c.maxLocals = M.2.2.1 ∧ s.vm.findClass M.1.cls = some m.cls ∧ (∀ w ∈ gx_tbl, w.before args s = true) ∧ meth.sig.returnType = M.2.2.2.1 ∧ meth.locks = false ∧ meth.name = M.1.name
def gx_B (D : va_G) (cA : Nat → ClassId) (ad0 : Nat → Nat) (n0 : Nat) (A : Nat → Prop) (s : State) (ad : Nat → Nat) (H : Heap) (locs : List Loc) (h : gx_H) : Prop :=
  gx_Kn D cA s ∧ (∀ q, s.heap.size ≤ q → A q) ∧ (n0 ≤ h.1.length ∧ ∀ o, o < n0 → ad o = ad0 o) ∧ gx_ok h ∧ va_P D gx_cls (gx_W cA ad h) H ∧ va_D A (gx_W cA ad h) ∧ va_S A s.heap H locs
def gx_Y (M : gx_M) (u : Nat × Nat) (pc : Nat) (l : List (Option gx_V)) (st : List gx_V) (h : gx_H) (res : Option (Int × gx_H)) : Prop :=
  ∀ (r : Int) (h' : gx_H), res = some (r, h') →
  ∀ (p : Program) (la : Launch) (e : Env) (s : State) (m : MethodId) (args : Array Value) (below : List Frame) (meth : Method) (c : Code) (D : va_G) (cA : Nat → ClassId) (ad0 : Nat → Nat) (n0 : Nat) (A : Nat → Prop) (ad : Nat → Nat) (ls : Array Slot) (H : Heap) (locs : List Loc),
  gx_E M p s m args meth c → gx_B D cA ad0 n0 A s ad H locs h → (∀ v ∈ st, gx_vl h.1.length v) → (∀ v, some v ∈ l → gx_vl h.1.length v) → gx_has ad ls M.2.2.1 l →
  W p la e M.2.2.2.2.1 s m args below meth c H locs u.1 u.2 (MQ below (gx_Q M.2.2.2.1 cA D ad0 n0 A r h') args s M.2.2.2.2.2.1 M.2.2.2.2.2.2 A) (F0 m pc ls (st.map (gx_v ad)))
/-- a row that touches the stack alone -/
theorem gx_pure {M : gx_M} {u : Nat × Nat} {pc pc' : Nat} {l : List (Option gx_V)} {st st' : List gx_V} {h : gx_H} {res : Option (Int × gx_H)} (k : gx_Y M u pc' l st' h res)
    (hv : ∀ n, (∀ v ∈ st, gx_vl n v) → (∀ v, some v ∈ l → gx_vl n v) → ∀ v ∈ st', gx_vl n v)
    (hw : ∀ (p : Program) (la : Launch) (e : Env) (s : State) (m : MethodId) (args : Array Value) (below : List Frame) (meth : Method) (c : Code) (ad : Nat → Nat) (ls : Array Slot) (H : Heap) (locs : List Loc) (Q : State → Prop), gx_E M p s m args meth c → gx_has ad ls M.2.2.1 l →
      W p la e M.2.2.2.2.1 s m args below meth c H locs u.1 u.2 Q (F0 m pc' ls (st'.map (gx_v ad))) → W p la e M.2.2.2.2.1 s m args below meth c H locs u.1 u.2 Q (F0 m pc ls (st.map (gx_v ad)))) : gx_Y M u pc l st h res := by
  intro r h' hr p la e s m args below meth c D cA ad0 n0 A ad ls H locs E B hs hl hh
  exact hw p la e s m args below meth c ad ls H locs _ E hh (k r h' hr p la e s m args below meth c D cA ad0 n0 A ad ls H locs E B (hv _ hs hl) hl hh)
section GXP
variable {M : gx_M} {u : Nat × Nat} {pc : Nat} {l : List (Option gx_V)} {st : List gx_V} {h : gx_H} {res : Option (Int × gx_H)}
theorem gx_iconst {n : Int} (hd : decode M.2.1 pc = .ok (.iconst n, 1)) (k : gx_Y M u (pc + 1) l (gx_I n :: st) h res) : gx_Y M u pc l st h res :=
  gx_pure k (fun _ hs _ => List.forall_mem_cons.mpr ⟨trivial, hs⟩) (fun _ _ _ _ _ _ _ _ _ _ _ _ _ _ E _ w => lv_iconst E.1 E.2.1 hd rfl w)
theorem gx_bipush {n : Int} (hd : decode M.2.1 pc = .ok (.bipush n, 2)) (hn : (Int8.ofInt n).toInt32 = Int32.ofInt n) (k : gx_Y M u (pc + 2) l (gx_I n :: st) h res) : gx_Y M u pc l st h res :=
  gx_pure k (fun _ hs _ => List.forall_mem_cons.mpr ⟨trivial, hs⟩) (fun _ _ _ _ _ _ _ _ _ _ _ _ _ _ E _ w => lv_bipush E.1 E.2.1 hd hn w)
theorem gx_sipush {n : Int} (hd : decode M.2.1 pc = .ok (.sipush n, 3)) (hn : (Int16.ofInt n).toInt32 = Int32.ofInt n) (k : gx_Y M u (pc + 3) l (gx_I n :: st) h res) : gx_Y M u pc l st h res :=
  gx_pure k (fun _ hs _ => List.forall_mem_cons.mpr ⟨trivial, hs⟩) (fun _ _ _ _ _ _ _ _ _ _ _ _ _ _ E _ w => lv_sipush E.1 E.2.1 hd hn w)
theorem gx_lconst {n : Fin 2} {a : Int} (hd : decode M.2.1 pc = .ok (.lconst n, 1)) (hn : Int64.ofNat (n : Nat) = Int64.ofInt a) (k : gx_Y M u (pc + 1) l (gx_L a :: st) h res) : gx_Y M u pc l st h res :=
  gx_pure k (fun _ hs _ => List.forall_mem_cons.mpr ⟨trivial, hs⟩) (fun _ _ _ _ _ _ _ _ _ _ _ _ _ _ E _ w => lv_lconst E.1 E.2.1 hd hn w)
theorem gx_ldc {ix : Nat} {a : Int} (hc : Cond.constant M.1.cls ix (Int32.ofInt a) ∈ lw_tbl) (hd : decode M.2.1 pc = .ok (.ldc ix, 2)) (k : gx_Y M u (pc + 2) l (gx_I a :: st) h res) : gx_Y M u pc l st h res :=
  gx_pure k (fun _ hs _ => List.forall_mem_cons.mpr ⟨trivial, hs⟩) (fun _ _ _ _ _ _ _ _ _ _ _ _ _ _ E _ w => lv_ldc E.1 E.2.1 E.2.2.2.1 (E.2.2.2.2.1 _ (gx_gd hc rfl)) hd w)
theorem gx_ldcw {ix : Nat} {a : Int} (hc : Cond.constant M.1.cls ix (Int32.ofInt a) ∈ lw_tbl) (hd : decode M.2.1 pc = .ok (.ldc_w ix, 3)) (k : gx_Y M u (pc + 3) l (gx_I a :: st) h res) : gx_Y M u pc l st h res :=
  gx_pure k (fun _ hs _ => List.forall_mem_cons.mpr ⟨trivial, hs⟩) (fun _ _ _ _ _ _ _ _ _ _ _ _ _ _ E _ w => lv_ldcw E.1 E.2.1 E.2.2.2.1 (E.2.2.2.2.1 _ (gx_gd hc rfl)) hd w)
theorem gx_ldc2 {ix : Nat} {a : Int} (hc : Cond.constantLong M.1.cls ix (Int64.ofInt a) ∈ lw_tbl) (hd : decode M.2.1 pc = .ok (.ldc2_w ix, 3)) (k : gx_Y M u (pc + 3) l (gx_L a :: st) h res) : gx_Y M u pc l st h res :=
  gx_pure k (fun _ hs _ => List.forall_mem_cons.mpr ⟨trivial, hs⟩) (fun _ _ _ _ _ _ _ _ _ _ _ _ _ _ E _ w => lv_ldc2 E.1 E.2.1 E.2.2.2.1 (E.2.2.2.2.1 _ (gx_gd hc rfl)) hd w)
theorem gx_iload_n {i : Fin 4} {a : Int} (hd : decode M.2.1 pc = .ok (.iload_n i, 1)) (hl : l[(i : Nat)]? = some (some (gx_I a))) (k : gx_Y M u (pc + 1) l (gx_I a :: st) h res) : gx_Y M u pc l st h res :=
  gx_pure k (fun _ hs _ => List.forall_mem_cons.mpr ⟨trivial, hs⟩) (fun _ _ _ _ _ _ _ _ _ _ _ _ _ _ E L w => lv_iload_n E.1 E.2.1 hd rfl (L.2.2 _ _ hl) w)
theorem gx_iload {i : Nat} {a : Int} (hd : decode M.2.1 pc = .ok (.iload i, 2)) (hl : l[i]? = some (some (gx_I a))) (k : gx_Y M u (pc + 2) l (gx_I a :: st) h res) : gx_Y M u pc l st h res :=
  gx_pure k (fun _ hs _ => List.forall_mem_cons.mpr ⟨trivial, hs⟩) (fun _ _ _ _ _ _ _ _ _ _ _ _ _ _ E L w => lv_iload E.1 E.2.1 hd (L.2.2 _ _ hl) w)
theorem gx_lload_n {i : Fin 4} {a : Int} (hd : decode M.2.1 pc = .ok (.lload_n i, 1)) (hl : l[(i : Nat)]? = some (some (gx_L a))) (k : gx_Y M u (pc + 1) l (gx_L a :: st) h res) : gx_Y M u pc l st h res :=
  gx_pure k (fun _ hs _ => List.forall_mem_cons.mpr ⟨trivial, hs⟩) (fun _ _ _ _ _ _ _ _ _ _ _ _ _ _ E L w => lv_lload_n E.1 E.2.1 hd rfl (L.2.2 _ _ hl) w)
theorem gx_lload {i : Nat} {a : Int} (hd : decode M.2.1 pc = .ok (.lload i, 2)) (hl : l[i]? = some (some (gx_L a))) (k : gx_Y M u (pc + 2) l (gx_L a :: st) h res) : gx_Y M u pc l st h res :=
  gx_pure k (fun _ hs _ => List.forall_mem_cons.mpr ⟨trivial, hs⟩) (fun _ _ _ _ _ _ _ _ _ _ _ _ _ _ E L w => lv_lload E.1 E.2.1 hd (L.2.2 _ _ hl) w)
theorem gx_aload_n {i : Fin 4} {o : Nat} (hd : decode M.2.1 pc = .ok (.aload_n i, 1)) (hl : l[(i : Nat)]? = some (some (gx_R o))) (k : gx_Y M u (pc + 1) l (gx_R o :: st) h res) : gx_Y M u pc l st h res :=
  gx_pure k (fun _ hs hk => List.forall_mem_cons.mpr ⟨hk _ (List.mem_of_getElem? hl), hs⟩) (fun _ _ _ _ _ _ _ _ _ _ _ _ _ _ E L w => lv_aload_n E.1 E.2.1 hd rfl (L.2.2 _ _ hl) w)
theorem gx_aload {i : Nat} {o : Nat} (hd : decode M.2.1 pc = .ok (.aload i, 2)) (hl : l[i]? = some (some (gx_R o))) (k : gx_Y M u (pc + 2) l (gx_R o :: st) h res) : gx_Y M u pc l st h res :=
  gx_pure k (fun _ hs hk => List.forall_mem_cons.mpr ⟨hk _ (List.mem_of_getElem? hl), hs⟩) (fun _ _ _ _ _ _ _ _ _ _ _ _ _ _ E L w => lv_aload E.1 E.2.1 hd (L.2.2 _ _ hl) w)
theorem gx_dup {v : gx_V} (hd : decode M.2.1 pc = .ok (.dup, 1)) (hc : ∀ ad, (gx_v ad v).category = 1) (k : gx_Y M u (pc + 1) l (v :: v :: st) h res) : gx_Y M u pc l (v :: st) h res :=
  gx_pure k (fun _ hs _ => List.forall_mem_cons.mpr ⟨(List.forall_mem_cons.mp hs).1, hs⟩) (fun _ _ _ _ _ _ _ _ _ _ _ _ _ _ E _ w => lv_dup E.1 E.2.1 hd (hc _) w)
theorem gx_pop {v : gx_V} (hd : decode M.2.1 pc = .ok (.pop, 1)) (hc : ∀ ad, (gx_v ad v).category = 1) (k : gx_Y M u (pc + 1) l st h res) : gx_Y M u pc l (v :: st) h res :=
  gx_pure k (fun _ hs _ => (List.forall_mem_cons.mp hs).2) (fun _ _ _ _ _ _ _ _ _ _ _ _ _ _ E _ w => lv_pop E.1 E.2.1 hd (hc _) w)
theorem gx_goto {off : Int} {tgt : Nat} (hd : decode M.2.1 pc = .ok (.goto off, 3)) (ht : (pc : Int) + off = (tgt : Int)) (k : gx_Y M u tgt l st h res) : gx_Y M u pc l st h res :=
  gx_pure k (fun _ hs _ => hs) (fun _ _ _ _ _ _ _ _ _ _ _ _ _ _ E _ w => lv_goto E.1 E.2.1 hd ht w)
theorem gx_c2 {n : Nat} {a b v : gx_V} {st : List gx_V} (hs : ∀ w ∈ b :: a :: st, gx_vl n w) (hv : gx_vl n v) : ∀ w ∈ v :: st, gx_vl n w := List.forall_mem_cons.mpr ⟨hv, (List.forall_mem_cons.mp (List.forall_mem_cons.mp hs).2).2⟩
theorem gx_c1 {n : Nat} {a v : gx_V} {st : List gx_V} (hs : ∀ w ∈ a :: st, gx_vl n w) (hv : gx_vl n v) : ∀ w ∈ v :: st, gx_vl n w := List.forall_mem_cons.mpr ⟨hv, (List.forall_mem_cons.mp hs).2⟩
theorem gx_iadd {a b : Int} (hd : decode M.2.1 pc = .ok (.iadd, 1)) (k : gx_Y M u (pc + 1) l (gx_I (a + b) :: st) h res) : gx_Y M u pc l (gx_I b :: gx_I a :: st) h res :=
  gx_pure k (fun _ hs _ => gx_c2 hs trivial) (fun _ _ _ _ _ _ _ _ _ _ _ _ _ _ E _ w => lv_iadd E.1 E.2.1 hd (by rw [← Int32.ofInt_add]; exact w))
theorem gx_isub {a b : Int} (hd : decode M.2.1 pc = .ok (.isub, 1)) (k : gx_Y M u (pc + 1) l (gx_I (a - b) :: st) h res) : gx_Y M u pc l (gx_I b :: gx_I a :: st) h res :=
  gx_pure k (fun _ hs _ => gx_c2 hs trivial) (fun _ _ _ _ _ _ _ _ _ _ _ _ _ _ E _ w => lv_isub E.1 E.2.1 hd (by rw [← Int32.ofInt_sub]; exact w))
theorem gx_imul {a b : Int} (hd : decode M.2.1 pc = .ok (.imul, 1)) (k : gx_Y M u (pc + 1) l (gx_I (a * b) :: st) h res) : gx_Y M u pc l (gx_I b :: gx_I a :: st) h res :=
  gx_pure k (fun _ hs _ => gx_c2 hs trivial) (fun _ _ _ _ _ _ _ _ _ _ _ _ _ _ E _ w => lv_imul E.1 E.2.1 hd (by rw [← Int32.ofInt_mul]; exact w))
theorem gx_ineg {a : Int} (hd : decode M.2.1 pc = .ok (.ineg, 1)) (k : gx_Y M u (pc + 1) l (gx_I (-a) :: st) h res) : gx_Y M u pc l (gx_I a :: st) h res :=
  gx_pure k (fun _ hs _ => gx_c1 hs trivial) (fun _ _ _ _ _ _ _ _ _ _ _ _ _ _ E _ w => lv_ineg E.1 E.2.1 hd (by rw [← Int32.ofInt_neg]; exact w))
theorem gx_ladd {a b : Int} (hd : decode M.2.1 pc = .ok (.ladd, 1)) (k : gx_Y M u (pc + 1) l (gx_L (a + b) :: st) h res) : gx_Y M u pc l (gx_L b :: gx_L a :: st) h res :=
  gx_pure k (fun _ hs _ => gx_c2 hs trivial) (fun _ _ _ _ _ _ _ _ _ _ _ _ _ _ E _ w => lv_ladd E.1 E.2.1 hd (by rw [← Int64.ofInt_add]; exact w))
theorem gx_lmul {a b : Int} (hd : decode M.2.1 pc = .ok (.lmul, 1)) (k : gx_Y M u (pc + 1) l (gx_L (a * b) :: st) h res) : gx_Y M u pc l (gx_L b :: gx_L a :: st) h res :=
  gx_pure k (fun _ hs _ => gx_c2 hs trivial) (fun _ _ _ _ _ _ _ _ _ _ _ _ _ _ E _ w => lv_lmul E.1 E.2.1 hd (by rw [← Int64.ofInt_mul]; exact w))
end GXP
theorem gx_nz {b : Int} (h : 0 < b) (hb : gx_i b) : ¬ Int32.ofInt b = 0 := fun e => by
  have h1 := congrArg Int32.toInt e
  rw [Int32.toInt_ofInt_of_le (by omega) (by omega)] at h1
  have h2 : (0 : Int32).toInt = 0 := rfl
  omega
theorem gx_nzl {b : Int} (h : 0 < b) (hb : gx_l b) : ¬ Int64.ofInt b = 0 := fun e => by
  have h1 := congrArg Int64.toInt e
  rw [Int64.toInt_ofInt_of_le (by omega) (by omega)] at h1
  have h2 : (0 : Int64).toInt = 0 := rfl
  omega
theorem gx_div {a b : Int} (ha : gx_i a) (h : 0 < b) (hb : gx_i b) : Int32.ofInt a / Int32.ofInt b = Int32.ofInt (a.tdiv b) := (Int32.ofInt_tdiv ha.1 ha.2 hb.1 hb.2).symm
theorem gx_divl {a b : Int} (ha : gx_l a) (h : 0 < b) (hb : gx_l b) : Int64.ofInt a / Int64.ofInt b = Int64.ofInt (a.tdiv b) := (Int64.ofInt_tdiv ha.1 ha.2 hb.1 hb.2).symm
theorem gx_tm (a b : Int) : a - a.tdiv b * b = a.tmod b := by
  have h := Int.tmod_add_mul_tdiv a b
  rw [Int.mul_comm] at h
  omega
end
section
/-! rows: division, longs, bits, branches, stores, the heap, returns -/
def gq_g {β : Type} (c : Prop) [Decidable c] (A : Option β) : Option β := if c then A else none
theorem gq_g_in {β : Type} {c : Prop} [Decidable c] {A : Option β} {r : β} (h : gq_g c A = some r) : c ∧ A = some r := by
  unfold gq_g at h
  by_cases hc : c
  · rw [if_pos hc] at h; exact ⟨hc, h⟩
  · rw [if_neg hc] at h; cases h
theorem gq_g_ok {β : Type} {c : Prop} [Decidable c] {A : Option β} (h : c) : gq_g c A = A := if_pos h
section GXR
variable {M : gx_M} {u : Nat × Nat} {pc : Nat} {l : List (Option gx_V)} {st : List gx_V} {h : gx_H} {res : Option (Int × gx_H)}
/-- the check stands ahead of the rest -/
theorem gx_g {c : Prop} [Decidable c] (k : c → gx_Y M u pc l st h res) : gx_Y M u pc l st h (gq_g c res) := by
  intro r h' hr
  obtain ⟨hc, hr⟩ := gq_g_in hr
  exact k hc r h' hr
theorem gx_ite {c : Prop} [Decidable c] {A B : Option (Int × gx_H)} (ka : c → gx_Y M u pc l st h A) (kb : ¬ c → gx_Y M u pc l st h B) : gx_Y M u pc l st h (if c then A else B) := by
  by_cases hc : c
  · rw [if_pos hc]; exact ka hc
  · rw [if_neg hc]; exact kb hc
theorem gx_idiv {a b : Int} (ha : gx_i a) (h0 : 0 < b) (hb : gx_i b) (hd : decode M.2.1 pc = .ok (.idiv, 1)) (k : gx_Y M u (pc + 1) l (gx_I (a.tdiv b) :: st) h res) : gx_Y M u pc l (gx_I b :: gx_I a :: st) h res :=
  gx_pure k (fun _ hs _ => gx_c2 hs trivial) (fun _ _ _ _ _ _ _ _ _ _ _ _ _ _ E _ w => lv_idiv E.1 E.2.1 hd (gx_nz h0 hb) (by rw [gx_div ha h0 hb]; exact w))
theorem gx_irem {a b : Int} (ha : gx_i a) (h0 : 0 < b) (hb : gx_i b) (hd : decode M.2.1 pc = .ok (.irem, 1)) (k : gx_Y M u (pc + 1) l (gx_I (a.tmod b) :: st) h res) : gx_Y M u pc l (gx_I b :: gx_I a :: st) h res :=
  gx_pure k (fun _ hs _ => gx_c2 hs trivial) (fun _ _ _ _ _ _ _ _ _ _ _ _ _ _ E _ w => lv_irem E.1 E.2.1 hd (gx_nz h0 hb) (by rw [gx_div ha h0 hb, ← Int32.ofInt_mul, ← Int32.ofInt_sub, gx_tm]; exact w))
theorem gx_ldiv {a b : Int} (ha : gx_l a) (h0 : 0 < b) (hb : gx_l b) (hd : decode M.2.1 pc = .ok (.ldiv, 1)) (k : gx_Y M u (pc + 1) l (gx_L (a.tdiv b) :: st) h res) : gx_Y M u pc l (gx_L b :: gx_L a :: st) h res :=
  gx_pure k (fun _ hs _ => gx_c2 hs trivial) (fun _ _ _ _ _ _ _ _ _ _ _ _ _ _ E _ w => lv_ldiv E.1 E.2.1 hd (gx_nzl h0 hb) (by rw [gx_divl ha h0 hb]; exact w))
theorem gx_lrem {a b : Int} (ha : gx_l a) (h0 : 0 < b) (hb : gx_l b) (hd : decode M.2.1 pc = .ok (.lrem, 1)) (k : gx_Y M u (pc + 1) l (gx_L (a.tmod b) :: st) h res) : gx_Y M u pc l (gx_L b :: gx_L a :: st) h res :=
  gx_pure k (fun _ hs _ => gx_c2 hs trivial) (fun _ _ _ _ _ _ _ _ _ _ _ _ _ _ E _ w => lv_lrem E.1 E.2.1 hd (gx_nzl h0 hb) (by rw [gx_divl ha h0 hb, ← Int64.ofInt_mul, ← Int64.ofInt_sub, gx_tm]; exact w))
theorem gx_i2l {a : Int} (ha : gx_i a) (hd : decode M.2.1 pc = .ok (.i2l, 1)) (k : gx_Y M u (pc + 1) l (gx_L a :: st) h res) : gx_Y M u pc l (gx_I a :: st) h res :=
  gx_pure k (fun _ hs _ => gx_c1 hs trivial) (fun _ _ _ _ _ _ _ _ _ _ _ _ _ _ E _ w => lv_i2l E.1 E.2.1 hd (Int32.toInt64_ofInt ha.1 ha.2) w)
theorem gx_l2i {a : Int} (hd : decode M.2.1 pc = .ok (.l2i, 1)) (k : gx_Y M u (pc + 1) l (gx_I a :: st) h res) : gx_Y M u pc l (gx_L a :: st) h res :=
  gx_pure k (fun _ hs _ => gx_c1 hs trivial) (fun _ _ _ _ _ _ _ _ _ _ _ _ _ _ E _ w => lv_l2i E.1 E.2.1 hd Int64.toInt32_ofInt w)
def gq_and (a b : Int) : Int := (Int32.ofInt a &&& Int32.ofInt b).toInt
def gq_or (a b : Int) : Int := (Int32.ofInt a ||| Int32.ofInt b).toInt
def gq_shl (a b : Int) : Int := (Int32.ofInt a <<< (Int32.ofInt b &&& 31)).toInt
def gq_shr (a b : Int) : Int := (Int32.ofInt a >>> (Int32.ofInt b &&& 31)).toInt
def gq_land (a b : Int) : Int := (Int64.ofInt a &&& Int64.ofInt b).toInt
theorem gx_iand {a b : Int} (hd : decode M.2.1 pc = .ok (.iand, 1)) (k : gx_Y M u (pc + 1) l (gx_I (gq_and a b) :: st) h res) : gx_Y M u pc l (gx_I b :: gx_I a :: st) h res :=
  gx_pure k (fun _ hs _ => gx_c2 hs trivial) (fun _ _ _ _ _ _ _ _ _ _ _ _ _ _ E _ w => lv_iand E.1 E.2.1 hd (by rw [← Int32.ofInt_toInt (Int32.ofInt a &&& Int32.ofInt b)]; exact w))
theorem gx_ior {a b : Int} (hd : decode M.2.1 pc = .ok (.ior, 1)) (k : gx_Y M u (pc + 1) l (gx_I (gq_or a b) :: st) h res) : gx_Y M u pc l (gx_I b :: gx_I a :: st) h res :=
  gx_pure k (fun _ hs _ => gx_c2 hs trivial) (fun _ _ _ _ _ _ _ _ _ _ _ _ _ _ E _ w => lv_ior E.1 E.2.1 hd (by rw [← Int32.ofInt_toInt (Int32.ofInt a ||| Int32.ofInt b)]; exact w))
theorem gx_ishl {a b : Int} (hd : decode M.2.1 pc = .ok (.ishl, 1)) (k : gx_Y M u (pc + 1) l (gx_I (gq_shl a b) :: st) h res) : gx_Y M u pc l (gx_I b :: gx_I a :: st) h res :=
  gx_pure k (fun _ hs _ => gx_c2 hs trivial) (fun _ _ _ _ _ _ _ _ _ _ _ _ _ _ E _ w => lv_ishl E.1 E.2.1 hd (by rw [← Int32.ofInt_toInt (Int32.ofInt a <<< (Int32.ofInt b &&& 31))]; exact w))
theorem gx_ishr {a b : Int} (hd : decode M.2.1 pc = .ok (.ishr, 1)) (k : gx_Y M u (pc + 1) l (gx_I (gq_shr a b) :: st) h res) : gx_Y M u pc l (gx_I b :: gx_I a :: st) h res :=
  gx_pure k (fun _ hs _ => gx_c2 hs trivial) (fun _ _ _ _ _ _ _ _ _ _ _ _ _ _ E _ w => lv_ishr E.1 E.2.1 hd (by rw [← Int32.ofInt_toInt (Int32.ofInt a >>> (Int32.ofInt b &&& 31))]; exact w))
theorem gx_land {a b : Int} (hd : decode M.2.1 pc = .ok (.land, 1)) (k : gx_Y M u (pc + 1) l (gx_L (gq_land a b) :: st) h res) : gx_Y M u pc l (gx_L b :: gx_L a :: st) h res :=
  gx_pure k (fun _ hs _ => gx_c2 hs trivial) (fun _ _ _ _ _ _ _ _ _ _ _ _ _ _ E _ w => lv_land E.1 E.2.1 hd (by rw [← Int64.ofInt_toInt (Int64.ofInt a &&& Int64.ofInt b)]; exact w))
end GXR
theorem gx_eI {a b : Int} (ha : gx_i a) (hb : gx_i b) : Int32.ofInt a = Int32.ofInt b ↔ a = b := by
  refine ⟨fun e => ?_, fun e => by rw [e]⟩
  have h1 := congrArg Int32.toInt e
  rw [Int32.toInt_ofInt_of_le (by omega) (by omega), Int32.toInt_ofInt_of_le (by omega) (by omega)] at h1
  exact h1
theorem gx_ltI {a b : Int} (ha : gx_i a) (hb : gx_i b) : Int32.ofInt a < Int32.ofInt b ↔ a < b := by
  rw [Int32.lt_iff_toInt_lt, Int32.toInt_ofInt_of_le (by omega) (by omega), Int32.toInt_ofInt_of_le (by omega) (by omega)]
theorem gx_leI {a b : Int} (ha : gx_i a) (hb : gx_i b) : Int32.ofInt a ≤ Int32.ofInt b ↔ a ≤ b := by
  rw [Int32.le_iff_toInt_le, Int32.toInt_ofInt_of_le (by omega) (by omega), Int32.toInt_ofInt_of_le (by omega) (by omega)]
theorem gx_ltL {a b : Int} (ha : gx_l a) (hb : gx_l b) : Int64.ofInt a < Int64.ofInt b ↔ a < b := by
  rw [Int64.lt_iff_toInt_lt, Int64.toInt_ofInt_of_le (by omega) (by omega), Int64.toInt_ofInt_of_le (by omega) (by omega)]
theorem gx_eL {a b : Int} (ha : gx_l a) (hb : gx_l b) : Int64.ofInt a = Int64.ofInt b ↔ a = b := by
  refine ⟨fun e => ?_, fun e => by rw [e]⟩
  have h1 := congrArg Int64.toInt e
  rw [Int64.toInt_ofInt_of_le (by omega) (by omega), Int64.toInt_ofInt_of_le (by omega) (by omega)] at h1
  exact h1
theorem gx_i0 : gx_i 0 := by decide
/-- a branch: two goals, by a test that the machine's test stands for -/
theorem gx_br {M : gx_M} {u : Nat × Nat} {pc pcA pcB : Nat} {l : List (Option gx_V)} {st st' : List gx_V} {h : gx_H} {A B : Option (Int × gx_H)} {c : Prop} [Decidable c] (ka : gx_Y M u pcA l st' h A) (kb : gx_Y M u pcB l st' h B)
    (hv : ∀ n, (∀ v ∈ st, gx_vl n v) → ∀ v ∈ st', gx_vl n v)
    (hw : ∀ (p : Program) (la : Launch) (e : Env) (s : State) (m : MethodId) (args : Array Value) (below : List Frame) (meth : Method) (cd : Code) (ad : Nat → Nat) (ls : Array Slot) (H : Heap) (locs : List Loc) (Q : State → Prop), gx_E M p s m args meth cd →
      (c → W p la e M.2.2.2.2.1 s m args below meth cd H locs u.1 u.2 Q (F0 m pcA ls (st'.map (gx_v ad)))) → (¬ c → W p la e M.2.2.2.2.1 s m args below meth cd H locs u.1 u.2 Q (F0 m pcB ls (st'.map (gx_v ad)))) → W p la e M.2.2.2.2.1 s m args below meth cd H locs u.1 u.2 Q (F0 m pc ls (st.map (gx_v ad)))) : gx_Y M u pc l st h (if c then A else B) := by
  intro r h' hr p la e s m args below meth cd D cA ad0 n0 A' ad ls H locs E Bd hs hl hh
  refine hw p la e s m args below meth cd ad ls H locs _ E (fun hc => ?_) (fun hc => ?_)
  · rw [if_pos hc] at hr
    exact ka r h' hr p la e s m args below meth cd D cA ad0 n0 A' ad ls H locs E Bd (hv _ hs) hl hh
  · rw [if_neg hc] at hr
    exact kb r h' hr p la e s m args below meth cd D cA ad0 n0 A' ad ls H locs E Bd (hv _ hs) hl hh
section GXB
variable {M : gx_M} {u : Nat × Nat} {pc : Nat} {l : List (Option gx_V)} {st : List gx_V} {h : gx_H} {A B : Option (Int × gx_H)} {off : Int} {tgt : Nat} {a b : Int}
theorem gx_t2 {n : Nat} {a b : gx_V} {st : List gx_V} (hs : ∀ w ∈ b :: a :: st, gx_vl n w) : ∀ w ∈ st, gx_vl n w := (List.forall_mem_cons.mp (List.forall_mem_cons.mp hs).2).2
theorem gx_t1 {n : Nat} {a : gx_V} {st : List gx_V} (hs : ∀ w ∈ a :: st, gx_vl n w) : ∀ w ∈ st, gx_vl n w := (List.forall_mem_cons.mp hs).2
theorem gx_icmp_eq (ha : gx_i a) (hb : gx_i b) (hd : decode M.2.1 pc = .ok (.if_icmp .eq off, 3)) (ht : (pc : Int) + off = (tgt : Int)) (ka : gx_Y M u tgt l st h A) (kb : gx_Y M u (pc + 3) l st h B) : gx_Y M u pc l (gx_I b :: gx_I a :: st) h (if a = b then A else B) :=
  gx_br ka kb (fun _ hs => gx_t2 hs) (fun _ _ _ _ _ _ _ _ _ _ _ _ _ _ E wa wb => lv_icmp_eq E.1 E.2.1 hd ht (fun z => wa ((gx_eI ha hb).mp z)) (fun z => wb (fun q => z ((gx_eI ha hb).mpr q))))
theorem gx_icmp_ne (ha : gx_i a) (hb : gx_i b) (hd : decode M.2.1 pc = .ok (.if_icmp .ne off, 3)) (ht : (pc : Int) + off = (tgt : Int)) (ka : gx_Y M u tgt l st h A) (kb : gx_Y M u (pc + 3) l st h B) : gx_Y M u pc l (gx_I b :: gx_I a :: st) h (if a = b then B else A) :=
  gx_br kb ka (fun _ hs => gx_t2 hs) (fun _ _ _ _ _ _ _ _ _ _ _ _ _ _ E wb wa => lv_icmp_ne E.1 E.2.1 hd ht (fun z => wa (fun q => z ((gx_eI ha hb).mpr q))) (fun z => wb ((gx_eI ha hb).mp z)))
theorem gx_icmp_lt (ha : gx_i a) (hb : gx_i b) (hd : decode M.2.1 pc = .ok (.if_icmp .lt off, 3)) (ht : (pc : Int) + off = (tgt : Int)) (ka : gx_Y M u tgt l st h A) (kb : gx_Y M u (pc + 3) l st h B) : gx_Y M u pc l (gx_I b :: gx_I a :: st) h (if a < b then A else B) :=
  gx_br ka kb (fun _ hs => gx_t2 hs) (fun _ _ _ _ _ _ _ _ _ _ _ _ _ _ E wa wb => lv_icmp_lt E.1 E.2.1 hd ht (fun z => wa ((gx_ltI ha hb).mp z)) (fun z => wb (fun q => z ((gx_ltI ha hb).mpr q))))
theorem gx_icmp_ge (ha : gx_i a) (hb : gx_i b) (hd : decode M.2.1 pc = .ok (.if_icmp .ge off, 3)) (ht : (pc : Int) + off = (tgt : Int)) (ka : gx_Y M u tgt l st h A) (kb : gx_Y M u (pc + 3) l st h B) : gx_Y M u pc l (gx_I b :: gx_I a :: st) h (if a < b then B else A) :=
  gx_br kb ka (fun _ hs => gx_t2 hs) (fun _ _ _ _ _ _ _ _ _ _ _ _ _ _ E wb wa => lv_icmp_ge E.1 E.2.1 hd ht (fun z => wa (fun q => by have z1 := (gx_leI hb ha).mp z; omega)) (fun z => wb (by rcases Int.lt_or_le a b with q | q; exact q; exact absurd ((gx_leI hb ha).mpr q) z)))
theorem gx_icmp_gt (ha : gx_i a) (hb : gx_i b) (hd : decode M.2.1 pc = .ok (.if_icmp .gt off, 3)) (ht : (pc : Int) + off = (tgt : Int)) (ka : gx_Y M u tgt l st h A) (kb : gx_Y M u (pc + 3) l st h B) : gx_Y M u pc l (gx_I b :: gx_I a :: st) h (if b < a then A else B) :=
  gx_br ka kb (fun _ hs => gx_t2 hs) (fun _ _ _ _ _ _ _ _ _ _ _ _ _ _ E wa wb => lv_icmp_gt E.1 E.2.1 hd ht (fun z => wa ((gx_ltI hb ha).mp z)) (fun z => wb (fun q => z ((gx_ltI hb ha).mpr q))))
theorem gx_icmp_le (ha : gx_i a) (hb : gx_i b) (hd : decode M.2.1 pc = .ok (.if_icmp .le off, 3)) (ht : (pc : Int) + off = (tgt : Int)) (ka : gx_Y M u tgt l st h A) (kb : gx_Y M u (pc + 3) l st h B) : gx_Y M u pc l (gx_I b :: gx_I a :: st) h (if b < a then B else A) :=
  gx_br kb ka (fun _ hs => gx_t2 hs) (fun _ _ _ _ _ _ _ _ _ _ _ _ _ _ E wb wa => lv_icmp_le E.1 E.2.1 hd ht (fun z => wa (fun q => by have z1 := (gx_leI ha hb).mp z; omega)) (fun z => wb (by rcases Int.lt_or_le b a with q | q; exact q; exact absurd ((gx_leI ha hb).mpr q) z)))
theorem gx_if_eq (ha : gx_i a) (hd : decode M.2.1 pc = .ok (.ifCond .eq off, 3)) (ht : (pc : Int) + off = (tgt : Int)) (ka : gx_Y M u tgt l st h A) (kb : gx_Y M u (pc + 3) l st h B) : gx_Y M u pc l (gx_I a :: st) h (if a = 0 then A else B) :=
  gx_br ka kb (fun _ hs => gx_t1 hs) (fun _ _ _ _ _ _ _ _ _ _ _ _ _ _ E wa wb => lv_if_eq E.1 E.2.1 hd ht (fun z => wa ((gx_eI ha gx_i0).mp z)) (fun z => wb (fun q => z ((gx_eI ha gx_i0).mpr q))))
theorem gx_if_ne (ha : gx_i a) (hd : decode M.2.1 pc = .ok (.ifCond .ne off, 3)) (ht : (pc : Int) + off = (tgt : Int)) (ka : gx_Y M u tgt l st h A) (kb : gx_Y M u (pc + 3) l st h B) : gx_Y M u pc l (gx_I a :: st) h (if a = 0 then B else A) :=
  gx_br kb ka (fun _ hs => gx_t1 hs) (fun _ _ _ _ _ _ _ _ _ _ _ _ _ _ E wb wa => lv_if_ne E.1 E.2.1 hd ht (fun z => wa (fun q => z ((gx_eI ha gx_i0).mpr q))) (fun z => wb ((gx_eI ha gx_i0).mp z)))
theorem gx_if_lt (ha : gx_i a) (hd : decode M.2.1 pc = .ok (.ifCond .lt off, 3)) (ht : (pc : Int) + off = (tgt : Int)) (ka : gx_Y M u tgt l st h A) (kb : gx_Y M u (pc + 3) l st h B) : gx_Y M u pc l (gx_I a :: st) h (if a < 0 then A else B) :=
  gx_br ka kb (fun _ hs => gx_t1 hs) (fun _ _ _ _ _ _ _ _ _ _ _ _ _ _ E wa wb => lv_if_lt E.1 E.2.1 hd ht (fun z => wa ((gx_ltI ha gx_i0).mp z)) (fun z => wb (fun q => z ((gx_ltI ha gx_i0).mpr q))))
theorem gx_if_ge (ha : gx_i a) (hd : decode M.2.1 pc = .ok (.ifCond .ge off, 3)) (ht : (pc : Int) + off = (tgt : Int)) (ka : gx_Y M u tgt l st h A) (kb : gx_Y M u (pc + 3) l st h B) : gx_Y M u pc l (gx_I a :: st) h (if a < 0 then B else A) :=
  gx_br kb ka (fun _ hs => gx_t1 hs) (fun _ _ _ _ _ _ _ _ _ _ _ _ _ _ E wb wa => lv_if_ge E.1 E.2.1 hd ht (fun z => wa (fun q => by have z1 := (gx_leI gx_i0 ha).mp z; omega)) (fun z => wb (by rcases Int.lt_or_le a 0 with q | q; exact q; exact absurd ((gx_leI gx_i0 ha).mpr q) z)))
theorem gx_if_gt (ha : gx_i a) (hd : decode M.2.1 pc = .ok (.ifCond .gt off, 3)) (ht : (pc : Int) + off = (tgt : Int)) (ka : gx_Y M u tgt l st h A) (kb : gx_Y M u (pc + 3) l st h B) : gx_Y M u pc l (gx_I a :: st) h (if 0 < a then A else B) :=
  gx_br ka kb (fun _ hs => gx_t1 hs) (fun _ _ _ _ _ _ _ _ _ _ _ _ _ _ E wa wb => lv_if_gt E.1 E.2.1 hd ht (fun z => wa ((gx_ltI gx_i0 ha).mp z)) (fun z => wb (fun q => z ((gx_ltI gx_i0 ha).mpr q))))
theorem gx_if_le (ha : gx_i a) (hd : decode M.2.1 pc = .ok (.ifCond .le off, 3)) (ht : (pc : Int) + off = (tgt : Int)) (ka : gx_Y M u tgt l st h A) (kb : gx_Y M u (pc + 3) l st h B) : gx_Y M u pc l (gx_I a :: st) h (if 0 < a then B else A) :=
  gx_br kb ka (fun _ hs => gx_t1 hs) (fun _ _ _ _ _ _ _ _ _ _ _ _ _ _ E wb wa => lv_if_le E.1 E.2.1 hd ht (fun z => wa (fun q => by have z1 := (gx_leI ha gx_i0).mp z; omega)) (fun z => wb (by rcases Int.lt_or_le 0 a with q | q; exact q; exact absurd ((gx_leI ha gx_i0).mpr q) z)))
end GXB
/-- three ways: less, alike, more -/
def gq_cmp (a b : Int) : Int := if a < b then -1 else if a = b then 0 else 1
section GXS
variable {M : gx_M} {u : Nat × Nat} {pc : Nat} {l : List (Option gx_V)} {st : List gx_V} {h : gx_H} {res : Option (Int × gx_H)}
theorem gx_swIn {dflt lo hi off : Int} {offs : Array Int} {len tgt : Nat} {a : Int} (ha : gx_i a) (hd : decode M.2.1 pc = .ok (.tableswitch dflt lo hi offs, len)) (h1 : ¬ a < lo) (h2 : ¬ hi < a) (ho : offs[(a - lo).toNat]? = some off) (ht : (pc : Int) + off = (tgt : Int)) (k : gx_Y M u tgt l st h res) : gx_Y M u pc l (gx_I a :: st) h res :=
  gx_pure k (fun _ hs _ => gx_t1 hs) (fun _ _ _ _ _ _ _ _ _ _ _ _ _ _ E _ w => lv_tableIn E.1 E.2.1 hd (by rw [Int32.toInt_ofInt_of_le (by omega) (by omega)]; exact h1) (by rw [Int32.toInt_ofInt_of_le (by omega) (by omega)]; exact h2) (by rw [Int32.toInt_ofInt_of_le (by omega) (by omega)]; exact ho) ht w)
theorem gx_swOut {dflt lo hi : Int} {offs : Array Int} {len tgt : Nat} {a : Int} (ha : gx_i a) (hd : decode M.2.1 pc = .ok (.tableswitch dflt lo hi offs, len)) (h1 : a < lo ∨ hi < a) (ht : (pc : Int) + dflt = (tgt : Int)) (k : gx_Y M u tgt l st h res) : gx_Y M u pc l (gx_I a :: st) h res :=
  gx_pure k (fun _ hs _ => gx_t1 hs) (fun _ _ _ _ _ _ _ _ _ _ _ _ _ _ E _ w => lv_tableOut E.1 E.2.1 hd (by rw [Int32.toInt_ofInt_of_le (by omega) (by omega)]; exact h1) ht w)
theorem gx_look {dflt off : Int} {ps : Array (Int × Int)} {len tgt : Nat} {a : Int} (ha : gx_i a) (hd : decode M.2.1 pc = .ok (.lookupswitch dflt ps, len)) (hp : (ps.toList.zip (ps.toList.drop 1)).all (fun (a, next) => a.1 < next.1) = true) (ho : Op.lookupswitch.offset ps.toList dflt a = off) (ht : (pc : Int) + off = (tgt : Int)) (k : gx_Y M u tgt l st h res) : gx_Y M u pc l (gx_I a :: st) h res :=
  gx_pure k (fun _ hs _ => gx_t1 hs) (fun _ _ _ _ _ _ _ _ _ _ _ _ _ _ E _ w => lv_lookup E.1 E.2.1 hd hp (by rw [Int32.toInt_ofInt_of_le (by omega) (by omega)]; exact ho) ht w)
/-- fewer locals -/
def gx_le : List (Option gx_V) → List (Option gx_V) → Prop
  | [], _ => True
  | none :: t, _ :: t' => gx_le t t'
  | some v :: t, some w :: t' => v = w ∧ gx_le t t'
  | none :: t, [] => gx_le t []
  | some _ :: _, none :: _ => False
  | some _ :: _, [] => False
theorem gx_le_at : ∀ {l' l : List (Option gx_V)}, gx_le l' l → ∀ (i : Nat) (v : gx_V), l'[i]? = some (some v) → l[i]? = some (some v)
  | [], _, _, i, v, h => by simp at h
  | none :: t, _ :: t', hl, 0, v, h => by simp at h
  | none :: t, _ :: t', hl, i + 1, v, h => by
    simp only [List.getElem?_cons_succ] at h ⊢
    exact gx_le_at (l' := t) (l := t') hl i v h
  | some w :: t, some w' :: t', hl, 0, v, h => by
    obtain ⟨rfl, -⟩ := hl
    exact h
  | some w :: t, some w' :: t', hl, i + 1, v, h => by
    simp only [List.getElem?_cons_succ] at h ⊢
    exact gx_le_at (l' := t) (l := t') hl.2 i v h
  | none :: t, [], hl, 0, v, h => by simp at h
  | none :: t, [], hl, i + 1, v, h => by
    simp only [List.getElem?_cons_succ] at h
    have := gx_le_at (l' := t) (l := []) hl i v h
    simp at this
theorem gx_less {l' : List (Option gx_V)} (hl : gx_le l' l) (k : gx_Y M u pc l' st h res) : gx_Y M u pc l st h res := by
  intro r h' hr p la e s m args below meth c D cA ad0 n0 A ad ls H locs E B hs hk hh
  refine k r h' hr p la e s m args below meth c D cA ad0 n0 A ad ls H locs E B hs (fun v hv => ?_) ⟨hh.1, hh.2.1, fun i v hi => hh.2.2 i v (gx_le_at hl i v hi)⟩
  obtain ⟨i, hi⟩ := List.getElem?_of_mem hv
  exact hk v (List.mem_of_getElem? (gx_le_at hl i v hi))
end GXS
end
section
/-! rows: locals written, three-way compare, fields, arrays, returns -/
def gx_nl : Option (Option gx_V) → Bool
  | some (some (.inr (.inl _))) => false
  | _ => true
def gx_nk (l : List (Option gx_V)) (i : Nat) : Bool := match i with
  | 0 => true
  | i + 1 => gx_nl l[i]?
def gx_lo (ad : Nat → Nat) (l : List (Option gx_V)) : List (Nat × Value) := (List.range l.length).filterMap (fun i => (l.getD i none).map (fun v => (i, gx_v ad v)))
theorem gx_lo_in {ad : Nat → Nat} {l : List (Option gx_V)} {i : Nat} {v : gx_V} (h : l[i]? = some (some v)) : (i, gx_v ad v) ∈ gx_lo ad l := by
  refine List.mem_filterMap.mpr ⟨i, List.mem_range.mpr (List.getElem?_eq_some_iff.mp h).1, ?_⟩
  simp [h]
theorem gx_lo_has {ad : Nat → Nat} {ls : Array Slot} {nL : Nat} {l : List (Option gx_V)} (h : gx_has ad ls nL l) : lv_has ls nL (gx_lo ad l) := by
  refine ⟨h.1, h.2.1, fun q hq => ?_⟩
  obtain ⟨i, hi, he⟩ := List.mem_filterMap.mp hq
  have hil := List.mem_range.mp hi
  have h1 : l[i]? = some (l.getD i none) := by simp [hil]
  generalize l.getD i none = w at h1 he
  cases w with
  | none => cases he
  | some v => cases he; exact h.2.2 i v h1
theorem gx_cat {ad : Nat → Nat} {v : gx_V} (h : gx_nl (some (some v)) = true) : ((gx_v ad v).category == 2) = false := by
  match v with
  | .inl _ => rfl
  | .inr (.inl _) => cases h
  | .inr (.inr _) => rfl
theorem gx_nk_at {l : List (Option gx_V)} {i j : Nat} {v : gx_V} (hk : gx_nk l i = true) (hj : j + 1 = i) (h : l[j]? = some (some v)) (ad : Nat → Nat) : ((gx_v ad v).category == 2) = false := by
  subst hj
  have h1 : gx_nl l[j]? = true := hk
  rw [h] at h1
  exact gx_cat h1
theorem gx_st1 {ad : Nat → Nat} {ls' : Array Slot} {nL i : Nat} {l : List (Option gx_V)} {x : gx_V} (hk : gx_nk l i = true) (hi : i < l.length)
    (h : lv_has ls' nL ((i, gx_v ad x) :: (gx_lo ad l).filter (fun q => !(q.1 == i) && !(q.1 + 1 == i && q.2.category == 2)))) : gx_has ad ls' nL (l.set i (some x)) := by
  refine ⟨h.1, h.2.1, fun j v hj => ?_⟩
  by_cases e : j = i
  · subst e
    rw [List.getElem?_set_self hi] at hj
    cases hj
    exact h.2.2 _ List.mem_cons_self
  · rw [List.getElem?_set_ne (fun z => e z.symm)] at hj
    refine h.2.2 (j, gx_v ad v) (List.mem_cons_of_mem _ (List.mem_filter.mpr ⟨gx_lo_in hj, ?_⟩))
    have e1 : (j == i) = false := by simpa using e
    by_cases e2 : j + 1 = i
    · simp only [e1, gx_nk_at hk e2 hj ad]; simp
    · simp [e1, e2]
theorem gx_st2 {ad : Nat → Nat} {ls' : Array Slot} {nL i : Nat} {l : List (Option gx_V)} {x : gx_V} (hk : gx_nk l i = true) (hi : i + 1 < l.length)
    (h : lv_has ls' nL ((i, gx_v ad x) :: (gx_lo ad l).filter (fun q => !(q.1 == i) && (!(q.1 == i + 1) && !(q.1 + 1 == i && q.2.category == 2))))) : gx_has ad ls' nL ((l.set i (some x)).set (i + 1) none) := by
  refine ⟨h.1, h.2.1, fun j v hj => ?_⟩
  by_cases e0 : j = i + 1
  · subst e0
    rw [List.getElem?_set_self (by simpa using hi)] at hj
    cases hj
  · rw [List.getElem?_set_ne (fun z => e0 z.symm)] at hj
    by_cases e : j = i
    · subst e
      rw [List.getElem?_set_self (by omega)] at hj
      cases hj
      exact h.2.2 _ List.mem_cons_self
    · rw [List.getElem?_set_ne (fun z => e z.symm)] at hj
      refine h.2.2 (j, gx_v ad v) (List.mem_cons_of_mem _ (List.mem_filter.mpr ⟨gx_lo_in hj, ?_⟩))
      have e1 : (j == i) = false := by simpa using e
      have e3 : (j == i + 1) = false := by simpa using e0
      by_cases e2 : j + 1 = i
      · simp only [e1, e3, gx_nk_at hk e2 hj ad]; simp
      · simp [e1, e3, e2]
theorem gx_mem_set {l : List (Option gx_V)} {i : Nat} {x : gx_V} {n : Nat} (hl : ∀ v, some v ∈ l → gx_vl n v) (hx : gx_vl n x) : ∀ v, some v ∈ l.set i (some x) → gx_vl n v := fun v hv => by
  rcases List.mem_or_eq_of_mem_set hv with h | h
  · exact hl v h
  · cases h; exact hx
theorem gx_mem_set0 {l : List (Option gx_V)} {i : Nat} {n : Nat} (hl : ∀ v, some v ∈ l → gx_vl n v) : ∀ v, some v ∈ l.set i none → gx_vl n v := fun v hv => by
  rcases List.mem_or_eq_of_mem_set hv with h | h
  · exact hl v h
  · cases h
section GXT
variable {M : gx_M} {u : Nat × Nat} {pc : Nat} {l : List (Option gx_V)} {st : List gx_V} {h : gx_H} {res : Option (Int × gx_H)}
theorem gx_istore_n {l' : List (Option gx_V)} {i : Fin 4} {a : Int} (hd : decode M.2.1 pc = .ok (.istore_n i, 1)) (hk : gx_nk l i = true) (hi : (i : Nat) < l.length) (hn : (i : Nat) < M.2.2.1) (hl' : l.set i (some (gx_I a)) = l') (k : gx_Y M u (pc + 1) l' st h res) : gx_Y M u pc l (gx_I a :: st) h res := by
  subst hl'
  intro r h' hr p la e s m args below meth c D cA ad0 n0 A ad ls H locs E B hs hl hh
  exact lv_istore_n E.1 E.2.1 hd rfl (gx_lo_has hh) hn rfl (fun ls' hl' => k r h' hr p la e s m args below meth c D cA ad0 n0 A ad ls' H locs E B (gx_t1 hs) (gx_mem_set hl trivial) (gx_st1 hk hi hl'))
theorem gx_istore {l' : List (Option gx_V)} {i : Nat} {a : Int} (hd : decode M.2.1 pc = .ok (.istore i, 2)) (hk : gx_nk l i = true) (hi : i < l.length) (hn : i < M.2.2.1) (hl' : l.set i (some (gx_I a)) = l') (k : gx_Y M u (pc + 2) l' st h res) : gx_Y M u pc l (gx_I a :: st) h res := by
  subst hl'
  intro r h' hr p la e s m args below meth c D cA ad0 n0 A ad ls H locs E B hs hl hh
  exact lv_istore E.1 E.2.1 hd (gx_lo_has hh) hn rfl (fun ls' hl' => k r h' hr p la e s m args below meth c D cA ad0 n0 A ad ls' H locs E B (gx_t1 hs) (gx_mem_set hl trivial) (gx_st1 hk hi hl'))
theorem gx_astore_n {l' : List (Option gx_V)} {i : Fin 4} {o : Nat} (hd : decode M.2.1 pc = .ok (.astore_n i, 1)) (hk : gx_nk l i = true) (hi : (i : Nat) < l.length) (hn : (i : Nat) < M.2.2.1) (hl' : l.set i (some (gx_R o)) = l') (k : gx_Y M u (pc + 1) l' st h res) : gx_Y M u pc l (gx_R o :: st) h res := by
  subst hl'
  intro r h' hr p la e s m args below meth c D cA ad0 n0 A ad ls H locs E B hs hl hh
  exact lv_astore_n E.1 E.2.1 hd rfl (gx_lo_has hh) hn rfl (fun ls' hl' => k r h' hr p la e s m args below meth c D cA ad0 n0 A ad ls' H locs E B (gx_t1 hs) (gx_mem_set hl (List.forall_mem_cons.mp hs).1) (gx_st1 hk hi hl'))
theorem gx_astore {l' : List (Option gx_V)} {i : Nat} {o : Nat} (hd : decode M.2.1 pc = .ok (.astore i, 2)) (hk : gx_nk l i = true) (hi : i < l.length) (hn : i < M.2.2.1) (hl' : l.set i (some (gx_R o)) = l') (k : gx_Y M u (pc + 2) l' st h res) : gx_Y M u pc l (gx_R o :: st) h res := by
  subst hl'
  intro r h' hr p la e s m args below meth c D cA ad0 n0 A ad ls H locs E B hs hl hh
  exact lv_astore E.1 E.2.1 hd (gx_lo_has hh) hn rfl (fun ls' hl' => k r h' hr p la e s m args below meth c D cA ad0 n0 A ad ls' H locs E B (gx_t1 hs) (gx_mem_set hl (List.forall_mem_cons.mp hs).1) (gx_st1 hk hi hl'))
theorem gx_lstore_n {l' : List (Option gx_V)} {i : Fin 4} {a : Int} (hd : decode M.2.1 pc = .ok (.lstore_n i, 1)) (hk : gx_nk l i = true) (hi : (i : Nat) + 1 < l.length) (hn : (i : Nat) + 1 < M.2.2.1) (hl' : (l.set i (some (gx_L a))).set ((i : Nat) + 1) none = l') (k : gx_Y M u (pc + 1) l' st h res) : gx_Y M u pc l (gx_L a :: st) h res := by
  subst hl'
  intro r h' hr p la e s m args below meth c D cA ad0 n0 A ad ls H locs E B hs hl hh
  exact lv_lstore_n E.1 E.2.1 hd rfl (gx_lo_has hh) hn rfl (fun ls' hl' => k r h' hr p la e s m args below meth c D cA ad0 n0 A ad ls' H locs E B (gx_t1 hs) (gx_mem_set0 (gx_mem_set hl trivial)) (gx_st2 hk hi hl'))
theorem gx_lstore {l' : List (Option gx_V)} {i : Nat} {a : Int} (hd : decode M.2.1 pc = .ok (.lstore i, 2)) (hk : gx_nk l i = true) (hi : i + 1 < l.length) (hn : i + 1 < M.2.2.1) (hl' : (l.set i (some (gx_L a))).set (i + 1) none = l') (k : gx_Y M u (pc + 2) l' st h res) : gx_Y M u pc l (gx_L a :: st) h res := by
  subst hl'
  intro r h' hr p la e s m args below meth c D cA ad0 n0 A ad ls H locs E B hs hl hh
  exact lv_lstore E.1 E.2.1 hd (gx_lo_has hh) hn rfl (fun ls' hl' => k r h' hr p la e s m args below meth c D cA ad0 n0 A ad ls' H locs E B (gx_t1 hs) (gx_mem_set0 (gx_mem_set hl trivial)) (gx_st2 hk hi hl'))
theorem gx_iinc {l' : List (Option gx_V)} {i : Nat} {n a : Int} (hd : decode M.2.1 pc = .ok (.iinc i n, 3)) (hla : l[i]? = some (some (gx_I a))) (hk : gx_nk l i = true) (hi : i < l.length) (hn : i < M.2.2.1) (hl' : l.set i (some (gx_I (a + n))) = l') (k : gx_Y M u (pc + 3) l' st h res) : gx_Y M u pc l st h res := by
  subst hl'
  intro r h' hr p la e s m args below meth c D cA ad0 n0 A ad ls H locs E B hs hl hh
  obtain ⟨j, hj⟩ := List.getElem?_of_mem (gx_lo_in (ad := ad) hla)
  exact lv_iinc E.1 E.2.1 hd (gx_lo_has hh) hj (Int32.ofInt_add a n).symm hn rfl (fun ls' hl' => k r h' hr p la e s m args below meth c D cA ad0 n0 A ad ls' H locs E B hs (gx_mem_set hl trivial) (gx_st1 hk hi hl'))
theorem gx_lcmp {a b : Int} (ha : gx_l a) (hb : gx_l b) (hd : decode M.2.1 pc = .ok (.lcmp, 1)) (k : gx_Y M u (pc + 1) l (gx_I (gq_cmp a b) :: st) h res) : gx_Y M u pc l (gx_L b :: gx_L a :: st) h res :=
  gx_pure k (fun _ hs _ => gx_c2 hs trivial) (fun _ _ _ _ _ _ _ _ _ _ _ _ _ _ E _ w => W.lcmp E.1 E.2.1 hd (by
    have e : lg_cmp (Int64.ofInt a) (Int64.ofInt b) = Int32.ofInt (gq_cmp a b) := by
      unfold lg_cmp gq_cmp
      by_cases h1 : a < b
      · rw [if_pos h1, if_neg (fun z => by have := (gx_ltL hb ha).mp z; omega), if_neg (fun z => by have := (gx_eL ha hb).mp z; omega)]; rfl
      · by_cases h2 : a = b
        · subst h2
          simp
        · rw [if_neg h1, if_neg h2, if_pos ((gx_ltL hb ha).mpr (by omega))]; rfl
    rw [e]; exact w))
end GXT
theorem gx_ok_us {h : gx_H} {o : Nat} {q : gx_K} {f : Nat → Int} (hok : gx_ok h) (hq : h.1[o]? = some q) (hf : ∀ j, j < q.2 → gx_sl h.1.length (gx_ty q j) (f j)) : gx_ok (h.1, gx_us h.2 o f) := by
  intro o' k hk
  refine ⟨(hok o' k hk).1, fun j hj => ?_⟩
  by_cases e : o' = o
  · subst e
    have e2 : k = q := Option.some.inj (hk.symm.trans hq)
    subst e2
    simp only [gx_us, if_pos]
    exact hf j hj
  · simp only [gx_us, if_neg e]
    exact (hok o' k hk).2 j hj
theorem gx_ok_up {h : gx_H} {o i : Nat} {q : gx_K} {v : Int} (hok : gx_ok h) (hq : h.1[o]? = some q) (hv : gx_sl h.1.length (gx_ty q i) v) : gx_ok (h.1, gx_up h.2 o i v) := by
  refine gx_ok_us hok hq (fun j hj => ?_)
  by_cases e : j = i
  · subst e; simp only [gx_u1, if_pos]; exact hv
  · simp only [gx_u1, if_neg e]; exact (hok o q hq).2 j hj
theorem gx_fs_at {ad : Nat → Nat} {ci n k : Nat} {f : Nat → Int} (hk : k < n) : (gx_fs ad ci n f)[k]? = some (gx_f ad (gx_fty ci k) (f k)) := by
  simp [gx_fs, List.getElem?_range hk]
theorem gx_fs_set {ad : Nat → Nat} {ci n k : Nat} {f : Nat → Int} {v : Int} : (gx_fs ad ci n f).set k (gx_f ad (gx_fty ci k) v) = gx_fs ad ci n (gx_u1 f k v) := by
  apply List.ext_getElem?
  intro j
  by_cases hj : j < n
  · rw [gx_fs_at hj]
    by_cases e : j = k
    · subst e
      rw [List.getElem?_set_self (by simpa [gx_fs] using hj)]
      simp [gx_u1]
    · rw [List.getElem?_set_ne (fun z => e z.symm), gx_fs_at hj]
      simp [gx_u1, e]
  · rw [List.getElem?_eq_none (by simp [gx_fs]; omega), List.getElem?_eq_none (by simp [gx_fs]; omega)]
/-! the combinators of the pure texts -/
def gq_get {β : Type} (h : gx_H) (o ci k : Nat) (K : Int → Option β) : Option β := (h.1[o]?).bind (fun q => if q.1 = ci + 3 ∧ k < q.2 then K (h.2 o k) else none)
def gq_gr {β : Type} (h : gx_H) (o ci k : Nat) (K : Nat → Option β) : Option β := (h.1[o]?).bind (fun q => if q.1 = ci + 3 ∧ k < q.2 ∧ 0 ≤ h.2 o k then K (h.2 o k).toNat else none)
def gq_put {β : Type} (c : Prop) [Decidable c] (h : gx_H) (o ci k : Nat) (v : Int) (K : gx_H → Option β) : Option β := (h.1[o]?).bind (fun q => if q.1 = ci + 3 ∧ k < q.2 ∧ c then K (h.1, gx_up h.2 o k v) else none)
def gq_ald {β : Type} (t : Nat) (h : gx_H) (o : Nat) (i : Int) (K : Int → Option β) : Option β := (h.1[o]?).bind (fun q => if q.1 = t ∧ 0 ≤ i ∧ i < (q.2 : Int) then K (h.2 o i.toNat) else none)
def gq_rld {β : Type} (h : gx_H) (o : Nat) (i : Int) (K : Nat → Option β) : Option β := (h.1[o]?).bind (fun q => if q.1 = 2 ∧ 0 ≤ i ∧ i < (q.2 : Int) ∧ 0 ≤ h.2 o i.toNat then K (h.2 o i.toNat).toNat else none)
def gq_ast {β : Type} (t : Nat) (c : Prop) [Decidable c] (h : gx_H) (o : Nat) (i v : Int) (K : gx_H → Option β) : Option β := (h.1[o]?).bind (fun q => if q.1 = t ∧ 0 ≤ i ∧ i < (q.2 : Int) ∧ c then K (h.1, gx_up h.2 o i.toNat v) else none)
theorem gq_m {β γ : Type} {x : Option γ} {f : γ → Option β} {r : β} (h : x.bind f = some r) : ∃ q, x = some q ∧ f q = some r := by
  cases x with
  | none => cases h
  | some q => exact ⟨q, rfl, h⟩
theorem gq_i {β : Type} {c : Prop} [Decidable c] {A : Option β} {r : β} (h : (if c then A else none) = some r) : c ∧ A = some r := by
  by_cases hc : c
  · rw [if_pos hc] at h; exact ⟨hc, h⟩
  · rw [if_neg hc] at h; cases h
theorem gx_in {i : Int} {n : Nat} (h0 : 0 ≤ i) (h1 : i < (n : Int)) (hn : n ≤ 2147483647) : vp_in (Int32.ofInt i) n ∧ (Int32.ofInt i).toNatClampNeg = i.toNat := by
  refine ⟨vp_in_iff.mpr ?_, Int32.toNatClampNeg_ofInt_of_le (by omega) (by omega)⟩
  rw [Int32.toInt_ofInt_of_le (by omega) (by omega)]
  exact ⟨h0, h1⟩
section GXH
variable {M : gx_M} {u : Nat × Nat} {pc : Nat} {l : List (Option gx_V)} {st : List gx_V} {h : gx_H} {res : Option (Int × gx_H)} {ci k ix o : Nat} {C : String} {T : u_T} {N : Nat} {ty : Nat → FieldType}
theorem gx_getg {n : Nat} {w : gx_V} (hq : h.1[o]? = some (ci + 3, n)) (hkn : k < n) (hN : k < N) (g : gx_CL ci C T N ty) (hl : Cond.fieldLink M.1.cls ix C (T k).2.1 (T k).2.2.1 ∈ lw_tbl) (hd : decode M.2.1 pc = .ok (.getfield ix, 3))
    (hw : ∀ ad, gx_f ad (gx_fty ci k) (h.2 o k) = gx_v ad w) (hv : gx_ok h → gx_vl h.1.length w) (kk : gx_Y M u (pc + 3) l (w :: st) h res) : gx_Y M u pc l (gx_R o :: st) h res := by
  intro r h' hr p la e s m args below meth c D cA ad0 n0 A ad ls H locs E B hs hlo hh
  have hat : (gx_W cA ad h)[o]? = some (ad o, .inr (ci, gx_fs ad ci n (h.2 o))) := gx_W_at hq
  refine va_get E.1 E.2.1 E.2.2.2.2.1 g.2.1 E.2.2.2.1 B.1.1 B.2.2.2.2.1 o hat g.1 k hN (E.2.2.2.2.1 _ (gx_gd hl rfl)) (fun _ z => by rw [g.2.2.2.2.2 k hN] at z; exact z) (gx_fs_at hkn) hd ?_
  rw [hw ad]
  exact kk r h' hr p la e s m args below meth c D cA ad0 n0 A ad ls H locs E B (gx_c1 hs (hv B.2.2.2.1)) hlo hh
theorem gx_get {K : Int → Option (Int × gx_H)} (g : gx_CL ci C T N ty) (hN : k < N) (hl : Cond.fieldLink M.1.cls ix C (T k).2.1 (T k).2.2.1 ∈ lw_tbl) (ht : gx_fty ci k = 0 ∨ gx_fty ci k = 1) (hd : decode M.2.1 pc = .ok (.getfield ix, 3)) (kk : gx_Y M u (pc + 3) l (gx_I (h.2 o k) :: st) h (K (h.2 o k))) : gx_Y M u pc l (gx_R o :: st) h (gq_get h o ci k K) := by
  intro r h' hr
  obtain ⟨⟨t, n⟩, hq, hr1⟩ := gq_m hr
  obtain ⟨⟨rfl, hkn⟩, hr2⟩ := gq_i hr1
  exact gx_getg (w := gx_I (h.2 o k)) hq hkn hN g hl hd (fun ad => by rcases ht with e | e <;> rw [e] <;> rfl) (fun _ => trivial) kk r h' hr2
theorem gx_getl {K : Int → Option (Int × gx_H)} (g : gx_CL ci C T N ty) (hN : k < N) (hl : Cond.fieldLink M.1.cls ix C (T k).2.1 (T k).2.2.1 ∈ lw_tbl) (ht : gx_fty ci k = 2) (hd : decode M.2.1 pc = .ok (.getfield ix, 3)) (kk : gx_Y M u (pc + 3) l (gx_L (h.2 o k) :: st) h (K (h.2 o k))) : gx_Y M u pc l (gx_R o :: st) h (gq_get h o ci k K) := by
  intro r h' hr
  obtain ⟨⟨t, n⟩, hq, hr1⟩ := gq_m hr
  obtain ⟨⟨rfl, hkn⟩, hr2⟩ := gq_i hr1
  exact gx_getg (w := gx_L (h.2 o k)) hq hkn hN g hl hd (fun ad => by rw [ht]; rfl) (fun _ => trivial) kk r h' hr2
theorem gx_getr {K : Nat → Option (Int × gx_H)} (g : gx_CL ci C T N ty) (hN : k < N) (hl : Cond.fieldLink M.1.cls ix C (T k).2.1 (T k).2.2.1 ∈ lw_tbl) (ht : gx_fty ci k = 3) (hd : decode M.2.1 pc = .ok (.getfield ix, 3)) (kk : gx_Y M u (pc + 3) l (gx_R (h.2 o k).toNat :: st) h (K (h.2 o k).toNat)) : gx_Y M u pc l (gx_R o :: st) h (gq_gr h o ci k K) := by
  intro r h' hr
  obtain ⟨⟨t, n⟩, hq, hr1⟩ := gq_m hr
  obtain ⟨⟨rfl, hkn, h0⟩, hr2⟩ := gq_i hr1
  refine gx_getg (w := gx_R (h.2 o k).toNat) hq hkn hN g hl hd (fun ad => ?_) (fun hok => ?_) kk r h' hr2
  · rw [ht]
    show (if h.2 o k < 0 then Value.null else .ref (ad (h.2 o k).toNat)) = _
    rw [if_neg (by omega)]; rfl
  · have h1 := (hok o _ hq).2 k hkn
    have e : gx_ty (ci + 3, n) k = 3 := ht
    rw [e] at h1
    have h2 : h.2 o k < (h.1.length : Int) := h1
    show (h.2 o k).toNat < h.1.length
    omega
theorem gx_fit {ty : FieldType} {t n : Nat} {v : Int} {ad : Nat → Nat} (h : gx_tyok t ty) (hs : gx_sl n t v) : narrow ty (gx_f ad t v) = gx_f ad t v ∧ fits ty (gx_f ad t v) = true := by
  match t with
  | 0 => cases h; exact ⟨rfl, rfl⟩
  | 1 =>
    cases h
    rcases hs with e | e <;> subst e <;> exact ⟨by rfl, by rfl⟩
  | 2 => cases h; exact ⟨rfl, rfl⟩
  | t + 3 =>
    show narrow ty (if v < 0 then Value.null else .ref (ad v.toNat)) = (if v < 0 then Value.null else .ref (ad v.toNat)) ∧ fits ty (if v < 0 then Value.null else .ref (ad v.toNat)) = true
    rcases h with ⟨_, rfl⟩ | ⟨_, rfl⟩ <;> split <;> exact ⟨rfl, rfl⟩
theorem gx_putg {n : Nat} {w : gx_V} {v : Int} (hq : h.1[o]? = some (ci + 3, n)) (hkn : k < n) (hN : k < N) (g : gx_CL ci C T N ty) (hl : Cond.fieldLink M.1.cls ix C (T k).2.1 (T k).2.2.1 ∈ lw_tbl) (hf : (T k).2.2.2 = false) (hd : decode M.2.1 pc = .ok (.putfield ix, 3))
    (hw : ∀ ad, gx_v ad w = gx_f ad (gx_fty ci k) v) (hv : gx_vl h.1.length w → gx_sl h.1.length (gx_fty ci k) v) (kk : gx_Y M u (pc + 3) l st (h.1, gx_up h.2 o k v) res) : gx_Y M u pc l (w :: gx_R o :: st) h res := by
  intro r h' hr p la e s m args below meth c D cA ad0 n0 A ad ls H locs E B hs hlo hh
  have hat : (gx_W cA ad h)[o]? = some (ad o, .inr (ci, gx_fs ad ci n (h.2 o))) := gx_W_at hq
  have hsl := hv (List.forall_mem_cons.mp hs).1
  have hfit := gx_fit (ad := ad) (g.2.2.2.2.1 k hN) hsl
  show W _ _ _ _ _ _ _ _ _ _ _ _ _ _ _ (F0 m pc ls (gx_v ad w :: .ref (ad o) :: st.map (gx_v ad)))
  rw [hw ad]
  refine va_put E.1 E.2.1 E.2.2.2.2.1 g.2.1 ty g.2.2.1 g.2.2.2.1 E.2.2.2.1 B.1.1 B.2.2.2.2.1 B.2.2.2.2.2.1 B.2.2.2.2.2.2 o hat g.1 k hN (E.2.2.2.2.1 _ (gx_gd hl rfl)) (fun _ z => by rw [g.2.2.2.2.2 k hN] at z; exact z) hf (g.2.2.1 k hN) hfit.1 hfit.2 (by simpa [gx_fs] using hkn) hd (fun H1 locs1 hP hD hS => ?_)
  rw [gx_fs_set] at hP hD
  have e2 := gx_W_set (cA := cA) (ad := ad) hq (gx_u1 (h.2 o) k v)
  have hP1 : va_P D gx_cls (gx_W cA ad (h.1, gx_up h.2 o k v)) H1 := by rw [gx_up, ← e2]; exact hP
  have hD1 : va_D A (gx_W cA ad (h.1, gx_up h.2 o k v)) := by rw [gx_up, ← e2]; exact hD
  exact kk r h' hr p la e s m args below meth c D cA ad0 n0 A ad ls H1 locs1 E ⟨B.1, B.2.1, B.2.2.1, gx_ok_up B.2.2.2.1 hq hsl, hP1, hD1, hS⟩ (gx_t2 hs) hlo hh
theorem gx_putF {n : Nat} {w : gx_V} {v : Int} (hq : h.1[o]? = some (ci + 3, n)) (hkn : k < n) (hN : k < N) (g : gx_CL ci C T N ty) (hl : Cond.fieldLink M.1.cls ix C (T k).2.1 (T k).2.2.1 ∈ lw_tbl) (hf : (T k).2.2.2 = true) (hnm : M.1.name = "<init>") (hC : M.1.cls = C) (hd : decode M.2.1 pc = .ok (.putfield ix, 3))
    (hw : ∀ ad, gx_v ad w = gx_f ad (gx_fty ci k) v) (hv : gx_vl h.1.length w → gx_sl h.1.length (gx_fty ci k) v) (kk : gx_Y M u (pc + 3) l st (h.1, gx_up h.2 o k v) res) : gx_Y M u pc l (w :: gx_R o :: st) h res := by
  intro r h' hr p la e s m args below meth c D cA ad0 n0 A ad ls H locs E B hs hlo hh
  have hat : (gx_W cA ad h)[o]? = some (ad o, .inr (ci, gx_fs ad ci n (h.2 o))) := gx_W_at hq
  have hsl := hv (List.forall_mem_cons.mp hs).1
  have hfit := gx_fit (ad := ad) (g.2.2.2.2.1 k hN) hsl
  show W _ _ _ _ _ _ _ _ _ _ _ _ _ _ _ (F0 m pc ls (gx_v ad w :: .ref (ad o) :: st.map (gx_v ad)))
  rw [hw ad]
  refine va_putF E.1 E.2.1 E.2.2.2.2.1 g.2.1 ty g.2.2.1 g.2.2.2.1 E.2.2.2.1 B.1.1 B.2.2.2.2.1 B.2.2.2.2.2.1 B.2.2.2.2.2.2 o hat g.1 k hN (E.2.2.2.2.1 _ (gx_gd hl rfl)) (fun _ z => by rw [g.2.2.2.2.2 k hN] at z; exact z) hf (E.2.2.2.2.2.2.2.trans hnm) ((g.2.2.2.2.2 k hN).trans hC.symm) (g.2.2.1 k hN) hfit.1 hfit.2 (by simpa [gx_fs] using hkn) hd (fun H1 locs1 hP hD hS => ?_)
  rw [gx_fs_set] at hP hD
  have e2 := gx_W_set (cA := cA) (ad := ad) hq (gx_u1 (h.2 o) k v)
  have hP1 : va_P D gx_cls (gx_W cA ad (h.1, gx_up h.2 o k v)) H1 := by rw [gx_up, ← e2]; exact hP
  have hD1 : va_D A (gx_W cA ad (h.1, gx_up h.2 o k v)) := by rw [gx_up, ← e2]; exact hD
  exact kk r h' hr p la e s m args below meth c D cA ad0 n0 A ad ls H1 locs1 E ⟨B.1, B.2.1, B.2.2.1, gx_ok_up B.2.2.2.1 hq hsl, hP1, hD1, hS⟩ (gx_t2 hs) hlo hh
theorem gx_puti {a : Int} {K : gx_H → Option (Int × gx_H)} (g : gx_CL ci C T N ty) (hN : k < N) (hl : Cond.fieldLink M.1.cls ix C (T k).2.1 (T k).2.2.1 ∈ lw_tbl) (hf : (T k).2.2.2 = false) (ht : gx_fty ci k = 0) (hd : decode M.2.1 pc = .ok (.putfield ix, 3)) (kk : gx_Y M u (pc + 3) l st (h.1, gx_up h.2 o k a) (K (h.1, gx_up h.2 o k a))) : gx_Y M u pc l (gx_I a :: gx_R o :: st) h (gq_put (gx_i a) h o ci k a K) := by
  intro r h' hr
  obtain ⟨⟨t, n⟩, hq, hr1⟩ := gq_m hr
  obtain ⟨⟨rfl, hkn, hc⟩, hr2⟩ := gq_i hr1
  exact gx_putg (v := a) hq hkn hN g hl hf hd (fun ad => by rw [ht]; rfl) (fun _ => by rw [ht]; exact hc) kk r h' hr2
theorem gx_putz {a : Int} {K : gx_H → Option (Int × gx_H)} (g : gx_CL ci C T N ty) (hN : k < N) (hl : Cond.fieldLink M.1.cls ix C (T k).2.1 (T k).2.2.1 ∈ lw_tbl) (hf : (T k).2.2.2 = false) (ht : gx_fty ci k = 1) (hd : decode M.2.1 pc = .ok (.putfield ix, 3)) (kk : gx_Y M u (pc + 3) l st (h.1, gx_up h.2 o k a) (K (h.1, gx_up h.2 o k a))) : gx_Y M u pc l (gx_I a :: gx_R o :: st) h (gq_put (a = 0 ∨ a = 1) h o ci k a K) := by
  intro r h' hr
  obtain ⟨⟨t, n⟩, hq, hr1⟩ := gq_m hr
  obtain ⟨⟨rfl, hkn, hc⟩, hr2⟩ := gq_i hr1
  exact gx_putg (v := a) hq hkn hN g hl hf hd (fun ad => by rw [ht]; rfl) (fun _ => by rw [ht]; exact hc) kk r h' hr2
theorem gx_putl {a : Int} {K : gx_H → Option (Int × gx_H)} (g : gx_CL ci C T N ty) (hN : k < N) (hl : Cond.fieldLink M.1.cls ix C (T k).2.1 (T k).2.2.1 ∈ lw_tbl) (hf : (T k).2.2.2 = false) (ht : gx_fty ci k = 2) (hd : decode M.2.1 pc = .ok (.putfield ix, 3)) (kk : gx_Y M u (pc + 3) l st (h.1, gx_up h.2 o k a) (K (h.1, gx_up h.2 o k a))) : gx_Y M u pc l (gx_L a :: gx_R o :: st) h (gq_put (gx_l a) h o ci k a K) := by
  intro r h' hr
  obtain ⟨⟨t, n⟩, hq, hr1⟩ := gq_m hr
  obtain ⟨⟨rfl, hkn, hc⟩, hr2⟩ := gq_i hr1
  exact gx_putg (v := a) hq hkn hN g hl hf hd (fun ad => by rw [ht]; rfl) (fun _ => by rw [ht]; exact hc) kk r h' hr2
theorem gx_fref {ad : Nat → Nat} {o : Nat} : gx_v ad (gx_R o) = gx_f ad 3 (o : Int) := by
  show Value.ref (ad o) = if (o : Int) < 0 then Value.null else .ref (ad (o : Int).toNat)
  rw [if_neg (by omega)]; rfl
theorem gx_putr {b : Nat} {K : gx_H → Option (Int × gx_H)} (g : gx_CL ci C T N ty) (hN : k < N) (hl : Cond.fieldLink M.1.cls ix C (T k).2.1 (T k).2.2.1 ∈ lw_tbl) (hf : (T k).2.2.2 = false) (ht : gx_fty ci k = 3) (hd : decode M.2.1 pc = .ok (.putfield ix, 3)) (kk : gx_Y M u (pc + 3) l st (h.1, gx_up h.2 o k (b : Int)) (K (h.1, gx_up h.2 o k (b : Int)))) : gx_Y M u pc l (gx_R b :: gx_R o :: st) h (gq_put True h o ci k (b : Int) K) := by
  intro r h' hr
  obtain ⟨⟨t, n⟩, hq, hr1⟩ := gq_m hr
  obtain ⟨⟨rfl, hkn, -⟩, hr2⟩ := gq_i hr1
  exact gx_putg (v := (b : Int)) hq hkn hN g hl hf hd (fun ad => by rw [ht]; exact gx_fref) (fun hb => by rw [ht]; show (b : Int) < _; have : b < h.1.length := hb; omega) kk r h' hr2
end GXH
end
section
/-! rows: arrays, library calls, returns, calls, the entry -/
section GXA
variable {M : gx_M} {u : Nat × Nat} {pc : Nat} {l : List (Option gx_V)} {st : List gx_V} {h : gx_H} {o : Nat} {i : Int}
theorem gx_iald {K : Int → Option (Int × gx_H)} (hd : decode M.2.1 pc = .ok (.iaload, 1)) (kk : gx_Y M u (pc + 1) l (gx_I (h.2 o i.toNat) :: st) h (K (h.2 o i.toNat))) : gx_Y M u pc l (gx_I i :: gx_R o :: st) h (gq_ald 0 h o i K) := by
  intro r h' hr p la e s m args below meth c D cA ad0 n0 A ad ls H locs E B hs hlo hh
  obtain ⟨⟨t, n⟩, hq, hr1⟩ := gq_m hr
  obtain ⟨⟨rfl, h0, h1⟩, hr2⟩ := gq_i hr1
  have hat : (gx_W cA ad h)[o]? = some (ad o, .inl (cA 0, n, .inl (fun j => Int32.ofInt (h.2 o j)))) := gx_W_at hq
  obtain ⟨hin, hc⟩ := gx_in h0 h1 (B.2.2.2.1 o _ hq).1
  refine va_iald E.1 E.2.1 B.1.1 B.2.2.2.2.1 o 0 hat rfl hin hd ?_
  rw [hc]
  exact kk r h' hr2 p la e s m args below meth c D cA ad0 n0 A ad ls H locs E B (gx_c2 hs trivial) hlo hh
theorem gx_zald {K : Int → Option (Int × gx_H)} (hd : decode M.2.1 pc = .ok (.baload, 1)) (kk : gx_Y M u (pc + 1) l (gx_I (h.2 o i.toNat) :: st) h (K (h.2 o i.toNat))) : gx_Y M u pc l (gx_I i :: gx_R o :: st) h (gq_ald 1 h o i K) := by
  intro r h' hr p la e s m args below meth c D cA ad0 n0 A ad ls H locs E B hs hlo hh
  obtain ⟨⟨t, n⟩, hq, hr1⟩ := gq_m hr
  obtain ⟨⟨rfl, h0, h1⟩, hr2⟩ := gq_i hr1
  have hat : (gx_W cA ad h)[o]? = some (ad o, .inl (cA 1, n, .inl (fun j => Int32.ofInt (h.2 o j)))) := gx_W_at hq
  obtain ⟨hin, hc⟩ := gx_in h0 h1 (B.2.2.2.1 o _ hq).1
  refine va_zald E.1 E.2.1 B.1.1 B.2.2.2.2.1 o 1 hat rfl hin hd ?_
  rw [hc]
  exact kk r h' hr2 p la e s m args below meth c D cA ad0 n0 A ad ls H locs E B (gx_c2 hs trivial) hlo hh
theorem gx_aald {K : Nat → Option (Int × gx_H)} (hd : decode M.2.1 pc = .ok (.aaload, 1)) (kk : gx_Y M u (pc + 1) l (gx_R (h.2 o i.toNat).toNat :: st) h (K (h.2 o i.toNat).toNat)) : gx_Y M u pc l (gx_I i :: gx_R o :: st) h (gq_rld h o i K) := by
  intro r h' hr p la e s m args below meth c D cA ad0 n0 A ad ls H locs E B hs hlo hh
  obtain ⟨⟨t, n⟩, hq, hr1⟩ := gq_m hr
  obtain ⟨⟨rfl, h0, h1, h2⟩, hr2⟩ := gq_i hr1
  have h1 : i < (n : Int) := h1
  have hat : (gx_W cA ad h)[o]? = some (ad o, .inl (cA 2, n, .inr (.inr (.inr (.inr (gx_rf ad n (h.2 o))))))) := gx_W_at hq
  obtain ⟨hin, hc⟩ := gx_in h0 h1 (B.2.2.2.1 o _ hq).1
  refine va_aldq E.1 E.2.1 B.1.1 B.2.2.2.2.1 o 2 hat rfl hin hd ?_
  have hlt : h.2 o i.toNat < (h.1.length : Int) := (B.2.2.2.1 o _ hq).2 i.toNat (show i.toNat < n by omega)
  have e1 : va_rf (gx_rf ad n (h.2 o) (Int32.ofInt i).toNatClampNeg) = gx_v ad (gx_R (h.2 o i.toNat).toNat) := by
    rw [hc]
    unfold gx_rf
    rw [if_pos (by omega), if_neg (by omega)]
    rfl
  rw [e1]
  exact kk r h' hr2 p la e s m args below meth c D cA ad0 n0 A ad ls H locs E B (gx_c2 hs (show (h.2 o i.toNat).toNat < h.1.length by omega)) hlo hh
theorem gx_upd32 (f : Nat → Int) (i : Nat) (v : Int) : upd (fun j => Int32.ofInt (f j)) i (Int32.ofInt v) = fun j => Int32.ofInt (gx_u1 f i v j) := by
  funext j
  unfold upd gx_u1
  by_cases e : j = i
  · rw [if_pos e, if_pos e]
  · rw [if_neg e, if_neg e]
theorem gx_iast {v : Int} {K : gx_H → Option (Int × gx_H)} (hd : decode M.2.1 pc = .ok (.iastore, 1)) (kk : gx_Y M u (pc + 1) l st (h.1, gx_up h.2 o i.toNat v) (K (h.1, gx_up h.2 o i.toNat v))) : gx_Y M u pc l (gx_I v :: gx_I i :: gx_R o :: st) h (gq_ast 0 (gx_i v) h o i v K) := by
  intro r h' hr p la e s m args below meth c D cA ad0 n0 A ad ls H locs E B hs hlo hh
  obtain ⟨⟨t, n⟩, hq, hr1⟩ := gq_m hr
  obtain ⟨⟨rfl, h0, h1, h2⟩, hr2⟩ := gq_i hr1
  have hat : (gx_W cA ad h)[o]? = some (ad o, .inl (cA 0, n, .inl (fun j => Int32.ofInt (h.2 o j)))) := gx_W_at hq
  obtain ⟨hin, hc⟩ := gx_in h0 h1 (B.2.2.2.1 o _ hq).1
  refine va_iast E.1 E.2.1 B.1.1 B.2.2.2.2.1 B.2.2.2.2.2.1 B.2.2.2.2.2.2 o 0 hat rfl hin hd (fun H1 locs1 hP hD hS => ?_)
  rw [hc, gx_upd32] at hP hD
  have e2 := gx_W_set (cA := cA) (ad := ad) hq (gx_u1 (h.2 o) i.toNat v)
  have hP1 : va_P D gx_cls (gx_W cA ad (h.1, gx_up h.2 o i.toNat v)) H1 := by rw [gx_up, ← e2]; exact hP
  have hD1 : va_D A (gx_W cA ad (h.1, gx_up h.2 o i.toNat v)) := by rw [gx_up, ← e2]; exact hD
  exact kk r h' hr2 p la e s m args below meth c D cA ad0 n0 A ad ls H1 locs1 E ⟨B.1, B.2.1, B.2.2.1, gx_ok_up B.2.2.2.1 hq h2, hP1, hD1, hS⟩ (gx_t1 (gx_t2 hs)) hlo hh
theorem gx_zast {v : Int} {K : gx_H → Option (Int × gx_H)} (hd : decode M.2.1 pc = .ok (.bastore, 1)) (kk : gx_Y M u (pc + 1) l st (h.1, gx_up h.2 o i.toNat v) (K (h.1, gx_up h.2 o i.toNat v))) : gx_Y M u pc l (gx_I v :: gx_I i :: gx_R o :: st) h (gq_ast 1 (v = 0 ∨ v = 1) h o i v K) := by
  intro r h' hr p la e s m args below meth c D cA ad0 n0 A ad ls H locs E B hs hlo hh
  obtain ⟨⟨t, n⟩, hq, hr1⟩ := gq_m hr
  obtain ⟨⟨rfl, h0, h1, h2⟩, hr2⟩ := gq_i hr1
  have hat : (gx_W cA ad h)[o]? = some (ad o, .inl (cA 1, n, .inl (fun j => Int32.ofInt (h.2 o j)))) := gx_W_at hq
  obtain ⟨hin, hc⟩ := gx_in h0 h1 (B.2.2.2.1 o _ hq).1
  refine va_zast E.1 E.2.1 B.1.1 B.2.2.2.2.1 B.2.2.2.2.2.1 B.2.2.2.2.2.2 o 1 hat rfl hin hd (fun H1 locs1 hP hD hS => ?_)
  have e0 : vp_nar .boolean (Int32.ofInt v) = Int32.ofInt v := by rcases h2 with e | e <;> subst e <;> rfl
  rw [hc, e0, gx_upd32] at hP hD
  have e2 := gx_W_set (cA := cA) (ad := ad) hq (gx_u1 (h.2 o) i.toNat v)
  have hP1 : va_P D gx_cls (gx_W cA ad (h.1, gx_up h.2 o i.toNat v)) H1 := by rw [gx_up, ← e2]; exact hP
  have hD1 : va_D A (gx_W cA ad (h.1, gx_up h.2 o i.toNat v)) := by rw [gx_up, ← e2]; exact hD
  exact kk r h' hr2 p la e s m args below meth c D cA ad0 n0 A ad ls H1 locs1 E ⟨B.1, B.2.1, B.2.2.1, gx_ok_up B.2.2.2.1 hq h2, hP1, hD1, hS⟩ (gx_t1 (gx_t2 hs)) hlo hh
end GXA
def gx_cpy (f g : Nat → Int) (sp dp n : Nat) : Nat → Int := fun k => if dp ≤ k ∧ k < dp + n then f (sp + (k - dp)) else g k
def gq_copy {β : Type} (h : gx_H) (src : Nat) (sp : Int) (dst : Nat) (dp n : Int) (K : gx_H → Option β) : Option β := (h.1[src]?).bind (fun q0 => (h.1[dst]?).bind (fun q1 => if q0.1 = 0 ∧ q1.1 = 0 ∧ 0 ≤ sp ∧ 0 ≤ dp ∧ 0 ≤ n ∧ sp + n ≤ (q0.2 : Int) ∧ dp + n ≤ (q1.2 : Int) then K (h.1, gx_us h.2 dst (gx_cpy (h.2 src) (h.2 dst) sp.toNat dp.toNat n.toNat)) else none))
def gx_ct (v : gx_V) : Nat := match v with
  | .inr (.inl _) => 2
  | _ => 1
def gx_cs (st : List gx_V) : Nat := (st.map gx_ct).sum
theorem gx_cs_eq (ad : Nat → Nat) (st : List gx_V) : ((st.map (gx_v ad)).map fun v => v.category).sum = gx_cs st := by
  induction st with
  | nil => rfl
  | cons v t ih =>
    simp only [List.map_cons, List.sum_cons, gx_cs] at ih ⊢
    rw [ih]
    match v with
    | .inl _ => rfl
    | .inr (.inl _) => rfl
    | .inr (.inr _) => rfl
theorem nw_copy_native : Cond.native arraycopyName ∈ lw_tbl := by decide +kernel
theorem nw_copy_static : Cond.static arraycopyName ∈ lw_tbl := by decide +kernel
theorem nw_copy_init : Cond.initialized "java/lang/System" ∈ lw_tbl := by decide +kernel
theorem nw_max_static : Cond.static Lib.Math.max.name ∈ lw_tbl := by decide +kernel
theorem nw_min_static : Cond.static Lib.Math.min.name ∈ lw_tbl := by decide +kernel
theorem nw_math_init : Cond.initialized "java/lang/Math" ∈ lw_tbl := by decide +kernel
theorem nw_max_code : Cond.code Lib.Math.max.name Lib.Math.max.code 2 (some .int) ∈ lw_tbl := by decide +kernel
theorem nw_min_code : Cond.code Lib.Math.min.name Lib.Math.min.code 2 (some .int) ∈ lw_tbl := by decide +kernel
theorem nw_obj_inst : Cond.instanceMethod Lib.objectInit ∈ lw_tbl := by decide +kernel
theorem nw_obj_code : Cond.code Lib.objectInit ⟨#[0xb1]⟩ 1 none ∈ lw_tbl := by decide +kernel
theorem gx_nn {i : Int} (h0 : 0 ≤ i) (h1 : i ≤ 2147483647) : ¬ Int32.ofInt i < 0 ∧ (Int32.ofInt i).toNatClampNeg = i.toNat := by
  refine ⟨fun z => ?_, Int32.toNatClampNeg_ofInt_of_le (by omega) (by omega)⟩
  have := (gx_ltI (a := i) (b := 0) ⟨by omega, by omega⟩ gx_i0).mp z
  omega
section GXL
variable {M : gx_M} {u : Nat × Nat} {pc : Nat} {l : List (Option gx_V)} {st : List gx_V} {h : gx_H} {res : Option (Int × gx_H)}
theorem gx_copy {src dst ix : Nat} {sp dp n : Int} {K : gx_H → Option (Int × gx_H)} (hl : Cond.methodLink M.1.cls ix arraycopyName ∈ lw_tbl) (hf : 1 ≤ M.2.2.2.2.1.frames) (hlo : gx_cs st + 18 ≤ M.2.2.2.2.1.locals) (hd : decode M.2.1 pc = .ok (.invokestatic ix, 3))
    (kk : gx_Y M u (pc + 3) l st (h.1, gx_us h.2 dst (gx_cpy (h.2 src) (h.2 dst) sp.toNat dp.toNat n.toNat)) (K (h.1, gx_us h.2 dst (gx_cpy (h.2 src) (h.2 dst) sp.toNat dp.toNat n.toNat)))) : gx_Y M u pc l (gx_I n :: gx_I dp :: gx_R dst :: gx_I sp :: gx_R src :: st) h (gq_copy h src sp dst dp n K) := by
  intro r h' hr p la e s m args below meth c D cA ad0 n0 A ad ls H locs E B hs hlo' hh
  obtain ⟨⟨t0, m0⟩, hq0, hr0⟩ := gq_m hr
  obtain ⟨⟨t1, m1⟩, hq1, hr1⟩ := gq_m hr0
  obtain ⟨⟨rfl, rfl, g1, g2, g3, g4, g5⟩, hr2⟩ := gq_i hr1
  have g4 : sp + n ≤ (m0 : Int) := g4
  have g5 : dp + n ≤ (m1 : Int) := g5
  have b0 : m0 ≤ 2147483647 := (B.2.2.2.1 src _ hq0).1
  have b1 : m1 ≤ 2147483647 := (B.2.2.2.1 dst _ hq1).1
  have hat0 : (gx_W cA ad h)[src]? = some (ad src, .inl (cA 0, m0, .inl (fun j => Int32.ofInt (h.2 src j)))) := gx_W_at hq0
  have hat1 : (gx_W cA ad h)[dst]? = some (ad dst, .inl (cA 0, m1, .inl (fun j => Int32.ofInt (h.2 dst j)))) := gx_W_at hq1
  obtain ⟨s1, s2⟩ := gx_nn g1 (by omega)
  obtain ⟨d1, d2⟩ := gx_nn g2 (by omega)
  obtain ⟨k1, k2⟩ := gx_nn g3 (by omega)
  refine va_copyi E.1 E.2.1 (E.2.2.1.trans hh.1.symm) E.2.2.2.1 (E.2.2.2.2.1 _ (gx_gd hl rfl)) (E.2.2.2.2.1 _ (gx_gd nw_copy_native rfl)) (E.2.2.2.2.1 _ (gx_gd nw_copy_static rfl)) (E.2.2.2.2.1 _ (gx_gd nw_copy_init rfl)) B.1.1 B.2.2.2.2.1 B.2.2.2.2.2.1 B.2.2.2.2.2.2 src dst 0 0 hat0 hat1 rfl rfl rfl s1 d1 k1 (by rw [s2, k2]; omega) (by rw [d2, k2]; omega) (fun _ _ => rfl) hf (by show ((st.map (gx_v ad)).map fun v => v.category).sum + (nativeFrameWords "java/lang/System" "arraycopy" 5 + 11) ≤ _; rw [gx_cs_eq, show nativeFrameWords "java/lang/System" "arraycopy" 5 = 7 from by decide]; exact hlo) hd (fun H1 locs1 hP hD hS => ?_)
  rw [s2, d2, k2] at hP hD
  have e0 : va_cpy (fun j => Int32.ofInt (h.2 src j)) (fun j => Int32.ofInt (h.2 dst j)) sp.toNat dp.toNat n.toNat = fun j => Int32.ofInt (gx_cpy (h.2 src) (h.2 dst) sp.toNat dp.toNat n.toNat j) := by
    funext j
    unfold va_cpy gx_cpy
    by_cases e : dp.toNat ≤ j ∧ j < dp.toNat + n.toNat
    · rw [if_pos e, if_pos e]
    · rw [if_neg e, if_neg e]
  rw [e0] at hP hD
  have e2 := gx_W_set (cA := cA) (ad := ad) hq1 (gx_cpy (h.2 src) (h.2 dst) sp.toNat dp.toNat n.toNat)
  have hP1 : va_P D gx_cls (gx_W cA ad (h.1, gx_us h.2 dst (gx_cpy (h.2 src) (h.2 dst) sp.toNat dp.toNat n.toNat))) H1 := by rw [← e2]; exact hP
  have hD1 : va_D A (gx_W cA ad (h.1, gx_us h.2 dst (gx_cpy (h.2 src) (h.2 dst) sp.toNat dp.toNat n.toNat))) := by rw [← e2]; exact hD
  refine kk r h' hr2 p la e s m args below meth c D cA ad0 n0 A ad ls H1 locs1 E ⟨B.1, B.2.1, B.2.2.1, gx_ok_us B.2.2.2.1 hq1 (fun j hj => ?_), hP1, hD1, hS⟩ (gx_t1 (gx_t2 (gx_t2 hs))) hlo' hh
  show gx_i (gx_cpy (h.2 src) (h.2 dst) sp.toNat dp.toNat n.toNat j)
  unfold gx_cpy
  by_cases e : dp.toNat ≤ j ∧ j < dp.toNat + n.toNat
  · rw [if_pos e]; exact (B.2.2.2.1 src _ hq0).2 (sp.toNat + (j - dp.toNat)) (show _ < m0 by omega)
  · rw [if_neg e]; exact (B.2.2.2.1 dst _ hq1).2 j hj
theorem gx_max {a b : Int} {ix : Nat} (ha : gx_i a) (hb : gx_i b) (hl : Cond.methodLink M.1.cls ix Lib.Math.max.name ∈ lw_tbl) (hf : 1 ≤ M.2.2.2.2.1.frames) (hlo : gx_cs st + 13 ≤ M.2.2.2.2.1.locals) (hu : u.1 ≤ M.2.2.2.2.1.cells ∧ u.2 ≤ M.2.2.2.2.1.slots) (hd : decode M.2.1 pc = .ok (.invokestatic ix, 3))
    (k : gx_Y M u (pc + 3) l (gx_I (if a < b then b else a) :: st) h res) : gx_Y M u pc l (gx_I b :: gx_I a :: st) h res :=
  gx_pure k (fun _ hs _ => gx_c2 hs trivial) (fun _ _ _ _ _ _ _ _ _ ad _ _ _ _ E L w => va_mmax E.1 E.2.1 (E.2.2.1.trans L.1.symm) E.2.2.2.1 (E.2.2.2.2.1 _ (gx_gd hl rfl)) (E.2.2.2.2.1 _ (gx_gd nw_max_static rfl)) (E.2.2.2.2.1 _ (gx_gd nw_math_init rfl)) (E.2.2.2.2.1 _ (gx_gd nw_max_code rfl)) hf (by show ((st.map (gx_v ad)).map fun v => v.category).sum + 13 ≤ _; rw [gx_cs_eq]; exact hlo) hu.1 hu.2 hd (by
    have e : (if Int32.ofInt a < Int32.ofInt b then Int32.ofInt b else Int32.ofInt a) = Int32.ofInt (if a < b then b else a) := by
      by_cases c : a < b
      · rw [if_pos c, if_pos ((gx_ltI ha hb).mpr c)]
      · rw [if_neg c, if_neg (fun z => c ((gx_ltI ha hb).mp z))]
    rw [e]; exact w))
theorem gx_min {a b : Int} {ix : Nat} (ha : gx_i a) (hb : gx_i b) (hl : Cond.methodLink M.1.cls ix Lib.Math.min.name ∈ lw_tbl) (hf : 1 ≤ M.2.2.2.2.1.frames) (hlo : gx_cs st + 13 ≤ M.2.2.2.2.1.locals) (hu : u.1 ≤ M.2.2.2.2.1.cells ∧ u.2 ≤ M.2.2.2.2.1.slots) (hd : decode M.2.1 pc = .ok (.invokestatic ix, 3))
    (k : gx_Y M u (pc + 3) l (gx_I (if b < a then b else a) :: st) h res) : gx_Y M u pc l (gx_I b :: gx_I a :: st) h res :=
  gx_pure k (fun _ hs _ => gx_c2 hs trivial) (fun _ _ _ _ _ _ _ _ _ ad _ _ _ _ E L w => va_mmin E.1 E.2.1 (E.2.2.1.trans L.1.symm) E.2.2.2.1 (E.2.2.2.2.1 _ (gx_gd hl rfl)) (E.2.2.2.2.1 _ (gx_gd nw_min_static rfl)) (E.2.2.2.2.1 _ (gx_gd nw_math_init rfl)) (E.2.2.2.2.1 _ (gx_gd nw_min_code rfl)) hf (by show ((st.map (gx_v ad)).map fun v => v.category).sum + 13 ≤ _; rw [gx_cs_eq]; exact hlo) hu.1 hu.2 hd (by
    have e : (if Int32.ofInt b < Int32.ofInt a then Int32.ofInt b else Int32.ofInt a) = Int32.ofInt (if b < a then b else a) := by
      by_cases c : b < a
      · rw [if_pos c, if_pos ((gx_ltI hb ha).mpr c)]
      · rw [if_neg c, if_neg (fun z => c ((gx_ltI hb ha).mp z))]
    rw [e]; exact w))
theorem gx_obj {o ix : Nat} (hl : Cond.methodLink M.1.cls ix Lib.objectInit ∈ lw_tbl) (hf : 1 ≤ M.2.2.2.2.1.frames) (hlo : gx_cs st + 12 ≤ M.2.2.2.2.1.locals) (hd : decode M.2.1 pc = .ok (.invokespecial ix, 3)) (k : gx_Y M u (pc + 3) l st h res) : gx_Y M u pc l (gx_R o :: st) h res :=
  gx_pure k (fun _ hs _ => gx_t1 hs) (fun _ _ _ _ m _ _ _ _ ad ls _ _ _ E L w => W.objInit E.1 E.2.1 E.2.2.2.1 (E.2.2.2.2.1 _ (gx_gd hl rfl)) (E.2.2.2.2.1 _ (gx_gd nw_obj_inst rfl)) (E.2.2.2.2.1 _ (gx_gd nw_obj_code rfl)) rfl (L.1.trans E.2.2.1.symm) rfl hd hf (by
    have e1 : (F0 m pc ls ((gx_R o :: st).map (gx_v ad))).monitorRoom = 0 := rfl
    rw [e1]
    show 2 * 0 + ((st.map (gx_v ad)).map fun v => v.category).sum + 12 ≤ _
    rw [gx_cs_eq]; omega) w)
theorem gx_end {p : Program} {s : State} {m : MethodId} {args : Array Value} {meth : Method} {c : Code} {D : va_G} {cA : Nat → ClassId} {ad0 : Nat → Nat} {n0 : Nat} {A : Nat → Prop} {ad : Nat → Nat} {H : Heap} {locs : List Loc} {a : Int} {v : Option Value} (B : gx_B D cA ad0 n0 A s ad H locs h) (hv : v = gx_ret M.2.2.2.1 a) (t : State) (ht : t.heap = H) : gx_Q M.2.2.2.1 cA D ad0 n0 A a h args s (.returned v) t := by
  refine ⟨⟨ad, B.2.2.1.2, B.2.2.1.1, by rw [hv], B.2.2.2.1, by rw [ht]; exact B.2.2.2.2.1, B.2.2.2.2.2.1⟩, B.2.2.2.2.2.2.F ht⟩
theorem gx_ireturn {a : Int} (hu : M.2.2.2.2.2 = u) (hret : M.2.2.2.1 = some .int) (hd : decode M.2.1 pc = .ok (.ireturn, 1)) : gx_Y M u pc l [gx_I a] h (some (a, h)) := by
  intro r h' hr p la e s m args below meth c D cA ad0 n0 A ad ls H locs E B hs hlo hh
  cases hr
  subst hu
  exact W.iret (v := Int32.ofInt a) E.1 E.2.1 (E.2.2.2.2.2.1.trans hret) (fun t ht _ => gx_end (p := p) (m := m) (meth := meth) (c := c) B (by rw [hret]; rfl) t ht) B.2.2.2.2.2.2.2.2 hd E.2.2.2.2.2.2.1
theorem gx_zreturn {a : Int} (ha : a = 0 ∨ a = 1) (hu : M.2.2.2.2.2 = u) (hret : M.2.2.2.1 = some .boolean) (hd : decode M.2.1 pc = .ok (.ireturn, 1)) : gx_Y M u pc l [gx_I a] h (some (a, h)) := by
  intro r h' hr p la e s m args below meth c D cA ad0 n0 A ad ls H locs E B hs hlo hh
  cases hr
  subst hu
  exact W.zret (v := Int32.ofInt a) E.1 E.2.1 (E.2.2.2.2.2.1.trans hret) (by rcases ha with e | e <;> subst e <;> rfl) (fun t ht _ => gx_end (p := p) (m := m) (meth := meth) (c := c) B (by rw [hret]; rfl) t ht) B.2.2.2.2.2.2.2.2 hd E.2.2.2.2.2.2.1
theorem gx_return (hu : M.2.2.2.2.2 = u) (hret : M.2.2.2.1 = none) (hd : decode M.2.1 pc = .ok (.return_, 1)) : gx_Y M u pc l [] h (some (0, h)) := by
  intro r h' hr p la e s m args below meth c D cA ad0 n0 A ad ls H locs E B hs hlo hh
  cases hr
  subst hu
  exact W.vret E.1 E.2.1 (E.2.2.2.2.2.1.trans hret) (fun t ht _ => gx_end (p := p) (m := m) (meth := meth) (c := c) B (by rw [hret]; rfl) t ht) B.2.2.2.2.2.2.2.2 hd E.2.2.2.2.2.2.1
end GXL
end
section
/-! contracts, calls, the entry, cells that are made -/
def gx_Met (M : gx_M) (avs : List gx_V) (h : gx_H) (r : Int) (h' : gx_H) : Prop := ∀ (la : Launch) (D : va_G) (cA : Nat → ClassId) (ad : Nat → Nat) (sz : Nat),
  Met la M.1 (gx_ws M) M.2.2.2.2.1 (va_Pc (avs.map (gx_v ad)) (fun U => U.heap.size = sz ∧ gx_Kn D cA U ∧ gx_ok h ∧ (∀ v ∈ avs, gx_vl h.1.length v) ∧ va_P D gx_cls (gx_W cA ad h) U.heap ∧ va_D (fun _ => True) (gx_W cA ad h)))
    (gx_Q M.2.2.2.1 cA D ad h.1.length (va_A (gx_W cA ad h) sz) r h') M.2.2.2.2.2.1 M.2.2.2.2.2.2 (va_A (gx_W cA ad h) sz)
/-- what the tables say of a method that is called -/
def gx_CK (M : gx_M) (n : Nat) : Prop := Cond.code M.1 M.2.1 M.2.2.1 M.2.2.2.1 ∈ lw_tbl ∧ Cond.initialized M.1.cls ∈ lw_tbl ∧ (M.1.cls ≠ "java/lang/invoke/MethodHandle" ∧ M.1.cls ≠ "java/lang/invoke/VarHandle" ∧ (parseMethodDescriptor M.1.desc).map (fun d => d.parameters.length) = some n) ∧ M.2.2.2.2.1.cells = M.2.2.2.2.2.1 ∧ M.2.2.2.2.1.slots = M.2.2.2.2.2.2
theorem gx_goodIn {M : gx_M} (h : Cond.code M.1 M.2.1 M.2.2.1 M.2.2.2.1 ∈ lw_tbl) : GoodIn gx_tbl (gx_ws M) := by
  intro w hw
  have hm : w ∈ gx_tbl := by
    rcases List.mem_cons.mp hw with e | e
    · rw [e]; exact gx_gd h rfl
    · exact e
  exact ⟨hm, good_of_word (List.mem_filter.mp hm).2⟩
theorem gx_v_eq {ad ad1 : Nat → Nat} {n : Nat} {v : gx_V} (h : gx_vl n v) (he : ∀ o, o < n → ad1 o = ad o) : gx_v ad1 v = gx_v ad v := by
  match v, h with
  | .inl _, _ => rfl
  | .inr (.inl _), _ => rfl
  | .inr (.inr o), h => show Value.ref (ad1 o) = .ref (ad o); rw [he o h]
theorem gx_vl_mono {n n1 : Nat} {v : gx_V} (h : gx_vl n v) (hn : n ≤ n1) : gx_vl n1 v := by
  match v, h with
  | .inl _, _ => trivial
  | .inr (.inl _), _ => trivial
  | .inr (.inr o), h => exact Nat.lt_of_lt_of_le h hn
theorem gx_map_eq {ad ad1 : Nat → Nat} {n : Nat} {st : List gx_V} (h : ∀ v ∈ st, gx_vl n v) (he : ∀ o, o < n → ad1 o = ad o) : st.map (gx_v ad) = st.map (gx_v ad1) := List.map_congr_left (fun v hv => (gx_v_eq (h v hv) he).symm)
theorem gx_has_eq {ad ad1 : Nat → Nat} {n nL : Nat} {ls : Array Slot} {l : List (Option gx_V)} (h : ∀ v, some v ∈ l → gx_vl n v) (he : ∀ o, o < n → ad1 o = ad o) (hh : gx_has ad ls nL l) : gx_has ad1 ls nL l :=
  ⟨hh.1, hh.2.1, fun i v hi => by rw [gx_v_eq (h v (List.mem_of_getElem? hi)) he]; exact hh.2.2 i v hi⟩
section GXC
variable {p : Program} {la : Launch} {e : Env} {R : Room} {s : State} {m : MethodId} {args : Array Value} {below : List Frame} {meth : Method} {c : Code} {H : Heap} {locs : List Loc} {cells slots : Nat} {Q : State → Prop}
variable {pc : Nat} {ls : Array Slot} {rest st0 : List Value} {a : Array Value} {A0 A1 : Nat → Prop} {H0 : Heap} {mc ms n0 : Nat} {free : Addr → Prop}
theorem gx_after {ret : Option FieldType} {cA : Nat → ClassId} {D : va_G} {ad : Nat → Nat} {r : Int} {h1 : gx_H} (hr : va_Run p la e R s m args below meth c H locs cells slots mc ms (F0 m pc ls st0) rest (gx_Q ret cA D ad n0 A1 r h1 a) free) (hS : va_S A0 H0 H locs) (hA : ∀ q, A1 q → A0 q) (hf : ∀ q, free q → A0 q)
    (kk : ∀ (ad1 : Nat → Nat) (H1 : Heap) (locs1 : List Loc), (∀ o, o < n0 → ad1 o = ad o) → n0 ≤ h1.1.length → gx_ok h1 → va_P D gx_cls (gx_W cA ad1 h1) H1 → va_D A0 (gx_W cA ad1 h1) → va_S A0 H0 H1 locs1 → W p la e R s m args below meth c H1 locs1 (cells + mc) (slots + ms) Q (F0 m (pc + 3) ls ((gx_ret ret r).toList ++ rest))) : W p la e R s m args below meth c H locs cells slots Q (F0 m pc ls st0) := by
  intro T hT X
  obtain ⟨v, st₀, t, T', L, h0, X', hL, e1, e2, ⟨⟨ad1, g1, g2, hv, g3, g4, g5⟩, hz, hk⟩, st⟩ := hr T hT X
  cases hv
  rw [h0] at hz hk
  obtain ⟨t2, a1, b1⟩ := kk ad1 T'.heap (locs ++ L) g1 g2 g3 (by rw [e1]; exact g4) (g5.weaken (fun _ _ _ z => hA _ z))
    ⟨Nat.le_trans hS.1 (by rw [e1]; exact hz), fun q h1 h2 => by rw [e1, hk q (Nat.lt_of_lt_of_le h1 hS.1) (fun z => h2 (hA q z))]; exact hS.2.1 q h1 h2, fun q hq => by
      rcases List.mem_append.mp hq with h | h
      · exact hS.2.2 q h
      · exact hf _ (hL q h)⟩ T' rfl X'
  exact ⟨t2, st t2 a1, b1⟩
end GXC
def gx_rs (ret : Option FieldType) (r : Int) (st : List gx_V) : List gx_V := match ret with
  | none => st
  | some _ => gx_I r :: st
theorem gx_rs_map (ret : Option FieldType) (r : Int) (st : List gx_V) (ad : Nat → Nat) : (gx_ret ret r).toList ++ st.map (gx_v ad) = (gx_rs ret r st).map (gx_v ad) := by
  cases ret <;> rfl
theorem gx_rs_vl {ret : Option FieldType} {r : Int} {st : List gx_V} {n : Nat} (h : ∀ v ∈ st, gx_vl n v) : ∀ v ∈ gx_rs ret r st, gx_vl n v := by
  cases ret with
  | none => exact h
  | some _ => exact List.forall_mem_cons.mpr ⟨trivial, h⟩
theorem gx_blind {D : va_G} {cA : Nat → ClassId} {ad : Nat → Nat} {avs : List gx_V} {h : gx_H} {sz : Nat} : FrameBlind (va_Pc (avs.map (gx_v ad)) (fun U => U.heap.size = sz ∧ gx_Kn D cA U ∧ gx_ok h ∧ (∀ v ∈ avs, gx_vl h.1.length v) ∧ va_P D gx_cls (gx_W cA ad h) U.heap ∧ va_D (fun _ => True) (gx_W cA ad h))) :=
  fun _ U g mk q => by
    obtain ⟨q0, q1, qK, q2, q3, qP, qD⟩ := q
    exact ⟨q0, q1, gx_Kn.same (s := U) (U := U.calling g mk _) rfl qK, q2, q3, qP, qD⟩
def gq_call {β : Type} (x : Option (Int × gx_H)) (K : Int → gx_H → Option β) : Option β := x.bind (fun q => K q.1 q.2)
def gq_cv {β : Type} (h : gx_H) (o ci : Nat) (x : Option (Int × gx_H)) (K : Int → gx_H → Option β) : Option β := (h.1[o]?).bind (fun q => if q.1 = ci + 3 then x.bind (fun y => K y.1 y.2) else none)
section GXD
variable {M Mc : gx_M} {u : Nat × Nat} {pc : Nat} {l : List (Option gx_V)} {st : List gx_V} {h : gx_H}
/-- what is the same behind every call -/
theorem gx_go {r : Int} {h1 : gx_H} {res : Option (Int × gx_H)} (k : gx_Y M (u.1 + Mc.2.2.2.2.2.1, u.2 + Mc.2.2.2.2.2.2) (pc + 3) l (gx_rs Mc.2.2.2.1 r st) h1 res)
    {p : Program} {la : Launch} {e : Env} {s : State} {m : MethodId} {args : Array Value} {below : List Frame} {meth : Method} {c : Code} {D : va_G} {cA : Nat → ClassId} {ad0 : Nat → Nat} {n0 : Nat} {A : Nat → Prop} {ad : Nat → Nat} {ls : Array Slot} {H : Heap} {locs : List Loc} {a : Array Value} {st0 : List Value} {r' : Int} {h' : gx_H} (hr : res = some (r', h'))
    (E : gx_E M p s m args meth c) (B : gx_B D cA ad0 n0 A s ad H locs h) (hs : ∀ v ∈ st, gx_vl h.1.length v) (hl : ∀ v, some v ∈ l → gx_vl h.1.length v) (hh : gx_has ad ls M.2.2.1 l)
    (hrun : va_Run p la e M.2.2.2.2.1 s m args below meth c H locs u.1 u.2 Mc.2.2.2.2.2.1 Mc.2.2.2.2.2.2 (F0 m pc ls st0) (st.map (gx_v ad)) (gx_Q Mc.2.2.2.1 cA D ad h.1.length (va_A (gx_W cA ad h) H.size) r h1 a) (va_A (gx_W cA ad h) H.size)) :
    W p la e M.2.2.2.2.1 s m args below meth c H locs u.1 u.2 (MQ below (gx_Q M.2.2.2.1 cA D ad0 n0 A r' h') args s M.2.2.2.2.2.1 M.2.2.2.2.2.2 A) (F0 m pc ls st0) := by
  have hA : ∀ q, va_A (gx_W cA ad h) H.size q → A q := fun q hq => by
    rcases hq with ⟨k, e, hk⟩ | hq
    · exact B.2.2.2.2.2.1.2 k (q, e) hk
    · exact B.2.1 q (Nat.le_trans B.2.2.2.2.2.2.1 hq)
  refine gx_after hrun B.2.2.2.2.2.2 hA hA (fun ad1 H1 locs1 g1 g2 g3 g4 g5 g6 => ?_)
  rw [gx_map_eq hs g1, gx_rs_map]
  exact k r' h' hr p la e s m args below meth c D cA ad0 n0 A ad1 ls H1 locs1 E ⟨B.1, B.2.1, ⟨Nat.le_trans B.2.2.1.1 g2, fun o ho => (g1 o (Nat.lt_of_lt_of_le ho B.2.2.1.1)).trans (B.2.2.1.2 o ho)⟩, g3, g4, g5, g6⟩
    (gx_rs_vl (fun v hv => gx_vl_mono (hs v hv) g2)) (fun v hv => gx_vl_mono (hl v hv) g2) (gx_has_eq hl g1 hh)
theorem gx_pre {avs : List gx_V} {s : State} {D : va_G} {cA : Nat → ClassId} {ad0 : Nat → Nat} {n0 : Nat} {A : Nat → Prop} {ad : Nat → Nat} {H : Heap} {locs : List Loc} (B : gx_B D cA ad0 n0 A s ad H locs h) (hv : ∀ v ∈ avs, gx_vl h.1.length v) (U : State) (hU : U.heap = H) (hW : s.WarmedH U.vm) :
    va_Pc (avs.map (gx_v ad)) (fun U => U.heap.size = H.size ∧ gx_Kn D cA U ∧ gx_ok h ∧ (∀ v ∈ avs, gx_vl h.1.length v) ∧ va_P D gx_cls (gx_W cA ad h) U.heap ∧ va_D (fun _ => True) (gx_W cA ad h)) (avs.map (gx_v ad)).toArray U :=
  ⟨rfl, by rw [hU], gx_Kn.warm hW B.1, B.2.2.2.1, hv, by rw [hU]; exact B.2.2.2.2.1, B.2.2.2.2.2.1.weaken (fun _ _ _ _ => trivial)⟩
theorem gx_rev {n : Nat} {avs st : List gx_V} (h : ∀ v ∈ avs.reverse ++ st, gx_vl n v) : (∀ v ∈ avs, gx_vl n v) ∧ ∀ v ∈ st, gx_vl n v := ⟨fun v hv => h v (List.mem_append_left _ (List.mem_reverse.mpr hv)), fun v hv => h v (List.mem_append_right _ hv)⟩
abbrev gx_rm (M Mc : gx_M) (u : Nat × Nat) : Prop := Mc.2.2.2.2.1.frames + 1 ≤ M.2.2.2.2.1.frames ∧ 8 + (Mc.2.2.1 + 11) + Mc.2.2.2.2.1.locals ≤ M.2.2.2.2.1.locals ∧ u.1 + Mc.2.2.2.2.2.1 ≤ M.2.2.2.2.1.cells ∧ u.2 + Mc.2.2.2.2.2.2 ≤ M.2.2.2.2.1.slots
theorem gx_room8 {m : MethodId} {pc : Nat} {ls : Array Slot} {rest : List Value} {ad : Nat → Nat} {st : List gx_V} (h : gx_cs st ≤ 8) : 2 * (F0 m pc ls rest).monitorRoom + ((st.map (gx_v ad)).map fun v => v.category).sum ≤ 8 := lv_room (by rw [gx_cs_eq]; exact h)
/-- a virtual call of a method of the object's own class -/
theorem gx_callV {avs : List gx_V} {o ci ix n : Nat} {q : vw_C} {x : Option (Int × gx_H)} {K : Int → gx_H → Option (Int × gx_H)} (hM : ∀ r h1, x = some (r, h1) → gx_Met Mc (gx_R o :: avs) h r h1) (ck : gx_CK Mc n) (hin : Cond.instanceMethod Mc.1 ∈ lw_tbl) (hsel : Cond.selects Mc.1.cls Mc.1 Mc.1 ∈ lw_tbl) (hcl : gx_cls[ci]? = some q) (hq : q.1 = Mc.1.cls)
    (hl : Cond.methodLink M.1.cls ix Mc.1 ∈ lw_tbl) (hn : avs.length = n) (hrm : gx_rm M Mc u) (h8 : gx_cs st ≤ 8) (hd : decode M.2.1 pc = .ok (.invokevirtual ix, 3))
    (k : ∀ r h1, gx_Y M (u.1 + Mc.2.2.2.2.2.1, u.2 + Mc.2.2.2.2.2.2) (pc + 3) l (gx_rs Mc.2.2.2.1 r st) h1 (K r h1)) : gx_Y M u pc l (avs.reverse ++ gx_R o :: st) h (gq_cv h o ci x K) := by
  intro r' h' hr p la e s m args below meth c D cA ad0 n0 A ad ls H locs E B hs hlo hh
  obtain ⟨⟨t, w⟩, hk, hr1⟩ := gq_m hr
  obtain ⟨rfl, hr2⟩ := gq_i hr1
  obtain ⟨⟨r, h1⟩, hx, hr3⟩ := gq_m hr2
  obtain ⟨hv, hs1⟩ := gx_rev hs
  obtain ⟨ho, hs2⟩ := List.forall_mem_cons.mp hs1
  have hat : (gx_W cA ad h)[o]? = some (ad o, .inr (ci, gx_fs ad ci w (h.2 o))) := gx_W_at hk
  have hcall : CallW M.2.2.2.2.1 s args M.1.cls Mc.1.cls ix Mc.1 Mc.2.1 Mc.2.2.1 Mc.2.2.2.1 (gx_ws Mc) Mc.2.2.2.2.1 Mc.2.2.2.2.2.1 Mc.2.2.2.2.2.2 n :=
    ⟨callB_of n E.2.2.2.2.1 (gx_goodIn ck.1) rfl ck.2.2.2.1 ck.2.2.2.2 (E.2.2.2.2.1 _ (gx_gd ck.2.1 rfl)) (E.2.2.2.2.1 _ (gx_gd hl rfl)) ck.2.2.1 ⟨hrm.1, hrm.2.1⟩, E.2.2.2.2.1 _ (gx_gd hin rfl), E.2.2.2.2.1 _ (gx_gd hsel rfl)⟩
  refine gx_go (k r h1) hr3 E B hs2 hlo hh (va_runV ⟨E.1, E.2.1, E.2.2.1, E.2.2.2.1, E.2.2.2.2.1⟩ (hM r h1 hx la D cA ad H.size) hcall ⟨gx_blind, ?_, fun U hU hW => gx_pre B (List.forall_mem_cons.mpr ⟨ho, hv⟩) U hU hW⟩ rfl (by simpa using hn) hh.1 (by simp [gx_v]) (gx_room8 h8) hd ⟨hrm.2.2.1, hrm.2.2.2⟩)
  rw [← hq]
  exact va_recv B.1.1 B.2.2.2.2.1 hcl hat
/-- a static call of a method of one's own class -/
theorem gx_callS {avs : List gx_V} {ix n : Nat} {x : Option (Int × gx_H)} {K : Int → gx_H → Option (Int × gx_H)} (hM : ∀ r h1, x = some (r, h1) → gx_Met Mc avs h r h1) (ck : gx_CK Mc n) (hst : Cond.static Mc.1 ∈ lw_tbl)
    (hl : Cond.methodLink M.1.cls ix Mc.1 ∈ lw_tbl) (hn : avs.length = n) (hrm : gx_rm M Mc u) (h8 : gx_cs st ≤ 8) (hd : decode M.2.1 pc = .ok (.invokestatic ix, 3))
    (k : ∀ r h1, gx_Y M (u.1 + Mc.2.2.2.2.2.1, u.2 + Mc.2.2.2.2.2.2) (pc + 3) l (gx_rs Mc.2.2.2.1 r st) h1 (K r h1)) : gx_Y M u pc l (avs.reverse ++ st) h (gq_call x K) := by
  intro r' h' hr p la e s m args below meth c D cA ad0 n0 A ad ls H locs E B hs hlo hh
  obtain ⟨⟨r, h1⟩, hx, hr3⟩ := gq_m hr
  obtain ⟨hv, hs2⟩ := gx_rev hs
  have hcall : CallB M.2.2.2.2.1 s args M.1.cls ix Mc.1 Mc.2.1 Mc.2.2.1 Mc.2.2.2.1 (gx_ws Mc) Mc.2.2.2.2.1 Mc.2.2.2.2.2.1 Mc.2.2.2.2.2.2 n :=
    callB_of n E.2.2.2.2.1 (gx_goodIn ck.1) rfl ck.2.2.2.1 ck.2.2.2.2 (E.2.2.2.2.1 _ (gx_gd ck.2.1 rfl)) (E.2.2.2.2.1 _ (gx_gd hl rfl)) ck.2.2.1 ⟨hrm.1, hrm.2.1⟩
  exact gx_go (k r h1) hr3 E B hs2 hlo hh (va_runS ⟨E.1, E.2.1, E.2.2.1, E.2.2.2.1, E.2.2.2.2.1⟩ (hM r h1 hx la D cA ad H.size) ⟨hcall, E.2.2.2.2.1 _ (gx_gd hst rfl)⟩ ⟨gx_blind, fun U hU hW => gx_pre B hv U hU hW⟩ rfl (by simpa using hn) hh.1 (by simp) (gx_room8 h8) hd ⟨hrm.2.2.1, hrm.2.2.2⟩)
/-- a static call of a nest mate's private method -/
theorem gx_callSN {avs : List gx_V} {ix n : Nat} {x : Option (Int × gx_H)} {K : Int → gx_H → Option (Int × gx_H)} (hM : ∀ r h1, x = some (r, h1) → gx_Met Mc avs h r h1) (ck : gx_CK Mc n) (hst : Cond.static Mc.1 ∈ lw_tbl)
    (hl : Cond.methodLinkNest M.1.cls ix Mc.1 "LetterExchange" ∈ lw_tbl) (hn : avs.length = n) (hrm : gx_rm M Mc u) (h8 : gx_cs st ≤ 8) (hd : decode M.2.1 pc = .ok (.invokestatic ix, 3))
    (k : ∀ r h1, gx_Y M (u.1 + Mc.2.2.2.2.2.1, u.2 + Mc.2.2.2.2.2.2) (pc + 3) l (gx_rs Mc.2.2.2.1 r st) h1 (K r h1)) : gx_Y M u pc l (avs.reverse ++ st) h (gq_call x K) := by
  intro r' h' hr p la e s m args below meth c D cA ad0 n0 A ad ls H locs E B hs hlo hh
  obtain ⟨⟨r, h1⟩, hx, hr3⟩ := gq_m hr
  obtain ⟨hv, hs2⟩ := gx_rev hs
  have hcall : va_CN M.2.2.2.2.1 s args M.1.cls ix Mc.1 "LetterExchange" Mc.2.1 Mc.2.2.1 Mc.2.2.2.1 (gx_ws Mc) Mc.2.2.2.2.1 Mc.2.2.2.2.2.1 Mc.2.2.2.2.2.2 n :=
    va_cnB n E.2.2.2.2.1 (gx_goodIn ck.1) rfl ck.2.2.2.1 ck.2.2.2.2 (B.1.2.1 _ hl rfl) (E.2.2.2.2.1 _ (gx_gd ck.2.1 rfl)) ck.2.2.1 ⟨hrm.1, hrm.2.1⟩
  exact gx_go (k r h1) hr3 E B hs2 hlo hh (va_runSN ⟨E.1, E.2.1, E.2.2.1, E.2.2.2.1, E.2.2.2.2.1⟩ (hM r h1 hx la D cA ad H.size) ⟨hcall, E.2.2.2.2.1 _ (gx_gd hst rfl), trivial⟩ ⟨gx_blind, fun U hU hW => gx_pre B hv U hU hW⟩ rfl (by simpa using hn) hh.1 (by simp) (gx_room8 h8) hd ⟨hrm.2.2.1, hrm.2.2.2⟩)
/-- a nest mate's private constructor -/
theorem gx_callIN {ix o : Nat} {x : Option (Int × gx_H)} {K : Int → gx_H → Option (Int × gx_H)} (hM : ∀ r h1, x = some (r, h1) → gx_Met Mc [gx_R o] h r h1) (ck : gx_CK Mc 0) (hin : Cond.instanceMethod Mc.1 ∈ lw_tbl) (hnm : Mc.1.name = "<init>") (hret : Mc.2.2.2.1 = none)
    (hl : Cond.methodLinkNest M.1.cls ix Mc.1 "LetterExchange" ∈ lw_tbl) (hrm : gx_rm M Mc u) (h8 : gx_cs st ≤ 8) (hd : decode M.2.1 pc = .ok (.invokespecial ix, 3))
    (k : ∀ r h1, gx_Y M (u.1 + Mc.2.2.2.2.2.1, u.2 + Mc.2.2.2.2.2.2) (pc + 3) l (gx_rs Mc.2.2.2.1 r st) h1 (K r h1)) : gx_Y M u pc l (gx_R o :: st) h (gq_call x K) := by
  intro r' h' hr p la e s m args below meth c D cA ad0 n0 A ad ls H locs E B hs hlo hh
  obtain ⟨⟨r, h1⟩, hx, hr3⟩ := gq_m hr
  obtain ⟨ho, hs2⟩ := List.forall_mem_cons.mp hs
  have hcall : va_CN M.2.2.2.2.1 s args M.1.cls ix Mc.1 "LetterExchange" Mc.2.1 Mc.2.2.1 Mc.2.2.2.1 (gx_ws Mc) Mc.2.2.2.2.1 Mc.2.2.2.2.2.1 Mc.2.2.2.2.2.2 0 :=
    va_cnB 0 E.2.2.2.2.1 (gx_goodIn ck.1) rfl ck.2.2.2.1 ck.2.2.2.2 (B.1.2.1 _ hl rfl) (E.2.2.2.2.1 _ (gx_gd ck.2.1 rfl)) ck.2.2.1 ⟨hrm.1, hrm.2.1⟩
  rw [hret] at hcall
  exact gx_go (k r h1) hr3 E B hs2 hlo hh (va_runIN (As := []) ⟨E.1, E.2.1, E.2.2.1, E.2.2.2.1, E.2.2.2.2.1⟩ (hM r h1 hx la D cA ad H.size) ⟨hcall, hnm, E.2.2.2.2.1 _ (gx_gd hin rfl)⟩ ⟨gx_blind, fun U hU hW => gx_pre B (avs := [gx_R o]) (List.forall_mem_cons.mpr ⟨ho, fun _ h => by cases h⟩) U hU hW⟩ rfl rfl hh.1 rfl (gx_room8 h8) hd ⟨hrm.2.2.1, hrm.2.2.2⟩)
/-- a constructor that anyone may call -/
theorem gx_callI {ix o : Nat} {x : Option (Int × gx_H)} {K : Int → gx_H → Option (Int × gx_H)} (hM : ∀ r h1, x = some (r, h1) → gx_Met Mc [gx_R o] h r h1) (ck : gx_CK Mc 0) (hin : Cond.instanceMethod Mc.1 ∈ lw_tbl) (hnm : Mc.1.name = "<init>") (hret : Mc.2.2.2.1 = none)
    (hl : Cond.methodLink M.1.cls ix Mc.1 ∈ lw_tbl) (hrm : gx_rm M Mc u) (h8 : gx_cs st ≤ 8) (hd : decode M.2.1 pc = .ok (.invokespecial ix, 3))
    (k : ∀ r h1, gx_Y M (u.1 + Mc.2.2.2.2.2.1, u.2 + Mc.2.2.2.2.2.2) (pc + 3) l (gx_rs Mc.2.2.2.1 r st) h1 (K r h1)) : gx_Y M u pc l (gx_R o :: st) h (gq_call x K) := by
  intro r' h' hr p la e s m args below meth c D cA ad0 n0 A ad ls H locs E B hs hlo hh
  obtain ⟨⟨r, h1⟩, hx, hr3⟩ := gq_m hr
  obtain ⟨ho, hs2⟩ := List.forall_mem_cons.mp hs
  have hcall : CallB M.2.2.2.2.1 s args M.1.cls ix Mc.1 Mc.2.1 Mc.2.2.1 Mc.2.2.2.1 (gx_ws Mc) Mc.2.2.2.2.1 Mc.2.2.2.2.2.1 Mc.2.2.2.2.2.2 0 :=
    callB_of 0 E.2.2.2.2.1 (gx_goodIn ck.1) rfl ck.2.2.2.1 ck.2.2.2.2 (E.2.2.2.2.1 _ (gx_gd ck.2.1 rfl)) (E.2.2.2.2.1 _ (gx_gd hl rfl)) ck.2.2.1 ⟨hrm.1, hrm.2.1⟩
  rw [hret] at hcall
  exact gx_go (k r h1) hr3 E B hs2 hlo hh (va_runI (As := []) ⟨E.1, E.2.1, E.2.2.1, E.2.2.2.1, E.2.2.2.2.1⟩ (hM r h1 hx la D cA ad H.size) ⟨hcall, hnm, E.2.2.2.2.1 _ (gx_gd hin rfl)⟩ ⟨gx_blind, fun U hU hW => gx_pre B (avs := [gx_R o]) (List.forall_mem_cons.mpr ⟨ho, fun _ h => by cases h⟩) U hU hW⟩ rfl rfl hh.1 rfl (gx_room8 h8) hd ⟨hrm.2.2.1, hrm.2.2.2⟩)
end GXD
/-! the entry -/
def gx_en : List gx_V → List (Option gx_V)
  | [] => []
  | .inr (.inl a) :: t => some (gx_L a) :: none :: gx_en t
  | .inl a :: t => some (gx_I a) :: gx_en t
  | .inr (.inr o) :: t => some (gx_R o) :: gx_en t
theorem gx_en_len (ad : Nat → Nat) (avs : List gx_V) : (lg_sl (avs.map (gx_v ad))).length = (gx_en avs).length := by
  induction avs with
  | nil => rfl
  | cons v t ih =>
    have e : lg_sl ((v :: t).map (gx_v ad)) = (if (gx_v ad v).category = 2 then [Slot.val (gx_v ad v), .second] else [.val (gx_v ad v)]) ++ lg_sl (t.map (gx_v ad)) := rfl
    rw [e, List.length_append, ih]
    match v with
    | .inl _ => simp [gx_en, gx_v, Value.category]; omega
    | .inr (.inl _) => simp [gx_en, gx_v, Value.category]; omega
    | .inr (.inr _) => simp [gx_en, gx_v, Value.category]; omega
theorem gx_en_at (ad : Nat → Nat) : ∀ (avs : List gx_V) (i j : Nat) (v : gx_V), (gx_en avs)[j]? = some (some v) → (i + j, gx_v ad v) ∈ lv_args i (avs.map (gx_v ad))
  | [], i, j, v, h => by simp [gx_en] at h
  | .inl a :: t, i, 0, v, h => by
    simp only [gx_en, List.getElem?_cons_zero, Option.some.injEq] at h
    subst h
    exact List.mem_cons_self
  | .inl a :: t, i, j + 1, v, h => by
    simp only [gx_en, List.getElem?_cons_succ] at h
    have := gx_en_at ad t (i + 1) j v h
    rw [show i + (j + 1) = i + 1 + j by omega]
    exact List.mem_cons_of_mem _ this
  | .inr (.inr a) :: t, i, 0, v, h => by
    simp only [gx_en, List.getElem?_cons_zero, Option.some.injEq] at h
    subst h
    exact List.mem_cons_self
  | .inr (.inr a) :: t, i, j + 1, v, h => by
    simp only [gx_en, List.getElem?_cons_succ] at h
    have := gx_en_at ad t (i + 1) j v h
    rw [show i + (j + 1) = i + 1 + j by omega]
    exact List.mem_cons_of_mem _ this
  | .inr (.inl a) :: t, i, 0, v, h => by
    simp only [gx_en, List.getElem?_cons_zero, Option.some.injEq] at h
    subst h
    exact List.mem_cons_self
  | .inr (.inl a) :: t, i, 1, v, h => by simp [gx_en] at h
  | .inr (.inl a) :: t, i, j + 2, v, h => by
    simp only [gx_en, List.getElem?_cons_succ] at h
    have := gx_en_at ad t (i + 2) j v h
    rw [show i + (j + 2) = i + 2 + j by omega]
    exact List.mem_cons_of_mem _ this
theorem gx_en_mem : ∀ (avs : List gx_V) (v : gx_V), some v ∈ gx_en avs → v ∈ avs
  | [], v, h => by simp [gx_en] at h
  | .inl a :: t, v, h => by
    rcases List.mem_cons.mp h with e | e
    · cases e; exact List.mem_cons_self
    · exact List.mem_cons_of_mem _ (gx_en_mem t v e)
  | .inr (.inr a) :: t, v, h => by
    rcases List.mem_cons.mp h with e | e
    · cases e; exact List.mem_cons_self
    · exact List.mem_cons_of_mem _ (gx_en_mem t v e)
  | .inr (.inl a) :: t, v, h => by
    rcases List.mem_cons.mp h with e | e
    · cases e; exact List.mem_cons_self
    · rcases List.mem_cons.mp e with e | e
      · cases e
      · exact List.mem_cons_of_mem _ (gx_en_mem t v e)
theorem gx_enter {M : gx_M} {avs : List gx_V} {h : gx_H} {res : Option (Int × gx_H)} {l : List (Option gx_V)} (hp : plainName M.1.cls = true) (hn : (gx_en avs).length ≤ M.2.2.1) (hl : gx_en avs ++ List.replicate (M.2.2.1 - (gx_en avs).length) none = l) (k : gx_Y M (0, 0) 0 l [] h res) : ∀ r h', res = some (r, h') → gx_Met M avs h r h' := by
  intro r h' hr la D cA ad sz
  refine Met.ofW (cc := M.2.1) (maxL := M.2.2.1) (ret := M.2.2.2.1) hp rfl ?_
  intro p e s m args below meth c s₁ B hml hv
  obtain ⟨rfl, hsz, hK, hok, hvl, hP, hD0⟩ := hv
  subst hsz
  have hts := atoms_spec (ws := gx_ws M) B.pre
  have hown : s.vm.findClass M.1.cls = some m.cls := findClass_of_methodNamed B.named
  have hnm : meth.name = M.1.name := (name_of_methodNamed B.named B.method).1
  have hlv := lv_entry (avs.map (gx_v ad)) (n := M.2.2.1) (by rw [gx_en_len]; exact hn)
  rw [lg_entry_eq]
  generalize (lg_sl (avs.map (gx_v ad)) ++ List.replicate (M.2.2.1 - (lg_sl (avs.map (gx_v ad))).length) Slot.unset).toArray = ls at hlv ⊢
  refine k r h' hr p la e s m _ below meth c D cA ad h.1.length (va_A (gx_W cA ad h) s.heap.size) ad ls s.heap [] ⟨B.exec, B.bytes, hml, hown, fun w hw => hts w (List.mem_cons_of_mem _ hw), B.returns, B.notSynchronized, hnm⟩ ⟨hK, fun q hq => Or.inr hq, ⟨Nat.le_refl _, fun _ _ => rfl⟩, hok, hP, hD0.self, va_S.rf⟩ (fun _ hv => by cases hv) (fun v hv => ?_) ⟨hlv.1, hlv.2.1, fun i v hi => ?_⟩
  · rw [← hl] at hv
    rcases List.mem_append.mp hv with hv | hv
    · exact hvl v (gx_en_mem avs v hv)
    · cases List.eq_of_mem_replicate hv
  · rw [← hl] at hi
    by_cases hj : i < (gx_en avs).length
    · rw [List.getElem?_append_left hj] at hi
      have := gx_en_at ad avs 0 i v hi
      rw [Nat.zero_add] at this
      exact hlv.2.2 _ this
    · rw [List.getElem?_append_right (by omega)] at hi
      cases List.eq_of_mem_replicate (List.mem_of_getElem? hi)
end
section
/-! rows: cells that are made -/
def gx_d (ci : Nat) : Nat → Int := fun j => if 3 ≤ gx_fty ci j then -1 else 0
def gq_new {β : Type} (h : gx_H) (ci n : Nat) (K : Nat → gx_H → Option β) : Option β := K h.1.length (h.1 ++ [(ci + 3, n)], gx_us h.2 h.1.length (gx_d ci))
def gq_na {β : Type} (h : gx_H) (t n : Nat) (v : Int) (K : Nat → gx_H → Option β) : Option β := K h.1.length (h.1 ++ [(t, n)], gx_us h.2 h.1.length (fun _ => v))
def gq_aas {β : Type} (h : gx_H) (o : Nat) (i : Int) (b ci : Nat) (K : gx_H → Option β) : Option β := (h.1[o]?).bind (fun q => (h.1[b]?).bind (fun q1 => if q.1 = 2 ∧ 0 ≤ i ∧ i < (q.2 : Int) ∧ q1.1 = ci + 3 then K (h.1, gx_up h.2 o i.toNat (b : Int)) else none))
theorem gx_sl_mono {n n1 t : Nat} {v : Int} (h : gx_sl n t v) (hn : n ≤ n1) : gx_sl n1 t v := by
  match t, h with
  | 0, h => exact h
  | 1, h => exact h
  | 2, h => exact h
  | t + 3, h => have h : v < (n : Int) := h; show v < (n1 : Int); omega
theorem gx_ok_push {h : gx_H} {k : gx_K} {f : Nat → Int} (hok : gx_ok h) (hk : k.2 ≤ 2147483647) (hf : ∀ j, j < k.2 → gx_sl h.1.length (gx_ty k j) (f j)) : gx_ok (h.1 ++ [k], gx_us h.2 h.1.length f) := by
  intro o q hq
  have hlen : (h.1 ++ [k]).length = h.1.length + 1 := by simp
  by_cases ho : o < h.1.length
  · rw [List.getElem?_append_left ho] at hq
    refine ⟨(hok o q hq).1, fun j hj => ?_⟩
    simp only [gx_us, if_neg (Nat.ne_of_lt ho)]
    exact gx_sl_mono ((hok o q hq).2 j hj) (by rw [hlen]; omega)
  · have h1 : o < (h.1 ++ [k]).length := (List.getElem?_eq_some_iff.mp hq).1
    have e : o = h.1.length := by omega
    subst e
    simp at hq
    subst hq
    refine ⟨hk, fun j hj => ?_⟩
    simp only [gx_us, if_pos]
    exact gx_sl_mono (hf j hj) (by rw [hlen]; omega)
theorem gx_ad_eq {ad : Nat → Nat} {n q : Nat} : ∀ o, o < n → gx_ad ad n q o = ad o := fun o ho => by rw [gx_ad, if_neg (Nat.ne_of_lt ho)]
section GXN
variable {M : gx_M} {u : Nat × Nat} {pc pc' : Nat} {l : List (Option gx_V)} {st : List gx_V} {h : gx_H} {res : Option (Int × gx_H)}
/-- behind a cell that was made -/
theorem gx_made {k : gx_K} {f : Nat → Int} {q : Nat} {u' : Nat × Nat} (kk : gx_Y M u' pc' l (gx_R h.1.length :: st) (h.1 ++ [k], gx_us h.2 h.1.length f) res) (hk : k.2 ≤ 2147483647)
    {r : Int} {h' : gx_H} (hr : res = some (r, h')) {p : Program} {la : Launch} {e : Env} {s : State} {m : MethodId} {args : Array Value} {below : List Frame} {meth : Method} {c : Code} {D : va_G} {cA : Nat → ClassId} {ad0 : Nat → Nat} {n0 : Nat} {A : Nat → Prop} {ad : Nat → Nat} {ls : Array Slot} {H H1 : Heap} {locs locs1 : List Loc}
    (hf : ∀ j, j < k.2 → gx_sl h.1.length (gx_ty k j) (f j)) (E : gx_E M p s m args meth c) (B : gx_B D cA ad0 n0 A s ad H locs h) (hs : ∀ v ∈ st, gx_vl h.1.length v) (hl : ∀ v, some v ∈ l → gx_vl h.1.length v) (hh : gx_has ad ls M.2.2.1 l)
    (hP : va_P D gx_cls (gx_W cA ad h ++ [(q, gx_c cA ad k f)]) H1) (hD : va_D A (gx_W cA ad h ++ [(q, gx_c cA ad k f)])) (hS : va_S A s.heap H1 locs1) :
    W p la e M.2.2.2.2.1 s m args below meth c H1 locs1 u'.1 u'.2 (MQ below (gx_Q M.2.2.2.1 cA D ad0 n0 A r h') args s M.2.2.2.2.2.1 M.2.2.2.2.2.2 A) (F0 m pc' ls (.ref q :: st.map (gx_v ad))) := by
  have hlen : (h.1 ++ [k]).length = h.1.length + 1 := by simp
  have e0 := gx_W_push (cA := cA) (ad := ad) (q := q) B.2.2.2.1 hf
  rw [← e0] at hP hD
  have e1 : (Value.ref q :: st.map (gx_v ad)) = (gx_R h.1.length :: st).map (gx_v (gx_ad ad h.1.length q)) := by
    rw [List.map_cons, gx_map_eq hs gx_ad_eq]
    show _ = Value.ref (gx_ad ad h.1.length q h.1.length) :: _
    rw [gx_ad, if_pos rfl]
  rw [e1]
  refine kk r h' hr p la e s m args below meth c D cA ad0 n0 A (gx_ad ad h.1.length q) ls H1 locs1 E ⟨B.1, B.2.1, ⟨by rw [hlen]; exact Nat.le_succ_of_le B.2.2.1.1, fun o ho => (gx_ad_eq o (Nat.lt_of_lt_of_le ho B.2.2.1.1)).trans (B.2.2.1.2 o ho)⟩, gx_ok_push B.2.2.2.1 hk hf, hP, hD, hS⟩ ?_ ?_ (gx_has_eq hl gx_ad_eq hh)
  · exact List.forall_mem_cons.mpr ⟨show h.1.length < _ by rw [hlen]; omega, fun v hv => gx_vl_mono (hs v hv) (by rw [hlen]; omega)⟩
  · exact fun v hv => gx_vl_mono (hl v hv) (by rw [hlen]; omega)
theorem gx_new {ci ix : Nat} {C : String} {T : u_T} {N : Nat} {ty : Nat → FieldType} {K : Nat → gx_H → Option (Int × gx_H)} (g : gx_CL ci C T N ty) (hl : Cond.classLink M.1.cls ix C ∈ lw_tbl) (hinst : Cond.instantiable C N ∈ lw_tbl) (hini : Cond.initialized C ∈ lw_tbl) (hN : N ≤ 2147483647) (hrm : u.1 + 1 ≤ M.2.2.2.2.1.cells ∧ u.2 + N ≤ M.2.2.2.2.1.slots) (hd : decode M.2.1 pc = .ok (.new ix, 3))
    (k : gx_Y M (u.1 + 1, u.2 + N) (pc + 3) l (gx_R h.1.length :: st) (h.1 ++ [(ci + 3, N)], gx_us h.2 h.1.length (gx_d ci)) (K h.1.length (h.1 ++ [(ci + 3, N)], gx_us h.2 h.1.length (gx_d ci)))) : gx_Y M u pc l st h (gq_new h ci N K) := by
  intro r h' hr p la e s m args below meth c D cA ad0 n0 A ad ls H locs E B hs hlo hh
  refine va_new (fs := gx_fs ad ci N (gx_d ci)) E.1 E.2.1 E.2.2.2.2.1 g.2.1 ty g.2.2.1 E.2.2.2.1 (E.2.2.2.2.1 _ (gx_gd hl rfl)) (E.2.2.2.2.1 _ (gx_gd hinst rfl)) (E.2.2.2.2.1 _ (gx_gd hini rfl)) B.1.1 B.2.2.2.2.1 B.2.2.2.2.2.1 B.2.2.2.2.2.2 B.2.1 g.1 (fun j hj => ?_) hrm.1 hrm.2 hd (fun q H1 hP hD hS => ?_)
  · have e1 := gx_fs_at (ad := ad) (ci := ci) (f := gx_d ci) hj
    unfold vp_V
    rw [List.getD_eq_getElem?_getD, e1]
    have ht := g.2.2.2.2.1 j hj
    simp only [Option.getD_some, gx_d]
    generalize gx_fty ci j = t at ht ⊢
    match t, ht with
    | 0, ht => rw [show ty j = .int from ht]; rfl
    | 1, ht => rw [show ty j = .boolean from ht]; rfl
    | 2, ht => rw [show ty j = .long from ht]; rfl
    | t + 3, ht =>
      rw [if_pos (by omega)]
      rcases ht with ⟨_, e⟩ | ⟨_, e⟩ <;> rw [e] <;> rfl
  · refine gx_made (k := (ci + 3, N)) k hN hr (fun j hj => ?_) E B hs hlo hh hP hD hS
    show gx_sl h.1.length (gx_fty ci j) (gx_d ci j)
    unfold gx_d
    generalize gx_fty ci j = t
    match t with
    | 0 => show gx_i _; decide
    | 1 => exact Or.inl rfl
    | 2 => show gx_l _; decide
    | t + 3 => rw [if_pos (by omega)]; show (-1 : Int) < _; omega
theorem nw_ac_int : Cond.arrayClass .int ∈ lw_tbl := by decide +kernel
theorem nw_ac_bool : Cond.arrayClass .boolean ∈ lw_tbl := by decide +kernel
theorem gx_newi {n : Int} {N : Nat} {K : Nat → gx_H → Option (Int × gx_H)} (hn : n = (N : Int)) (hN : N ≤ 1000000) (hrm : u.1 + 1 ≤ M.2.2.2.2.1.cells ∧ u.2 + N ≤ M.2.2.2.2.1.slots) (hd : decode M.2.1 pc = .ok (.newarray .int, 2))
    (k : gx_Y M (u.1 + 1, u.2 + N) (pc + 2) l (gx_R h.1.length :: st) (h.1 ++ [(0, N)], gx_us h.2 h.1.length (fun _ => 0)) (K h.1.length (h.1 ++ [(0, N)], gx_us h.2 h.1.length (fun _ => 0)))) : gx_Y M u pc l (gx_I n :: st) h (gq_na h 0 N 0 K) := by
  intro r h' hr p la e s m args below meth c D cA ad0 n0 A ad ls H locs E B hs hlo hh
  subst hn
  obtain ⟨z1, z2⟩ := gx_nn (i := (N : Int)) (by omega) (by omega)
  refine va_newa (atype := .int) (N' := N) (a0 := (N, .inl (fun _ => Int32.ofInt 0))) E.1 E.2.1 (E.2.2.2.2.1 _ (gx_gd nw_ac_int rfl)) rfl B.1.1 B.2.2.2.2.1 B.2.2.2.2.2.1 B.2.2.2.2.2.2 B.2.1 (fun _ => rfl) z1 (by rw [z2]; omega) (by show N * 4 ≤ _; omega) hrm.1 hrm.2 hd (fun q cA' H1 hK hP hD hS => ?_)
  have e1 : cA' = cA 0 := by
    have h1 : s.vm.findClass _ = some cA' := (hK.2 3 (cA', .int) rfl).2
    have h2 : s.vm.findClass _ = some (cA 0) := (B.1.1.2 0 (cA 0, .int) rfl).2
    exact Option.some.inj (h1.symm.trans h2)
  subst e1
  exact gx_made (k := (0, N)) (f := fun _ => 0) k (by show N ≤ _; omega) hr (fun j hj => by show gx_i 0; decide) E B (gx_t1 hs) hlo hh hP hD hS
theorem gx_newz {n : Int} {N : Nat} {K : Nat → gx_H → Option (Int × gx_H)} (hn : n = (N : Int)) (hN : N ≤ 1000000) (hrm : u.1 + 1 ≤ M.2.2.2.2.1.cells ∧ u.2 + N ≤ M.2.2.2.2.1.slots) (hd : decode M.2.1 pc = .ok (.newarray .boolean, 2))
    (k : gx_Y M (u.1 + 1, u.2 + N) (pc + 2) l (gx_R h.1.length :: st) (h.1 ++ [(1, N)], gx_us h.2 h.1.length (fun _ => 0)) (K h.1.length (h.1 ++ [(1, N)], gx_us h.2 h.1.length (fun _ => 0)))) : gx_Y M u pc l (gx_I n :: st) h (gq_na h 1 N 0 K) := by
  intro r h' hr p la e s m args below meth c D cA ad0 n0 A ad ls H locs E B hs hlo hh
  subst hn
  obtain ⟨z1, z2⟩ := gx_nn (i := (N : Int)) (by omega) (by omega)
  refine va_newa (atype := .boolean) (N' := N) (a0 := (N, .inl (fun _ => Int32.ofInt 0))) E.1 E.2.1 (E.2.2.2.2.1 _ (gx_gd nw_ac_bool rfl)) rfl B.1.1 B.2.2.2.2.1 B.2.2.2.2.2.1 B.2.2.2.2.2.2 B.2.1 (fun _ => rfl) z1 (by rw [z2]; omega) (by show N * 1 ≤ _; omega) hrm.1 hrm.2 hd (fun q cA' H1 hK hP hD hS => ?_)
  have e1 : cA' = cA 1 := by
    have h1 : s.vm.findClass _ = some cA' := (hK.2 3 (cA', .boolean) rfl).2
    have h2 : s.vm.findClass _ = some (cA 1) := (B.1.1.2 1 (cA 1, .boolean) rfl).2
    exact Option.some.inj (h1.symm.trans h2)
  subst e1
  exact gx_made (k := (1, N)) (f := fun _ => 0) k (by show N ≤ _; omega) hr (fun j hj => by exact Or.inl rfl) E B (gx_t1 hs) hlo hh hP hD hS
theorem gx_newr {n : Int} {N ix : Nat} {K : Nat → gx_H → Option (Int × gx_H)} (hl : Cond.classLink M.1.cls ix "LetterExchange$State" ∈ lw_tbl) (hn : n = (N : Int)) (hN : N ≤ 1000000) (hrm : u.1 + 1 ≤ M.2.2.2.2.1.cells ∧ u.2 + N ≤ M.2.2.2.2.1.slots) (hd : decode M.2.1 pc = .ok (.anewarray ix, 3))
    (k : gx_Y M (u.1 + 1, u.2 + N) (pc + 3) l (gx_R h.1.length :: st) (h.1 ++ [(2, N)], gx_us h.2 h.1.length (fun _ => -1)) (K h.1.length (h.1 ++ [(2, N)], gx_us h.2 h.1.length (fun _ => -1)))) : gx_Y M u pc l (gx_I n :: st) h (gq_na h 2 N (-1) K) := by
  intro r h' hr p la e s m args below meth c D cA ad0 n0 A ad ls H locs E B hs hlo hh
  subst hn
  obtain ⟨z1, z2⟩ := gx_nn (i := (N : Int)) (by omega) (by omega)
  refine va_newq (N' := N) E.1 E.2.1 E.2.2.2.1 (E.2.2.2.2.1 _ (gx_gd hl rfl)) B.1.2.2 B.1.1 B.2.2.2.2.1 B.2.2.2.2.2.1 B.2.2.2.2.2.2 B.2.1 z1 (by rw [z2]; omega) (by omega) hrm.1 hrm.2 hd (fun q cA' H1 hK hP hD hS => ?_)
  have e1 : cA' = cA 2 := by
    obtain ⟨kA, comp, -, -, -, h1⟩ := (hK.2 3 (cA', .object "LetterExchange$State") rfl).2
    obtain ⟨kA2, comp2, -, -, -, h2⟩ := (B.1.1.2 2 (cA 2, .object "LetterExchange$State") rfl).2
    exact Option.some.inj (h1.symm.trans h2)
  subst e1
  have e2 : (Sum.inl (cA 2, N, .inr (.inr (.inr (.inr (fun _ => none))))) : va_E) = gx_c cA ad (2, N) (fun _ => -1) := by
    show _ = Sum.inl (cA 2, N, _)
    have : gx_rf ad N (fun _ => -1) = fun _ => none := by
      funext j
      unfold gx_rf
      by_cases hj : j < N
      · rw [if_pos hj, if_pos (show (-1 : Int) < 0 by omega)]
      · rw [if_neg hj]
    rw [this]
  rw [e2] at hP hD
  exact gx_made (k := (2, N)) (f := fun _ => -1) k (by show N ≤ _; omega) hr (fun j hj => by show (-1 : Int) < _; omega) E B (gx_t1 hs) hlo hh hP hD hS
theorem gx_aast {o b ci : Nat} {i : Int} {q : vw_C} {K : gx_H → Option (Int × gx_H)} (hcl : gx_cls[ci]? = some q) (hq0 : q.1 = "LetterExchange$State") (hd : decode M.2.1 pc = .ok (.aastore, 1)) (kk : gx_Y M u (pc + 1) l st (h.1, gx_up h.2 o i.toNat (b : Int)) (K (h.1, gx_up h.2 o i.toNat (b : Int)))) : gx_Y M u pc l (gx_R b :: gx_I i :: gx_R o :: st) h (gq_aas h o i b ci K) := by
  intro r h' hr p la e s m args below meth c D cA ad0 n0 A ad ls H locs E B hs hlo hh
  obtain ⟨⟨t, n⟩, hq, hr0⟩ := gq_m hr
  obtain ⟨⟨t1, n1⟩, hq1, hr1⟩ := gq_m hr0
  obtain ⟨⟨rfl, h0, h1, rfl⟩, hr2⟩ := gq_i hr1
  have h1 : i < (n : Int) := h1
  have hat : (gx_W cA ad h)[o]? = some (ad o, .inl (cA 2, n, .inr (.inr (.inr (.inr (gx_rf ad n (h.2 o))))))) := gx_W_at hq
  have hatb : (gx_W cA ad h)[b]? = some (ad b, .inr (ci, gx_fs ad ci n1 (h.2 b))) := gx_W_at hq1
  obtain ⟨hin, hc⟩ := gx_in h0 h1 (B.2.2.2.1 o _ hq).1
  refine va_astq E.1 E.2.1 B.1.1 B.2.2.2.2.1 B.2.2.2.2.2.1 B.2.2.2.2.2.2 o 2 b ci (r := q) hat (by rw [hq0]; rfl) hatb hcl hin hd (fun H1 locs1 hP hD hS => ?_)
  have e1 : va_up (gx_rf ad n (h.2 o)) (Int32.ofInt i).toNatClampNeg (some (ad b)) = gx_rf ad n (gx_u1 (h.2 o) i.toNat (b : Int)) := by
    rw [hc]
    funext j
    unfold va_up gx_rf gx_u1
    by_cases e : j = i.toNat
    · rw [if_pos e, if_pos (by omega), if_pos e, if_neg (by omega)]; rfl
    · rw [if_neg e, if_neg e]
  rw [e1] at hP hD
  have e2 := gx_W_set (cA := cA) (ad := ad) hq (gx_u1 (h.2 o) i.toNat (b : Int))
  have hP1 : va_P D gx_cls (gx_W cA ad (h.1, gx_up h.2 o i.toNat (b : Int))) H1 := by rw [gx_up, ← e2]; exact hP
  have hD1 : va_D A (gx_W cA ad (h.1, gx_up h.2 o i.toNat (b : Int))) := by rw [gx_up, ← e2]; exact hD
  have hb := gx_lt hq1
  exact kk r h' hr2 p la e s m args below meth c D cA ad0 n0 A ad ls H1 locs1 E ⟨B.1, B.2.1, B.2.2.1, gx_ok_up B.2.2.2.1 hq (show (b : Int) < _ by omega), hP1, hD1, hS⟩ (gx_t1 (gx_t2 hs)) hlo hh
variable {ci k ix o : Nat} {C : String} {T : u_T} {N : Nat} {ty : Nat → FieldType}
theorem gx_putFr {b : Nat} {K : gx_H → Option (Int × gx_H)} (g : gx_CL ci C T N ty) (hN : k < N) (hl : Cond.fieldLink M.1.cls ix C (T k).2.1 (T k).2.2.1 ∈ lw_tbl) (hf : (T k).2.2.2 = true) (hnm : M.1.name = "<init>") (hC : M.1.cls = C) (ht : gx_fty ci k = 3) (hd : decode M.2.1 pc = .ok (.putfield ix, 3)) (kk : gx_Y M u (pc + 3) l st (h.1, gx_up h.2 o k (b : Int)) (K (h.1, gx_up h.2 o k (b : Int)))) : gx_Y M u pc l (gx_R b :: gx_R o :: st) h (gq_put True h o ci k (b : Int) K) := by
  intro r h' hr
  obtain ⟨⟨t, n⟩, hq, hr1⟩ := gq_m hr
  obtain ⟨⟨rfl, hkn, -⟩, hr2⟩ := gq_i hr1
  exact gx_putF (v := (b : Int)) hq hkn hN g hl hf hnm hC hd (fun ad => by rw [ht]; exact gx_fref) (fun hb => by rw [ht]; show (b : Int) < _; have : b < h.1.length := hb; omega) kk r h' hr2
end GXN
end
section
/-! rows in the shape that the printed walks use -/
theorem gx_none {M : gx_M} {u : Nat × Nat} {pc : Nat} {l : List (Option gx_V)} {st : List gx_V} {h : gx_H} : gx_Y M u pc l st h none := fun _ _ hr => by cases hr
theorem gx_less' {M : gx_M} {u : Nat × Nat} {pc : Nat} {l l' : List (Option gx_V)} {st : List gx_V} {h : gx_H} {res : Option (Int × gx_H)} (k : gx_Y M u pc l' st h res) (hl : gx_le l' l) : gx_Y M u pc l st h res := gx_less hl k
theorem gx_il {a : Int} (h : gx_i a) : gx_l a := ⟨by have := h.1; omega, by have := h.2; omega⟩
theorem gx_toI (x : Int32) : gx_i x.toInt := ⟨by have := Int32.le_toInt x; omega, by have := Int32.toInt_lt x; omega⟩
theorem gx_toL (x : Int64) : gx_l x.toInt := ⟨by have := Int64.le_toInt x; omega, by have := Int64.toInt_lt x; omega⟩
theorem gx_cmpI (a b : Int) : gx_i (gq_cmp a b) := by
  unfold gq_cmp
  split
  · decide
  · split <;> decide
def gx_fu : Nat := 1000000
section GXU
variable {M : gx_M} {u : Nat × Nat} {pc : Nat} {l : List (Option gx_V)} {st : List gx_V} {h : gx_H} {ci k ix o : Nat} {C : String} {T : u_T} {N : Nat} {ty : Nat → FieldType}
theorem gx_geti {K : Int → Option (Int × gx_H)} (g : gx_CL ci C T N ty) (hN : k < N) (hl : Cond.fieldLink M.1.cls ix C (T k).2.1 (T k).2.2.1 ∈ lw_tbl) (ht : gx_fty ci k = 0 ∨ gx_fty ci k = 1) (hd : decode M.2.1 pc = .ok (.getfield ix, 3)) (kk : gx_i (h.2 o k) → gx_Y M u (pc + 3) l (gx_I (h.2 o k) :: st) h (K (h.2 o k))) : gx_Y M u pc l (gx_R o :: st) h (gq_get h o ci k K) := by
  intro r h' hr p la e s m args below meth c D cA ad0 n0 A ad ls H locs E B hs hlo hh
  obtain ⟨⟨t, n⟩, hq, hr1⟩ := gq_m hr
  obtain ⟨⟨rfl, hkn⟩, hr2⟩ := gq_i hr1
  have h1 : gx_sl h.1.length (gx_fty ci k) (h.2 o k) := (B.2.2.2.1 o _ hq).2 k hkn
  have hi : gx_i (h.2 o k) := by
    rcases ht with e | e
    · rw [e] at h1; exact h1
    · rw [e] at h1; rcases h1 with z | z <;> rw [z] <;> decide
  exact gx_get g hN hl ht hd (kk hi) r h' hr p la e s m args below meth c D cA ad0 n0 A ad ls H locs E B hs hlo hh
theorem gx_getL {K : Int → Option (Int × gx_H)} (g : gx_CL ci C T N ty) (hN : k < N) (hl : Cond.fieldLink M.1.cls ix C (T k).2.1 (T k).2.2.1 ∈ lw_tbl) (ht : gx_fty ci k = 2) (hd : decode M.2.1 pc = .ok (.getfield ix, 3)) (kk : gx_l (h.2 o k) → gx_Y M u (pc + 3) l (gx_L (h.2 o k) :: st) h (K (h.2 o k))) : gx_Y M u pc l (gx_R o :: st) h (gq_get h o ci k K) := by
  intro r h' hr p la e s m args below meth c D cA ad0 n0 A ad ls H locs E B hs hlo hh
  obtain ⟨⟨t, n⟩, hq, hr1⟩ := gq_m hr
  obtain ⟨⟨rfl, hkn⟩, hr2⟩ := gq_i hr1
  have h1 : gx_sl h.1.length (gx_fty ci k) (h.2 o k) := (B.2.2.2.1 o _ hq).2 k hkn
  rw [ht] at h1
  exact gx_getl g hN hl ht hd (kk h1) r h' hr p la e s m args below meth c D cA ad0 n0 A ad ls H locs E B hs hlo hh
theorem gx_ialdi {i : Int} {K : Int → Option (Int × gx_H)} (hd : decode M.2.1 pc = .ok (.iaload, 1)) (kk : gx_i (h.2 o i.toNat) → gx_Y M u (pc + 1) l (gx_I (h.2 o i.toNat) :: st) h (K (h.2 o i.toNat))) : gx_Y M u pc l (gx_I i :: gx_R o :: st) h (gq_ald 0 h o i K) := by
  intro r h' hr p la e s m args below meth c D cA ad0 n0 A ad ls H locs E B hs hlo hh
  obtain ⟨⟨t, n⟩, hq, hr1⟩ := gq_m hr
  obtain ⟨⟨rfl, h0, h1⟩, hr2⟩ := gq_i hr1
  have h1 : i < (n : Int) := h1
  exact gx_iald hd (kk ((B.2.2.2.1 o _ hq).2 i.toNat (show i.toNat < n by omega))) r h' hr p la e s m args below meth c D cA ad0 n0 A ad ls H locs E B hs hlo hh
theorem gx_zaldi {i : Int} {K : Int → Option (Int × gx_H)} (hd : decode M.2.1 pc = .ok (.baload, 1)) (kk : gx_i (h.2 o i.toNat) → gx_Y M u (pc + 1) l (gx_I (h.2 o i.toNat) :: st) h (K (h.2 o i.toNat))) : gx_Y M u pc l (gx_I i :: gx_R o :: st) h (gq_ald 1 h o i K) := by
  intro r h' hr p la e s m args below meth c D cA ad0 n0 A ad ls H locs E B hs hlo hh
  obtain ⟨⟨t, n⟩, hq, hr1⟩ := gq_m hr
  obtain ⟨⟨rfl, h0, h1⟩, hr2⟩ := gq_i hr1
  have h1 : i < (n : Int) := h1
  have h2 : gx_sl h.1.length 1 (h.2 o i.toNat) := (B.2.2.2.1 o _ hq).2 i.toNat (show i.toNat < n by omega)
  exact gx_zald hd (kk (by rcases h2 with z | z <;> rw [z] <;> decide)) r h' hr p la e s m args below meth c D cA ad0 n0 A ad ls H locs E B hs hlo hh
end GXU
def gx_VK (Mc : gx_M) (n ci : Nat) : Prop := gx_CK Mc n ∧ Cond.instanceMethod Mc.1 ∈ lw_tbl ∧ Cond.selects Mc.1.cls Mc.1 Mc.1 ∈ lw_tbl ∧ ∃ q, gx_cls[ci]? = some q ∧ q.1 = Mc.1.cls
def gx_SK (Mc : gx_M) (n : Nat) : Prop := gx_CK Mc n ∧ Cond.static Mc.1 ∈ lw_tbl
def gx_IK (Mc : gx_M) : Prop := gx_CK Mc 0 ∧ Cond.instanceMethod Mc.1 ∈ lw_tbl ∧ Mc.1.name = "<init>" ∧ Mc.2.2.2.1 = none
section GXX
variable {M Mc : gx_M} {u u' : Nat × Nat} {pc : Nat} {l : List (Option gx_V)} {st : List gx_V} {h : gx_H} {ix : Nat} {x : Option (Int × gx_H)} {K : Int → gx_H → Option (Int × gx_H)} {w1 w2 w3 w4 w5 : gx_V} {ty : FieldType} {o ci : Nat}
theorem gx_cVi0 (hM : ∀ r h1, x = some (r, h1) → gx_Met Mc [gx_R o] h r h1) (vk : gx_VK Mc 0 ci) (hl : Cond.methodLink M.1.cls ix Mc.1 ∈ lw_tbl) (hret : Mc.2.2.2.1 = some ty) (hu : (u.1 + Mc.2.2.2.2.2.1, u.2 + Mc.2.2.2.2.2.2) = u') (hrm : gx_rm M Mc u) (h8 : gx_cs st ≤ 8) (hd : decode M.2.1 pc = .ok (.invokevirtual ix, 3)) (k : ∀ r h1, gx_Y M u' (pc + 3) l (gx_I r :: st) h1 (K r h1)) : gx_Y M u pc l (gx_R o :: st) h (gq_cv h o ci x K) := by
  obtain ⟨ck, hin, hsel, q, hcl, hq⟩ := vk
  subst hu
  exact gx_callV (avs := []) hM ck hin hsel hcl hq hl rfl hrm h8 hd (fun r h1 => by rw [hret]; exact k r h1)
theorem gx_cVv0 (hM : ∀ r h1, x = some (r, h1) → gx_Met Mc [gx_R o] h r h1) (vk : gx_VK Mc 0 ci) (hl : Cond.methodLink M.1.cls ix Mc.1 ∈ lw_tbl) (hret : Mc.2.2.2.1 = none) (hu : (u.1 + Mc.2.2.2.2.2.1, u.2 + Mc.2.2.2.2.2.2) = u') (hrm : gx_rm M Mc u) (h8 : gx_cs st ≤ 8) (hd : decode M.2.1 pc = .ok (.invokevirtual ix, 3)) (k : ∀ r h1, gx_Y M u' (pc + 3) l (st) h1 (K r h1)) : gx_Y M u pc l (gx_R o :: st) h (gq_cv h o ci x K) := by
  obtain ⟨ck, hin, hsel, q, hcl, hq⟩ := vk
  subst hu
  exact gx_callV (avs := []) hM ck hin hsel hcl hq hl rfl hrm h8 hd (fun r h1 => by rw [hret]; exact k r h1)
theorem gx_cVi1 (hM : ∀ r h1, x = some (r, h1) → gx_Met Mc [gx_R o, w1] h r h1) (vk : gx_VK Mc 1 ci) (hl : Cond.methodLink M.1.cls ix Mc.1 ∈ lw_tbl) (hret : Mc.2.2.2.1 = some ty) (hu : (u.1 + Mc.2.2.2.2.2.1, u.2 + Mc.2.2.2.2.2.2) = u') (hrm : gx_rm M Mc u) (h8 : gx_cs st ≤ 8) (hd : decode M.2.1 pc = .ok (.invokevirtual ix, 3)) (k : ∀ r h1, gx_Y M u' (pc + 3) l (gx_I r :: st) h1 (K r h1)) : gx_Y M u pc l (w1 :: gx_R o :: st) h (gq_cv h o ci x K) := by
  obtain ⟨ck, hin, hsel, q, hcl, hq⟩ := vk
  subst hu
  exact gx_callV (avs := [w1]) hM ck hin hsel hcl hq hl rfl hrm h8 hd (fun r h1 => by rw [hret]; exact k r h1)
theorem gx_cVv1 (hM : ∀ r h1, x = some (r, h1) → gx_Met Mc [gx_R o, w1] h r h1) (vk : gx_VK Mc 1 ci) (hl : Cond.methodLink M.1.cls ix Mc.1 ∈ lw_tbl) (hret : Mc.2.2.2.1 = none) (hu : (u.1 + Mc.2.2.2.2.2.1, u.2 + Mc.2.2.2.2.2.2) = u') (hrm : gx_rm M Mc u) (h8 : gx_cs st ≤ 8) (hd : decode M.2.1 pc = .ok (.invokevirtual ix, 3)) (k : ∀ r h1, gx_Y M u' (pc + 3) l (st) h1 (K r h1)) : gx_Y M u pc l (w1 :: gx_R o :: st) h (gq_cv h o ci x K) := by
  obtain ⟨ck, hin, hsel, q, hcl, hq⟩ := vk
  subst hu
  exact gx_callV (avs := [w1]) hM ck hin hsel hcl hq hl rfl hrm h8 hd (fun r h1 => by rw [hret]; exact k r h1)
theorem gx_cVi2 (hM : ∀ r h1, x = some (r, h1) → gx_Met Mc [gx_R o, w1, w2] h r h1) (vk : gx_VK Mc 2 ci) (hl : Cond.methodLink M.1.cls ix Mc.1 ∈ lw_tbl) (hret : Mc.2.2.2.1 = some ty) (hu : (u.1 + Mc.2.2.2.2.2.1, u.2 + Mc.2.2.2.2.2.2) = u') (hrm : gx_rm M Mc u) (h8 : gx_cs st ≤ 8) (hd : decode M.2.1 pc = .ok (.invokevirtual ix, 3)) (k : ∀ r h1, gx_Y M u' (pc + 3) l (gx_I r :: st) h1 (K r h1)) : gx_Y M u pc l (w2 :: w1 :: gx_R o :: st) h (gq_cv h o ci x K) := by
  obtain ⟨ck, hin, hsel, q, hcl, hq⟩ := vk
  subst hu
  exact gx_callV (avs := [w1, w2]) hM ck hin hsel hcl hq hl rfl hrm h8 hd (fun r h1 => by rw [hret]; exact k r h1)
theorem gx_cVv2 (hM : ∀ r h1, x = some (r, h1) → gx_Met Mc [gx_R o, w1, w2] h r h1) (vk : gx_VK Mc 2 ci) (hl : Cond.methodLink M.1.cls ix Mc.1 ∈ lw_tbl) (hret : Mc.2.2.2.1 = none) (hu : (u.1 + Mc.2.2.2.2.2.1, u.2 + Mc.2.2.2.2.2.2) = u') (hrm : gx_rm M Mc u) (h8 : gx_cs st ≤ 8) (hd : decode M.2.1 pc = .ok (.invokevirtual ix, 3)) (k : ∀ r h1, gx_Y M u' (pc + 3) l (st) h1 (K r h1)) : gx_Y M u pc l (w2 :: w1 :: gx_R o :: st) h (gq_cv h o ci x K) := by
  obtain ⟨ck, hin, hsel, q, hcl, hq⟩ := vk
  subst hu
  exact gx_callV (avs := [w1, w2]) hM ck hin hsel hcl hq hl rfl hrm h8 hd (fun r h1 => by rw [hret]; exact k r h1)
theorem gx_cVi3 (hM : ∀ r h1, x = some (r, h1) → gx_Met Mc [gx_R o, w1, w2, w3] h r h1) (vk : gx_VK Mc 3 ci) (hl : Cond.methodLink M.1.cls ix Mc.1 ∈ lw_tbl) (hret : Mc.2.2.2.1 = some ty) (hu : (u.1 + Mc.2.2.2.2.2.1, u.2 + Mc.2.2.2.2.2.2) = u') (hrm : gx_rm M Mc u) (h8 : gx_cs st ≤ 8) (hd : decode M.2.1 pc = .ok (.invokevirtual ix, 3)) (k : ∀ r h1, gx_Y M u' (pc + 3) l (gx_I r :: st) h1 (K r h1)) : gx_Y M u pc l (w3 :: w2 :: w1 :: gx_R o :: st) h (gq_cv h o ci x K) := by
  obtain ⟨ck, hin, hsel, q, hcl, hq⟩ := vk
  subst hu
  exact gx_callV (avs := [w1, w2, w3]) hM ck hin hsel hcl hq hl rfl hrm h8 hd (fun r h1 => by rw [hret]; exact k r h1)
theorem gx_cVv3 (hM : ∀ r h1, x = some (r, h1) → gx_Met Mc [gx_R o, w1, w2, w3] h r h1) (vk : gx_VK Mc 3 ci) (hl : Cond.methodLink M.1.cls ix Mc.1 ∈ lw_tbl) (hret : Mc.2.2.2.1 = none) (hu : (u.1 + Mc.2.2.2.2.2.1, u.2 + Mc.2.2.2.2.2.2) = u') (hrm : gx_rm M Mc u) (h8 : gx_cs st ≤ 8) (hd : decode M.2.1 pc = .ok (.invokevirtual ix, 3)) (k : ∀ r h1, gx_Y M u' (pc + 3) l (st) h1 (K r h1)) : gx_Y M u pc l (w3 :: w2 :: w1 :: gx_R o :: st) h (gq_cv h o ci x K) := by
  obtain ⟨ck, hin, hsel, q, hcl, hq⟩ := vk
  subst hu
  exact gx_callV (avs := [w1, w2, w3]) hM ck hin hsel hcl hq hl rfl hrm h8 hd (fun r h1 => by rw [hret]; exact k r h1)
theorem gx_cVi4 (hM : ∀ r h1, x = some (r, h1) → gx_Met Mc [gx_R o, w1, w2, w3, w4] h r h1) (vk : gx_VK Mc 4 ci) (hl : Cond.methodLink M.1.cls ix Mc.1 ∈ lw_tbl) (hret : Mc.2.2.2.1 = some ty) (hu : (u.1 + Mc.2.2.2.2.2.1, u.2 + Mc.2.2.2.2.2.2) = u') (hrm : gx_rm M Mc u) (h8 : gx_cs st ≤ 8) (hd : decode M.2.1 pc = .ok (.invokevirtual ix, 3)) (k : ∀ r h1, gx_Y M u' (pc + 3) l (gx_I r :: st) h1 (K r h1)) : gx_Y M u pc l (w4 :: w3 :: w2 :: w1 :: gx_R o :: st) h (gq_cv h o ci x K) := by
  obtain ⟨ck, hin, hsel, q, hcl, hq⟩ := vk
  subst hu
  exact gx_callV (avs := [w1, w2, w3, w4]) hM ck hin hsel hcl hq hl rfl hrm h8 hd (fun r h1 => by rw [hret]; exact k r h1)
theorem gx_cVv4 (hM : ∀ r h1, x = some (r, h1) → gx_Met Mc [gx_R o, w1, w2, w3, w4] h r h1) (vk : gx_VK Mc 4 ci) (hl : Cond.methodLink M.1.cls ix Mc.1 ∈ lw_tbl) (hret : Mc.2.2.2.1 = none) (hu : (u.1 + Mc.2.2.2.2.2.1, u.2 + Mc.2.2.2.2.2.2) = u') (hrm : gx_rm M Mc u) (h8 : gx_cs st ≤ 8) (hd : decode M.2.1 pc = .ok (.invokevirtual ix, 3)) (k : ∀ r h1, gx_Y M u' (pc + 3) l (st) h1 (K r h1)) : gx_Y M u pc l (w4 :: w3 :: w2 :: w1 :: gx_R o :: st) h (gq_cv h o ci x K) := by
  obtain ⟨ck, hin, hsel, q, hcl, hq⟩ := vk
  subst hu
  exact gx_callV (avs := [w1, w2, w3, w4]) hM ck hin hsel hcl hq hl rfl hrm h8 hd (fun r h1 => by rw [hret]; exact k r h1)
theorem gx_cVi5 (hM : ∀ r h1, x = some (r, h1) → gx_Met Mc [gx_R o, w1, w2, w3, w4, w5] h r h1) (vk : gx_VK Mc 5 ci) (hl : Cond.methodLink M.1.cls ix Mc.1 ∈ lw_tbl) (hret : Mc.2.2.2.1 = some ty) (hu : (u.1 + Mc.2.2.2.2.2.1, u.2 + Mc.2.2.2.2.2.2) = u') (hrm : gx_rm M Mc u) (h8 : gx_cs st ≤ 8) (hd : decode M.2.1 pc = .ok (.invokevirtual ix, 3)) (k : ∀ r h1, gx_Y M u' (pc + 3) l (gx_I r :: st) h1 (K r h1)) : gx_Y M u pc l (w5 :: w4 :: w3 :: w2 :: w1 :: gx_R o :: st) h (gq_cv h o ci x K) := by
  obtain ⟨ck, hin, hsel, q, hcl, hq⟩ := vk
  subst hu
  exact gx_callV (avs := [w1, w2, w3, w4, w5]) hM ck hin hsel hcl hq hl rfl hrm h8 hd (fun r h1 => by rw [hret]; exact k r h1)
theorem gx_cVv5 (hM : ∀ r h1, x = some (r, h1) → gx_Met Mc [gx_R o, w1, w2, w3, w4, w5] h r h1) (vk : gx_VK Mc 5 ci) (hl : Cond.methodLink M.1.cls ix Mc.1 ∈ lw_tbl) (hret : Mc.2.2.2.1 = none) (hu : (u.1 + Mc.2.2.2.2.2.1, u.2 + Mc.2.2.2.2.2.2) = u') (hrm : gx_rm M Mc u) (h8 : gx_cs st ≤ 8) (hd : decode M.2.1 pc = .ok (.invokevirtual ix, 3)) (k : ∀ r h1, gx_Y M u' (pc + 3) l (st) h1 (K r h1)) : gx_Y M u pc l (w5 :: w4 :: w3 :: w2 :: w1 :: gx_R o :: st) h (gq_cv h o ci x K) := by
  obtain ⟨ck, hin, hsel, q, hcl, hq⟩ := vk
  subst hu
  exact gx_callV (avs := [w1, w2, w3, w4, w5]) hM ck hin hsel hcl hq hl rfl hrm h8 hd (fun r h1 => by rw [hret]; exact k r h1)
theorem gx_cSi1 (hM : ∀ r h1, x = some (r, h1) → gx_Met Mc [w1] h r h1) (sk : gx_SK Mc 1) (hl : Cond.methodLink M.1.cls ix Mc.1 ∈ lw_tbl) (hret : Mc.2.2.2.1 = some ty) (hu : (u.1 + Mc.2.2.2.2.2.1, u.2 + Mc.2.2.2.2.2.2) = u') (hrm : gx_rm M Mc u) (h8 : gx_cs st ≤ 8) (hd : decode M.2.1 pc = .ok (.invokestatic ix, 3)) (k : ∀ r h1, gx_Y M u' (pc + 3) l (gx_I r :: st) h1 (K r h1)) : gx_Y M u pc l (w1 :: st) h (gq_call x K) := by
  subst hu
  exact gx_callS (avs := [w1]) hM sk.1 sk.2 hl rfl hrm h8 hd (fun r h1 => by rw [hret]; exact k r h1)
theorem gx_cSNi1 (hM : ∀ r h1, x = some (r, h1) → gx_Met Mc [w1] h r h1) (sk : gx_SK Mc 1) (hl : Cond.methodLinkNest M.1.cls ix Mc.1 "LetterExchange" ∈ lw_tbl) (hret : Mc.2.2.2.1 = some ty) (hu : (u.1 + Mc.2.2.2.2.2.1, u.2 + Mc.2.2.2.2.2.2) = u') (hrm : gx_rm M Mc u) (h8 : gx_cs st ≤ 8) (hd : decode M.2.1 pc = .ok (.invokestatic ix, 3)) (k : ∀ r h1, gx_Y M u' (pc + 3) l (gx_I r :: st) h1 (K r h1)) : gx_Y M u pc l (w1 :: st) h (gq_call x K) := by
  subst hu
  exact gx_callSN (avs := [w1]) hM sk.1 sk.2 hl rfl hrm h8 hd (fun r h1 => by rw [hret]; exact k r h1)
theorem gx_cSv1 (hM : ∀ r h1, x = some (r, h1) → gx_Met Mc [w1] h r h1) (sk : gx_SK Mc 1) (hl : Cond.methodLink M.1.cls ix Mc.1 ∈ lw_tbl) (hret : Mc.2.2.2.1 = none) (hu : (u.1 + Mc.2.2.2.2.2.1, u.2 + Mc.2.2.2.2.2.2) = u') (hrm : gx_rm M Mc u) (h8 : gx_cs st ≤ 8) (hd : decode M.2.1 pc = .ok (.invokestatic ix, 3)) (k : ∀ r h1, gx_Y M u' (pc + 3) l (st) h1 (K r h1)) : gx_Y M u pc l (w1 :: st) h (gq_call x K) := by
  subst hu
  exact gx_callS (avs := [w1]) hM sk.1 sk.2 hl rfl hrm h8 hd (fun r h1 => by rw [hret]; exact k r h1)
theorem gx_cSNv1 (hM : ∀ r h1, x = some (r, h1) → gx_Met Mc [w1] h r h1) (sk : gx_SK Mc 1) (hl : Cond.methodLinkNest M.1.cls ix Mc.1 "LetterExchange" ∈ lw_tbl) (hret : Mc.2.2.2.1 = none) (hu : (u.1 + Mc.2.2.2.2.2.1, u.2 + Mc.2.2.2.2.2.2) = u') (hrm : gx_rm M Mc u) (h8 : gx_cs st ≤ 8) (hd : decode M.2.1 pc = .ok (.invokestatic ix, 3)) (k : ∀ r h1, gx_Y M u' (pc + 3) l (st) h1 (K r h1)) : gx_Y M u pc l (w1 :: st) h (gq_call x K) := by
  subst hu
  exact gx_callSN (avs := [w1]) hM sk.1 sk.2 hl rfl hrm h8 hd (fun r h1 => by rw [hret]; exact k r h1)
theorem gx_cSi2 (hM : ∀ r h1, x = some (r, h1) → gx_Met Mc [w1, w2] h r h1) (sk : gx_SK Mc 2) (hl : Cond.methodLink M.1.cls ix Mc.1 ∈ lw_tbl) (hret : Mc.2.2.2.1 = some ty) (hu : (u.1 + Mc.2.2.2.2.2.1, u.2 + Mc.2.2.2.2.2.2) = u') (hrm : gx_rm M Mc u) (h8 : gx_cs st ≤ 8) (hd : decode M.2.1 pc = .ok (.invokestatic ix, 3)) (k : ∀ r h1, gx_Y M u' (pc + 3) l (gx_I r :: st) h1 (K r h1)) : gx_Y M u pc l (w2 :: w1 :: st) h (gq_call x K) := by
  subst hu
  exact gx_callS (avs := [w1, w2]) hM sk.1 sk.2 hl rfl hrm h8 hd (fun r h1 => by rw [hret]; exact k r h1)
theorem gx_cSNi2 (hM : ∀ r h1, x = some (r, h1) → gx_Met Mc [w1, w2] h r h1) (sk : gx_SK Mc 2) (hl : Cond.methodLinkNest M.1.cls ix Mc.1 "LetterExchange" ∈ lw_tbl) (hret : Mc.2.2.2.1 = some ty) (hu : (u.1 + Mc.2.2.2.2.2.1, u.2 + Mc.2.2.2.2.2.2) = u') (hrm : gx_rm M Mc u) (h8 : gx_cs st ≤ 8) (hd : decode M.2.1 pc = .ok (.invokestatic ix, 3)) (k : ∀ r h1, gx_Y M u' (pc + 3) l (gx_I r :: st) h1 (K r h1)) : gx_Y M u pc l (w2 :: w1 :: st) h (gq_call x K) := by
  subst hu
  exact gx_callSN (avs := [w1, w2]) hM sk.1 sk.2 hl rfl hrm h8 hd (fun r h1 => by rw [hret]; exact k r h1)
theorem gx_cSv2 (hM : ∀ r h1, x = some (r, h1) → gx_Met Mc [w1, w2] h r h1) (sk : gx_SK Mc 2) (hl : Cond.methodLink M.1.cls ix Mc.1 ∈ lw_tbl) (hret : Mc.2.2.2.1 = none) (hu : (u.1 + Mc.2.2.2.2.2.1, u.2 + Mc.2.2.2.2.2.2) = u') (hrm : gx_rm M Mc u) (h8 : gx_cs st ≤ 8) (hd : decode M.2.1 pc = .ok (.invokestatic ix, 3)) (k : ∀ r h1, gx_Y M u' (pc + 3) l (st) h1 (K r h1)) : gx_Y M u pc l (w2 :: w1 :: st) h (gq_call x K) := by
  subst hu
  exact gx_callS (avs := [w1, w2]) hM sk.1 sk.2 hl rfl hrm h8 hd (fun r h1 => by rw [hret]; exact k r h1)
theorem gx_cSNv2 (hM : ∀ r h1, x = some (r, h1) → gx_Met Mc [w1, w2] h r h1) (sk : gx_SK Mc 2) (hl : Cond.methodLinkNest M.1.cls ix Mc.1 "LetterExchange" ∈ lw_tbl) (hret : Mc.2.2.2.1 = none) (hu : (u.1 + Mc.2.2.2.2.2.1, u.2 + Mc.2.2.2.2.2.2) = u') (hrm : gx_rm M Mc u) (h8 : gx_cs st ≤ 8) (hd : decode M.2.1 pc = .ok (.invokestatic ix, 3)) (k : ∀ r h1, gx_Y M u' (pc + 3) l (st) h1 (K r h1)) : gx_Y M u pc l (w2 :: w1 :: st) h (gq_call x K) := by
  subst hu
  exact gx_callSN (avs := [w1, w2]) hM sk.1 sk.2 hl rfl hrm h8 hd (fun r h1 => by rw [hret]; exact k r h1)
theorem gx_cSi3 (hM : ∀ r h1, x = some (r, h1) → gx_Met Mc [w1, w2, w3] h r h1) (sk : gx_SK Mc 3) (hl : Cond.methodLink M.1.cls ix Mc.1 ∈ lw_tbl) (hret : Mc.2.2.2.1 = some ty) (hu : (u.1 + Mc.2.2.2.2.2.1, u.2 + Mc.2.2.2.2.2.2) = u') (hrm : gx_rm M Mc u) (h8 : gx_cs st ≤ 8) (hd : decode M.2.1 pc = .ok (.invokestatic ix, 3)) (k : ∀ r h1, gx_Y M u' (pc + 3) l (gx_I r :: st) h1 (K r h1)) : gx_Y M u pc l (w3 :: w2 :: w1 :: st) h (gq_call x K) := by
  subst hu
  exact gx_callS (avs := [w1, w2, w3]) hM sk.1 sk.2 hl rfl hrm h8 hd (fun r h1 => by rw [hret]; exact k r h1)
theorem gx_cSNi3 (hM : ∀ r h1, x = some (r, h1) → gx_Met Mc [w1, w2, w3] h r h1) (sk : gx_SK Mc 3) (hl : Cond.methodLinkNest M.1.cls ix Mc.1 "LetterExchange" ∈ lw_tbl) (hret : Mc.2.2.2.1 = some ty) (hu : (u.1 + Mc.2.2.2.2.2.1, u.2 + Mc.2.2.2.2.2.2) = u') (hrm : gx_rm M Mc u) (h8 : gx_cs st ≤ 8) (hd : decode M.2.1 pc = .ok (.invokestatic ix, 3)) (k : ∀ r h1, gx_Y M u' (pc + 3) l (gx_I r :: st) h1 (K r h1)) : gx_Y M u pc l (w3 :: w2 :: w1 :: st) h (gq_call x K) := by
  subst hu
  exact gx_callSN (avs := [w1, w2, w3]) hM sk.1 sk.2 hl rfl hrm h8 hd (fun r h1 => by rw [hret]; exact k r h1)
theorem gx_cSv3 (hM : ∀ r h1, x = some (r, h1) → gx_Met Mc [w1, w2, w3] h r h1) (sk : gx_SK Mc 3) (hl : Cond.methodLink M.1.cls ix Mc.1 ∈ lw_tbl) (hret : Mc.2.2.2.1 = none) (hu : (u.1 + Mc.2.2.2.2.2.1, u.2 + Mc.2.2.2.2.2.2) = u') (hrm : gx_rm M Mc u) (h8 : gx_cs st ≤ 8) (hd : decode M.2.1 pc = .ok (.invokestatic ix, 3)) (k : ∀ r h1, gx_Y M u' (pc + 3) l (st) h1 (K r h1)) : gx_Y M u pc l (w3 :: w2 :: w1 :: st) h (gq_call x K) := by
  subst hu
  exact gx_callS (avs := [w1, w2, w3]) hM sk.1 sk.2 hl rfl hrm h8 hd (fun r h1 => by rw [hret]; exact k r h1)
theorem gx_cSNv3 (hM : ∀ r h1, x = some (r, h1) → gx_Met Mc [w1, w2, w3] h r h1) (sk : gx_SK Mc 3) (hl : Cond.methodLinkNest M.1.cls ix Mc.1 "LetterExchange" ∈ lw_tbl) (hret : Mc.2.2.2.1 = none) (hu : (u.1 + Mc.2.2.2.2.2.1, u.2 + Mc.2.2.2.2.2.2) = u') (hrm : gx_rm M Mc u) (h8 : gx_cs st ≤ 8) (hd : decode M.2.1 pc = .ok (.invokestatic ix, 3)) (k : ∀ r h1, gx_Y M u' (pc + 3) l (st) h1 (K r h1)) : gx_Y M u pc l (w3 :: w2 :: w1 :: st) h (gq_call x K) := by
  subst hu
  exact gx_callSN (avs := [w1, w2, w3]) hM sk.1 sk.2 hl rfl hrm h8 hd (fun r h1 => by rw [hret]; exact k r h1)
theorem gx_cSi4 (hM : ∀ r h1, x = some (r, h1) → gx_Met Mc [w1, w2, w3, w4] h r h1) (sk : gx_SK Mc 4) (hl : Cond.methodLink M.1.cls ix Mc.1 ∈ lw_tbl) (hret : Mc.2.2.2.1 = some ty) (hu : (u.1 + Mc.2.2.2.2.2.1, u.2 + Mc.2.2.2.2.2.2) = u') (hrm : gx_rm M Mc u) (h8 : gx_cs st ≤ 8) (hd : decode M.2.1 pc = .ok (.invokestatic ix, 3)) (k : ∀ r h1, gx_Y M u' (pc + 3) l (gx_I r :: st) h1 (K r h1)) : gx_Y M u pc l (w4 :: w3 :: w2 :: w1 :: st) h (gq_call x K) := by
  subst hu
  exact gx_callS (avs := [w1, w2, w3, w4]) hM sk.1 sk.2 hl rfl hrm h8 hd (fun r h1 => by rw [hret]; exact k r h1)
theorem gx_cSNi4 (hM : ∀ r h1, x = some (r, h1) → gx_Met Mc [w1, w2, w3, w4] h r h1) (sk : gx_SK Mc 4) (hl : Cond.methodLinkNest M.1.cls ix Mc.1 "LetterExchange" ∈ lw_tbl) (hret : Mc.2.2.2.1 = some ty) (hu : (u.1 + Mc.2.2.2.2.2.1, u.2 + Mc.2.2.2.2.2.2) = u') (hrm : gx_rm M Mc u) (h8 : gx_cs st ≤ 8) (hd : decode M.2.1 pc = .ok (.invokestatic ix, 3)) (k : ∀ r h1, gx_Y M u' (pc + 3) l (gx_I r :: st) h1 (K r h1)) : gx_Y M u pc l (w4 :: w3 :: w2 :: w1 :: st) h (gq_call x K) := by
  subst hu
  exact gx_callSN (avs := [w1, w2, w3, w4]) hM sk.1 sk.2 hl rfl hrm h8 hd (fun r h1 => by rw [hret]; exact k r h1)
theorem gx_cSv4 (hM : ∀ r h1, x = some (r, h1) → gx_Met Mc [w1, w2, w3, w4] h r h1) (sk : gx_SK Mc 4) (hl : Cond.methodLink M.1.cls ix Mc.1 ∈ lw_tbl) (hret : Mc.2.2.2.1 = none) (hu : (u.1 + Mc.2.2.2.2.2.1, u.2 + Mc.2.2.2.2.2.2) = u') (hrm : gx_rm M Mc u) (h8 : gx_cs st ≤ 8) (hd : decode M.2.1 pc = .ok (.invokestatic ix, 3)) (k : ∀ r h1, gx_Y M u' (pc + 3) l (st) h1 (K r h1)) : gx_Y M u pc l (w4 :: w3 :: w2 :: w1 :: st) h (gq_call x K) := by
  subst hu
  exact gx_callS (avs := [w1, w2, w3, w4]) hM sk.1 sk.2 hl rfl hrm h8 hd (fun r h1 => by rw [hret]; exact k r h1)
theorem gx_cSNv4 (hM : ∀ r h1, x = some (r, h1) → gx_Met Mc [w1, w2, w3, w4] h r h1) (sk : gx_SK Mc 4) (hl : Cond.methodLinkNest M.1.cls ix Mc.1 "LetterExchange" ∈ lw_tbl) (hret : Mc.2.2.2.1 = none) (hu : (u.1 + Mc.2.2.2.2.2.1, u.2 + Mc.2.2.2.2.2.2) = u') (hrm : gx_rm M Mc u) (h8 : gx_cs st ≤ 8) (hd : decode M.2.1 pc = .ok (.invokestatic ix, 3)) (k : ∀ r h1, gx_Y M u' (pc + 3) l (st) h1 (K r h1)) : gx_Y M u pc l (w4 :: w3 :: w2 :: w1 :: st) h (gq_call x K) := by
  subst hu
  exact gx_callSN (avs := [w1, w2, w3, w4]) hM sk.1 sk.2 hl rfl hrm h8 hd (fun r h1 => by rw [hret]; exact k r h1)
theorem gx_cI (hM : ∀ r h1, x = some (r, h1) → gx_Met Mc [gx_R o] h r h1) (ik : gx_IK Mc) (hl : Cond.methodLink M.1.cls ix Mc.1 ∈ lw_tbl) (hu : (u.1 + Mc.2.2.2.2.2.1, u.2 + Mc.2.2.2.2.2.2) = u') (hrm : gx_rm M Mc u) (h8 : gx_cs st ≤ 8) (hd : decode M.2.1 pc = .ok (.invokespecial ix, 3)) (k : ∀ r h1, gx_Y M u' (pc + 3) l st h1 (K r h1)) : gx_Y M u pc l (gx_R o :: st) h (gq_call x K) := by
  subst hu
  exact gx_callI hM ik.1 ik.2.1 ik.2.2.1 ik.2.2.2 hl hrm h8 hd (fun r h1 => by rw [ik.2.2.2]; exact k r h1)
theorem gx_cIN (hM : ∀ r h1, x = some (r, h1) → gx_Met Mc [gx_R o] h r h1) (ik : gx_IK Mc) (hl : Cond.methodLinkNest M.1.cls ix Mc.1 "LetterExchange" ∈ lw_tbl) (hu : (u.1 + Mc.2.2.2.2.2.1, u.2 + Mc.2.2.2.2.2.2) = u') (hrm : gx_rm M Mc u) (h8 : gx_cs st ≤ 8) (hd : decode M.2.1 pc = .ok (.invokespecial ix, 3)) (k : ∀ r h1, gx_Y M u' (pc + 3) l st h1 (K r h1)) : gx_Y M u pc l (gx_R o :: st) h (gq_call x K) := by
  subst hu
  exact gx_callIN hM ik.1 ik.2.1 ik.2.2.1 ik.2.2.2 hl hrm h8 hd (fun r h1 => by rw [ik.2.2.2]; exact k r h1)
end GXX
theorem gx_lookd {a : Int} (h1 : ¬ a = 98) (h2 : ¬ a = 110) (h3 : ¬ a = 120) {x y z d : Int} : Op.lookupswitch.offset [(98, x), (110, y), (120, z)] d a = d := by
  simp [Op.lookupswitch.offset, h1, h2, h3, Ne.symm h1, Ne.symm h2, Ne.symm h3, eq_comm]
end
section
/-! links of methods, written by gen_meth.py -/
theorem ik_LE_init : gx_IK gm_LE_init := ⟨⟨List.mem_of_getElem? (i := 97) (by decide +kernel), List.mem_of_getElem? (i := 78) (by decide +kernel), by decide +kernel, rfl, rfl⟩, List.mem_of_getElem? (i := 96) (by decide +kernel), rfl, rfl⟩
theorem vk_LE_feed : gx_VK gm_LE_feed 1 0 := ⟨⟨List.mem_of_getElem? (i := 492) (by decide +kernel), List.mem_of_getElem? (i := 78) (by decide +kernel), by decide +kernel, rfl, rfl⟩, List.mem_of_getElem? (i := 490) (by decide +kernel), List.mem_of_getElem? (i := 491) (by decide +kernel), _, rfl, rfl⟩
theorem vk_LE_letters : gx_VK gm_LE_letters 0 0 := ⟨⟨List.mem_of_getElem? (i := 502) (by decide +kernel), List.mem_of_getElem? (i := 78) (by decide +kernel), by decide +kernel, rfl, rfl⟩, List.mem_of_getElem? (i := 500) (by decide +kernel), List.mem_of_getElem? (i := 501) (by decide +kernel), _, rfl, rfl⟩
theorem vk_LE_fault : gx_VK gm_LE_fault 0 0 := ⟨⟨List.mem_of_getElem? (i := 544) (by decide +kernel), List.mem_of_getElem? (i := 78) (by decide +kernel), by decide +kernel, rfl, rfl⟩, List.mem_of_getElem? (i := 542) (by decide +kernel), List.mem_of_getElem? (i := 543) (by decide +kernel), _, rfl, rfl⟩
theorem vk_LE_told : gx_VK gm_LE_told 1 0 := ⟨⟨List.mem_of_getElem? (i := 548) (by decide +kernel), List.mem_of_getElem? (i := 78) (by decide +kernel), by decide +kernel, rfl, rfl⟩, List.mem_of_getElem? (i := 546) (by decide +kernel), List.mem_of_getElem? (i := 547) (by decide +kernel), _, rfl, rfl⟩
theorem vk_LE_table : gx_VK gm_LE_table 2 0 := ⟨⟨List.mem_of_getElem? (i := 652) (by decide +kernel), List.mem_of_getElem? (i := 78) (by decide +kernel), by decide +kernel, rfl, rfl⟩, List.mem_of_getElem? (i := 650) (by decide +kernel), List.mem_of_getElem? (i := 651) (by decide +kernel), _, rfl, rfl⟩
theorem vk_LE_letter : gx_VK gm_LE_letter 2 0 := ⟨⟨List.mem_of_getElem? (i := 661) (by decide +kernel), List.mem_of_getElem? (i := 78) (by decide +kernel), by decide +kernel, rfl, rfl⟩, List.mem_of_getElem? (i := 659) (by decide +kernel), List.mem_of_getElem? (i := 660) (by decide +kernel), _, rfl, rfl⟩
theorem vk_LE_row : gx_VK gm_LE_row 3 0 := ⟨⟨List.mem_of_getElem? (i := 730) (by decide +kernel), List.mem_of_getElem? (i := 78) (by decide +kernel), by decide +kernel, rfl, rfl⟩, List.mem_of_getElem? (i := 728) (by decide +kernel), List.mem_of_getElem? (i := 729) (by decide +kernel), _, rfl, rfl⟩
theorem vk_LE_byTurns : gx_VK gm_LE_byTurns 2 0 := ⟨⟨List.mem_of_getElem? (i := 734) (by decide +kernel), List.mem_of_getElem? (i := 78) (by decide +kernel), by decide +kernel, rfl, rfl⟩, List.mem_of_getElem? (i := 732) (by decide +kernel), List.mem_of_getElem? (i := 733) (by decide +kernel), _, rfl, rfl⟩
theorem vk_LE_exchange : gx_VK gm_LE_exchange 1 0 := ⟨⟨List.mem_of_getElem? (i := 751) (by decide +kernel), List.mem_of_getElem? (i := 78) (by decide +kernel), by decide +kernel, rfl, rfl⟩, List.mem_of_getElem? (i := 749) (by decide +kernel), List.mem_of_getElem? (i := 750) (by decide +kernel), _, rfl, rfl⟩
theorem vk_LE_start : gx_VK gm_LE_start 0 0 := ⟨⟨List.mem_of_getElem? (i := 761) (by decide +kernel), List.mem_of_getElem? (i := 78) (by decide +kernel), by decide +kernel, rfl, rfl⟩, List.mem_of_getElem? (i := 759) (by decide +kernel), List.mem_of_getElem? (i := 760) (by decide +kernel), _, rfl, rfl⟩
theorem vk_LE_drift : gx_VK gm_LE_drift 1 0 := ⟨⟨List.mem_of_getElem? (i := 765) (by decide +kernel), List.mem_of_getElem? (i := 78) (by decide +kernel), by decide +kernel, rfl, rfl⟩, List.mem_of_getElem? (i := 763) (by decide +kernel), List.mem_of_getElem? (i := 764) (by decide +kernel), _, rfl, rfl⟩
theorem vk_LE_undo : gx_VK gm_LE_undo 1 0 := ⟨⟨List.mem_of_getElem? (i := 777) (by decide +kernel), List.mem_of_getElem? (i := 78) (by decide +kernel), by decide +kernel, rfl, rfl⟩, List.mem_of_getElem? (i := 775) (by decide +kernel), List.mem_of_getElem? (i := 776) (by decide +kernel), _, rfl, rfl⟩
theorem vk_LE_stand : gx_VK gm_LE_stand 2 0 := ⟨⟨List.mem_of_getElem? (i := 785) (by decide +kernel), List.mem_of_getElem? (i := 78) (by decide +kernel), by decide +kernel, rfl, rfl⟩, List.mem_of_getElem? (i := 783) (by decide +kernel), List.mem_of_getElem? (i := 784) (by decide +kernel), _, rfl, rfl⟩
theorem vk_LE_next : gx_VK gm_LE_next 2 0 := ⟨⟨List.mem_of_getElem? (i := 793) (by decide +kernel), List.mem_of_getElem? (i := 78) (by decide +kernel), by decide +kernel, rfl, rfl⟩, List.mem_of_getElem? (i := 791) (by decide +kernel), List.mem_of_getElem? (i := 792) (by decide +kernel), _, rfl, rfl⟩
theorem vk_LE_away : gx_VK gm_LE_away 1 0 := ⟨⟨List.mem_of_getElem? (i := 801) (by decide +kernel), List.mem_of_getElem? (i := 78) (by decide +kernel), by decide +kernel, rfl, rfl⟩, List.mem_of_getElem? (i := 799) (by decide +kernel), List.mem_of_getElem? (i := 800) (by decide +kernel), _, rfl, rfl⟩
theorem vk_LE_standRow : gx_VK gm_LE_standRow 3 0 := ⟨⟨List.mem_of_getElem? (i := 809) (by decide +kernel), List.mem_of_getElem? (i := 78) (by decide +kernel), by decide +kernel, rfl, rfl⟩, List.mem_of_getElem? (i := 807) (by decide +kernel), List.mem_of_getElem? (i := 808) (by decide +kernel), _, rfl, rfl⟩
theorem vk_LE_write : gx_VK gm_LE_write 2 0 := ⟨⟨List.mem_of_getElem? (i := 817) (by decide +kernel), List.mem_of_getElem? (i := 78) (by decide +kernel), by decide +kernel, rfl, rfl⟩, List.mem_of_getElem? (i := 815) (by decide +kernel), List.mem_of_getElem? (i := 816) (by decide +kernel), _, rfl, rfl⟩
theorem vk_LE_tear : gx_VK gm_LE_tear 0 0 := ⟨⟨List.mem_of_getElem? (i := 825) (by decide +kernel), List.mem_of_getElem? (i := 78) (by decide +kernel), by decide +kernel, rfl, rfl⟩, List.mem_of_getElem? (i := 823) (by decide +kernel), List.mem_of_getElem? (i := 824) (by decide +kernel), _, rfl, rfl⟩
theorem vk_LE_seed : gx_VK gm_LE_seed 1 0 := ⟨⟨List.mem_of_getElem? (i := 829) (by decide +kernel), List.mem_of_getElem? (i := 78) (by decide +kernel), by decide +kernel, rfl, rfl⟩, List.mem_of_getElem? (i := 827) (by decide +kernel), List.mem_of_getElem? (i := 828) (by decide +kernel), _, rfl, rfl⟩
theorem vk_LE_keep : gx_VK gm_LE_keep 1 0 := ⟨⟨List.mem_of_getElem? (i := 833) (by decide +kernel), List.mem_of_getElem? (i := 78) (by decide +kernel), by decide +kernel, rfl, rfl⟩, List.mem_of_getElem? (i := 831) (by decide +kernel), List.mem_of_getElem? (i := 832) (by decide +kernel), _, rfl, rfl⟩
theorem vk_LE_goBack : gx_VK gm_LE_goBack 1 0 := ⟨⟨List.mem_of_getElem? (i := 837) (by decide +kernel), List.mem_of_getElem? (i := 78) (by decide +kernel), by decide +kernel, rfl, rfl⟩, List.mem_of_getElem? (i := 835) (by decide +kernel), List.mem_of_getElem? (i := 836) (by decide +kernel), _, rfl, rfl⟩
theorem vk_LE_beginAsSpare : gx_VK gm_LE_beginAsSpare 0 0 := ⟨⟨List.mem_of_getElem? (i := 401) (by decide +kernel), List.mem_of_getElem? (i := 78) (by decide +kernel), by decide +kernel, rfl, rfl⟩, List.mem_of_getElem? (i := 400) (by decide +kernel), List.mem_of_getElem? (i := 0) (by decide +kernel), _, rfl, rfl⟩
theorem vk_LE_isNoLetter : gx_VK gm_LE_isNoLetter 1 0 := ⟨⟨List.mem_of_getElem? (i := 656) (by decide +kernel), List.mem_of_getElem? (i := 78) (by decide +kernel), by decide +kernel, rfl, rfl⟩, List.mem_of_getElem? (i := 655) (by decide +kernel), List.mem_of_getElem? (i := 23) (by decide +kernel), _, rfl, rfl⟩
theorem vk_LE_isOpen : gx_VK gm_LE_isOpen 0 0 := ⟨⟨List.mem_of_getElem? (i := 552) (by decide +kernel), List.mem_of_getElem? (i := 78) (by decide +kernel), by decide +kernel, rfl, rfl⟩, List.mem_of_getElem? (i := 551) (by decide +kernel), List.mem_of_getElem? (i := 10) (by decide +kernel), _, rfl, rfl⟩
theorem vk_LE_exchangesIntoSpare : gx_VK gm_LE_exchangesIntoSpare 1 0 := ⟨⟨List.mem_of_getElem? (i := 675) (by decide +kernel), List.mem_of_getElem? (i := 78) (by decide +kernel), by decide +kernel, rfl, rfl⟩, List.mem_of_getElem? (i := 674) (by decide +kernel), List.mem_of_getElem? (i := 25) (by decide +kernel), _, rfl, rfl⟩
theorem vk_LE_takeSpare : gx_VK gm_LE_takeSpare 0 0 := ⟨⟨List.mem_of_getElem? (i := 417) (by decide +kernel), List.mem_of_getElem? (i := 78) (by decide +kernel), by decide +kernel, rfl, rfl⟩, List.mem_of_getElem? (i := 416) (by decide +kernel), List.mem_of_getElem? (i := 1) (by decide +kernel), _, rfl, rfl⟩
theorem vk_LE_placeNow : gx_VK gm_LE_placeNow 1 0 := ⟨⟨List.mem_of_getElem? (i := 669) (by decide +kernel), List.mem_of_getElem? (i := 78) (by decide +kernel), by decide +kernel, rfl, rfl⟩, List.mem_of_getElem? (i := 668) (by decide +kernel), List.mem_of_getElem? (i := 24) (by decide +kernel), _, rfl, rfl⟩
theorem vk_LE_draw : gx_VK gm_LE_draw 1 0 := ⟨⟨List.mem_of_getElem? (i := 769) (by decide +kernel), List.mem_of_getElem? (i := 78) (by decide +kernel), by decide +kernel, rfl, rfl⟩, List.mem_of_getElem? (i := 768) (by decide +kernel), List.mem_of_getElem? (i := 28) (by decide +kernel), _, rfl, rfl⟩
theorem sk_LE_cell : gx_SK gm_LE_cell 2 := ⟨⟨List.mem_of_getElem? (i := 392) (by decide +kernel), List.mem_of_getElem? (i := 78) (by decide +kernel), by decide +kernel, rfl, rfl⟩, List.mem_of_getElem? (i := 391) (by decide +kernel)⟩
theorem sk_LE_hasNumberBeyond : gx_SK gm_LE_hasNumberBeyond 2 := ⟨⟨List.mem_of_getElem? (i := 607) (by decide +kernel), List.mem_of_getElem? (i := 78) (by decide +kernel), by decide +kernel, rfl, rfl⟩, List.mem_of_getElem? (i := 606) (by decide +kernel)⟩
theorem sk_LE_codeOf : gx_SK gm_LE_codeOf 3 := ⟨⟨List.mem_of_getElem? (i := 567) (by decide +kernel), List.mem_of_getElem? (i := 78) (by decide +kernel), by decide +kernel, rfl, rfl⟩, List.mem_of_getElem? (i := 566) (by decide +kernel)⟩
theorem sk_LE_placeAmong : gx_SK gm_LE_placeAmong 3 := ⟨⟨List.mem_of_getElem? (i := 571) (by decide +kernel), List.mem_of_getElem? (i := 78) (by decide +kernel), by decide +kernel, rfl, rfl⟩, List.mem_of_getElem? (i := 570) (by decide +kernel)⟩
theorem ik_MD_init : gx_IK gm_MD_init := ⟨⟨List.mem_of_getElem? (i := 842) (by decide +kernel), List.mem_of_getElem? (i := 91) (by decide +kernel), by decide +kernel, rfl, rfl⟩, List.mem_of_getElem? (i := 841) (by decide +kernel), rfl, rfl⟩
theorem sk_MD_in : gx_SK gm_MD_in 3 := ⟨⟨List.mem_of_getElem? (i := 1004) (by decide +kernel), List.mem_of_getElem? (i := 91) (by decide +kernel), by decide +kernel, rfl, rfl⟩, List.mem_of_getElem? (i := 1003) (by decide +kernel)⟩
theorem vk_MD_isLetter : gx_VK gm_MD_isLetter 1 1 := ⟨⟨List.mem_of_getElem? (i := 1026) (by decide +kernel), List.mem_of_getElem? (i := 91) (by decide +kernel), by decide +kernel, rfl, rfl⟩, List.mem_of_getElem? (i := 1025) (by decide +kernel), List.mem_of_getElem? (i := 47) (by decide +kernel), _, rfl, rfl⟩
theorem vk_MD_copyRow : gx_VK gm_MD_copyRow 2 1 := ⟨⟨List.mem_of_getElem? (i := 851) (by decide +kernel), List.mem_of_getElem? (i := 91) (by decide +kernel), by decide +kernel, rfl, rfl⟩, List.mem_of_getElem? (i := 850) (by decide +kernel), List.mem_of_getElem? (i := 30) (by decide +kernel), _, rfl, rfl⟩
theorem vk_MD_b : gx_VK gm_MD_b 3 1 := ⟨⟨List.mem_of_getElem? (i := 962) (by decide +kernel), List.mem_of_getElem? (i := 91) (by decide +kernel), by decide +kernel, rfl, rfl⟩, List.mem_of_getElem? (i := 961) (by decide +kernel), List.mem_of_getElem? (i := 34) (by decide +kernel), _, rfl, rfl⟩
theorem vk_MD_areWeights : gx_VK gm_MD_areWeights 0 1 := ⟨⟨List.mem_of_getElem? (i := 958) (by decide +kernel), List.mem_of_getElem? (i := 91) (by decide +kernel), by decide +kernel, rfl, rfl⟩, List.mem_of_getElem? (i := 957) (by decide +kernel), List.mem_of_getElem? (i := 33) (by decide +kernel), _, rfl, rfl⟩
theorem vk_MD_isWell : gx_VK gm_MD_isWell 0 1 := ⟨⟨List.mem_of_getElem? (i := 954) (by decide +kernel), List.mem_of_getElem? (i := 91) (by decide +kernel), by decide +kernel, rfl, rfl⟩, List.mem_of_getElem? (i := 953) (by decide +kernel), List.mem_of_getElem? (i := 32) (by decide +kernel), _, rfl, rfl⟩
theorem vk_MD_shorten : gx_VK gm_MD_shorten 0 1 := ⟨⟨List.mem_of_getElem? (i := 1151) (by decide +kernel), List.mem_of_getElem? (i := 91) (by decide +kernel), by decide +kernel, rfl, rfl⟩, List.mem_of_getElem? (i := 1150) (by decide +kernel), List.mem_of_getElem? (i := 69) (by decide +kernel), _, rfl, rfl⟩
theorem vk_MD_times : gx_VK gm_MD_times 2 1 := ⟨⟨List.mem_of_getElem? (i := 1147) (by decide +kernel), List.mem_of_getElem? (i := 91) (by decide +kernel), by decide +kernel, rfl, rfl⟩, List.mem_of_getElem? (i := 1146) (by decide +kernel), List.mem_of_getElem? (i := 68) (by decide +kernel), _, rfl, rfl⟩
theorem vk_MD_product : gx_VK gm_MD_product 3 1 := ⟨⟨List.mem_of_getElem? (i := 1143) (by decide +kernel), List.mem_of_getElem? (i := 91) (by decide +kernel), by decide +kernel, rfl, rfl⟩, List.mem_of_getElem? (i := 1142) (by decide +kernel), List.mem_of_getElem? (i := 67) (by decide +kernel), _, rfl, rfl⟩
theorem vk_MD_worth : gx_VK gm_MD_worth 2 1 := ⟨⟨List.mem_of_getElem? (i := 1139) (by decide +kernel), List.mem_of_getElem? (i := 91) (by decide +kernel), by decide +kernel, rfl, rfl⟩, List.mem_of_getElem? (i := 1138) (by decide +kernel), List.mem_of_getElem? (i := 66) (by decide +kernel), _, rfl, rfl⟩
theorem vk_MD_lay : gx_VK gm_MD_lay 2 1 := ⟨⟨List.mem_of_getElem? (i := 1001) (by decide +kernel), List.mem_of_getElem? (i := 91) (by decide +kernel), by decide +kernel, rfl, rfl⟩, List.mem_of_getElem? (i := 1000) (by decide +kernel), List.mem_of_getElem? (i := 43) (by decide +kernel), _, rfl, rfl⟩
theorem sk_MD_both : gx_SK gm_MD_both 2 := ⟨⟨List.mem_of_getElem? (i := 997) (by decide +kernel), List.mem_of_getElem? (i := 91) (by decide +kernel), by decide +kernel, rfl, rfl⟩, List.mem_of_getElem? (i := 996) (by decide +kernel)⟩
theorem vk_MD_turned : gx_VK gm_MD_turned 3 1 := ⟨⟨List.mem_of_getElem? (i := 1156) (by decide +kernel), List.mem_of_getElem? (i := 91) (by decide +kernel), by decide +kernel, rfl, rfl⟩, List.mem_of_getElem? (i := 1155) (by decide +kernel), List.mem_of_getElem? (i := 70) (by decide +kernel), _, rfl, rfl⟩
theorem vk_MD_gathered : gx_VK gm_MD_gathered 5 1 := ⟨⟨List.mem_of_getElem? (i := 994) (by decide +kernel), List.mem_of_getElem? (i := 91) (by decide +kernel), by decide +kernel, rfl, rfl⟩, List.mem_of_getElem? (i := 993) (by decide +kernel), List.mem_of_getElem? (i := 42) (by decide +kernel), _, rfl, rfl⟩
theorem vk_MD_denominators : gx_VK gm_MD_denominators 3 1 := ⟨⟨List.mem_of_getElem? (i := 1160) (by decide +kernel), List.mem_of_getElem? (i := 91) (by decide +kernel), by decide +kernel, rfl, rfl⟩, List.mem_of_getElem? (i := 1159) (by decide +kernel), List.mem_of_getElem? (i := 71) (by decide +kernel), _, rfl, rfl⟩
theorem vk_MD_signs : gx_VK gm_MD_signs 3 1 := ⟨⟨List.mem_of_getElem? (i := 1164) (by decide +kernel), List.mem_of_getElem? (i := 91) (by decide +kernel), by decide +kernel, rfl, rfl⟩, List.mem_of_getElem? (i := 1163) (by decide +kernel), List.mem_of_getElem? (i := 72) (by decide +kernel), _, rfl, rfl⟩
theorem vk_MD_degrees : gx_VK gm_MD_degrees 3 1 := ⟨⟨List.mem_of_getElem? (i := 1168) (by decide +kernel), List.mem_of_getElem? (i := 91) (by decide +kernel), by decide +kernel, rfl, rfl⟩, List.mem_of_getElem? (i := 1167) (by decide +kernel), List.mem_of_getElem? (i := 73) (by decide +kernel), _, rfl, rfl⟩
theorem vk_MD_tries : gx_VK gm_MD_tries 1 1 := ⟨⟨List.mem_of_getElem? (i := 1135) (by decide +kernel), List.mem_of_getElem? (i := 91) (by decide +kernel), by decide +kernel, rfl, rfl⟩, List.mem_of_getElem? (i := 1134) (by decide +kernel), List.mem_of_getElem? (i := 65) (by decide +kernel), _, rfl, rfl⟩
theorem vk_MD_isBefore : gx_VK gm_MD_isBefore 3 1 := ⟨⟨List.mem_of_getElem? (i := 978) (by decide +kernel), List.mem_of_getElem? (i := 91) (by decide +kernel), by decide +kernel, rfl, rfl⟩, List.mem_of_getElem? (i := 977) (by decide +kernel), List.mem_of_getElem? (i := 38) (by decide +kernel), _, rfl, rfl⟩
theorem vk_MD_placeOf : gx_VK gm_MD_placeOf 2 1 := ⟨⟨List.mem_of_getElem? (i := 974) (by decide +kernel), List.mem_of_getElem? (i := 91) (by decide +kernel), by decide +kernel, rfl, rfl⟩, List.mem_of_getElem? (i := 973) (by decide +kernel), List.mem_of_getElem? (i := 37) (by decide +kernel), _, rfl, rfl⟩
theorem vk_MD_rankedAt : gx_VK gm_MD_rankedAt 2 1 := ⟨⟨List.mem_of_getElem? (i := 970) (by decide +kernel), List.mem_of_getElem? (i := 91) (by decide +kernel), by decide +kernel, rfl, rfl⟩, List.mem_of_getElem? (i := 969) (by decide +kernel), List.mem_of_getElem? (i := 36) (by decide +kernel), _, rfl, rfl⟩
theorem vk_MD_layStand : gx_VK gm_MD_layStand 2 1 := ⟨⟨List.mem_of_getElem? (i := 966) (by decide +kernel), List.mem_of_getElem? (i := 91) (by decide +kernel), by decide +kernel, rfl, rfl⟩, List.mem_of_getElem? (i := 965) (by decide +kernel), List.mem_of_getElem? (i := 35) (by decide +kernel), _, rfl, rfl⟩
theorem vk_MD_isSame : gx_VK gm_MD_isSame 2 1 := ⟨⟨List.mem_of_getElem? (i := 1016) (by decide +kernel), List.mem_of_getElem? (i := 91) (by decide +kernel), by decide +kernel, rfl, rfl⟩, List.mem_of_getElem? (i := 1015) (by decide +kernel), List.mem_of_getElem? (i := 46) (by decide +kernel), _, rfl, rfl⟩
theorem vk_MD_find : gx_VK gm_MD_find 1 1 := ⟨⟨List.mem_of_getElem? (i := 1012) (by decide +kernel), List.mem_of_getElem? (i := 91) (by decide +kernel), by decide +kernel, rfl, rfl⟩, List.mem_of_getElem? (i := 1011) (by decide +kernel), List.mem_of_getElem? (i := 45) (by decide +kernel), _, rfl, rfl⟩
theorem vk_MD_unlay : gx_VK gm_MD_unlay 1 1 := ⟨⟨List.mem_of_getElem? (i := 986) (by decide +kernel), List.mem_of_getElem? (i := 91) (by decide +kernel), by decide +kernel, rfl, rfl⟩, List.mem_of_getElem? (i := 985) (by decide +kernel), List.mem_of_getElem? (i := 40) (by decide +kernel), _, rfl, rfl⟩
theorem vk_MD_steps : gx_VK gm_MD_steps 1 1 := ⟨⟨List.mem_of_getElem? (i := 990) (by decide +kernel), List.mem_of_getElem? (i := 91) (by decide +kernel), by decide +kernel, rfl, rfl⟩, List.mem_of_getElem? (i := 989) (by decide +kernel), List.mem_of_getElem? (i := 41) (by decide +kernel), _, rfl, rfl⟩
theorem vk_MD_walk : gx_VK gm_MD_walk 0 1 := ⟨⟨List.mem_of_getElem? (i := 950) (by decide +kernel), List.mem_of_getElem? (i := 91) (by decide +kernel), by decide +kernel, rfl, rfl⟩, List.mem_of_getElem? (i := 949) (by decide +kernel), List.mem_of_getElem? (i := 31) (by decide +kernel), _, rfl, rfl⟩
theorem vk_MD_leadOn : gx_VK gm_MD_leadOn 2 1 := ⟨⟨List.mem_of_getElem? (i := 982) (by decide +kernel), List.mem_of_getElem? (i := 91) (by decide +kernel), by decide +kernel, rfl, rfl⟩, List.mem_of_getElem? (i := 981) (by decide +kernel), List.mem_of_getElem? (i := 39) (by decide +kernel), _, rfl, rfl⟩
theorem vk_MD_leadBack : gx_VK gm_MD_leadBack 2 1 := ⟨⟨List.mem_of_getElem? (i := 1008) (by decide +kernel), List.mem_of_getElem? (i := 91) (by decide +kernel), by decide +kernel, rfl, rfl⟩, List.mem_of_getElem? (i := 1007) (by decide +kernel), List.mem_of_getElem? (i := 44) (by decide +kernel), _, rfl, rfl⟩
theorem vk_MD_isRowNew : gx_VK gm_MD_isRowNew 1 1 := ⟨⟨List.mem_of_getElem? (i := 1103) (by decide +kernel), List.mem_of_getElem? (i := 91) (by decide +kernel), by decide +kernel, rfl, rfl⟩, List.mem_of_getElem? (i := 1102) (by decide +kernel), List.mem_of_getElem? (i := 59) (by decide +kernel), _, rfl, rfl⟩
theorem vk_MD_allLetters : gx_VK gm_MD_allLetters 0 1 := ⟨⟨List.mem_of_getElem? (i := 1099) (by decide +kernel), List.mem_of_getElem? (i := 91) (by decide +kernel), by decide +kernel, rfl, rfl⟩, List.mem_of_getElem? (i := 1098) (by decide +kernel), List.mem_of_getElem? (i := 58) (by decide +kernel), _, rfl, rfl⟩
theorem vk_MD_far : gx_VK gm_MD_far 0 1 := ⟨⟨List.mem_of_getElem? (i := 1107) (by decide +kernel), List.mem_of_getElem? (i := 91) (by decide +kernel), by decide +kernel, rfl, rfl⟩, List.mem_of_getElem? (i := 1106) (by decide +kernel), List.mem_of_getElem? (i := 60) (by decide +kernel), _, rfl, rfl⟩
theorem vk_MD_ofStands : gx_VK gm_MD_ofStands 1 1 := ⟨⟨List.mem_of_getElem? (i := 1095) (by decide +kernel), List.mem_of_getElem? (i := 91) (by decide +kernel), by decide +kernel, rfl, rfl⟩, List.mem_of_getElem? (i := 1094) (by decide +kernel), List.mem_of_getElem? (i := 57) (by decide +kernel), _, rfl, rfl⟩
theorem vk_MD_stand : gx_VK gm_MD_stand 2 1 := ⟨⟨List.mem_of_getElem? (i := 946) (by decide +kernel), List.mem_of_getElem? (i := 91) (by decide +kernel), by decide +kernel, rfl, rfl⟩, List.mem_of_getElem? (i := 944) (by decide +kernel), List.mem_of_getElem? (i := 945) (by decide +kernel), _, rfl, rfl⟩
theorem vk_MD_next : gx_VK gm_MD_next 2 1 := ⟨⟨List.mem_of_getElem? (i := 1022) (by decide +kernel), List.mem_of_getElem? (i := 91) (by decide +kernel), by decide +kernel, rfl, rfl⟩, List.mem_of_getElem? (i := 1020) (by decide +kernel), List.mem_of_getElem? (i := 1021) (by decide +kernel), _, rfl, rfl⟩
theorem vk_MD_away : gx_VK gm_MD_away 1 1 := ⟨⟨List.mem_of_getElem? (i := 1030) (by decide +kernel), List.mem_of_getElem? (i := 91) (by decide +kernel), by decide +kernel, rfl, rfl⟩, List.mem_of_getElem? (i := 1028) (by decide +kernel), List.mem_of_getElem? (i := 1029) (by decide +kernel), _, rfl, rfl⟩
theorem vk_MD_standRow : gx_VK gm_MD_standRow 3 1 := ⟨⟨List.mem_of_getElem? (i := 1034) (by decide +kernel), List.mem_of_getElem? (i := 91) (by decide +kernel), by decide +kernel, rfl, rfl⟩, List.mem_of_getElem? (i := 1032) (by decide +kernel), List.mem_of_getElem? (i := 1033) (by decide +kernel), _, rfl, rfl⟩
theorem vk_MD_isHome : gx_VK gm_MD_isHome 0 1 := ⟨⟨List.mem_of_getElem? (i := 1042) (by decide +kernel), List.mem_of_getElem? (i := 91) (by decide +kernel), by decide +kernel, rfl, rfl⟩, List.mem_of_getElem? (i := 1041) (by decide +kernel), List.mem_of_getElem? (i := 48) (by decide +kernel), _, rfl, rfl⟩
theorem vk_MD_byTurns : gx_VK gm_MD_byTurns 2 1 := ⟨⟨List.mem_of_getElem? (i := 1038) (by decide +kernel), List.mem_of_getElem? (i := 91) (by decide +kernel), by decide +kernel, rfl, rfl⟩, List.mem_of_getElem? (i := 1036) (by decide +kernel), List.mem_of_getElem? (i := 1037) (by decide +kernel), _, rfl, rfl⟩
theorem vk_MD_feed : gx_VK gm_MD_feed 1 1 := ⟨⟨List.mem_of_getElem? (i := 1046) (by decide +kernel), List.mem_of_getElem? (i := 91) (by decide +kernel), by decide +kernel, rfl, rfl⟩, List.mem_of_getElem? (i := 1044) (by decide +kernel), List.mem_of_getElem? (i := 1045) (by decide +kernel), _, rfl, rfl⟩
theorem vk_MD_fail : gx_VK gm_MD_fail 1 1 := ⟨⟨List.mem_of_getElem? (i := 1063) (by decide +kernel), List.mem_of_getElem? (i := 91) (by decide +kernel), by decide +kernel, rfl, rfl⟩, List.mem_of_getElem? (i := 1062) (by decide +kernel), List.mem_of_getElem? (i := 51) (by decide +kernel), _, rfl, rfl⟩
theorem vk_MD_here : gx_VK gm_MD_here 0 1 := ⟨⟨List.mem_of_getElem? (i := 1059) (by decide +kernel), List.mem_of_getElem? (i := 91) (by decide +kernel), by decide +kernel, rfl, rfl⟩, List.mem_of_getElem? (i := 1058) (by decide +kernel), List.mem_of_getElem? (i := 50) (by decide +kernel), _, rfl, rfl⟩
theorem vk_MD_figure : gx_VK gm_MD_figure 2 1 := ⟨⟨List.mem_of_getElem? (i := 1071) (by decide +kernel), List.mem_of_getElem? (i := 91) (by decide +kernel), by decide +kernel, rfl, rfl⟩, List.mem_of_getElem? (i := 1070) (by decide +kernel), List.mem_of_getElem? (i := 53) (by decide +kernel), _, rfl, rfl⟩
theorem vk_MD_pass : gx_VK gm_MD_pass 1 1 := ⟨⟨List.mem_of_getElem? (i := 1075) (by decide +kernel), List.mem_of_getElem? (i := 91) (by decide +kernel), by decide +kernel, rfl, rfl⟩, List.mem_of_getElem? (i := 1074) (by decide +kernel), List.mem_of_getElem? (i := 54) (by decide +kernel), _, rfl, rfl⟩
theorem vk_MD_readMany : gx_VK gm_MD_readMany 0 1 := ⟨⟨List.mem_of_getElem? (i := 1067) (by decide +kernel), List.mem_of_getElem? (i := 91) (by decide +kernel), by decide +kernel, rfl, rfl⟩, List.mem_of_getElem? (i := 1066) (by decide +kernel), List.mem_of_getElem? (i := 52) (by decide +kernel), _, rfl, rfl⟩
theorem vk_MD_readTable : gx_VK gm_MD_readTable 0 1 := ⟨⟨List.mem_of_getElem? (i := 1079) (by decide +kernel), List.mem_of_getElem? (i := 91) (by decide +kernel), by decide +kernel, rfl, rfl⟩, List.mem_of_getElem? (i := 1078) (by decide +kernel), List.mem_of_getElem? (i := 55) (by decide +kernel), _, rfl, rfl⟩
theorem vk_MD_readWorth : gx_VK gm_MD_readWorth 0 1 := ⟨⟨List.mem_of_getElem? (i := 1083) (by decide +kernel), List.mem_of_getElem? (i := 91) (by decide +kernel), by decide +kernel, rfl, rfl⟩, List.mem_of_getElem? (i := 1082) (by decide +kernel), List.mem_of_getElem? (i := 56) (by decide +kernel), _, rfl, rfl⟩
theorem vk_MD_readClause : gx_VK gm_MD_readClause 1 1 := ⟨⟨List.mem_of_getElem? (i := 1055) (by decide +kernel), List.mem_of_getElem? (i := 91) (by decide +kernel), by decide +kernel, rfl, rfl⟩, List.mem_of_getElem? (i := 1054) (by decide +kernel), List.mem_of_getElem? (i := 49) (by decide +kernel), _, rfl, rfl⟩
theorem vk_MD_begin : gx_VK gm_MD_begin 0 1 := ⟨⟨List.mem_of_getElem? (i := 847) (by decide +kernel), List.mem_of_getElem? (i := 91) (by decide +kernel), by decide +kernel, rfl, rfl⟩, List.mem_of_getElem? (i := 846) (by decide +kernel), List.mem_of_getElem? (i := 29) (by decide +kernel), _, rfl, rfl⟩
theorem vk_MD_letters : gx_VK gm_MD_letters 0 1 := ⟨⟨List.mem_of_getElem? (i := 1051) (by decide +kernel), List.mem_of_getElem? (i := 91) (by decide +kernel), by decide +kernel, rfl, rfl⟩, List.mem_of_getElem? (i := 1049) (by decide +kernel), List.mem_of_getElem? (i := 1050) (by decide +kernel), _, rfl, rfl⟩
theorem vk_MD_fault : gx_VK gm_MD_fault 0 1 := ⟨⟨List.mem_of_getElem? (i := 1087) (by decide +kernel), List.mem_of_getElem? (i := 91) (by decide +kernel), by decide +kernel, rfl, rfl⟩, List.mem_of_getElem? (i := 1085) (by decide +kernel), List.mem_of_getElem? (i := 1086) (by decide +kernel), _, rfl, rfl⟩
theorem vk_MD_code : gx_VK gm_MD_code 1 1 := ⟨⟨List.mem_of_getElem? (i := 1115) (by decide +kernel), List.mem_of_getElem? (i := 91) (by decide +kernel), by decide +kernel, rfl, rfl⟩, List.mem_of_getElem? (i := 1114) (by decide +kernel), List.mem_of_getElem? (i := 62) (by decide +kernel), _, rfl, rfl⟩
theorem vk_MD_wrongEntry : gx_VK gm_MD_wrongEntry 0 1 := ⟨⟨List.mem_of_getElem? (i := 1111) (by decide +kernel), List.mem_of_getElem? (i := 91) (by decide +kernel), by decide +kernel, rfl, rfl⟩, List.mem_of_getElem? (i := 1110) (by decide +kernel), List.mem_of_getElem? (i := 61) (by decide +kernel), _, rfl, rfl⟩
theorem vk_MD_told : gx_VK gm_MD_told 1 1 := ⟨⟨List.mem_of_getElem? (i := 1091) (by decide +kernel), List.mem_of_getElem? (i := 91) (by decide +kernel), by decide +kernel, rfl, rfl⟩, List.mem_of_getElem? (i := 1089) (by decide +kernel), List.mem_of_getElem? (i := 1090) (by decide +kernel), _, rfl, rfl⟩
theorem vk_MD_table : gx_VK gm_MD_table 2 1 := ⟨⟨List.mem_of_getElem? (i := 1119) (by decide +kernel), List.mem_of_getElem? (i := 91) (by decide +kernel), by decide +kernel, rfl, rfl⟩, List.mem_of_getElem? (i := 1117) (by decide +kernel), List.mem_of_getElem? (i := 1118) (by decide +kernel), _, rfl, rfl⟩
theorem vk_MD_bound : gx_VK gm_MD_bound 1 1 := ⟨⟨List.mem_of_getElem? (i := 1127) (by decide +kernel), List.mem_of_getElem? (i := 91) (by decide +kernel), by decide +kernel, rfl, rfl⟩, List.mem_of_getElem? (i := 1126) (by decide +kernel), List.mem_of_getElem? (i := 63) (by decide +kernel), _, rfl, rfl⟩
theorem vk_MD_would : gx_VK gm_MD_would 2 1 := ⟨⟨List.mem_of_getElem? (i := 1131) (by decide +kernel), List.mem_of_getElem? (i := 91) (by decide +kernel), by decide +kernel, rfl, rfl⟩, List.mem_of_getElem? (i := 1130) (by decide +kernel), List.mem_of_getElem? (i := 64) (by decide +kernel), _, rfl, rfl⟩
theorem vk_MD_letter : gx_VK gm_MD_letter 2 1 := ⟨⟨List.mem_of_getElem? (i := 1123) (by decide +kernel), List.mem_of_getElem? (i := 91) (by decide +kernel), by decide +kernel, rfl, rfl⟩, List.mem_of_getElem? (i := 1121) (by decide +kernel), List.mem_of_getElem? (i := 1122) (by decide +kernel), _, rfl, rfl⟩
theorem vk_MD_row : gx_VK gm_MD_row 3 1 := ⟨⟨List.mem_of_getElem? (i := 1172) (by decide +kernel), List.mem_of_getElem? (i := 91) (by decide +kernel), by decide +kernel, rfl, rfl⟩, List.mem_of_getElem? (i := 1170) (by decide +kernel), List.mem_of_getElem? (i := 1171) (by decide +kernel), _, rfl, rfl⟩
theorem vk_MD_remember : gx_VK gm_MD_remember 0 1 := ⟨⟨List.mem_of_getElem? (i := 1181) (by decide +kernel), List.mem_of_getElem? (i := 91) (by decide +kernel), by decide +kernel, rfl, rfl⟩, List.mem_of_getElem? (i := 1180) (by decide +kernel), List.mem_of_getElem? (i := 74) (by decide +kernel), _, rfl, rfl⟩
theorem vk_MD_take : gx_VK gm_MD_take 0 1 := ⟨⟨List.mem_of_getElem? (i := 1185) (by decide +kernel), List.mem_of_getElem? (i := 91) (by decide +kernel), by decide +kernel, rfl, rfl⟩, List.mem_of_getElem? (i := 1184) (by decide +kernel), List.mem_of_getElem? (i := 75) (by decide +kernel), _, rfl, rfl⟩
theorem vk_MD_exchange : gx_VK gm_MD_exchange 1 1 := ⟨⟨List.mem_of_getElem? (i := 1176) (by decide +kernel), List.mem_of_getElem? (i := 91) (by decide +kernel), by decide +kernel, rfl, rfl⟩, List.mem_of_getElem? (i := 1174) (by decide +kernel), List.mem_of_getElem? (i := 1175) (by decide +kernel), _, rfl, rfl⟩
theorem vk_MD_start : gx_VK gm_MD_start 0 1 := ⟨⟨List.mem_of_getElem? (i := 1190) (by decide +kernel), List.mem_of_getElem? (i := 91) (by decide +kernel), by decide +kernel, rfl, rfl⟩, List.mem_of_getElem? (i := 1188) (by decide +kernel), List.mem_of_getElem? (i := 1189) (by decide +kernel), _, rfl, rfl⟩
theorem vk_MD_draw : gx_VK gm_MD_draw 1 1 := ⟨⟨List.mem_of_getElem? (i := 1198) (by decide +kernel), List.mem_of_getElem? (i := 91) (by decide +kernel), by decide +kernel, rfl, rfl⟩, List.mem_of_getElem? (i := 1197) (by decide +kernel), List.mem_of_getElem? (i := 76) (by decide +kernel), _, rfl, rfl⟩
theorem vk_MD_drift : gx_VK gm_MD_drift 1 1 := ⟨⟨List.mem_of_getElem? (i := 1194) (by decide +kernel), List.mem_of_getElem? (i := 91) (by decide +kernel), by decide +kernel, rfl, rfl⟩, List.mem_of_getElem? (i := 1192) (by decide +kernel), List.mem_of_getElem? (i := 1193) (by decide +kernel), _, rfl, rfl⟩
theorem vk_MD_undo : gx_VK gm_MD_undo 1 1 := ⟨⟨List.mem_of_getElem? (i := 1206) (by decide +kernel), List.mem_of_getElem? (i := 91) (by decide +kernel), by decide +kernel, rfl, rfl⟩, List.mem_of_getElem? (i := 1204) (by decide +kernel), List.mem_of_getElem? (i := 1205) (by decide +kernel), _, rfl, rfl⟩
theorem vk_MD_write : gx_VK gm_MD_write 2 1 := ⟨⟨List.mem_of_getElem? (i := 1210) (by decide +kernel), List.mem_of_getElem? (i := 91) (by decide +kernel), by decide +kernel, rfl, rfl⟩, List.mem_of_getElem? (i := 1208) (by decide +kernel), List.mem_of_getElem? (i := 1209) (by decide +kernel), _, rfl, rfl⟩
theorem vk_MD_tear : gx_VK gm_MD_tear 0 1 := ⟨⟨List.mem_of_getElem? (i := 1214) (by decide +kernel), List.mem_of_getElem? (i := 91) (by decide +kernel), by decide +kernel, rfl, rfl⟩, List.mem_of_getElem? (i := 1212) (by decide +kernel), List.mem_of_getElem? (i := 1213) (by decide +kernel), _, rfl, rfl⟩
theorem vk_MD_seed : gx_VK gm_MD_seed 1 1 := ⟨⟨List.mem_of_getElem? (i := 1218) (by decide +kernel), List.mem_of_getElem? (i := 91) (by decide +kernel), by decide +kernel, rfl, rfl⟩, List.mem_of_getElem? (i := 1216) (by decide +kernel), List.mem_of_getElem? (i := 1217) (by decide +kernel), _, rfl, rfl⟩
theorem vk_MD_keep : gx_VK gm_MD_keep 1 1 := ⟨⟨List.mem_of_getElem? (i := 1222) (by decide +kernel), List.mem_of_getElem? (i := 91) (by decide +kernel), by decide +kernel, rfl, rfl⟩, List.mem_of_getElem? (i := 1220) (by decide +kernel), List.mem_of_getElem? (i := 1221) (by decide +kernel), _, rfl, rfl⟩
theorem vk_MD_goBack : gx_VK gm_MD_goBack 1 1 := ⟨⟨List.mem_of_getElem? (i := 1226) (by decide +kernel), List.mem_of_getElem? (i := 91) (by decide +kernel), by decide +kernel, rfl, rfl⟩, List.mem_of_getElem? (i := 1224) (by decide +kernel), List.mem_of_getElem? (i := 1225) (by decide +kernel), _, rfl, rfl⟩
theorem ik_BK_init : gx_IK gm_BK_init := ⟨⟨List.mem_of_getElem? (i := 263) (by decide +kernel), List.mem_of_getElem? (i := 86) (by decide +kernel), by decide +kernel, rfl, rfl⟩, List.mem_of_getElem? (i := 262) (by decide +kernel), rfl, rfl⟩
theorem vk_BK_append : gx_VK gm_BK_append 2 2 := ⟨⟨List.mem_of_getElem? (i := 821) (by decide +kernel), List.mem_of_getElem? (i := 86) (by decide +kernel), by decide +kernel, rfl, rfl⟩, List.mem_of_getElem? (i := 819) (by decide +kernel), List.mem_of_getElem? (i := 820) (by decide +kernel), _, rfl, rfl⟩
theorem vk_BK_firstWrong : gx_VK gm_BK_firstWrong 1 2 := ⟨⟨List.mem_of_getElem? (i := 643) (by decide +kernel), List.mem_of_getElem? (i := 86) (by decide +kernel), by decide +kernel, rfl, rfl⟩, List.mem_of_getElem? (i := 641) (by decide +kernel), List.mem_of_getElem? (i := 642) (by decide +kernel), _, rfl, rfl⟩
theorem ik_EX_init : gx_IK gm_EX_init := ⟨⟨List.mem_of_getElem? (i := 149) (by decide +kernel), List.mem_of_getElem? (i := 81) (by decide +kernel), by decide +kernel, rfl, rfl⟩, List.mem_of_getElem? (i := 148) (by decide +kernel), rfl, rfl⟩
theorem vk_EX_fill : gx_VK gm_EX_fill 3 3 := ⟨⟨List.mem_of_getElem? (i := 679) (by decide +kernel), List.mem_of_getElem? (i := 81) (by decide +kernel), by decide +kernel, rfl, rfl⟩, List.mem_of_getElem? (i := 677) (by decide +kernel), List.mem_of_getElem? (i := 678) (by decide +kernel), _, rfl, rfl⟩
theorem vk_EX_findWorth : gx_VK gm_EX_findWorth 2 3 := ⟨⟨List.mem_of_getElem? (i := 683) (by decide +kernel), List.mem_of_getElem? (i := 81) (by decide +kernel), by decide +kernel, rfl, rfl⟩, List.mem_of_getElem? (i := 682) (by decide +kernel), List.mem_of_getElem? (i := 26) (by decide +kernel), _, rfl, rfl⟩
theorem sk_EX_multiplyAll : gx_SK gm_EX_multiplyAll 4 := ⟨⟨List.mem_of_getElem? (i := 686) (by decide +kernel), List.mem_of_getElem? (i := 81) (by decide +kernel), by decide +kernel, rfl, rfl⟩, List.mem_of_getElem? (i := 685) (by decide +kernel)⟩
theorem sk_EX_fillSigns : gx_SK gm_EX_fillSigns 3 := ⟨⟨List.mem_of_getElem? (i := 708) (by decide +kernel), List.mem_of_getElem? (i := 81) (by decide +kernel), by decide +kernel, rfl, rfl⟩, List.mem_of_getElem? (i := 707) (by decide +kernel)⟩
theorem sk_EX_signAfter : gx_SK gm_EX_signAfter 4 := ⟨⟨List.mem_of_getElem? (i := 711) (by decide +kernel), List.mem_of_getElem? (i := 81) (by decide +kernel), by decide +kernel, rfl, rfl⟩, List.mem_of_getElem? (i := 710) (by decide +kernel)⟩
theorem sk_EX_fillDegrees : gx_SK gm_EX_fillDegrees 3 := ⟨⟨List.mem_of_getElem? (i := 714) (by decide +kernel), List.mem_of_getElem? (i := 81) (by decide +kernel), by decide +kernel, rfl, rfl⟩, List.mem_of_getElem? (i := 713) (by decide +kernel)⟩
theorem sk_EX_hasPositiveSign : gx_SK gm_EX_hasPositiveSign 2 := ⟨⟨List.mem_of_getElem? (i := 717) (by decide +kernel), List.mem_of_getElem? (i := 81) (by decide +kernel), by decide +kernel, rfl, rfl⟩, List.mem_of_getElem? (i := 716) (by decide +kernel)⟩
theorem sk_EX_degreeAfter : gx_SK gm_EX_degreeAfter 4 := ⟨⟨List.mem_of_getElem? (i := 720) (by decide +kernel), List.mem_of_getElem? (i := 81) (by decide +kernel), by decide +kernel, rfl, rfl⟩, List.mem_of_getElem? (i := 719) (by decide +kernel)⟩
theorem ik_FR_init : gx_IK gm_FR_init := ⟨⟨List.mem_of_getElem? (i := 155) (by decide +kernel), List.mem_of_getElem? (i := 82) (by decide +kernel), by decide +kernel, rfl, rfl⟩, List.mem_of_getElem? (i := 154) (by decide +kernel), rfl, rfl⟩
theorem vk_FR_becomeOne : gx_VK gm_FR_becomeOne 0 4 := ⟨⟨List.mem_of_getElem? (i := 690) (by decide +kernel), List.mem_of_getElem? (i := 82) (by decide +kernel), by decide +kernel, rfl, rfl⟩, List.mem_of_getElem? (i := 688) (by decide +kernel), List.mem_of_getElem? (i := 689) (by decide +kernel), _, rfl, rfl⟩
theorem vk_FR_multiply : gx_VK gm_FR_multiply 2 4 := ⟨⟨List.mem_of_getElem? (i := 695) (by decide +kernel), List.mem_of_getElem? (i := 82) (by decide +kernel), by decide +kernel, rfl, rfl⟩, List.mem_of_getElem? (i := 693) (by decide +kernel), List.mem_of_getElem? (i := 694) (by decide +kernel), _, rfl, rfl⟩
theorem vk_FR_add : gx_VK gm_FR_add 1 4 := ⟨⟨List.mem_of_getElem? (i := 704) (by decide +kernel), List.mem_of_getElem? (i := 82) (by decide +kernel), by decide +kernel, rfl, rfl⟩, List.mem_of_getElem? (i := 702) (by decide +kernel), List.mem_of_getElem? (i := 703) (by decide +kernel), _, rfl, rfl⟩
theorem vk_FR_isSmallInLowestTerms : gx_VK gm_FR_isSmallInLowestTerms 0 4 := ⟨⟨List.mem_of_getElem? (i := 699) (by decide +kernel), List.mem_of_getElem? (i := 82) (by decide +kernel), by decide +kernel, rfl, rfl⟩, List.mem_of_getElem? (i := 698) (by decide +kernel), List.mem_of_getElem? (i := 27) (by decide +kernel), _, rfl, rfl⟩
theorem ik_GR_init : gx_IK gm_GR_init := ⟨⟨List.mem_of_getElem? (i := 280) (by decide +kernel), List.mem_of_getElem? (i := 87) (by decide +kernel), by decide +kernel, rfl, rfl⟩, List.mem_of_getElem? (i := 279) (by decide +kernel), rfl, rfl⟩
theorem vk_GR_find : gx_VK gm_GR_find 2 5 := ⟨⟨List.mem_of_getElem? (i := 556) (by decide +kernel), List.mem_of_getElem? (i := 87) (by decide +kernel), by decide +kernel, rfl, rfl⟩, List.mem_of_getElem? (i := 554) (by decide +kernel), List.mem_of_getElem? (i := 555) (by decide +kernel), _, rfl, rfl⟩
theorem vk_GR_standOf : gx_VK gm_GR_standOf 1 5 := ⟨⟨List.mem_of_getElem? (i := 627) (by decide +kernel), List.mem_of_getElem? (i := 87) (by decide +kernel), by decide +kernel, rfl, rfl⟩, List.mem_of_getElem? (i := 625) (by decide +kernel), List.mem_of_getElem? (i := 626) (by decide +kernel), _, rfl, rfl⟩
theorem vk_GR_findLead : gx_VK gm_GR_findLead 2 5 := ⟨⟨List.mem_of_getElem? (i := 589) (by decide +kernel), List.mem_of_getElem? (i := 87) (by decide +kernel), by decide +kernel, rfl, rfl⟩, List.mem_of_getElem? (i := 588) (by decide +kernel), List.mem_of_getElem? (i := 15) (by decide +kernel), _, rfl, rfl⟩
theorem vk_GR_fillProbe : gx_VK gm_GR_fillProbe 1 5 := ⟨⟨List.mem_of_getElem? (i := 564) (by decide +kernel), List.mem_of_getElem? (i := 87) (by decide +kernel), by decide +kernel, rfl, rfl⟩, List.mem_of_getElem? (i := 563) (by decide +kernel), List.mem_of_getElem? (i := 11) (by decide +kernel), _, rfl, rfl⟩
theorem vk_GR_standOfProbe : gx_VK gm_GR_standOfProbe 0 5 := ⟨⟨List.mem_of_getElem? (i := 611) (by decide +kernel), List.mem_of_getElem? (i := 87) (by decide +kernel), by decide +kernel, rfl, rfl⟩, List.mem_of_getElem? (i := 610) (by decide +kernel), List.mem_of_getElem? (i := 18) (by decide +kernel), _, rfl, rfl⟩
theorem vk_GR_isProbe : gx_VK gm_GR_isProbe 1 5 := ⟨⟨List.mem_of_getElem? (i := 615) (by decide +kernel), List.mem_of_getElem? (i := 87) (by decide +kernel), by decide +kernel, rfl, rfl⟩, List.mem_of_getElem? (i := 614) (by decide +kernel), List.mem_of_getElem? (i := 19) (by decide +kernel), _, rfl, rfl⟩
theorem vk_GR_addProbe : gx_VK gm_GR_addProbe 0 5 := ⟨⟨List.mem_of_getElem? (i := 576) (by decide +kernel), List.mem_of_getElem? (i := 87) (by decide +kernel), by decide +kernel, rfl, rfl⟩, List.mem_of_getElem? (i := 575) (by decide +kernel), List.mem_of_getElem? (i := 12) (by decide +kernel), _, rfl, rfl⟩
theorem vk_GR_load : gx_VK gm_GR_load 1 5 := ⟨⟨List.mem_of_getElem? (i := 581) (by decide +kernel), List.mem_of_getElem? (i := 87) (by decide +kernel), by decide +kernel, rfl, rfl⟩, List.mem_of_getElem? (i := 580) (by decide +kernel), List.mem_of_getElem? (i := 13) (by decide +kernel), _, rfl, rfl⟩
theorem vk_GR_spread : gx_VK gm_GR_spread 3 5 := ⟨⟨List.mem_of_getElem? (i := 585) (by decide +kernel), List.mem_of_getElem? (i := 87) (by decide +kernel), by decide +kernel, rfl, rfl⟩, List.mem_of_getElem? (i := 584) (by decide +kernel), List.mem_of_getElem? (i := 14) (by decide +kernel), _, rfl, rfl⟩
theorem vk_GR_countAllLetters : gx_VK gm_GR_countAllLetters 0 5 := ⟨⟨List.mem_of_getElem? (i := 619) (by decide +kernel), List.mem_of_getElem? (i := 87) (by decide +kernel), by decide +kernel, rfl, rfl⟩, List.mem_of_getElem? (i := 618) (by decide +kernel), List.mem_of_getElem? (i := 20) (by decide +kernel), _, rfl, rfl⟩
theorem vk_GR_isSeen : gx_VK gm_GR_isSeen 2 5 := ⟨⟨List.mem_of_getElem? (i := 623) (by decide +kernel), List.mem_of_getElem? (i := 87) (by decide +kernel), by decide +kernel, rfl, rfl⟩, List.mem_of_getElem? (i := 622) (by decide +kernel), List.mem_of_getElem? (i := 21) (by decide +kernel), _, rfl, rfl⟩
theorem vk_GR_rowNumber : gx_VK gm_GR_rowNumber 3 5 := ⟨⟨List.mem_of_getElem? (i := 813) (by decide +kernel), List.mem_of_getElem? (i := 87) (by decide +kernel), by decide +kernel, rfl, rfl⟩, List.mem_of_getElem? (i := 811) (by decide +kernel), List.mem_of_getElem? (i := 812) (by decide +kernel), _, rfl, rfl⟩
theorem ik_HI_init : gx_IK gm_HI_init := ⟨⟨List.mem_of_getElem? (i := 177) (by decide +kernel), List.mem_of_getElem? (i := 83) (by decide +kernel), by decide +kernel, rfl, rfl⟩, List.mem_of_getElem? (i := 176) (by decide +kernel), rfl, rfl⟩
theorem vk_HI_forget : gx_VK gm_HI_forget 0 6 := ⟨⟨List.mem_of_getElem? (i := 432) (by decide +kernel), List.mem_of_getElem? (i := 83) (by decide +kernel), by decide +kernel, rfl, rfl⟩, List.mem_of_getElem? (i := 430) (by decide +kernel), List.mem_of_getElem? (i := 431) (by decide +kernel), _, rfl, rfl⟩
theorem vk_HI_remember : gx_VK gm_HI_remember 1 6 := ⟨⟨List.mem_of_getElem? (i := 756) (by decide +kernel), List.mem_of_getElem? (i := 83) (by decide +kernel), by decide +kernel, rfl, rfl⟩, List.mem_of_getElem? (i := 754) (by decide +kernel), List.mem_of_getElem? (i := 755) (by decide +kernel), _, rfl, rfl⟩
theorem vk_HI_takeBack : gx_VK gm_HI_takeBack 2 6 := ⟨⟨List.mem_of_getElem? (i := 781) (by decide +kernel), List.mem_of_getElem? (i := 83) (by decide +kernel), by decide +kernel, rfl, rfl⟩, List.mem_of_getElem? (i := 779) (by decide +kernel), List.mem_of_getElem? (i := 780) (by decide +kernel), _, rfl, rfl⟩
theorem ik_SC_init : gx_IK gm_SC_init := ⟨⟨List.mem_of_getElem? (i := 134) (by decide +kernel), List.mem_of_getElem? (i := 80) (by decide +kernel), by decide +kernel, rfl, rfl⟩, List.mem_of_getElem? (i := 133) (by decide +kernel), rfl, rfl⟩
theorem vk_SC_weigh : gx_VK gm_SC_weigh 1 7 := ⟨⟨List.mem_of_getElem? (i := 421) (by decide +kernel), List.mem_of_getElem? (i := 80) (by decide +kernel), by decide +kernel, rfl, rfl⟩, List.mem_of_getElem? (i := 419) (by decide +kernel), List.mem_of_getElem? (i := 420) (by decide +kernel), _, rfl, rfl⟩
theorem sk0_SC_weighFrom : gx_SK (gm_SC_weighFrom 0) 3 := ⟨⟨List.mem_of_getElem? (i := 424) (by decide +kernel), List.mem_of_getElem? (i := 80) (by decide +kernel), by decide +kernel, rfl, rfl⟩, List.mem_of_getElem? (i := 423) (by decide +kernel)⟩
theorem sk_SC_weighFrom (d : Nat) : gx_SK (gm_SC_weighFrom d) 3 := sk0_SC_weighFrom
theorem sk_SC_fits : gx_SK gm_SC_fits 3 := ⟨⟨List.mem_of_getElem? (i := 427) (by decide +kernel), List.mem_of_getElem? (i := 80) (by decide +kernel), by decide +kernel, rfl, rfl⟩, List.mem_of_getElem? (i := 426) (by decide +kernel)⟩
theorem ik_SH_init : gx_IK gm_SH_init := ⟨⟨List.mem_of_getElem? (i := 190) (by decide +kernel), List.mem_of_getElem? (i := 85) (by decide +kernel), by decide +kernel, rfl, rfl⟩, List.mem_of_getElem? (i := 189) (by decide +kernel), rfl, rfl⟩
theorem vk_SH_begin : gx_VK gm_SH_begin 1 8 := ⟨⟨List.mem_of_getElem? (i := 389) (by decide +kernel), List.mem_of_getElem? (i := 85) (by decide +kernel), by decide +kernel, rfl, rfl⟩, List.mem_of_getElem? (i := 387) (by decide +kernel), List.mem_of_getElem? (i := 388) (by decide +kernel), _, rfl, rfl⟩
theorem vk_SH_hang : gx_VK gm_SH_hang 4 8 := ⟨⟨List.mem_of_getElem? (i := 397) (by decide +kernel), List.mem_of_getElem? (i := 85) (by decide +kernel), by decide +kernel, rfl, rfl⟩, List.mem_of_getElem? (i := 395) (by decide +kernel), List.mem_of_getElem? (i := 396) (by decide +kernel), _, rfl, rfl⟩
theorem vk_SH_copyFrom : gx_VK gm_SH_copyFrom 1 8 := ⟨⟨List.mem_of_getElem? (i := 409) (by decide +kernel), List.mem_of_getElem? (i := 85) (by decide +kernel), by decide +kernel, rfl, rfl⟩, List.mem_of_getElem? (i := 407) (by decide +kernel), List.mem_of_getElem? (i := 408) (by decide +kernel), _, rfl, rfl⟩
theorem vk_SH_becomeExchanged : gx_VK gm_SH_becomeExchanged 2 8 := ⟨⟨List.mem_of_getElem? (i := 593) (by decide +kernel), List.mem_of_getElem? (i := 85) (by decide +kernel), by decide +kernel, rfl, rfl⟩, List.mem_of_getElem? (i := 591) (by decide +kernel), List.mem_of_getElem? (i := 592) (by decide +kernel), _, rfl, rfl⟩
theorem vk_SH_tableAfter : gx_VK gm_SH_tableAfter 3 8 := ⟨⟨List.mem_of_getElem? (i := 597) (by decide +kernel), List.mem_of_getElem? (i := 85) (by decide +kernel), by decide +kernel, rfl, rfl⟩, List.mem_of_getElem? (i := 596) (by decide +kernel), List.mem_of_getElem? (i := 16) (by decide +kernel), _, rfl, rfl⟩
theorem vk_SH_rowAfter : gx_VK gm_SH_rowAfter 2 8 := ⟨⟨List.mem_of_getElem? (i := 601) (by decide +kernel), List.mem_of_getElem? (i := 85) (by decide +kernel), by decide +kernel, rfl, rfl⟩, List.mem_of_getElem? (i := 600) (by decide +kernel), List.mem_of_getElem? (i := 17) (by decide +kernel), _, rfl, rfl⟩
theorem vk_SH_boundTo : gx_VK gm_SH_boundTo 1 8 := ⟨⟨List.mem_of_getElem? (i := 665) (by decide +kernel), List.mem_of_getElem? (i := 85) (by decide +kernel), by decide +kernel, rfl, rfl⟩, List.mem_of_getElem? (i := 663) (by decide +kernel), List.mem_of_getElem? (i := 664) (by decide +kernel), _, rfl, rfl⟩
theorem vk_SH_code : gx_VK gm_SH_code 1 8 := ⟨⟨List.mem_of_getElem? (i := 647) (by decide +kernel), List.mem_of_getElem? (i := 85) (by decide +kernel), by decide +kernel, rfl, rfl⟩, List.mem_of_getElem? (i := 645) (by decide +kernel), List.mem_of_getElem? (i := 646) (by decide +kernel), _, rfl, rfl⟩
theorem vk_SH_isMild : gx_VK gm_SH_isMild 0 8 := ⟨⟨List.mem_of_getElem? (i := 560) (by decide +kernel), List.mem_of_getElem? (i := 85) (by decide +kernel), by decide +kernel, rfl, rfl⟩, List.mem_of_getElem? (i := 558) (by decide +kernel), List.mem_of_getElem? (i := 559) (by decide +kernel), _, rfl, rfl⟩
theorem ik_ST_init : gx_IK gm_ST_init := ⟨⟨List.mem_of_getElem? (i := 184) (by decide +kernel), List.mem_of_getElem? (i := 84) (by decide +kernel), by decide +kernel, rfl, rfl⟩, List.mem_of_getElem? (i := 183) (by decide +kernel), rfl, rfl⟩
theorem vk_ST_begin : gx_VK gm_ST_begin 1 9 := ⟨⟨List.mem_of_getElem? (i := 385) (by decide +kernel), List.mem_of_getElem? (i := 84) (by decide +kernel), by decide +kernel, rfl, rfl⟩, List.mem_of_getElem? (i := 383) (by decide +kernel), List.mem_of_getElem? (i := 384) (by decide +kernel), _, rfl, rfl⟩
theorem vk_ST_copyFrom : gx_VK gm_ST_copyFrom 1 9 := ⟨⟨List.mem_of_getElem? (i := 405) (by decide +kernel), List.mem_of_getElem? (i := 84) (by decide +kernel), by decide +kernel, rfl, rfl⟩, List.mem_of_getElem? (i := 403) (by decide +kernel), List.mem_of_getElem? (i := 404) (by decide +kernel), _, rfl, rfl⟩
theorem ik_TX_init : gx_IK gm_TX_init := ⟨⟨List.mem_of_getElem? (i := 105) (by decide +kernel), List.mem_of_getElem? (i := 79) (by decide +kernel), by decide +kernel, rfl, rfl⟩, List.mem_of_getElem? (i := 104) (by decide +kernel), rfl, rfl⟩
theorem vk_TX_append : gx_VK gm_TX_append 1 10 := ⟨⟨List.mem_of_getElem? (i := 497) (by decide +kernel), List.mem_of_getElem? (i := 79) (by decide +kernel), by decide +kernel, rfl, rfl⟩, List.mem_of_getElem? (i := 495) (by decide +kernel), List.mem_of_getElem? (i := 496) (by decide +kernel), _, rfl, rfl⟩
theorem vk_TX_readInto : gx_VK gm_TX_readInto 1 10 := ⟨⟨List.mem_of_getElem? (i := 506) (by decide +kernel), List.mem_of_getElem? (i := 79) (by decide +kernel), by decide +kernel, rfl, rfl⟩, List.mem_of_getElem? (i := 504) (by decide +kernel), List.mem_of_getElem? (i := 505) (by decide +kernel), _, rfl, rfl⟩
theorem vk_TX_readCount : gx_VK gm_TX_readCount 1 10 := ⟨⟨List.mem_of_getElem? (i := 510) (by decide +kernel), List.mem_of_getElem? (i := 79) (by decide +kernel), by decide +kernel, rfl, rfl⟩, List.mem_of_getElem? (i := 509) (by decide +kernel), List.mem_of_getElem? (i := 2) (by decide +kernel), _, rfl, rfl⟩
theorem vk_TX_readClause : gx_VK gm_TX_readClause 2 10 := ⟨⟨List.mem_of_getElem? (i := 531) (by decide +kernel), List.mem_of_getElem? (i := 79) (by decide +kernel), by decide +kernel, rfl, rfl⟩, List.mem_of_getElem? (i := 530) (by decide +kernel), List.mem_of_getElem? (i := 7) (by decide +kernel), _, rfl, rfl⟩
theorem vk_TX_readHang : gx_VK gm_TX_readHang 1 10 := ⟨⟨List.mem_of_getElem? (i := 535) (by decide +kernel), List.mem_of_getElem? (i := 79) (by decide +kernel), by decide +kernel, rfl, rfl⟩, List.mem_of_getElem? (i := 534) (by decide +kernel), List.mem_of_getElem? (i := 8) (by decide +kernel), _, rfl, rfl⟩
theorem vk_TX_readWorth : gx_VK gm_TX_readWorth 1 10 := ⟨⟨List.mem_of_getElem? (i := 540) (by decide +kernel), List.mem_of_getElem? (i := 79) (by decide +kernel), by decide +kernel, rfl, rfl⟩, List.mem_of_getElem? (i := 539) (by decide +kernel), List.mem_of_getElem? (i := 9) (by decide +kernel), _, rfl, rfl⟩
theorem vk_TX_readEnd : gx_VK gm_TX_readEnd 0 10 := ⟨⟨List.mem_of_getElem? (i := 527) (by decide +kernel), List.mem_of_getElem? (i := 79) (by decide +kernel), by decide +kernel, rfl, rfl⟩, List.mem_of_getElem? (i := 526) (by decide +kernel), List.mem_of_getElem? (i := 6) (by decide +kernel), _, rfl, rfl⟩
theorem vk_TX_figure : gx_VK gm_TX_figure 2 10 := ⟨⟨List.mem_of_getElem? (i := 522) (by decide +kernel), List.mem_of_getElem? (i := 79) (by decide +kernel), by decide +kernel, rfl, rfl⟩, List.mem_of_getElem? (i := 521) (by decide +kernel), List.mem_of_getElem? (i := 5) (by decide +kernel), _, rfl, rfl⟩
theorem vk_TX_take : gx_VK gm_TX_take 0 10 := ⟨⟨List.mem_of_getElem? (i := 514) (by decide +kernel), List.mem_of_getElem? (i := 79) (by decide +kernel), by decide +kernel, rfl, rfl⟩, List.mem_of_getElem? (i := 513) (by decide +kernel), List.mem_of_getElem? (i := 3) (by decide +kernel), _, rfl, rfl⟩
theorem vk_TX_blame : gx_VK gm_TX_blame 1 10 := ⟨⟨List.mem_of_getElem? (i := 518) (by decide +kernel), List.mem_of_getElem? (i := 79) (by decide +kernel), by decide +kernel, rfl, rfl⟩, List.mem_of_getElem? (i := 517) (by decide +kernel), List.mem_of_getElem? (i := 4) (by decide +kernel), _, rfl, rfl⟩
theorem ik_TU_init : gx_IK gm_TU_init := ⟨⟨List.mem_of_getElem? (i := 363) (by decide +kernel), List.mem_of_getElem? (i := 89) (by decide +kernel), by decide +kernel, rfl, rfl⟩, List.mem_of_getElem? (i := 362) (by decide +kernel), rfl, rfl⟩
theorem vk_TU_count : gx_VK gm_TU_count 3 11 := ⟨⟨List.mem_of_getElem? (i := 738) (by decide +kernel), List.mem_of_getElem? (i := 89) (by decide +kernel), by decide +kernel, rfl, rfl⟩, List.mem_of_getElem? (i := 736) (by decide +kernel), List.mem_of_getElem? (i := 737) (by decide +kernel), _, rfl, rfl⟩
theorem sk_TU_fillRanked : gx_SK gm_TU_fillRanked 2 := ⟨⟨List.mem_of_getElem? (i := 741) (by decide +kernel), List.mem_of_getElem? (i := 89) (by decide +kernel), by decide +kernel, rfl, rfl⟩, List.mem_of_getElem? (i := 740) (by decide +kernel)⟩
theorem sk_TU_areAlike : gx_SK gm_TU_areAlike 3 := ⟨⟨List.mem_of_getElem? (i := 747) (by decide +kernel), List.mem_of_getElem? (i := 89) (by decide +kernel), by decide +kernel, rfl, rfl⟩, List.mem_of_getElem? (i := 746) (by decide +kernel)⟩
theorem ik_WA_init : gx_IK gm_WA_init := ⟨⟨List.mem_of_getElem? (i := 333) (by decide +kernel), List.mem_of_getElem? (i := 88) (by decide +kernel), by decide +kernel, rfl, rfl⟩, List.mem_of_getElem? (i := 332) (by decide +kernel), rfl, rfl⟩
theorem vk_WA_number : gx_VK gm_WA_number 2 12 := ⟨⟨List.mem_of_getElem? (i := 631) (by decide +kernel), List.mem_of_getElem? (i := 88) (by decide +kernel), by decide +kernel, rfl, rfl⟩, List.mem_of_getElem? (i := 629) (by decide +kernel), List.mem_of_getElem? (i := 630) (by decide +kernel), _, rfl, rfl⟩
theorem vk_WA_add : gx_VK gm_WA_add 3 12 := ⟨⟨List.mem_of_getElem? (i := 635) (by decide +kernel), List.mem_of_getElem? (i := 88) (by decide +kernel), by decide +kernel, rfl, rfl⟩, List.mem_of_getElem? (i := 634) (by decide +kernel), List.mem_of_getElem? (i := 22) (by decide +kernel), _, rfl, rfl⟩
theorem vk_WA_lacks : gx_VK gm_WA_lacks 1 12 := ⟨⟨List.mem_of_getElem? (i := 789) (by decide +kernel), List.mem_of_getElem? (i := 88) (by decide +kernel), by decide +kernel, rfl, rfl⟩, List.mem_of_getElem? (i := 787) (by decide +kernel), List.mem_of_getElem? (i := 788) (by decide +kernel), _, rfl, rfl⟩
theorem vk_WA_lead : gx_VK gm_WA_lead 3 12 := ⟨⟨List.mem_of_getElem? (i := 797) (by decide +kernel), List.mem_of_getElem? (i := 88) (by decide +kernel), by decide +kernel, rfl, rfl⟩, List.mem_of_getElem? (i := 795) (by decide +kernel), List.mem_of_getElem? (i := 796) (by decide +kernel), _, rfl, rfl⟩
theorem vk_WA_far : gx_VK gm_WA_far 0 12 := ⟨⟨List.mem_of_getElem? (i := 639) (by decide +kernel), List.mem_of_getElem? (i := 88) (by decide +kernel), by decide +kernel, rfl, rfl⟩, List.mem_of_getElem? (i := 637) (by decide +kernel), List.mem_of_getElem? (i := 638) (by decide +kernel), _, rfl, rfl⟩
theorem vk_WA_countAway : gx_VK gm_WA_countAway 1 12 := ⟨⟨List.mem_of_getElem? (i := 805) (by decide +kernel), List.mem_of_getElem? (i := 88) (by decide +kernel), by decide +kernel, rfl, rfl⟩, List.mem_of_getElem? (i := 803) (by decide +kernel), List.mem_of_getElem? (i := 804) (by decide +kernel), _, rfl, rfl⟩
theorem nk_LW_7 : Cond.classLink "LetterExchangeLaw" 7 "LetterExchange" ∈ lw_tbl := List.mem_of_getElem? (i := 93) (by decide +kernel)
theorem ni_LE : Cond.instantiable nc_RLE 18 ∈ lw_tbl := List.mem_of_getElem? (i := 94) (by decide +kernel)
theorem nj_LE : Cond.initialized nc_RLE ∈ lw_tbl := List.mem_of_getElem? (i := 78) (by decide +kernel)
theorem ml_LW_9 : Cond.methodLink "LetterExchangeLaw" 9 ⟨"LetterExchange", "<init>", "()V"⟩ ∈ lw_tbl := List.mem_of_getElem? (i := 95) (by decide +kernel)
theorem ml_LE_3 : Cond.methodLink "LetterExchange" 3 ⟨"java/lang/Object", "<init>", "()V"⟩ ∈ lw_tbl := List.mem_of_getElem? (i := 98) (by decide +kernel)
theorem nk_LE_9 : Cond.classLink "LetterExchange" 9 "LetterExchange$Text" ∈ lw_tbl := List.mem_of_getElem? (i := 101) (by decide +kernel)
theorem ni_TX : Cond.instantiable nc_RTX 6 ∈ lw_tbl := List.mem_of_getElem? (i := 102) (by decide +kernel)
theorem nj_TX : Cond.initialized nc_RTX ∈ lw_tbl := List.mem_of_getElem? (i := 79) (by decide +kernel)
theorem ml_LE_11 : Cond.methodLinkNest "LetterExchange" 11 ⟨"LetterExchange$Text", "<init>", "()V"⟩ "LetterExchange" ∈ lw_tbl := List.mem_of_getElem? (i := 103) (by decide +kernel)
theorem ml_TX_3 : Cond.methodLink "LetterExchange$Text" 3 ⟨"java/lang/Object", "<init>", "()V"⟩ ∈ lw_tbl := List.mem_of_getElem? (i := 106) (by decide +kernel)
theorem nk_LE_16 : Cond.classLink "LetterExchange" 16 "LetterExchange$Scales" ∈ lw_tbl := List.mem_of_getElem? (i := 130) (by decide +kernel)
theorem ni_SC : Cond.instantiable nc_RSC 2 ∈ lw_tbl := List.mem_of_getElem? (i := 131) (by decide +kernel)
theorem nj_SC : Cond.initialized nc_RSC ∈ lw_tbl := List.mem_of_getElem? (i := 80) (by decide +kernel)
theorem ml_LE_18 : Cond.methodLinkNest "LetterExchange" 18 ⟨"LetterExchange$Scales", "<init>", "()V"⟩ "LetterExchange" ∈ lw_tbl := List.mem_of_getElem? (i := 132) (by decide +kernel)
theorem ml_SC_3 : Cond.methodLink "LetterExchange$Scales" 3 ⟨"java/lang/Object", "<init>", "()V"⟩ ∈ lw_tbl := List.mem_of_getElem? (i := 135) (by decide +kernel)
theorem nk_LE_23 : Cond.classLink "LetterExchange" 23 "LetterExchange$Exchanger" ∈ lw_tbl := List.mem_of_getElem? (i := 145) (by decide +kernel)
theorem ni_EX : Cond.instantiable nc_REX 2 ∈ lw_tbl := List.mem_of_getElem? (i := 146) (by decide +kernel)
theorem nj_EX : Cond.initialized nc_REX ∈ lw_tbl := List.mem_of_getElem? (i := 81) (by decide +kernel)
theorem ml_LE_25 : Cond.methodLinkNest "LetterExchange" 25 ⟨"LetterExchange$Exchanger", "<init>", "()V"⟩ "LetterExchange" ∈ lw_tbl := List.mem_of_getElem? (i := 147) (by decide +kernel)
theorem ml_EX_3 : Cond.methodLink "LetterExchange$Exchanger" 3 ⟨"java/lang/Object", "<init>", "()V"⟩ ∈ lw_tbl := List.mem_of_getElem? (i := 150) (by decide +kernel)
theorem nk_EX_9 : Cond.classLink "LetterExchange$Exchanger" 9 "LetterExchange$Fraction" ∈ lw_tbl := List.mem_of_getElem? (i := 151) (by decide +kernel)
theorem ni_FR : Cond.instantiable nc_RFR 2 ∈ lw_tbl := List.mem_of_getElem? (i := 152) (by decide +kernel)
theorem nj_FR : Cond.initialized nc_RFR ∈ lw_tbl := List.mem_of_getElem? (i := 82) (by decide +kernel)
theorem ml_EX_11 : Cond.methodLinkNest "LetterExchange$Exchanger" 11 ⟨"LetterExchange$Fraction", "<init>", "()V"⟩ "LetterExchange" ∈ lw_tbl := List.mem_of_getElem? (i := 153) (by decide +kernel)
theorem ml_FR_1 : Cond.methodLink "LetterExchange$Fraction" 1 ⟨"java/lang/Object", "<init>", "()V"⟩ ∈ lw_tbl := List.mem_of_getElem? (i := 156) (by decide +kernel)
theorem nk_LE_30 : Cond.classLink "LetterExchange" 30 "LetterExchange$History" ∈ lw_tbl := List.mem_of_getElem? (i := 173) (by decide +kernel)
theorem ni_HI : Cond.instantiable nc_RHI 3 ∈ lw_tbl := List.mem_of_getElem? (i := 174) (by decide +kernel)
theorem nj_HI : Cond.initialized nc_RHI ∈ lw_tbl := List.mem_of_getElem? (i := 83) (by decide +kernel)
theorem ml_LE_32 : Cond.methodLink "LetterExchange" 32 ⟨"LetterExchange$History", "<init>", "()V"⟩ ∈ lw_tbl := List.mem_of_getElem? (i := 175) (by decide +kernel)
theorem ml_HI_3 : Cond.methodLink "LetterExchange$History" 3 ⟨"java/lang/Object", "<init>", "()V"⟩ ∈ lw_tbl := List.mem_of_getElem? (i := 178) (by decide +kernel)
theorem nk_HI_9 : Cond.classLink "LetterExchange$History" 9 "LetterExchange$State" ∈ lw_tbl := List.mem_of_getElem? (i := 179) (by decide +kernel)
theorem ni_ST : Cond.instantiable nc_RST 6 ∈ lw_tbl := List.mem_of_getElem? (i := 181) (by decide +kernel)
theorem nj_ST : Cond.initialized nc_RST ∈ lw_tbl := List.mem_of_getElem? (i := 84) (by decide +kernel)
theorem ml_HI_24 : Cond.methodLinkNest "LetterExchange$History" 24 ⟨"LetterExchange$State", "<init>", "()V"⟩ "LetterExchange" ∈ lw_tbl := List.mem_of_getElem? (i := 182) (by decide +kernel)
theorem ml_ST_3 : Cond.methodLink "LetterExchange$State" 3 ⟨"java/lang/Object", "<init>", "()V"⟩ ∈ lw_tbl := List.mem_of_getElem? (i := 185) (by decide +kernel)
theorem nk_ST_9 : Cond.classLink "LetterExchange$State" 9 "LetterExchange$Shape" ∈ lw_tbl := List.mem_of_getElem? (i := 186) (by decide +kernel)
theorem ni_SH : Cond.instantiable nc_RSH 3 ∈ lw_tbl := List.mem_of_getElem? (i := 187) (by decide +kernel)
theorem nj_SH : Cond.initialized nc_RSH ∈ lw_tbl := List.mem_of_getElem? (i := 85) (by decide +kernel)
theorem ml_ST_11 : Cond.methodLinkNest "LetterExchange$State" 11 ⟨"LetterExchange$Shape", "<init>", "()V"⟩ "LetterExchange" ∈ lw_tbl := List.mem_of_getElem? (i := 188) (by decide +kernel)
theorem ml_SH_3 : Cond.methodLink "LetterExchange$Shape" 3 ⟨"java/lang/Object", "<init>", "()V"⟩ ∈ lw_tbl := List.mem_of_getElem? (i := 191) (by decide +kernel)
theorem nk_LE_37 : Cond.classLink "LetterExchange" 37 "LetterExchange$Book" ∈ lw_tbl := List.mem_of_getElem? (i := 259) (by decide +kernel)
theorem ni_BK : Cond.instantiable nc_RBK 3 ∈ lw_tbl := List.mem_of_getElem? (i := 260) (by decide +kernel)
theorem nj_BK : Cond.initialized nc_RBK ∈ lw_tbl := List.mem_of_getElem? (i := 86) (by decide +kernel)
theorem ml_LE_39 : Cond.methodLinkNest "LetterExchange" 39 ⟨"LetterExchange$Book", "<init>", "()V"⟩ "LetterExchange" ∈ lw_tbl := List.mem_of_getElem? (i := 261) (by decide +kernel)
theorem ml_BK_3 : Cond.methodLink "LetterExchange$Book" 3 ⟨"java/lang/Object", "<init>", "()V"⟩ ∈ lw_tbl := List.mem_of_getElem? (i := 264) (by decide +kernel)
theorem nk_LE_44 : Cond.classLink "LetterExchange" 44 "LetterExchange$Graph" ∈ lw_tbl := List.mem_of_getElem? (i := 276) (by decide +kernel)
theorem ni_GR : Cond.instantiable nc_RGR 13 ∈ lw_tbl := List.mem_of_getElem? (i := 277) (by decide +kernel)
theorem nj_GR : Cond.initialized nc_RGR ∈ lw_tbl := List.mem_of_getElem? (i := 87) (by decide +kernel)
theorem ml_LE_46 : Cond.methodLinkNest "LetterExchange" 46 ⟨"LetterExchange$Graph", "<init>", "()V"⟩ "LetterExchange" ∈ lw_tbl := List.mem_of_getElem? (i := 278) (by decide +kernel)
theorem ml_GR_3 : Cond.methodLink "LetterExchange$Graph" 3 ⟨"java/lang/Object", "<init>", "()V"⟩ ∈ lw_tbl := List.mem_of_getElem? (i := 281) (by decide +kernel)
theorem nk_GR_47 : Cond.classLink "LetterExchange$Graph" 47 "LetterExchange$Shape" ∈ lw_tbl := List.mem_of_getElem? (i := 282) (by decide +kernel)
theorem ml_GR_49 : Cond.methodLinkNest "LetterExchange$Graph" 49 ⟨"LetterExchange$Shape", "<init>", "()V"⟩ "LetterExchange" ∈ lw_tbl := List.mem_of_getElem? (i := 283) (by decide +kernel)
theorem nk_LE_51 : Cond.classLink "LetterExchange" 51 "LetterExchange$Walk" ∈ lw_tbl := List.mem_of_getElem? (i := 329) (by decide +kernel)
theorem ni_WA : Cond.instantiable nc_RWA 6 ∈ lw_tbl := List.mem_of_getElem? (i := 330) (by decide +kernel)
theorem nj_WA : Cond.initialized nc_RWA ∈ lw_tbl := List.mem_of_getElem? (i := 88) (by decide +kernel)
theorem ml_LE_53 : Cond.methodLinkNest "LetterExchange" 53 ⟨"LetterExchange$Walk", "<init>", "()V"⟩ "LetterExchange" ∈ lw_tbl := List.mem_of_getElem? (i := 331) (by decide +kernel)
theorem ml_WA_3 : Cond.methodLink "LetterExchange$Walk" 3 ⟨"java/lang/Object", "<init>", "()V"⟩ ∈ lw_tbl := List.mem_of_getElem? (i := 334) (by decide +kernel)
theorem nk_LE_58 : Cond.classLink "LetterExchange" 58 "LetterExchange$Turns" ∈ lw_tbl := List.mem_of_getElem? (i := 359) (by decide +kernel)
theorem ni_TU : Cond.instantiable nc_RTU 4 ∈ lw_tbl := List.mem_of_getElem? (i := 360) (by decide +kernel)
theorem nj_TU : Cond.initialized nc_RTU ∈ lw_tbl := List.mem_of_getElem? (i := 89) (by decide +kernel)
theorem ml_LE_60 : Cond.methodLinkNest "LetterExchange" 60 ⟨"LetterExchange$Turns", "<init>", "()V"⟩ "LetterExchange" ∈ lw_tbl := List.mem_of_getElem? (i := 361) (by decide +kernel)
theorem ml_TU_3 : Cond.methodLink "LetterExchange$Turns" 3 ⟨"java/lang/Object", "<init>", "()V"⟩ ∈ lw_tbl := List.mem_of_getElem? (i := 364) (by decide +kernel)
theorem nk_TU_9 : Cond.classLink "LetterExchange$Turns" 9 "LetterExchange$Shape" ∈ lw_tbl := List.mem_of_getElem? (i := 365) (by decide +kernel)
theorem ml_TU_11 : Cond.methodLinkNest "LetterExchange$Turns" 11 ⟨"LetterExchange$Shape", "<init>", "()V"⟩ "LetterExchange" ∈ lw_tbl := List.mem_of_getElem? (i := 366) (by decide +kernel)
theorem nk_LE_65 : Cond.classLink "LetterExchange" 65 "LetterExchange$State" ∈ lw_tbl := List.mem_of_getElem? (i := 380) (by decide +kernel)
theorem ml_LE_67 : Cond.methodLinkNest "LetterExchange" 67 ⟨"LetterExchange$State", "<init>", "()V"⟩ "LetterExchange" ∈ lw_tbl := List.mem_of_getElem? (i := 381) (by decide +kernel)
theorem ml_LE_104 : Cond.methodLink "LetterExchange" 104 ⟨"LetterExchange$State", "begin", "(I)V"⟩ ∈ lw_tbl := List.mem_of_getElem? (i := 382) (by decide +kernel)
theorem ml_ST_35 : Cond.methodLink "LetterExchange$State" 35 ⟨"LetterExchange$Shape", "begin", "(I)V"⟩ ∈ lw_tbl := List.mem_of_getElem? (i := 386) (by decide +kernel)
theorem ml_SH_22 : Cond.methodLinkNest "LetterExchange$Shape" 22 ⟨"LetterExchange", "cell", "(II)I"⟩ "LetterExchange" ∈ lw_tbl := List.mem_of_getElem? (i := 390) (by decide +kernel)
theorem ml_ST_39 : Cond.methodLinkNest "LetterExchange$State" 39 ⟨"LetterExchange", "cell", "(II)I"⟩ "LetterExchange" ∈ lw_tbl := List.mem_of_getElem? (i := 393) (by decide +kernel)
theorem ml_LE_112 : Cond.methodLink "LetterExchange" 112 ⟨"LetterExchange$Shape", "hang", "(IIII)V"⟩ ∈ lw_tbl := List.mem_of_getElem? (i := 394) (by decide +kernel)
theorem ml_LE_118 : Cond.methodLink "LetterExchange" 118 ⟨"LetterExchange", "beginAsSpare", "()V"⟩ ∈ lw_tbl := List.mem_of_getElem? (i := 398) (by decide +kernel)
theorem ml_LE_219 : Cond.methodLink "LetterExchange" 219 ⟨"LetterExchange$State", "copyFrom", "(LLetterExchange$State;)V"⟩ ∈ lw_tbl := List.mem_of_getElem? (i := 402) (by decide +kernel)
theorem ml_ST_43 : Cond.methodLink "LetterExchange$State" 43 ⟨"LetterExchange$Shape", "copyFrom", "(LLetterExchange$Shape;)V"⟩ ∈ lw_tbl := List.mem_of_getElem? (i := 406) (by decide +kernel)
theorem ml_SH_26 : Cond.methodLink "LetterExchange$Shape" 26 ⟨"java/lang/System", "arraycopy", "(Ljava/lang/Object;ILjava/lang/Object;II)V"⟩ ∈ lw_tbl := List.mem_of_getElem? (i := 410) (by decide +kernel)
theorem ml_ST_47 : Cond.methodLink "LetterExchange$State" 47 ⟨"java/lang/System", "arraycopy", "(Ljava/lang/Object;ILjava/lang/Object;II)V"⟩ ∈ lw_tbl := List.mem_of_getElem? (i := 413) (by decide +kernel)
theorem ml_LE_216 : Cond.methodLink "LetterExchange" 216 ⟨"LetterExchange", "takeSpare", "()V"⟩ ∈ lw_tbl := List.mem_of_getElem? (i := 414) (by decide +kernel)
theorem ml_LE_261 : Cond.methodLink "LetterExchange" 261 ⟨"LetterExchange$Scales", "weigh", "(LLetterExchange$Shape;)V"⟩ ∈ lw_tbl := List.mem_of_getElem? (i := 418) (by decide +kernel)
theorem ml_SC_19 : Cond.methodLink "LetterExchange$Scales" 19 ⟨"LetterExchange$Scales", "weighFrom", "(LLetterExchange$Shape;[II)Z"⟩ ∈ lw_tbl := List.mem_of_getElem? (i := 422) (by decide +kernel)
theorem ml_SC_29 : Cond.methodLink "LetterExchange$Scales" 29 ⟨"LetterExchange$Scales", "fits", "(LLetterExchange$Shape;[II)Z"⟩ ∈ lw_tbl := List.mem_of_getElem? (i := 425) (by decide +kernel)
theorem ml_SC_35 : Cond.methodLinkNest "LetterExchange$Scales" 35 ⟨"LetterExchange", "cell", "(II)I"⟩ "LetterExchange" ∈ lw_tbl := List.mem_of_getElem? (i := 428) (by decide +kernel)
theorem ml_LE_258 : Cond.methodLink "LetterExchange" 258 ⟨"LetterExchange$History", "forget", "()V"⟩ ∈ lw_tbl := List.mem_of_getElem? (i := 429) (by decide +kernel)
theorem ml_LW_13 : Cond.methodLink "LetterExchangeLaw" 13 ⟨"LetterExchange", "feed", "(I)I"⟩ ∈ lw_tbl := List.mem_of_getElem? (i := 489) (by decide +kernel)
theorem ml_LE_122 : Cond.methodLink "LetterExchange" 122 ⟨"LetterExchange$Text", "append", "(I)Z"⟩ ∈ lw_tbl := List.mem_of_getElem? (i := 494) (by decide +kernel)
theorem ml_LW_18 : Cond.methodLink "LetterExchangeLaw" 18 ⟨"LetterExchange", "letters", "()I"⟩ ∈ lw_tbl := List.mem_of_getElem? (i := 499) (by decide +kernel)
theorem ml_LE_130 : Cond.methodLink "LetterExchange" 130 ⟨"LetterExchange$Text", "readInto", "(LLetterExchange$State;)Z"⟩ ∈ lw_tbl := List.mem_of_getElem? (i := 503) (by decide +kernel)
theorem ml_TX_31 : Cond.methodLink "LetterExchange$Text" 31 ⟨"LetterExchange$Text", "readCount", "(LLetterExchange$State;)Z"⟩ ∈ lw_tbl := List.mem_of_getElem? (i := 507) (by decide +kernel)
theorem ml_TX_35 : Cond.methodLink "LetterExchange$Text" 35 ⟨"LetterExchange$Text", "take", "()I"⟩ ∈ lw_tbl := List.mem_of_getElem? (i := 511) (by decide +kernel)
theorem ml_TX_43 : Cond.methodLink "LetterExchange$Text" 43 ⟨"LetterExchange$Text", "blame", "(I)Z"⟩ ∈ lw_tbl := List.mem_of_getElem? (i := 515) (by decide +kernel)
theorem ml_TX_47 : Cond.methodLink "LetterExchange$Text" 47 ⟨"LetterExchange$Text", "figure", "(II)I"⟩ ∈ lw_tbl := List.mem_of_getElem? (i := 519) (by decide +kernel)
theorem ml_TX_51 : Cond.methodLink "LetterExchange$Text" 51 ⟨"LetterExchange$State", "begin", "(I)V"⟩ ∈ lw_tbl := List.mem_of_getElem? (i := 523) (by decide +kernel)
theorem ml_TX_57 : Cond.methodLink "LetterExchange$Text" 57 ⟨"LetterExchange$Text", "readEnd", "()Z"⟩ ∈ lw_tbl := List.mem_of_getElem? (i := 524) (by decide +kernel)
theorem ml_TX_39 : Cond.methodLink "LetterExchange$Text" 39 ⟨"LetterExchange$Text", "readClause", "(ILLetterExchange$State;)Z"⟩ ∈ lw_tbl := List.mem_of_getElem? (i := 528) (by decide +kernel)
theorem ml_TX_65 : Cond.methodLink "LetterExchange$Text" 65 ⟨"LetterExchange$Text", "readHang", "(LLetterExchange$Shape;)Z"⟩ ∈ lw_tbl := List.mem_of_getElem? (i := 532) (by decide +kernel)
theorem ml_TX_77 : Cond.methodLink "LetterExchange$Text" 77 ⟨"LetterExchange$Shape", "hang", "(IIII)V"⟩ ∈ lw_tbl := List.mem_of_getElem? (i := 536) (by decide +kernel)
theorem ml_TX_69 : Cond.methodLink "LetterExchange$Text" 69 ⟨"LetterExchange$Text", "readWorth", "(LLetterExchange$State;)Z"⟩ ∈ lw_tbl := List.mem_of_getElem? (i := 537) (by decide +kernel)
theorem ml_LW_23 : Cond.methodLink "LetterExchangeLaw" 23 ⟨"LetterExchange", "fault", "()I"⟩ ∈ lw_tbl := List.mem_of_getElem? (i := 541) (by decide +kernel)
theorem ml_LW_27 : Cond.methodLink "LetterExchangeLaw" 27 ⟨"LetterExchange", "told", "(I)I"⟩ ∈ lw_tbl := List.mem_of_getElem? (i := 545) (by decide +kernel)
theorem ml_LE_149 : Cond.methodLink "LetterExchange" 149 ⟨"LetterExchange", "isOpen", "()Z"⟩ ∈ lw_tbl := List.mem_of_getElem? (i := 549) (by decide +kernel)
theorem ml_LE_265 : Cond.methodLink "LetterExchange" 265 ⟨"LetterExchange$Graph", "find", "(LLetterExchange$Shape;Z)V"⟩ ∈ lw_tbl := List.mem_of_getElem? (i := 553) (by decide +kernel)
theorem ml_GR_58 : Cond.methodLink "LetterExchange$Graph" 58 ⟨"LetterExchange$Shape", "isMild", "()Z"⟩ ∈ lw_tbl := List.mem_of_getElem? (i := 557) (by decide +kernel)
theorem ml_GR_62 : Cond.methodLink "LetterExchange$Graph" 62 ⟨"LetterExchange$Graph", "fillProbe", "(LLetterExchange$Shape;)V"⟩ ∈ lw_tbl := List.mem_of_getElem? (i := 561) (by decide +kernel)
theorem ml_GR_91 : Cond.methodLinkNest "LetterExchange$Graph" 91 ⟨"LetterExchange", "codeOf", "([III)I"⟩ "LetterExchange" ∈ lw_tbl := List.mem_of_getElem? (i := 565) (by decide +kernel)
theorem ml_LE_176 : Cond.methodLink "LetterExchange" 176 ⟨"LetterExchange", "cell", "(II)I"⟩ ∈ lw_tbl := List.mem_of_getElem? (i := 568) (by decide +kernel)
theorem ml_GR_95 : Cond.methodLinkNest "LetterExchange$Graph" 95 ⟨"LetterExchange", "placeAmong", "([III)I"⟩ "LetterExchange" ∈ lw_tbl := List.mem_of_getElem? (i := 569) (by decide +kernel)
theorem ml_GR_101 : Cond.methodLinkNest "LetterExchange$Graph" 101 ⟨"LetterExchange", "cell", "(II)I"⟩ "LetterExchange" ∈ lw_tbl := List.mem_of_getElem? (i := 572) (by decide +kernel)
theorem ml_GR_66 : Cond.methodLink "LetterExchange$Graph" 66 ⟨"LetterExchange$Graph", "addProbe", "()I"⟩ ∈ lw_tbl := List.mem_of_getElem? (i := 573) (by decide +kernel)
theorem ml_GR_109 : Cond.methodLink "LetterExchange$Graph" 109 ⟨"java/lang/System", "arraycopy", "(Ljava/lang/Object;ILjava/lang/Object;II)V"⟩ ∈ lw_tbl := List.mem_of_getElem? (i := 577) (by decide +kernel)
theorem ml_GR_70 : Cond.methodLink "LetterExchange$Graph" 70 ⟨"LetterExchange$Graph", "load", "(I)V"⟩ ∈ lw_tbl := List.mem_of_getElem? (i := 578) (by decide +kernel)
theorem ml_GR_115 : Cond.methodLink "LetterExchange$Graph" 115 ⟨"LetterExchange$Graph", "spread", "(I[II)V"⟩ ∈ lw_tbl := List.mem_of_getElem? (i := 582) (by decide +kernel)
theorem ml_GR_74 : Cond.methodLink "LetterExchange$Graph" 74 ⟨"LetterExchange$Graph", "findLead", "(II)Z"⟩ ∈ lw_tbl := List.mem_of_getElem? (i := 586) (by decide +kernel)
theorem ml_GR_84 : Cond.methodLink "LetterExchange$Graph" 84 ⟨"LetterExchange$Shape", "becomeExchanged", "(LLetterExchange$Shape;I)Z"⟩ ∈ lw_tbl := List.mem_of_getElem? (i := 590) (by decide +kernel)
theorem ml_SH_32 : Cond.methodLink "LetterExchange$Shape" 32 ⟨"LetterExchange$Shape", "tableAfter", "(III)I"⟩ ∈ lw_tbl := List.mem_of_getElem? (i := 594) (by decide +kernel)
theorem ml_SH_36 : Cond.methodLink "LetterExchange$Shape" 36 ⟨"LetterExchange$Shape", "rowAfter", "(II)I"⟩ ∈ lw_tbl := List.mem_of_getElem? (i := 598) (by decide +kernel)
theorem ml_SH_43 : Cond.methodLink "LetterExchange$Shape" 43 ⟨"java/lang/Math", "max", "(II)I"⟩ ∈ lw_tbl := List.mem_of_getElem? (i := 602) (by decide +kernel)
theorem ml_SH_39 : Cond.methodLinkNest "LetterExchange$Shape" 39 ⟨"LetterExchange", "hasNumberBeyond", "([II)Z"⟩ "LetterExchange" ∈ lw_tbl := List.mem_of_getElem? (i := 605) (by decide +kernel)
theorem ml_GR_81 : Cond.methodLink "LetterExchange$Graph" 81 ⟨"LetterExchange$Graph", "standOfProbe", "()I"⟩ ∈ lw_tbl := List.mem_of_getElem? (i := 608) (by decide +kernel)
theorem ml_GR_105 : Cond.methodLink "LetterExchange$Graph" 105 ⟨"LetterExchange$Graph", "isProbe", "(I)Z"⟩ ∈ lw_tbl := List.mem_of_getElem? (i := 612) (by decide +kernel)
theorem ml_GR_78 : Cond.methodLink "LetterExchange$Graph" 78 ⟨"LetterExchange$Graph", "countAllLetters", "()I"⟩ ∈ lw_tbl := List.mem_of_getElem? (i := 616) (by decide +kernel)
theorem ml_GR_119 : Cond.methodLink "LetterExchange$Graph" 119 ⟨"LetterExchange$Graph", "isSeen", "(II)Z"⟩ ∈ lw_tbl := List.mem_of_getElem? (i := 620) (by decide +kernel)
theorem ml_LE_272 : Cond.methodLink "LetterExchange" 272 ⟨"LetterExchange$Graph", "standOf", "(LLetterExchange$Shape;)I"⟩ ∈ lw_tbl := List.mem_of_getElem? (i := 624) (by decide +kernel)
theorem ml_LE_275 : Cond.methodLink "LetterExchange" 275 ⟨"LetterExchange$Walk", "number", "(LLetterExchange$Graph;I)V"⟩ ∈ lw_tbl := List.mem_of_getElem? (i := 628) (by decide +kernel)
theorem ml_WA_34 : Cond.methodLink "LetterExchange$Walk" 34 ⟨"LetterExchange$Walk", "add", "(III)V"⟩ ∈ lw_tbl := List.mem_of_getElem? (i := 632) (by decide +kernel)
theorem ml_LE_157 : Cond.methodLink "LetterExchange" 157 ⟨"LetterExchange$Walk", "far", "()I"⟩ ∈ lw_tbl := List.mem_of_getElem? (i := 636) (by decide +kernel)
theorem ml_LE_164 : Cond.methodLink "LetterExchange" 164 ⟨"LetterExchange$Book", "firstWrong", "(LLetterExchange$Shape;)I"⟩ ∈ lw_tbl := List.mem_of_getElem? (i := 640) (by decide +kernel)
theorem ml_BK_27 : Cond.methodLink "LetterExchange$Book" 27 ⟨"LetterExchange$Shape", "code", "(I)I"⟩ ∈ lw_tbl := List.mem_of_getElem? (i := 644) (by decide +kernel)
theorem ml_SH_48 : Cond.methodLinkNest "LetterExchange$Shape" 48 ⟨"LetterExchange", "codeOf", "([III)I"⟩ "LetterExchange" ∈ lw_tbl := List.mem_of_getElem? (i := 648) (by decide +kernel)
theorem ml_LW_31 : Cond.methodLink "LetterExchangeLaw" 31 ⟨"LetterExchange", "table", "(II)I"⟩ ∈ lw_tbl := List.mem_of_getElem? (i := 649) (by decide +kernel)
theorem ml_LE_169 : Cond.methodLink "LetterExchange" 169 ⟨"LetterExchange", "isNoLetter", "(I)Z"⟩ ∈ lw_tbl := List.mem_of_getElem? (i := 653) (by decide +kernel)
theorem ml_LW_36 : Cond.methodLink "LetterExchangeLaw" 36 ⟨"LetterExchange", "letter", "(II)I"⟩ ∈ lw_tbl := List.mem_of_getElem? (i := 658) (by decide +kernel)
theorem ml_LE_189 : Cond.methodLink "LetterExchange" 189 ⟨"LetterExchange$Shape", "boundTo", "(I)I"⟩ ∈ lw_tbl := List.mem_of_getElem? (i := 662) (by decide +kernel)
theorem ml_LE_193 : Cond.methodLink "LetterExchange" 193 ⟨"LetterExchange", "placeNow", "(I)I"⟩ ∈ lw_tbl := List.mem_of_getElem? (i := 666) (by decide +kernel)
theorem ml_LE_283 : Cond.methodLink "LetterExchange" 283 ⟨"LetterExchange$Shape", "code", "(I)I"⟩ ∈ lw_tbl := List.mem_of_getElem? (i := 670) (by decide +kernel)
theorem ml_LE_286 : Cond.methodLink "LetterExchange" 286 ⟨"LetterExchange", "placeAmong", "([III)I"⟩ ∈ lw_tbl := List.mem_of_getElem? (i := 671) (by decide +kernel)
theorem ml_LE_196 : Cond.methodLink "LetterExchange" 196 ⟨"LetterExchange", "exchangesIntoSpare", "(I)Z"⟩ ∈ lw_tbl := List.mem_of_getElem? (i := 672) (by decide +kernel)
theorem ml_LE_279 : Cond.methodLink "LetterExchange" 279 ⟨"LetterExchange$Exchanger", "fill", "(LLetterExchange$State;LLetterExchange$State;I)Z"⟩ ∈ lw_tbl := List.mem_of_getElem? (i := 676) (by decide +kernel)
theorem ml_EX_21 : Cond.methodLink "LetterExchange$Exchanger" 21 ⟨"LetterExchange$Exchanger", "findWorth", "(LLetterExchange$State;I)Z"⟩ ∈ lw_tbl := List.mem_of_getElem? (i := 680) (by decide +kernel)
theorem ml_EX_86 : Cond.methodLink "LetterExchange$Exchanger" 86 ⟨"LetterExchange$Exchanger", "multiplyAll", "(LLetterExchange$Fraction;LLetterExchange$State;II)Z"⟩ ∈ lw_tbl := List.mem_of_getElem? (i := 684) (by decide +kernel)
theorem ml_EX_98 : Cond.methodLink "LetterExchange$Exchanger" 98 ⟨"LetterExchange$Fraction", "becomeOne", "()V"⟩ ∈ lw_tbl := List.mem_of_getElem? (i := 687) (by decide +kernel)
theorem ml_EX_104 : Cond.methodLinkNest "LetterExchange$Exchanger" 104 ⟨"LetterExchange", "cell", "(II)I"⟩ "LetterExchange" ∈ lw_tbl := List.mem_of_getElem? (i := 691) (by decide +kernel)
theorem ml_EX_94 : Cond.methodLink "LetterExchange$Exchanger" 94 ⟨"LetterExchange$Fraction", "multiply", "(JJ)Z"⟩ ∈ lw_tbl := List.mem_of_getElem? (i := 692) (by decide +kernel)
theorem ml_FR_16 : Cond.methodLink "LetterExchange$Fraction" 16 ⟨"LetterExchange$Fraction", "isSmallInLowestTerms", "()Z"⟩ ∈ lw_tbl := List.mem_of_getElem? (i := 696) (by decide +kernel)
theorem ml_EX_90 : Cond.methodLink "LetterExchange$Exchanger" 90 ⟨"LetterExchange$Fraction", "add", "(LLetterExchange$Fraction;)Z"⟩ ∈ lw_tbl := List.mem_of_getElem? (i := 701) (by decide +kernel)
theorem ml_EX_31 : Cond.methodLink "LetterExchange$Exchanger" 31 ⟨"LetterExchange$Shape", "becomeExchanged", "(LLetterExchange$Shape;I)Z"⟩ ∈ lw_tbl := List.mem_of_getElem? (i := 705) (by decide +kernel)
theorem ml_EX_41 : Cond.methodLink "LetterExchange$Exchanger" 41 ⟨"LetterExchange$Exchanger", "fillSigns", "(LLetterExchange$State;LLetterExchange$State;I)V"⟩ ∈ lw_tbl := List.mem_of_getElem? (i := 706) (by decide +kernel)
theorem ml_EX_107 : Cond.methodLink "LetterExchange$Exchanger" 107 ⟨"LetterExchange$Exchanger", "signAfter", "(LLetterExchange$State;III)I"⟩ ∈ lw_tbl := List.mem_of_getElem? (i := 709) (by decide +kernel)
theorem ml_EX_45 : Cond.methodLink "LetterExchange$Exchanger" 45 ⟨"LetterExchange$Exchanger", "fillDegrees", "(LLetterExchange$State;LLetterExchange$State;I)V"⟩ ∈ lw_tbl := List.mem_of_getElem? (i := 712) (by decide +kernel)
theorem ml_EX_111 : Cond.methodLink "LetterExchange$Exchanger" 111 ⟨"LetterExchange$Exchanger", "hasPositiveSign", "(LLetterExchange$State;I)Z"⟩ ∈ lw_tbl := List.mem_of_getElem? (i := 715) (by decide +kernel)
theorem ml_EX_114 : Cond.methodLink "LetterExchange$Exchanger" 114 ⟨"LetterExchange$Exchanger", "degreeAfter", "(LLetterExchange$State;III)I"⟩ ∈ lw_tbl := List.mem_of_getElem? (i := 718) (by decide +kernel)
theorem ml_EX_52 : Cond.methodLinkNest "LetterExchange$Exchanger" 52 ⟨"LetterExchange", "hasNumberBeyond", "([II)Z"⟩ "LetterExchange" ∈ lw_tbl := List.mem_of_getElem? (i := 721) (by decide +kernel)
theorem ml_EX_62 : Cond.methodLink "LetterExchange$Exchanger" 62 ⟨"java/lang/System", "arraycopy", "(Ljava/lang/Object;ILjava/lang/Object;II)V"⟩ ∈ lw_tbl := List.mem_of_getElem? (i := 722) (by decide +kernel)
theorem ml_EX_80 : Cond.methodLink "LetterExchange$Exchanger" 80 ⟨"java/lang/Math", "min", "(II)I"⟩ ∈ lw_tbl := List.mem_of_getElem? (i := 724) (by decide +kernel)
theorem ml_LW_40 : Cond.methodLink "LetterExchangeLaw" 40 ⟨"LetterExchange", "row", "(III)I"⟩ ∈ lw_tbl := List.mem_of_getElem? (i := 727) (by decide +kernel)
theorem ml_LW_45 : Cond.methodLink "LetterExchangeLaw" 45 ⟨"LetterExchange", "byTurns", "(II)I"⟩ ∈ lw_tbl := List.mem_of_getElem? (i := 731) (by decide +kernel)
theorem ml_LE_208 : Cond.methodLink "LetterExchange" 208 ⟨"LetterExchange$Turns", "count", "(LLetterExchange$Shape;II)I"⟩ ∈ lw_tbl := List.mem_of_getElem? (i := 735) (by decide +kernel)
theorem ml_TU_28 : Cond.methodLink "LetterExchange$Turns" 28 ⟨"LetterExchange$Turns", "fillRanked", "([ILLetterExchange$Shape;)V"⟩ ∈ lw_tbl := List.mem_of_getElem? (i := 739) (by decide +kernel)
theorem ml_TU_48 : Cond.methodLink "LetterExchange$Turns" 48 ⟨"LetterExchange$Shape", "code", "(I)I"⟩ ∈ lw_tbl := List.mem_of_getElem? (i := 742) (by decide +kernel)
theorem ml_TU_32 : Cond.methodLink "LetterExchange$Turns" 32 ⟨"LetterExchange$Shape", "copyFrom", "(LLetterExchange$Shape;)V"⟩ ∈ lw_tbl := List.mem_of_getElem? (i := 743) (by decide +kernel)
theorem ml_TU_36 : Cond.methodLink "LetterExchange$Turns" 36 ⟨"LetterExchange$Shape", "becomeExchanged", "(LLetterExchange$Shape;I)Z"⟩ ∈ lw_tbl := List.mem_of_getElem? (i := 744) (by decide +kernel)
theorem ml_TU_44 : Cond.methodLink "LetterExchange$Turns" 44 ⟨"LetterExchange$Turns", "areAlike", "([I[II)Z"⟩ ∈ lw_tbl := List.mem_of_getElem? (i := 745) (by decide +kernel)
theorem ml_LW_49 : Cond.methodLink "LetterExchangeLaw" 49 ⟨"LetterExchange", "exchange", "(I)I"⟩ ∈ lw_tbl := List.mem_of_getElem? (i := 748) (by decide +kernel)
theorem ml_LE_212 : Cond.methodLink "LetterExchange" 212 ⟨"LetterExchange$History", "remember", "(LLetterExchange$State;)V"⟩ ∈ lw_tbl := List.mem_of_getElem? (i := 753) (by decide +kernel)
theorem ml_HI_25 : Cond.methodLink "LetterExchange$History" 25 ⟨"LetterExchange$State", "copyFrom", "(LLetterExchange$State;)V"⟩ ∈ lw_tbl := List.mem_of_getElem? (i := 757) (by decide +kernel)
theorem ml_LW_53 : Cond.methodLink "LetterExchangeLaw" 53 ⟨"LetterExchange", "start", "()I"⟩ ∈ lw_tbl := List.mem_of_getElem? (i := 758) (by decide +kernel)
theorem ml_LW_57 : Cond.methodLink "LetterExchangeLaw" 57 ⟨"LetterExchange", "drift", "(I)I"⟩ ∈ lw_tbl := List.mem_of_getElem? (i := 762) (by decide +kernel)
theorem ml_LE_222 : Cond.methodLink "LetterExchange" 222 ⟨"LetterExchange", "draw", "(I)I"⟩ ∈ lw_tbl := List.mem_of_getElem? (i := 766) (by decide +kernel)
theorem ml_LW_61 : Cond.methodLink "LetterExchangeLaw" 61 ⟨"LetterExchange", "undo", "(I)I"⟩ ∈ lw_tbl := List.mem_of_getElem? (i := 774) (by decide +kernel)
theorem ml_LE_225 : Cond.methodLink "LetterExchange" 225 ⟨"LetterExchange$History", "takeBack", "(ILLetterExchange$State;)V"⟩ ∈ lw_tbl := List.mem_of_getElem? (i := 778) (by decide +kernel)
theorem ml_LW_65 : Cond.methodLink "LetterExchangeLaw" 65 ⟨"LetterExchange", "stand", "(II)I"⟩ ∈ lw_tbl := List.mem_of_getElem? (i := 782) (by decide +kernel)
theorem ml_LE_229 : Cond.methodLink "LetterExchange" 229 ⟨"LetterExchange$Walk", "lacks", "(I)Z"⟩ ∈ lw_tbl := List.mem_of_getElem? (i := 786) (by decide +kernel)
theorem ml_LW_69 : Cond.methodLink "LetterExchangeLaw" 69 ⟨"LetterExchange", "next", "(II)I"⟩ ∈ lw_tbl := List.mem_of_getElem? (i := 790) (by decide +kernel)
theorem ml_LE_241 : Cond.methodLink "LetterExchange" 241 ⟨"LetterExchange$Walk", "lead", "(LLetterExchange$Graph;II)I"⟩ ∈ lw_tbl := List.mem_of_getElem? (i := 794) (by decide +kernel)
theorem ml_LW_73 : Cond.methodLink "LetterExchangeLaw" 73 ⟨"LetterExchange", "away", "(I)I"⟩ ∈ lw_tbl := List.mem_of_getElem? (i := 798) (by decide +kernel)
theorem ml_LE_245 : Cond.methodLink "LetterExchange" 245 ⟨"LetterExchange$Walk", "countAway", "(I)I"⟩ ∈ lw_tbl := List.mem_of_getElem? (i := 802) (by decide +kernel)
theorem ml_LW_77 : Cond.methodLink "LetterExchangeLaw" 77 ⟨"LetterExchange", "standRow", "(III)I"⟩ ∈ lw_tbl := List.mem_of_getElem? (i := 806) (by decide +kernel)
theorem ml_LE_251 : Cond.methodLink "LetterExchange" 251 ⟨"LetterExchange$Graph", "rowNumber", "(III)I"⟩ ∈ lw_tbl := List.mem_of_getElem? (i := 810) (by decide +kernel)
theorem ml_LW_81 : Cond.methodLink "LetterExchangeLaw" 81 ⟨"LetterExchange", "write", "(II)I"⟩ ∈ lw_tbl := List.mem_of_getElem? (i := 814) (by decide +kernel)
theorem ml_LE_255 : Cond.methodLink "LetterExchange" 255 ⟨"LetterExchange$Book", "append", "(II)Z"⟩ ∈ lw_tbl := List.mem_of_getElem? (i := 818) (by decide +kernel)
theorem ml_LW_85 : Cond.methodLink "LetterExchangeLaw" 85 ⟨"LetterExchange", "tear", "()I"⟩ ∈ lw_tbl := List.mem_of_getElem? (i := 822) (by decide +kernel)
theorem ml_LW_89 : Cond.methodLink "LetterExchangeLaw" 89 ⟨"LetterExchange", "seed", "(I)I"⟩ ∈ lw_tbl := List.mem_of_getElem? (i := 826) (by decide +kernel)
theorem ml_LW_93 : Cond.methodLink "LetterExchangeLaw" 93 ⟨"LetterExchange", "keep", "(I)I"⟩ ∈ lw_tbl := List.mem_of_getElem? (i := 830) (by decide +kernel)
theorem ml_LW_97 : Cond.methodLink "LetterExchangeLaw" 97 ⟨"LetterExchange", "goBack", "(I)I"⟩ ∈ lw_tbl := List.mem_of_getElem? (i := 834) (by decide +kernel)
theorem nk_LW_10 : Cond.classLink "LetterExchangeLaw" 10 "LetterExchangeModel" ∈ lw_tbl := List.mem_of_getElem? (i := 838) (by decide +kernel)
theorem ni_MD : Cond.instantiable nc_RMD 30 ∈ lw_tbl := List.mem_of_getElem? (i := 839) (by decide +kernel)
theorem nj_MD : Cond.initialized nc_RMD ∈ lw_tbl := List.mem_of_getElem? (i := 91) (by decide +kernel)
theorem ml_LW_12 : Cond.methodLink "LetterExchangeLaw" 12 ⟨"LetterExchangeModel", "<init>", "()V"⟩ ∈ lw_tbl := List.mem_of_getElem? (i := 840) (by decide +kernel)
theorem ml_MD_1 : Cond.methodLink "LetterExchangeModel" 1 ⟨"java/lang/Object", "<init>", "()V"⟩ ∈ lw_tbl := List.mem_of_getElem? (i := 843) (by decide +kernel)
theorem ml_MD_65 : Cond.methodLink "LetterExchangeModel" 65 ⟨"LetterExchangeModel", "begin", "()V"⟩ ∈ lw_tbl := List.mem_of_getElem? (i := 844) (by decide +kernel)
theorem ml_MD_116 : Cond.methodLink "LetterExchangeModel" 116 ⟨"LetterExchangeModel", "copyRow", "(II)V"⟩ ∈ lw_tbl := List.mem_of_getElem? (i := 848) (by decide +kernel)
theorem ml_LW_68 : Cond.methodLink "LetterExchangeLaw" 68 ⟨"LetterExchangeModel", "stand", "(II)I"⟩ ∈ lw_tbl := List.mem_of_getElem? (i := 943) (by decide +kernel)
theorem ml_MD_177 : Cond.methodLink "LetterExchangeModel" 177 ⟨"LetterExchangeModel", "walk", "()Z"⟩ ∈ lw_tbl := List.mem_of_getElem? (i := 947) (by decide +kernel)
theorem ml_MD_120 : Cond.methodLink "LetterExchangeModel" 120 ⟨"LetterExchangeModel", "isWell", "()Z"⟩ ∈ lw_tbl := List.mem_of_getElem? (i := 951) (by decide +kernel)
theorem ml_MD_76 : Cond.methodLink "LetterExchangeModel" 76 ⟨"LetterExchangeModel", "areWeights", "()Z"⟩ ∈ lw_tbl := List.mem_of_getElem? (i := 955) (by decide +kernel)
theorem ml_MD_72 : Cond.methodLink "LetterExchangeModel" 72 ⟨"LetterExchangeModel", "b", "(III)I"⟩ ∈ lw_tbl := List.mem_of_getElem? (i := 959) (by decide +kernel)
theorem ml_MD_153 : Cond.methodLink "LetterExchangeModel" 153 ⟨"LetterExchangeModel", "layStand", "(II)Z"⟩ ∈ lw_tbl := List.mem_of_getElem? (i := 963) (by decide +kernel)
theorem ml_MD_144 : Cond.methodLink "LetterExchangeModel" 144 ⟨"LetterExchangeModel", "rankedAt", "(II)I"⟩ ∈ lw_tbl := List.mem_of_getElem? (i := 967) (by decide +kernel)
theorem ml_MD_141 : Cond.methodLink "LetterExchangeModel" 141 ⟨"LetterExchangeModel", "placeOf", "(II)I"⟩ ∈ lw_tbl := List.mem_of_getElem? (i := 971) (by decide +kernel)
theorem ml_MD_138 : Cond.methodLink "LetterExchangeModel" 138 ⟨"LetterExchangeModel", "isBefore", "(III)Z"⟩ ∈ lw_tbl := List.mem_of_getElem? (i := 975) (by decide +kernel)
theorem ml_MD_156 : Cond.methodLink "LetterExchangeModel" 156 ⟨"LetterExchangeModel", "leadOn", "(II)Z"⟩ ∈ lw_tbl := List.mem_of_getElem? (i := 979) (by decide +kernel)
theorem ml_MD_159 : Cond.methodLink "LetterExchangeModel" 159 ⟨"LetterExchangeModel", "unlay", "(I)V"⟩ ∈ lw_tbl := List.mem_of_getElem? (i := 983) (by decide +kernel)
theorem ml_MD_163 : Cond.methodLink "LetterExchangeModel" 163 ⟨"LetterExchangeModel", "steps", "(I)Z"⟩ ∈ lw_tbl := List.mem_of_getElem? (i := 987) (by decide +kernel)
theorem ml_MD_112 : Cond.methodLink "LetterExchangeModel" 112 ⟨"LetterExchangeModel", "gathered", "(IIIII)I"⟩ ∈ lw_tbl := List.mem_of_getElem? (i := 991) (by decide +kernel)
theorem ml_MD_104 : Cond.methodLink "LetterExchangeModel" 104 ⟨"LetterExchangeModel", "both", "(II)I"⟩ ∈ lw_tbl := List.mem_of_getElem? (i := 995) (by decide +kernel)
theorem ml_MD_108 : Cond.methodLink "LetterExchangeModel" 108 ⟨"LetterExchangeModel", "lay", "(II)Z"⟩ ∈ lw_tbl := List.mem_of_getElem? (i := 998) (by decide +kernel)
theorem ml_MD_68 : Cond.methodLink "LetterExchangeModel" 68 ⟨"LetterExchangeModel", "in", "(III)Z"⟩ ∈ lw_tbl := List.mem_of_getElem? (i := 1002) (by decide +kernel)
theorem ml_MD_167 : Cond.methodLink "LetterExchangeModel" 167 ⟨"LetterExchangeModel", "leadBack", "(II)Z"⟩ ∈ lw_tbl := List.mem_of_getElem? (i := 1005) (by decide +kernel)
theorem ml_MD_170 : Cond.methodLink "LetterExchangeModel" 170 ⟨"LetterExchangeModel", "find", "(I)I"⟩ ∈ lw_tbl := List.mem_of_getElem? (i := 1009) (by decide +kernel)
theorem ml_MD_147 : Cond.methodLink "LetterExchangeModel" 147 ⟨"LetterExchangeModel", "isSame", "(II)Z"⟩ ∈ lw_tbl := List.mem_of_getElem? (i := 1013) (by decide +kernel)
theorem ml_LW_72 : Cond.methodLink "LetterExchangeLaw" 72 ⟨"LetterExchangeModel", "next", "(II)I"⟩ ∈ lw_tbl := List.mem_of_getElem? (i := 1019) (by decide +kernel)
theorem ml_MD_189 : Cond.methodLink "LetterExchangeModel" 189 ⟨"LetterExchangeModel", "isLetter", "(I)Z"⟩ ∈ lw_tbl := List.mem_of_getElem? (i := 1023) (by decide +kernel)
theorem ml_LW_76 : Cond.methodLink "LetterExchangeLaw" 76 ⟨"LetterExchangeModel", "away", "(I)I"⟩ ∈ lw_tbl := List.mem_of_getElem? (i := 1027) (by decide +kernel)
theorem ml_LW_80 : Cond.methodLink "LetterExchangeLaw" 80 ⟨"LetterExchangeModel", "standRow", "(III)I"⟩ ∈ lw_tbl := List.mem_of_getElem? (i := 1031) (by decide +kernel)
theorem ml_LW_48 : Cond.methodLink "LetterExchangeLaw" 48 ⟨"LetterExchangeModel", "byTurns", "(II)I"⟩ ∈ lw_tbl := List.mem_of_getElem? (i := 1035) (by decide +kernel)
theorem ml_MD_192 : Cond.methodLink "LetterExchangeModel" 192 ⟨"LetterExchangeModel", "isHome", "()Z"⟩ ∈ lw_tbl := List.mem_of_getElem? (i := 1039) (by decide +kernel)
theorem ml_LW_17 : Cond.methodLink "LetterExchangeLaw" 17 ⟨"LetterExchangeModel", "feed", "(I)I"⟩ ∈ lw_tbl := List.mem_of_getElem? (i := 1043) (by decide +kernel)
theorem ml_LW_22 : Cond.methodLink "LetterExchangeLaw" 22 ⟨"LetterExchangeModel", "letters", "()I"⟩ ∈ lw_tbl := List.mem_of_getElem? (i := 1048) (by decide +kernel)
theorem ml_MD_239 : Cond.methodLink "LetterExchangeModel" 239 ⟨"LetterExchangeModel", "readClause", "(Z)V"⟩ ∈ lw_tbl := List.mem_of_getElem? (i := 1052) (by decide +kernel)
theorem ml_MD_208 : Cond.methodLink "LetterExchangeModel" 208 ⟨"LetterExchangeModel", "here", "()I"⟩ ∈ lw_tbl := List.mem_of_getElem? (i := 1056) (by decide +kernel)
theorem ml_MD_211 : Cond.methodLink "LetterExchangeModel" 211 ⟨"LetterExchangeModel", "fail", "(I)V"⟩ ∈ lw_tbl := List.mem_of_getElem? (i := 1060) (by decide +kernel)
theorem ml_MD_221 : Cond.methodLink "LetterExchangeModel" 221 ⟨"LetterExchangeModel", "readMany", "()V"⟩ ∈ lw_tbl := List.mem_of_getElem? (i := 1064) (by decide +kernel)
theorem ml_MD_214 : Cond.methodLink "LetterExchangeModel" 214 ⟨"LetterExchangeModel", "figure", "(II)I"⟩ ∈ lw_tbl := List.mem_of_getElem? (i := 1068) (by decide +kernel)
theorem ml_MD_217 : Cond.methodLink "LetterExchangeModel" 217 ⟨"LetterExchangeModel", "pass", "(Z)V"⟩ ∈ lw_tbl := List.mem_of_getElem? (i := 1072) (by decide +kernel)
theorem ml_MD_224 : Cond.methodLink "LetterExchangeModel" 224 ⟨"LetterExchangeModel", "readTable", "()V"⟩ ∈ lw_tbl := List.mem_of_getElem? (i := 1076) (by decide +kernel)
theorem ml_MD_227 : Cond.methodLink "LetterExchangeModel" 227 ⟨"LetterExchangeModel", "readWorth", "()V"⟩ ∈ lw_tbl := List.mem_of_getElem? (i := 1080) (by decide +kernel)
theorem ml_LW_26 : Cond.methodLink "LetterExchangeLaw" 26 ⟨"LetterExchangeModel", "fault", "()I"⟩ ∈ lw_tbl := List.mem_of_getElem? (i := 1084) (by decide +kernel)
theorem ml_LW_30 : Cond.methodLink "LetterExchangeLaw" 30 ⟨"LetterExchangeModel", "told", "(I)I"⟩ ∈ lw_tbl := List.mem_of_getElem? (i := 1088) (by decide +kernel)
theorem ml_MD_245 : Cond.methodLink "LetterExchangeModel" 245 ⟨"LetterExchangeModel", "ofStands", "(I)I"⟩ ∈ lw_tbl := List.mem_of_getElem? (i := 1092) (by decide +kernel)
theorem ml_MD_180 : Cond.methodLink "LetterExchangeModel" 180 ⟨"LetterExchangeModel", "allLetters", "()I"⟩ ∈ lw_tbl := List.mem_of_getElem? (i := 1096) (by decide +kernel)
theorem ml_MD_174 : Cond.methodLink "LetterExchangeModel" 174 ⟨"LetterExchangeModel", "isRowNew", "(I)Z"⟩ ∈ lw_tbl := List.mem_of_getElem? (i := 1100) (by decide +kernel)
theorem ml_MD_184 : Cond.methodLink "LetterExchangeModel" 184 ⟨"LetterExchangeModel", "far", "()I"⟩ ∈ lw_tbl := List.mem_of_getElem? (i := 1104) (by decide +kernel)
theorem ml_MD_248 : Cond.methodLink "LetterExchangeModel" 248 ⟨"LetterExchangeModel", "wrongEntry", "()I"⟩ ∈ lw_tbl := List.mem_of_getElem? (i := 1108) (by decide +kernel)
theorem ml_MD_242 : Cond.methodLink "LetterExchangeModel" 242 ⟨"LetterExchangeModel", "code", "(I)I"⟩ ∈ lw_tbl := List.mem_of_getElem? (i := 1112) (by decide +kernel)
theorem ml_LW_35 : Cond.methodLink "LetterExchangeLaw" 35 ⟨"LetterExchangeModel", "table", "(II)I"⟩ ∈ lw_tbl := List.mem_of_getElem? (i := 1116) (by decide +kernel)
theorem ml_LW_39 : Cond.methodLink "LetterExchangeLaw" 39 ⟨"LetterExchangeModel", "letter", "(II)I"⟩ ∈ lw_tbl := List.mem_of_getElem? (i := 1120) (by decide +kernel)
theorem ml_MD_254 : Cond.methodLink "LetterExchangeModel" 254 ⟨"LetterExchangeModel", "bound", "(I)I"⟩ ∈ lw_tbl := List.mem_of_getElem? (i := 1124) (by decide +kernel)
theorem ml_MD_257 : Cond.methodLink "LetterExchangeModel" 257 ⟨"LetterExchangeModel", "would", "(II)I"⟩ ∈ lw_tbl := List.mem_of_getElem? (i := 1128) (by decide +kernel)
theorem ml_MD_251 : Cond.methodLink "LetterExchangeModel" 251 ⟨"LetterExchangeModel", "tries", "(I)Z"⟩ ∈ lw_tbl := List.mem_of_getElem? (i := 1132) (by decide +kernel)
theorem ml_MD_123 : Cond.methodLink "LetterExchangeModel" 123 ⟨"LetterExchangeModel", "worth", "(II)Z"⟩ ∈ lw_tbl := List.mem_of_getElem? (i := 1136) (by decide +kernel)
theorem ml_MD_100 : Cond.methodLink "LetterExchangeModel" 100 ⟨"LetterExchangeModel", "product", "(III)V"⟩ ∈ lw_tbl := List.mem_of_getElem? (i := 1140) (by decide +kernel)
theorem ml_MD_96 : Cond.methodLink "LetterExchangeModel" 96 ⟨"LetterExchangeModel", "times", "(JJ)V"⟩ ∈ lw_tbl := List.mem_of_getElem? (i := 1144) (by decide +kernel)
theorem ml_MD_93 : Cond.methodLink "LetterExchangeModel" 93 ⟨"LetterExchangeModel", "shorten", "()V"⟩ ∈ lw_tbl := List.mem_of_getElem? (i := 1148) (by decide +kernel)
theorem ml_MD_126 : Cond.methodLink "LetterExchangeModel" 126 ⟨"LetterExchangeModel", "turned", "(III)Z"⟩ ∈ lw_tbl := List.mem_of_getElem? (i := 1153) (by decide +kernel)
theorem ml_MD_129 : Cond.methodLink "LetterExchangeModel" 129 ⟨"LetterExchangeModel", "denominators", "(III)Z"⟩ ∈ lw_tbl := List.mem_of_getElem? (i := 1157) (by decide +kernel)
theorem ml_MD_132 : Cond.methodLink "LetterExchangeModel" 132 ⟨"LetterExchangeModel", "signs", "(III)Z"⟩ ∈ lw_tbl := List.mem_of_getElem? (i := 1161) (by decide +kernel)
theorem ml_MD_135 : Cond.methodLink "LetterExchangeModel" 135 ⟨"LetterExchangeModel", "degrees", "(III)Z"⟩ ∈ lw_tbl := List.mem_of_getElem? (i := 1165) (by decide +kernel)
theorem ml_LW_44 : Cond.methodLink "LetterExchangeLaw" 44 ⟨"LetterExchangeModel", "row", "(III)I"⟩ ∈ lw_tbl := List.mem_of_getElem? (i := 1169) (by decide +kernel)
theorem ml_LW_52 : Cond.methodLink "LetterExchangeLaw" 52 ⟨"LetterExchangeModel", "exchange", "(I)I"⟩ ∈ lw_tbl := List.mem_of_getElem? (i := 1173) (by decide +kernel)
theorem ml_MD_262 : Cond.methodLink "LetterExchangeModel" 262 ⟨"LetterExchangeModel", "remember", "()V"⟩ ∈ lw_tbl := List.mem_of_getElem? (i := 1178) (by decide +kernel)
theorem ml_MD_265 : Cond.methodLink "LetterExchangeModel" 265 ⟨"LetterExchangeModel", "take", "()V"⟩ ∈ lw_tbl := List.mem_of_getElem? (i := 1182) (by decide +kernel)
theorem ml_LW_56 : Cond.methodLink "LetterExchangeLaw" 56 ⟨"LetterExchangeModel", "start", "()I"⟩ ∈ lw_tbl := List.mem_of_getElem? (i := 1187) (by decide +kernel)
theorem ml_LW_60 : Cond.methodLink "LetterExchangeLaw" 60 ⟨"LetterExchangeModel", "drift", "(I)I"⟩ ∈ lw_tbl := List.mem_of_getElem? (i := 1191) (by decide +kernel)
theorem ml_MD_278 : Cond.methodLink "LetterExchangeModel" 278 ⟨"LetterExchangeModel", "draw", "(I)I"⟩ ∈ lw_tbl := List.mem_of_getElem? (i := 1195) (by decide +kernel)
theorem ml_LW_64 : Cond.methodLink "LetterExchangeLaw" 64 ⟨"LetterExchangeModel", "undo", "(I)I"⟩ ∈ lw_tbl := List.mem_of_getElem? (i := 1203) (by decide +kernel)
theorem ml_LW_84 : Cond.methodLink "LetterExchangeLaw" 84 ⟨"LetterExchangeModel", "write", "(II)I"⟩ ∈ lw_tbl := List.mem_of_getElem? (i := 1207) (by decide +kernel)
theorem ml_LW_88 : Cond.methodLink "LetterExchangeLaw" 88 ⟨"LetterExchangeModel", "tear", "()I"⟩ ∈ lw_tbl := List.mem_of_getElem? (i := 1211) (by decide +kernel)
theorem ml_LW_92 : Cond.methodLink "LetterExchangeLaw" 92 ⟨"LetterExchangeModel", "seed", "(I)I"⟩ ∈ lw_tbl := List.mem_of_getElem? (i := 1215) (by decide +kernel)
theorem ml_LW_96 : Cond.methodLink "LetterExchangeLaw" 96 ⟨"LetterExchangeModel", "keep", "(I)I"⟩ ∈ lw_tbl := List.mem_of_getElem? (i := 1219) (by decide +kernel)
theorem ml_LW_100 : Cond.methodLink "LetterExchangeLaw" 100 ⟨"LetterExchangeModel", "goBack", "(I)I"⟩ ∈ lw_tbl := List.mem_of_getElem? (i := 1223) (by decide +kernel)
end
