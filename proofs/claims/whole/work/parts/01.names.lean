-- ===== PART A: goes FIRST, ahead of the names: the tables' words, and 'selects' of the private methods out of them =====
/-- a private method of a class that the tables say can be made, by its rows of tables_1 -/
def lw_okq (q : MethodName × Nat) : Prop := (q.1.cls ≠ "java/lang/invoke/MethodHandle" ∧ q.1.cls ≠ "java/lang/invoke/VarHandle") ∧ Cond.instantiable q.1.cls q.2 ∈ tables_1 ∧ Cond.privateMethod q.1 ∈ tables_1 ∧ Cond.instanceMethod q.1 ∈ tables_1
theorem lw_p0 : lw_okq (⟨"JudgedRows$Page", "mayStand", "(I)Z"⟩, 2) := ⟨⟨by decide +kernel, by decide +kernel⟩, List.mem_of_getElem? (i := 31) (by decide +kernel), List.mem_of_getElem? (i := 291) (by decide +kernel), List.mem_of_getElem? (i := 292) (by decide +kernel)⟩
theorem lw_p1 : lw_okq (⟨"JudgedRows$Page", "kindsEnd", "(I)I"⟩, 2) := ⟨⟨by decide +kernel, by decide +kernel⟩, List.mem_of_getElem? (i := 31) (by decide +kernel), List.mem_of_getElem? (i := 295) (by decide +kernel), List.mem_of_getElem? (i := 296) (by decide +kernel)⟩
theorem lw_p2 : lw_okq (⟨"JudgedRows$Rows", "layRow", "(I)V"⟩, 6) := ⟨⟨by decide +kernel, by decide +kernel⟩, List.mem_of_getElem? (i := 114) (by decide +kernel), List.mem_of_getElem? (i := 410) (by decide +kernel), List.mem_of_getElem? (i := 411) (by decide +kernel)⟩
theorem lw_p3 : lw_okq (⟨"JudgedRows", "isJudge", "(I)Z"⟩, 15) := ⟨⟨by decide +kernel, by decide +kernel⟩, List.mem_of_getElem? (i := 23) (by decide +kernel), List.mem_of_getElem? (i := 437) (by decide +kernel), List.mem_of_getElem? (i := 438) (by decide +kernel)⟩
theorem lw_p4 : lw_okq (⟨"JudgedRows", "sorts", "(I)I"⟩, 15) := ⟨⟨by decide +kernel, by decide +kernel⟩, List.mem_of_getElem? (i := 23) (by decide +kernel), List.mem_of_getElem? (i := 445) (by decide +kernel), List.mem_of_getElem? (i := 446) (by decide +kernel)⟩
theorem lw_p5 : lw_okq (⟨"JudgedRows", "couldBe", "(ILJudgedRows$Judge;)Z"⟩, 15) := ⟨⟨by decide +kernel, by decide +kernel⟩, List.mem_of_getElem? (i := 23) (by decide +kernel), List.mem_of_getElem? (i := 449) (by decide +kernel), List.mem_of_getElem? (i := 450) (by decide +kernel)⟩
theorem lw_p6 : lw_okq (⟨"JudgedRows", "testFor", "(I)I"⟩, 15) := ⟨⟨by decide +kernel, by decide +kernel⟩, List.mem_of_getElem? (i := 23) (by decide +kernel), List.mem_of_getElem? (i := 497) (by decide +kernel), List.mem_of_getElem? (i := 498) (by decide +kernel)⟩
theorem lw_p7 : lw_okq (⟨"JudgedRows", "worstSorts", "(II)I"⟩, 15) := ⟨⟨by decide +kernel, by decide +kernel⟩, List.mem_of_getElem? (i := 23) (by decide +kernel), List.mem_of_getElem? (i := 501) (by decide +kernel), List.mem_of_getElem? (i := 502) (by decide +kernel)⟩
theorem lw_p8 : lw_okq (⟨"JudgedRows", "judgeAt", "(I)LJudgedRows$Judge;"⟩, 15) := ⟨⟨by decide +kernel, by decide +kernel⟩, List.mem_of_getElem? (i := 23) (by decide +kernel), List.mem_of_getElem? (i := 506) (by decide +kernel), List.mem_of_getElem? (i := 507) (by decide +kernel)⟩
theorem lw_p9 : lw_okq (⟨"JudgedRows", "isRow", "(I)Z"⟩, 15) := ⟨⟨by decide +kernel, by decide +kernel⟩, List.mem_of_getElem? (i := 23) (by decide +kernel), List.mem_of_getElem? (i := 533) (by decide +kernel), List.mem_of_getElem? (i := 534) (by decide +kernel)⟩
theorem lw_p10 : lw_okq (⟨"JudgedRows", "fitting", "(I)Z"⟩, 15) := ⟨⟨by decide +kernel, by decide +kernel⟩, List.mem_of_getElem? (i := 23) (by decide +kernel), List.mem_of_getElem? (i := 537) (by decide +kernel), List.mem_of_getElem? (i := 538) (by decide +kernel)⟩
theorem lw_p11 : lw_okq (⟨"JudgedRows", "gatherFitting", "()I"⟩, 15) := ⟨⟨by decide +kernel, by decide +kernel⟩, List.mem_of_getElem? (i := 23) (by decide +kernel), List.mem_of_getElem? (i := 562) (by decide +kernel), List.mem_of_getElem? (i := 563) (by decide +kernel)⟩
theorem lw_p12 : lw_okq (⟨"JudgedRows", "isGameOn", "()Z"⟩, 15) := ⟨⟨by decide +kernel, by decide +kernel⟩, List.mem_of_getElem? (i := 23) (by decide +kernel), List.mem_of_getElem? (i := 595) (by decide +kernel), List.mem_of_getElem? (i := 596) (by decide +kernel)⟩
theorem lw_p13 : lw_okq (⟨"JudgedRows$Pool", "tally", "(LJudgedRows$Judge;I)V"⟩, 5) := ⟨⟨by decide +kernel, by decide +kernel⟩, List.mem_of_getElem? (i := 145) (by decide +kernel), List.mem_of_getElem? (i := 615) (by decide +kernel), List.mem_of_getElem? (i := 616) (by decide +kernel)⟩
theorem lw_p14 : lw_okq (⟨"JudgedRows$Parting", "sortsOfRows", "(LJudgedRows$Judge;)I"⟩, 6) := ⟨⟨by decide +kernel, by decide +kernel⟩, List.mem_of_getElem? (i := 172) (by decide +kernel), List.mem_of_getElem? (i := 644) (by decide +kernel), List.mem_of_getElem? (i := 645) (by decide +kernel)⟩
theorem lw_p15 : lw_okq (⟨"JudgedRows$Parting", "partsBy", "(LJudgedRows$Judge;II)I"⟩, 6) := ⟨⟨by decide +kernel, by decide +kernel⟩, List.mem_of_getElem? (i := 172) (by decide +kernel), List.mem_of_getElem? (i := 649) (by decide +kernel), List.mem_of_getElem? (i := 650) (by decide +kernel)⟩
def lw_privs_1 : List (MethodName × Nat) := [(⟨"JudgedRows$Page", "mayStand", "(I)Z"⟩, 2), (⟨"JudgedRows$Page", "kindsEnd", "(I)I"⟩, 2), (⟨"JudgedRows$Rows", "layRow", "(I)V"⟩, 6), (⟨"JudgedRows", "isJudge", "(I)Z"⟩, 15), (⟨"JudgedRows", "sorts", "(I)I"⟩, 15), (⟨"JudgedRows", "couldBe", "(ILJudgedRows$Judge;)Z"⟩, 15), (⟨"JudgedRows", "testFor", "(I)I"⟩, 15), (⟨"JudgedRows", "worstSorts", "(II)I"⟩, 15), (⟨"JudgedRows", "judgeAt", "(I)LJudgedRows$Judge;"⟩, 15), (⟨"JudgedRows", "isRow", "(I)Z"⟩, 15), (⟨"JudgedRows", "fitting", "(I)Z"⟩, 15), (⟨"JudgedRows", "gatherFitting", "()I"⟩, 15), (⟨"JudgedRows", "isGameOn", "()Z"⟩, 15), (⟨"JudgedRows$Pool", "tally", "(LJudgedRows$Judge;I)V"⟩, 5), (⟨"JudgedRows$Parting", "sortsOfRows", "(LJudgedRows$Judge;)I"⟩, 6), (⟨"JudgedRows$Parting", "partsBy", "(LJudgedRows$Judge;II)I"⟩, 6)]
theorem lw_r1 : ∀ q ∈ lw_privs_1, lw_okq q := List.forall_mem_cons.mpr ⟨lw_p0, List.forall_mem_cons.mpr ⟨lw_p1, List.forall_mem_cons.mpr ⟨lw_p2, List.forall_mem_cons.mpr ⟨lw_p3, List.forall_mem_cons.mpr ⟨lw_p4, List.forall_mem_cons.mpr ⟨lw_p5, List.forall_mem_cons.mpr ⟨lw_p6, List.forall_mem_cons.mpr ⟨lw_p7, List.forall_mem_cons.mpr ⟨lw_p8, List.forall_mem_cons.mpr ⟨lw_p9, List.forall_mem_cons.mpr ⟨lw_p10, List.forall_mem_cons.mpr ⟨lw_p11, List.forall_mem_cons.mpr ⟨lw_p12, List.forall_mem_cons.mpr ⟨lw_p13, List.forall_mem_cons.mpr ⟨lw_p14, List.forall_mem_cons.mpr ⟨lw_p15, fun _ h => absurd h List.not_mem_nil⟩⟩⟩⟩⟩⟩⟩⟩⟩⟩⟩⟩⟩⟩⟩⟩
theorem lw_p16 : lw_okq (⟨"JudgedRows$Parting", "answer", "(III)V"⟩, 6) := ⟨⟨by decide +kernel, by decide +kernel⟩, List.mem_of_getElem? (i := 172) (by decide +kernel), List.mem_of_getElem? (i := 654) (by decide +kernel), List.mem_of_getElem? (i := 655) (by decide +kernel)⟩
theorem lw_p17 : lw_okq (⟨"JudgedRows$Tries", "playOne", "(LJudgedRows$Judge;)I"⟩, 5) := ⟨⟨by decide +kernel, by decide +kernel⟩, List.mem_of_getElem? (i := 200) (by decide +kernel), List.mem_of_getElem? (i := 666) (by decide +kernel), List.mem_of_getElem? (i := 667) (by decide +kernel)⟩
theorem lw_p18 : lw_okq (⟨"JudgedRows$Tries", "draw", "(I)I"⟩, 5) := ⟨⟨by decide +kernel, by decide +kernel⟩, List.mem_of_getElem? (i := 200) (by decide +kernel), List.mem_of_getElem? (i := 670) (by decide +kernel), List.mem_of_getElem? (i := 671) (by decide +kernel)⟩
theorem lw_p19 : lw_okq (⟨"JudgedRowsModel", "faultOf", "()I"⟩, 27) := ⟨⟨by decide +kernel, by decide +kernel⟩, List.mem_of_getElem? (i := 719) (by decide +kernel), List.mem_of_getElem? (i := 823) (by decide +kernel), List.mem_of_getElem? (i := 824) (by decide +kernel)⟩
theorem lw_p20 : lw_okq (⟨"JudgedRowsModel", "isGood", "(I)Z"⟩, 27) := ⟨⟨by decide +kernel, by decide +kernel⟩, List.mem_of_getElem? (i := 719) (by decide +kernel), List.mem_of_getElem? (i := 827) (by decide +kernel), List.mem_of_getElem? (i := 828) (by decide +kernel)⟩
theorem lw_p21 : lw_okq (⟨"JudgedRowsModel", "isJudgeLetter", "(I)Z"⟩, 27) := ⟨⟨by decide +kernel, by decide +kernel⟩, List.mem_of_getElem? (i := 719) (by decide +kernel), List.mem_of_getElem? (i := 835) (by decide +kernel), List.mem_of_getElem? (i := 836) (by decide +kernel)⟩
theorem lw_p22 : lw_okq (⟨"JudgedRowsModel", "isJudge", "(I)Z"⟩, 27) := ⟨⟨by decide +kernel, by decide +kernel⟩, List.mem_of_getElem? (i := 719) (by decide +kernel), List.mem_of_getElem? (i := 851) (by decide +kernel), List.mem_of_getElem? (i := 852) (by decide +kernel)⟩
theorem lw_p23 : lw_okq (⟨"JudgedRowsModel", "isRow", "(I)Z"⟩, 27) := ⟨⟨by decide +kernel, by decide +kernel⟩, List.mem_of_getElem? (i := 719) (by decide +kernel), List.mem_of_getElem? (i := 855) (by decide +kernel), List.mem_of_getElem? (i := 856) (by decide +kernel)⟩
theorem lw_p24 : lw_okq (⟨"JudgedRowsModel", "tellsBy", "(III)I"⟩, 27) := ⟨⟨by decide +kernel, by decide +kernel⟩, List.mem_of_getElem? (i := 719) (by decide +kernel), List.mem_of_getElem? (i := 859) (by decide +kernel), List.mem_of_getElem? (i := 860) (by decide +kernel)⟩
theorem lw_p25 : lw_okq (⟨"JudgedRowsModel", "right", "(IIZ)I"⟩, 27) := ⟨⟨by decide +kernel, by decide +kernel⟩, List.mem_of_getElem? (i := 719) (by decide +kernel), List.mem_of_getElem? (i := 863) (by decide +kernel), List.mem_of_getElem? (i := 864) (by decide +kernel)⟩
theorem lw_p26 : lw_okq (⟨"JudgedRowsModel", "peg", "(II)I"⟩, 27) := ⟨⟨by decide +kernel, by decide +kernel⟩, List.mem_of_getElem? (i := 719) (by decide +kernel), List.mem_of_getElem? (i := 867) (by decide +kernel), List.mem_of_getElem? (i := 868) (by decide +kernel)⟩
theorem lw_p27 : lw_okq (⟨"JudgedRowsModel", "alike", "(II)I"⟩, 27) := ⟨⟨by decide +kernel, by decide +kernel⟩, List.mem_of_getElem? (i := 719) (by decide +kernel), List.mem_of_getElem? (i := 871) (by decide +kernel), List.mem_of_getElem? (i := 872) (by decide +kernel)⟩
theorem lw_p28 : lw_okq (⟨"JudgedRowsModel", "lacks", "()Z"⟩, 27) := ⟨⟨by decide +kernel, by decide +kernel⟩, List.mem_of_getElem? (i := 719) (by decide +kernel), List.mem_of_getElem? (i := 879) (by decide +kernel), List.mem_of_getElem? (i := 880) (by decide +kernel)⟩
theorem lw_p29 : lw_okq (⟨"JudgedRowsModel", "leftOf", "()I"⟩, 27) := ⟨⟨by decide +kernel, by decide +kernel⟩, List.mem_of_getElem? (i := 719) (by decide +kernel), List.mem_of_getElem? (i := 883) (by decide +kernel), List.mem_of_getElem? (i := 884) (by decide +kernel)⟩
theorem lw_p30 : lw_okq (⟨"JudgedRowsModel", "layFit", "()V"⟩, 27) := ⟨⟨by decide +kernel, by decide +kernel⟩, List.mem_of_getElem? (i := 719) (by decide +kernel), List.mem_of_getElem? (i := 887) (by decide +kernel), List.mem_of_getElem? (i := 888) (by decide +kernel)⟩
theorem lw_p31 : lw_okq (⟨"JudgedRowsModel", "isFit", "(I)Z"⟩, 27) := ⟨⟨by decide +kernel, by decide +kernel⟩, List.mem_of_getElem? (i := 719) (by decide +kernel), List.mem_of_getElem? (i := 891) (by decide +kernel), List.mem_of_getElem? (i := 892) (by decide +kernel)⟩
def lw_privs_2 : List (MethodName × Nat) := [(⟨"JudgedRows$Parting", "answer", "(III)V"⟩, 6), (⟨"JudgedRows$Tries", "playOne", "(LJudgedRows$Judge;)I"⟩, 5), (⟨"JudgedRows$Tries", "draw", "(I)I"⟩, 5), (⟨"JudgedRowsModel", "faultOf", "()I"⟩, 27), (⟨"JudgedRowsModel", "isGood", "(I)Z"⟩, 27), (⟨"JudgedRowsModel", "isJudgeLetter", "(I)Z"⟩, 27), (⟨"JudgedRowsModel", "isJudge", "(I)Z"⟩, 27), (⟨"JudgedRowsModel", "isRow", "(I)Z"⟩, 27), (⟨"JudgedRowsModel", "tellsBy", "(III)I"⟩, 27), (⟨"JudgedRowsModel", "right", "(IIZ)I"⟩, 27), (⟨"JudgedRowsModel", "peg", "(II)I"⟩, 27), (⟨"JudgedRowsModel", "alike", "(II)I"⟩, 27), (⟨"JudgedRowsModel", "lacks", "()Z"⟩, 27), (⟨"JudgedRowsModel", "leftOf", "()I"⟩, 27), (⟨"JudgedRowsModel", "layFit", "()V"⟩, 27), (⟨"JudgedRowsModel", "isFit", "(I)Z"⟩, 27)]
theorem lw_r2 : ∀ q ∈ lw_privs_2, lw_okq q := List.forall_mem_cons.mpr ⟨lw_p16, List.forall_mem_cons.mpr ⟨lw_p17, List.forall_mem_cons.mpr ⟨lw_p18, List.forall_mem_cons.mpr ⟨lw_p19, List.forall_mem_cons.mpr ⟨lw_p20, List.forall_mem_cons.mpr ⟨lw_p21, List.forall_mem_cons.mpr ⟨lw_p22, List.forall_mem_cons.mpr ⟨lw_p23, List.forall_mem_cons.mpr ⟨lw_p24, List.forall_mem_cons.mpr ⟨lw_p25, List.forall_mem_cons.mpr ⟨lw_p26, List.forall_mem_cons.mpr ⟨lw_p27, List.forall_mem_cons.mpr ⟨lw_p28, List.forall_mem_cons.mpr ⟨lw_p29, List.forall_mem_cons.mpr ⟨lw_p30, List.forall_mem_cons.mpr ⟨lw_p31, fun _ h => absurd h List.not_mem_nil⟩⟩⟩⟩⟩⟩⟩⟩⟩⟩⟩⟩⟩⟩⟩⟩
theorem lw_p32 : lw_okq (⟨"JudgedRowsModel", "fitMany", "()I"⟩, 27) := ⟨⟨by decide +kernel, by decide +kernel⟩, List.mem_of_getElem? (i := 719) (by decide +kernel), List.mem_of_getElem? (i := 895) (by decide +kernel), List.mem_of_getElem? (i := 896) (by decide +kernel)⟩
theorem lw_p33 : lw_okq (⟨"JudgedRowsModel", "fitsOf", "(I)I"⟩, 27) := ⟨⟨by decide +kernel, by decide +kernel⟩, List.mem_of_getElem? (i := 719) (by decide +kernel), List.mem_of_getElem? (i := 903) (by decide +kernel), List.mem_of_getElem? (i := 904) (by decide +kernel)⟩
theorem lw_p34 : lw_okq (⟨"JudgedRowsModel", "tellJudge", "(II)I"⟩, 27) := ⟨⟨by decide +kernel, by decide +kernel⟩, List.mem_of_getElem? (i := 719) (by decide +kernel), List.mem_of_getElem? (i := 911) (by decide +kernel), List.mem_of_getElem? (i := 912) (by decide +kernel)⟩
theorem lw_p35 : lw_okq (⟨"JudgedRowsModel", "toJudge", "(I)I"⟩, 27) := ⟨⟨by decide +kernel, by decide +kernel⟩, List.mem_of_getElem? (i := 719) (by decide +kernel), List.mem_of_getElem? (i := 915) (by decide +kernel), List.mem_of_getElem? (i := 916) (by decide +kernel)⟩
theorem lw_p36 : lw_okq (⟨"JudgedRowsModel", "sortsOf", "(I)I"⟩, 27) := ⟨⟨by decide +kernel, by decide +kernel⟩, List.mem_of_getElem? (i := 719) (by decide +kernel), List.mem_of_getElem? (i := 919) (by decide +kernel), List.mem_of_getElem? (i := 920) (by decide +kernel)⟩
theorem lw_p37 : lw_okq (⟨"JudgedRowsModel", "testOf", "(I)I"⟩, 27) := ⟨⟨by decide +kernel, by decide +kernel⟩, List.mem_of_getElem? (i := 719) (by decide +kernel), List.mem_of_getElem? (i := 923) (by decide +kernel), List.mem_of_getElem? (i := 924) (by decide +kernel)⟩
theorem lw_p38 : lw_okq (⟨"JudgedRowsModel", "twinsOf", "(I)I"⟩, 27) := ⟨⟨by decide +kernel, by decide +kernel⟩, List.mem_of_getElem? (i := 719) (by decide +kernel), List.mem_of_getElem? (i := 927) (by decide +kernel), List.mem_of_getElem? (i := 928) (by decide +kernel)⟩
theorem lw_p39 : lw_okq (⟨"JudgedRowsModel", "isTwin", "(III)Z"⟩, 27) := ⟨⟨by decide +kernel, by decide +kernel⟩, List.mem_of_getElem? (i := 719) (by decide +kernel), List.mem_of_getElem? (i := 931) (by decide +kernel), List.mem_of_getElem? (i := 932) (by decide +kernel)⟩
theorem lw_p40 : lw_okq (⟨"JudgedRowsModel", "tellRow", "(II)I"⟩, 27) := ⟨⟨by decide +kernel, by decide +kernel⟩, List.mem_of_getElem? (i := 719) (by decide +kernel), List.mem_of_getElem? (i := 944) (by decide +kernel), List.mem_of_getElem? (i := 945) (by decide +kernel)⟩
theorem lw_p41 : lw_okq (⟨"JudgedRowsModel", "keep", "(III)V"⟩, 27) := ⟨⟨by decide +kernel, by decide +kernel⟩, List.mem_of_getElem? (i := 719) (by decide +kernel), List.mem_of_getElem? (i := 957) (by decide +kernel), List.mem_of_getElem? (i := 958) (by decide +kernel)⟩
theorem lw_p42 : lw_okq (⟨"JudgedRowsModel", "bestBy", "(I)I"⟩, 27) := ⟨⟨by decide +kernel, by decide +kernel⟩, List.mem_of_getElem? (i := 719) (by decide +kernel), List.mem_of_getElem? (i := 986) (by decide +kernel), List.mem_of_getElem? (i := 987) (by decide +kernel)⟩
theorem lw_p43 : lw_okq (⟨"JudgedRowsModel", "laySizes", "(II)V"⟩, 27) := ⟨⟨by decide +kernel, by decide +kernel⟩, List.mem_of_getElem? (i := 719) (by decide +kernel), List.mem_of_getElem? (i := 990) (by decide +kernel), List.mem_of_getElem? (i := 991) (by decide +kernel)⟩
theorem lw_p44 : lw_okq (⟨"JudgedRowsModel", "greatest", "()I"⟩, 27) := ⟨⟨by decide +kernel, by decide +kernel⟩, List.mem_of_getElem? (i := 719) (by decide +kernel), List.mem_of_getElem? (i := 994) (by decide +kernel), List.mem_of_getElem? (i := 995) (by decide +kernel)⟩
theorem lw_p45 : lw_okq (⟨"JudgedRowsModel", "restOf", "(III)I"⟩, 27) := ⟨⟨by decide +kernel, by decide +kernel⟩, List.mem_of_getElem? (i := 719) (by decide +kernel), List.mem_of_getElem? (i := 1002) (by decide +kernel), List.mem_of_getElem? (i := 1003) (by decide +kernel)⟩
theorem lw_p46 : lw_okq (⟨"JudgedRowsModel", "longOf", "(II)I"⟩, 27) := ⟨⟨by decide +kernel, by decide +kernel⟩, List.mem_of_getElem? (i := 719) (by decide +kernel), List.mem_of_getElem? (i := 1010) (by decide +kernel), List.mem_of_getElem? (i := 1011) (by decide +kernel)⟩
theorem lw_p47 : lw_okq (⟨"JudgedRowsModel", "partsOf", "(II)I"⟩, 27) := ⟨⟨by decide +kernel, by decide +kernel⟩, List.mem_of_getElem? (i := 719) (by decide +kernel), List.mem_of_getElem? (i := 1018) (by decide +kernel), List.mem_of_getElem? (i := 1019) (by decide +kernel)⟩
def lw_privs_3 : List (MethodName × Nat) := [(⟨"JudgedRowsModel", "fitMany", "()I"⟩, 27), (⟨"JudgedRowsModel", "fitsOf", "(I)I"⟩, 27), (⟨"JudgedRowsModel", "tellJudge", "(II)I"⟩, 27), (⟨"JudgedRowsModel", "toJudge", "(I)I"⟩, 27), (⟨"JudgedRowsModel", "sortsOf", "(I)I"⟩, 27), (⟨"JudgedRowsModel", "testOf", "(I)I"⟩, 27), (⟨"JudgedRowsModel", "twinsOf", "(I)I"⟩, 27), (⟨"JudgedRowsModel", "isTwin", "(III)Z"⟩, 27), (⟨"JudgedRowsModel", "tellRow", "(II)I"⟩, 27), (⟨"JudgedRowsModel", "keep", "(III)V"⟩, 27), (⟨"JudgedRowsModel", "bestBy", "(I)I"⟩, 27), (⟨"JudgedRowsModel", "laySizes", "(II)V"⟩, 27), (⟨"JudgedRowsModel", "greatest", "()I"⟩, 27), (⟨"JudgedRowsModel", "restOf", "(III)I"⟩, 27), (⟨"JudgedRowsModel", "longOf", "(II)I"⟩, 27), (⟨"JudgedRowsModel", "partsOf", "(II)I"⟩, 27)]
theorem lw_r3 : ∀ q ∈ lw_privs_3, lw_okq q := List.forall_mem_cons.mpr ⟨lw_p32, List.forall_mem_cons.mpr ⟨lw_p33, List.forall_mem_cons.mpr ⟨lw_p34, List.forall_mem_cons.mpr ⟨lw_p35, List.forall_mem_cons.mpr ⟨lw_p36, List.forall_mem_cons.mpr ⟨lw_p37, List.forall_mem_cons.mpr ⟨lw_p38, List.forall_mem_cons.mpr ⟨lw_p39, List.forall_mem_cons.mpr ⟨lw_p40, List.forall_mem_cons.mpr ⟨lw_p41, List.forall_mem_cons.mpr ⟨lw_p42, List.forall_mem_cons.mpr ⟨lw_p43, List.forall_mem_cons.mpr ⟨lw_p44, List.forall_mem_cons.mpr ⟨lw_p45, List.forall_mem_cons.mpr ⟨lw_p46, List.forall_mem_cons.mpr ⟨lw_p47, fun _ h => absurd h List.not_mem_nil⟩⟩⟩⟩⟩⟩⟩⟩⟩⟩⟩⟩⟩⟩⟩⟩
theorem lw_p48 : lw_okq (⟨"JudgedRowsModel", "layTable", "(I)V"⟩, 27) := ⟨⟨by decide +kernel, by decide +kernel⟩, List.mem_of_getElem? (i := 719) (by decide +kernel), List.mem_of_getElem? (i := 1022) (by decide +kernel), List.mem_of_getElem? (i := 1023) (by decide +kernel)⟩
theorem lw_p49 : lw_okq (⟨"JudgedRowsModel", "apartMany", "()I"⟩, 27) := ⟨⟨by decide +kernel, by decide +kernel⟩, List.mem_of_getElem? (i := 719) (by decide +kernel), List.mem_of_getElem? (i := 1026) (by decide +kernel), List.mem_of_getElem? (i := 1027) (by decide +kernel)⟩
theorem lw_p50 : lw_okq (⟨"JudgedRowsModel", "isEnough", "(II)Z"⟩, 27) := ⟨⟨by decide +kernel, by decide +kernel⟩, List.mem_of_getElem? (i := 719) (by decide +kernel), List.mem_of_getElem? (i := 1030) (by decide +kernel), List.mem_of_getElem? (i := 1031) (by decide +kernel)⟩
theorem lw_p51 : lw_okq (⟨"JudgedRowsModel", "tryOne", "(I)I"⟩, 27) := ⟨⟨by decide +kernel, by decide +kernel⟩, List.mem_of_getElem? (i := 719) (by decide +kernel), List.mem_of_getElem? (i := 1039) (by decide +kernel), List.mem_of_getElem? (i := 1040) (by decide +kernel)⟩
theorem lw_p52 : lw_okq (⟨"JudgedRowsModel", "draw", "(I)I"⟩, 27) := ⟨⟨by decide +kernel, by decide +kernel⟩, List.mem_of_getElem? (i := 719) (by decide +kernel), List.mem_of_getElem? (i := 1043) (by decide +kernel), List.mem_of_getElem? (i := 1044) (by decide +kernel)⟩
theorem lw_p53 : lw_okq (⟨"JudgedRowsModel", "soManieth", "(I)I"⟩, 27) := ⟨⟨by decide +kernel, by decide +kernel⟩, List.mem_of_getElem? (i := 719) (by decide +kernel), List.mem_of_getElem? (i := 1051) (by decide +kernel), List.mem_of_getElem? (i := 1052) (by decide +kernel)⟩
theorem lw_p54 : lw_okq (⟨"JudgedRowsModel", "countOf", "(I)I"⟩, 27) := ⟨⟨by decide +kernel, by decide +kernel⟩, List.mem_of_getElem? (i := 719) (by decide +kernel), List.mem_of_getElem? (i := 1070) (by decide +kernel), List.mem_of_getElem? (i := 1071) (by decide +kernel)⟩
theorem lw_p55 : lw_okq (⟨"JudgedRowsModel", "say", "(J)V"⟩, 27) := ⟨⟨by decide +kernel, by decide +kernel⟩, List.mem_of_getElem? (i := 719) (by decide +kernel), List.mem_of_getElem? (i := 1079) (by decide +kernel), List.mem_of_getElem? (i := 1080) (by decide +kernel)⟩
def lw_privs_4 : List (MethodName × Nat) := [(⟨"JudgedRowsModel", "layTable", "(I)V"⟩, 27), (⟨"JudgedRowsModel", "apartMany", "()I"⟩, 27), (⟨"JudgedRowsModel", "isEnough", "(II)Z"⟩, 27), (⟨"JudgedRowsModel", "tryOne", "(I)I"⟩, 27), (⟨"JudgedRowsModel", "draw", "(I)I"⟩, 27), (⟨"JudgedRowsModel", "soManieth", "(I)I"⟩, 27), (⟨"JudgedRowsModel", "countOf", "(I)I"⟩, 27), (⟨"JudgedRowsModel", "say", "(J)V"⟩, 27)]
theorem lw_r4 : ∀ q ∈ lw_privs_4, lw_okq q := List.forall_mem_cons.mpr ⟨lw_p48, List.forall_mem_cons.mpr ⟨lw_p49, List.forall_mem_cons.mpr ⟨lw_p50, List.forall_mem_cons.mpr ⟨lw_p51, List.forall_mem_cons.mpr ⟨lw_p52, List.forall_mem_cons.mpr ⟨lw_p53, List.forall_mem_cons.mpr ⟨lw_p54, List.forall_mem_cons.mpr ⟨lw_p55, fun _ h => absurd h List.not_mem_nil⟩⟩⟩⟩⟩⟩⟩⟩
def lw_privs : List (MethodName × Nat) := lw_privs_1 ++ (lw_privs_2 ++ (lw_privs_3 ++ (lw_privs_4)))
def lw_tbl : List Cond := k2_sels lw_privs ++ tables_1
theorem lw_privs_ok : ∀ q ∈ lw_privs, lw_okq q := by
  show ∀ q ∈ lw_privs_1 ++ (lw_privs_2 ++ (lw_privs_3 ++ (lw_privs_4))), lw_okq q
  exact List.forall_mem_append.mpr ⟨lw_r1, List.forall_mem_append.mpr ⟨lw_r2, List.forall_mem_append.mpr ⟨lw_r3, lw_r4⟩⟩⟩
-- ===== end of PART A; then your names; then what follows =====
def RX0 : String := "JudgedRows$Course"
def TX0 : u_T := fun k => match k with
  | 0 => ("JudgedRows$Course", "kinds", "[I", true)
  | 1 => ("JudgedRows$Course", "rowOf", "[I", true)
  | 2 => ("JudgedRows$Course", "judgeOf", "[I", true)
  | 3 => ("JudgedRows$Course", "toldOf", "[I", true)
  | 4 => ("JudgedRows$Course", "hidden", "I", false)
  | _ => ("JudgedRows$Course", "size", "I", false)
def tyX0 : Nat → FieldType := fun k => match k with
  | 0 => .array .int
  | 1 => .array .int
  | 2 => .array .int
  | 3 => .array .int
  | 4 => .int
  | _ => .int
abbrev wsX00 : List Cond := u_ws RX0 TX0 6
theorem nmX0 : ∀ a, a < 6 → ∀ b, b < 6 → a ≠ b → (TX0 a).2.1 ≠ (TX0 b).2.1 := by decide +kernel
theorem tyX0_ok : ∀ k, k < 6 → parseFieldDescriptor (TX0 k).2.2.1 = some (tyX0 k) := by decide +kernel
abbrev cX0_init : ByteArray := prog_2_method_1_code
def yX0_init : MethodName := ⟨RX0, "<init>", "()V"⟩
abbrev cX0_append : ByteArray := prog_2_method_2_code
def yX0_append : MethodName := ⟨RX0, "append", "(III)V"⟩
abbrev cX0_shownTo : ByteArray := prog_2_method_3_code
def yX0_shownTo : MethodName := ⟨RX0, "shownTo", "(I)I"⟩
abbrev cX0_take : ByteArray := prog_2_method_4_code
def yX0_take : MethodName := ⟨RX0, "take", "(LJudgedRows$Course;)V"⟩
def RX1 : String := "JudgedRows$CurtJudge"
def TX1 : u_T := fun k => match k with
  | _ => ("", "", "", false)
def tyX1 : Nat → FieldType := fun k => match k with
  | _ => .int
abbrev wsX10 : List Cond := u_ws RX1 TX1 0
theorem nmX1 : ∀ a, a < 0 → ∀ b, b < 0 → a ≠ b → (TX1 a).2.1 ≠ (TX1 b).2.1 := by decide +kernel
theorem tyX1_ok : ∀ k, k < 0 → parseFieldDescriptor (TX1 k).2.2.1 = some (tyX1 k) := by decide +kernel
abbrev cX1_init : ByteArray := prog_3_method_1_code
def yX1_init : MethodName := ⟨RX1, "<init>", "()V"⟩
abbrev cX1_word : ByteArray := prog_3_method_2_code
def yX1_word : MethodName := ⟨RX1, "word", "(LJudgedRows$Rows;II)I"⟩
def RX2 : String := "JudgedRows$Judge"
def TX2 : u_T := fun k => match k with
  | _ => ("", "", "", false)
def tyX2 : Nat → FieldType := fun k => match k with
  | _ => .int
abbrev wsX20 : List Cond := u_ws RX2 TX2 0
theorem nmX2 : ∀ a, a < 0 → ∀ b, b < 0 → a ≠ b → (TX2 a).2.1 ≠ (TX2 b).2.1 := by decide +kernel
theorem tyX2_ok : ∀ k, k < 0 → parseFieldDescriptor (TX2 k).2.2.1 = some (tyX2 k) := by decide +kernel
abbrev cX2_init : ByteArray := prog_4_method_1_code
def yX2_init : MethodName := ⟨RX2, "<init>", "()V"⟩
abbrev cX2_word : ByteArray := prog_4_method_2_code
def yX2_word : MethodName := ⟨RX2, "word", "(LJudgedRows$Rows;II)I"⟩
abbrev cX2_plainWord : ByteArray := prog_4_method_3_code
def yX2_plainWord : MethodName := ⟨RX2, "plainWord", "(II)I"⟩
def RX3 : String := "JudgedRows$Page"
def TX3 : u_T := fun k => match k with
  | 0 => ("JudgedRows$Page", "codes", "[I", true)
  | _ => ("JudgedRows$Page", "size", "I", false)
def tyX3 : Nat → FieldType := fun k => match k with
  | 0 => .array .int
  | _ => .int
abbrev wsX30 : List Cond := u_ws RX3 TX3 2
theorem nmX3 : ∀ a, a < 2 → ∀ b, b < 2 → a ≠ b → (TX3 a).2.1 ≠ (TX3 b).2.1 := by decide +kernel
theorem tyX3_ok : ∀ k, k < 2 → parseFieldDescriptor (TX3 k).2.2.1 = some (tyX3 k) := by decide +kernel
abbrev cX3_init : ByteArray := prog_5_method_1_code
def yX3_init : MethodName := ⟨RX3, "<init>", "()V"⟩
abbrev cX3_append : ByteArray := prog_5_method_2_code
def yX3_append : MethodName := ⟨RX3, "append", "(I)V"⟩
abbrev cX3_firstFault : ByteArray := prog_5_method_3_code
def yX3_firstFault : MethodName := ⟨RX3, "firstFault", "()I"⟩
abbrev cX3_isGame : ByteArray := prog_5_method_4_code
def yX3_isGame : MethodName := ⟨RX3, "isGame", "()Z"⟩
abbrev cX3_mayStand : ByteArray := prog_5_method_5_code
def yX3_mayStand : MethodName := ⟨RX3, "mayStand", "(I)Z"⟩
abbrev cX3_kindsEnd : ByteArray := prog_5_method_6_code
def yX3_kindsEnd : MethodName := ⟨RX3, "kindsEnd", "(I)I"⟩
abbrev cX3_pegs : ByteArray := prog_5_method_7_code
def yX3_pegs : MethodName := ⟨RX3, "pegs", "()I"⟩
abbrev cX3_colours : ByteArray := prog_5_method_8_code
def yX3_colours : MethodName := ⟨RX3, "colours", "()I"⟩
abbrev cX3_judgesWritten : ByteArray := prog_5_method_9_code
def yX3_judgesWritten : MethodName := ⟨RX3, "judgesWritten", "()I"⟩
abbrev cX3_kindWritten : ByteArray := prog_5_method_10_code
def yX3_kindWritten : MethodName := ⟨RX3, "kindWritten", "(I)I"⟩
abbrev cX3_rowWritten : ByteArray := prog_5_method_11_code
def yX3_rowWritten : MethodName := ⟨RX3, "rowWritten", "()I"⟩
def RX4 : String := "JudgedRows$Parting"
def TX4 : u_T := fun k => match k with
  | 0 => ("JudgedRows$Parting", "rows", "LJudgedRows$Rows;", true)
  | 1 => ("JudgedRows$Parting", "marks", "[I", true)
  | 2 => ("JudgedRows$Parting", "trials", "I", false)
  | 3 => ("JudgedRows$Parting", "many", "I", false)
  | 4 => ("JudgedRows$Parting", "first", "I", false)
  | _ => ("JudgedRows$Parting", "second", "I", false)
def tyX4 : Nat → FieldType := fun k => match k with
  | 0 => .object "JudgedRows$Rows"
  | 1 => .array .int
  | 2 => .int
  | 3 => .int
  | 4 => .int
  | _ => .int
abbrev wsX40 : List Cond := u_ws RX4 TX4 6
theorem nmX4 : ∀ a, a < 6 → ∀ b, b < 6 → a ≠ b → (TX4 a).2.1 ≠ (TX4 b).2.1 := by decide +kernel
theorem tyX4_ok : ∀ k, k < 6 → parseFieldDescriptor (TX4 k).2.2.1 = some (tyX4 k) := by decide +kernel
abbrev cX4_init : ByteArray := prog_6_method_1_code
def yX4_init : MethodName := ⟨RX4, "<init>", "(LJudgedRows$Rows;)V"⟩
abbrev cX4_find : ByteArray := prog_6_method_2_code
def yX4_find : MethodName := ⟨RX4, "find", "(LJudgedRows$Judge;)V"⟩
abbrev cX4_answer : ByteArray := prog_6_method_3_code
def yX4_answer : MethodName := ⟨RX4, "answer", "(III)V"⟩
abbrev cX4_sortsOfRows : ByteArray := prog_6_method_4_code
def yX4_sortsOfRows : MethodName := ⟨RX4, "sortsOfRows", "(LJudgedRows$Judge;)I"⟩
abbrev cX4_partsBy : ByteArray := prog_6_method_5_code
def yX4_partsBy : MethodName := ⟨RX4, "partsBy", "(LJudgedRows$Judge;II)I"⟩
def RX5 : String := "JudgedRows$Pool"
def TX5 : u_T := fun k => match k with
  | 0 => ("JudgedRows$Pool", "rows", "LJudgedRows$Rows;", true)
  | 1 => ("JudgedRows$Pool", "members", "[I", true)
  | 2 => ("JudgedRows$Pool", "size", "I", false)
  | 3 => ("JudgedRows$Pool", "isMember", "[Z", true)
  | _ => ("JudgedRows$Pool", "often", "[I", true)
def tyX5 : Nat → FieldType := fun k => match k with
  | 0 => .object "JudgedRows$Rows"
  | 1 => .array .int
  | 2 => .int
  | 3 => .array .boolean
  | _ => .array .int
abbrev wsX50 : List Cond := u_ws RX5 TX5 5
theorem nmX5 : ∀ a, a < 5 → ∀ b, b < 5 → a ≠ b → (TX5 a).2.1 ≠ (TX5 b).2.1 := by decide +kernel
theorem tyX5_ok : ∀ k, k < 5 → parseFieldDescriptor (TX5 k).2.2.1 = some (tyX5 k) := by decide +kernel
abbrev cX5_init : ByteArray := prog_7_method_1_code
def yX5_init : MethodName := ⟨RX5, "<init>", "(LJudgedRows$Rows;)V"⟩
abbrev cX5_fill : ByteArray := prog_7_method_2_code
def yX5_fill : MethodName := ⟨RX5, "fill", "()V"⟩
abbrev cX5_keep : ByteArray := prog_7_method_3_code
def yX5_keep : MethodName := ⟨RX5, "keep", "(LJudgedRows$Judge;II)V"⟩
abbrev cX5_drop : ByteArray := prog_7_method_4_code
def yX5_drop : MethodName := ⟨RX5, "drop", "(I)V"⟩
abbrev cX5_bestRow : ByteArray := prog_7_method_5_code
def yX5_bestRow : MethodName := ⟨RX5, "bestRow", "(LJudgedRows$Judge;)I"⟩
abbrev cX5_worst : ByteArray := prog_7_method_6_code
def yX5_worst : MethodName := ⟨RX5, "worst", "(LJudgedRows$Judge;I)I"⟩
abbrev cX5_squares : ByteArray := prog_7_method_7_code
def yX5_squares : MethodName := ⟨RX5, "squares", "(LJudgedRows$Judge;I)I"⟩
abbrev cX5_tally : ByteArray := prog_7_method_8_code
def yX5_tally : MethodName := ⟨RX5, "tally", "(LJudgedRows$Judge;I)V"⟩
def RX6 : String := "JudgedRows$Rows"
def TX6 : u_T := fun k => match k with
  | 0 => ("JudgedRows$Rows", "pegs", "I", false)
  | 1 => ("JudgedRows$Rows", "colours", "I", false)
  | 2 => ("JudgedRows$Rows", "size", "I", false)
  | 3 => ("JudgedRows$Rows", "places", "[I", true)
  | 4 => ("JudgedRows$Rows", "placesFromOtherEnd", "[I", true)
  | _ => ("JudgedRows$Rows", "heaps", "[I", true)
def tyX6 : Nat → FieldType := fun k => match k with
  | 0 => .int
  | 1 => .int
  | 2 => .int
  | 3 => .array .int
  | 4 => .array .int
  | _ => .array .int
abbrev wsX60 : List Cond := u_ws RX6 TX6 6
theorem nmX6 : ∀ a, a < 6 → ∀ b, b < 6 → a ≠ b → (TX6 a).2.1 ≠ (TX6 b).2.1 := by decide +kernel
theorem tyX6_ok : ∀ k, k < 6 → parseFieldDescriptor (TX6 k).2.2.1 = some (tyX6 k) := by decide +kernel
abbrev cX6_init : ByteArray := prog_8_method_1_code
def yX6_init : MethodName := ⟨RX6, "<init>", "()V"⟩
abbrev cX6_lay : ByteArray := prog_8_method_2_code
def yX6_lay : MethodName := ⟨RX6, "lay", "(II)V"⟩
abbrev cX6_layRow : ByteArray := prog_8_method_3_code
def yX6_layRow : MethodName := ⟨RX6, "layRow", "(I)V"⟩
abbrev cX6_withOneMore : ByteArray := prog_8_method_4_code
def yX6_withOneMore : MethodName := ⟨RX6, "withOneMore", "(II)I"⟩
abbrev cX6_colour : ByteArray := prog_8_method_5_code
def yX6_colour : MethodName := ⟨RX6, "colour", "(II)I"⟩
abbrev cX6_right : ByteArray := prog_8_method_6_code
def yX6_right : MethodName := ⟨RX6, "right", "(II)I"⟩
abbrev cX6_rightFromOtherEnd : ByteArray := prog_8_method_7_code
def yX6_rightFromOtherEnd : MethodName := ⟨RX6, "rightFromOtherEnd", "(II)I"⟩
abbrev cX6_alike : ByteArray := prog_8_method_8_code
def yX6_alike : MethodName := ⟨RX6, "alike", "(II)I"⟩
abbrev cX6_twins : ByteArray := prog_8_method_9_code
def yX6_twins : MethodName := ⟨RX6, "twins", "(LJudgedRows$Judge;)I"⟩
abbrev cX6_areTwins : ByteArray := prog_8_method_10_code
def yX6_areTwins : MethodName := ⟨RX6, "areTwins", "(LJudgedRows$Judge;II)Z"⟩
def RX7 : String := "JudgedRows$ShortJudge"
def TX7 : u_T := fun k => match k with
  | _ => ("", "", "", false)
def tyX7 : Nat → FieldType := fun k => match k with
  | _ => .int
abbrev wsX70 : List Cond := u_ws RX7 TX7 0
theorem nmX7 : ∀ a, a < 0 → ∀ b, b < 0 → a ≠ b → (TX7 a).2.1 ≠ (TX7 b).2.1 := by decide +kernel
theorem tyX7_ok : ∀ k, k < 0 → parseFieldDescriptor (TX7 k).2.2.1 = some (tyX7 k) := by decide +kernel
abbrev cX7_init : ByteArray := prog_9_method_1_code
def yX7_init : MethodName := ⟨RX7, "<init>", "()V"⟩
abbrev cX7_word : ByteArray := prog_9_method_2_code
def yX7_word : MethodName := ⟨RX7, "word", "(LJudgedRows$Rows;II)I"⟩
def RX8 : String := "JudgedRows$SternJudge"
def TX8 : u_T := fun k => match k with
  | _ => ("", "", "", false)
def tyX8 : Nat → FieldType := fun k => match k with
  | _ => .int
abbrev wsX80 : List Cond := u_ws RX8 TX8 0
theorem nmX8 : ∀ a, a < 0 → ∀ b, b < 0 → a ≠ b → (TX8 a).2.1 ≠ (TX8 b).2.1 := by decide +kernel
theorem tyX8_ok : ∀ k, k < 0 → parseFieldDescriptor (TX8 k).2.2.1 = some (tyX8 k) := by decide +kernel
abbrev cX8_init : ByteArray := prog_10_method_1_code
def yX8_init : MethodName := ⟨RX8, "<init>", "()V"⟩
abbrev cX8_word : ByteArray := prog_10_method_2_code
def yX8_word : MethodName := ⟨RX8, "word", "(LJudgedRows$Rows;II)I"⟩
def RX9 : String := "JudgedRows$Tries"
def TX9 : u_T := fun k => match k with
  | 0 => ("JudgedRows$Tries", "rows", "LJudgedRows$Rows;", true)
  | 1 => ("JudgedRows$Tries", "pool", "LJudgedRows$Pool;", true)
  | 2 => ("JudgedRows$Tries", "shown", "I", false)
  | 3 => ("JudgedRows$Tries", "quick", "I", false)
  | _ => ("JudgedRows$Tries", "seed", "I", false)
def tyX9 : Nat → FieldType := fun k => match k with
  | 0 => .object "JudgedRows$Rows"
  | 1 => .object "JudgedRows$Pool"
  | 2 => .int
  | 3 => .int
  | _ => .int
abbrev wsX90 : List Cond := u_ws RX9 TX9 5
theorem nmX9 : ∀ a, a < 5 → ∀ b, b < 5 → a ≠ b → (TX9 a).2.1 ≠ (TX9 b).2.1 := by decide +kernel
theorem tyX9_ok : ∀ k, k < 5 → parseFieldDescriptor (TX9 k).2.2.1 = some (tyX9 k) := by decide +kernel
abbrev cX9_init : ByteArray := prog_11_method_1_code
def yX9_init : MethodName := ⟨RX9, "<init>", "(LJudgedRows$Rows;LJudgedRows$Pool;)V"⟩
abbrev cX9_play : ByteArray := prog_11_method_2_code
def yX9_play : MethodName := ⟨RX9, "play", "(LJudgedRows$Judge;II)V"⟩
abbrev cX9_playOne : ByteArray := prog_11_method_3_code
def yX9_playOne : MethodName := ⟨RX9, "playOne", "(LJudgedRows$Judge;)I"⟩
abbrev cX9_draw : ByteArray := prog_11_method_4_code
def yX9_draw : MethodName := ⟨RX9, "draw", "(I)I"⟩
def RX10 : String := "JudgedRows$WrongJudge"
def TX10 : u_T := fun k => match k with
  | _ => ("", "", "", false)
def tyX10 : Nat → FieldType := fun k => match k with
  | _ => .int
abbrev wsX100 : List Cond := u_ws RX10 TX10 0
theorem nmX10 : ∀ a, a < 0 → ∀ b, b < 0 → a ≠ b → (TX10 a).2.1 ≠ (TX10 b).2.1 := by decide +kernel
theorem tyX10_ok : ∀ k, k < 0 → parseFieldDescriptor (TX10 k).2.2.1 = some (tyX10 k) := by decide +kernel
abbrev cX10_init : ByteArray := prog_12_method_1_code
def yX10_init : MethodName := ⟨RX10, "<init>", "()V"⟩
abbrev cX10_word : ByteArray := prog_12_method_2_code
def yX10_word : MethodName := ⟨RX10, "word", "(LJudgedRows$Rows;II)I"⟩
def RX11 : String := "JudgedRows"
def TX11 : u_T := fun k => match k with
  | 0 => ("JudgedRows", "page", "LJudgedRows$Page;", true)
  | 1 => ("JudgedRows", "kinds", "[LJudgedRows$Judge;", true)
  | 2 => ("JudgedRows", "words", "[I", true)
  | 3 => ("JudgedRows", "now", "LJudgedRows$Course;", true)
  | 4 => ("JudgedRows", "kept", "LJudgedRows$Course;", true)
  | 5 => ("JudgedRows", "rows", "LJudgedRows$Rows;", true)
  | 6 => ("JudgedRows", "pool", "LJudgedRows$Pool;", true)
  | 7 => ("JudgedRows", "parting", "LJudgedRows$Parting;", true)
  | 8 => ("JudgedRows", "trial", "LJudgedRows$Tries;", true)
  | 9 => ("JudgedRows", "judges", "I", false)
  | 10 => ("JudgedRows", "imageStands", "Z", false)
  | 11 => ("JudgedRows", "gamesRead", "I", false)
  | 12 => ("JudgedRows", "bestDone", "I", false)
  | 13 => ("JudgedRows", "longDone", "I", false)
  | _ => ("JudgedRows", "partsDone", "I", false)
def tyX11 : Nat → FieldType := fun k => match k with
  | 0 => .object "JudgedRows$Page"
  | 1 => .array (.object "JudgedRows$Judge")
  | 2 => .array .int
  | 3 => .object "JudgedRows$Course"
  | 4 => .object "JudgedRows$Course"
  | 5 => .object "JudgedRows$Rows"
  | 6 => .object "JudgedRows$Pool"
  | 7 => .object "JudgedRows$Parting"
  | 8 => .object "JudgedRows$Tries"
  | 9 => .int
  | 10 => .boolean
  | 11 => .int
  | 12 => .int
  | 13 => .int
  | _ => .int
abbrev wsX110 : List Cond := u_ws RX11 TX11 15
theorem nmX11 : ∀ a, a < 15 → ∀ b, b < 15 → a ≠ b → (TX11 a).2.1 ≠ (TX11 b).2.1 := by decide +kernel
theorem tyX11_ok : ∀ k, k < 15 → parseFieldDescriptor (TX11 k).2.2.1 = some (tyX11 k) := by decide +kernel
abbrev cX11_init : ByteArray := prog_1_method_1_code
def yX11_init : MethodName := ⟨RX11, "<init>", "()V"⟩
abbrev cX11_letter : ByteArray := prog_1_method_2_code
def yX11_letter : MethodName := ⟨RX11, "letter", "(I)I"⟩
abbrev cX11_blank : ByteArray := prog_1_method_3_code
def yX11_blank : MethodName := ⟨RX11, "blank", "()I"⟩
abbrev cX11_fault : ByteArray := prog_1_method_4_code
def yX11_fault : MethodName := ⟨RX11, "fault", "()I"⟩
abbrev cX11_game : ByteArray := prog_1_method_5_code
def yX11_game : MethodName := ⟨RX11, "game", "()I"⟩
abbrev cX11_judge : ByteArray := prog_1_method_6_code
def yX11_judge : MethodName := ⟨RX11, "judge", "(II)I"⟩
abbrev cX11_as : ByteArray := prog_1_method_7_code
def yX11_as : MethodName := ⟨RX11, "as", "(II)I"⟩
abbrev cX11_row : ByteArray := prog_1_method_8_code
def yX11_row : MethodName := ⟨RX11, "row", "(II)I"⟩
abbrev cX11_tells : ByteArray := prog_1_method_9_code
def yX11_tells : MethodName := ⟨RX11, "tells", "(III)I"⟩
abbrev cX11_seen : ByteArray := prog_1_method_10_code
def yX11_seen : MethodName := ⟨RX11, "seen", "(II)I"⟩
abbrev cX11_show : ByteArray := prog_1_method_11_code
def yX11_show : MethodName := ⟨RX11, "show", "(II)I"⟩
abbrev cX11_note : ByteArray := prog_1_method_12_code
def yX11_note : MethodName := ⟨RX11, "note", "(III)I"⟩
abbrev cX11_strike : ByteArray := prog_1_method_13_code
def yX11_strike : MethodName := ⟨RX11, "strike", "()I"⟩
abbrev cX11_forget : ByteArray := prog_1_method_14_code
def yX11_forget : MethodName := ⟨RX11, "forget", "()I"⟩
abbrev cX11_hide : ByteArray := prog_1_method_15_code
def yX11_hide : MethodName := ⟨RX11, "hide", "(I)I"⟩
abbrev cX11_swap : ByteArray := prog_1_method_16_code
def yX11_swap : MethodName := ⟨RX11, "swap", "(II)I"⟩
abbrev cX11_left : ByteArray := prog_1_method_17_code
def yX11_left : MethodName := ⟨RX11, "left", "()I"⟩
abbrev cX11_fits : ByteArray := prog_1_method_18_code
def yX11_fits : MethodName := ⟨RX11, "fits", "(I)I"⟩
abbrev cX11_best : ByteArray := prog_1_method_19_code
def yX11_best : MethodName := ⟨RX11, "best", "(II)I"⟩
abbrev cX11_rest : ByteArray := prog_1_method_20_code
def yX11_rest : MethodName := ⟨RX11, "rest", "(III)I"⟩
abbrev cX11_howLong : ByteArray := prog_1_method_21_code
def yX11_howLong : MethodName := ⟨RX11, "howLong", "(II)I"⟩
abbrev cX11_parts : ByteArray := prog_1_method_22_code
def yX11_parts : MethodName := ⟨RX11, "parts", "(II)I"⟩
abbrev cX11_tries : ByteArray := prog_1_method_23_code
def yX11_tries : MethodName := ⟨RX11, "tries", "(IIII)I"⟩
abbrev cX11_image : ByteArray := prog_1_method_24_code
def yX11_image : MethodName := ⟨RX11, "image", "()I"⟩
abbrev cX11_restore : ByteArray := prog_1_method_25_code
def yX11_restore : MethodName := ⟨RX11, "restore", "()I"⟩
abbrev cX11_count : ByteArray := prog_1_method_26_code
def yX11_count : MethodName := ⟨RX11, "count", "(I)I"⟩
abbrev cX11_digest : ByteArray := prog_1_method_27_code
def yX11_digest : MethodName := ⟨RX11, "digest", "()J"⟩
abbrev cX11_with : ByteArray := prog_1_method_28_code
def yX11_with : MethodName := ⟨RX11, "with", "(JI)J"⟩
abbrev cX11_isGameOn : ByteArray := prog_1_method_29_code
def yX11_isGameOn : MethodName := ⟨RX11, "isGameOn", "()Z"⟩
abbrev cX11_isJudge : ByteArray := prog_1_method_30_code
def yX11_isJudge : MethodName := ⟨RX11, "isJudge", "(I)Z"⟩
abbrev cX11_isRow : ByteArray := prog_1_method_31_code
def yX11_isRow : MethodName := ⟨RX11, "isRow", "(I)Z"⟩
abbrev cX11_isKind : ByteArray := prog_1_method_32_code
def yX11_isKind : MethodName := ⟨RX11, "isKind", "(I)Z"⟩
abbrev cX11_judgeAt : ByteArray := prog_1_method_33_code
def yX11_judgeAt : MethodName := ⟨RX11, "judgeAt", "(I)LJudgedRows$Judge;"⟩
abbrev cX11_isOf : ByteArray := prog_1_method_34_code
def yX11_isOf : MethodName := ⟨RX11, "isOf", "(LJudgedRows$Judge;I)Z"⟩
abbrev cX11_fitting : ByteArray := prog_1_method_35_code
def yX11_fitting : MethodName := ⟨RX11, "fitting", "(I)Z"⟩
abbrev cX11_gatherFitting : ByteArray := prog_1_method_36_code
def yX11_gatherFitting : MethodName := ⟨RX11, "gatherFitting", "()I"⟩
abbrev cX11_sorts : ByteArray := prog_1_method_37_code
def yX11_sorts : MethodName := ⟨RX11, "sorts", "(I)I"⟩
abbrev cX11_couldBe : ByteArray := prog_1_method_38_code
def yX11_couldBe : MethodName := ⟨RX11, "couldBe", "(ILJudgedRows$Judge;)Z"⟩
abbrev cX11_testFor : ByteArray := prog_1_method_39_code
def yX11_testFor : MethodName := ⟨RX11, "testFor", "(I)I"⟩
abbrev cX11_worstSorts : ByteArray := prog_1_method_40_code
def yX11_worstSorts : MethodName := ⟨RX11, "worstSorts", "(II)I"⟩
abbrev cX11_commonDivisor : ByteArray := prog_1_method_41_code
def yX11_commonDivisor : MethodName := ⟨RX11, "commonDivisor", "(II)I"⟩
def RX12 : String := "JudgedRowsModel"
def TX12 : u_T := fun k => match k with
  | 0 => ("JudgedRowsModel", "page", "[I", true)
  | 1 => ("JudgedRowsModel", "pageMany", "I", false)
  | 2 => ("JudgedRowsModel", "end", "I", false)
  | 3 => ("JudgedRowsModel", "pegs", "I", false)
  | 4 => ("JudgedRowsModel", "colours", "I", false)
  | 5 => ("JudgedRowsModel", "rows", "I", false)
  | 6 => ("JudgedRowsModel", "judges", "I", false)
  | 7 => ("JudgedRowsModel", "hidden", "I", false)
  | 8 => ("JudgedRowsModel", "shownMany", "I", false)
  | 9 => ("JudgedRowsModel", "gamesRead", "I", false)
  | 10 => ("JudgedRowsModel", "kinds", "[I", true)
  | 11 => ("JudgedRowsModel", "shown", "[I", true)
  | 12 => ("JudgedRowsModel", "fit", "[I", true)
  | 13 => ("JudgedRowsModel", "sizes", "[I", true)
  | 14 => ("JudgedRowsModel", "leastWorst", "I", false)
  | 15 => ("JudgedRowsModel", "bestDone", "I", false)
  | 16 => ("JudgedRowsModel", "longDone", "I", false)
  | 17 => ("JudgedRowsModel", "partsDone", "I", false)
  | 18 => ("JudgedRowsModel", "table", "[I", true)
  | 19 => ("JudgedRowsModel", "apart", "[I", true)
  | 20 => ("JudgedRowsModel", "seedNow", "I", false)
  | 21 => ("JudgedRowsModel", "keptGame", "I", false)
  | 22 => ("JudgedRowsModel", "keptHidden", "I", false)
  | 23 => ("JudgedRowsModel", "keptMany", "I", false)
  | 24 => ("JudgedRowsModel", "keptKinds", "[I", true)
  | 25 => ("JudgedRowsModel", "keptShown", "[I", true)
  | _ => ("JudgedRowsModel", "hash", "J", false)
def tyX12 : Nat → FieldType := fun k => match k with
  | 0 => .array .int
  | 1 => .int
  | 2 => .int
  | 3 => .int
  | 4 => .int
  | 5 => .int
  | 6 => .int
  | 7 => .int
  | 8 => .int
  | 9 => .int
  | 10 => .array .int
  | 11 => .array .int
  | 12 => .array .int
  | 13 => .array .int
  | 14 => .int
  | 15 => .int
  | 16 => .int
  | 17 => .int
  | 18 => .array .int
  | 19 => .array .int
  | 20 => .int
  | 21 => .int
  | 22 => .int
  | 23 => .int
  | 24 => .array .int
  | 25 => .array .int
  | _ => .long
abbrev wsX120 : List Cond := u_ws RX12 TX12 27
theorem nmX12 : ∀ a, a < 27 → ∀ b, b < 27 → a ≠ b → (TX12 a).2.1 ≠ (TX12 b).2.1 := by decide +kernel
theorem tyX12_ok : ∀ k, k < 27 → parseFieldDescriptor (TX12 k).2.2.1 = some (tyX12 k) := by decide +kernel
abbrev cX12_init : ByteArray := prog_14_method_1_code
def yX12_init : MethodName := ⟨RX12, "<init>", "()V"⟩
abbrev cX12_in : ByteArray := prog_14_method_2_code
def yX12_in : MethodName := ⟨RX12, "in", "(JJJ)Z"⟩
abbrev cX12_copy : ByteArray := prog_14_method_3_code
def yX12_copy : MethodName := ⟨RX12, "copy", "([I[I)V"⟩
abbrev cX12_letter : ByteArray := prog_14_method_4_code
def yX12_letter : MethodName := ⟨RX12, "letter", "(I)I"⟩
abbrev cX12_blank : ByteArray := prog_14_method_5_code
def yX12_blank : MethodName := ⟨RX12, "blank", "()I"⟩
abbrev cX12_kindBy : ByteArray := prog_14_method_6_code
def yX12_kindBy : MethodName := ⟨RX12, "kindBy", "(I)I"⟩
abbrev cX12_isJudgeLetter : ByteArray := prog_14_method_7_code
def yX12_isJudgeLetter : MethodName := ⟨RX12, "isJudgeLetter", "(I)Z"⟩
abbrev cX12_isGood : ByteArray := prog_14_method_8_code
def yX12_isGood : MethodName := ⟨RX12, "isGood", "(I)Z"⟩
abbrev cX12_faultOf : ByteArray := prog_14_method_9_code
def yX12_faultOf : MethodName := ⟨RX12, "faultOf", "()I"⟩
abbrev cX12_fault : ByteArray := prog_14_method_10_code
def yX12_fault : MethodName := ⟨RX12, "fault", "()I"⟩
abbrev cX12_game : ByteArray := prog_14_method_11_code
def yX12_game : MethodName := ⟨RX12, "game", "()I"⟩
abbrev cX12_lacks : ByteArray := prog_14_method_12_code
def yX12_lacks : MethodName := ⟨RX12, "lacks", "()Z"⟩
abbrev cX12_isRow : ByteArray := prog_14_method_13_code
def yX12_isRow : MethodName := ⟨RX12, "isRow", "(I)Z"⟩
abbrev cX12_isJudge : ByteArray := prog_14_method_14_code
def yX12_isJudge : MethodName := ⟨RX12, "isJudge", "(I)Z"⟩
abbrev cX12_peg : ByteArray := prog_14_method_15_code
def yX12_peg : MethodName := ⟨RX12, "peg", "(II)I"⟩
abbrev cX12_right : ByteArray := prog_14_method_16_code
def yX12_right : MethodName := ⟨RX12, "right", "(IIZ)I"⟩
abbrev cX12_alike : ByteArray := prog_14_method_17_code
def yX12_alike : MethodName := ⟨RX12, "alike", "(II)I"⟩
abbrev cX12_tellsBy : ByteArray := prog_14_method_18_code
def yX12_tellsBy : MethodName := ⟨RX12, "tellsBy", "(III)I"⟩
abbrev cX12_tells : ByteArray := prog_14_method_19_code
def yX12_tells : MethodName := ⟨RX12, "tells", "(III)I"⟩
abbrev cX12_isFit : ByteArray := prog_14_method_20_code
def yX12_isFit : MethodName := ⟨RX12, "isFit", "(I)Z"⟩
abbrev cX12_layFit : ByteArray := prog_14_method_21_code
def yX12_layFit : MethodName := ⟨RX12, "layFit", "()V"⟩
abbrev cX12_fitMany : ByteArray := prog_14_method_22_code
def yX12_fitMany : MethodName := ⟨RX12, "fitMany", "()I"⟩
abbrev cX12_leftOf : ByteArray := prog_14_method_23_code
def yX12_leftOf : MethodName := ⟨RX12, "leftOf", "()I"⟩
abbrev cX12_left : ByteArray := prog_14_method_24_code
def yX12_left : MethodName := ⟨RX12, "left", "()I"⟩
abbrev cX12_fitsOf : ByteArray := prog_14_method_25_code
def yX12_fitsOf : MethodName := ⟨RX12, "fitsOf", "(I)I"⟩
abbrev cX12_fits : ByteArray := prog_14_method_26_code
def yX12_fits : MethodName := ⟨RX12, "fits", "(I)I"⟩
abbrev cX12_toJudge : ByteArray := prog_14_method_27_code
def yX12_toJudge : MethodName := ⟨RX12, "toJudge", "(I)I"⟩
abbrev cX12_tellJudge : ByteArray := prog_14_method_28_code
def yX12_tellJudge : MethodName := ⟨RX12, "tellJudge", "(II)I"⟩
abbrev cX12_judge : ByteArray := prog_14_method_29_code
def yX12_judge : MethodName := ⟨RX12, "judge", "(II)I"⟩
abbrev cX12_as : ByteArray := prog_14_method_30_code
def yX12_as : MethodName := ⟨RX12, "as", "(II)I"⟩
abbrev cX12_tellRow : ByteArray := prog_14_method_31_code
def yX12_tellRow : MethodName := ⟨RX12, "tellRow", "(II)I"⟩
abbrev cX12_row : ByteArray := prog_14_method_32_code
def yX12_row : MethodName := ⟨RX12, "row", "(II)I"⟩
abbrev cX12_seen : ByteArray := prog_14_method_33_code
def yX12_seen : MethodName := ⟨RX12, "seen", "(II)I"⟩
abbrev cX12_keep : ByteArray := prog_14_method_34_code
def yX12_keep : MethodName := ⟨RX12, "keep", "(III)V"⟩
abbrev cX12_show : ByteArray := prog_14_method_35_code
def yX12_show : MethodName := ⟨RX12, "show", "(II)I"⟩
abbrev cX12_note : ByteArray := prog_14_method_36_code
def yX12_note : MethodName := ⟨RX12, "note", "(III)I"⟩
abbrev cX12_strike : ByteArray := prog_14_method_37_code
def yX12_strike : MethodName := ⟨RX12, "strike", "()I"⟩
abbrev cX12_forget : ByteArray := prog_14_method_38_code
def yX12_forget : MethodName := ⟨RX12, "forget", "()I"⟩
abbrev cX12_hide : ByteArray := prog_14_method_39_code
def yX12_hide : MethodName := ⟨RX12, "hide", "(I)I"⟩
abbrev cX12_swap : ByteArray := prog_14_method_40_code
def yX12_swap : MethodName := ⟨RX12, "swap", "(II)I"⟩
abbrev cX12_laySizes : ByteArray := prog_14_method_41_code
def yX12_laySizes : MethodName := ⟨RX12, "laySizes", "(II)V"⟩
abbrev cX12_greatest : ByteArray := prog_14_method_42_code
def yX12_greatest : MethodName := ⟨RX12, "greatest", "()I"⟩
abbrev cX12_bestBy : ByteArray := prog_14_method_43_code
def yX12_bestBy : MethodName := ⟨RX12, "bestBy", "(I)I"⟩
abbrev cX12_best : ByteArray := prog_14_method_44_code
def yX12_best : MethodName := ⟨RX12, "best", "(II)I"⟩
abbrev cX12_restOf : ByteArray := prog_14_method_45_code
def yX12_restOf : MethodName := ⟨RX12, "restOf", "(III)I"⟩
abbrev cX12_rest : ByteArray := prog_14_method_46_code
def yX12_rest : MethodName := ⟨RX12, "rest", "(III)I"⟩
abbrev cX12_longOf : ByteArray := prog_14_method_47_code
def yX12_longOf : MethodName := ⟨RX12, "longOf", "(II)I"⟩
abbrev cX12_howLong : ByteArray := prog_14_method_48_code
def yX12_howLong : MethodName := ⟨RX12, "howLong", "(II)I"⟩
abbrev cX12_isTwin : ByteArray := prog_14_method_49_code
def yX12_isTwin : MethodName := ⟨RX12, "isTwin", "(III)Z"⟩
abbrev cX12_twinsOf : ByteArray := prog_14_method_50_code
def yX12_twinsOf : MethodName := ⟨RX12, "twinsOf", "(I)I"⟩
abbrev cX12_layTable : ByteArray := prog_14_method_51_code
def yX12_layTable : MethodName := ⟨RX12, "layTable", "(I)V"⟩
abbrev cX12_isEnough : ByteArray := prog_14_method_52_code
def yX12_isEnough : MethodName := ⟨RX12, "isEnough", "(II)Z"⟩
abbrev cX12_apartMany : ByteArray := prog_14_method_53_code
def yX12_apartMany : MethodName := ⟨RX12, "apartMany", "()I"⟩
abbrev cX12_partsOf : ByteArray := prog_14_method_54_code
def yX12_partsOf : MethodName := ⟨RX12, "partsOf", "(II)I"⟩
abbrev cX12_parts : ByteArray := prog_14_method_55_code
def yX12_parts : MethodName := ⟨RX12, "parts", "(II)I"⟩
abbrev cX12_sortsOf : ByteArray := prog_14_method_56_code
def yX12_sortsOf : MethodName := ⟨RX12, "sortsOf", "(I)I"⟩
abbrev cX12_testOf : ByteArray := prog_14_method_57_code
def yX12_testOf : MethodName := ⟨RX12, "testOf", "(I)I"⟩
abbrev cX12_draw : ByteArray := prog_14_method_58_code
def yX12_draw : MethodName := ⟨RX12, "draw", "(I)I"⟩
abbrev cX12_soManieth : ByteArray := prog_14_method_59_code
def yX12_soManieth : MethodName := ⟨RX12, "soManieth", "(I)I"⟩
abbrev cX12_tryOne : ByteArray := prog_14_method_60_code
def yX12_tryOne : MethodName := ⟨RX12, "tryOne", "(I)I"⟩
abbrev cX12_tries : ByteArray := prog_14_method_61_code
def yX12_tries : MethodName := ⟨RX12, "tries", "(IIII)I"⟩
abbrev cX12_image : ByteArray := prog_14_method_62_code
def yX12_image : MethodName := ⟨RX12, "image", "()I"⟩
abbrev cX12_restore : ByteArray := prog_14_method_63_code
def yX12_restore : MethodName := ⟨RX12, "restore", "()I"⟩
abbrev cX12_countOf : ByteArray := prog_14_method_64_code
def yX12_countOf : MethodName := ⟨RX12, "countOf", "(I)I"⟩
abbrev cX12_count : ByteArray := prog_14_method_65_code
def yX12_count : MethodName := ⟨RX12, "count", "(I)I"⟩
abbrev cX12_say : ByteArray := prog_14_method_66_code
def yX12_say : MethodName := ⟨RX12, "say", "(J)V"⟩
abbrev cX12_digest : ByteArray := prog_14_method_67_code
def yX12_digest : MethodName := ⟨RX12, "digest", "()J"⟩
def RJ11 : String := "java/lang/Character"
def TJ11 : u_T := fun k => match k with
  | _ => ("", "", "", false)
def tyJ11 : Nat → FieldType := fun k => match k with
  | _ => .int
abbrev wsJ110 : List Cond := u_ws RJ11 TJ11 0
theorem nmJ11 : ∀ a, a < 0 → ∀ b, b < 0 → a ≠ b → (TJ11 a).2.1 ≠ (TJ11 b).2.1 := by decide +kernel
theorem tyJ11_ok : ∀ k, k < 0 → parseFieldDescriptor (TJ11 k).2.2.1 = some (tyJ11 k) := by decide +kernel
abbrev cJ11_isValidCodePoint_9a6ad : ByteArray := prog_15_method_11_code
def yJ11_isValidCodePoint_9a6ad : MethodName := ⟨RJ11, "isValidCodePoint", "(I)Z"⟩
abbrev cJ11_highSurrogate_5068e : ByteArray := prog_15_method_28_code
def yJ11_highSurrogate_5068e : MethodName := ⟨RJ11, "highSurrogate", "(I)C"⟩
abbrev cJ11_lowSurrogate_5068e : ByteArray := prog_15_method_29_code
def yJ11_lowSurrogate_5068e : MethodName := ⟨RJ11, "lowSurrogate", "(I)C"⟩
def RJ6 : String := "java/lang/Integer"
def TJ6 : u_T := fun k => match k with
  | _ => ("", "", "", false)
def tyJ6 : Nat → FieldType := fun k => match k with
  | _ => .int
abbrev wsJ60 : List Cond := u_ws RJ6 TJ6 0
theorem nmJ6 : ∀ a, a < 0 → ∀ b, b < 0 → a ≠ b → (TJ6 a).2.1 ≠ (TJ6 b).2.1 := by decide +kernel
theorem tyJ6_ok : ∀ k, k < 0 → parseFieldDescriptor (TJ6 k).2.2.1 = some (tyJ6 k) := by decide +kernel
abbrev cJ6_bitCount_0f7a4 : ByteArray := prog_16_method_49_code
def yJ6_bitCount_0f7a4 : MethodName := ⟨RJ6, "bitCount", "(I)I"⟩
def RJ9 : String := "java/lang/Math"
def TJ9 : u_T := fun k => match k with
  | _ => ("", "", "", false)
def tyJ9 : Nat → FieldType := fun k => match k with
  | _ => .int
abbrev wsJ90 : List Cond := u_ws RJ9 TJ9 0
theorem nmJ9 : ∀ a, a < 0 → ∀ b, b < 0 → a ≠ b → (TJ9 a).2.1 ≠ (TJ9 b).2.1 := by decide +kernel
theorem tyJ9_ok : ∀ k, k < 0 → parseFieldDescriptor (TJ9 k).2.2.1 = some (tyJ9 k) := by decide +kernel
abbrev cJ9_max_7cf53 : ByteArray := prog_17_method_65_code
def yJ9_max_7cf53 : MethodName := ⟨RJ9, "max", "(II)I"⟩
abbrev cJ9_min_7cf53 : ByteArray := prog_17_method_69_code
def yJ9_min_7cf53 : MethodName := ⟨RJ9, "min", "(II)I"⟩
def RJ0 : String := "java/lang/String"
def TJ0 : u_T := fun k => match k with
  | _ => ("", "", "", false)
def tyJ0 : Nat → FieldType := fun k => match k with
  | _ => .int
abbrev wsJ00 : List Cond := u_ws RJ0 TJ0 0
theorem nmJ0 : ∀ a, a < 0 → ∀ b, b < 0 → a ≠ b → (TJ0 a).2.1 ≠ (TJ0 b).2.1 := by decide +kernel
theorem tyJ0_ok : ∀ k, k < 0 → parseFieldDescriptor (TJ0 k).2.2.1 = some (tyJ0 k) := by decide +kernel
abbrev cJ0_length_8abf5 : ByteArray := prog_18_method_54_code
def yJ0_length_8abf5 : MethodName := ⟨RJ0, "length", "()I"⟩
abbrev cJ0_indexOf_0f7a4 : ByteArray := prog_18_method_79_code
def yJ0_indexOf_0f7a4 : MethodName := ⟨RJ0, "indexOf", "(I)I"⟩
abbrev cJ0_indexOf_7cf53 : ByteArray := prog_18_method_80_code
def yJ0_indexOf_7cf53 : MethodName := ⟨RJ0, "indexOf", "(II)I"⟩
abbrev cJ0_coder_7d493 : ByteArray := prog_18_method_152_code
def yJ0_coder_7d493 : MethodName := ⟨RJ0, "coder", "()B"⟩
abbrev cJ0_isLatin1_aae02 : ByteArray := prog_18_method_154_code
def yJ0_isLatin1_aae02 : MethodName := ⟨RJ0, "isLatin1", "()Z"⟩
abbrev cJ0_checkBoundsBeginEnd_23922 : ByteArray := prog_18_method_158_code
def yJ0_checkBoundsBeginEnd_23922 : MethodName := ⟨RJ0, "checkBoundsBeginEnd", "(III)V"⟩
def RJ1 : String := "java/lang/StringLatin1"
def TJ1 : u_T := fun k => match k with
  | _ => ("", "", "", false)
def tyJ1 : Nat → FieldType := fun k => match k with
  | _ => .int
abbrev wsJ10 : List Cond := u_ws RJ1 TJ1 0
theorem nmJ1 : ∀ a, a < 0 → ∀ b, b < 0 → a ≠ b → (TJ1 a).2.1 ≠ (TJ1 b).2.1 := by decide +kernel
theorem tyJ1_ok : ∀ k, k < 0 → parseFieldDescriptor (TJ1 k).2.2.1 = some (tyJ1 k) := by decide +kernel
abbrev cJ1_canEncode_9a6ad : ByteArray := prog_19_method_4_code
def yJ1_canEncode_9a6ad : MethodName := ⟨RJ1, "canEncode", "(I)Z"⟩
abbrev cJ1_indexOf_4cfef : ByteArray := prog_19_method_22_code
def yJ1_indexOf_4cfef : MethodName := ⟨RJ1, "indexOf", "([BIII)I"⟩
abbrev cJ1_indexOfChar_4cfef : ByteArray := prog_19_method_23_code
def yJ1_indexOfChar_4cfef : MethodName := ⟨RJ1, "indexOfChar", "([BIII)I"⟩
def RJ2 : String := "java/lang/StringUTF16"
def TJ2 : u_T := fun k => match k with
  | _ => ("", "", "", false)
def tyJ2 : Nat → FieldType := fun k => match k with
  | _ => .int
abbrev wsJ20 : List Cond := u_ws RJ2 TJ2 0
theorem nmJ2 : ∀ a, a < 0 → ∀ b, b < 0 → a ≠ b → (TJ2 a).2.1 ≠ (TJ2 b).2.1 := by decide +kernel
theorem tyJ2_ok : ∀ k, k < 0 → parseFieldDescriptor (TJ2 k).2.2.1 = some (tyJ2 k) := by decide +kernel
abbrev cJ2_getChar_3b067 : ByteArray := prog_20_method_5_code
def yJ2_getChar_3b067 : MethodName := ⟨RJ2, "getChar", "([BI)C"⟩
abbrev cJ2_length_9d52b : ByteArray := prog_20_method_6_code
def yJ2_length_9d52b : MethodName := ⟨RJ2, "length", "([B)I"⟩
abbrev cJ2_indexOf_4cfef : ByteArray := prog_20_method_40_code
def yJ2_indexOf_4cfef : MethodName := ⟨RJ2, "indexOf", "([BIII)I"⟩
abbrev cJ2_indexOfChar_4cfef : ByteArray := prog_20_method_47_code
def yJ2_indexOfChar_4cfef : MethodName := ⟨RJ2, "indexOfChar", "([BIII)I"⟩
abbrev cJ2_indexOfCharUnsafe_4cfef : ByteArray := prog_20_method_48_code
def yJ2_indexOfCharUnsafe_4cfef : MethodName := ⟨RJ2, "indexOfCharUnsafe", "([BIII)I"⟩
abbrev cJ2_indexOfSupplementary_4cfef : ByteArray := prog_20_method_49_code
def yJ2_indexOfSupplementary_4cfef : MethodName := ⟨RJ2, "indexOfSupplementary", "([BIII)I"⟩
abbrev cJ2_checkBoundsBeginEnd_d044e : ByteArray := prog_20_method_93_code
def yJ2_checkBoundsBeginEnd_d044e : MethodName := ⟨RJ2, "checkBoundsBeginEnd", "(II[B)V"⟩
def RJ10 : String := "java/lang/System"
def TJ10 : u_T := fun k => match k with
  | _ => ("", "", "", false)
def tyJ10 : Nat → FieldType := fun k => match k with
  | _ => .int
abbrev wsJ100 : List Cond := u_ws RJ10 TJ10 0
theorem nmJ10 : ∀ a, a < 0 → ∀ b, b < 0 → a ≠ b → (TJ10 a).2.1 ≠ (TJ10 b).2.1 := by decide +kernel
theorem tyJ10_ok : ∀ k, k < 0 → parseFieldDescriptor (TJ10 k).2.2.1 = some (tyJ10 k) := by decide +kernel
def RJ3 : String := "jdk/internal/util/Preconditions"
def TJ3 : u_T := fun k => match k with
  | _ => ("", "", "", false)
def tyJ3 : Nat → FieldType := fun k => match k with
  | _ => .int
abbrev wsJ30 : List Cond := u_ws RJ3 TJ3 0
theorem nmJ3 : ∀ a, a < 0 → ∀ b, b < 0 → a ≠ b → (TJ3 a).2.1 ≠ (TJ3 b).2.1 := by decide +kernel
theorem tyJ3_ok : ∀ k, k < 0 → parseFieldDescriptor (TJ3 k).2.2.1 = some (tyJ3 k) := by decide +kernel
abbrev cJ3_checkFromToIndex_8c36e : ByteArray := prog_22_method_12_code
def yJ3_checkFromToIndex_8c36e : MethodName := ⟨RJ3, "checkFromToIndex", "(IIILjava/util/function/BiFunction;)I"⟩
def RL : String := "JudgedRowsLaw"
abbrev cL_law : ByteArray := code
def yL_law : MethodName := ⟨RL, "law", "([I)Z"⟩
abbrev vwCl : List vw_C := [(RX0, TX0, 6), (RX1, TX1, 0), (RX2, TX2, 0), (RX3, TX3, 2), (RX4, TX4, 6), (RX5, TX5, 5), (RX6, TX6, 6), (RX7, TX7, 0), (RX8, TX8, 0), (RX9, TX9, 5), (RX10, TX10, 0), (RX11, TX11, 15), (RX12, TX12, 27)]
