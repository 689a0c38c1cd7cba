section
-- ===== PART A: goes FIRST, ahead of the names: the tables' words, and 'selects' of the private methods out of them =====
/-- a private method of a class that the tables say can be made, by its rows of tables_1 -/
def lw_okq (q : MethodName × Nat) : Prop := (q.1.cls ≠ "java/lang/invoke/MethodHandle" ∧ q.1.cls ≠ "java/lang/invoke/VarHandle") ∧ Cond.instantiable q.1.cls q.2 ∈ tables_1 ∧ Cond.privateMethod q.1 ∈ tables_1 ∧ Cond.instanceMethod q.1 ∈ tables_1
theorem lw_p0 : lw_okq (⟨"JudgedRows$Page", "mayStand", "(I)Z"⟩, 2) := ⟨⟨by decide +kernel, by decide +kernel⟩, List.mem_of_getElem? (i := 31) (by decide +kernel), List.mem_of_getElem? (i := 291) (by decide +kernel), List.mem_of_getElem? (i := 292) (by decide +kernel)⟩
theorem lw_p1 : lw_okq (⟨"JudgedRows$Page", "kindsEnd", "(I)I"⟩, 2) := ⟨⟨by decide +kernel, by decide +kernel⟩, List.mem_of_getElem? (i := 31) (by decide +kernel), List.mem_of_getElem? (i := 295) (by decide +kernel), List.mem_of_getElem? (i := 296) (by decide +kernel)⟩
theorem lw_p2 : lw_okq (⟨"JudgedRows$Rows", "layRow", "(I)V"⟩, 6) := ⟨⟨by decide +kernel, by decide +kernel⟩, List.mem_of_getElem? (i := 114) (by decide +kernel), List.mem_of_getElem? (i := 410) (by decide +kernel), List.mem_of_getElem? (i := 411) (by decide +kernel)⟩
theorem lw_p3 : lw_okq (⟨"JudgedRows", "isJudge", "(I)Z"⟩, 15) := ⟨⟨by decide +kernel, by decide +kernel⟩, List.mem_of_getElem? (i := 23) (by decide +kernel), List.mem_of_getElem? (i := 437) (by decide +kernel), List.mem_of_getElem? (i := 438) (by decide +kernel)⟩
theorem lw_p4 : lw_okq (⟨"JudgedRows", "sorts", "(I)I"⟩, 15) := ⟨⟨by decide +kernel, by decide +kernel⟩, List.mem_of_getElem? (i := 23) (by decide +kernel), List.mem_of_getElem? (i := 445) (by decide +kernel), List.mem_of_getElem? (i := 446) (by decide +kernel)⟩
theorem lw_p5 : lw_okq (⟨"JudgedRows", "couldBe", "(ILJudgedRows$Judge;)Z"⟩, 15) := ⟨⟨by decide +kernel, by decide +kernel⟩, List.mem_of_getElem? (i := 23) (by decide +kernel), List.mem_of_getElem? (i := 449) (by decide +kernel), List.mem_of_getElem? (i := 450) (by decide +kernel)⟩
theorem lw_p6 : lw_okq (⟨"JudgedRows", "testFor", "(I)I"⟩, 15) := ⟨⟨by decide +kernel, by decide +kernel⟩, List.mem_of_getElem? (i := 23) (by decide +kernel), List.mem_of_getElem? (i := 497) (by decide +kernel), List.mem_of_getElem? (i := 498) (by decide +kernel)⟩
theorem lw_p7 : lw_okq (⟨"JudgedRows", "worstSorts", "(II)I"⟩, 15) := ⟨⟨by decide +kernel, by decide +kernel⟩, List.mem_of_getElem? (i := 23) (by decide +kernel), List.mem_of_getElem? (i := 501) (by decide +kernel), List.mem_of_getElem? (i := 502) (by decide +kernel)⟩
theorem lw_p8 : lw_okq (⟨"JudgedRows", "judgeAt", "(I)LJudgedRows$Judge;"⟩, 15) := ⟨⟨by decide +kernel, by decide +kernel⟩, List.mem_of_getElem? (i := 23) (by decide +kernel), List.mem_of_getElem? (i := 506) (by decide +kernel), List.mem_of_getElem? (i := 507) (by decide +kernel)⟩
theorem lw_p9 : lw_okq (⟨"JudgedRows", "isRow", "(I)Z"⟩, 15) := ⟨⟨by decide +kernel, by decide +kernel⟩, List.mem_of_getElem? (i := 23) (by decide +kernel), List.mem_of_getElem? (i := 533) (by decide +kernel), List.mem_of_getElem? (i := 534) (by decide +kernel)⟩
theorem lw_p10 : lw_okq (⟨"JudgedRows", "fitting", "(I)Z"⟩, 15) := ⟨⟨by decide +kernel, by decide +kernel⟩, List.mem_of_getElem? (i := 23) (by decide +kernel), List.mem_of_getElem? (i := 537) (by decide +kernel), List.mem_of_getElem? (i := 538) (by decide +kernel)⟩
theorem lw_p11 : lw_okq (⟨"JudgedRows", "gatherFitting", "()I"⟩, 15) := ⟨⟨by decide +kernel, by decide +kernel⟩, List.mem_of_getElem? (i := 23) (by decide +kernel), List.mem_of_getElem? (i := 562) (by decide +kernel), List.mem_of_getElem? (i := 563) (by decide +kernel)⟩
theorem lw_p12 : lw_okq (⟨"JudgedRows", "isGameOn", "()Z"⟩, 15) := ⟨⟨by decide +kernel, by decide +kernel⟩, List.mem_of_getElem? (i := 23) (by decide +kernel), List.mem_of_getElem? (i := 595) (by decide +kernel), List.mem_of_getElem? (i := 596) (by decide +kernel)⟩
theorem lw_p13 : lw_okq (⟨"JudgedRows$Pool", "tally", "(LJudgedRows$Judge;I)V"⟩, 5) := ⟨⟨by decide +kernel, by decide +kernel⟩, List.mem_of_getElem? (i := 145) (by decide +kernel), List.mem_of_getElem? (i := 615) (by decide +kernel), List.mem_of_getElem? (i := 616) (by decide +kernel)⟩
theorem lw_p14 : lw_okq (⟨"JudgedRows$Parting", "sortsOfRows", "(LJudgedRows$Judge;)I"⟩, 6) := ⟨⟨by decide +kernel, by decide +kernel⟩, List.mem_of_getElem? (i := 172) (by decide +kernel), List.mem_of_getElem? (i := 644) (by decide +kernel), List.mem_of_getElem? (i := 645) (by decide +kernel)⟩
theorem lw_p15 : lw_okq (⟨"JudgedRows$Parting", "partsBy", "(LJudgedRows$Judge;II)I"⟩, 6) := ⟨⟨by decide +kernel, by decide +kernel⟩, List.mem_of_getElem? (i := 172) (by decide +kernel), List.mem_of_getElem? (i := 649) (by decide +kernel), List.mem_of_getElem? (i := 650) (by decide +kernel)⟩
def lw_privs_1 : List (MethodName × Nat) := [(⟨"JudgedRows$Page", "mayStand", "(I)Z"⟩, 2), (⟨"JudgedRows$Page", "kindsEnd", "(I)I"⟩, 2), (⟨"JudgedRows$Rows", "layRow", "(I)V"⟩, 6), (⟨"JudgedRows", "isJudge", "(I)Z"⟩, 15), (⟨"JudgedRows", "sorts", "(I)I"⟩, 15), (⟨"JudgedRows", "couldBe", "(ILJudgedRows$Judge;)Z"⟩, 15), (⟨"JudgedRows", "testFor", "(I)I"⟩, 15), (⟨"JudgedRows", "worstSorts", "(II)I"⟩, 15), (⟨"JudgedRows", "judgeAt", "(I)LJudgedRows$Judge;"⟩, 15), (⟨"JudgedRows", "isRow", "(I)Z"⟩, 15), (⟨"JudgedRows", "fitting", "(I)Z"⟩, 15), (⟨"JudgedRows", "gatherFitting", "()I"⟩, 15), (⟨"JudgedRows", "isGameOn", "()Z"⟩, 15), (⟨"JudgedRows$Pool", "tally", "(LJudgedRows$Judge;I)V"⟩, 5), (⟨"JudgedRows$Parting", "sortsOfRows", "(LJudgedRows$Judge;)I"⟩, 6), (⟨"JudgedRows$Parting", "partsBy", "(LJudgedRows$Judge;II)I"⟩, 6)]
theorem lw_r1 : ∀ q ∈ lw_privs_1, lw_okq q := List.forall_mem_cons.mpr ⟨lw_p0, List.forall_mem_cons.mpr ⟨lw_p1, List.forall_mem_cons.mpr ⟨lw_p2, List.forall_mem_cons.mpr ⟨lw_p3, List.forall_mem_cons.mpr ⟨lw_p4, List.forall_mem_cons.mpr ⟨lw_p5, List.forall_mem_cons.mpr ⟨lw_p6, List.forall_mem_cons.mpr ⟨lw_p7, List.forall_mem_cons.mpr ⟨lw_p8, List.forall_mem_cons.mpr ⟨lw_p9, List.forall_mem_cons.mpr ⟨lw_p10, List.forall_mem_cons.mpr ⟨lw_p11, List.forall_mem_cons.mpr ⟨lw_p12, List.forall_mem_cons.mpr ⟨lw_p13, List.forall_mem_cons.mpr ⟨lw_p14, List.forall_mem_cons.mpr ⟨lw_p15, fun _ h => absurd h List.not_mem_nil⟩⟩⟩⟩⟩⟩⟩⟩⟩⟩⟩⟩⟩⟩⟩⟩
theorem lw_p16 : lw_okq (⟨"JudgedRows$Parting", "answer", "(III)V"⟩, 6) := ⟨⟨by decide +kernel, by decide +kernel⟩, List.mem_of_getElem? (i := 172) (by decide +kernel), List.mem_of_getElem? (i := 654) (by decide +kernel), List.mem_of_getElem? (i := 655) (by decide +kernel)⟩
theorem lw_p17 : lw_okq (⟨"JudgedRows$Tries", "playOne", "(LJudgedRows$Judge;)I"⟩, 5) := ⟨⟨by decide +kernel, by decide +kernel⟩, List.mem_of_getElem? (i := 200) (by decide +kernel), List.mem_of_getElem? (i := 666) (by decide +kernel), List.mem_of_getElem? (i := 667) (by decide +kernel)⟩
theorem lw_p18 : lw_okq (⟨"JudgedRows$Tries", "draw", "(I)I"⟩, 5) := ⟨⟨by decide +kernel, by decide +kernel⟩, List.mem_of_getElem? (i := 200) (by decide +kernel), List.mem_of_getElem? (i := 670) (by decide +kernel), List.mem_of_getElem? (i := 671) (by decide +kernel)⟩
theorem lw_p19 : lw_okq (⟨"JudgedRowsModel", "faultOf", "()I"⟩, 27) := ⟨⟨by decide +kernel, by decide +kernel⟩, List.mem_of_getElem? (i := 719) (by decide +kernel), List.mem_of_getElem? (i := 823) (by decide +kernel), List.mem_of_getElem? (i := 824) (by decide +kernel)⟩
theorem lw_p20 : lw_okq (⟨"JudgedRowsModel", "isGood", "(I)Z"⟩, 27) := ⟨⟨by decide +kernel, by decide +kernel⟩, List.mem_of_getElem? (i := 719) (by decide +kernel), List.mem_of_getElem? (i := 827) (by decide +kernel), List.mem_of_getElem? (i := 828) (by decide +kernel)⟩
theorem lw_p21 : lw_okq (⟨"JudgedRowsModel", "isJudgeLetter", "(I)Z"⟩, 27) := ⟨⟨by decide +kernel, by decide +kernel⟩, List.mem_of_getElem? (i := 719) (by decide +kernel), List.mem_of_getElem? (i := 835) (by decide +kernel), List.mem_of_getElem? (i := 836) (by decide +kernel)⟩
theorem lw_p22 : lw_okq (⟨"JudgedRowsModel", "isJudge", "(I)Z"⟩, 27) := ⟨⟨by decide +kernel, by decide +kernel⟩, List.mem_of_getElem? (i := 719) (by decide +kernel), List.mem_of_getElem? (i := 851) (by decide +kernel), List.mem_of_getElem? (i := 852) (by decide +kernel)⟩
theorem lw_p23 : lw_okq (⟨"JudgedRowsModel", "isRow", "(I)Z"⟩, 27) := ⟨⟨by decide +kernel, by decide +kernel⟩, List.mem_of_getElem? (i := 719) (by decide +kernel), List.mem_of_getElem? (i := 855) (by decide +kernel), List.mem_of_getElem? (i := 856) (by decide +kernel)⟩
theorem lw_p24 : lw_okq (⟨"JudgedRowsModel", "tellsBy", "(III)I"⟩, 27) := ⟨⟨by decide +kernel, by decide +kernel⟩, List.mem_of_getElem? (i := 719) (by decide +kernel), List.mem_of_getElem? (i := 859) (by decide +kernel), List.mem_of_getElem? (i := 860) (by decide +kernel)⟩
theorem lw_p25 : lw_okq (⟨"JudgedRowsModel", "right", "(IIZ)I"⟩, 27) := ⟨⟨by decide +kernel, by decide +kernel⟩, List.mem_of_getElem? (i := 719) (by decide +kernel), List.mem_of_getElem? (i := 863) (by decide +kernel), List.mem_of_getElem? (i := 864) (by decide +kernel)⟩
theorem lw_p26 : lw_okq (⟨"JudgedRowsModel", "peg", "(II)I"⟩, 27) := ⟨⟨by decide +kernel, by decide +kernel⟩, List.mem_of_getElem? (i := 719) (by decide +kernel), List.mem_of_getElem? (i := 867) (by decide +kernel), List.mem_of_getElem? (i := 868) (by decide +kernel)⟩
theorem lw_p27 : lw_okq (⟨"JudgedRowsModel", "alike", "(II)I"⟩, 27) := ⟨⟨by decide +kernel, by decide +kernel⟩, List.mem_of_getElem? (i := 719) (by decide +kernel), List.mem_of_getElem? (i := 871) (by decide +kernel), List.mem_of_getElem? (i := 872) (by decide +kernel)⟩
theorem lw_p28 : lw_okq (⟨"JudgedRowsModel", "lacks", "()Z"⟩, 27) := ⟨⟨by decide +kernel, by decide +kernel⟩, List.mem_of_getElem? (i := 719) (by decide +kernel), List.mem_of_getElem? (i := 879) (by decide +kernel), List.mem_of_getElem? (i := 880) (by decide +kernel)⟩
theorem lw_p29 : lw_okq (⟨"JudgedRowsModel", "leftOf", "()I"⟩, 27) := ⟨⟨by decide +kernel, by decide +kernel⟩, List.mem_of_getElem? (i := 719) (by decide +kernel), List.mem_of_getElem? (i := 883) (by decide +kernel), List.mem_of_getElem? (i := 884) (by decide +kernel)⟩
theorem lw_p30 : lw_okq (⟨"JudgedRowsModel", "layFit", "()V"⟩, 27) := ⟨⟨by decide +kernel, by decide +kernel⟩, List.mem_of_getElem? (i := 719) (by decide +kernel), List.mem_of_getElem? (i := 887) (by decide +kernel), List.mem_of_getElem? (i := 888) (by decide +kernel)⟩
theorem lw_p31 : lw_okq (⟨"JudgedRowsModel", "isFit", "(I)Z"⟩, 27) := ⟨⟨by decide +kernel, by decide +kernel⟩, List.mem_of_getElem? (i := 719) (by decide +kernel), List.mem_of_getElem? (i := 891) (by decide +kernel), List.mem_of_getElem? (i := 892) (by decide +kernel)⟩
def lw_privs_2 : List (MethodName × Nat) := [(⟨"JudgedRows$Parting", "answer", "(III)V"⟩, 6), (⟨"JudgedRows$Tries", "playOne", "(LJudgedRows$Judge;)I"⟩, 5), (⟨"JudgedRows$Tries", "draw", "(I)I"⟩, 5), (⟨"JudgedRowsModel", "faultOf", "()I"⟩, 27), (⟨"JudgedRowsModel", "isGood", "(I)Z"⟩, 27), (⟨"JudgedRowsModel", "isJudgeLetter", "(I)Z"⟩, 27), (⟨"JudgedRowsModel", "isJudge", "(I)Z"⟩, 27), (⟨"JudgedRowsModel", "isRow", "(I)Z"⟩, 27), (⟨"JudgedRowsModel", "tellsBy", "(III)I"⟩, 27), (⟨"JudgedRowsModel", "right", "(IIZ)I"⟩, 27), (⟨"JudgedRowsModel", "peg", "(II)I"⟩, 27), (⟨"JudgedRowsModel", "alike", "(II)I"⟩, 27), (⟨"JudgedRowsModel", "lacks", "()Z"⟩, 27), (⟨"JudgedRowsModel", "leftOf", "()I"⟩, 27), (⟨"JudgedRowsModel", "layFit", "()V"⟩, 27), (⟨"JudgedRowsModel", "isFit", "(I)Z"⟩, 27)]
theorem lw_r2 : ∀ q ∈ lw_privs_2, lw_okq q := List.forall_mem_cons.mpr ⟨lw_p16, List.forall_mem_cons.mpr ⟨lw_p17, List.forall_mem_cons.mpr ⟨lw_p18, List.forall_mem_cons.mpr ⟨lw_p19, List.forall_mem_cons.mpr ⟨lw_p20, List.forall_mem_cons.mpr ⟨lw_p21, List.forall_mem_cons.mpr ⟨lw_p22, List.forall_mem_cons.mpr ⟨lw_p23, List.forall_mem_cons.mpr ⟨lw_p24, List.forall_mem_cons.mpr ⟨lw_p25, List.forall_mem_cons.mpr ⟨lw_p26, List.forall_mem_cons.mpr ⟨lw_p27, List.forall_mem_cons.mpr ⟨lw_p28, List.forall_mem_cons.mpr ⟨lw_p29, List.forall_mem_cons.mpr ⟨lw_p30, List.forall_mem_cons.mpr ⟨lw_p31, fun _ h => absurd h List.not_mem_nil⟩⟩⟩⟩⟩⟩⟩⟩⟩⟩⟩⟩⟩⟩⟩⟩
theorem lw_p32 : lw_okq (⟨"JudgedRowsModel", "fitMany", "()I"⟩, 27) := ⟨⟨by decide +kernel, by decide +kernel⟩, List.mem_of_getElem? (i := 719) (by decide +kernel), List.mem_of_getElem? (i := 895) (by decide +kernel), List.mem_of_getElem? (i := 896) (by decide +kernel)⟩
theorem lw_p33 : lw_okq (⟨"JudgedRowsModel", "fitsOf", "(I)I"⟩, 27) := ⟨⟨by decide +kernel, by decide +kernel⟩, List.mem_of_getElem? (i := 719) (by decide +kernel), List.mem_of_getElem? (i := 903) (by decide +kernel), List.mem_of_getElem? (i := 904) (by decide +kernel)⟩
theorem lw_p34 : lw_okq (⟨"JudgedRowsModel", "tellJudge", "(II)I"⟩, 27) := ⟨⟨by decide +kernel, by decide +kernel⟩, List.mem_of_getElem? (i := 719) (by decide +kernel), List.mem_of_getElem? (i := 911) (by decide +kernel), List.mem_of_getElem? (i := 912) (by decide +kernel)⟩
theorem lw_p35 : lw_okq (⟨"JudgedRowsModel", "toJudge", "(I)I"⟩, 27) := ⟨⟨by decide +kernel, by decide +kernel⟩, List.mem_of_getElem? (i := 719) (by decide +kernel), List.mem_of_getElem? (i := 915) (by decide +kernel), List.mem_of_getElem? (i := 916) (by decide +kernel)⟩
theorem lw_p36 : lw_okq (⟨"JudgedRowsModel", "sortsOf", "(I)I"⟩, 27) := ⟨⟨by decide +kernel, by decide +kernel⟩, List.mem_of_getElem? (i := 719) (by decide +kernel), List.mem_of_getElem? (i := 919) (by decide +kernel), List.mem_of_getElem? (i := 920) (by decide +kernel)⟩
theorem lw_p37 : lw_okq (⟨"JudgedRowsModel", "testOf", "(I)I"⟩, 27) := ⟨⟨by decide +kernel, by decide +kernel⟩, List.mem_of_getElem? (i := 719) (by decide +kernel), List.mem_of_getElem? (i := 923) (by decide +kernel), List.mem_of_getElem? (i := 924) (by decide +kernel)⟩
theorem lw_p38 : lw_okq (⟨"JudgedRowsModel", "twinsOf", "(I)I"⟩, 27) := ⟨⟨by decide +kernel, by decide +kernel⟩, List.mem_of_getElem? (i := 719) (by decide +kernel), List.mem_of_getElem? (i := 927) (by decide +kernel), List.mem_of_getElem? (i := 928) (by decide +kernel)⟩
theorem lw_p39 : lw_okq (⟨"JudgedRowsModel", "isTwin", "(III)Z"⟩, 27) := ⟨⟨by decide +kernel, by decide +kernel⟩, List.mem_of_getElem? (i := 719) (by decide +kernel), List.mem_of_getElem? (i := 931) (by decide +kernel), List.mem_of_getElem? (i := 932) (by decide +kernel)⟩
theorem lw_p40 : lw_okq (⟨"JudgedRowsModel", "tellRow", "(II)I"⟩, 27) := ⟨⟨by decide +kernel, by decide +kernel⟩, List.mem_of_getElem? (i := 719) (by decide +kernel), List.mem_of_getElem? (i := 944) (by decide +kernel), List.mem_of_getElem? (i := 945) (by decide +kernel)⟩
theorem lw_p41 : lw_okq (⟨"JudgedRowsModel", "keep", "(III)V"⟩, 27) := ⟨⟨by decide +kernel, by decide +kernel⟩, List.mem_of_getElem? (i := 719) (by decide +kernel), List.mem_of_getElem? (i := 957) (by decide +kernel), List.mem_of_getElem? (i := 958) (by decide +kernel)⟩
theorem lw_p42 : lw_okq (⟨"JudgedRowsModel", "bestBy", "(I)I"⟩, 27) := ⟨⟨by decide +kernel, by decide +kernel⟩, List.mem_of_getElem? (i := 719) (by decide +kernel), List.mem_of_getElem? (i := 986) (by decide +kernel), List.mem_of_getElem? (i := 987) (by decide +kernel)⟩
theorem lw_p43 : lw_okq (⟨"JudgedRowsModel", "laySizes", "(II)V"⟩, 27) := ⟨⟨by decide +kernel, by decide +kernel⟩, List.mem_of_getElem? (i := 719) (by decide +kernel), List.mem_of_getElem? (i := 990) (by decide +kernel), List.mem_of_getElem? (i := 991) (by decide +kernel)⟩
theorem lw_p44 : lw_okq (⟨"JudgedRowsModel", "greatest", "()I"⟩, 27) := ⟨⟨by decide +kernel, by decide +kernel⟩, List.mem_of_getElem? (i := 719) (by decide +kernel), List.mem_of_getElem? (i := 994) (by decide +kernel), List.mem_of_getElem? (i := 995) (by decide +kernel)⟩
theorem lw_p45 : lw_okq (⟨"JudgedRowsModel", "restOf", "(III)I"⟩, 27) := ⟨⟨by decide +kernel, by decide +kernel⟩, List.mem_of_getElem? (i := 719) (by decide +kernel), List.mem_of_getElem? (i := 1002) (by decide +kernel), List.mem_of_getElem? (i := 1003) (by decide +kernel)⟩
theorem lw_p46 : lw_okq (⟨"JudgedRowsModel", "longOf", "(II)I"⟩, 27) := ⟨⟨by decide +kernel, by decide +kernel⟩, List.mem_of_getElem? (i := 719) (by decide +kernel), List.mem_of_getElem? (i := 1010) (by decide +kernel), List.mem_of_getElem? (i := 1011) (by decide +kernel)⟩
theorem lw_p47 : lw_okq (⟨"JudgedRowsModel", "partsOf", "(II)I"⟩, 27) := ⟨⟨by decide +kernel, by decide +kernel⟩, List.mem_of_getElem? (i := 719) (by decide +kernel), List.mem_of_getElem? (i := 1018) (by decide +kernel), List.mem_of_getElem? (i := 1019) (by decide +kernel)⟩
def lw_privs_3 : List (MethodName × Nat) := [(⟨"JudgedRowsModel", "fitMany", "()I"⟩, 27), (⟨"JudgedRowsModel", "fitsOf", "(I)I"⟩, 27), (⟨"JudgedRowsModel", "tellJudge", "(II)I"⟩, 27), (⟨"JudgedRowsModel", "toJudge", "(I)I"⟩, 27), (⟨"JudgedRowsModel", "sortsOf", "(I)I"⟩, 27), (⟨"JudgedRowsModel", "testOf", "(I)I"⟩, 27), (⟨"JudgedRowsModel", "twinsOf", "(I)I"⟩, 27), (⟨"JudgedRowsModel", "isTwin", "(III)Z"⟩, 27), (⟨"JudgedRowsModel", "tellRow", "(II)I"⟩, 27), (⟨"JudgedRowsModel", "keep", "(III)V"⟩, 27), (⟨"JudgedRowsModel", "bestBy", "(I)I"⟩, 27), (⟨"JudgedRowsModel", "laySizes", "(II)V"⟩, 27), (⟨"JudgedRowsModel", "greatest", "()I"⟩, 27), (⟨"JudgedRowsModel", "restOf", "(III)I"⟩, 27), (⟨"JudgedRowsModel", "longOf", "(II)I"⟩, 27), (⟨"JudgedRowsModel", "partsOf", "(II)I"⟩, 27)]
theorem lw_r3 : ∀ q ∈ lw_privs_3, lw_okq q := List.forall_mem_cons.mpr ⟨lw_p32, List.forall_mem_cons.mpr ⟨lw_p33, List.forall_mem_cons.mpr ⟨lw_p34, List.forall_mem_cons.mpr ⟨lw_p35, List.forall_mem_cons.mpr ⟨lw_p36, List.forall_mem_cons.mpr ⟨lw_p37, List.forall_mem_cons.mpr ⟨lw_p38, List.forall_mem_cons.mpr ⟨lw_p39, List.forall_mem_cons.mpr ⟨lw_p40, List.forall_mem_cons.mpr ⟨lw_p41, List.forall_mem_cons.mpr ⟨lw_p42, List.forall_mem_cons.mpr ⟨lw_p43, List.forall_mem_cons.mpr ⟨lw_p44, List.forall_mem_cons.mpr ⟨lw_p45, List.forall_mem_cons.mpr ⟨lw_p46, List.forall_mem_cons.mpr ⟨lw_p47, fun _ h => absurd h List.not_mem_nil⟩⟩⟩⟩⟩⟩⟩⟩⟩⟩⟩⟩⟩⟩⟩⟩
theorem lw_p48 : lw_okq (⟨"JudgedRowsModel", "layTable", "(I)V"⟩, 27) := ⟨⟨by decide +kernel, by decide +kernel⟩, List.mem_of_getElem? (i := 719) (by decide +kernel), List.mem_of_getElem? (i := 1022) (by decide +kernel), List.mem_of_getElem? (i := 1023) (by decide +kernel)⟩
theorem lw_p49 : lw_okq (⟨"JudgedRowsModel", "apartMany", "()I"⟩, 27) := ⟨⟨by decide +kernel, by decide +kernel⟩, List.mem_of_getElem? (i := 719) (by decide +kernel), List.mem_of_getElem? (i := 1026) (by decide +kernel), List.mem_of_getElem? (i := 1027) (by decide +kernel)⟩
theorem lw_p50 : lw_okq (⟨"JudgedRowsModel", "isEnough", "(II)Z"⟩, 27) := ⟨⟨by decide +kernel, by decide +kernel⟩, List.mem_of_getElem? (i := 719) (by decide +kernel), List.mem_of_getElem? (i := 1030) (by decide +kernel), List.mem_of_getElem? (i := 1031) (by decide +kernel)⟩
theorem lw_p51 : lw_okq (⟨"JudgedRowsModel", "tryOne", "(I)I"⟩, 27) := ⟨⟨by decide +kernel, by decide +kernel⟩, List.mem_of_getElem? (i := 719) (by decide +kernel), List.mem_of_getElem? (i := 1039) (by decide +kernel), List.mem_of_getElem? (i := 1040) (by decide +kernel)⟩
theorem lw_p52 : lw_okq (⟨"JudgedRowsModel", "draw", "(I)I"⟩, 27) := ⟨⟨by decide +kernel, by decide +kernel⟩, List.mem_of_getElem? (i := 719) (by decide +kernel), List.mem_of_getElem? (i := 1043) (by decide +kernel), List.mem_of_getElem? (i := 1044) (by decide +kernel)⟩
theorem lw_p53 : lw_okq (⟨"JudgedRowsModel", "soManieth", "(I)I"⟩, 27) := ⟨⟨by decide +kernel, by decide +kernel⟩, List.mem_of_getElem? (i := 719) (by decide +kernel), List.mem_of_getElem? (i := 1051) (by decide +kernel), List.mem_of_getElem? (i := 1052) (by decide +kernel)⟩
theorem lw_p54 : lw_okq (⟨"JudgedRowsModel", "countOf", "(I)I"⟩, 27) := ⟨⟨by decide +kernel, by decide +kernel⟩, List.mem_of_getElem? (i := 719) (by decide +kernel), List.mem_of_getElem? (i := 1070) (by decide +kernel), List.mem_of_getElem? (i := 1071) (by decide +kernel)⟩
theorem lw_p55 : lw_okq (⟨"JudgedRowsModel", "say", "(J)V"⟩, 27) := ⟨⟨by decide +kernel, by decide +kernel⟩, List.mem_of_getElem? (i := 719) (by decide +kernel), List.mem_of_getElem? (i := 1079) (by decide +kernel), List.mem_of_getElem? (i := 1080) (by decide +kernel)⟩
def lw_privs_4 : List (MethodName × Nat) := [(⟨"JudgedRowsModel", "layTable", "(I)V"⟩, 27), (⟨"JudgedRowsModel", "apartMany", "()I"⟩, 27), (⟨"JudgedRowsModel", "isEnough", "(II)Z"⟩, 27), (⟨"JudgedRowsModel", "tryOne", "(I)I"⟩, 27), (⟨"JudgedRowsModel", "draw", "(I)I"⟩, 27), (⟨"JudgedRowsModel", "soManieth", "(I)I"⟩, 27), (⟨"JudgedRowsModel", "countOf", "(I)I"⟩, 27), (⟨"JudgedRowsModel", "say", "(J)V"⟩, 27)]
theorem lw_r4 : ∀ q ∈ lw_privs_4, lw_okq q := List.forall_mem_cons.mpr ⟨lw_p48, List.forall_mem_cons.mpr ⟨lw_p49, List.forall_mem_cons.mpr ⟨lw_p50, List.forall_mem_cons.mpr ⟨lw_p51, List.forall_mem_cons.mpr ⟨lw_p52, List.forall_mem_cons.mpr ⟨lw_p53, List.forall_mem_cons.mpr ⟨lw_p54, List.forall_mem_cons.mpr ⟨lw_p55, fun _ h => absurd h List.not_mem_nil⟩⟩⟩⟩⟩⟩⟩⟩
def lw_privs : List (MethodName × Nat) := lw_privs_1 ++ (lw_privs_2 ++ (lw_privs_3 ++ (lw_privs_4)))
def lw_tbl : List Cond := k2_sels lw_privs ++ tables_1
theorem lw_privs_ok : ∀ q ∈ lw_privs, lw_okq q := by
  show ∀ q ∈ lw_privs_1 ++ (lw_privs_2 ++ (lw_privs_3 ++ (lw_privs_4))), lw_okq q
  exact List.forall_mem_append.mpr ⟨lw_r1, List.forall_mem_append.mpr ⟨lw_r2, List.forall_mem_append.mpr ⟨lw_r3, lw_r4⟩⟩⟩
-- ===== end of PART A; then your names; then what follows =====
def RX0 : String := "JudgedRows$Course"
def TX0 : u_T := fun k => match k with
  | 0 => ("JudgedRows$Course", "kinds", "[I", true)
  | 1 => ("JudgedRows$Course", "rowOf", "[I", true)
  | 2 => ("JudgedRows$Course", "judgeOf", "[I", true)
  | 3 => ("JudgedRows$Course", "toldOf", "[I", true)
  | 4 => ("JudgedRows$Course", "hidden", "I", false)
  | _ => ("JudgedRows$Course", "size", "I", false)
def tyX0 : Nat → FieldType := fun k => match k with
  | 0 => .array .int
  | 1 => .array .int
  | 2 => .array .int
  | 3 => .array .int
  | 4 => .int
  | _ => .int
abbrev wsX00 : List Cond := u_ws RX0 TX0 6
theorem nmX0 : ∀ a, a < 6 → ∀ b, b < 6 → a ≠ b → (TX0 a).2.1 ≠ (TX0 b).2.1 := by decide +kernel
theorem tyX0_ok : ∀ k, k < 6 → parseFieldDescriptor (TX0 k).2.2.1 = some (tyX0 k) := by decide +kernel
abbrev cX0_init : ByteArray := prog_2_method_1_code
def yX0_init : MethodName := ⟨RX0, "<init>", "()V"⟩
abbrev cX0_append : ByteArray := prog_2_method_2_code
def yX0_append : MethodName := ⟨RX0, "append", "(III)V"⟩
abbrev cX0_shownTo : ByteArray := prog_2_method_3_code
def yX0_shownTo : MethodName := ⟨RX0, "shownTo", "(I)I"⟩
abbrev cX0_take : ByteArray := prog_2_method_4_code
def yX0_take : MethodName := ⟨RX0, "take", "(LJudgedRows$Course;)V"⟩
def RX1 : String := "JudgedRows$CurtJudge"
def TX1 : u_T := fun k => match k with
  | _ => ("", "", "", false)
def tyX1 : Nat → FieldType := fun k => match k with
  | _ => .int
abbrev wsX10 : List Cond := u_ws RX1 TX1 0
theorem nmX1 : ∀ a, a < 0 → ∀ b, b < 0 → a ≠ b → (TX1 a).2.1 ≠ (TX1 b).2.1 := by decide +kernel
theorem tyX1_ok : ∀ k, k < 0 → parseFieldDescriptor (TX1 k).2.2.1 = some (tyX1 k) := by decide +kernel
abbrev cX1_init : ByteArray := prog_3_method_1_code
def yX1_init : MethodName := ⟨RX1, "<init>", "()V"⟩
abbrev cX1_word : ByteArray := prog_3_method_2_code
def yX1_word : MethodName := ⟨RX1, "word", "(LJudgedRows$Rows;II)I"⟩
def RX2 : String := "JudgedRows$Judge"
def TX2 : u_T := fun k => match k with
  | _ => ("", "", "", false)
def tyX2 : Nat → FieldType := fun k => match k with
  | _ => .int
abbrev wsX20 : List Cond := u_ws RX2 TX2 0
theorem nmX2 : ∀ a, a < 0 → ∀ b, b < 0 → a ≠ b → (TX2 a).2.1 ≠ (TX2 b).2.1 := by decide +kernel
theorem tyX2_ok : ∀ k, k < 0 → parseFieldDescriptor (TX2 k).2.2.1 = some (tyX2 k) := by decide +kernel
abbrev cX2_init : ByteArray := prog_4_method_1_code
def yX2_init : MethodName := ⟨RX2, "<init>", "()V"⟩
abbrev cX2_word : ByteArray := prog_4_method_2_code
def yX2_word : MethodName := ⟨RX2, "word", "(LJudgedRows$Rows;II)I"⟩
abbrev cX2_plainWord : ByteArray := prog_4_method_3_code
def yX2_plainWord : MethodName := ⟨RX2, "plainWord", "(II)I"⟩
def RX3 : String := "JudgedRows$Page"
def TX3 : u_T := fun k => match k with
  | 0 => ("JudgedRows$Page", "codes", "[I", true)
  | _ => ("JudgedRows$Page", "size", "I", false)
def tyX3 : Nat → FieldType := fun k => match k with
  | 0 => .array .int
  | _ => .int
abbrev wsX30 : List Cond := u_ws RX3 TX3 2
theorem nmX3 : ∀ a, a < 2 → ∀ b, b < 2 → a ≠ b → (TX3 a).2.1 ≠ (TX3 b).2.1 := by decide +kernel
theorem tyX3_ok : ∀ k, k < 2 → parseFieldDescriptor (TX3 k).2.2.1 = some (tyX3 k) := by decide +kernel
abbrev cX3_init : ByteArray := prog_5_method_1_code
def yX3_init : MethodName := ⟨RX3, "<init>", "()V"⟩
abbrev cX3_append : ByteArray := prog_5_method_2_code
def yX3_append : MethodName := ⟨RX3, "append", "(I)V"⟩
abbrev cX3_firstFault : ByteArray := prog_5_method_3_code
def yX3_firstFault : MethodName := ⟨RX3, "firstFault", "()I"⟩
abbrev cX3_isGame : ByteArray := prog_5_method_4_code
def yX3_isGame : MethodName := ⟨RX3, "isGame", "()Z"⟩
abbrev cX3_mayStand : ByteArray := prog_5_method_5_code
def yX3_mayStand : MethodName := ⟨RX3, "mayStand", "(I)Z"⟩
abbrev cX3_kindsEnd : ByteArray := prog_5_method_6_code
def yX3_kindsEnd : MethodName := ⟨RX3, "kindsEnd", "(I)I"⟩
abbrev cX3_pegs : ByteArray := prog_5_method_7_code
def yX3_pegs : MethodName := ⟨RX3, "pegs", "()I"⟩
abbrev cX3_colours : ByteArray := prog_5_method_8_code
def yX3_colours : MethodName := ⟨RX3, "colours", "()I"⟩
abbrev cX3_judgesWritten : ByteArray := prog_5_method_9_code
def yX3_judgesWritten : MethodName := ⟨RX3, "judgesWritten", "()I"⟩
abbrev cX3_kindWritten : ByteArray := prog_5_method_10_code
def yX3_kindWritten : MethodName := ⟨RX3, "kindWritten", "(I)I"⟩
abbrev cX3_rowWritten : ByteArray := prog_5_method_11_code
def yX3_rowWritten : MethodName := ⟨RX3, "rowWritten", "()I"⟩
def RX4 : String := "JudgedRows$Parting"
def TX4 : u_T := fun k => match k with
  | 0 => ("JudgedRows$Parting", "rows", "LJudgedRows$Rows;", true)
  | 1 => ("JudgedRows$Parting", "marks", "[I", true)
  | 2 => ("JudgedRows$Parting", "trials", "I", false)
  | 3 => ("JudgedRows$Parting", "many", "I", false)
  | 4 => ("JudgedRows$Parting", "first", "I", false)
  | _ => ("JudgedRows$Parting", "second", "I", false)
def tyX4 : Nat → FieldType := fun k => match k with
  | 0 => .object "JudgedRows$Rows"
  | 1 => .array .int
  | 2 => .int
  | 3 => .int
  | 4 => .int
  | _ => .int
abbrev wsX40 : List Cond := u_ws RX4 TX4 6
theorem nmX4 : ∀ a, a < 6 → ∀ b, b < 6 → a ≠ b → (TX4 a).2.1 ≠ (TX4 b).2.1 := by decide +kernel
theorem tyX4_ok : ∀ k, k < 6 → parseFieldDescriptor (TX4 k).2.2.1 = some (tyX4 k) := by decide +kernel
abbrev cX4_init : ByteArray := prog_6_method_1_code
def yX4_init : MethodName := ⟨RX4, "<init>", "(LJudgedRows$Rows;)V"⟩
abbrev cX4_find : ByteArray := prog_6_method_2_code
def yX4_find : MethodName := ⟨RX4, "find", "(LJudgedRows$Judge;)V"⟩
abbrev cX4_answer : ByteArray := prog_6_method_3_code
def yX4_answer : MethodName := ⟨RX4, "answer", "(III)V"⟩
abbrev cX4_sortsOfRows : ByteArray := prog_6_method_4_code
def yX4_sortsOfRows : MethodName := ⟨RX4, "sortsOfRows", "(LJudgedRows$Judge;)I"⟩
abbrev cX4_partsBy : ByteArray := prog_6_method_5_code
def yX4_partsBy : MethodName := ⟨RX4, "partsBy", "(LJudgedRows$Judge;II)I"⟩
def RX5 : String := "JudgedRows$Pool"
def TX5 : u_T := fun k => match k with
  | 0 => ("JudgedRows$Pool", "rows", "LJudgedRows$Rows;", true)
  | 1 => ("JudgedRows$Pool", "members", "[I", true)
  | 2 => ("JudgedRows$Pool", "size", "I", false)
  | 3 => ("JudgedRows$Pool", "isMember", "[Z", true)
  | _ => ("JudgedRows$Pool", "often", "[I", true)
def tyX5 : Nat → FieldType := fun k => match k with
  | 0 => .object "JudgedRows$Rows"
  | 1 => .array .int
  | 2 => .int
  | 3 => .array .boolean
  | _ => .array .int
abbrev wsX50 : List Cond := u_ws RX5 TX5 5
theorem nmX5 : ∀ a, a < 5 → ∀ b, b < 5 → a ≠ b → (TX5 a).2.1 ≠ (TX5 b).2.1 := by decide +kernel
theorem tyX5_ok : ∀ k, k < 5 → parseFieldDescriptor (TX5 k).2.2.1 = some (tyX5 k) := by decide +kernel
abbrev cX5_init : ByteArray := prog_7_method_1_code
def yX5_init : MethodName := ⟨RX5, "<init>", "(LJudgedRows$Rows;)V"⟩
abbrev cX5_fill : ByteArray := prog_7_method_2_code
def yX5_fill : MethodName := ⟨RX5, "fill", "()V"⟩
abbrev cX5_keep : ByteArray := prog_7_method_3_code
def yX5_keep : MethodName := ⟨RX5, "keep", "(LJudgedRows$Judge;II)V"⟩
abbrev cX5_drop : ByteArray := prog_7_method_4_code
def yX5_drop : MethodName := ⟨RX5, "drop", "(I)V"⟩
abbrev cX5_bestRow : ByteArray := prog_7_method_5_code
def yX5_bestRow : MethodName := ⟨RX5, "bestRow", "(LJudgedRows$Judge;)I"⟩
abbrev cX5_worst : ByteArray := prog_7_method_6_code
def yX5_worst : MethodName := ⟨RX5, "worst", "(LJudgedRows$Judge;I)I"⟩
abbrev cX5_squares : ByteArray := prog_7_method_7_code
def yX5_squares : MethodName := ⟨RX5, "squares", "(LJudgedRows$Judge;I)I"⟩
abbrev cX5_tally : ByteArray := prog_7_method_8_code
def yX5_tally : MethodName := ⟨RX5, "tally", "(LJudgedRows$Judge;I)V"⟩
def RX6 : String := "JudgedRows$Rows"
def TX6 : u_T := fun k => match k with
  | 0 => ("JudgedRows$Rows", "pegs", "I", false)
  | 1 => ("JudgedRows$Rows", "colours", "I", false)
  | 2 => ("JudgedRows$Rows", "size", "I", false)
  | 3 => ("JudgedRows$Rows", "places", "[I", true)
  | 4 => ("JudgedRows$Rows", "placesFromOtherEnd", "[I", true)
  | _ => ("JudgedRows$Rows", "heaps", "[I", true)
def tyX6 : Nat → FieldType := fun k => match k with
  | 0 => .int
  | 1 => .int
  | 2 => .int
  | 3 => .array .int
  | 4 => .array .int
  | _ => .array .int
abbrev wsX60 : List Cond := u_ws RX6 TX6 6
theorem nmX6 : ∀ a, a < 6 → ∀ b, b < 6 → a ≠ b → (TX6 a).2.1 ≠ (TX6 b).2.1 := by decide +kernel
theorem tyX6_ok : ∀ k, k < 6 → parseFieldDescriptor (TX6 k).2.2.1 = some (tyX6 k) := by decide +kernel
abbrev cX6_init : ByteArray := prog_8_method_1_code
def yX6_init : MethodName := ⟨RX6, "<init>", "()V"⟩
abbrev cX6_lay : ByteArray := prog_8_method_2_code
def yX6_lay : MethodName := ⟨RX6, "lay", "(II)V"⟩
abbrev cX6_layRow : ByteArray := prog_8_method_3_code
def yX6_layRow : MethodName := ⟨RX6, "layRow", "(I)V"⟩
abbrev cX6_withOneMore : ByteArray := prog_8_method_4_code
def yX6_withOneMore : MethodName := ⟨RX6, "withOneMore", "(II)I"⟩
abbrev cX6_colour : ByteArray := prog_8_method_5_code
def yX6_colour : MethodName := ⟨RX6, "colour", "(II)I"⟩
abbrev cX6_right : ByteArray := prog_8_method_6_code
def yX6_right : MethodName := ⟨RX6, "right", "(II)I"⟩
abbrev cX6_rightFromOtherEnd : ByteArray := prog_8_method_7_code
def yX6_rightFromOtherEnd : MethodName := ⟨RX6, "rightFromOtherEnd", "(II)I"⟩
abbrev cX6_alike : ByteArray := prog_8_method_8_code
def yX6_alike : MethodName := ⟨RX6, "alike", "(II)I"⟩
abbrev cX6_twins : ByteArray := prog_8_method_9_code
def yX6_twins : MethodName := ⟨RX6, "twins", "(LJudgedRows$Judge;)I"⟩
abbrev cX6_areTwins : ByteArray := prog_8_method_10_code
def yX6_areTwins : MethodName := ⟨RX6, "areTwins", "(LJudgedRows$Judge;II)Z"⟩
def RX7 : String := "JudgedRows$ShortJudge"
def TX7 : u_T := fun k => match k with
  | _ => ("", "", "", false)
def tyX7 : Nat → FieldType := fun k => match k with
  | _ => .int
abbrev wsX70 : List Cond := u_ws RX7 TX7 0
theorem nmX7 : ∀ a, a < 0 → ∀ b, b < 0 → a ≠ b → (TX7 a).2.1 ≠ (TX7 b).2.1 := by decide +kernel
theorem tyX7_ok : ∀ k, k < 0 → parseFieldDescriptor (TX7 k).2.2.1 = some (tyX7 k) := by decide +kernel
abbrev cX7_init : ByteArray := prog_9_method_1_code
def yX7_init : MethodName := ⟨RX7, "<init>", "()V"⟩
abbrev cX7_word : ByteArray := prog_9_method_2_code
def yX7_word : MethodName := ⟨RX7, "word", "(LJudgedRows$Rows;II)I"⟩
def RX8 : String := "JudgedRows$SternJudge"
def TX8 : u_T := fun k => match k with
  | _ => ("", "", "", false)
def tyX8 : Nat → FieldType := fun k => match k with
  | _ => .int
abbrev wsX80 : List Cond := u_ws RX8 TX8 0
theorem nmX8 : ∀ a, a < 0 → ∀ b, b < 0 → a ≠ b → (TX8 a).2.1 ≠ (TX8 b).2.1 := by decide +kernel
theorem tyX8_ok : ∀ k, k < 0 → parseFieldDescriptor (TX8 k).2.2.1 = some (tyX8 k) := by decide +kernel
abbrev cX8_init : ByteArray := prog_10_method_1_code
def yX8_init : MethodName := ⟨RX8, "<init>", "()V"⟩
abbrev cX8_word : ByteArray := prog_10_method_2_code
def yX8_word : MethodName := ⟨RX8, "word", "(LJudgedRows$Rows;II)I"⟩
def RX9 : String := "JudgedRows$Tries"
def TX9 : u_T := fun k => match k with
  | 0 => ("JudgedRows$Tries", "rows", "LJudgedRows$Rows;", true)
  | 1 => ("JudgedRows$Tries", "pool", "LJudgedRows$Pool;", true)
  | 2 => ("JudgedRows$Tries", "shown", "I", false)
  | 3 => ("JudgedRows$Tries", "quick", "I", false)
  | _ => ("JudgedRows$Tries", "seed", "I", false)
def tyX9 : Nat → FieldType := fun k => match k with
  | 0 => .object "JudgedRows$Rows"
  | 1 => .object "JudgedRows$Pool"
  | 2 => .int
  | 3 => .int
  | _ => .int
abbrev wsX90 : List Cond := u_ws RX9 TX9 5
theorem nmX9 : ∀ a, a < 5 → ∀ b, b < 5 → a ≠ b → (TX9 a).2.1 ≠ (TX9 b).2.1 := by decide +kernel
theorem tyX9_ok : ∀ k, k < 5 → parseFieldDescriptor (TX9 k).2.2.1 = some (tyX9 k) := by decide +kernel
abbrev cX9_init : ByteArray := prog_11_method_1_code
def yX9_init : MethodName := ⟨RX9, "<init>", "(LJudgedRows$Rows;LJudgedRows$Pool;)V"⟩
abbrev cX9_play : ByteArray := prog_11_method_2_code
def yX9_play : MethodName := ⟨RX9, "play", "(LJudgedRows$Judge;II)V"⟩
abbrev cX9_playOne : ByteArray := prog_11_method_3_code
def yX9_playOne : MethodName := ⟨RX9, "playOne", "(LJudgedRows$Judge;)I"⟩
abbrev cX9_draw : ByteArray := prog_11_method_4_code
def yX9_draw : MethodName := ⟨RX9, "draw", "(I)I"⟩
def RX10 : String := "JudgedRows$WrongJudge"
def TX10 : u_T := fun k => match k with
  | _ => ("", "", "", false)
def tyX10 : Nat → FieldType := fun k => match k with
  | _ => .int
abbrev wsX100 : List Cond := u_ws RX10 TX10 0
theorem nmX10 : ∀ a, a < 0 → ∀ b, b < 0 → a ≠ b → (TX10 a).2.1 ≠ (TX10 b).2.1 := by decide +kernel
theorem tyX10_ok : ∀ k, k < 0 → parseFieldDescriptor (TX10 k).2.2.1 = some (tyX10 k) := by decide +kernel
abbrev cX10_init : ByteArray := prog_12_method_1_code
def yX10_init : MethodName := ⟨RX10, "<init>", "()V"⟩
abbrev cX10_word : ByteArray := prog_12_method_2_code
def yX10_word : MethodName := ⟨RX10, "word", "(LJudgedRows$Rows;II)I"⟩
def RX11 : String := "JudgedRows"
def TX11 : u_T := fun k => match k with
  | 0 => ("JudgedRows", "page", "LJudgedRows$Page;", true)
  | 1 => ("JudgedRows", "kinds", "[LJudgedRows$Judge;", true)
  | 2 => ("JudgedRows", "words", "[I", true)
  | 3 => ("JudgedRows", "now", "LJudgedRows$Course;", true)
  | 4 => ("JudgedRows", "kept", "LJudgedRows$Course;", true)
  | 5 => ("JudgedRows", "rows", "LJudgedRows$Rows;", true)
  | 6 => ("JudgedRows", "pool", "LJudgedRows$Pool;", true)
  | 7 => ("JudgedRows", "parting", "LJudgedRows$Parting;", true)
  | 8 => ("JudgedRows", "trial", "LJudgedRows$Tries;", true)
  | 9 => ("JudgedRows", "judges", "I", false)
  | 10 => ("JudgedRows", "imageStands", "Z", false)
  | 11 => ("JudgedRows", "gamesRead", "I", false)
  | 12 => ("JudgedRows", "bestDone", "I", false)
  | 13 => ("JudgedRows", "longDone", "I", false)
  | _ => ("JudgedRows", "partsDone", "I", false)
def tyX11 : Nat → FieldType := fun k => match k with
  | 0 => .object "JudgedRows$Page"
  | 1 => .array (.object "JudgedRows$Judge")
  | 2 => .array .int
  | 3 => .object "JudgedRows$Course"
  | 4 => .object "JudgedRows$Course"
  | 5 => .object "JudgedRows$Rows"
  | 6 => .object "JudgedRows$Pool"
  | 7 => .object "JudgedRows$Parting"
  | 8 => .object "JudgedRows$Tries"
  | 9 => .int
  | 10 => .boolean
  | 11 => .int
  | 12 => .int
  | 13 => .int
  | _ => .int
abbrev wsX110 : List Cond := u_ws RX11 TX11 15
theorem nmX11 : ∀ a, a < 15 → ∀ b, b < 15 → a ≠ b → (TX11 a).2.1 ≠ (TX11 b).2.1 := by decide +kernel
theorem tyX11_ok : ∀ k, k < 15 → parseFieldDescriptor (TX11 k).2.2.1 = some (tyX11 k) := by decide +kernel
abbrev cX11_init : ByteArray := prog_1_method_1_code
def yX11_init : MethodName := ⟨RX11, "<init>", "()V"⟩
abbrev cX11_letter : ByteArray := prog_1_method_2_code
def yX11_letter : MethodName := ⟨RX11, "letter", "(I)I"⟩
abbrev cX11_blank : ByteArray := prog_1_method_3_code
def yX11_blank : MethodName := ⟨RX11, "blank", "()I"⟩
abbrev cX11_fault : ByteArray := prog_1_method_4_code
def yX11_fault : MethodName := ⟨RX11, "fault", "()I"⟩
abbrev cX11_game : ByteArray := prog_1_method_5_code
def yX11_game : MethodName := ⟨RX11, "game", "()I"⟩
abbrev cX11_judge : ByteArray := prog_1_method_6_code
def yX11_judge : MethodName := ⟨RX11, "judge", "(II)I"⟩
abbrev cX11_as : ByteArray := prog_1_method_7_code
def yX11_as : MethodName := ⟨RX11, "as", "(II)I"⟩
abbrev cX11_row : ByteArray := prog_1_method_8_code
def yX11_row : MethodName := ⟨RX11, "row", "(II)I"⟩
abbrev cX11_tells : ByteArray := prog_1_method_9_code
def yX11_tells : MethodName := ⟨RX11, "tells", "(III)I"⟩
abbrev cX11_seen : ByteArray := prog_1_method_10_code
def yX11_seen : MethodName := ⟨RX11, "seen", "(II)I"⟩
abbrev cX11_show : ByteArray := prog_1_method_11_code
def yX11_show : MethodName := ⟨RX11, "show", "(II)I"⟩
abbrev cX11_note : ByteArray := prog_1_method_12_code
def yX11_note : MethodName := ⟨RX11, "note", "(III)I"⟩
abbrev cX11_strike : ByteArray := prog_1_method_13_code
def yX11_strike : MethodName := ⟨RX11, "strike", "()I"⟩
abbrev cX11_forget : ByteArray := prog_1_method_14_code
def yX11_forget : MethodName := ⟨RX11, "forget", "()I"⟩
abbrev cX11_hide : ByteArray := prog_1_method_15_code
def yX11_hide : MethodName := ⟨RX11, "hide", "(I)I"⟩
abbrev cX11_swap : ByteArray := prog_1_method_16_code
def yX11_swap : MethodName := ⟨RX11, "swap", "(II)I"⟩
abbrev cX11_left : ByteArray := prog_1_method_17_code
def yX11_left : MethodName := ⟨RX11, "left", "()I"⟩
abbrev cX11_fits : ByteArray := prog_1_method_18_code
def yX11_fits : MethodName := ⟨RX11, "fits", "(I)I"⟩
abbrev cX11_best : ByteArray := prog_1_method_19_code
def yX11_best : MethodName := ⟨RX11, "best", "(II)I"⟩
abbrev cX11_rest : ByteArray := prog_1_method_20_code
def yX11_rest : MethodName := ⟨RX11, "rest", "(III)I"⟩
abbrev cX11_howLong : ByteArray := prog_1_method_21_code
def yX11_howLong : MethodName := ⟨RX11, "howLong", "(II)I"⟩
abbrev cX11_parts : ByteArray := prog_1_method_22_code
def yX11_parts : MethodName := ⟨RX11, "parts", "(II)I"⟩
abbrev cX11_tries : ByteArray := prog_1_method_23_code
def yX11_tries : MethodName := ⟨RX11, "tries", "(IIII)I"⟩
abbrev cX11_image : ByteArray := prog_1_method_24_code
def yX11_image : MethodName := ⟨RX11, "image", "()I"⟩
abbrev cX11_restore : ByteArray := prog_1_method_25_code
def yX11_restore : MethodName := ⟨RX11, "restore", "()I"⟩
abbrev cX11_count : ByteArray := prog_1_method_26_code
def yX11_count : MethodName := ⟨RX11, "count", "(I)I"⟩
abbrev cX11_digest : ByteArray := prog_1_method_27_code
def yX11_digest : MethodName := ⟨RX11, "digest", "()J"⟩
abbrev cX11_with : ByteArray := prog_1_method_28_code
def yX11_with : MethodName := ⟨RX11, "with", "(JI)J"⟩
abbrev cX11_isGameOn : ByteArray := prog_1_method_29_code
def yX11_isGameOn : MethodName := ⟨RX11, "isGameOn", "()Z"⟩
abbrev cX11_isJudge : ByteArray := prog_1_method_30_code
def yX11_isJudge : MethodName := ⟨RX11, "isJudge", "(I)Z"⟩
abbrev cX11_isRow : ByteArray := prog_1_method_31_code
def yX11_isRow : MethodName := ⟨RX11, "isRow", "(I)Z"⟩
abbrev cX11_isKind : ByteArray := prog_1_method_32_code
def yX11_isKind : MethodName := ⟨RX11, "isKind", "(I)Z"⟩
abbrev cX11_judgeAt : ByteArray := prog_1_method_33_code
def yX11_judgeAt : MethodName := ⟨RX11, "judgeAt", "(I)LJudgedRows$Judge;"⟩
abbrev cX11_isOf : ByteArray := prog_1_method_34_code
def yX11_isOf : MethodName := ⟨RX11, "isOf", "(LJudgedRows$Judge;I)Z"⟩
abbrev cX11_fitting : ByteArray := prog_1_method_35_code
def yX11_fitting : MethodName := ⟨RX11, "fitting", "(I)Z"⟩
abbrev cX11_gatherFitting : ByteArray := prog_1_method_36_code
def yX11_gatherFitting : MethodName := ⟨RX11, "gatherFitting", "()I"⟩
abbrev cX11_sorts : ByteArray := prog_1_method_37_code
def yX11_sorts : MethodName := ⟨RX11, "sorts", "(I)I"⟩
abbrev cX11_couldBe : ByteArray := prog_1_method_38_code
def yX11_couldBe : MethodName := ⟨RX11, "couldBe", "(ILJudgedRows$Judge;)Z"⟩
abbrev cX11_testFor : ByteArray := prog_1_method_39_code
def yX11_testFor : MethodName := ⟨RX11, "testFor", "(I)I"⟩
abbrev cX11_worstSorts : ByteArray := prog_1_method_40_code
def yX11_worstSorts : MethodName := ⟨RX11, "worstSorts", "(II)I"⟩
abbrev cX11_commonDivisor : ByteArray := prog_1_method_41_code
def yX11_commonDivisor : MethodName := ⟨RX11, "commonDivisor", "(II)I"⟩
def RX12 : String := "JudgedRowsModel"
def TX12 : u_T := fun k => match k with
  | 0 => ("JudgedRowsModel", "page", "[I", true)
  | 1 => ("JudgedRowsModel", "pageMany", "I", false)
  | 2 => ("JudgedRowsModel", "end", "I", false)
  | 3 => ("JudgedRowsModel", "pegs", "I", false)
  | 4 => ("JudgedRowsModel", "colours", "I", false)
  | 5 => ("JudgedRowsModel", "rows", "I", false)
  | 6 => ("JudgedRowsModel", "judges", "I", false)
  | 7 => ("JudgedRowsModel", "hidden", "I", false)
  | 8 => ("JudgedRowsModel", "shownMany", "I", false)
  | 9 => ("JudgedRowsModel", "gamesRead", "I", false)
  | 10 => ("JudgedRowsModel", "kinds", "[I", true)
  | 11 => ("JudgedRowsModel", "shown", "[I", true)
  | 12 => ("JudgedRowsModel", "fit", "[I", true)
  | 13 => ("JudgedRowsModel", "sizes", "[I", true)
  | 14 => ("JudgedRowsModel", "leastWorst", "I", false)
  | 15 => ("JudgedRowsModel", "bestDone", "I", false)
  | 16 => ("JudgedRowsModel", "longDone", "I", false)
  | 17 => ("JudgedRowsModel", "partsDone", "I", false)
  | 18 => ("JudgedRowsModel", "table", "[I", true)
  | 19 => ("JudgedRowsModel", "apart", "[I", true)
  | 20 => ("JudgedRowsModel", "seedNow", "I", false)
  | 21 => ("JudgedRowsModel", "keptGame", "I", false)
  | 22 => ("JudgedRowsModel", "keptHidden", "I", false)
  | 23 => ("JudgedRowsModel", "keptMany", "I", false)
  | 24 => ("JudgedRowsModel", "keptKinds", "[I", true)
  | 25 => ("JudgedRowsModel", "keptShown", "[I", true)
  | _ => ("JudgedRowsModel", "hash", "J", false)
def tyX12 : Nat → FieldType := fun k => match k with
  | 0 => .array .int
  | 1 => .int
  | 2 => .int
  | 3 => .int
  | 4 => .int
  | 5 => .int
  | 6 => .int
  | 7 => .int
  | 8 => .int
  | 9 => .int
  | 10 => .array .int
  | 11 => .array .int
  | 12 => .array .int
  | 13 => .array .int
  | 14 => .int
  | 15 => .int
  | 16 => .int
  | 17 => .int
  | 18 => .array .int
  | 19 => .array .int
  | 20 => .int
  | 21 => .int
  | 22 => .int
  | 23 => .int
  | 24 => .array .int
  | 25 => .array .int
  | _ => .long
abbrev wsX120 : List Cond := u_ws RX12 TX12 27
theorem nmX12 : ∀ a, a < 27 → ∀ b, b < 27 → a ≠ b → (TX12 a).2.1 ≠ (TX12 b).2.1 := by decide +kernel
theorem tyX12_ok : ∀ k, k < 27 → parseFieldDescriptor (TX12 k).2.2.1 = some (tyX12 k) := by decide +kernel
abbrev cX12_init : ByteArray := prog_14_method_1_code
def yX12_init : MethodName := ⟨RX12, "<init>", "()V"⟩
abbrev cX12_in : ByteArray := prog_14_method_2_code
def yX12_in : MethodName := ⟨RX12, "in", "(JJJ)Z"⟩
abbrev cX12_copy : ByteArray := prog_14_method_3_code
def yX12_copy : MethodName := ⟨RX12, "copy", "([I[I)V"⟩
abbrev cX12_letter : ByteArray := prog_14_method_4_code
def yX12_letter : MethodName := ⟨RX12, "letter", "(I)I"⟩
abbrev cX12_blank : ByteArray := prog_14_method_5_code
def yX12_blank : MethodName := ⟨RX12, "blank", "()I"⟩
abbrev cX12_kindBy : ByteArray := prog_14_method_6_code
def yX12_kindBy : MethodName := ⟨RX12, "kindBy", "(I)I"⟩
abbrev cX12_isJudgeLetter : ByteArray := prog_14_method_7_code
def yX12_isJudgeLetter : MethodName := ⟨RX12, "isJudgeLetter", "(I)Z"⟩
abbrev cX12_isGood : ByteArray := prog_14_method_8_code
def yX12_isGood : MethodName := ⟨RX12, "isGood", "(I)Z"⟩
abbrev cX12_faultOf : ByteArray := prog_14_method_9_code
def yX12_faultOf : MethodName := ⟨RX12, "faultOf", "()I"⟩
abbrev cX12_fault : ByteArray := prog_14_method_10_code
def yX12_fault : MethodName := ⟨RX12, "fault", "()I"⟩
abbrev cX12_game : ByteArray := prog_14_method_11_code
def yX12_game : MethodName := ⟨RX12, "game", "()I"⟩
abbrev cX12_lacks : ByteArray := prog_14_method_12_code
def yX12_lacks : MethodName := ⟨RX12, "lacks", "()Z"⟩
abbrev cX12_isRow : ByteArray := prog_14_method_13_code
def yX12_isRow : MethodName := ⟨RX12, "isRow", "(I)Z"⟩
abbrev cX12_isJudge : ByteArray := prog_14_method_14_code
def yX12_isJudge : MethodName := ⟨RX12, "isJudge", "(I)Z"⟩
abbrev cX12_peg : ByteArray := prog_14_method_15_code
def yX12_peg : MethodName := ⟨RX12, "peg", "(II)I"⟩
abbrev cX12_right : ByteArray := prog_14_method_16_code
def yX12_right : MethodName := ⟨RX12, "right", "(IIZ)I"⟩
abbrev cX12_alike : ByteArray := prog_14_method_17_code
def yX12_alike : MethodName := ⟨RX12, "alike", "(II)I"⟩
abbrev cX12_tellsBy : ByteArray := prog_14_method_18_code
def yX12_tellsBy : MethodName := ⟨RX12, "tellsBy", "(III)I"⟩
abbrev cX12_tells : ByteArray := prog_14_method_19_code
def yX12_tells : MethodName := ⟨RX12, "tells", "(III)I"⟩
abbrev cX12_isFit : ByteArray := prog_14_method_20_code
def yX12_isFit : MethodName := ⟨RX12, "isFit", "(I)Z"⟩
abbrev cX12_layFit : ByteArray := prog_14_method_21_code
def yX12_layFit : MethodName := ⟨RX12, "layFit", "()V"⟩
abbrev cX12_fitMany : ByteArray := prog_14_method_22_code
def yX12_fitMany : MethodName := ⟨RX12, "fitMany", "()I"⟩
abbrev cX12_leftOf : ByteArray := prog_14_method_23_code
def yX12_leftOf : MethodName := ⟨RX12, "leftOf", "()I"⟩
abbrev cX12_left : ByteArray := prog_14_method_24_code
def yX12_left : MethodName := ⟨RX12, "left", "()I"⟩
abbrev cX12_fitsOf : ByteArray := prog_14_method_25_code
def yX12_fitsOf : MethodName := ⟨RX12, "fitsOf", "(I)I"⟩
abbrev cX12_fits : ByteArray := prog_14_method_26_code
def yX12_fits : MethodName := ⟨RX12, "fits", "(I)I"⟩
abbrev cX12_toJudge : ByteArray := prog_14_method_27_code
def yX12_toJudge : MethodName := ⟨RX12, "toJudge", "(I)I"⟩
abbrev cX12_tellJudge : ByteArray := prog_14_method_28_code
def yX12_tellJudge : MethodName := ⟨RX12, "tellJudge", "(II)I"⟩
abbrev cX12_judge : ByteArray := prog_14_method_29_code
def yX12_judge : MethodName := ⟨RX12, "judge", "(II)I"⟩
abbrev cX12_as : ByteArray := prog_14_method_30_code
def yX12_as : MethodName := ⟨RX12, "as", "(II)I"⟩
abbrev cX12_tellRow : ByteArray := prog_14_method_31_code
def yX12_tellRow : MethodName := ⟨RX12, "tellRow", "(II)I"⟩
abbrev cX12_row : ByteArray := prog_14_method_32_code
def yX12_row : MethodName := ⟨RX12, "row", "(II)I"⟩
abbrev cX12_seen : ByteArray := prog_14_method_33_code
def yX12_seen : MethodName := ⟨RX12, "seen", "(II)I"⟩
abbrev cX12_keep : ByteArray := prog_14_method_34_code
def yX12_keep : MethodName := ⟨RX12, "keep", "(III)V"⟩
abbrev cX12_show : ByteArray := prog_14_method_35_code
def yX12_show : MethodName := ⟨RX12, "show", "(II)I"⟩
abbrev cX12_note : ByteArray := prog_14_method_36_code
def yX12_note : MethodName := ⟨RX12, "note", "(III)I"⟩
abbrev cX12_strike : ByteArray := prog_14_method_37_code
def yX12_strike : MethodName := ⟨RX12, "strike", "()I"⟩
abbrev cX12_forget : ByteArray := prog_14_method_38_code
def yX12_forget : MethodName := ⟨RX12, "forget", "()I"⟩
abbrev cX12_hide : ByteArray := prog_14_method_39_code
def yX12_hide : MethodName := ⟨RX12, "hide", "(I)I"⟩
abbrev cX12_swap : ByteArray := prog_14_method_40_code
def yX12_swap : MethodName := ⟨RX12, "swap", "(II)I"⟩
abbrev cX12_laySizes : ByteArray := prog_14_method_41_code
def yX12_laySizes : MethodName := ⟨RX12, "laySizes", "(II)V"⟩
abbrev cX12_greatest : ByteArray := prog_14_method_42_code
def yX12_greatest : MethodName := ⟨RX12, "greatest", "()I"⟩
abbrev cX12_bestBy : ByteArray := prog_14_method_43_code
def yX12_bestBy : MethodName := ⟨RX12, "bestBy", "(I)I"⟩
abbrev cX12_best : ByteArray := prog_14_method_44_code
def yX12_best : MethodName := ⟨RX12, "best", "(II)I"⟩
abbrev cX12_restOf : ByteArray := prog_14_method_45_code
def yX12_restOf : MethodName := ⟨RX12, "restOf", "(III)I"⟩
abbrev cX12_rest : ByteArray := prog_14_method_46_code
def yX12_rest : MethodName := ⟨RX12, "rest", "(III)I"⟩
abbrev cX12_longOf : ByteArray := prog_14_method_47_code
def yX12_longOf : MethodName := ⟨RX12, "longOf", "(II)I"⟩
abbrev cX12_howLong : ByteArray := prog_14_method_48_code
def yX12_howLong : MethodName := ⟨RX12, "howLong", "(II)I"⟩
abbrev cX12_isTwin : ByteArray := prog_14_method_49_code
def yX12_isTwin : MethodName := ⟨RX12, "isTwin", "(III)Z"⟩
abbrev cX12_twinsOf : ByteArray := prog_14_method_50_code
def yX12_twinsOf : MethodName := ⟨RX12, "twinsOf", "(I)I"⟩
abbrev cX12_layTable : ByteArray := prog_14_method_51_code
def yX12_layTable : MethodName := ⟨RX12, "layTable", "(I)V"⟩
abbrev cX12_isEnough : ByteArray := prog_14_method_52_code
def yX12_isEnough : MethodName := ⟨RX12, "isEnough", "(II)Z"⟩
abbrev cX12_apartMany : ByteArray := prog_14_method_53_code
def yX12_apartMany : MethodName := ⟨RX12, "apartMany", "()I"⟩
abbrev cX12_partsOf : ByteArray := prog_14_method_54_code
def yX12_partsOf : MethodName := ⟨RX12, "partsOf", "(II)I"⟩
abbrev cX12_parts : ByteArray := prog_14_method_55_code
def yX12_parts : MethodName := ⟨RX12, "parts", "(II)I"⟩
abbrev cX12_sortsOf : ByteArray := prog_14_method_56_code
def yX12_sortsOf : MethodName := ⟨RX12, "sortsOf", "(I)I"⟩
abbrev cX12_testOf : ByteArray := prog_14_method_57_code
def yX12_testOf : MethodName := ⟨RX12, "testOf", "(I)I"⟩
abbrev cX12_draw : ByteArray := prog_14_method_58_code
def yX12_draw : MethodName := ⟨RX12, "draw", "(I)I"⟩
abbrev cX12_soManieth : ByteArray := prog_14_method_59_code
def yX12_soManieth : MethodName := ⟨RX12, "soManieth", "(I)I"⟩
abbrev cX12_tryOne : ByteArray := prog_14_method_60_code
def yX12_tryOne : MethodName := ⟨RX12, "tryOne", "(I)I"⟩
abbrev cX12_tries : ByteArray := prog_14_method_61_code
def yX12_tries : MethodName := ⟨RX12, "tries", "(IIII)I"⟩
abbrev cX12_image : ByteArray := prog_14_method_62_code
def yX12_image : MethodName := ⟨RX12, "image", "()I"⟩
abbrev cX12_restore : ByteArray := prog_14_method_63_code
def yX12_restore : MethodName := ⟨RX12, "restore", "()I"⟩
abbrev cX12_countOf : ByteArray := prog_14_method_64_code
def yX12_countOf : MethodName := ⟨RX12, "countOf", "(I)I"⟩
abbrev cX12_count : ByteArray := prog_14_method_65_code
def yX12_count : MethodName := ⟨RX12, "count", "(I)I"⟩
abbrev cX12_say : ByteArray := prog_14_method_66_code
def yX12_say : MethodName := ⟨RX12, "say", "(J)V"⟩
abbrev cX12_digest : ByteArray := prog_14_method_67_code
def yX12_digest : MethodName := ⟨RX12, "digest", "()J"⟩
def RJ11 : String := "java/lang/Character"
def TJ11 : u_T := fun k => match k with
  | _ => ("", "", "", false)
def tyJ11 : Nat → FieldType := fun k => match k with
  | _ => .int
abbrev wsJ110 : List Cond := u_ws RJ11 TJ11 0
theorem nmJ11 : ∀ a, a < 0 → ∀ b, b < 0 → a ≠ b → (TJ11 a).2.1 ≠ (TJ11 b).2.1 := by decide +kernel
theorem tyJ11_ok : ∀ k, k < 0 → parseFieldDescriptor (TJ11 k).2.2.1 = some (tyJ11 k) := by decide +kernel
abbrev cJ11_isValidCodePoint_9a6ad : ByteArray := prog_15_method_11_code
def yJ11_isValidCodePoint_9a6ad : MethodName := ⟨RJ11, "isValidCodePoint", "(I)Z"⟩
abbrev cJ11_highSurrogate_5068e : ByteArray := prog_15_method_28_code
def yJ11_highSurrogate_5068e : MethodName := ⟨RJ11, "highSurrogate", "(I)C"⟩
abbrev cJ11_lowSurrogate_5068e : ByteArray := prog_15_method_29_code
def yJ11_lowSurrogate_5068e : MethodName := ⟨RJ11, "lowSurrogate", "(I)C"⟩
def RJ6 : String := "java/lang/Integer"
def TJ6 : u_T := fun k => match k with
  | _ => ("", "", "", false)
def tyJ6 : Nat → FieldType := fun k => match k with
  | _ => .int
abbrev wsJ60 : List Cond := u_ws RJ6 TJ6 0
theorem nmJ6 : ∀ a, a < 0 → ∀ b, b < 0 → a ≠ b → (TJ6 a).2.1 ≠ (TJ6 b).2.1 := by decide +kernel
theorem tyJ6_ok : ∀ k, k < 0 → parseFieldDescriptor (TJ6 k).2.2.1 = some (tyJ6 k) := by decide +kernel
abbrev cJ6_bitCount_0f7a4 : ByteArray := prog_16_method_49_code
def yJ6_bitCount_0f7a4 : MethodName := ⟨RJ6, "bitCount", "(I)I"⟩
def RJ9 : String := "java/lang/Math"
def TJ9 : u_T := fun k => match k with
  | _ => ("", "", "", false)
def tyJ9 : Nat → FieldType := fun k => match k with
  | _ => .int
abbrev wsJ90 : List Cond := u_ws RJ9 TJ9 0
theorem nmJ9 : ∀ a, a < 0 → ∀ b, b < 0 → a ≠ b → (TJ9 a).2.1 ≠ (TJ9 b).2.1 := by decide +kernel
theorem tyJ9_ok : ∀ k, k < 0 → parseFieldDescriptor (TJ9 k).2.2.1 = some (tyJ9 k) := by decide +kernel
abbrev cJ9_max_7cf53 : ByteArray := prog_17_method_65_code
def yJ9_max_7cf53 : MethodName := ⟨RJ9, "max", "(II)I"⟩
abbrev cJ9_min_7cf53 : ByteArray := prog_17_method_69_code
def yJ9_min_7cf53 : MethodName := ⟨RJ9, "min", "(II)I"⟩
def RJ0 : String := "java/lang/String"
def TJ0 : u_T := fun k => match k with
  | _ => ("", "", "", false)
def tyJ0 : Nat → FieldType := fun k => match k with
  | _ => .int
abbrev wsJ00 : List Cond := u_ws RJ0 TJ0 0
theorem nmJ0 : ∀ a, a < 0 → ∀ b, b < 0 → a ≠ b → (TJ0 a).2.1 ≠ (TJ0 b).2.1 := by decide +kernel
theorem tyJ0_ok : ∀ k, k < 0 → parseFieldDescriptor (TJ0 k).2.2.1 = some (tyJ0 k) := by decide +kernel
abbrev cJ0_length_8abf5 : ByteArray := prog_18_method_54_code
def yJ0_length_8abf5 : MethodName := ⟨RJ0, "length", "()I"⟩
abbrev cJ0_indexOf_0f7a4 : ByteArray := prog_18_method_79_code
def yJ0_indexOf_0f7a4 : MethodName := ⟨RJ0, "indexOf", "(I)I"⟩
abbrev cJ0_indexOf_7cf53 : ByteArray := prog_18_method_80_code
def yJ0_indexOf_7cf53 : MethodName := ⟨RJ0, "indexOf", "(II)I"⟩
abbrev cJ0_coder_7d493 : ByteArray := prog_18_method_152_code
def yJ0_coder_7d493 : MethodName := ⟨RJ0, "coder", "()B"⟩
abbrev cJ0_isLatin1_aae02 : ByteArray := prog_18_method_154_code
def yJ0_isLatin1_aae02 : MethodName := ⟨RJ0, "isLatin1", "()Z"⟩
abbrev cJ0_checkBoundsBeginEnd_23922 : ByteArray := prog_18_method_158_code
def yJ0_checkBoundsBeginEnd_23922 : MethodName := ⟨RJ0, "checkBoundsBeginEnd", "(III)V"⟩
def RJ1 : String := "java/lang/StringLatin1"
def TJ1 : u_T := fun k => match k with
  | _ => ("", "", "", false)
def tyJ1 : Nat → FieldType := fun k => match k with
  | _ => .int
abbrev wsJ10 : List Cond := u_ws RJ1 TJ1 0
theorem nmJ1 : ∀ a, a < 0 → ∀ b, b < 0 → a ≠ b → (TJ1 a).2.1 ≠ (TJ1 b).2.1 := by decide +kernel
theorem tyJ1_ok : ∀ k, k < 0 → parseFieldDescriptor (TJ1 k).2.2.1 = some (tyJ1 k) := by decide +kernel
abbrev cJ1_canEncode_9a6ad : ByteArray := prog_19_method_4_code
def yJ1_canEncode_9a6ad : MethodName := ⟨RJ1, "canEncode", "(I)Z"⟩
abbrev cJ1_indexOf_4cfef : ByteArray := prog_19_method_22_code
def yJ1_indexOf_4cfef : MethodName := ⟨RJ1, "indexOf", "([BIII)I"⟩
abbrev cJ1_indexOfChar_4cfef : ByteArray := prog_19_method_23_code
def yJ1_indexOfChar_4cfef : MethodName := ⟨RJ1, "indexOfChar", "([BIII)I"⟩
def RJ2 : String := "java/lang/StringUTF16"
def TJ2 : u_T := fun k => match k with
  | _ => ("", "", "", false)
def tyJ2 : Nat → FieldType := fun k => match k with
  | _ => .int
abbrev wsJ20 : List Cond := u_ws RJ2 TJ2 0
theorem nmJ2 : ∀ a, a < 0 → ∀ b, b < 0 → a ≠ b → (TJ2 a).2.1 ≠ (TJ2 b).2.1 := by decide +kernel
theorem tyJ2_ok : ∀ k, k < 0 → parseFieldDescriptor (TJ2 k).2.2.1 = some (tyJ2 k) := by decide +kernel
abbrev cJ2_getChar_3b067 : ByteArray := prog_20_method_5_code
def yJ2_getChar_3b067 : MethodName := ⟨RJ2, "getChar", "([BI)C"⟩
abbrev cJ2_length_9d52b : ByteArray := prog_20_method_6_code
def yJ2_length_9d52b : MethodName := ⟨RJ2, "length", "([B)I"⟩
abbrev cJ2_indexOf_4cfef : ByteArray := prog_20_method_40_code
def yJ2_indexOf_4cfef : MethodName := ⟨RJ2, "indexOf", "([BIII)I"⟩
abbrev cJ2_indexOfChar_4cfef : ByteArray := prog_20_method_47_code
def yJ2_indexOfChar_4cfef : MethodName := ⟨RJ2, "indexOfChar", "([BIII)I"⟩
abbrev cJ2_indexOfCharUnsafe_4cfef : ByteArray := prog_20_method_48_code
def yJ2_indexOfCharUnsafe_4cfef : MethodName := ⟨RJ2, "indexOfCharUnsafe", "([BIII)I"⟩
abbrev cJ2_indexOfSupplementary_4cfef : ByteArray := prog_20_method_49_code
def yJ2_indexOfSupplementary_4cfef : MethodName := ⟨RJ2, "indexOfSupplementary", "([BIII)I"⟩
abbrev cJ2_checkBoundsBeginEnd_d044e : ByteArray := prog_20_method_93_code
def yJ2_checkBoundsBeginEnd_d044e : MethodName := ⟨RJ2, "checkBoundsBeginEnd", "(II[B)V"⟩
def RJ10 : String := "java/lang/System"
def TJ10 : u_T := fun k => match k with
  | _ => ("", "", "", false)
def tyJ10 : Nat → FieldType := fun k => match k with
  | _ => .int
abbrev wsJ100 : List Cond := u_ws RJ10 TJ10 0
theorem nmJ10 : ∀ a, a < 0 → ∀ b, b < 0 → a ≠ b → (TJ10 a).2.1 ≠ (TJ10 b).2.1 := by decide +kernel
theorem tyJ10_ok : ∀ k, k < 0 → parseFieldDescriptor (TJ10 k).2.2.1 = some (tyJ10 k) := by decide +kernel
def RJ3 : String := "jdk/internal/util/Preconditions"
def TJ3 : u_T := fun k => match k with
  | _ => ("", "", "", false)
def tyJ3 : Nat → FieldType := fun k => match k with
  | _ => .int
abbrev wsJ30 : List Cond := u_ws RJ3 TJ3 0
theorem nmJ3 : ∀ a, a < 0 → ∀ b, b < 0 → a ≠ b → (TJ3 a).2.1 ≠ (TJ3 b).2.1 := by decide +kernel
theorem tyJ3_ok : ∀ k, k < 0 → parseFieldDescriptor (TJ3 k).2.2.1 = some (tyJ3 k) := by decide +kernel
abbrev cJ3_checkFromToIndex_8c36e : ByteArray := prog_22_method_12_code
def yJ3_checkFromToIndex_8c36e : MethodName := ⟨RJ3, "checkFromToIndex", "(IIILjava/util/function/BiFunction;)I"⟩
def RL : String := "JudgedRowsLaw"
abbrev cL_law : ByteArray := code
def yL_law : MethodName := ⟨RL, "law", "([I)Z"⟩
abbrev vwCl : List vw_C := [(RX0, TX0, 6), (RX1, TX1, 0), (RX2, TX2, 0), (RX3, TX3, 2), (RX4, TX4, 6), (RX5, TX5, 5), (RX6, TX6, 6), (RX7, TX7, 0), (RX8, TX8, 0), (RX9, TX9, 5), (RX10, TX10, 0), (RX11, TX11, 15), (RX12, TX12, 27)]
end
section
theorem dX0_init_0 : decode cX0_init 0 = .ok (.aload_n 0, 1) := by decide +kernel
theorem dX0_init_1 : decode cX0_init 1 = .ok (.invokespecial 3, 3) := by decide +kernel
theorem dX0_init_4 : decode cX0_init 4 = .ok (.aload_n 0, 1) := by decide +kernel
theorem dX0_init_5 : decode cX0_init 5 = .ok (.iconst 3, 1) := by decide +kernel
theorem dX0_init_6 : decode cX0_init 6 = .ok (.newarray .int, 2) := by decide +kernel
theorem dX0_init_8 : decode cX0_init 8 = .ok (.putfield 9, 3) := by decide +kernel
theorem dX0_init_11 : decode cX0_init 11 = .ok (.aload_n 0, 1) := by decide +kernel
theorem dX0_init_12 : decode cX0_init 12 = .ok (.bipush 12, 2) := by decide +kernel
theorem dX0_init_14 : decode cX0_init 14 = .ok (.newarray .int, 2) := by decide +kernel
theorem dX0_init_16 : decode cX0_init 16 = .ok (.putfield 15, 3) := by decide +kernel
theorem dX0_init_19 : decode cX0_init 19 = .ok (.aload_n 0, 1) := by decide +kernel
theorem dX0_init_20 : decode cX0_init 20 = .ok (.bipush 12, 2) := by decide +kernel
theorem dX0_init_22 : decode cX0_init 22 = .ok (.newarray .int, 2) := by decide +kernel
theorem dX0_init_24 : decode cX0_init 24 = .ok (.putfield 18, 3) := by decide +kernel
theorem dX0_init_27 : decode cX0_init 27 = .ok (.aload_n 0, 1) := by decide +kernel
theorem dX0_init_28 : decode cX0_init 28 = .ok (.bipush 12, 2) := by decide +kernel
theorem dX0_init_30 : decode cX0_init 30 = .ok (.newarray .int, 2) := by decide +kernel
theorem dX0_init_32 : decode cX0_init 32 = .ok (.putfield 21, 3) := by decide +kernel
theorem dX0_init_35 : decode cX0_init 35 = .ok (.return_, 1) := by decide +kernel
theorem dX0_append_0 : decode cX0_append 0 = .ok (.aload_n 0, 1) := by decide +kernel
theorem dX0_append_1 : decode cX0_append 1 = .ok (.getfield 24, 3) := by decide +kernel
theorem dX0_append_4 : decode cX0_append 4 = .ok (.bipush 12, 2) := by decide +kernel
theorem dX0_append_6 : decode cX0_append 6 = .ok (.if_icmp .ge 43, 3) := by decide +kernel
theorem dX0_append_9 : decode cX0_append 9 = .ok (.aload_n 0, 1) := by decide +kernel
theorem dX0_append_10 : decode cX0_append 10 = .ok (.getfield 15, 3) := by decide +kernel
theorem dX0_append_13 : decode cX0_append 13 = .ok (.aload_n 0, 1) := by decide +kernel
theorem dX0_append_14 : decode cX0_append 14 = .ok (.getfield 24, 3) := by decide +kernel
theorem dX0_append_17 : decode cX0_append 17 = .ok (.iload_n 1, 1) := by decide +kernel
theorem dX0_append_18 : decode cX0_append 18 = .ok (.iastore, 1) := by decide +kernel
theorem dX0_append_19 : decode cX0_append 19 = .ok (.aload_n 0, 1) := by decide +kernel
theorem dX0_append_20 : decode cX0_append 20 = .ok (.getfield 18, 3) := by decide +kernel
theorem dX0_append_23 : decode cX0_append 23 = .ok (.aload_n 0, 1) := by decide +kernel
theorem dX0_append_24 : decode cX0_append 24 = .ok (.getfield 24, 3) := by decide +kernel
theorem dX0_append_27 : decode cX0_append 27 = .ok (.iload_n 2, 1) := by decide +kernel
theorem dX0_append_28 : decode cX0_append 28 = .ok (.iastore, 1) := by decide +kernel
theorem dX0_append_29 : decode cX0_append 29 = .ok (.aload_n 0, 1) := by decide +kernel
theorem dX0_append_30 : decode cX0_append 30 = .ok (.getfield 21, 3) := by decide +kernel
theorem dX0_append_33 : decode cX0_append 33 = .ok (.aload_n 0, 1) := by decide +kernel
theorem dX0_append_34 : decode cX0_append 34 = .ok (.getfield 24, 3) := by decide +kernel
theorem dX0_append_37 : decode cX0_append 37 = .ok (.iload_n 3, 1) := by decide +kernel
theorem dX0_append_38 : decode cX0_append 38 = .ok (.iastore, 1) := by decide +kernel
theorem dX0_append_39 : decode cX0_append 39 = .ok (.aload_n 0, 1) := by decide +kernel
theorem dX0_append_40 : decode cX0_append 40 = .ok (.dup, 1) := by decide +kernel
theorem dX0_append_41 : decode cX0_append 41 = .ok (.getfield 24, 3) := by decide +kernel
theorem dX0_append_44 : decode cX0_append 44 = .ok (.iconst 1, 1) := by decide +kernel
theorem dX0_append_45 : decode cX0_append 45 = .ok (.iadd, 1) := by decide +kernel
theorem dX0_append_46 : decode cX0_append 46 = .ok (.putfield 24, 3) := by decide +kernel
theorem dX0_append_49 : decode cX0_append 49 = .ok (.return_, 1) := by decide +kernel
theorem dX0_shownTo_0 : decode cX0_shownTo 0 = .ok (.iconst 0, 1) := by decide +kernel
theorem dX0_shownTo_1 : decode cX0_shownTo 1 = .ok (.istore_n 2, 1) := by decide +kernel
theorem dX0_shownTo_2 : decode cX0_shownTo 2 = .ok (.iconst 0, 1) := by decide +kernel
theorem dX0_shownTo_3 : decode cX0_shownTo 3 = .ok (.istore_n 3, 1) := by decide +kernel
theorem dX0_shownTo_4 : decode cX0_shownTo 4 = .ok (.iload_n 3, 1) := by decide +kernel
theorem dX0_shownTo_5 : decode cX0_shownTo 5 = .ok (.aload_n 0, 1) := by decide +kernel
theorem dX0_shownTo_6 : decode cX0_shownTo 6 = .ok (.getfield 24, 3) := by decide +kernel
theorem dX0_shownTo_9 : decode cX0_shownTo 9 = .ok (.if_icmp .ge 22, 3) := by decide +kernel
theorem dX0_shownTo_12 : decode cX0_shownTo 12 = .ok (.aload_n 0, 1) := by decide +kernel
theorem dX0_shownTo_13 : decode cX0_shownTo 13 = .ok (.getfield 18, 3) := by decide +kernel
theorem dX0_shownTo_16 : decode cX0_shownTo 16 = .ok (.iload_n 3, 1) := by decide +kernel
theorem dX0_shownTo_17 : decode cX0_shownTo 17 = .ok (.iaload, 1) := by decide +kernel
theorem dX0_shownTo_18 : decode cX0_shownTo 18 = .ok (.iload_n 1, 1) := by decide +kernel
theorem dX0_shownTo_19 : decode cX0_shownTo 19 = .ok (.if_icmp .ne 6, 3) := by decide +kernel
theorem dX0_shownTo_22 : decode cX0_shownTo 22 = .ok (.iinc 2 1, 3) := by decide +kernel
theorem dX0_shownTo_25 : decode cX0_shownTo 25 = .ok (.iinc 3 1, 3) := by decide +kernel
theorem dX0_shownTo_28 : decode cX0_shownTo 28 = .ok (.goto (-24), 3) := by decide +kernel
theorem dX0_shownTo_31 : decode cX0_shownTo 31 = .ok (.iload_n 2, 1) := by decide +kernel
theorem dX0_shownTo_32 : decode cX0_shownTo 32 = .ok (.ireturn, 1) := by decide +kernel
theorem dX0_take_0 : decode cX0_take 0 = .ok (.aload_n 1, 1) := by decide +kernel
theorem dX0_take_1 : decode cX0_take 1 = .ok (.getfield 9, 3) := by decide +kernel
theorem dX0_take_4 : decode cX0_take 4 = .ok (.iconst 0, 1) := by decide +kernel
theorem dX0_take_5 : decode cX0_take 5 = .ok (.aload_n 0, 1) := by decide +kernel
theorem dX0_take_6 : decode cX0_take 6 = .ok (.getfield 9, 3) := by decide +kernel
theorem dX0_take_9 : decode cX0_take 9 = .ok (.iconst 0, 1) := by decide +kernel
theorem dX0_take_10 : decode cX0_take 10 = .ok (.iconst 3, 1) := by decide +kernel
theorem dX0_take_11 : decode cX0_take 11 = .ok (.invokestatic 28, 3) := by decide +kernel
theorem dX0_take_14 : decode cX0_take 14 = .ok (.aload_n 1, 1) := by decide +kernel
theorem dX0_take_15 : decode cX0_take 15 = .ok (.getfield 15, 3) := by decide +kernel
theorem dX0_take_18 : decode cX0_take 18 = .ok (.iconst 0, 1) := by decide +kernel
theorem dX0_take_19 : decode cX0_take 19 = .ok (.aload_n 0, 1) := by decide +kernel
theorem dX0_take_20 : decode cX0_take 20 = .ok (.getfield 15, 3) := by decide +kernel
theorem dX0_take_23 : decode cX0_take 23 = .ok (.iconst 0, 1) := by decide +kernel
theorem dX0_take_24 : decode cX0_take 24 = .ok (.bipush 12, 2) := by decide +kernel
theorem dX0_take_26 : decode cX0_take 26 = .ok (.invokestatic 28, 3) := by decide +kernel
theorem dX0_take_29 : decode cX0_take 29 = .ok (.aload_n 1, 1) := by decide +kernel
theorem dX0_take_30 : decode cX0_take 30 = .ok (.getfield 18, 3) := by decide +kernel
theorem dX0_take_33 : decode cX0_take 33 = .ok (.iconst 0, 1) := by decide +kernel
theorem dX0_take_34 : decode cX0_take 34 = .ok (.aload_n 0, 1) := by decide +kernel
theorem dX0_take_35 : decode cX0_take 35 = .ok (.getfield 18, 3) := by decide +kernel
theorem dX0_take_38 : decode cX0_take 38 = .ok (.iconst 0, 1) := by decide +kernel
theorem dX0_take_39 : decode cX0_take 39 = .ok (.bipush 12, 2) := by decide +kernel
theorem dX0_take_41 : decode cX0_take 41 = .ok (.invokestatic 28, 3) := by decide +kernel
theorem dX0_take_44 : decode cX0_take 44 = .ok (.aload_n 1, 1) := by decide +kernel
theorem dX0_take_45 : decode cX0_take 45 = .ok (.getfield 21, 3) := by decide +kernel
theorem dX0_take_48 : decode cX0_take 48 = .ok (.iconst 0, 1) := by decide +kernel
theorem dX0_take_49 : decode cX0_take 49 = .ok (.aload_n 0, 1) := by decide +kernel
theorem dX0_take_50 : decode cX0_take 50 = .ok (.getfield 21, 3) := by decide +kernel
theorem dX0_take_53 : decode cX0_take 53 = .ok (.iconst 0, 1) := by decide +kernel
theorem dX0_take_54 : decode cX0_take 54 = .ok (.bipush 12, 2) := by decide +kernel
theorem dX0_take_56 : decode cX0_take 56 = .ok (.invokestatic 28, 3) := by decide +kernel
theorem dX0_take_59 : decode cX0_take 59 = .ok (.aload_n 0, 1) := by decide +kernel
theorem dX0_take_60 : decode cX0_take 60 = .ok (.aload_n 1, 1) := by decide +kernel
theorem dX0_take_61 : decode cX0_take 61 = .ok (.getfield 34, 3) := by decide +kernel
theorem dX0_take_64 : decode cX0_take 64 = .ok (.putfield 34, 3) := by decide +kernel
theorem dX0_take_67 : decode cX0_take 67 = .ok (.aload_n 0, 1) := by decide +kernel
theorem dX0_take_68 : decode cX0_take 68 = .ok (.aload_n 1, 1) := by decide +kernel
theorem dX0_take_69 : decode cX0_take 69 = .ok (.getfield 24, 3) := by decide +kernel
theorem dX0_take_72 : decode cX0_take 72 = .ok (.putfield 24, 3) := by decide +kernel
theorem dX0_take_75 : decode cX0_take 75 = .ok (.return_, 1) := by decide +kernel
theorem dX1_init_0 : decode cX1_init 0 = .ok (.aload_n 0, 1) := by decide +kernel
theorem dX1_init_1 : decode cX1_init 1 = .ok (.invokespecial 1, 3) := by decide +kernel
theorem dX1_init_4 : decode cX1_init 4 = .ok (.return_, 1) := by decide +kernel
theorem dX1_word_0 : decode cX1_word 0 = .ok (.aload_n 1, 1) := by decide +kernel
theorem dX1_word_1 : decode cX1_word 1 = .ok (.iload_n 2, 1) := by decide +kernel
theorem dX1_word_2 : decode cX1_word 2 = .ok (.iload_n 3, 1) := by decide +kernel
theorem dX1_word_3 : decode cX1_word 3 = .ok (.invokevirtual 7, 3) := by decide +kernel
theorem dX1_word_6 : decode cX1_word 6 = .ok (.iconst 1, 1) := by decide +kernel
theorem dX1_word_7 : decode cX1_word 7 = .ok (.iand, 1) := by decide +kernel
theorem dX1_word_8 : decode cX1_word 8 = .ok (.ireturn, 1) := by decide +kernel
theorem dX2_init_0 : decode cX2_init 0 = .ok (.aload_n 0, 1) := by decide +kernel
theorem dX2_init_1 : decode cX2_init 1 = .ok (.invokespecial 1, 3) := by decide +kernel
theorem dX2_init_4 : decode cX2_init 4 = .ok (.return_, 1) := by decide +kernel
theorem dX2_word_0 : decode cX2_word 0 = .ok (.aload_n 1, 1) := by decide +kernel
theorem dX2_word_1 : decode cX2_word 1 = .ok (.iload_n 2, 1) := by decide +kernel
theorem dX2_word_2 : decode cX2_word 2 = .ok (.iload_n 3, 1) := by decide +kernel
theorem dX2_word_3 : decode cX2_word 3 = .ok (.invokevirtual 7, 3) := by decide +kernel
theorem dX2_word_6 : decode cX2_word 6 = .ok (.aload_n 1, 1) := by decide +kernel
theorem dX2_word_7 : decode cX2_word 7 = .ok (.iload_n 2, 1) := by decide +kernel
theorem dX2_word_8 : decode cX2_word 8 = .ok (.iload_n 3, 1) := by decide +kernel
theorem dX2_word_9 : decode cX2_word 9 = .ok (.invokevirtual 13, 3) := by decide +kernel
theorem dX2_word_12 : decode cX2_word 12 = .ok (.invokestatic 16, 3) := by decide +kernel
theorem dX2_word_15 : decode cX2_word 15 = .ok (.ireturn, 1) := by decide +kernel
theorem dX2_plainWord_0 : decode cX2_plainWord 0 = .ok (.bipush 10, 2) := by decide +kernel
theorem dX2_plainWord_2 : decode cX2_plainWord 2 = .ok (.iload_n 0, 1) := by decide +kernel
theorem dX2_plainWord_3 : decode cX2_plainWord 3 = .ok (.imul, 1) := by decide +kernel
theorem dX2_plainWord_4 : decode cX2_plainWord 4 = .ok (.iload_n 1, 1) := by decide +kernel
theorem dX2_plainWord_5 : decode cX2_plainWord 5 = .ok (.iadd, 1) := by decide +kernel
theorem dX2_plainWord_6 : decode cX2_plainWord 6 = .ok (.iload_n 0, 1) := by decide +kernel
theorem dX2_plainWord_7 : decode cX2_plainWord 7 = .ok (.isub, 1) := by decide +kernel
theorem dX2_plainWord_8 : decode cX2_plainWord 8 = .ok (.ireturn, 1) := by decide +kernel
theorem dX3_init_0 : decode cX3_init 0 = .ok (.aload_n 0, 1) := by decide +kernel
theorem dX3_init_1 : decode cX3_init 1 = .ok (.invokespecial 3, 3) := by decide +kernel
theorem dX3_init_4 : decode cX3_init 4 = .ok (.aload_n 0, 1) := by decide +kernel
theorem dX3_init_5 : decode cX3_init 5 = .ok (.bipush 12, 2) := by decide +kernel
theorem dX3_init_7 : decode cX3_init 7 = .ok (.newarray .int, 2) := by decide +kernel
theorem dX3_init_9 : decode cX3_init 9 = .ok (.putfield 9, 3) := by decide +kernel
theorem dX3_init_12 : decode cX3_init 12 = .ok (.return_, 1) := by decide +kernel
theorem dX3_append_0 : decode cX3_append 0 = .ok (.aload_n 0, 1) := by decide +kernel
theorem dX3_append_1 : decode cX3_append 1 = .ok (.getfield 15, 3) := by decide +kernel
theorem dX3_append_4 : decode cX3_append 4 = .ok (.bipush 12, 2) := by decide +kernel
theorem dX3_append_6 : decode cX3_append 6 = .ok (.if_icmp .ge 23, 3) := by decide +kernel
theorem dX3_append_9 : decode cX3_append 9 = .ok (.aload_n 0, 1) := by decide +kernel
theorem dX3_append_10 : decode cX3_append 10 = .ok (.getfield 9, 3) := by decide +kernel
theorem dX3_append_13 : decode cX3_append 13 = .ok (.aload_n 0, 1) := by decide +kernel
theorem dX3_append_14 : decode cX3_append 14 = .ok (.getfield 15, 3) := by decide +kernel
theorem dX3_append_17 : decode cX3_append 17 = .ok (.iload_n 1, 1) := by decide +kernel
theorem dX3_append_18 : decode cX3_append 18 = .ok (.iastore, 1) := by decide +kernel
theorem dX3_append_19 : decode cX3_append 19 = .ok (.aload_n 0, 1) := by decide +kernel
theorem dX3_append_20 : decode cX3_append 20 = .ok (.dup, 1) := by decide +kernel
theorem dX3_append_21 : decode cX3_append 21 = .ok (.getfield 15, 3) := by decide +kernel
theorem dX3_append_24 : decode cX3_append 24 = .ok (.iconst 1, 1) := by decide +kernel
theorem dX3_append_25 : decode cX3_append 25 = .ok (.iadd, 1) := by decide +kernel
theorem dX3_append_26 : decode cX3_append 26 = .ok (.putfield 15, 3) := by decide +kernel
theorem dX3_append_29 : decode cX3_append 29 = .ok (.return_, 1) := by decide +kernel
theorem dX3_firstFault_0 : decode cX3_firstFault 0 = .ok (.iconst 0, 1) := by decide +kernel
theorem dX3_firstFault_1 : decode cX3_firstFault 1 = .ok (.istore_n 1, 1) := by decide +kernel
theorem dX3_firstFault_2 : decode cX3_firstFault 2 = .ok (.iload_n 1, 1) := by decide +kernel
theorem dX3_firstFault_3 : decode cX3_firstFault 3 = .ok (.aload_n 0, 1) := by decide +kernel
theorem dX3_firstFault_4 : decode cX3_firstFault 4 = .ok (.getfield 15, 3) := by decide +kernel
theorem dX3_firstFault_7 : decode cX3_firstFault 7 = .ok (.if_icmp .ge 19, 3) := by decide +kernel
theorem dX3_firstFault_10 : decode cX3_firstFault 10 = .ok (.aload_n 0, 1) := by decide +kernel
theorem dX3_firstFault_11 : decode cX3_firstFault 11 = .ok (.iload_n 1, 1) := by decide +kernel
theorem dX3_firstFault_12 : decode cX3_firstFault 12 = .ok (.invokevirtual 19, 3) := by decide +kernel
theorem dX3_firstFault_15 : decode cX3_firstFault 15 = .ok (.ifCond .ne 5, 3) := by decide +kernel
theorem dX3_firstFault_18 : decode cX3_firstFault 18 = .ok (.iload_n 1, 1) := by decide +kernel
theorem dX3_firstFault_19 : decode cX3_firstFault 19 = .ok (.ireturn, 1) := by decide +kernel
theorem dX3_firstFault_20 : decode cX3_firstFault 20 = .ok (.iinc 1 1, 3) := by decide +kernel
theorem dX3_firstFault_23 : decode cX3_firstFault 23 = .ok (.goto (-21), 3) := by decide +kernel
theorem dX3_firstFault_26 : decode cX3_firstFault 26 = .ok (.aload_n 0, 1) := by decide +kernel
theorem dX3_firstFault_27 : decode cX3_firstFault 27 = .ok (.getfield 15, 3) := by decide +kernel
theorem dX3_firstFault_30 : decode cX3_firstFault 30 = .ok (.ireturn, 1) := by decide +kernel
theorem dX3_isGame_0 : decode cX3_isGame 0 = .ok (.aload_n 0, 1) := by decide +kernel
theorem dX3_isGame_1 : decode cX3_isGame 1 = .ok (.aload_n 0, 1) := by decide +kernel
theorem dX3_isGame_2 : decode cX3_isGame 2 = .ok (.getfield 15, 3) := by decide +kernel
theorem dX3_isGame_5 : decode cX3_isGame 5 = .ok (.invokevirtual 23, 3) := by decide +kernel
theorem dX3_isGame_8 : decode cX3_isGame 8 = .ok (.istore_n 1, 1) := by decide +kernel
theorem dX3_isGame_9 : decode cX3_isGame 9 = .ok (.iload_n 1, 1) := by decide +kernel
theorem dX3_isGame_10 : decode cX3_isGame 10 = .ok (.iconst (-1), 1) := by decide +kernel
theorem dX3_isGame_11 : decode cX3_isGame 11 = .ok (.if_icmp .eq 33, 3) := by decide +kernel
theorem dX3_isGame_14 : decode cX3_isGame 14 = .ok (.aload_n 0, 1) := by decide +kernel
theorem dX3_isGame_15 : decode cX3_isGame 15 = .ok (.getfield 15, 3) := by decide +kernel
theorem dX3_isGame_18 : decode cX3_isGame 18 = .ok (.iload_n 1, 1) := by decide +kernel
theorem dX3_isGame_19 : decode cX3_isGame 19 = .ok (.iconst 1, 1) := by decide +kernel
theorem dX3_isGame_20 : decode cX3_isGame 20 = .ok (.iadd, 1) := by decide +kernel
theorem dX3_isGame_21 : decode cX3_isGame 21 = .ok (.aload_n 0, 1) := by decide +kernel
theorem dX3_isGame_22 : decode cX3_isGame 22 = .ok (.invokevirtual 27, 3) := by decide +kernel
theorem dX3_isGame_25 : decode cX3_isGame 25 = .ok (.iadd, 1) := by decide +kernel
theorem dX3_isGame_26 : decode cX3_isGame 26 = .ok (.if_icmp .ne 18, 3) := by decide +kernel
theorem dX3_isGame_29 : decode cX3_isGame 29 = .ok (.aload_n 0, 1) := by decide +kernel
theorem dX3_isGame_30 : decode cX3_isGame 30 = .ok (.invokevirtual 31, 3) := by decide +kernel
theorem dX3_isGame_33 : decode cX3_isGame 33 = .ok (.aload_n 0, 1) := by decide +kernel
theorem dX3_isGame_34 : decode cX3_isGame 34 = .ok (.getfield 15, 3) := by decide +kernel
theorem dX3_isGame_37 : decode cX3_isGame 37 = .ok (.if_icmp .ne 7, 3) := by decide +kernel
theorem dX3_isGame_40 : decode cX3_isGame 40 = .ok (.iconst 1, 1) := by decide +kernel
theorem dX3_isGame_41 : decode cX3_isGame 41 = .ok (.goto 4, 3) := by decide +kernel
theorem dX3_isGame_44 : decode cX3_isGame 44 = .ok (.iconst 0, 1) := by decide +kernel
theorem dX3_isGame_45 : decode cX3_isGame 45 = .ok (.ireturn, 1) := by decide +kernel
theorem dX3_mayStand_0 : decode cX3_mayStand 0 = .ok (.aload_n 0, 1) := by decide +kernel
theorem dX3_mayStand_1 : decode cX3_mayStand 1 = .ok (.getfield 9, 3) := by decide +kernel
theorem dX3_mayStand_4 : decode cX3_mayStand 4 = .ok (.iload_n 1, 1) := by decide +kernel
theorem dX3_mayStand_5 : decode cX3_mayStand 5 = .ok (.iaload, 1) := by decide +kernel
theorem dX3_mayStand_6 : decode cX3_mayStand 6 = .ok (.istore_n 2, 1) := by decide +kernel
theorem dX3_mayStand_7 : decode cX3_mayStand 7 = .ok (.iload_n 1, 1) := by decide +kernel
theorem dX3_mayStand_8 : decode cX3_mayStand 8 = .ok (.tableswitch 76 0 2 #[28, 46, 64], 28) := by decide +kernel
theorem dX3_mayStand_36 : decode cX3_mayStand 36 = .ok (.iload_n 2, 1) := by decide +kernel
theorem dX3_mayStand_37 : decode cX3_mayStand 37 = .ok (.bipush 49, 2) := by decide +kernel
theorem dX3_mayStand_39 : decode cX3_mayStand 39 = .ok (.if_icmp .lt 13, 3) := by decide +kernel
theorem dX3_mayStand_42 : decode cX3_mayStand 42 = .ok (.iload_n 2, 1) := by decide +kernel
theorem dX3_mayStand_43 : decode cX3_mayStand 43 = .ok (.bipush 51, 2) := by decide +kernel
theorem dX3_mayStand_45 : decode cX3_mayStand 45 = .ok (.if_icmp .gt 7, 3) := by decide +kernel
theorem dX3_mayStand_48 : decode cX3_mayStand 48 = .ok (.iconst 1, 1) := by decide +kernel
theorem dX3_mayStand_49 : decode cX3_mayStand 49 = .ok (.goto 4, 3) := by decide +kernel
theorem dX3_mayStand_52 : decode cX3_mayStand 52 = .ok (.iconst 0, 1) := by decide +kernel
theorem dX3_mayStand_53 : decode cX3_mayStand 53 = .ok (.ireturn, 1) := by decide +kernel
theorem dX3_mayStand_54 : decode cX3_mayStand 54 = .ok (.iload_n 2, 1) := by decide +kernel
theorem dX3_mayStand_55 : decode cX3_mayStand 55 = .ok (.bipush 50, 2) := by decide +kernel
theorem dX3_mayStand_57 : decode cX3_mayStand 57 = .ok (.if_icmp .lt 13, 3) := by decide +kernel
theorem dX3_mayStand_60 : decode cX3_mayStand 60 = .ok (.iload_n 2, 1) := by decide +kernel
theorem dX3_mayStand_61 : decode cX3_mayStand 61 = .ok (.bipush 54, 2) := by decide +kernel
theorem dX3_mayStand_63 : decode cX3_mayStand 63 = .ok (.if_icmp .gt 7, 3) := by decide +kernel
theorem dX3_mayStand_66 : decode cX3_mayStand 66 = .ok (.iconst 1, 1) := by decide +kernel
theorem dX3_mayStand_67 : decode cX3_mayStand 67 = .ok (.goto 4, 3) := by decide +kernel
theorem dX3_mayStand_70 : decode cX3_mayStand 70 = .ok (.iconst 0, 1) := by decide +kernel
theorem dX3_mayStand_71 : decode cX3_mayStand 71 = .ok (.ireturn, 1) := by decide +kernel
theorem dX3_mayStand_72 : decode cX3_mayStand 72 = .ok (.iload_n 2, 1) := by decide +kernel
theorem dX3_mayStand_73 : decode cX3_mayStand 73 = .ok (.bipush 59, 2) := by decide +kernel
theorem dX3_mayStand_75 : decode cX3_mayStand 75 = .ok (.if_icmp .ne 7, 3) := by decide +kernel
theorem dX3_mayStand_78 : decode cX3_mayStand 78 = .ok (.iconst 1, 1) := by decide +kernel
theorem dX3_mayStand_79 : decode cX3_mayStand 79 = .ok (.goto 4, 3) := by decide +kernel
theorem dX3_mayStand_82 : decode cX3_mayStand 82 = .ok (.iconst 0, 1) := by decide +kernel
theorem dX3_mayStand_83 : decode cX3_mayStand 83 = .ok (.ireturn, 1) := by decide +kernel
theorem dX3_mayStand_84 : decode cX3_mayStand 84 = .ok (.aload_n 0, 1) := by decide +kernel
theorem dX3_mayStand_85 : decode cX3_mayStand 85 = .ok (.iload_n 1, 1) := by decide +kernel
theorem dX3_mayStand_86 : decode cX3_mayStand 86 = .ok (.invokevirtual 23, 3) := by decide +kernel
theorem dX3_mayStand_89 : decode cX3_mayStand 89 = .ok (.istore_n 3, 1) := by decide +kernel
theorem dX3_mayStand_90 : decode cX3_mayStand 90 = .ok (.iload_n 3, 1) := by decide +kernel
theorem dX3_mayStand_91 : decode cX3_mayStand 91 = .ok (.iconst (-1), 1) := by decide +kernel
theorem dX3_mayStand_92 : decode cX3_mayStand 92 = .ok (.if_icmp .eq 36, 3) := by decide +kernel
theorem dX3_mayStand_95 : decode cX3_mayStand 95 = .ok (.iload_n 1, 1) := by decide +kernel
theorem dX3_mayStand_96 : decode cX3_mayStand 96 = .ok (.iload_n 3, 1) := by decide +kernel
theorem dX3_mayStand_97 : decode cX3_mayStand 97 = .ok (.aload_n 0, 1) := by decide +kernel
theorem dX3_mayStand_98 : decode cX3_mayStand 98 = .ok (.invokevirtual 27, 3) := by decide +kernel
theorem dX3_mayStand_101 : decode cX3_mayStand 101 = .ok (.iadd, 1) := by decide +kernel
theorem dX3_mayStand_102 : decode cX3_mayStand 102 = .ok (.if_icmp .gt 24, 3) := by decide +kernel
theorem dX3_mayStand_105 : decode cX3_mayStand 105 = .ok (.iload_n 2, 1) := by decide +kernel
theorem dX3_mayStand_106 : decode cX3_mayStand 106 = .ok (.bipush 97, 2) := by decide +kernel
theorem dX3_mayStand_108 : decode cX3_mayStand 108 = .ok (.if_icmp .lt 18, 3) := by decide +kernel
theorem dX3_mayStand_111 : decode cX3_mayStand 111 = .ok (.iload_n 2, 1) := by decide +kernel
theorem dX3_mayStand_112 : decode cX3_mayStand 112 = .ok (.bipush 97, 2) := by decide +kernel
theorem dX3_mayStand_114 : decode cX3_mayStand 114 = .ok (.aload_n 0, 1) := by decide +kernel
theorem dX3_mayStand_115 : decode cX3_mayStand 115 = .ok (.invokevirtual 34, 3) := by decide +kernel
theorem dX3_mayStand_118 : decode cX3_mayStand 118 = .ok (.iadd, 1) := by decide +kernel
theorem dX3_mayStand_119 : decode cX3_mayStand 119 = .ok (.if_icmp .ge 7, 3) := by decide +kernel
theorem dX3_mayStand_122 : decode cX3_mayStand 122 = .ok (.iconst 1, 1) := by decide +kernel
theorem dX3_mayStand_123 : decode cX3_mayStand 123 = .ok (.goto 4, 3) := by decide +kernel
theorem dX3_mayStand_126 : decode cX3_mayStand 126 = .ok (.iconst 0, 1) := by decide +kernel
theorem dX3_mayStand_127 : decode cX3_mayStand 127 = .ok (.ireturn, 1) := by decide +kernel
theorem dX3_mayStand_128 : decode cX3_mayStand 128 = .ok (.iload_n 2, 1) := by decide +kernel
theorem dX3_mayStand_129 : decode cX3_mayStand 129 = .ok (.bipush 59, 2) := by decide +kernel
theorem dX3_mayStand_131 : decode cX3_mayStand 131 = .ok (.if_icmp .ne 14, 3) := by decide +kernel
theorem dX3_mayStand_134 : decode cX3_mayStand 134 = .ok (.iload_n 1, 1) := by decide +kernel
theorem dX3_mayStand_135 : decode cX3_mayStand 135 = .ok (.iconst 3, 1) := by decide +kernel
theorem dX3_mayStand_136 : decode cX3_mayStand 136 = .ok (.if_icmp .le 7, 3) := by decide +kernel
theorem dX3_mayStand_139 : decode cX3_mayStand 139 = .ok (.iconst 1, 1) := by decide +kernel
theorem dX3_mayStand_140 : decode cX3_mayStand 140 = .ok (.goto 4, 3) := by decide +kernel
theorem dX3_mayStand_143 : decode cX3_mayStand 143 = .ok (.iconst 0, 1) := by decide +kernel
theorem dX3_mayStand_144 : decode cX3_mayStand 144 = .ok (.ireturn, 1) := by decide +kernel
theorem dX3_mayStand_145 : decode cX3_mayStand 145 = .ok (.iload_n 1, 1) := by decide +kernel
theorem dX3_mayStand_146 : decode cX3_mayStand 146 = .ok (.bipush 6, 2) := by decide +kernel
theorem dX3_mayStand_148 : decode cX3_mayStand 148 = .ok (.if_icmp .ge 17, 3) := by decide +kernel
theorem dX3_mayStand_151 : decode cX3_mayStand 151 = .ok (.ldc 37, 2) := by decide +kernel
theorem dX3_mayStand_153 : decode cX3_mayStand 153 = .ok (.iload_n 2, 1) := by decide +kernel
theorem dX3_mayStand_154 : decode cX3_mayStand 154 = .ok (.i2c, 1) := by decide +kernel
theorem dX3_mayStand_155 : decode cX3_mayStand 155 = .ok (.invokevirtual 39, 3) := by decide +kernel
theorem dX3_mayStand_158 : decode cX3_mayStand 158 = .ok (.ifCond .lt 7, 3) := by decide +kernel
theorem dX3_mayStand_161 : decode cX3_mayStand 161 = .ok (.iconst 1, 1) := by decide +kernel
theorem dX3_mayStand_162 : decode cX3_mayStand 162 = .ok (.goto 4, 3) := by decide +kernel
theorem dX3_mayStand_165 : decode cX3_mayStand 165 = .ok (.iconst 0, 1) := by decide +kernel
theorem dX3_mayStand_166 : decode cX3_mayStand 166 = .ok (.ireturn, 1) := by decide +kernel
theorem dX3_kindsEnd_0 : decode cX3_kindsEnd 0 = .ok (.iconst 3, 1) := by decide +kernel
theorem dX3_kindsEnd_1 : decode cX3_kindsEnd 1 = .ok (.istore_n 2, 1) := by decide +kernel
theorem dX3_kindsEnd_2 : decode cX3_kindsEnd 2 = .ok (.iload_n 2, 1) := by decide +kernel
theorem dX3_kindsEnd_3 : decode cX3_kindsEnd 3 = .ok (.iload_n 1, 1) := by decide +kernel
theorem dX3_kindsEnd_4 : decode cX3_kindsEnd 4 = .ok (.if_icmp .ge 22, 3) := by decide +kernel
theorem dX3_kindsEnd_7 : decode cX3_kindsEnd 7 = .ok (.aload_n 0, 1) := by decide +kernel
theorem dX3_kindsEnd_8 : decode cX3_kindsEnd 8 = .ok (.getfield 9, 3) := by decide +kernel
theorem dX3_kindsEnd_11 : decode cX3_kindsEnd 11 = .ok (.iload_n 2, 1) := by decide +kernel
theorem dX3_kindsEnd_12 : decode cX3_kindsEnd 12 = .ok (.iaload, 1) := by decide +kernel
theorem dX3_kindsEnd_13 : decode cX3_kindsEnd 13 = .ok (.bipush 59, 2) := by decide +kernel
theorem dX3_kindsEnd_15 : decode cX3_kindsEnd 15 = .ok (.if_icmp .ne 5, 3) := by decide +kernel
theorem dX3_kindsEnd_18 : decode cX3_kindsEnd 18 = .ok (.iload_n 2, 1) := by decide +kernel
theorem dX3_kindsEnd_19 : decode cX3_kindsEnd 19 = .ok (.ireturn, 1) := by decide +kernel
theorem dX3_kindsEnd_20 : decode cX3_kindsEnd 20 = .ok (.iinc 2 1, 3) := by decide +kernel
theorem dX3_kindsEnd_23 : decode cX3_kindsEnd 23 = .ok (.goto (-21), 3) := by decide +kernel
theorem dX3_kindsEnd_26 : decode cX3_kindsEnd 26 = .ok (.iconst (-1), 1) := by decide +kernel
theorem dX3_kindsEnd_27 : decode cX3_kindsEnd 27 = .ok (.ireturn, 1) := by decide +kernel
theorem dX3_pegs_0 : decode cX3_pegs 0 = .ok (.aload_n 0, 1) := by decide +kernel
theorem dX3_pegs_1 : decode cX3_pegs 1 = .ok (.getfield 9, 3) := by decide +kernel
theorem dX3_pegs_4 : decode cX3_pegs 4 = .ok (.iconst 0, 1) := by decide +kernel
theorem dX3_pegs_5 : decode cX3_pegs 5 = .ok (.iaload, 1) := by decide +kernel
theorem dX3_pegs_6 : decode cX3_pegs 6 = .ok (.bipush 48, 2) := by decide +kernel
theorem dX3_pegs_8 : decode cX3_pegs 8 = .ok (.isub, 1) := by decide +kernel
theorem dX3_pegs_9 : decode cX3_pegs 9 = .ok (.ireturn, 1) := by decide +kernel
theorem dX3_colours_0 : decode cX3_colours 0 = .ok (.aload_n 0, 1) := by decide +kernel
theorem dX3_colours_1 : decode cX3_colours 1 = .ok (.getfield 9, 3) := by decide +kernel
theorem dX3_colours_4 : decode cX3_colours 4 = .ok (.iconst 1, 1) := by decide +kernel
theorem dX3_colours_5 : decode cX3_colours 5 = .ok (.iaload, 1) := by decide +kernel
theorem dX3_colours_6 : decode cX3_colours 6 = .ok (.bipush 48, 2) := by decide +kernel
theorem dX3_colours_8 : decode cX3_colours 8 = .ok (.isub, 1) := by decide +kernel
theorem dX3_colours_9 : decode cX3_colours 9 = .ok (.ireturn, 1) := by decide +kernel
theorem dX3_judgesWritten_0 : decode cX3_judgesWritten 0 = .ok (.aload_n 0, 1) := by decide +kernel
theorem dX3_judgesWritten_1 : decode cX3_judgesWritten 1 = .ok (.aload_n 0, 1) := by decide +kernel
theorem dX3_judgesWritten_2 : decode cX3_judgesWritten 2 = .ok (.getfield 15, 3) := by decide +kernel
theorem dX3_judgesWritten_5 : decode cX3_judgesWritten 5 = .ok (.invokevirtual 23, 3) := by decide +kernel
theorem dX3_judgesWritten_8 : decode cX3_judgesWritten 8 = .ok (.iconst 3, 1) := by decide +kernel
theorem dX3_judgesWritten_9 : decode cX3_judgesWritten 9 = .ok (.isub, 1) := by decide +kernel
theorem dX3_judgesWritten_10 : decode cX3_judgesWritten 10 = .ok (.ireturn, 1) := by decide +kernel
theorem dX3_kindWritten_0 : decode cX3_kindWritten 0 = .ok (.ldc 37, 2) := by decide +kernel
theorem dX3_kindWritten_2 : decode cX3_kindWritten 2 = .ok (.aload_n 0, 1) := by decide +kernel
theorem dX3_kindWritten_3 : decode cX3_kindWritten 3 = .ok (.getfield 9, 3) := by decide +kernel
theorem dX3_kindWritten_6 : decode cX3_kindWritten 6 = .ok (.iconst 3, 1) := by decide +kernel
theorem dX3_kindWritten_7 : decode cX3_kindWritten 7 = .ok (.iload_n 1, 1) := by decide +kernel
theorem dX3_kindWritten_8 : decode cX3_kindWritten 8 = .ok (.iadd, 1) := by decide +kernel
theorem dX3_kindWritten_9 : decode cX3_kindWritten 9 = .ok (.iaload, 1) := by decide +kernel
theorem dX3_kindWritten_10 : decode cX3_kindWritten 10 = .ok (.i2c, 1) := by decide +kernel
theorem dX3_kindWritten_11 : decode cX3_kindWritten 11 = .ok (.invokevirtual 39, 3) := by decide +kernel
theorem dX3_kindWritten_14 : decode cX3_kindWritten 14 = .ok (.ireturn, 1) := by decide +kernel
theorem dX3_rowWritten_0 : decode cX3_rowWritten 0 = .ok (.iconst 0, 1) := by decide +kernel
theorem dX3_rowWritten_1 : decode cX3_rowWritten 1 = .ok (.istore_n 1, 1) := by decide +kernel
theorem dX3_rowWritten_2 : decode cX3_rowWritten 2 = .ok (.aload_n 0, 1) := by decide +kernel
theorem dX3_rowWritten_3 : decode cX3_rowWritten 3 = .ok (.aload_n 0, 1) := by decide +kernel
theorem dX3_rowWritten_4 : decode cX3_rowWritten 4 = .ok (.getfield 15, 3) := by decide +kernel
theorem dX3_rowWritten_7 : decode cX3_rowWritten 7 = .ok (.invokevirtual 23, 3) := by decide +kernel
theorem dX3_rowWritten_10 : decode cX3_rowWritten 10 = .ok (.iconst 1, 1) := by decide +kernel
theorem dX3_rowWritten_11 : decode cX3_rowWritten 11 = .ok (.iadd, 1) := by decide +kernel
theorem dX3_rowWritten_12 : decode cX3_rowWritten 12 = .ok (.istore_n 2, 1) := by decide +kernel
theorem dX3_rowWritten_13 : decode cX3_rowWritten 13 = .ok (.iload_n 2, 1) := by decide +kernel
theorem dX3_rowWritten_14 : decode cX3_rowWritten 14 = .ok (.aload_n 0, 1) := by decide +kernel
theorem dX3_rowWritten_15 : decode cX3_rowWritten 15 = .ok (.getfield 15, 3) := by decide +kernel
theorem dX3_rowWritten_18 : decode cX3_rowWritten 18 = .ok (.if_icmp .ge 26, 3) := by decide +kernel
theorem dX3_rowWritten_21 : decode cX3_rowWritten 21 = .ok (.iload_n 1, 1) := by decide +kernel
theorem dX3_rowWritten_22 : decode cX3_rowWritten 22 = .ok (.aload_n 0, 1) := by decide +kernel
theorem dX3_rowWritten_23 : decode cX3_rowWritten 23 = .ok (.invokevirtual 34, 3) := by decide +kernel
theorem dX3_rowWritten_26 : decode cX3_rowWritten 26 = .ok (.imul, 1) := by decide +kernel
theorem dX3_rowWritten_27 : decode cX3_rowWritten 27 = .ok (.aload_n 0, 1) := by decide +kernel
theorem dX3_rowWritten_28 : decode cX3_rowWritten 28 = .ok (.getfield 9, 3) := by decide +kernel
theorem dX3_rowWritten_31 : decode cX3_rowWritten 31 = .ok (.iload_n 2, 1) := by decide +kernel
theorem dX3_rowWritten_32 : decode cX3_rowWritten 32 = .ok (.iaload, 1) := by decide +kernel
theorem dX3_rowWritten_33 : decode cX3_rowWritten 33 = .ok (.iadd, 1) := by decide +kernel
theorem dX3_rowWritten_34 : decode cX3_rowWritten 34 = .ok (.bipush 97, 2) := by decide +kernel
theorem dX3_rowWritten_36 : decode cX3_rowWritten 36 = .ok (.isub, 1) := by decide +kernel
theorem dX3_rowWritten_37 : decode cX3_rowWritten 37 = .ok (.istore_n 1, 1) := by decide +kernel
theorem dX3_rowWritten_38 : decode cX3_rowWritten 38 = .ok (.iinc 2 1, 3) := by decide +kernel
theorem dX3_rowWritten_41 : decode cX3_rowWritten 41 = .ok (.goto (-28), 3) := by decide +kernel
theorem dX3_rowWritten_44 : decode cX3_rowWritten 44 = .ok (.iload_n 1, 1) := by decide +kernel
theorem dX3_rowWritten_45 : decode cX3_rowWritten 45 = .ok (.ireturn, 1) := by decide +kernel
theorem dX4_init_0 : decode cX4_init 0 = .ok (.aload_n 0, 1) := by decide +kernel
theorem dX4_init_1 : decode cX4_init 1 = .ok (.invokespecial 3, 3) := by decide +kernel
theorem dX4_init_4 : decode cX4_init 4 = .ok (.aload_n 0, 1) := by decide +kernel
theorem dX4_init_5 : decode cX4_init 5 = .ok (.sipush 961, 3) := by decide +kernel
theorem dX4_init_8 : decode cX4_init 8 = .ok (.newarray .int, 2) := by decide +kernel
theorem dX4_init_10 : decode cX4_init 10 = .ok (.putfield 9, 3) := by decide +kernel
theorem dX4_init_13 : decode cX4_init 13 = .ok (.aload_n 0, 1) := by decide +kernel
theorem dX4_init_14 : decode cX4_init 14 = .ok (.aload_n 1, 1) := by decide +kernel
theorem dX4_init_15 : decode cX4_init 15 = .ok (.putfield 15, 3) := by decide +kernel
theorem dX4_init_18 : decode cX4_init 18 = .ok (.return_, 1) := by decide +kernel
theorem dX4_find_0 : decode cX4_find 0 = .ok (.aload_n 0, 1) := by decide +kernel
theorem dX4_find_1 : decode cX4_find 1 = .ok (.aload_n 1, 1) := by decide +kernel
theorem dX4_find_2 : decode cX4_find 2 = .ok (.invokevirtual 19, 3) := by decide +kernel
theorem dX4_find_5 : decode cX4_find 5 = .ok (.istore_n 2, 1) := by decide +kernel
theorem dX4_find_6 : decode cX4_find 6 = .ok (.iconst 0, 1) := by decide +kernel
theorem dX4_find_7 : decode cX4_find 7 = .ok (.istore_n 3, 1) := by decide +kernel
theorem dX4_find_8 : decode cX4_find 8 = .ok (.iload_n 3, 1) := by decide +kernel
theorem dX4_find_9 : decode cX4_find 9 = .ok (.aload_n 0, 1) := by decide +kernel
theorem dX4_find_10 : decode cX4_find 10 = .ok (.getfield 15, 3) := by decide +kernel
theorem dX4_find_13 : decode cX4_find 13 = .ok (.getfield 23, 3) := by decide +kernel
theorem dX4_find_16 : decode cX4_find 16 = .ok (.if_icmp .ge 28, 3) := by decide +kernel
theorem dX4_find_19 : decode cX4_find 19 = .ok (.aload_n 0, 1) := by decide +kernel
theorem dX4_find_20 : decode cX4_find 20 = .ok (.aload_n 1, 1) := by decide +kernel
theorem dX4_find_21 : decode cX4_find 21 = .ok (.iload_n 3, 1) := by decide +kernel
theorem dX4_find_22 : decode cX4_find 22 = .ok (.iload_n 3, 1) := by decide +kernel
theorem dX4_find_23 : decode cX4_find 23 = .ok (.invokevirtual 29, 3) := by decide +kernel
theorem dX4_find_26 : decode cX4_find 26 = .ok (.iload_n 2, 1) := by decide +kernel
theorem dX4_find_27 : decode cX4_find 27 = .ok (.if_icmp .ne 11, 3) := by decide +kernel
theorem dX4_find_30 : decode cX4_find 30 = .ok (.aload_n 0, 1) := by decide +kernel
theorem dX4_find_31 : decode cX4_find 31 = .ok (.iconst 1, 1) := by decide +kernel
theorem dX4_find_32 : decode cX4_find 32 = .ok (.iload_n 3, 1) := by decide +kernel
theorem dX4_find_33 : decode cX4_find 33 = .ok (.iconst (-1), 1) := by decide +kernel
theorem dX4_find_34 : decode cX4_find 34 = .ok (.invokevirtual 33, 3) := by decide +kernel
theorem dX4_find_37 : decode cX4_find 37 = .ok (.return_, 1) := by decide +kernel
theorem dX4_find_38 : decode cX4_find 38 = .ok (.iinc 3 1, 3) := by decide +kernel
theorem dX4_find_41 : decode cX4_find 41 = .ok (.goto (-33), 3) := by decide +kernel
theorem dX4_find_44 : decode cX4_find 44 = .ok (.iconst 0, 1) := by decide +kernel
theorem dX4_find_45 : decode cX4_find 45 = .ok (.istore_n 3, 1) := by decide +kernel
theorem dX4_find_46 : decode cX4_find 46 = .ok (.iload_n 3, 1) := by decide +kernel
theorem dX4_find_47 : decode cX4_find 47 = .ok (.aload_n 0, 1) := by decide +kernel
theorem dX4_find_48 : decode cX4_find 48 = .ok (.getfield 15, 3) := by decide +kernel
theorem dX4_find_51 : decode cX4_find 51 = .ok (.getfield 23, 3) := by decide +kernel
theorem dX4_find_54 : decode cX4_find 54 = .ok (.if_icmp .ge 53, 3) := by decide +kernel
theorem dX4_find_57 : decode cX4_find 57 = .ok (.iload_n 3, 1) := by decide +kernel
theorem dX4_find_58 : decode cX4_find 58 = .ok (.iconst 1, 1) := by decide +kernel
theorem dX4_find_59 : decode cX4_find 59 = .ok (.iadd, 1) := by decide +kernel
theorem dX4_find_60 : decode cX4_find 60 = .ok (.istore 4, 2) := by decide +kernel
theorem dX4_find_62 : decode cX4_find 62 = .ok (.iload 4, 2) := by decide +kernel
theorem dX4_find_64 : decode cX4_find 64 = .ok (.aload_n 0, 1) := by decide +kernel
theorem dX4_find_65 : decode cX4_find 65 = .ok (.getfield 15, 3) := by decide +kernel
theorem dX4_find_68 : decode cX4_find 68 = .ok (.getfield 23, 3) := by decide +kernel
theorem dX4_find_71 : decode cX4_find 71 = .ok (.if_icmp .ge 30, 3) := by decide +kernel
theorem dX4_find_74 : decode cX4_find 74 = .ok (.aload_n 0, 1) := by decide +kernel
theorem dX4_find_75 : decode cX4_find 75 = .ok (.aload_n 1, 1) := by decide +kernel
theorem dX4_find_76 : decode cX4_find 76 = .ok (.iload_n 3, 1) := by decide +kernel
theorem dX4_find_77 : decode cX4_find 77 = .ok (.iload 4, 2) := by decide +kernel
theorem dX4_find_79 : decode cX4_find 79 = .ok (.invokevirtual 29, 3) := by decide +kernel
theorem dX4_find_82 : decode cX4_find 82 = .ok (.iload_n 2, 1) := by decide +kernel
theorem dX4_find_83 : decode cX4_find 83 = .ok (.if_icmp .ne 12, 3) := by decide +kernel
theorem dX4_find_86 : decode cX4_find 86 = .ok (.aload_n 0, 1) := by decide +kernel
theorem dX4_find_87 : decode cX4_find 87 = .ok (.iconst 2, 1) := by decide +kernel
theorem dX4_find_88 : decode cX4_find 88 = .ok (.iload_n 3, 1) := by decide +kernel
theorem dX4_find_89 : decode cX4_find 89 = .ok (.iload 4, 2) := by decide +kernel
theorem dX4_find_91 : decode cX4_find 91 = .ok (.invokevirtual 33, 3) := by decide +kernel
theorem dX4_find_94 : decode cX4_find 94 = .ok (.return_, 1) := by decide +kernel
theorem dX4_find_95 : decode cX4_find 95 = .ok (.iinc 4 1, 3) := by decide +kernel
theorem dX4_find_98 : decode cX4_find 98 = .ok (.goto (-36), 3) := by decide +kernel
theorem dX4_find_101 : decode cX4_find 101 = .ok (.iinc 3 1, 3) := by decide +kernel
theorem dX4_find_104 : decode cX4_find 104 = .ok (.goto (-58), 3) := by decide +kernel
theorem dX4_find_107 : decode cX4_find 107 = .ok (.aload_n 0, 1) := by decide +kernel
theorem dX4_find_108 : decode cX4_find 108 = .ok (.iconst (-1), 1) := by decide +kernel
theorem dX4_find_109 : decode cX4_find 109 = .ok (.iconst (-1), 1) := by decide +kernel
theorem dX4_find_110 : decode cX4_find 110 = .ok (.iconst (-1), 1) := by decide +kernel
theorem dX4_find_111 : decode cX4_find 111 = .ok (.invokevirtual 33, 3) := by decide +kernel
theorem dX4_find_114 : decode cX4_find 114 = .ok (.return_, 1) := by decide +kernel
theorem dX4_answer_0 : decode cX4_answer 0 = .ok (.aload_n 0, 1) := by decide +kernel
theorem dX4_answer_1 : decode cX4_answer 1 = .ok (.iload_n 1, 1) := by decide +kernel
theorem dX4_answer_2 : decode cX4_answer 2 = .ok (.putfield 37, 3) := by decide +kernel
theorem dX4_answer_5 : decode cX4_answer 5 = .ok (.aload_n 0, 1) := by decide +kernel
theorem dX4_answer_6 : decode cX4_answer 6 = .ok (.iload_n 2, 1) := by decide +kernel
theorem dX4_answer_7 : decode cX4_answer 7 = .ok (.putfield 40, 3) := by decide +kernel
theorem dX4_answer_10 : decode cX4_answer 10 = .ok (.aload_n 0, 1) := by decide +kernel
theorem dX4_answer_11 : decode cX4_answer 11 = .ok (.iload_n 3, 1) := by decide +kernel
theorem dX4_answer_12 : decode cX4_answer 12 = .ok (.putfield 43, 3) := by decide +kernel
theorem dX4_answer_15 : decode cX4_answer 15 = .ok (.return_, 1) := by decide +kernel
theorem dX4_sortsOfRows_0 : decode cX4_sortsOfRows 0 = .ok (.iconst 0, 1) := by decide +kernel
theorem dX4_sortsOfRows_1 : decode cX4_sortsOfRows 1 = .ok (.istore_n 2, 1) := by decide +kernel
theorem dX4_sortsOfRows_2 : decode cX4_sortsOfRows 2 = .ok (.iconst 0, 1) := by decide +kernel
theorem dX4_sortsOfRows_3 : decode cX4_sortsOfRows 3 = .ok (.istore_n 3, 1) := by decide +kernel
theorem dX4_sortsOfRows_4 : decode cX4_sortsOfRows 4 = .ok (.iload_n 3, 1) := by decide +kernel
theorem dX4_sortsOfRows_5 : decode cX4_sortsOfRows 5 = .ok (.aload_n 0, 1) := by decide +kernel
theorem dX4_sortsOfRows_6 : decode cX4_sortsOfRows 6 = .ok (.getfield 15, 3) := by decide +kernel
theorem dX4_sortsOfRows_9 : decode cX4_sortsOfRows 9 = .ok (.getfield 23, 3) := by decide +kernel
theorem dX4_sortsOfRows_12 : decode cX4_sortsOfRows 12 = .ok (.if_icmp .ge 61, 3) := by decide +kernel
theorem dX4_sortsOfRows_15 : decode cX4_sortsOfRows 15 = .ok (.iconst 1, 1) := by decide +kernel
theorem dX4_sortsOfRows_16 : decode cX4_sortsOfRows 16 = .ok (.istore 4, 2) := by decide +kernel
theorem dX4_sortsOfRows_18 : decode cX4_sortsOfRows 18 = .ok (.iconst 0, 1) := by decide +kernel
theorem dX4_sortsOfRows_19 : decode cX4_sortsOfRows 19 = .ok (.istore 5, 2) := by decide +kernel
theorem dX4_sortsOfRows_21 : decode cX4_sortsOfRows 21 = .ok (.iload 5, 2) := by decide +kernel
theorem dX4_sortsOfRows_23 : decode cX4_sortsOfRows 23 = .ok (.iload_n 3, 1) := by decide +kernel
theorem dX4_sortsOfRows_24 : decode cX4_sortsOfRows 24 = .ok (.if_icmp .ge 35, 3) := by decide +kernel
theorem dX4_sortsOfRows_27 : decode cX4_sortsOfRows 27 = .ok (.iload 4, 2) := by decide +kernel
theorem dX4_sortsOfRows_29 : decode cX4_sortsOfRows 29 = .ok (.ifCond .eq 30, 3) := by decide +kernel
theorem dX4_sortsOfRows_32 : decode cX4_sortsOfRows 32 = .ok (.aload_n 0, 1) := by decide +kernel
theorem dX4_sortsOfRows_33 : decode cX4_sortsOfRows 33 = .ok (.getfield 15, 3) := by decide +kernel
theorem dX4_sortsOfRows_36 : decode cX4_sortsOfRows 36 = .ok (.aload_n 1, 1) := by decide +kernel
theorem dX4_sortsOfRows_37 : decode cX4_sortsOfRows 37 = .ok (.iload 5, 2) := by decide +kernel
theorem dX4_sortsOfRows_39 : decode cX4_sortsOfRows 39 = .ok (.iload_n 3, 1) := by decide +kernel
theorem dX4_sortsOfRows_40 : decode cX4_sortsOfRows 40 = .ok (.invokevirtual 46, 3) := by decide +kernel
theorem dX4_sortsOfRows_43 : decode cX4_sortsOfRows 43 = .ok (.ifCond .ne 7, 3) := by decide +kernel
theorem dX4_sortsOfRows_46 : decode cX4_sortsOfRows 46 = .ok (.iconst 1, 1) := by decide +kernel
theorem dX4_sortsOfRows_47 : decode cX4_sortsOfRows 47 = .ok (.goto 4, 3) := by decide +kernel
theorem dX4_sortsOfRows_50 : decode cX4_sortsOfRows 50 = .ok (.iconst 0, 1) := by decide +kernel
theorem dX4_sortsOfRows_51 : decode cX4_sortsOfRows 51 = .ok (.istore 4, 2) := by decide +kernel
theorem dX4_sortsOfRows_53 : decode cX4_sortsOfRows 53 = .ok (.iinc 5 1, 3) := by decide +kernel
theorem dX4_sortsOfRows_56 : decode cX4_sortsOfRows 56 = .ok (.goto (-35), 3) := by decide +kernel
theorem dX4_sortsOfRows_59 : decode cX4_sortsOfRows 59 = .ok (.iload 4, 2) := by decide +kernel
theorem dX4_sortsOfRows_61 : decode cX4_sortsOfRows 61 = .ok (.ifCond .eq 6, 3) := by decide +kernel
theorem dX4_sortsOfRows_64 : decode cX4_sortsOfRows 64 = .ok (.iinc 2 1, 3) := by decide +kernel
theorem dX4_sortsOfRows_67 : decode cX4_sortsOfRows 67 = .ok (.iinc 3 1, 3) := by decide +kernel
theorem dX4_sortsOfRows_70 : decode cX4_sortsOfRows 70 = .ok (.goto (-66), 3) := by decide +kernel
theorem dX4_sortsOfRows_73 : decode cX4_sortsOfRows 73 = .ok (.iload_n 2, 1) := by decide +kernel
theorem dX4_sortsOfRows_74 : decode cX4_sortsOfRows 74 = .ok (.ireturn, 1) := by decide +kernel
theorem dX4_partsBy_0 : decode cX4_partsBy 0 = .ok (.aload_n 0, 1) := by decide +kernel
theorem dX4_partsBy_1 : decode cX4_partsBy 1 = .ok (.dup, 1) := by decide +kernel
theorem dX4_partsBy_2 : decode cX4_partsBy 2 = .ok (.getfield 50, 3) := by decide +kernel
theorem dX4_partsBy_5 : decode cX4_partsBy 5 = .ok (.iconst 1, 1) := by decide +kernel
theorem dX4_partsBy_6 : decode cX4_partsBy 6 = .ok (.iadd, 1) := by decide +kernel
theorem dX4_partsBy_7 : decode cX4_partsBy 7 = .ok (.putfield 50, 3) := by decide +kernel
theorem dX4_partsBy_10 : decode cX4_partsBy 10 = .ok (.iconst 0, 1) := by decide +kernel
theorem dX4_partsBy_11 : decode cX4_partsBy 11 = .ok (.istore 4, 2) := by decide +kernel
theorem dX4_partsBy_13 : decode cX4_partsBy 13 = .ok (.iconst 0, 1) := by decide +kernel
theorem dX4_partsBy_14 : decode cX4_partsBy 14 = .ok (.istore 5, 2) := by decide +kernel
theorem dX4_partsBy_16 : decode cX4_partsBy 16 = .ok (.iload 5, 2) := by decide +kernel
theorem dX4_partsBy_18 : decode cX4_partsBy 18 = .ok (.aload_n 0, 1) := by decide +kernel
theorem dX4_partsBy_19 : decode cX4_partsBy 19 = .ok (.getfield 15, 3) := by decide +kernel
theorem dX4_partsBy_22 : decode cX4_partsBy 22 = .ok (.getfield 23, 3) := by decide +kernel
theorem dX4_partsBy_25 : decode cX4_partsBy 25 = .ok (.if_icmp .ge 80, 3) := by decide +kernel
theorem dX4_partsBy_28 : decode cX4_partsBy 28 = .ok (.aload_n 1, 1) := by decide +kernel
theorem dX4_partsBy_29 : decode cX4_partsBy 29 = .ok (.aload_n 0, 1) := by decide +kernel
theorem dX4_partsBy_30 : decode cX4_partsBy 30 = .ok (.getfield 15, 3) := by decide +kernel
theorem dX4_partsBy_33 : decode cX4_partsBy 33 = .ok (.iload_n 2, 1) := by decide +kernel
theorem dX4_partsBy_34 : decode cX4_partsBy 34 = .ok (.iload 5, 2) := by decide +kernel
theorem dX4_partsBy_36 : decode cX4_partsBy 36 = .ok (.invokevirtual 53, 3) := by decide +kernel
theorem dX4_partsBy_39 : decode cX4_partsBy 39 = .ok (.bipush 31, 2) := by decide +kernel
theorem dX4_partsBy_41 : decode cX4_partsBy 41 = .ok (.imul, 1) := by decide +kernel
theorem dX4_partsBy_42 : decode cX4_partsBy 42 = .ok (.aload_n 1, 1) := by decide +kernel
theorem dX4_partsBy_43 : decode cX4_partsBy 43 = .ok (.aload_n 0, 1) := by decide +kernel
theorem dX4_partsBy_44 : decode cX4_partsBy 44 = .ok (.getfield 15, 3) := by decide +kernel
theorem dX4_partsBy_47 : decode cX4_partsBy 47 = .ok (.iload_n 3, 1) := by decide +kernel
theorem dX4_partsBy_48 : decode cX4_partsBy 48 = .ok (.iload 5, 2) := by decide +kernel
theorem dX4_partsBy_50 : decode cX4_partsBy 50 = .ok (.invokevirtual 53, 3) := by decide +kernel
theorem dX4_partsBy_53 : decode cX4_partsBy 53 = .ok (.iadd, 1) := by decide +kernel
theorem dX4_partsBy_54 : decode cX4_partsBy 54 = .ok (.istore 6, 2) := by decide +kernel
theorem dX4_partsBy_56 : decode cX4_partsBy 56 = .ok (.iload 6, 2) := by decide +kernel
theorem dX4_partsBy_58 : decode cX4_partsBy 58 = .ok (.ifCond .lt 41, 3) := by decide +kernel
theorem dX4_partsBy_61 : decode cX4_partsBy 61 = .ok (.iload 6, 2) := by decide +kernel
theorem dX4_partsBy_63 : decode cX4_partsBy 63 = .ok (.aload_n 0, 1) := by decide +kernel
theorem dX4_partsBy_64 : decode cX4_partsBy 64 = .ok (.getfield 9, 3) := by decide +kernel
theorem dX4_partsBy_67 : decode cX4_partsBy 67 = .ok (.arraylength, 1) := by decide +kernel
theorem dX4_partsBy_68 : decode cX4_partsBy 68 = .ok (.if_icmp .ge 31, 3) := by decide +kernel
theorem dX4_partsBy_71 : decode cX4_partsBy 71 = .ok (.aload_n 0, 1) := by decide +kernel
theorem dX4_partsBy_72 : decode cX4_partsBy 72 = .ok (.getfield 9, 3) := by decide +kernel
theorem dX4_partsBy_75 : decode cX4_partsBy 75 = .ok (.iload 6, 2) := by decide +kernel
theorem dX4_partsBy_77 : decode cX4_partsBy 77 = .ok (.iaload, 1) := by decide +kernel
theorem dX4_partsBy_78 : decode cX4_partsBy 78 = .ok (.aload_n 0, 1) := by decide +kernel
theorem dX4_partsBy_79 : decode cX4_partsBy 79 = .ok (.getfield 50, 3) := by decide +kernel
theorem dX4_partsBy_82 : decode cX4_partsBy 82 = .ok (.if_icmp .eq 17, 3) := by decide +kernel
theorem dX4_partsBy_85 : decode cX4_partsBy 85 = .ok (.aload_n 0, 1) := by decide +kernel
theorem dX4_partsBy_86 : decode cX4_partsBy 86 = .ok (.getfield 9, 3) := by decide +kernel
theorem dX4_partsBy_89 : decode cX4_partsBy 89 = .ok (.iload 6, 2) := by decide +kernel
theorem dX4_partsBy_91 : decode cX4_partsBy 91 = .ok (.aload_n 0, 1) := by decide +kernel
theorem dX4_partsBy_92 : decode cX4_partsBy 92 = .ok (.getfield 50, 3) := by decide +kernel
theorem dX4_partsBy_95 : decode cX4_partsBy 95 = .ok (.iastore, 1) := by decide +kernel
theorem dX4_partsBy_96 : decode cX4_partsBy 96 = .ok (.iinc 4 1, 3) := by decide +kernel
theorem dX4_partsBy_99 : decode cX4_partsBy 99 = .ok (.iinc 5 1, 3) := by decide +kernel
theorem dX4_partsBy_102 : decode cX4_partsBy 102 = .ok (.goto (-86), 3) := by decide +kernel
theorem dX4_partsBy_105 : decode cX4_partsBy 105 = .ok (.iload 4, 2) := by decide +kernel
theorem dX4_partsBy_107 : decode cX4_partsBy 107 = .ok (.ireturn, 1) := by decide +kernel
theorem dX5_init_0 : decode cX5_init 0 = .ok (.aload_n 0, 1) := by decide +kernel
theorem dX5_init_1 : decode cX5_init 1 = .ok (.invokespecial 3, 3) := by decide +kernel
theorem dX5_init_4 : decode cX5_init 4 = .ok (.aload_n 0, 1) := by decide +kernel
theorem dX5_init_5 : decode cX5_init 5 = .ok (.sipush 216, 3) := by decide +kernel
theorem dX5_init_8 : decode cX5_init 8 = .ok (.newarray .int, 2) := by decide +kernel
theorem dX5_init_10 : decode cX5_init 10 = .ok (.putfield 9, 3) := by decide +kernel
theorem dX5_init_13 : decode cX5_init 13 = .ok (.aload_n 0, 1) := by decide +kernel
theorem dX5_init_14 : decode cX5_init 14 = .ok (.sipush 216, 3) := by decide +kernel
theorem dX5_init_17 : decode cX5_init 17 = .ok (.newarray .boolean, 2) := by decide +kernel
theorem dX5_init_19 : decode cX5_init 19 = .ok (.putfield 15, 3) := by decide +kernel
theorem dX5_init_22 : decode cX5_init 22 = .ok (.aload_n 0, 1) := by decide +kernel
theorem dX5_init_23 : decode cX5_init 23 = .ok (.bipush 31, 2) := by decide +kernel
theorem dX5_init_25 : decode cX5_init 25 = .ok (.newarray .int, 2) := by decide +kernel
theorem dX5_init_27 : decode cX5_init 27 = .ok (.putfield 19, 3) := by decide +kernel
theorem dX5_init_30 : decode cX5_init 30 = .ok (.aload_n 0, 1) := by decide +kernel
theorem dX5_init_31 : decode cX5_init 31 = .ok (.aload_n 1, 1) := by decide +kernel
theorem dX5_init_32 : decode cX5_init 32 = .ok (.putfield 22, 3) := by decide +kernel
theorem dX5_init_35 : decode cX5_init 35 = .ok (.return_, 1) := by decide +kernel
theorem dX5_fill_0 : decode cX5_fill 0 = .ok (.aload_n 0, 1) := by decide +kernel
theorem dX5_fill_1 : decode cX5_fill 1 = .ok (.aload_n 0, 1) := by decide +kernel
theorem dX5_fill_2 : decode cX5_fill 2 = .ok (.getfield 22, 3) := by decide +kernel
theorem dX5_fill_5 : decode cX5_fill 5 = .ok (.getfield 26, 3) := by decide +kernel
theorem dX5_fill_8 : decode cX5_fill 8 = .ok (.putfield 32, 3) := by decide +kernel
theorem dX5_fill_11 : decode cX5_fill 11 = .ok (.iconst 0, 1) := by decide +kernel
theorem dX5_fill_12 : decode cX5_fill 12 = .ok (.istore_n 1, 1) := by decide +kernel
theorem dX5_fill_13 : decode cX5_fill 13 = .ok (.iload_n 1, 1) := by decide +kernel
theorem dX5_fill_14 : decode cX5_fill 14 = .ok (.aload_n 0, 1) := by decide +kernel
theorem dX5_fill_15 : decode cX5_fill 15 = .ok (.getfield 32, 3) := by decide +kernel
theorem dX5_fill_18 : decode cX5_fill 18 = .ok (.if_icmp .ge 23, 3) := by decide +kernel
theorem dX5_fill_21 : decode cX5_fill 21 = .ok (.aload_n 0, 1) := by decide +kernel
theorem dX5_fill_22 : decode cX5_fill 22 = .ok (.getfield 9, 3) := by decide +kernel
theorem dX5_fill_25 : decode cX5_fill 25 = .ok (.iload_n 1, 1) := by decide +kernel
theorem dX5_fill_26 : decode cX5_fill 26 = .ok (.iload_n 1, 1) := by decide +kernel
theorem dX5_fill_27 : decode cX5_fill 27 = .ok (.iastore, 1) := by decide +kernel
theorem dX5_fill_28 : decode cX5_fill 28 = .ok (.aload_n 0, 1) := by decide +kernel
theorem dX5_fill_29 : decode cX5_fill 29 = .ok (.getfield 15, 3) := by decide +kernel
theorem dX5_fill_32 : decode cX5_fill 32 = .ok (.iload_n 1, 1) := by decide +kernel
theorem dX5_fill_33 : decode cX5_fill 33 = .ok (.iconst 1, 1) := by decide +kernel
theorem dX5_fill_34 : decode cX5_fill 34 = .ok (.bastore, 1) := by decide +kernel
theorem dX5_fill_35 : decode cX5_fill 35 = .ok (.iinc 1 1, 3) := by decide +kernel
theorem dX5_fill_38 : decode cX5_fill 38 = .ok (.goto (-25), 3) := by decide +kernel
theorem dX5_fill_41 : decode cX5_fill 41 = .ok (.return_, 1) := by decide +kernel
theorem dX5_keep_0 : decode cX5_keep 0 = .ok (.iconst 0, 1) := by decide +kernel
theorem dX5_keep_1 : decode cX5_keep 1 = .ok (.istore 4, 2) := by decide +kernel
theorem dX5_keep_3 : decode cX5_keep 3 = .ok (.iconst 0, 1) := by decide +kernel
theorem dX5_keep_4 : decode cX5_keep 4 = .ok (.istore 5, 2) := by decide +kernel
theorem dX5_keep_6 : decode cX5_keep 6 = .ok (.iload 5, 2) := by decide +kernel
theorem dX5_keep_8 : decode cX5_keep 8 = .ok (.aload_n 0, 1) := by decide +kernel
theorem dX5_keep_9 : decode cX5_keep 9 = .ok (.getfield 32, 3) := by decide +kernel
theorem dX5_keep_12 : decode cX5_keep 12 = .ok (.if_icmp .ge 56, 3) := by decide +kernel
theorem dX5_keep_15 : decode cX5_keep 15 = .ok (.aload_n 0, 1) := by decide +kernel
theorem dX5_keep_16 : decode cX5_keep 16 = .ok (.getfield 9, 3) := by decide +kernel
theorem dX5_keep_19 : decode cX5_keep 19 = .ok (.iload 5, 2) := by decide +kernel
theorem dX5_keep_21 : decode cX5_keep 21 = .ok (.iaload, 1) := by decide +kernel
theorem dX5_keep_22 : decode cX5_keep 22 = .ok (.istore 6, 2) := by decide +kernel
theorem dX5_keep_24 : decode cX5_keep 24 = .ok (.aload_n 1, 1) := by decide +kernel
theorem dX5_keep_25 : decode cX5_keep 25 = .ok (.aload_n 0, 1) := by decide +kernel
theorem dX5_keep_26 : decode cX5_keep 26 = .ok (.getfield 22, 3) := by decide +kernel
theorem dX5_keep_29 : decode cX5_keep 29 = .ok (.iload_n 2, 1) := by decide +kernel
theorem dX5_keep_30 : decode cX5_keep 30 = .ok (.iload 6, 2) := by decide +kernel
theorem dX5_keep_32 : decode cX5_keep 32 = .ok (.invokevirtual 33, 3) := by decide +kernel
theorem dX5_keep_35 : decode cX5_keep 35 = .ok (.iload_n 3, 1) := by decide +kernel
theorem dX5_keep_36 : decode cX5_keep 36 = .ok (.if_icmp .ne 18, 3) := by decide +kernel
theorem dX5_keep_39 : decode cX5_keep 39 = .ok (.aload_n 0, 1) := by decide +kernel
theorem dX5_keep_40 : decode cX5_keep 40 = .ok (.getfield 9, 3) := by decide +kernel
theorem dX5_keep_43 : decode cX5_keep 43 = .ok (.iload 4, 2) := by decide +kernel
theorem dX5_keep_45 : decode cX5_keep 45 = .ok (.iload 6, 2) := by decide +kernel
theorem dX5_keep_47 : decode cX5_keep 47 = .ok (.iastore, 1) := by decide +kernel
theorem dX5_keep_48 : decode cX5_keep 48 = .ok (.iinc 4 1, 3) := by decide +kernel
theorem dX5_keep_51 : decode cX5_keep 51 = .ok (.goto 11, 3) := by decide +kernel
theorem dX5_keep_54 : decode cX5_keep 54 = .ok (.aload_n 0, 1) := by decide +kernel
theorem dX5_keep_55 : decode cX5_keep 55 = .ok (.getfield 15, 3) := by decide +kernel
theorem dX5_keep_58 : decode cX5_keep 58 = .ok (.iload 6, 2) := by decide +kernel
theorem dX5_keep_60 : decode cX5_keep 60 = .ok (.iconst 0, 1) := by decide +kernel
theorem dX5_keep_61 : decode cX5_keep 61 = .ok (.bastore, 1) := by decide +kernel
theorem dX5_keep_62 : decode cX5_keep 62 = .ok (.iinc 5 1, 3) := by decide +kernel
theorem dX5_keep_65 : decode cX5_keep 65 = .ok (.goto (-59), 3) := by decide +kernel
theorem dX5_keep_68 : decode cX5_keep 68 = .ok (.aload_n 0, 1) := by decide +kernel
theorem dX5_keep_69 : decode cX5_keep 69 = .ok (.iload 4, 2) := by decide +kernel
theorem dX5_keep_71 : decode cX5_keep 71 = .ok (.putfield 32, 3) := by decide +kernel
theorem dX5_keep_74 : decode cX5_keep 74 = .ok (.return_, 1) := by decide +kernel
theorem dX5_drop_0 : decode cX5_drop 0 = .ok (.iconst 0, 1) := by decide +kernel
theorem dX5_drop_1 : decode cX5_drop 1 = .ok (.istore_n 2, 1) := by decide +kernel
theorem dX5_drop_2 : decode cX5_drop 2 = .ok (.iconst 0, 1) := by decide +kernel
theorem dX5_drop_3 : decode cX5_drop 3 = .ok (.istore_n 3, 1) := by decide +kernel
theorem dX5_drop_4 : decode cX5_drop 4 = .ok (.iload_n 3, 1) := by decide +kernel
theorem dX5_drop_5 : decode cX5_drop 5 = .ok (.aload_n 0, 1) := by decide +kernel
theorem dX5_drop_6 : decode cX5_drop 6 = .ok (.getfield 32, 3) := by decide +kernel
theorem dX5_drop_9 : decode cX5_drop 9 = .ok (.if_icmp .ge 34, 3) := by decide +kernel
theorem dX5_drop_12 : decode cX5_drop 12 = .ok (.aload_n 0, 1) := by decide +kernel
theorem dX5_drop_13 : decode cX5_drop 13 = .ok (.getfield 9, 3) := by decide +kernel
theorem dX5_drop_16 : decode cX5_drop 16 = .ok (.iload_n 3, 1) := by decide +kernel
theorem dX5_drop_17 : decode cX5_drop 17 = .ok (.iaload, 1) := by decide +kernel
theorem dX5_drop_18 : decode cX5_drop 18 = .ok (.iload_n 1, 1) := by decide +kernel
theorem dX5_drop_19 : decode cX5_drop 19 = .ok (.if_icmp .eq 18, 3) := by decide +kernel
theorem dX5_drop_22 : decode cX5_drop 22 = .ok (.aload_n 0, 1) := by decide +kernel
theorem dX5_drop_23 : decode cX5_drop 23 = .ok (.getfield 9, 3) := by decide +kernel
theorem dX5_drop_26 : decode cX5_drop 26 = .ok (.iload_n 2, 1) := by decide +kernel
theorem dX5_drop_27 : decode cX5_drop 27 = .ok (.aload_n 0, 1) := by decide +kernel
theorem dX5_drop_28 : decode cX5_drop 28 = .ok (.getfield 9, 3) := by decide +kernel
theorem dX5_drop_31 : decode cX5_drop 31 = .ok (.iload_n 3, 1) := by decide +kernel
theorem dX5_drop_32 : decode cX5_drop 32 = .ok (.iaload, 1) := by decide +kernel
theorem dX5_drop_33 : decode cX5_drop 33 = .ok (.iastore, 1) := by decide +kernel
theorem dX5_drop_34 : decode cX5_drop 34 = .ok (.iinc 2 1, 3) := by decide +kernel
theorem dX5_drop_37 : decode cX5_drop 37 = .ok (.iinc 3 1, 3) := by decide +kernel
theorem dX5_drop_40 : decode cX5_drop 40 = .ok (.goto (-36), 3) := by decide +kernel
theorem dX5_drop_43 : decode cX5_drop 43 = .ok (.aload_n 0, 1) := by decide +kernel
theorem dX5_drop_44 : decode cX5_drop 44 = .ok (.iload_n 2, 1) := by decide +kernel
theorem dX5_drop_45 : decode cX5_drop 45 = .ok (.putfield 32, 3) := by decide +kernel
theorem dX5_drop_48 : decode cX5_drop 48 = .ok (.aload_n 0, 1) := by decide +kernel
theorem dX5_drop_49 : decode cX5_drop 49 = .ok (.getfield 15, 3) := by decide +kernel
theorem dX5_drop_52 : decode cX5_drop 52 = .ok (.iload_n 1, 1) := by decide +kernel
theorem dX5_drop_53 : decode cX5_drop 53 = .ok (.iconst 0, 1) := by decide +kernel
theorem dX5_drop_54 : decode cX5_drop 54 = .ok (.bastore, 1) := by decide +kernel
theorem dX5_drop_55 : decode cX5_drop 55 = .ok (.return_, 1) := by decide +kernel
theorem dX5_bestRow_0 : decode cX5_bestRow 0 = .ok (.iconst (-1), 1) := by decide +kernel
theorem dX5_bestRow_1 : decode cX5_bestRow 1 = .ok (.istore_n 2, 1) := by decide +kernel
theorem dX5_bestRow_2 : decode cX5_bestRow 2 = .ok (.sipush 434, 3) := by decide +kernel
theorem dX5_bestRow_5 : decode cX5_bestRow 5 = .ok (.istore_n 3, 1) := by decide +kernel
theorem dX5_bestRow_6 : decode cX5_bestRow 6 = .ok (.iconst 0, 1) := by decide +kernel
theorem dX5_bestRow_7 : decode cX5_bestRow 7 = .ok (.istore 4, 2) := by decide +kernel
theorem dX5_bestRow_9 : decode cX5_bestRow 9 = .ok (.iload 4, 2) := by decide +kernel
theorem dX5_bestRow_11 : decode cX5_bestRow 11 = .ok (.aload_n 0, 1) := by decide +kernel
theorem dX5_bestRow_12 : decode cX5_bestRow 12 = .ok (.getfield 22, 3) := by decide +kernel
theorem dX5_bestRow_15 : decode cX5_bestRow 15 = .ok (.getfield 26, 3) := by decide +kernel
theorem dX5_bestRow_18 : decode cX5_bestRow 18 = .ok (.if_icmp .ge 55, 3) := by decide +kernel
theorem dX5_bestRow_21 : decode cX5_bestRow 21 = .ok (.aload_n 0, 1) := by decide +kernel
theorem dX5_bestRow_22 : decode cX5_bestRow 22 = .ok (.getfield 32, 3) := by decide +kernel
theorem dX5_bestRow_25 : decode cX5_bestRow 25 = .ok (.ifCond .le 48, 3) := by decide +kernel
theorem dX5_bestRow_28 : decode cX5_bestRow 28 = .ok (.iconst 2, 1) := by decide +kernel
theorem dX5_bestRow_29 : decode cX5_bestRow 29 = .ok (.aload_n 0, 1) := by decide +kernel
theorem dX5_bestRow_30 : decode cX5_bestRow 30 = .ok (.aload_n 1, 1) := by decide +kernel
theorem dX5_bestRow_31 : decode cX5_bestRow 31 = .ok (.iload 4, 2) := by decide +kernel
theorem dX5_bestRow_33 : decode cX5_bestRow 33 = .ok (.invokevirtual 39, 3) := by decide +kernel
theorem dX5_bestRow_36 : decode cX5_bestRow 36 = .ok (.imul, 1) := by decide +kernel
theorem dX5_bestRow_37 : decode cX5_bestRow 37 = .ok (.aload_n 0, 1) := by decide +kernel
theorem dX5_bestRow_38 : decode cX5_bestRow 38 = .ok (.getfield 15, 3) := by decide +kernel
theorem dX5_bestRow_41 : decode cX5_bestRow 41 = .ok (.iload 4, 2) := by decide +kernel
theorem dX5_bestRow_43 : decode cX5_bestRow 43 = .ok (.baload, 1) := by decide +kernel
theorem dX5_bestRow_44 : decode cX5_bestRow 44 = .ok (.ifCond .eq 7, 3) := by decide +kernel
theorem dX5_bestRow_47 : decode cX5_bestRow 47 = .ok (.iconst 0, 1) := by decide +kernel
theorem dX5_bestRow_48 : decode cX5_bestRow 48 = .ok (.goto 4, 3) := by decide +kernel
theorem dX5_bestRow_51 : decode cX5_bestRow 51 = .ok (.iconst 1, 1) := by decide +kernel
theorem dX5_bestRow_52 : decode cX5_bestRow 52 = .ok (.iadd, 1) := by decide +kernel
theorem dX5_bestRow_53 : decode cX5_bestRow 53 = .ok (.istore 5, 2) := by decide +kernel
theorem dX5_bestRow_55 : decode cX5_bestRow 55 = .ok (.iload 5, 2) := by decide +kernel
theorem dX5_bestRow_57 : decode cX5_bestRow 57 = .ok (.iload_n 3, 1) := by decide +kernel
theorem dX5_bestRow_58 : decode cX5_bestRow 58 = .ok (.if_icmp .ge 9, 3) := by decide +kernel
theorem dX5_bestRow_61 : decode cX5_bestRow 61 = .ok (.iload 5, 2) := by decide +kernel
theorem dX5_bestRow_63 : decode cX5_bestRow 63 = .ok (.istore_n 3, 1) := by decide +kernel
theorem dX5_bestRow_64 : decode cX5_bestRow 64 = .ok (.iload 4, 2) := by decide +kernel
theorem dX5_bestRow_66 : decode cX5_bestRow 66 = .ok (.istore_n 2, 1) := by decide +kernel
theorem dX5_bestRow_67 : decode cX5_bestRow 67 = .ok (.iinc 4 1, 3) := by decide +kernel
theorem dX5_bestRow_70 : decode cX5_bestRow 70 = .ok (.goto (-61), 3) := by decide +kernel
theorem dX5_bestRow_73 : decode cX5_bestRow 73 = .ok (.iload_n 2, 1) := by decide +kernel
theorem dX5_bestRow_74 : decode cX5_bestRow 74 = .ok (.ireturn, 1) := by decide +kernel
theorem dX5_worst_0 : decode cX5_worst 0 = .ok (.aload_n 0, 1) := by decide +kernel
theorem dX5_worst_1 : decode cX5_worst 1 = .ok (.aload_n 1, 1) := by decide +kernel
theorem dX5_worst_2 : decode cX5_worst 2 = .ok (.iload_n 2, 1) := by decide +kernel
theorem dX5_worst_3 : decode cX5_worst 3 = .ok (.invokevirtual 43, 3) := by decide +kernel
theorem dX5_worst_6 : decode cX5_worst 6 = .ok (.iconst 0, 1) := by decide +kernel
theorem dX5_worst_7 : decode cX5_worst 7 = .ok (.istore_n 3, 1) := by decide +kernel
theorem dX5_worst_8 : decode cX5_worst 8 = .ok (.aload_n 0, 1) := by decide +kernel
theorem dX5_worst_9 : decode cX5_worst 9 = .ok (.getfield 19, 3) := by decide +kernel
theorem dX5_worst_12 : decode cX5_worst 12 = .ok (.astore 4, 2) := by decide +kernel
theorem dX5_worst_14 : decode cX5_worst 14 = .ok (.aload 4, 2) := by decide +kernel
theorem dX5_worst_16 : decode cX5_worst 16 = .ok (.arraylength, 1) := by decide +kernel
theorem dX5_worst_17 : decode cX5_worst 17 = .ok (.istore 5, 2) := by decide +kernel
theorem dX5_worst_19 : decode cX5_worst 19 = .ok (.iconst 0, 1) := by decide +kernel
theorem dX5_worst_20 : decode cX5_worst 20 = .ok (.istore 6, 2) := by decide +kernel
theorem dX5_worst_22 : decode cX5_worst 22 = .ok (.iload 6, 2) := by decide +kernel
theorem dX5_worst_24 : decode cX5_worst 24 = .ok (.iload 5, 2) := by decide +kernel
theorem dX5_worst_26 : decode cX5_worst 26 = .ok (.if_icmp .ge 23, 3) := by decide +kernel
theorem dX5_worst_29 : decode cX5_worst 29 = .ok (.aload 4, 2) := by decide +kernel
theorem dX5_worst_31 : decode cX5_worst 31 = .ok (.iload 6, 2) := by decide +kernel
theorem dX5_worst_33 : decode cX5_worst 33 = .ok (.iaload, 1) := by decide +kernel
theorem dX5_worst_34 : decode cX5_worst 34 = .ok (.istore 7, 2) := by decide +kernel
theorem dX5_worst_36 : decode cX5_worst 36 = .ok (.iload_n 3, 1) := by decide +kernel
theorem dX5_worst_37 : decode cX5_worst 37 = .ok (.iload 7, 2) := by decide +kernel
theorem dX5_worst_39 : decode cX5_worst 39 = .ok (.invokestatic 47, 3) := by decide +kernel
theorem dX5_worst_42 : decode cX5_worst 42 = .ok (.istore_n 3, 1) := by decide +kernel
theorem dX5_worst_43 : decode cX5_worst 43 = .ok (.iinc 6 1, 3) := by decide +kernel
theorem dX5_worst_46 : decode cX5_worst 46 = .ok (.goto (-24), 3) := by decide +kernel
theorem dX5_worst_49 : decode cX5_worst 49 = .ok (.iload_n 3, 1) := by decide +kernel
theorem dX5_worst_50 : decode cX5_worst 50 = .ok (.ireturn, 1) := by decide +kernel
theorem dX5_squares_0 : decode cX5_squares 0 = .ok (.aload_n 0, 1) := by decide +kernel
theorem dX5_squares_1 : decode cX5_squares 1 = .ok (.aload_n 1, 1) := by decide +kernel
theorem dX5_squares_2 : decode cX5_squares 2 = .ok (.iload_n 2, 1) := by decide +kernel
theorem dX5_squares_3 : decode cX5_squares 3 = .ok (.invokevirtual 43, 3) := by decide +kernel
theorem dX5_squares_6 : decode cX5_squares 6 = .ok (.iconst 0, 1) := by decide +kernel
theorem dX5_squares_7 : decode cX5_squares 7 = .ok (.istore_n 3, 1) := by decide +kernel
theorem dX5_squares_8 : decode cX5_squares 8 = .ok (.aload_n 0, 1) := by decide +kernel
theorem dX5_squares_9 : decode cX5_squares 9 = .ok (.getfield 19, 3) := by decide +kernel
theorem dX5_squares_12 : decode cX5_squares 12 = .ok (.astore 4, 2) := by decide +kernel
theorem dX5_squares_14 : decode cX5_squares 14 = .ok (.aload 4, 2) := by decide +kernel
theorem dX5_squares_16 : decode cX5_squares 16 = .ok (.arraylength, 1) := by decide +kernel
theorem dX5_squares_17 : decode cX5_squares 17 = .ok (.istore 5, 2) := by decide +kernel
theorem dX5_squares_19 : decode cX5_squares 19 = .ok (.iconst 0, 1) := by decide +kernel
theorem dX5_squares_20 : decode cX5_squares 20 = .ok (.istore 6, 2) := by decide +kernel
theorem dX5_squares_22 : decode cX5_squares 22 = .ok (.iload 6, 2) := by decide +kernel
theorem dX5_squares_24 : decode cX5_squares 24 = .ok (.iload 5, 2) := by decide +kernel
theorem dX5_squares_26 : decode cX5_squares 26 = .ok (.if_icmp .ge 24, 3) := by decide +kernel
theorem dX5_squares_29 : decode cX5_squares 29 = .ok (.aload 4, 2) := by decide +kernel
theorem dX5_squares_31 : decode cX5_squares 31 = .ok (.iload 6, 2) := by decide +kernel
theorem dX5_squares_33 : decode cX5_squares 33 = .ok (.iaload, 1) := by decide +kernel
theorem dX5_squares_34 : decode cX5_squares 34 = .ok (.istore 7, 2) := by decide +kernel
theorem dX5_squares_36 : decode cX5_squares 36 = .ok (.iload_n 3, 1) := by decide +kernel
theorem dX5_squares_37 : decode cX5_squares 37 = .ok (.iload 7, 2) := by decide +kernel
theorem dX5_squares_39 : decode cX5_squares 39 = .ok (.iload 7, 2) := by decide +kernel
theorem dX5_squares_41 : decode cX5_squares 41 = .ok (.imul, 1) := by decide +kernel
theorem dX5_squares_42 : decode cX5_squares 42 = .ok (.iadd, 1) := by decide +kernel
theorem dX5_squares_43 : decode cX5_squares 43 = .ok (.istore_n 3, 1) := by decide +kernel
theorem dX5_squares_44 : decode cX5_squares 44 = .ok (.iinc 6 1, 3) := by decide +kernel
theorem dX5_squares_47 : decode cX5_squares 47 = .ok (.goto (-25), 3) := by decide +kernel
theorem dX5_squares_50 : decode cX5_squares 50 = .ok (.iload_n 3, 1) := by decide +kernel
theorem dX5_squares_51 : decode cX5_squares 51 = .ok (.ireturn, 1) := by decide +kernel
theorem dX5_tally_0 : decode cX5_tally 0 = .ok (.iconst 0, 1) := by decide +kernel
theorem dX5_tally_1 : decode cX5_tally 1 = .ok (.istore_n 3, 1) := by decide +kernel
theorem dX5_tally_2 : decode cX5_tally 2 = .ok (.iload_n 3, 1) := by decide +kernel
theorem dX5_tally_3 : decode cX5_tally 3 = .ok (.aload_n 0, 1) := by decide +kernel
theorem dX5_tally_4 : decode cX5_tally 4 = .ok (.getfield 19, 3) := by decide +kernel
theorem dX5_tally_7 : decode cX5_tally 7 = .ok (.arraylength, 1) := by decide +kernel
theorem dX5_tally_8 : decode cX5_tally 8 = .ok (.if_icmp .ge 16, 3) := by decide +kernel
theorem dX5_tally_11 : decode cX5_tally 11 = .ok (.aload_n 0, 1) := by decide +kernel
theorem dX5_tally_12 : decode cX5_tally 12 = .ok (.getfield 19, 3) := by decide +kernel
theorem dX5_tally_15 : decode cX5_tally 15 = .ok (.iload_n 3, 1) := by decide +kernel
theorem dX5_tally_16 : decode cX5_tally 16 = .ok (.iconst 0, 1) := by decide +kernel
theorem dX5_tally_17 : decode cX5_tally 17 = .ok (.iastore, 1) := by decide +kernel
theorem dX5_tally_18 : decode cX5_tally 18 = .ok (.iinc 3 1, 3) := by decide +kernel
theorem dX5_tally_21 : decode cX5_tally 21 = .ok (.goto (-19), 3) := by decide +kernel
theorem dX5_tally_24 : decode cX5_tally 24 = .ok (.iconst 0, 1) := by decide +kernel
theorem dX5_tally_25 : decode cX5_tally 25 = .ok (.istore_n 3, 1) := by decide +kernel
theorem dX5_tally_26 : decode cX5_tally 26 = .ok (.iload_n 3, 1) := by decide +kernel
theorem dX5_tally_27 : decode cX5_tally 27 = .ok (.aload_n 0, 1) := by decide +kernel
theorem dX5_tally_28 : decode cX5_tally 28 = .ok (.getfield 32, 3) := by decide +kernel
theorem dX5_tally_31 : decode cX5_tally 31 = .ok (.if_icmp .ge 52, 3) := by decide +kernel
theorem dX5_tally_34 : decode cX5_tally 34 = .ok (.aload_n 1, 1) := by decide +kernel
theorem dX5_tally_35 : decode cX5_tally 35 = .ok (.aload_n 0, 1) := by decide +kernel
theorem dX5_tally_36 : decode cX5_tally 36 = .ok (.getfield 22, 3) := by decide +kernel
theorem dX5_tally_39 : decode cX5_tally 39 = .ok (.iload_n 2, 1) := by decide +kernel
theorem dX5_tally_40 : decode cX5_tally 40 = .ok (.aload_n 0, 1) := by decide +kernel
theorem dX5_tally_41 : decode cX5_tally 41 = .ok (.getfield 9, 3) := by decide +kernel
theorem dX5_tally_44 : decode cX5_tally 44 = .ok (.iload_n 3, 1) := by decide +kernel
theorem dX5_tally_45 : decode cX5_tally 45 = .ok (.iaload, 1) := by decide +kernel
theorem dX5_tally_46 : decode cX5_tally 46 = .ok (.invokevirtual 33, 3) := by decide +kernel
theorem dX5_tally_49 : decode cX5_tally 49 = .ok (.istore 4, 2) := by decide +kernel
theorem dX5_tally_51 : decode cX5_tally 51 = .ok (.iload 4, 2) := by decide +kernel
theorem dX5_tally_53 : decode cX5_tally 53 = .ok (.ifCond .lt 24, 3) := by decide +kernel
theorem dX5_tally_56 : decode cX5_tally 56 = .ok (.iload 4, 2) := by decide +kernel
theorem dX5_tally_58 : decode cX5_tally 58 = .ok (.aload_n 0, 1) := by decide +kernel
theorem dX5_tally_59 : decode cX5_tally 59 = .ok (.getfield 19, 3) := by decide +kernel
theorem dX5_tally_62 : decode cX5_tally 62 = .ok (.arraylength, 1) := by decide +kernel
theorem dX5_tally_63 : decode cX5_tally 63 = .ok (.if_icmp .ge 14, 3) := by decide +kernel
theorem dX5_tally_66 : decode cX5_tally 66 = .ok (.aload_n 0, 1) := by decide +kernel
theorem dX5_tally_67 : decode cX5_tally 67 = .ok (.getfield 19, 3) := by decide +kernel
theorem dX5_tally_70 : decode cX5_tally 70 = .ok (.iload 4, 2) := by decide +kernel
theorem dX5_tally_72 : decode cX5_tally 72 = .ok (.dup2, 1) := by decide +kernel
theorem dX5_tally_73 : decode cX5_tally 73 = .ok (.iaload, 1) := by decide +kernel
theorem dX5_tally_74 : decode cX5_tally 74 = .ok (.iconst 1, 1) := by decide +kernel
theorem dX5_tally_75 : decode cX5_tally 75 = .ok (.iadd, 1) := by decide +kernel
theorem dX5_tally_76 : decode cX5_tally 76 = .ok (.iastore, 1) := by decide +kernel
theorem dX5_tally_77 : decode cX5_tally 77 = .ok (.iinc 3 1, 3) := by decide +kernel
theorem dX5_tally_80 : decode cX5_tally 80 = .ok (.goto (-54), 3) := by decide +kernel
theorem dX5_tally_83 : decode cX5_tally 83 = .ok (.return_, 1) := by decide +kernel
theorem dX6_init_0 : decode cX6_init 0 = .ok (.aload_n 0, 1) := by decide +kernel
theorem dX6_init_1 : decode cX6_init 1 = .ok (.invokespecial 3, 3) := by decide +kernel
theorem dX6_init_4 : decode cX6_init 4 = .ok (.aload_n 0, 1) := by decide +kernel
theorem dX6_init_5 : decode cX6_init 5 = .ok (.sipush 216, 3) := by decide +kernel
theorem dX6_init_8 : decode cX6_init 8 = .ok (.newarray .int, 2) := by decide +kernel
theorem dX6_init_10 : decode cX6_init 10 = .ok (.putfield 9, 3) := by decide +kernel
theorem dX6_init_13 : decode cX6_init 13 = .ok (.aload_n 0, 1) := by decide +kernel
theorem dX6_init_14 : decode cX6_init 14 = .ok (.sipush 216, 3) := by decide +kernel
theorem dX6_init_17 : decode cX6_init 17 = .ok (.newarray .int, 2) := by decide +kernel
theorem dX6_init_19 : decode cX6_init 19 = .ok (.putfield 15, 3) := by decide +kernel
theorem dX6_init_22 : decode cX6_init 22 = .ok (.aload_n 0, 1) := by decide +kernel
theorem dX6_init_23 : decode cX6_init 23 = .ok (.sipush 216, 3) := by decide +kernel
theorem dX6_init_26 : decode cX6_init 26 = .ok (.newarray .int, 2) := by decide +kernel
theorem dX6_init_28 : decode cX6_init 28 = .ok (.putfield 18, 3) := by decide +kernel
theorem dX6_init_31 : decode cX6_init 31 = .ok (.return_, 1) := by decide +kernel
theorem dX6_lay_0 : decode cX6_lay 0 = .ok (.aload_n 0, 1) := by decide +kernel
theorem dX6_lay_1 : decode cX6_lay 1 = .ok (.iload_n 1, 1) := by decide +kernel
theorem dX6_lay_2 : decode cX6_lay 2 = .ok (.putfield 21, 3) := by decide +kernel
theorem dX6_lay_5 : decode cX6_lay 5 = .ok (.aload_n 0, 1) := by decide +kernel
theorem dX6_lay_6 : decode cX6_lay 6 = .ok (.iload_n 2, 1) := by decide +kernel
theorem dX6_lay_7 : decode cX6_lay 7 = .ok (.putfield 25, 3) := by decide +kernel
theorem dX6_lay_10 : decode cX6_lay 10 = .ok (.aload_n 0, 1) := by decide +kernel
theorem dX6_lay_11 : decode cX6_lay 11 = .ok (.iconst 1, 1) := by decide +kernel
theorem dX6_lay_12 : decode cX6_lay 12 = .ok (.putfield 28, 3) := by decide +kernel
theorem dX6_lay_15 : decode cX6_lay 15 = .ok (.iconst 0, 1) := by decide +kernel
theorem dX6_lay_16 : decode cX6_lay 16 = .ok (.istore_n 3, 1) := by decide +kernel
theorem dX6_lay_17 : decode cX6_lay 17 = .ok (.iload_n 3, 1) := by decide +kernel
theorem dX6_lay_18 : decode cX6_lay 18 = .ok (.iload_n 1, 1) := by decide +kernel
theorem dX6_lay_19 : decode cX6_lay 19 = .ok (.if_icmp .ge 19, 3) := by decide +kernel
theorem dX6_lay_22 : decode cX6_lay 22 = .ok (.aload_n 0, 1) := by decide +kernel
theorem dX6_lay_23 : decode cX6_lay 23 = .ok (.dup, 1) := by decide +kernel
theorem dX6_lay_24 : decode cX6_lay 24 = .ok (.getfield 28, 3) := by decide +kernel
theorem dX6_lay_27 : decode cX6_lay 27 = .ok (.iload_n 2, 1) := by decide +kernel
theorem dX6_lay_28 : decode cX6_lay 28 = .ok (.imul, 1) := by decide +kernel
theorem dX6_lay_29 : decode cX6_lay 29 = .ok (.putfield 28, 3) := by decide +kernel
theorem dX6_lay_32 : decode cX6_lay 32 = .ok (.iinc 3 1, 3) := by decide +kernel
theorem dX6_lay_35 : decode cX6_lay 35 = .ok (.goto (-18), 3) := by decide +kernel
theorem dX6_lay_38 : decode cX6_lay 38 = .ok (.iconst 0, 1) := by decide +kernel
theorem dX6_lay_39 : decode cX6_lay 39 = .ok (.istore_n 3, 1) := by decide +kernel
theorem dX6_lay_40 : decode cX6_lay 40 = .ok (.iload_n 3, 1) := by decide +kernel
theorem dX6_lay_41 : decode cX6_lay 41 = .ok (.aload_n 0, 1) := by decide +kernel
theorem dX6_lay_42 : decode cX6_lay 42 = .ok (.getfield 28, 3) := by decide +kernel
theorem dX6_lay_45 : decode cX6_lay 45 = .ok (.if_icmp .ge 14, 3) := by decide +kernel
theorem dX6_lay_48 : decode cX6_lay 48 = .ok (.aload_n 0, 1) := by decide +kernel
theorem dX6_lay_49 : decode cX6_lay 49 = .ok (.iload_n 3, 1) := by decide +kernel
theorem dX6_lay_50 : decode cX6_lay 50 = .ok (.invokevirtual 31, 3) := by decide +kernel
theorem dX6_lay_53 : decode cX6_lay 53 = .ok (.iinc 3 1, 3) := by decide +kernel
theorem dX6_lay_56 : decode cX6_lay 56 = .ok (.goto (-16), 3) := by decide +kernel
theorem dX6_lay_59 : decode cX6_lay 59 = .ok (.return_, 1) := by decide +kernel
theorem dX6_layRow_0 : decode cX6_layRow 0 = .ok (.iconst 0, 1) := by decide +kernel
theorem dX6_layRow_1 : decode cX6_layRow 1 = .ok (.istore_n 2, 1) := by decide +kernel
theorem dX6_layRow_2 : decode cX6_layRow 2 = .ok (.iconst 0, 1) := by decide +kernel
theorem dX6_layRow_3 : decode cX6_layRow 3 = .ok (.istore_n 3, 1) := by decide +kernel
theorem dX6_layRow_4 : decode cX6_layRow 4 = .ok (.iconst 0, 1) := by decide +kernel
theorem dX6_layRow_5 : decode cX6_layRow 5 = .ok (.istore 4, 2) := by decide +kernel
theorem dX6_layRow_7 : decode cX6_layRow 7 = .ok (.iconst 0, 1) := by decide +kernel
theorem dX6_layRow_8 : decode cX6_layRow 8 = .ok (.istore 5, 2) := by decide +kernel
theorem dX6_layRow_10 : decode cX6_layRow 10 = .ok (.iload 5, 2) := by decide +kernel
theorem dX6_layRow_12 : decode cX6_layRow 12 = .ok (.aload_n 0, 1) := by decide +kernel
theorem dX6_layRow_13 : decode cX6_layRow 13 = .ok (.getfield 21, 3) := by decide +kernel
theorem dX6_layRow_16 : decode cX6_layRow 16 = .ok (.if_icmp .ge 60, 3) := by decide +kernel
theorem dX6_layRow_19 : decode cX6_layRow 19 = .ok (.aload_n 0, 1) := by decide +kernel
theorem dX6_layRow_20 : decode cX6_layRow 20 = .ok (.iload_n 1, 1) := by decide +kernel
theorem dX6_layRow_21 : decode cX6_layRow 21 = .ok (.iload 5, 2) := by decide +kernel
theorem dX6_layRow_23 : decode cX6_layRow 23 = .ok (.invokevirtual 35, 3) := by decide +kernel
theorem dX6_layRow_26 : decode cX6_layRow 26 = .ok (.istore 6, 2) := by decide +kernel
theorem dX6_layRow_28 : decode cX6_layRow 28 = .ok (.iload_n 2, 1) := by decide +kernel
theorem dX6_layRow_29 : decode cX6_layRow 29 = .ok (.iconst 1, 1) := by decide +kernel
theorem dX6_layRow_30 : decode cX6_layRow 30 = .ok (.iload 5, 2) := by decide +kernel
theorem dX6_layRow_32 : decode cX6_layRow 32 = .ok (.bipush 6, 2) := by decide +kernel
theorem dX6_layRow_34 : decode cX6_layRow 34 = .ok (.imul, 1) := by decide +kernel
theorem dX6_layRow_35 : decode cX6_layRow 35 = .ok (.iload 6, 2) := by decide +kernel
theorem dX6_layRow_37 : decode cX6_layRow 37 = .ok (.iadd, 1) := by decide +kernel
theorem dX6_layRow_38 : decode cX6_layRow 38 = .ok (.ishl, 1) := by decide +kernel
theorem dX6_layRow_39 : decode cX6_layRow 39 = .ok (.ior, 1) := by decide +kernel
theorem dX6_layRow_40 : decode cX6_layRow 40 = .ok (.istore_n 2, 1) := by decide +kernel
theorem dX6_layRow_41 : decode cX6_layRow 41 = .ok (.iload_n 3, 1) := by decide +kernel
theorem dX6_layRow_42 : decode cX6_layRow 42 = .ok (.iconst 1, 1) := by decide +kernel
theorem dX6_layRow_43 : decode cX6_layRow 43 = .ok (.aload_n 0, 1) := by decide +kernel
theorem dX6_layRow_44 : decode cX6_layRow 44 = .ok (.getfield 21, 3) := by decide +kernel
theorem dX6_layRow_47 : decode cX6_layRow 47 = .ok (.iconst 1, 1) := by decide +kernel
theorem dX6_layRow_48 : decode cX6_layRow 48 = .ok (.isub, 1) := by decide +kernel
theorem dX6_layRow_49 : decode cX6_layRow 49 = .ok (.iload 5, 2) := by decide +kernel
theorem dX6_layRow_51 : decode cX6_layRow 51 = .ok (.isub, 1) := by decide +kernel
theorem dX6_layRow_52 : decode cX6_layRow 52 = .ok (.bipush 6, 2) := by decide +kernel
theorem dX6_layRow_54 : decode cX6_layRow 54 = .ok (.imul, 1) := by decide +kernel
theorem dX6_layRow_55 : decode cX6_layRow 55 = .ok (.iload 6, 2) := by decide +kernel
theorem dX6_layRow_57 : decode cX6_layRow 57 = .ok (.iadd, 1) := by decide +kernel
theorem dX6_layRow_58 : decode cX6_layRow 58 = .ok (.ishl, 1) := by decide +kernel
theorem dX6_layRow_59 : decode cX6_layRow 59 = .ok (.ior, 1) := by decide +kernel
theorem dX6_layRow_60 : decode cX6_layRow 60 = .ok (.istore_n 3, 1) := by decide +kernel
theorem dX6_layRow_61 : decode cX6_layRow 61 = .ok (.iload 4, 2) := by decide +kernel
theorem dX6_layRow_63 : decode cX6_layRow 63 = .ok (.iload 6, 2) := by decide +kernel
theorem dX6_layRow_65 : decode cX6_layRow 65 = .ok (.invokestatic 39, 3) := by decide +kernel
theorem dX6_layRow_68 : decode cX6_layRow 68 = .ok (.istore 4, 2) := by decide +kernel
theorem dX6_layRow_70 : decode cX6_layRow 70 = .ok (.iinc 5 1, 3) := by decide +kernel
theorem dX6_layRow_73 : decode cX6_layRow 73 = .ok (.goto (-63), 3) := by decide +kernel
theorem dX6_layRow_76 : decode cX6_layRow 76 = .ok (.aload_n 0, 1) := by decide +kernel
theorem dX6_layRow_77 : decode cX6_layRow 77 = .ok (.getfield 9, 3) := by decide +kernel
theorem dX6_layRow_80 : decode cX6_layRow 80 = .ok (.iload_n 1, 1) := by decide +kernel
theorem dX6_layRow_81 : decode cX6_layRow 81 = .ok (.iload_n 2, 1) := by decide +kernel
theorem dX6_layRow_82 : decode cX6_layRow 82 = .ok (.iastore, 1) := by decide +kernel
theorem dX6_layRow_83 : decode cX6_layRow 83 = .ok (.aload_n 0, 1) := by decide +kernel
theorem dX6_layRow_84 : decode cX6_layRow 84 = .ok (.getfield 15, 3) := by decide +kernel
theorem dX6_layRow_87 : decode cX6_layRow 87 = .ok (.iload_n 1, 1) := by decide +kernel
theorem dX6_layRow_88 : decode cX6_layRow 88 = .ok (.iload_n 3, 1) := by decide +kernel
theorem dX6_layRow_89 : decode cX6_layRow 89 = .ok (.iastore, 1) := by decide +kernel
theorem dX6_layRow_90 : decode cX6_layRow 90 = .ok (.aload_n 0, 1) := by decide +kernel
theorem dX6_layRow_91 : decode cX6_layRow 91 = .ok (.getfield 18, 3) := by decide +kernel
theorem dX6_layRow_94 : decode cX6_layRow 94 = .ok (.iload_n 1, 1) := by decide +kernel
theorem dX6_layRow_95 : decode cX6_layRow 95 = .ok (.iload 4, 2) := by decide +kernel
theorem dX6_layRow_97 : decode cX6_layRow 97 = .ok (.iastore, 1) := by decide +kernel
theorem dX6_layRow_98 : decode cX6_layRow 98 = .ok (.return_, 1) := by decide +kernel
theorem dX6_withOneMore_0 : decode cX6_withOneMore 0 = .ok (.iconst 1, 1) := by decide +kernel
theorem dX6_withOneMore_1 : decode cX6_withOneMore 1 = .ok (.iload_n 1, 1) := by decide +kernel
theorem dX6_withOneMore_2 : decode cX6_withOneMore 2 = .ok (.iconst 3, 1) := by decide +kernel
theorem dX6_withOneMore_3 : decode cX6_withOneMore 3 = .ok (.imul, 1) := by decide +kernel
theorem dX6_withOneMore_4 : decode cX6_withOneMore 4 = .ok (.ishl, 1) := by decide +kernel
theorem dX6_withOneMore_5 : decode cX6_withOneMore 5 = .ok (.istore_n 2, 1) := by decide +kernel
theorem dX6_withOneMore_6 : decode cX6_withOneMore 6 = .ok (.iconst 0, 1) := by decide +kernel
theorem dX6_withOneMore_7 : decode cX6_withOneMore 7 = .ok (.istore_n 3, 1) := by decide +kernel
theorem dX6_withOneMore_8 : decode cX6_withOneMore 8 = .ok (.iload_n 3, 1) := by decide +kernel
theorem dX6_withOneMore_9 : decode cX6_withOneMore 9 = .ok (.iconst 3, 1) := by decide +kernel
theorem dX6_withOneMore_10 : decode cX6_withOneMore 10 = .ok (.if_icmp .ge 19, 3) := by decide +kernel
theorem dX6_withOneMore_13 : decode cX6_withOneMore 13 = .ok (.iload_n 0, 1) := by decide +kernel
theorem dX6_withOneMore_14 : decode cX6_withOneMore 14 = .ok (.iload_n 2, 1) := by decide +kernel
theorem dX6_withOneMore_15 : decode cX6_withOneMore 15 = .ok (.iand, 1) := by decide +kernel
theorem dX6_withOneMore_16 : decode cX6_withOneMore 16 = .ok (.ifCond .eq 13, 3) := by decide +kernel
theorem dX6_withOneMore_19 : decode cX6_withOneMore 19 = .ok (.iload_n 2, 1) := by decide +kernel
theorem dX6_withOneMore_20 : decode cX6_withOneMore 20 = .ok (.iconst 1, 1) := by decide +kernel
theorem dX6_withOneMore_21 : decode cX6_withOneMore 21 = .ok (.ishl, 1) := by decide +kernel
theorem dX6_withOneMore_22 : decode cX6_withOneMore 22 = .ok (.istore_n 2, 1) := by decide +kernel
theorem dX6_withOneMore_23 : decode cX6_withOneMore 23 = .ok (.iinc 3 1, 3) := by decide +kernel
theorem dX6_withOneMore_26 : decode cX6_withOneMore 26 = .ok (.goto (-18), 3) := by decide +kernel
theorem dX6_withOneMore_29 : decode cX6_withOneMore 29 = .ok (.iload_n 0, 1) := by decide +kernel
theorem dX6_withOneMore_30 : decode cX6_withOneMore 30 = .ok (.iload_n 2, 1) := by decide +kernel
theorem dX6_withOneMore_31 : decode cX6_withOneMore 31 = .ok (.ior, 1) := by decide +kernel
theorem dX6_withOneMore_32 : decode cX6_withOneMore 32 = .ok (.ireturn, 1) := by decide +kernel
theorem dX6_colour_0 : decode cX6_colour 0 = .ok (.aload_n 0, 1) := by decide +kernel
theorem dX6_colour_1 : decode cX6_colour 1 = .ok (.getfield 25, 3) := by decide +kernel
theorem dX6_colour_4 : decode cX6_colour 4 = .ok (.iconst 1, 1) := by decide +kernel
theorem dX6_colour_5 : decode cX6_colour 5 = .ok (.if_icmp .ge 5, 3) := by decide +kernel
theorem dX6_colour_8 : decode cX6_colour 8 = .ok (.iconst (-1), 1) := by decide +kernel
theorem dX6_colour_9 : decode cX6_colour 9 = .ok (.ireturn, 1) := by decide +kernel
theorem dX6_colour_10 : decode cX6_colour 10 = .ok (.iload_n 1, 1) := by decide +kernel
theorem dX6_colour_11 : decode cX6_colour 11 = .ok (.istore_n 3, 1) := by decide +kernel
theorem dX6_colour_12 : decode cX6_colour 12 = .ok (.aload_n 0, 1) := by decide +kernel
theorem dX6_colour_13 : decode cX6_colour 13 = .ok (.getfield 21, 3) := by decide +kernel
theorem dX6_colour_16 : decode cX6_colour 16 = .ok (.iconst 1, 1) := by decide +kernel
theorem dX6_colour_17 : decode cX6_colour 17 = .ok (.isub, 1) := by decide +kernel
theorem dX6_colour_18 : decode cX6_colour 18 = .ok (.istore 4, 2) := by decide +kernel
theorem dX6_colour_20 : decode cX6_colour 20 = .ok (.iload 4, 2) := by decide +kernel
theorem dX6_colour_22 : decode cX6_colour 22 = .ok (.iload_n 2, 1) := by decide +kernel
theorem dX6_colour_23 : decode cX6_colour 23 = .ok (.if_icmp .le 16, 3) := by decide +kernel
theorem dX6_colour_26 : decode cX6_colour 26 = .ok (.iload_n 3, 1) := by decide +kernel
theorem dX6_colour_27 : decode cX6_colour 27 = .ok (.aload_n 0, 1) := by decide +kernel
theorem dX6_colour_28 : decode cX6_colour 28 = .ok (.getfield 25, 3) := by decide +kernel
theorem dX6_colour_31 : decode cX6_colour 31 = .ok (.idiv, 1) := by decide +kernel
theorem dX6_colour_32 : decode cX6_colour 32 = .ok (.istore_n 3, 1) := by decide +kernel
theorem dX6_colour_33 : decode cX6_colour 33 = .ok (.iinc 4 (-1), 3) := by decide +kernel
theorem dX6_colour_36 : decode cX6_colour 36 = .ok (.goto (-16), 3) := by decide +kernel
theorem dX6_colour_39 : decode cX6_colour 39 = .ok (.iload_n 3, 1) := by decide +kernel
theorem dX6_colour_40 : decode cX6_colour 40 = .ok (.aload_n 0, 1) := by decide +kernel
theorem dX6_colour_41 : decode cX6_colour 41 = .ok (.getfield 25, 3) := by decide +kernel
theorem dX6_colour_44 : decode cX6_colour 44 = .ok (.irem, 1) := by decide +kernel
theorem dX6_colour_45 : decode cX6_colour 45 = .ok (.ireturn, 1) := by decide +kernel
theorem dX6_right_0 : decode cX6_right 0 = .ok (.aload_n 0, 1) := by decide +kernel
theorem dX6_right_1 : decode cX6_right 1 = .ok (.getfield 9, 3) := by decide +kernel
theorem dX6_right_4 : decode cX6_right 4 = .ok (.iload_n 1, 1) := by decide +kernel
theorem dX6_right_5 : decode cX6_right 5 = .ok (.iaload, 1) := by decide +kernel
theorem dX6_right_6 : decode cX6_right 6 = .ok (.aload_n 0, 1) := by decide +kernel
theorem dX6_right_7 : decode cX6_right 7 = .ok (.getfield 9, 3) := by decide +kernel
theorem dX6_right_10 : decode cX6_right 10 = .ok (.iload_n 2, 1) := by decide +kernel
theorem dX6_right_11 : decode cX6_right 11 = .ok (.iaload, 1) := by decide +kernel
theorem dX6_right_12 : decode cX6_right 12 = .ok (.iand, 1) := by decide +kernel
theorem dX6_right_13 : decode cX6_right 13 = .ok (.invokestatic 42, 3) := by decide +kernel
theorem dX6_right_16 : decode cX6_right 16 = .ok (.ireturn, 1) := by decide +kernel
theorem dX6_rightFromOtherEnd_0 : decode cX6_rightFromOtherEnd 0 = .ok (.aload_n 0, 1) := by decide +kernel
theorem dX6_rightFromOtherEnd_1 : decode cX6_rightFromOtherEnd 1 = .ok (.getfield 15, 3) := by decide +kernel
theorem dX6_rightFromOtherEnd_4 : decode cX6_rightFromOtherEnd 4 = .ok (.iload_n 1, 1) := by decide +kernel
theorem dX6_rightFromOtherEnd_5 : decode cX6_rightFromOtherEnd 5 = .ok (.iaload, 1) := by decide +kernel
theorem dX6_rightFromOtherEnd_6 : decode cX6_rightFromOtherEnd 6 = .ok (.aload_n 0, 1) := by decide +kernel
theorem dX6_rightFromOtherEnd_7 : decode cX6_rightFromOtherEnd 7 = .ok (.getfield 9, 3) := by decide +kernel
theorem dX6_rightFromOtherEnd_10 : decode cX6_rightFromOtherEnd 10 = .ok (.iload_n 2, 1) := by decide +kernel
theorem dX6_rightFromOtherEnd_11 : decode cX6_rightFromOtherEnd 11 = .ok (.iaload, 1) := by decide +kernel
theorem dX6_rightFromOtherEnd_12 : decode cX6_rightFromOtherEnd 12 = .ok (.iand, 1) := by decide +kernel
theorem dX6_rightFromOtherEnd_13 : decode cX6_rightFromOtherEnd 13 = .ok (.invokestatic 42, 3) := by decide +kernel
theorem dX6_rightFromOtherEnd_16 : decode cX6_rightFromOtherEnd 16 = .ok (.ireturn, 1) := by decide +kernel
theorem dX6_alike_0 : decode cX6_alike 0 = .ok (.aload_n 0, 1) := by decide +kernel
theorem dX6_alike_1 : decode cX6_alike 1 = .ok (.getfield 18, 3) := by decide +kernel
theorem dX6_alike_4 : decode cX6_alike 4 = .ok (.iload_n 1, 1) := by decide +kernel
theorem dX6_alike_5 : decode cX6_alike 5 = .ok (.iaload, 1) := by decide +kernel
theorem dX6_alike_6 : decode cX6_alike 6 = .ok (.aload_n 0, 1) := by decide +kernel
theorem dX6_alike_7 : decode cX6_alike 7 = .ok (.getfield 18, 3) := by decide +kernel
theorem dX6_alike_10 : decode cX6_alike 10 = .ok (.iload_n 2, 1) := by decide +kernel
theorem dX6_alike_11 : decode cX6_alike 11 = .ok (.iaload, 1) := by decide +kernel
theorem dX6_alike_12 : decode cX6_alike 12 = .ok (.iand, 1) := by decide +kernel
theorem dX6_alike_13 : decode cX6_alike 13 = .ok (.invokestatic 42, 3) := by decide +kernel
theorem dX6_alike_16 : decode cX6_alike 16 = .ok (.ireturn, 1) := by decide +kernel
theorem dX6_twins_0 : decode cX6_twins 0 = .ok (.iconst 0, 1) := by decide +kernel
theorem dX6_twins_1 : decode cX6_twins 1 = .ok (.istore_n 2, 1) := by decide +kernel
theorem dX6_twins_2 : decode cX6_twins 2 = .ok (.iload_n 2, 1) := by decide +kernel
theorem dX6_twins_3 : decode cX6_twins 3 = .ok (.aload_n 0, 1) := by decide +kernel
theorem dX6_twins_4 : decode cX6_twins 4 = .ok (.getfield 28, 3) := by decide +kernel
theorem dX6_twins_7 : decode cX6_twins 7 = .ok (.if_icmp .ge 45, 3) := by decide +kernel
theorem dX6_twins_10 : decode cX6_twins 10 = .ok (.iload_n 2, 1) := by decide +kernel
theorem dX6_twins_11 : decode cX6_twins 11 = .ok (.iconst 1, 1) := by decide +kernel
theorem dX6_twins_12 : decode cX6_twins 12 = .ok (.iadd, 1) := by decide +kernel
theorem dX6_twins_13 : decode cX6_twins 13 = .ok (.istore_n 3, 1) := by decide +kernel
theorem dX6_twins_14 : decode cX6_twins 14 = .ok (.iload_n 3, 1) := by decide +kernel
theorem dX6_twins_15 : decode cX6_twins 15 = .ok (.aload_n 0, 1) := by decide +kernel
theorem dX6_twins_16 : decode cX6_twins 16 = .ok (.getfield 28, 3) := by decide +kernel
theorem dX6_twins_19 : decode cX6_twins 19 = .ok (.if_icmp .ge 27, 3) := by decide +kernel
theorem dX6_twins_22 : decode cX6_twins 22 = .ok (.aload_n 0, 1) := by decide +kernel
theorem dX6_twins_23 : decode cX6_twins 23 = .ok (.aload_n 1, 1) := by decide +kernel
theorem dX6_twins_24 : decode cX6_twins 24 = .ok (.iload_n 2, 1) := by decide +kernel
theorem dX6_twins_25 : decode cX6_twins 25 = .ok (.iload_n 3, 1) := by decide +kernel
theorem dX6_twins_26 : decode cX6_twins 26 = .ok (.invokevirtual 48, 3) := by decide +kernel
theorem dX6_twins_29 : decode cX6_twins 29 = .ok (.ifCond .eq 11, 3) := by decide +kernel
theorem dX6_twins_32 : decode cX6_twins 32 = .ok (.iload_n 2, 1) := by decide +kernel
theorem dX6_twins_33 : decode cX6_twins 33 = .ok (.sipush 1000, 3) := by decide +kernel
theorem dX6_twins_36 : decode cX6_twins 36 = .ok (.imul, 1) := by decide +kernel
theorem dX6_twins_37 : decode cX6_twins 37 = .ok (.iload_n 3, 1) := by decide +kernel
theorem dX6_twins_38 : decode cX6_twins 38 = .ok (.iadd, 1) := by decide +kernel
theorem dX6_twins_39 : decode cX6_twins 39 = .ok (.ireturn, 1) := by decide +kernel
theorem dX6_twins_40 : decode cX6_twins 40 = .ok (.iinc 3 1, 3) := by decide +kernel
theorem dX6_twins_43 : decode cX6_twins 43 = .ok (.goto (-29), 3) := by decide +kernel
theorem dX6_twins_46 : decode cX6_twins 46 = .ok (.iinc 2 1, 3) := by decide +kernel
theorem dX6_twins_49 : decode cX6_twins 49 = .ok (.goto (-47), 3) := by decide +kernel
theorem dX6_twins_52 : decode cX6_twins 52 = .ok (.iconst (-1), 1) := by decide +kernel
theorem dX6_twins_53 : decode cX6_twins 53 = .ok (.ireturn, 1) := by decide +kernel
theorem dX6_areTwins_0 : decode cX6_areTwins 0 = .ok (.iconst 0, 1) := by decide +kernel
theorem dX6_areTwins_1 : decode cX6_areTwins 1 = .ok (.istore 4, 2) := by decide +kernel
theorem dX6_areTwins_3 : decode cX6_areTwins 3 = .ok (.iload 4, 2) := by decide +kernel
theorem dX6_areTwins_5 : decode cX6_areTwins 5 = .ok (.aload_n 0, 1) := by decide +kernel
theorem dX6_areTwins_6 : decode cX6_areTwins 6 = .ok (.getfield 28, 3) := by decide +kernel
theorem dX6_areTwins_9 : decode cX6_areTwins 9 = .ok (.if_icmp .ge 59, 3) := by decide +kernel
theorem dX6_areTwins_12 : decode cX6_areTwins 12 = .ok (.iload_n 2, 1) := by decide +kernel
theorem dX6_areTwins_13 : decode cX6_areTwins 13 = .ok (.iload 4, 2) := by decide +kernel
theorem dX6_areTwins_15 : decode cX6_areTwins 15 = .ok (.iadd, 1) := by decide +kernel
theorem dX6_areTwins_16 : decode cX6_areTwins 16 = .ok (.aload_n 0, 1) := by decide +kernel
theorem dX6_areTwins_17 : decode cX6_areTwins 17 = .ok (.getfield 28, 3) := by decide +kernel
theorem dX6_areTwins_20 : decode cX6_areTwins 20 = .ok (.if_icmp .ge 10, 3) := by decide +kernel
theorem dX6_areTwins_23 : decode cX6_areTwins 23 = .ok (.iload_n 2, 1) := by decide +kernel
theorem dX6_areTwins_24 : decode cX6_areTwins 24 = .ok (.iload 4, 2) := by decide +kernel
theorem dX6_areTwins_26 : decode cX6_areTwins 26 = .ok (.iadd, 1) := by decide +kernel
theorem dX6_areTwins_27 : decode cX6_areTwins 27 = .ok (.goto 12, 3) := by decide +kernel
theorem dX6_areTwins_30 : decode cX6_areTwins 30 = .ok (.iload_n 2, 1) := by decide +kernel
theorem dX6_areTwins_31 : decode cX6_areTwins 31 = .ok (.iload 4, 2) := by decide +kernel
theorem dX6_areTwins_33 : decode cX6_areTwins 33 = .ok (.iadd, 1) := by decide +kernel
theorem dX6_areTwins_34 : decode cX6_areTwins 34 = .ok (.aload_n 0, 1) := by decide +kernel
theorem dX6_areTwins_35 : decode cX6_areTwins 35 = .ok (.getfield 28, 3) := by decide +kernel
theorem dX6_areTwins_38 : decode cX6_areTwins 38 = .ok (.isub, 1) := by decide +kernel
theorem dX6_areTwins_39 : decode cX6_areTwins 39 = .ok (.istore 5, 2) := by decide +kernel
theorem dX6_areTwins_41 : decode cX6_areTwins 41 = .ok (.aload_n 1, 1) := by decide +kernel
theorem dX6_areTwins_42 : decode cX6_areTwins 42 = .ok (.aload_n 0, 1) := by decide +kernel
theorem dX6_areTwins_43 : decode cX6_areTwins 43 = .ok (.iload 5, 2) := by decide +kernel
theorem dX6_areTwins_45 : decode cX6_areTwins 45 = .ok (.iload_n 2, 1) := by decide +kernel
theorem dX6_areTwins_46 : decode cX6_areTwins 46 = .ok (.invokevirtual 52, 3) := by decide +kernel
theorem dX6_areTwins_49 : decode cX6_areTwins 49 = .ok (.aload_n 1, 1) := by decide +kernel
theorem dX6_areTwins_50 : decode cX6_areTwins 50 = .ok (.aload_n 0, 1) := by decide +kernel
theorem dX6_areTwins_51 : decode cX6_areTwins 51 = .ok (.iload 5, 2) := by decide +kernel
theorem dX6_areTwins_53 : decode cX6_areTwins 53 = .ok (.iload_n 3, 1) := by decide +kernel
theorem dX6_areTwins_54 : decode cX6_areTwins 54 = .ok (.invokevirtual 52, 3) := by decide +kernel
theorem dX6_areTwins_57 : decode cX6_areTwins 57 = .ok (.if_icmp .eq 5, 3) := by decide +kernel
theorem dX6_areTwins_60 : decode cX6_areTwins 60 = .ok (.iconst 0, 1) := by decide +kernel
theorem dX6_areTwins_61 : decode cX6_areTwins 61 = .ok (.ireturn, 1) := by decide +kernel
theorem dX6_areTwins_62 : decode cX6_areTwins 62 = .ok (.iinc 4 1, 3) := by decide +kernel
theorem dX6_areTwins_65 : decode cX6_areTwins 65 = .ok (.goto (-62), 3) := by decide +kernel
theorem dX6_areTwins_68 : decode cX6_areTwins 68 = .ok (.iconst 1, 1) := by decide +kernel
theorem dX6_areTwins_69 : decode cX6_areTwins 69 = .ok (.ireturn, 1) := by decide +kernel
theorem dX7_init_0 : decode cX7_init 0 = .ok (.aload_n 0, 1) := by decide +kernel
theorem dX7_init_1 : decode cX7_init 1 = .ok (.invokespecial 1, 3) := by decide +kernel
theorem dX7_init_4 : decode cX7_init 4 = .ok (.return_, 1) := by decide +kernel
theorem dX7_word_0 : decode cX7_word 0 = .ok (.aload_n 1, 1) := by decide +kernel
theorem dX7_word_1 : decode cX7_word 1 = .ok (.iload_n 2, 1) := by decide +kernel
theorem dX7_word_2 : decode cX7_word 2 = .ok (.iload_n 3, 1) := by decide +kernel
theorem dX7_word_3 : decode cX7_word 3 = .ok (.invokevirtual 7, 3) := by decide +kernel
theorem dX7_word_6 : decode cX7_word 6 = .ok (.ireturn, 1) := by decide +kernel
theorem dX8_init_0 : decode cX8_init 0 = .ok (.aload_n 0, 1) := by decide +kernel
theorem dX8_init_1 : decode cX8_init 1 = .ok (.invokespecial 1, 3) := by decide +kernel
theorem dX8_init_4 : decode cX8_init 4 = .ok (.return_, 1) := by decide +kernel
theorem dX8_word_0 : decode cX8_word 0 = .ok (.aload_n 1, 1) := by decide +kernel
theorem dX8_word_1 : decode cX8_word 1 = .ok (.iload_n 2, 1) := by decide +kernel
theorem dX8_word_2 : decode cX8_word 2 = .ok (.iload_n 3, 1) := by decide +kernel
theorem dX8_word_3 : decode cX8_word 3 = .ok (.invokevirtual 7, 3) := by decide +kernel
theorem dX8_word_6 : decode cX8_word 6 = .ok (.ireturn, 1) := by decide +kernel
theorem dX9_init_0 : decode cX9_init 0 = .ok (.aload_n 0, 1) := by decide +kernel
theorem dX9_init_1 : decode cX9_init 1 = .ok (.invokespecial 1, 3) := by decide +kernel
theorem dX9_init_4 : decode cX9_init 4 = .ok (.aload_n 0, 1) := by decide +kernel
theorem dX9_init_5 : decode cX9_init 5 = .ok (.aload_n 1, 1) := by decide +kernel
theorem dX9_init_6 : decode cX9_init 6 = .ok (.putfield 7, 3) := by decide +kernel
theorem dX9_init_9 : decode cX9_init 9 = .ok (.aload_n 0, 1) := by decide +kernel
theorem dX9_init_10 : decode cX9_init 10 = .ok (.aload_n 2, 1) := by decide +kernel
theorem dX9_init_11 : decode cX9_init 11 = .ok (.putfield 13, 3) := by decide +kernel
theorem dX9_init_14 : decode cX9_init 14 = .ok (.return_, 1) := by decide +kernel
theorem dX9_play_0 : decode cX9_play 0 = .ok (.aload_n 0, 1) := by decide +kernel
theorem dX9_play_1 : decode cX9_play 1 = .ok (.iload_n 3, 1) := by decide +kernel
theorem dX9_play_2 : decode cX9_play 2 = .ok (.putfield 17, 3) := by decide +kernel
theorem dX9_play_5 : decode cX9_play 5 = .ok (.aload_n 0, 1) := by decide +kernel
theorem dX9_play_6 : decode cX9_play 6 = .ok (.iconst 0, 1) := by decide +kernel
theorem dX9_play_7 : decode cX9_play 7 = .ok (.putfield 21, 3) := by decide +kernel
theorem dX9_play_10 : decode cX9_play 10 = .ok (.aload_n 0, 1) := by decide +kernel
theorem dX9_play_11 : decode cX9_play 11 = .ok (.iconst 0, 1) := by decide +kernel
theorem dX9_play_12 : decode cX9_play 12 = .ok (.putfield 24, 3) := by decide +kernel
theorem dX9_play_15 : decode cX9_play 15 = .ok (.iconst 0, 1) := by decide +kernel
theorem dX9_play_16 : decode cX9_play 16 = .ok (.istore 4, 2) := by decide +kernel
theorem dX9_play_18 : decode cX9_play 18 = .ok (.iload 4, 2) := by decide +kernel
theorem dX9_play_20 : decode cX9_play 20 = .ok (.iload_n 2, 1) := by decide +kernel
theorem dX9_play_21 : decode cX9_play 21 = .ok (.if_icmp .ge 43, 3) := by decide +kernel
theorem dX9_play_24 : decode cX9_play 24 = .ok (.aload_n 0, 1) := by decide +kernel
theorem dX9_play_25 : decode cX9_play 25 = .ok (.aload_n 1, 1) := by decide +kernel
theorem dX9_play_26 : decode cX9_play 26 = .ok (.invokevirtual 27, 3) := by decide +kernel
theorem dX9_play_29 : decode cX9_play 29 = .ok (.istore 5, 2) := by decide +kernel
theorem dX9_play_31 : decode cX9_play 31 = .ok (.aload_n 0, 1) := by decide +kernel
theorem dX9_play_32 : decode cX9_play 32 = .ok (.dup, 1) := by decide +kernel
theorem dX9_play_33 : decode cX9_play 33 = .ok (.getfield 21, 3) := by decide +kernel
theorem dX9_play_36 : decode cX9_play 36 = .ok (.iload 5, 2) := by decide +kernel
theorem dX9_play_38 : decode cX9_play 38 = .ok (.iadd, 1) := by decide +kernel
theorem dX9_play_39 : decode cX9_play 39 = .ok (.putfield 21, 3) := by decide +kernel
theorem dX9_play_42 : decode cX9_play 42 = .ok (.iload 5, 2) := by decide +kernel
theorem dX9_play_44 : decode cX9_play 44 = .ok (.iconst 3, 1) := by decide +kernel
theorem dX9_play_45 : decode cX9_play 45 = .ok (.if_icmp .gt 13, 3) := by decide +kernel
theorem dX9_play_48 : decode cX9_play 48 = .ok (.aload_n 0, 1) := by decide +kernel
theorem dX9_play_49 : decode cX9_play 49 = .ok (.dup, 1) := by decide +kernel
theorem dX9_play_50 : decode cX9_play 50 = .ok (.getfield 24, 3) := by decide +kernel
theorem dX9_play_53 : decode cX9_play 53 = .ok (.iconst 1, 1) := by decide +kernel
theorem dX9_play_54 : decode cX9_play 54 = .ok (.iadd, 1) := by decide +kernel
theorem dX9_play_55 : decode cX9_play 55 = .ok (.putfield 24, 3) := by decide +kernel
theorem dX9_play_58 : decode cX9_play 58 = .ok (.iinc 4 1, 3) := by decide +kernel
theorem dX9_play_61 : decode cX9_play 61 = .ok (.goto (-43), 3) := by decide +kernel
theorem dX9_play_64 : decode cX9_play 64 = .ok (.return_, 1) := by decide +kernel
theorem dX9_playOne_0 : decode cX9_playOne 0 = .ok (.aload_n 0, 1) := by decide +kernel
theorem dX9_playOne_1 : decode cX9_playOne 1 = .ok (.aload_n 0, 1) := by decide +kernel
theorem dX9_playOne_2 : decode cX9_playOne 2 = .ok (.getfield 7, 3) := by decide +kernel
theorem dX9_playOne_5 : decode cX9_playOne 5 = .ok (.getfield 31, 3) := by decide +kernel
theorem dX9_playOne_8 : decode cX9_playOne 8 = .ok (.invokevirtual 36, 3) := by decide +kernel
theorem dX9_playOne_11 : decode cX9_playOne 11 = .ok (.istore_n 2, 1) := by decide +kernel
theorem dX9_playOne_12 : decode cX9_playOne 12 = .ok (.aload_n 0, 1) := by decide +kernel
theorem dX9_playOne_13 : decode cX9_playOne 13 = .ok (.getfield 13, 3) := by decide +kernel
theorem dX9_playOne_16 : decode cX9_playOne 16 = .ok (.invokevirtual 40, 3) := by decide +kernel
theorem dX9_playOne_19 : decode cX9_playOne 19 = .ok (.iconst 1, 1) := by decide +kernel
theorem dX9_playOne_20 : decode cX9_playOne 20 = .ok (.istore_n 3, 1) := by decide +kernel
theorem dX9_playOne_21 : decode cX9_playOne 21 = .ok (.iload_n 3, 1) := by decide +kernel
theorem dX9_playOne_22 : decode cX9_playOne 22 = .ok (.aload_n 0, 1) := by decide +kernel
theorem dX9_playOne_23 : decode cX9_playOne 23 = .ok (.getfield 7, 3) := by decide +kernel
theorem dX9_playOne_26 : decode cX9_playOne 26 = .ok (.getfield 31, 3) := by decide +kernel
theorem dX9_playOne_29 : decode cX9_playOne 29 = .ok (.if_icmp .gt 68, 3) := by decide +kernel
theorem dX9_playOne_32 : decode cX9_playOne 32 = .ok (.aload_n 0, 1) := by decide +kernel
theorem dX9_playOne_33 : decode cX9_playOne 33 = .ok (.getfield 13, 3) := by decide +kernel
theorem dX9_playOne_36 : decode cX9_playOne 36 = .ok (.getfield 45, 3) := by decide +kernel
theorem dX9_playOne_39 : decode cX9_playOne 39 = .ok (.aload_n 0, 1) := by decide +kernel
theorem dX9_playOne_40 : decode cX9_playOne 40 = .ok (.aload_n 0, 1) := by decide +kernel
theorem dX9_playOne_41 : decode cX9_playOne 41 = .ok (.getfield 13, 3) := by decide +kernel
theorem dX9_playOne_44 : decode cX9_playOne 44 = .ok (.getfield 49, 3) := by decide +kernel
theorem dX9_playOne_47 : decode cX9_playOne 47 = .ok (.invokevirtual 36, 3) := by decide +kernel
theorem dX9_playOne_50 : decode cX9_playOne 50 = .ok (.iaload, 1) := by decide +kernel
theorem dX9_playOne_51 : decode cX9_playOne 51 = .ok (.istore 4, 2) := by decide +kernel
theorem dX9_playOne_53 : decode cX9_playOne 53 = .ok (.iload 4, 2) := by decide +kernel
theorem dX9_playOne_55 : decode cX9_playOne 55 = .ok (.iload_n 2, 1) := by decide +kernel
theorem dX9_playOne_56 : decode cX9_playOne 56 = .ok (.if_icmp .ne 5, 3) := by decide +kernel
theorem dX9_playOne_59 : decode cX9_playOne 59 = .ok (.iload_n 3, 1) := by decide +kernel
theorem dX9_playOne_60 : decode cX9_playOne 60 = .ok (.ireturn, 1) := by decide +kernel
theorem dX9_playOne_61 : decode cX9_playOne 61 = .ok (.aload_n 0, 1) := by decide +kernel
theorem dX9_playOne_62 : decode cX9_playOne 62 = .ok (.getfield 13, 3) := by decide +kernel
theorem dX9_playOne_65 : decode cX9_playOne 65 = .ok (.aload_n 1, 1) := by decide +kernel
theorem dX9_playOne_66 : decode cX9_playOne 66 = .ok (.iload 4, 2) := by decide +kernel
theorem dX9_playOne_68 : decode cX9_playOne 68 = .ok (.aload_n 1, 1) := by decide +kernel
theorem dX9_playOne_69 : decode cX9_playOne 69 = .ok (.aload_n 0, 1) := by decide +kernel
theorem dX9_playOne_70 : decode cX9_playOne 70 = .ok (.getfield 7, 3) := by decide +kernel
theorem dX9_playOne_73 : decode cX9_playOne 73 = .ok (.iload 4, 2) := by decide +kernel
theorem dX9_playOne_75 : decode cX9_playOne 75 = .ok (.iload_n 2, 1) := by decide +kernel
theorem dX9_playOne_76 : decode cX9_playOne 76 = .ok (.invokevirtual 50, 3) := by decide +kernel
theorem dX9_playOne_79 : decode cX9_playOne 79 = .ok (.invokevirtual 56, 3) := by decide +kernel
theorem dX9_playOne_82 : decode cX9_playOne 82 = .ok (.aload_n 0, 1) := by decide +kernel
theorem dX9_playOne_83 : decode cX9_playOne 83 = .ok (.getfield 13, 3) := by decide +kernel
theorem dX9_playOne_86 : decode cX9_playOne 86 = .ok (.iload 4, 2) := by decide +kernel
theorem dX9_playOne_88 : decode cX9_playOne 88 = .ok (.invokevirtual 60, 3) := by decide +kernel
theorem dX9_playOne_91 : decode cX9_playOne 91 = .ok (.iinc 3 1, 3) := by decide +kernel
theorem dX9_playOne_94 : decode cX9_playOne 94 = .ok (.goto (-73), 3) := by decide +kernel
theorem dX9_playOne_97 : decode cX9_playOne 97 = .ok (.aload_n 0, 1) := by decide +kernel
theorem dX9_playOne_98 : decode cX9_playOne 98 = .ok (.getfield 7, 3) := by decide +kernel
theorem dX9_playOne_101 : decode cX9_playOne 101 = .ok (.getfield 31, 3) := by decide +kernel
theorem dX9_playOne_104 : decode cX9_playOne 104 = .ok (.ireturn, 1) := by decide +kernel
theorem dX9_draw_0 : decode cX9_draw 0 = .ok (.aload_n 0, 1) := by decide +kernel
theorem dX9_draw_1 : decode cX9_draw 1 = .ok (.ldc2_w 64, 3) := by decide +kernel
theorem dX9_draw_4 : decode cX9_draw 4 = .ok (.aload_n 0, 1) := by decide +kernel
theorem dX9_draw_5 : decode cX9_draw 5 = .ok (.getfield 17, 3) := by decide +kernel
theorem dX9_draw_8 : decode cX9_draw 8 = .ok (.i2l, 1) := by decide +kernel
theorem dX9_draw_9 : decode cX9_draw 9 = .ok (.lmul, 1) := by decide +kernel
theorem dX9_draw_10 : decode cX9_draw 10 = .ok (.ldc2_w 66, 3) := by decide +kernel
theorem dX9_draw_13 : decode cX9_draw 13 = .ok (.ladd, 1) := by decide +kernel
theorem dX9_draw_14 : decode cX9_draw 14 = .ok (.ldc2_w 68, 3) := by decide +kernel
theorem dX9_draw_17 : decode cX9_draw 17 = .ok (.land, 1) := by decide +kernel
theorem dX9_draw_18 : decode cX9_draw 18 = .ok (.l2i, 1) := by decide +kernel
theorem dX9_draw_19 : decode cX9_draw 19 = .ok (.putfield 17, 3) := by decide +kernel
theorem dX9_draw_22 : decode cX9_draw 22 = .ok (.iload_n 1, 1) := by decide +kernel
theorem dX9_draw_23 : decode cX9_draw 23 = .ok (.ifCond .le 15, 3) := by decide +kernel
theorem dX9_draw_26 : decode cX9_draw 26 = .ok (.aload_n 0, 1) := by decide +kernel
theorem dX9_draw_27 : decode cX9_draw 27 = .ok (.getfield 17, 3) := by decide +kernel
theorem dX9_draw_30 : decode cX9_draw 30 = .ok (.ldc 70, 2) := by decide +kernel
theorem dX9_draw_32 : decode cX9_draw 32 = .ok (.idiv, 1) := by decide +kernel
theorem dX9_draw_33 : decode cX9_draw 33 = .ok (.iload_n 1, 1) := by decide +kernel
theorem dX9_draw_34 : decode cX9_draw 34 = .ok (.irem, 1) := by decide +kernel
theorem dX9_draw_35 : decode cX9_draw 35 = .ok (.goto 4, 3) := by decide +kernel
theorem dX9_draw_38 : decode cX9_draw 38 = .ok (.iconst 0, 1) := by decide +kernel
theorem dX9_draw_39 : decode cX9_draw 39 = .ok (.ireturn, 1) := by decide +kernel
theorem dX10_init_0 : decode cX10_init 0 = .ok (.aload_n 0, 1) := by decide +kernel
theorem dX10_init_1 : decode cX10_init 1 = .ok (.invokespecial 1, 3) := by decide +kernel
theorem dX10_init_4 : decode cX10_init 4 = .ok (.return_, 1) := by decide +kernel
theorem dX10_word_0 : decode cX10_word 0 = .ok (.aload_n 1, 1) := by decide +kernel
theorem dX10_word_1 : decode cX10_word 1 = .ok (.iload_n 2, 1) := by decide +kernel
theorem dX10_word_2 : decode cX10_word 2 = .ok (.iload_n 3, 1) := by decide +kernel
theorem dX10_word_3 : decode cX10_word 3 = .ok (.invokevirtual 7, 3) := by decide +kernel
theorem dX10_word_6 : decode cX10_word 6 = .ok (.aload_n 1, 1) := by decide +kernel
theorem dX10_word_7 : decode cX10_word 7 = .ok (.iload_n 2, 1) := by decide +kernel
theorem dX10_word_8 : decode cX10_word 8 = .ok (.iload_n 3, 1) := by decide +kernel
theorem dX10_word_9 : decode cX10_word 9 = .ok (.invokevirtual 13, 3) := by decide +kernel
theorem dX10_word_12 : decode cX10_word 12 = .ok (.invokestatic 16, 3) := by decide +kernel
theorem dX10_word_15 : decode cX10_word 15 = .ok (.ireturn, 1) := by decide +kernel
end
section
theorem dX11_init_0 : decode cX11_init 0 = .ok (.aload_n 0, 1) := by decide +kernel
theorem dX11_init_1 : decode cX11_init 1 = .ok (.invokespecial 3, 3) := by decide +kernel
theorem dX11_init_4 : decode cX11_init 4 = .ok (.aload_n 0, 1) := by decide +kernel
theorem dX11_init_5 : decode cX11_init 5 = .ok (.new 9, 3) := by decide +kernel
theorem dX11_init_8 : decode cX11_init 8 = .ok (.dup, 1) := by decide +kernel
theorem dX11_init_9 : decode cX11_init 9 = .ok (.invokespecial 11, 3) := by decide +kernel
theorem dX11_init_12 : decode cX11_init 12 = .ok (.putfield 12, 3) := by decide +kernel
theorem dX11_init_15 : decode cX11_init 15 = .ok (.aload_n 0, 1) := by decide +kernel
theorem dX11_init_16 : decode cX11_init 16 = .ok (.iconst 5, 1) := by decide +kernel
theorem dX11_init_17 : decode cX11_init 17 = .ok (.anewarray 16, 3) := by decide +kernel
theorem dX11_init_20 : decode cX11_init 20 = .ok (.dup, 1) := by decide +kernel
theorem dX11_init_21 : decode cX11_init 21 = .ok (.iconst 0, 1) := by decide +kernel
theorem dX11_init_22 : decode cX11_init 22 = .ok (.new 16, 3) := by decide +kernel
theorem dX11_init_25 : decode cX11_init 25 = .ok (.dup, 1) := by decide +kernel
theorem dX11_init_26 : decode cX11_init 26 = .ok (.invokespecial 18, 3) := by decide +kernel
theorem dX11_init_29 : decode cX11_init 29 = .ok (.aastore, 1) := by decide +kernel
theorem dX11_init_30 : decode cX11_init 30 = .ok (.dup, 1) := by decide +kernel
theorem dX11_init_31 : decode cX11_init 31 = .ok (.iconst 1, 1) := by decide +kernel
theorem dX11_init_32 : decode cX11_init 32 = .ok (.new 19, 3) := by decide +kernel
theorem dX11_init_35 : decode cX11_init 35 = .ok (.dup, 1) := by decide +kernel
theorem dX11_init_36 : decode cX11_init 36 = .ok (.invokespecial 21, 3) := by decide +kernel
theorem dX11_init_39 : decode cX11_init 39 = .ok (.aastore, 1) := by decide +kernel
theorem dX11_init_40 : decode cX11_init 40 = .ok (.dup, 1) := by decide +kernel
theorem dX11_init_41 : decode cX11_init 41 = .ok (.iconst 2, 1) := by decide +kernel
theorem dX11_init_42 : decode cX11_init 42 = .ok (.new 22, 3) := by decide +kernel
theorem dX11_init_45 : decode cX11_init 45 = .ok (.dup, 1) := by decide +kernel
theorem dX11_init_46 : decode cX11_init 46 = .ok (.invokespecial 24, 3) := by decide +kernel
theorem dX11_init_49 : decode cX11_init 49 = .ok (.aastore, 1) := by decide +kernel
theorem dX11_init_50 : decode cX11_init 50 = .ok (.dup, 1) := by decide +kernel
theorem dX11_init_51 : decode cX11_init 51 = .ok (.iconst 3, 1) := by decide +kernel
theorem dX11_init_52 : decode cX11_init 52 = .ok (.new 25, 3) := by decide +kernel
theorem dX11_init_55 : decode cX11_init 55 = .ok (.dup, 1) := by decide +kernel
theorem dX11_init_56 : decode cX11_init 56 = .ok (.invokespecial 27, 3) := by decide +kernel
theorem dX11_init_59 : decode cX11_init 59 = .ok (.aastore, 1) := by decide +kernel
theorem dX11_init_60 : decode cX11_init 60 = .ok (.dup, 1) := by decide +kernel
theorem dX11_init_61 : decode cX11_init 61 = .ok (.iconst 4, 1) := by decide +kernel
theorem dX11_init_62 : decode cX11_init 62 = .ok (.new 28, 3) := by decide +kernel
theorem dX11_init_65 : decode cX11_init 65 = .ok (.dup, 1) := by decide +kernel
theorem dX11_init_66 : decode cX11_init 66 = .ok (.invokespecial 30, 3) := by decide +kernel
theorem dX11_init_69 : decode cX11_init 69 = .ok (.aastore, 1) := by decide +kernel
theorem dX11_init_70 : decode cX11_init 70 = .ok (.putfield 31, 3) := by decide +kernel
theorem dX11_init_73 : decode cX11_init 73 = .ok (.aload_n 0, 1) := by decide +kernel
theorem dX11_init_74 : decode cX11_init 74 = .ok (.iconst 5, 1) := by decide +kernel
theorem dX11_init_75 : decode cX11_init 75 = .ok (.newarray .int, 2) := by decide +kernel
theorem dX11_init_77 : decode cX11_init 77 = .ok (.putfield 35, 3) := by decide +kernel
theorem dX11_init_80 : decode cX11_init 80 = .ok (.aload_n 0, 1) := by decide +kernel
theorem dX11_init_81 : decode cX11_init 81 = .ok (.new 39, 3) := by decide +kernel
theorem dX11_init_84 : decode cX11_init 84 = .ok (.dup, 1) := by decide +kernel
theorem dX11_init_85 : decode cX11_init 85 = .ok (.invokespecial 41, 3) := by decide +kernel
theorem dX11_init_88 : decode cX11_init 88 = .ok (.putfield 42, 3) := by decide +kernel
theorem dX11_init_91 : decode cX11_init 91 = .ok (.aload_n 0, 1) := by decide +kernel
theorem dX11_init_92 : decode cX11_init 92 = .ok (.new 39, 3) := by decide +kernel
theorem dX11_init_95 : decode cX11_init 95 = .ok (.dup, 1) := by decide +kernel
theorem dX11_init_96 : decode cX11_init 96 = .ok (.invokespecial 41, 3) := by decide +kernel
theorem dX11_init_99 : decode cX11_init 99 = .ok (.putfield 46, 3) := by decide +kernel
theorem dX11_init_102 : decode cX11_init 102 = .ok (.new 49, 3) := by decide +kernel
theorem dX11_init_105 : decode cX11_init 105 = .ok (.dup, 1) := by decide +kernel
theorem dX11_init_106 : decode cX11_init 106 = .ok (.invokespecial 51, 3) := by decide +kernel
theorem dX11_init_109 : decode cX11_init 109 = .ok (.astore_n 1, 1) := by decide +kernel
theorem dX11_init_110 : decode cX11_init 110 = .ok (.new 52, 3) := by decide +kernel
theorem dX11_init_113 : decode cX11_init 113 = .ok (.dup, 1) := by decide +kernel
theorem dX11_init_114 : decode cX11_init 114 = .ok (.aload_n 1, 1) := by decide +kernel
theorem dX11_init_115 : decode cX11_init 115 = .ok (.invokespecial 54, 3) := by decide +kernel
theorem dX11_init_118 : decode cX11_init 118 = .ok (.astore_n 2, 1) := by decide +kernel
theorem dX11_init_119 : decode cX11_init 119 = .ok (.aload_n 0, 1) := by decide +kernel
theorem dX11_init_120 : decode cX11_init 120 = .ok (.aload_n 1, 1) := by decide +kernel
theorem dX11_init_121 : decode cX11_init 121 = .ok (.putfield 57, 3) := by decide +kernel
theorem dX11_init_124 : decode cX11_init 124 = .ok (.aload_n 0, 1) := by decide +kernel
theorem dX11_init_125 : decode cX11_init 125 = .ok (.aload_n 2, 1) := by decide +kernel
theorem dX11_init_126 : decode cX11_init 126 = .ok (.putfield 61, 3) := by decide +kernel
theorem dX11_init_129 : decode cX11_init 129 = .ok (.aload_n 0, 1) := by decide +kernel
theorem dX11_init_130 : decode cX11_init 130 = .ok (.new 65, 3) := by decide +kernel
theorem dX11_init_133 : decode cX11_init 133 = .ok (.dup, 1) := by decide +kernel
theorem dX11_init_134 : decode cX11_init 134 = .ok (.aload_n 1, 1) := by decide +kernel
theorem dX11_init_135 : decode cX11_init 135 = .ok (.invokespecial 67, 3) := by decide +kernel
theorem dX11_init_138 : decode cX11_init 138 = .ok (.putfield 68, 3) := by decide +kernel
theorem dX11_init_141 : decode cX11_init 141 = .ok (.aload_n 0, 1) := by decide +kernel
theorem dX11_init_142 : decode cX11_init 142 = .ok (.new 72, 3) := by decide +kernel
theorem dX11_init_145 : decode cX11_init 145 = .ok (.dup, 1) := by decide +kernel
theorem dX11_init_146 : decode cX11_init 146 = .ok (.aload_n 1, 1) := by decide +kernel
theorem dX11_init_147 : decode cX11_init 147 = .ok (.aload_n 2, 1) := by decide +kernel
theorem dX11_init_148 : decode cX11_init 148 = .ok (.invokespecial 74, 3) := by decide +kernel
theorem dX11_init_151 : decode cX11_init 151 = .ok (.putfield 77, 3) := by decide +kernel
theorem dX11_init_154 : decode cX11_init 154 = .ok (.return_, 1) := by decide +kernel
theorem dX11_letter_0 : decode cX11_letter 0 = .ok (.iload_n 1, 1) := by decide +kernel
theorem dX11_letter_1 : decode cX11_letter 1 = .ok (.iconst 1, 1) := by decide +kernel
theorem dX11_letter_2 : decode cX11_letter 2 = .ok (.if_icmp .lt 9, 3) := by decide +kernel
theorem dX11_letter_5 : decode cX11_letter 5 = .ok (.iload_n 1, 1) := by decide +kernel
theorem dX11_letter_6 : decode cX11_letter 6 = .ok (.bipush 126, 2) := by decide +kernel
theorem dX11_letter_8 : decode cX11_letter 8 = .ok (.if_icmp .le 6, 3) := by decide +kernel
theorem dX11_letter_11 : decode cX11_letter 11 = .ok (.bipush (-102), 2) := by decide +kernel
theorem dX11_letter_13 : decode cX11_letter 13 = .ok (.ireturn, 1) := by decide +kernel
theorem dX11_letter_14 : decode cX11_letter 14 = .ok (.aload_n 0, 1) := by decide +kernel
theorem dX11_letter_15 : decode cX11_letter 15 = .ok (.getfield 12, 3) := by decide +kernel
theorem dX11_letter_18 : decode cX11_letter 18 = .ok (.getfield 81, 3) := by decide +kernel
theorem dX11_letter_21 : decode cX11_letter 21 = .ok (.bipush 12, 2) := by decide +kernel
theorem dX11_letter_23 : decode cX11_letter 23 = .ok (.if_icmp .lt 6, 3) := by decide +kernel
theorem dX11_letter_26 : decode cX11_letter 26 = .ok (.bipush (-104), 2) := by decide +kernel
theorem dX11_letter_28 : decode cX11_letter 28 = .ok (.ireturn, 1) := by decide +kernel
theorem dX11_letter_29 : decode cX11_letter 29 = .ok (.aload_n 0, 1) := by decide +kernel
theorem dX11_letter_30 : decode cX11_letter 30 = .ok (.getfield 12, 3) := by decide +kernel
theorem dX11_letter_33 : decode cX11_letter 33 = .ok (.iload_n 1, 1) := by decide +kernel
theorem dX11_letter_34 : decode cX11_letter 34 = .ok (.invokevirtual 85, 3) := by decide +kernel
theorem dX11_letter_37 : decode cX11_letter 37 = .ok (.aload_n 0, 1) := by decide +kernel
theorem dX11_letter_38 : decode cX11_letter 38 = .ok (.getfield 12, 3) := by decide +kernel
theorem dX11_letter_41 : decode cX11_letter 41 = .ok (.getfield 81, 3) := by decide +kernel
theorem dX11_letter_44 : decode cX11_letter 44 = .ok (.ireturn, 1) := by decide +kernel
theorem dX11_blank_0 : decode cX11_blank 0 = .ok (.aload_n 0, 1) := by decide +kernel
theorem dX11_blank_1 : decode cX11_blank 1 = .ok (.getfield 12, 3) := by decide +kernel
theorem dX11_blank_4 : decode cX11_blank 4 = .ok (.getfield 81, 3) := by decide +kernel
theorem dX11_blank_7 : decode cX11_blank 7 = .ok (.istore_n 1, 1) := by decide +kernel
theorem dX11_blank_8 : decode cX11_blank 8 = .ok (.aload_n 0, 1) := by decide +kernel
theorem dX11_blank_9 : decode cX11_blank 9 = .ok (.getfield 12, 3) := by decide +kernel
theorem dX11_blank_12 : decode cX11_blank 12 = .ok (.iconst 0, 1) := by decide +kernel
theorem dX11_blank_13 : decode cX11_blank 13 = .ok (.putfield 81, 3) := by decide +kernel
theorem dX11_blank_16 : decode cX11_blank 16 = .ok (.iload_n 1, 1) := by decide +kernel
theorem dX11_blank_17 : decode cX11_blank 17 = .ok (.ireturn, 1) := by decide +kernel
theorem dX11_fault_0 : decode cX11_fault 0 = .ok (.aload_n 0, 1) := by decide +kernel
theorem dX11_fault_1 : decode cX11_fault 1 = .ok (.getfield 12, 3) := by decide +kernel
theorem dX11_fault_4 : decode cX11_fault 4 = .ok (.invokevirtual 89, 3) := by decide +kernel
theorem dX11_fault_7 : decode cX11_fault 7 = .ok (.ireturn, 1) := by decide +kernel
theorem dX11_game_0 : decode cX11_game 0 = .ok (.aload_n 0, 1) := by decide +kernel
theorem dX11_game_1 : decode cX11_game 1 = .ok (.getfield 12, 3) := by decide +kernel
theorem dX11_game_4 : decode cX11_game 4 = .ok (.invokevirtual 93, 3) := by decide +kernel
theorem dX11_game_7 : decode cX11_game 7 = .ok (.ifCond .ne 6, 3) := by decide +kernel
theorem dX11_game_10 : decode cX11_game 10 = .ok (.bipush (-103), 2) := by decide +kernel
theorem dX11_game_12 : decode cX11_game 12 = .ok (.ireturn, 1) := by decide +kernel
theorem dX11_game_13 : decode cX11_game 13 = .ok (.aload_n 0, 1) := by decide +kernel
theorem dX11_game_14 : decode cX11_game 14 = .ok (.getfield 57, 3) := by decide +kernel
theorem dX11_game_17 : decode cX11_game 17 = .ok (.aload_n 0, 1) := by decide +kernel
theorem dX11_game_18 : decode cX11_game 18 = .ok (.getfield 12, 3) := by decide +kernel
theorem dX11_game_21 : decode cX11_game 21 = .ok (.invokevirtual 97, 3) := by decide +kernel
theorem dX11_game_24 : decode cX11_game 24 = .ok (.aload_n 0, 1) := by decide +kernel
theorem dX11_game_25 : decode cX11_game 25 = .ok (.getfield 12, 3) := by decide +kernel
theorem dX11_game_28 : decode cX11_game 28 = .ok (.invokevirtual 100, 3) := by decide +kernel
theorem dX11_game_31 : decode cX11_game 31 = .ok (.invokevirtual 103, 3) := by decide +kernel
theorem dX11_game_34 : decode cX11_game 34 = .ok (.aload_n 0, 1) := by decide +kernel
theorem dX11_game_35 : decode cX11_game 35 = .ok (.aload_n 0, 1) := by decide +kernel
theorem dX11_game_36 : decode cX11_game 36 = .ok (.getfield 12, 3) := by decide +kernel
theorem dX11_game_39 : decode cX11_game 39 = .ok (.invokevirtual 107, 3) := by decide +kernel
theorem dX11_game_42 : decode cX11_game 42 = .ok (.putfield 110, 3) := by decide +kernel
theorem dX11_game_45 : decode cX11_game 45 = .ok (.iconst 0, 1) := by decide +kernel
theorem dX11_game_46 : decode cX11_game 46 = .ok (.istore_n 1, 1) := by decide +kernel
theorem dX11_game_47 : decode cX11_game 47 = .ok (.iload_n 1, 1) := by decide +kernel
theorem dX11_game_48 : decode cX11_game 48 = .ok (.aload_n 0, 1) := by decide +kernel
theorem dX11_game_49 : decode cX11_game 49 = .ok (.getfield 110, 3) := by decide +kernel
theorem dX11_game_52 : decode cX11_game 52 = .ok (.if_icmp .ge 26, 3) := by decide +kernel
theorem dX11_game_55 : decode cX11_game 55 = .ok (.aload_n 0, 1) := by decide +kernel
theorem dX11_game_56 : decode cX11_game 56 = .ok (.getfield 42, 3) := by decide +kernel
theorem dX11_game_59 : decode cX11_game 59 = .ok (.getfield 113, 3) := by decide +kernel
theorem dX11_game_62 : decode cX11_game 62 = .ok (.iload_n 1, 1) := by decide +kernel
theorem dX11_game_63 : decode cX11_game 63 = .ok (.aload_n 0, 1) := by decide +kernel
theorem dX11_game_64 : decode cX11_game 64 = .ok (.getfield 12, 3) := by decide +kernel
theorem dX11_game_67 : decode cX11_game 67 = .ok (.iload_n 1, 1) := by decide +kernel
theorem dX11_game_68 : decode cX11_game 68 = .ok (.invokevirtual 115, 3) := by decide +kernel
theorem dX11_game_71 : decode cX11_game 71 = .ok (.iastore, 1) := by decide +kernel
theorem dX11_game_72 : decode cX11_game 72 = .ok (.iinc 1 1, 3) := by decide +kernel
theorem dX11_game_75 : decode cX11_game 75 = .ok (.goto (-28), 3) := by decide +kernel
theorem dX11_game_78 : decode cX11_game 78 = .ok (.aload_n 0, 1) := by decide +kernel
theorem dX11_game_79 : decode cX11_game 79 = .ok (.getfield 42, 3) := by decide +kernel
theorem dX11_game_82 : decode cX11_game 82 = .ok (.aload_n 0, 1) := by decide +kernel
theorem dX11_game_83 : decode cX11_game 83 = .ok (.getfield 12, 3) := by decide +kernel
theorem dX11_game_86 : decode cX11_game 86 = .ok (.invokevirtual 119, 3) := by decide +kernel
theorem dX11_game_89 : decode cX11_game 89 = .ok (.putfield 122, 3) := by decide +kernel
theorem dX11_game_92 : decode cX11_game 92 = .ok (.aload_n 0, 1) := by decide +kernel
theorem dX11_game_93 : decode cX11_game 93 = .ok (.getfield 42, 3) := by decide +kernel
theorem dX11_game_96 : decode cX11_game 96 = .ok (.iconst 0, 1) := by decide +kernel
theorem dX11_game_97 : decode cX11_game 97 = .ok (.putfield 125, 3) := by decide +kernel
theorem dX11_game_100 : decode cX11_game 100 = .ok (.aload_n 0, 1) := by decide +kernel
theorem dX11_game_101 : decode cX11_game 101 = .ok (.iconst 0, 1) := by decide +kernel
theorem dX11_game_102 : decode cX11_game 102 = .ok (.putfield 126, 3) := by decide +kernel
theorem dX11_game_105 : decode cX11_game 105 = .ok (.aload_n 0, 1) := by decide +kernel
theorem dX11_game_106 : decode cX11_game 106 = .ok (.dup, 1) := by decide +kernel
theorem dX11_game_107 : decode cX11_game 107 = .ok (.getfield 130, 3) := by decide +kernel
theorem dX11_game_110 : decode cX11_game 110 = .ok (.iconst 1, 1) := by decide +kernel
theorem dX11_game_111 : decode cX11_game 111 = .ok (.iadd, 1) := by decide +kernel
theorem dX11_game_112 : decode cX11_game 112 = .ok (.putfield 130, 3) := by decide +kernel
theorem dX11_game_115 : decode cX11_game 115 = .ok (.aload_n 0, 1) := by decide +kernel
theorem dX11_game_116 : decode cX11_game 116 = .ok (.getfield 12, 3) := by decide +kernel
theorem dX11_game_119 : decode cX11_game 119 = .ok (.iconst 0, 1) := by decide +kernel
theorem dX11_game_120 : decode cX11_game 120 = .ok (.putfield 81, 3) := by decide +kernel
theorem dX11_game_123 : decode cX11_game 123 = .ok (.aload_n 0, 1) := by decide +kernel
theorem dX11_game_124 : decode cX11_game 124 = .ok (.getfield 57, 3) := by decide +kernel
theorem dX11_game_127 : decode cX11_game 127 = .ok (.getfield 133, 3) := by decide +kernel
theorem dX11_game_130 : decode cX11_game 130 = .ok (.ireturn, 1) := by decide +kernel
theorem dX11_judge_0 : decode cX11_judge 0 = .ok (.aload_n 0, 1) := by decide +kernel
theorem dX11_judge_1 : decode cX11_judge 1 = .ok (.iload_n 1, 1) := by decide +kernel
theorem dX11_judge_2 : decode cX11_judge 2 = .ok (.invokevirtual 134, 3) := by decide +kernel
theorem dX11_judge_5 : decode cX11_judge 5 = .ok (.ifCond .ne 6, 3) := by decide +kernel
theorem dX11_judge_8 : decode cX11_judge 8 = .ok (.bipush (-101), 2) := by decide +kernel
theorem dX11_judge_10 : decode cX11_judge 10 = .ok (.ireturn, 1) := by decide +kernel
theorem dX11_judge_11 : decode cX11_judge 11 = .ok (.iload_n 2, 1) := by decide +kernel
theorem dX11_judge_12 : decode cX11_judge 12 = .ok (.tableswitch 84 0 4 #[36, 46, 55, 61, 71], 36) := by decide +kernel
theorem dX11_judge_48 : decode cX11_judge 48 = .ok (.aload_n 0, 1) := by decide +kernel
theorem dX11_judge_49 : decode cX11_judge 49 = .ok (.getfield 42, 3) := by decide +kernel
theorem dX11_judge_52 : decode cX11_judge 52 = .ok (.getfield 113, 3) := by decide +kernel
theorem dX11_judge_55 : decode cX11_judge 55 = .ok (.iload_n 1, 1) := by decide +kernel
theorem dX11_judge_56 : decode cX11_judge 56 = .ok (.iaload, 1) := by decide +kernel
theorem dX11_judge_57 : decode cX11_judge 57 = .ok (.ireturn, 1) := by decide +kernel
theorem dX11_judge_58 : decode cX11_judge 58 = .ok (.aload_n 0, 1) := by decide +kernel
theorem dX11_judge_59 : decode cX11_judge 59 = .ok (.getfield 42, 3) := by decide +kernel
theorem dX11_judge_62 : decode cX11_judge 62 = .ok (.iload_n 1, 1) := by decide +kernel
theorem dX11_judge_63 : decode cX11_judge 63 = .ok (.invokevirtual 138, 3) := by decide +kernel
theorem dX11_judge_66 : decode cX11_judge 66 = .ok (.ireturn, 1) := by decide +kernel
theorem dX11_judge_67 : decode cX11_judge 67 = .ok (.aload_n 0, 1) := by decide +kernel
theorem dX11_judge_68 : decode cX11_judge 68 = .ok (.iload_n 1, 1) := by decide +kernel
theorem dX11_judge_69 : decode cX11_judge 69 = .ok (.invokevirtual 141, 3) := by decide +kernel
theorem dX11_judge_72 : decode cX11_judge 72 = .ok (.ireturn, 1) := by decide +kernel
theorem dX11_judge_73 : decode cX11_judge 73 = .ok (.aload_n 0, 1) := by decide +kernel
theorem dX11_judge_74 : decode cX11_judge 74 = .ok (.aload_n 0, 1) := by decide +kernel
theorem dX11_judge_75 : decode cX11_judge 75 = .ok (.iload_n 1, 1) := by decide +kernel
theorem dX11_judge_76 : decode cX11_judge 76 = .ok (.invokevirtual 141, 3) := by decide +kernel
theorem dX11_judge_79 : decode cX11_judge 79 = .ok (.invokevirtual 144, 3) := by decide +kernel
theorem dX11_judge_82 : decode cX11_judge 82 = .ok (.ireturn, 1) := by decide +kernel
theorem dX11_judge_83 : decode cX11_judge 83 = .ok (.aload_n 0, 1) := by decide +kernel
theorem dX11_judge_84 : decode cX11_judge 84 = .ok (.getfield 57, 3) := by decide +kernel
theorem dX11_judge_87 : decode cX11_judge 87 = .ok (.aload_n 0, 1) := by decide +kernel
theorem dX11_judge_88 : decode cX11_judge 88 = .ok (.iload_n 1, 1) := by decide +kernel
theorem dX11_judge_89 : decode cX11_judge 89 = .ok (.invokevirtual 147, 3) := by decide +kernel
theorem dX11_judge_92 : decode cX11_judge 92 = .ok (.invokevirtual 151, 3) := by decide +kernel
theorem dX11_judge_95 : decode cX11_judge 95 = .ok (.ireturn, 1) := by decide +kernel
theorem dX11_judge_96 : decode cX11_judge 96 = .ok (.bipush (-102), 2) := by decide +kernel
theorem dX11_judge_98 : decode cX11_judge 98 = .ok (.ireturn, 1) := by decide +kernel
theorem dX11_as_0 : decode cX11_as 0 = .ok (.aload_n 0, 1) := by decide +kernel
theorem dX11_as_1 : decode cX11_as 1 = .ok (.iload_n 1, 1) := by decide +kernel
theorem dX11_as_2 : decode cX11_as 2 = .ok (.invokevirtual 134, 3) := by decide +kernel
theorem dX11_as_5 : decode cX11_as 5 = .ok (.ifCond .ne 6, 3) := by decide +kernel
theorem dX11_as_8 : decode cX11_as 8 = .ok (.bipush (-101), 2) := by decide +kernel
theorem dX11_as_10 : decode cX11_as 10 = .ok (.ireturn, 1) := by decide +kernel
theorem dX11_as_11 : decode cX11_as 11 = .ok (.iload_n 2, 1) := by decide +kernel
theorem dX11_as_12 : decode cX11_as 12 = .ok (.invokestatic 155, 3) := by decide +kernel
theorem dX11_as_15 : decode cX11_as 15 = .ok (.ifCond .ne 6, 3) := by decide +kernel
theorem dX11_as_18 : decode cX11_as 18 = .ok (.bipush (-102), 2) := by decide +kernel
theorem dX11_as_20 : decode cX11_as 20 = .ok (.ireturn, 1) := by decide +kernel
theorem dX11_as_21 : decode cX11_as 21 = .ok (.aload_n 0, 1) := by decide +kernel
theorem dX11_as_22 : decode cX11_as 22 = .ok (.iload_n 1, 1) := by decide +kernel
theorem dX11_as_23 : decode cX11_as 23 = .ok (.invokevirtual 147, 3) := by decide +kernel
theorem dX11_as_26 : decode cX11_as 26 = .ok (.iload_n 2, 1) := by decide +kernel
theorem dX11_as_27 : decode cX11_as 27 = .ok (.invokestatic 158, 3) := by decide +kernel
theorem dX11_as_30 : decode cX11_as 30 = .ok (.ifCond .eq 7, 3) := by decide +kernel
theorem dX11_as_33 : decode cX11_as 33 = .ok (.iload_n 1, 1) := by decide +kernel
theorem dX11_as_34 : decode cX11_as 34 = .ok (.goto 4, 3) := by decide +kernel
theorem dX11_as_37 : decode cX11_as 37 = .ok (.iconst (-1), 1) := by decide +kernel
theorem dX11_as_38 : decode cX11_as 38 = .ok (.ireturn, 1) := by decide +kernel
theorem dX11_row_0 : decode cX11_row 0 = .ok (.aload_n 0, 1) := by decide +kernel
theorem dX11_row_1 : decode cX11_row 1 = .ok (.iload_n 1, 1) := by decide +kernel
theorem dX11_row_2 : decode cX11_row 2 = .ok (.invokevirtual 162, 3) := by decide +kernel
theorem dX11_row_5 : decode cX11_row 5 = .ok (.ifCond .ne 6, 3) := by decide +kernel
theorem dX11_row_8 : decode cX11_row 8 = .ok (.bipush (-101), 2) := by decide +kernel
theorem dX11_row_10 : decode cX11_row 10 = .ok (.ireturn, 1) := by decide +kernel
theorem dX11_row_11 : decode cX11_row 11 = .ok (.iload_n 2, 1) := by decide +kernel
theorem dX11_row_12 : decode cX11_row 12 = .ok (.ifCond .lt 8, 3) := by decide +kernel
theorem dX11_row_15 : decode cX11_row 15 = .ok (.iload_n 2, 1) := by decide +kernel
theorem dX11_row_16 : decode cX11_row 16 = .ok (.iconst 4, 1) := by decide +kernel
theorem dX11_row_17 : decode cX11_row 17 = .ok (.if_icmp .le 6, 3) := by decide +kernel
theorem dX11_row_20 : decode cX11_row 20 = .ok (.bipush (-102), 2) := by decide +kernel
theorem dX11_row_22 : decode cX11_row 22 = .ok (.ireturn, 1) := by decide +kernel
theorem dX11_row_23 : decode cX11_row 23 = .ok (.iload_n 2, 1) := by decide +kernel
theorem dX11_row_24 : decode cX11_row 24 = .ok (.ifCond .ne 17, 3) := by decide +kernel
theorem dX11_row_27 : decode cX11_row 27 = .ok (.aload_n 0, 1) := by decide +kernel
theorem dX11_row_28 : decode cX11_row 28 = .ok (.iload_n 1, 1) := by decide +kernel
theorem dX11_row_29 : decode cX11_row 29 = .ok (.invokevirtual 165, 3) := by decide +kernel
theorem dX11_row_32 : decode cX11_row 32 = .ok (.ifCond .eq 7, 3) := by decide +kernel
theorem dX11_row_35 : decode cX11_row 35 = .ok (.iconst 1, 1) := by decide +kernel
theorem dX11_row_36 : decode cX11_row 36 = .ok (.goto 4, 3) := by decide +kernel
theorem dX11_row_39 : decode cX11_row 39 = .ok (.iconst 0, 1) := by decide +kernel
theorem dX11_row_40 : decode cX11_row 40 = .ok (.ireturn, 1) := by decide +kernel
theorem dX11_row_41 : decode cX11_row 41 = .ok (.iload_n 2, 1) := by decide +kernel
theorem dX11_row_42 : decode cX11_row 42 = .ok (.iconst 3, 1) := by decide +kernel
theorem dX11_row_43 : decode cX11_row 43 = .ok (.if_icmp .le 20, 3) := by decide +kernel
theorem dX11_row_46 : decode cX11_row 46 = .ok (.iload_n 1, 1) := by decide +kernel
theorem dX11_row_47 : decode cX11_row 47 = .ok (.aload_n 0, 1) := by decide +kernel
theorem dX11_row_48 : decode cX11_row 48 = .ok (.getfield 42, 3) := by decide +kernel
theorem dX11_row_51 : decode cX11_row 51 = .ok (.getfield 122, 3) := by decide +kernel
theorem dX11_row_54 : decode cX11_row 54 = .ok (.if_icmp .ne 7, 3) := by decide +kernel
theorem dX11_row_57 : decode cX11_row 57 = .ok (.iconst 1, 1) := by decide +kernel
theorem dX11_row_58 : decode cX11_row 58 = .ok (.goto 4, 3) := by decide +kernel
theorem dX11_row_61 : decode cX11_row 61 = .ok (.iconst 0, 1) := by decide +kernel
theorem dX11_row_62 : decode cX11_row 62 = .ok (.ireturn, 1) := by decide +kernel
theorem dX11_row_63 : decode cX11_row 63 = .ok (.iload_n 2, 1) := by decide +kernel
theorem dX11_row_64 : decode cX11_row 64 = .ok (.aload_n 0, 1) := by decide +kernel
theorem dX11_row_65 : decode cX11_row 65 = .ok (.getfield 57, 3) := by decide +kernel
theorem dX11_row_68 : decode cX11_row 68 = .ok (.getfield 168, 3) := by decide +kernel
theorem dX11_row_71 : decode cX11_row 71 = .ok (.if_icmp .gt 17, 3) := by decide +kernel
theorem dX11_row_74 : decode cX11_row 74 = .ok (.aload_n 0, 1) := by decide +kernel
theorem dX11_row_75 : decode cX11_row 75 = .ok (.getfield 57, 3) := by decide +kernel
theorem dX11_row_78 : decode cX11_row 78 = .ok (.iload_n 1, 1) := by decide +kernel
theorem dX11_row_79 : decode cX11_row 79 = .ok (.iload_n 2, 1) := by decide +kernel
theorem dX11_row_80 : decode cX11_row 80 = .ok (.iconst 1, 1) := by decide +kernel
theorem dX11_row_81 : decode cX11_row 81 = .ok (.isub, 1) := by decide +kernel
theorem dX11_row_82 : decode cX11_row 82 = .ok (.invokevirtual 170, 3) := by decide +kernel
theorem dX11_row_85 : decode cX11_row 85 = .ok (.goto 4, 3) := by decide +kernel
theorem dX11_row_88 : decode cX11_row 88 = .ok (.iconst (-1), 1) := by decide +kernel
theorem dX11_row_89 : decode cX11_row 89 = .ok (.ireturn, 1) := by decide +kernel
theorem dX11_tells_0 : decode cX11_tells 0 = .ok (.aload_n 0, 1) := by decide +kernel
theorem dX11_tells_1 : decode cX11_tells 1 = .ok (.iload_n 1, 1) := by decide +kernel
theorem dX11_tells_2 : decode cX11_tells 2 = .ok (.invokevirtual 134, 3) := by decide +kernel
theorem dX11_tells_5 : decode cX11_tells 5 = .ok (.ifCond .eq 19, 3) := by decide +kernel
theorem dX11_tells_8 : decode cX11_tells 8 = .ok (.aload_n 0, 1) := by decide +kernel
theorem dX11_tells_9 : decode cX11_tells 9 = .ok (.iload_n 2, 1) := by decide +kernel
theorem dX11_tells_10 : decode cX11_tells 10 = .ok (.invokevirtual 162, 3) := by decide +kernel
theorem dX11_tells_13 : decode cX11_tells 13 = .ok (.ifCond .eq 11, 3) := by decide +kernel
theorem dX11_tells_16 : decode cX11_tells 16 = .ok (.aload_n 0, 1) := by decide +kernel
theorem dX11_tells_17 : decode cX11_tells 17 = .ok (.iload_n 3, 1) := by decide +kernel
theorem dX11_tells_18 : decode cX11_tells 18 = .ok (.invokevirtual 162, 3) := by decide +kernel
theorem dX11_tells_21 : decode cX11_tells 21 = .ok (.ifCond .ne 6, 3) := by decide +kernel
theorem dX11_tells_24 : decode cX11_tells 24 = .ok (.bipush (-101), 2) := by decide +kernel
theorem dX11_tells_26 : decode cX11_tells 26 = .ok (.ireturn, 1) := by decide +kernel
theorem dX11_tells_27 : decode cX11_tells 27 = .ok (.aload_n 0, 1) := by decide +kernel
theorem dX11_tells_28 : decode cX11_tells 28 = .ok (.iload_n 1, 1) := by decide +kernel
theorem dX11_tells_29 : decode cX11_tells 29 = .ok (.invokevirtual 147, 3) := by decide +kernel
theorem dX11_tells_32 : decode cX11_tells 32 = .ok (.aload_n 0, 1) := by decide +kernel
theorem dX11_tells_33 : decode cX11_tells 33 = .ok (.getfield 57, 3) := by decide +kernel
theorem dX11_tells_36 : decode cX11_tells 36 = .ok (.iload_n 2, 1) := by decide +kernel
theorem dX11_tells_37 : decode cX11_tells 37 = .ok (.iload_n 3, 1) := by decide +kernel
theorem dX11_tells_38 : decode cX11_tells 38 = .ok (.invokevirtual 174, 3) := by decide +kernel
theorem dX11_tells_41 : decode cX11_tells 41 = .ok (.ireturn, 1) := by decide +kernel
theorem dX11_seen_0 : decode cX11_seen 0 = .ok (.iload_n 1, 1) := by decide +kernel
theorem dX11_seen_1 : decode cX11_seen 1 = .ok (.ifCond .lt 14, 3) := by decide +kernel
theorem dX11_seen_4 : decode cX11_seen 4 = .ok (.iload_n 1, 1) := by decide +kernel
theorem dX11_seen_5 : decode cX11_seen 5 = .ok (.aload_n 0, 1) := by decide +kernel
theorem dX11_seen_6 : decode cX11_seen 6 = .ok (.getfield 42, 3) := by decide +kernel
theorem dX11_seen_9 : decode cX11_seen 9 = .ok (.getfield 125, 3) := by decide +kernel
theorem dX11_seen_12 : decode cX11_seen 12 = .ok (.if_icmp .lt 6, 3) := by decide +kernel
theorem dX11_seen_15 : decode cX11_seen 15 = .ok (.bipush (-101), 2) := by decide +kernel
theorem dX11_seen_17 : decode cX11_seen 17 = .ok (.ireturn, 1) := by decide +kernel
theorem dX11_seen_18 : decode cX11_seen 18 = .ok (.iload_n 2, 1) := by decide +kernel
theorem dX11_seen_19 : decode cX11_seen 19 = .ok (.tableswitch 55 0 2 #[25, 35, 45], 25) := by decide +kernel
theorem dX11_seen_44 : decode cX11_seen 44 = .ok (.aload_n 0, 1) := by decide +kernel
theorem dX11_seen_45 : decode cX11_seen 45 = .ok (.getfield 42, 3) := by decide +kernel
theorem dX11_seen_48 : decode cX11_seen 48 = .ok (.getfield 178, 3) := by decide +kernel
theorem dX11_seen_51 : decode cX11_seen 51 = .ok (.iload_n 1, 1) := by decide +kernel
theorem dX11_seen_52 : decode cX11_seen 52 = .ok (.iaload, 1) := by decide +kernel
theorem dX11_seen_53 : decode cX11_seen 53 = .ok (.ireturn, 1) := by decide +kernel
theorem dX11_seen_54 : decode cX11_seen 54 = .ok (.aload_n 0, 1) := by decide +kernel
theorem dX11_seen_55 : decode cX11_seen 55 = .ok (.getfield 42, 3) := by decide +kernel
theorem dX11_seen_58 : decode cX11_seen 58 = .ok (.getfield 181, 3) := by decide +kernel
theorem dX11_seen_61 : decode cX11_seen 61 = .ok (.iload_n 1, 1) := by decide +kernel
theorem dX11_seen_62 : decode cX11_seen 62 = .ok (.iaload, 1) := by decide +kernel
theorem dX11_seen_63 : decode cX11_seen 63 = .ok (.ireturn, 1) := by decide +kernel
theorem dX11_seen_64 : decode cX11_seen 64 = .ok (.aload_n 0, 1) := by decide +kernel
theorem dX11_seen_65 : decode cX11_seen 65 = .ok (.getfield 42, 3) := by decide +kernel
theorem dX11_seen_68 : decode cX11_seen 68 = .ok (.getfield 184, 3) := by decide +kernel
theorem dX11_seen_71 : decode cX11_seen 71 = .ok (.iload_n 1, 1) := by decide +kernel
theorem dX11_seen_72 : decode cX11_seen 72 = .ok (.iaload, 1) := by decide +kernel
theorem dX11_seen_73 : decode cX11_seen 73 = .ok (.ireturn, 1) := by decide +kernel
theorem dX11_seen_74 : decode cX11_seen 74 = .ok (.bipush (-102), 2) := by decide +kernel
theorem dX11_seen_76 : decode cX11_seen 76 = .ok (.ireturn, 1) := by decide +kernel
theorem dX11_show_0 : decode cX11_show 0 = .ok (.aload_n 0, 1) := by decide +kernel
theorem dX11_show_1 : decode cX11_show 1 = .ok (.iload_n 1, 1) := by decide +kernel
theorem dX11_show_2 : decode cX11_show 2 = .ok (.invokevirtual 162, 3) := by decide +kernel
theorem dX11_show_5 : decode cX11_show 5 = .ok (.ifCond .eq 11, 3) := by decide +kernel
theorem dX11_show_8 : decode cX11_show 8 = .ok (.aload_n 0, 1) := by decide +kernel
theorem dX11_show_9 : decode cX11_show 9 = .ok (.iload_n 2, 1) := by decide +kernel
theorem dX11_show_10 : decode cX11_show 10 = .ok (.invokevirtual 134, 3) := by decide +kernel
theorem dX11_show_13 : decode cX11_show 13 = .ok (.ifCond .ne 6, 3) := by decide +kernel
theorem dX11_show_16 : decode cX11_show 16 = .ok (.bipush (-101), 2) := by decide +kernel
theorem dX11_show_18 : decode cX11_show 18 = .ok (.ireturn, 1) := by decide +kernel
theorem dX11_show_19 : decode cX11_show 19 = .ok (.aload_n 0, 1) := by decide +kernel
theorem dX11_show_20 : decode cX11_show 20 = .ok (.getfield 42, 3) := by decide +kernel
theorem dX11_show_23 : decode cX11_show 23 = .ok (.getfield 125, 3) := by decide +kernel
theorem dX11_show_26 : decode cX11_show 26 = .ok (.bipush 12, 2) := by decide +kernel
theorem dX11_show_28 : decode cX11_show 28 = .ok (.if_icmp .lt 6, 3) := by decide +kernel
theorem dX11_show_31 : decode cX11_show 31 = .ok (.bipush (-104), 2) := by decide +kernel
theorem dX11_show_33 : decode cX11_show 33 = .ok (.ireturn, 1) := by decide +kernel
theorem dX11_show_34 : decode cX11_show 34 = .ok (.aload_n 0, 1) := by decide +kernel
theorem dX11_show_35 : decode cX11_show 35 = .ok (.iload_n 2, 1) := by decide +kernel
theorem dX11_show_36 : decode cX11_show 36 = .ok (.invokevirtual 147, 3) := by decide +kernel
theorem dX11_show_39 : decode cX11_show 39 = .ok (.aload_n 0, 1) := by decide +kernel
theorem dX11_show_40 : decode cX11_show 40 = .ok (.getfield 57, 3) := by decide +kernel
theorem dX11_show_43 : decode cX11_show 43 = .ok (.iload_n 1, 1) := by decide +kernel
theorem dX11_show_44 : decode cX11_show 44 = .ok (.aload_n 0, 1) := by decide +kernel
theorem dX11_show_45 : decode cX11_show 45 = .ok (.getfield 42, 3) := by decide +kernel
theorem dX11_show_48 : decode cX11_show 48 = .ok (.getfield 122, 3) := by decide +kernel
theorem dX11_show_51 : decode cX11_show 51 = .ok (.invokevirtual 174, 3) := by decide +kernel
theorem dX11_show_54 : decode cX11_show 54 = .ok (.istore_n 3, 1) := by decide +kernel
theorem dX11_show_55 : decode cX11_show 55 = .ok (.aload_n 0, 1) := by decide +kernel
theorem dX11_show_56 : decode cX11_show 56 = .ok (.getfield 42, 3) := by decide +kernel
theorem dX11_show_59 : decode cX11_show 59 = .ok (.iload_n 1, 1) := by decide +kernel
theorem dX11_show_60 : decode cX11_show 60 = .ok (.iload_n 2, 1) := by decide +kernel
theorem dX11_show_61 : decode cX11_show 61 = .ok (.iload_n 3, 1) := by decide +kernel
theorem dX11_show_62 : decode cX11_show 62 = .ok (.invokevirtual 187, 3) := by decide +kernel
theorem dX11_show_65 : decode cX11_show 65 = .ok (.iload_n 3, 1) := by decide +kernel
theorem dX11_show_66 : decode cX11_show 66 = .ok (.ireturn, 1) := by decide +kernel
theorem dX11_note_0 : decode cX11_note 0 = .ok (.aload_n 0, 1) := by decide +kernel
theorem dX11_note_1 : decode cX11_note 1 = .ok (.iload_n 1, 1) := by decide +kernel
theorem dX11_note_2 : decode cX11_note 2 = .ok (.invokevirtual 162, 3) := by decide +kernel
theorem dX11_note_5 : decode cX11_note 5 = .ok (.ifCond .eq 11, 3) := by decide +kernel
theorem dX11_note_8 : decode cX11_note 8 = .ok (.aload_n 0, 1) := by decide +kernel
theorem dX11_note_9 : decode cX11_note 9 = .ok (.iload_n 2, 1) := by decide +kernel
theorem dX11_note_10 : decode cX11_note 10 = .ok (.invokevirtual 134, 3) := by decide +kernel
theorem dX11_note_13 : decode cX11_note 13 = .ok (.ifCond .ne 6, 3) := by decide +kernel
theorem dX11_note_16 : decode cX11_note 16 = .ok (.bipush (-101), 2) := by decide +kernel
theorem dX11_note_18 : decode cX11_note 18 = .ok (.ireturn, 1) := by decide +kernel
theorem dX11_note_19 : decode cX11_note 19 = .ok (.iload_n 3, 1) := by decide +kernel
theorem dX11_note_20 : decode cX11_note 20 = .ok (.ifCond .lt 9, 3) := by decide +kernel
theorem dX11_note_23 : decode cX11_note 23 = .ok (.iload_n 3, 1) := by decide +kernel
theorem dX11_note_24 : decode cX11_note 24 = .ok (.bipush 40, 2) := by decide +kernel
theorem dX11_note_26 : decode cX11_note 26 = .ok (.if_icmp .le 6, 3) := by decide +kernel
theorem dX11_note_29 : decode cX11_note 29 = .ok (.bipush (-102), 2) := by decide +kernel
theorem dX11_note_31 : decode cX11_note 31 = .ok (.ireturn, 1) := by decide +kernel
theorem dX11_note_32 : decode cX11_note 32 = .ok (.aload_n 0, 1) := by decide +kernel
theorem dX11_note_33 : decode cX11_note 33 = .ok (.getfield 42, 3) := by decide +kernel
theorem dX11_note_36 : decode cX11_note 36 = .ok (.getfield 125, 3) := by decide +kernel
theorem dX11_note_39 : decode cX11_note 39 = .ok (.bipush 12, 2) := by decide +kernel
theorem dX11_note_41 : decode cX11_note 41 = .ok (.if_icmp .lt 6, 3) := by decide +kernel
theorem dX11_note_44 : decode cX11_note 44 = .ok (.bipush (-104), 2) := by decide +kernel
theorem dX11_note_46 : decode cX11_note 46 = .ok (.ireturn, 1) := by decide +kernel
theorem dX11_note_47 : decode cX11_note 47 = .ok (.aload_n 0, 1) := by decide +kernel
theorem dX11_note_48 : decode cX11_note 48 = .ok (.getfield 42, 3) := by decide +kernel
theorem dX11_note_51 : decode cX11_note 51 = .ok (.iload_n 1, 1) := by decide +kernel
theorem dX11_note_52 : decode cX11_note 52 = .ok (.iload_n 2, 1) := by decide +kernel
theorem dX11_note_53 : decode cX11_note 53 = .ok (.iload_n 3, 1) := by decide +kernel
theorem dX11_note_54 : decode cX11_note 54 = .ok (.invokevirtual 187, 3) := by decide +kernel
theorem dX11_note_57 : decode cX11_note 57 = .ok (.aload_n 0, 1) := by decide +kernel
theorem dX11_note_58 : decode cX11_note 58 = .ok (.invokevirtual 190, 3) := by decide +kernel
theorem dX11_note_61 : decode cX11_note 61 = .ok (.ireturn, 1) := by decide +kernel
theorem dX11_strike_0 : decode cX11_strike 0 = .ok (.aload_n 0, 1) := by decide +kernel
theorem dX11_strike_1 : decode cX11_strike 1 = .ok (.getfield 42, 3) := by decide +kernel
theorem dX11_strike_4 : decode cX11_strike 4 = .ok (.getfield 125, 3) := by decide +kernel
theorem dX11_strike_7 : decode cX11_strike 7 = .ok (.ifCond .ne 6, 3) := by decide +kernel
theorem dX11_strike_10 : decode cX11_strike 10 = .ok (.bipush (-103), 2) := by decide +kernel
theorem dX11_strike_12 : decode cX11_strike 12 = .ok (.ireturn, 1) := by decide +kernel
theorem dX11_strike_13 : decode cX11_strike 13 = .ok (.aload_n 0, 1) := by decide +kernel
theorem dX11_strike_14 : decode cX11_strike 14 = .ok (.getfield 42, 3) := by decide +kernel
theorem dX11_strike_17 : decode cX11_strike 17 = .ok (.dup, 1) := by decide +kernel
theorem dX11_strike_18 : decode cX11_strike 18 = .ok (.getfield 125, 3) := by decide +kernel
theorem dX11_strike_21 : decode cX11_strike 21 = .ok (.iconst 1, 1) := by decide +kernel
theorem dX11_strike_22 : decode cX11_strike 22 = .ok (.isub, 1) := by decide +kernel
theorem dX11_strike_23 : decode cX11_strike 23 = .ok (.putfield 125, 3) := by decide +kernel
theorem dX11_strike_26 : decode cX11_strike 26 = .ok (.aload_n 0, 1) := by decide +kernel
theorem dX11_strike_27 : decode cX11_strike 27 = .ok (.getfield 42, 3) := by decide +kernel
theorem dX11_strike_30 : decode cX11_strike 30 = .ok (.getfield 125, 3) := by decide +kernel
theorem dX11_strike_33 : decode cX11_strike 33 = .ok (.ireturn, 1) := by decide +kernel
theorem dX11_forget_0 : decode cX11_forget 0 = .ok (.aload_n 0, 1) := by decide +kernel
theorem dX11_forget_1 : decode cX11_forget 1 = .ok (.getfield 42, 3) := by decide +kernel
theorem dX11_forget_4 : decode cX11_forget 4 = .ok (.getfield 125, 3) := by decide +kernel
theorem dX11_forget_7 : decode cX11_forget 7 = .ok (.istore_n 1, 1) := by decide +kernel
theorem dX11_forget_8 : decode cX11_forget 8 = .ok (.aload_n 0, 1) := by decide +kernel
theorem dX11_forget_9 : decode cX11_forget 9 = .ok (.getfield 42, 3) := by decide +kernel
theorem dX11_forget_12 : decode cX11_forget 12 = .ok (.iconst 0, 1) := by decide +kernel
theorem dX11_forget_13 : decode cX11_forget 13 = .ok (.putfield 125, 3) := by decide +kernel
theorem dX11_forget_16 : decode cX11_forget 16 = .ok (.iload_n 1, 1) := by decide +kernel
theorem dX11_forget_17 : decode cX11_forget 17 = .ok (.ireturn, 1) := by decide +kernel
theorem dX11_hide_0 : decode cX11_hide 0 = .ok (.aload_n 0, 1) := by decide +kernel
theorem dX11_hide_1 : decode cX11_hide 1 = .ok (.iload_n 1, 1) := by decide +kernel
theorem dX11_hide_2 : decode cX11_hide 2 = .ok (.invokevirtual 162, 3) := by decide +kernel
theorem dX11_hide_5 : decode cX11_hide 5 = .ok (.ifCond .ne 6, 3) := by decide +kernel
theorem dX11_hide_8 : decode cX11_hide 8 = .ok (.bipush (-101), 2) := by decide +kernel
theorem dX11_hide_10 : decode cX11_hide 10 = .ok (.ireturn, 1) := by decide +kernel
theorem dX11_hide_11 : decode cX11_hide 11 = .ok (.aload_n 0, 1) := by decide +kernel
theorem dX11_hide_12 : decode cX11_hide 12 = .ok (.getfield 42, 3) := by decide +kernel
theorem dX11_hide_15 : decode cX11_hide 15 = .ok (.getfield 122, 3) := by decide +kernel
theorem dX11_hide_18 : decode cX11_hide 18 = .ok (.istore_n 2, 1) := by decide +kernel
theorem dX11_hide_19 : decode cX11_hide 19 = .ok (.aload_n 0, 1) := by decide +kernel
theorem dX11_hide_20 : decode cX11_hide 20 = .ok (.getfield 42, 3) := by decide +kernel
theorem dX11_hide_23 : decode cX11_hide 23 = .ok (.iload_n 1, 1) := by decide +kernel
theorem dX11_hide_24 : decode cX11_hide 24 = .ok (.putfield 122, 3) := by decide +kernel
theorem dX11_hide_27 : decode cX11_hide 27 = .ok (.iload_n 2, 1) := by decide +kernel
theorem dX11_hide_28 : decode cX11_hide 28 = .ok (.ireturn, 1) := by decide +kernel
theorem dX11_swap_0 : decode cX11_swap 0 = .ok (.aload_n 0, 1) := by decide +kernel
theorem dX11_swap_1 : decode cX11_swap 1 = .ok (.iload_n 1, 1) := by decide +kernel
theorem dX11_swap_2 : decode cX11_swap 2 = .ok (.invokevirtual 134, 3) := by decide +kernel
theorem dX11_swap_5 : decode cX11_swap 5 = .ok (.ifCond .ne 6, 3) := by decide +kernel
theorem dX11_swap_8 : decode cX11_swap 8 = .ok (.bipush (-101), 2) := by decide +kernel
theorem dX11_swap_10 : decode cX11_swap 10 = .ok (.ireturn, 1) := by decide +kernel
theorem dX11_swap_11 : decode cX11_swap 11 = .ok (.iload_n 2, 1) := by decide +kernel
theorem dX11_swap_12 : decode cX11_swap 12 = .ok (.invokestatic 155, 3) := by decide +kernel
theorem dX11_swap_15 : decode cX11_swap 15 = .ok (.ifCond .ne 6, 3) := by decide +kernel
theorem dX11_swap_18 : decode cX11_swap 18 = .ok (.bipush (-102), 2) := by decide +kernel
theorem dX11_swap_20 : decode cX11_swap 20 = .ok (.ireturn, 1) := by decide +kernel
theorem dX11_swap_21 : decode cX11_swap 21 = .ok (.aload_n 0, 1) := by decide +kernel
theorem dX11_swap_22 : decode cX11_swap 22 = .ok (.getfield 42, 3) := by decide +kernel
theorem dX11_swap_25 : decode cX11_swap 25 = .ok (.getfield 113, 3) := by decide +kernel
theorem dX11_swap_28 : decode cX11_swap 28 = .ok (.iload_n 1, 1) := by decide +kernel
theorem dX11_swap_29 : decode cX11_swap 29 = .ok (.iaload, 1) := by decide +kernel
theorem dX11_swap_30 : decode cX11_swap 30 = .ok (.istore_n 3, 1) := by decide +kernel
theorem dX11_swap_31 : decode cX11_swap 31 = .ok (.aload_n 0, 1) := by decide +kernel
theorem dX11_swap_32 : decode cX11_swap 32 = .ok (.getfield 42, 3) := by decide +kernel
theorem dX11_swap_35 : decode cX11_swap 35 = .ok (.getfield 113, 3) := by decide +kernel
theorem dX11_swap_38 : decode cX11_swap 38 = .ok (.iload_n 1, 1) := by decide +kernel
theorem dX11_swap_39 : decode cX11_swap 39 = .ok (.iload_n 2, 1) := by decide +kernel
theorem dX11_swap_40 : decode cX11_swap 40 = .ok (.iastore, 1) := by decide +kernel
theorem dX11_swap_41 : decode cX11_swap 41 = .ok (.iload_n 3, 1) := by decide +kernel
theorem dX11_swap_42 : decode cX11_swap 42 = .ok (.ireturn, 1) := by decide +kernel
theorem dX11_left_0 : decode cX11_left 0 = .ok (.aload_n 0, 1) := by decide +kernel
theorem dX11_left_1 : decode cX11_left 1 = .ok (.invokevirtual 193, 3) := by decide +kernel
theorem dX11_left_4 : decode cX11_left 4 = .ok (.ifCond .eq 10, 3) := by decide +kernel
theorem dX11_left_7 : decode cX11_left 7 = .ok (.aload_n 0, 1) := by decide +kernel
theorem dX11_left_8 : decode cX11_left 8 = .ok (.invokevirtual 190, 3) := by decide +kernel
theorem dX11_left_11 : decode cX11_left 11 = .ok (.goto 5, 3) := by decide +kernel
theorem dX11_left_14 : decode cX11_left 14 = .ok (.bipush (-103), 2) := by decide +kernel
theorem dX11_left_16 : decode cX11_left 16 = .ok (.ireturn, 1) := by decide +kernel
theorem dX11_fits_0 : decode cX11_fits 0 = .ok (.iload_n 1, 1) := by decide +kernel
theorem dX11_fits_1 : decode cX11_fits 1 = .ok (.ifCond .ge 6, 3) := by decide +kernel
theorem dX11_fits_4 : decode cX11_fits 4 = .ok (.bipush (-102), 2) := by decide +kernel
theorem dX11_fits_6 : decode cX11_fits 6 = .ok (.ireturn, 1) := by decide +kernel
theorem dX11_fits_7 : decode cX11_fits 7 = .ok (.aload_n 0, 1) := by decide +kernel
theorem dX11_fits_8 : decode cX11_fits 8 = .ok (.invokevirtual 193, 3) := by decide +kernel
theorem dX11_fits_11 : decode cX11_fits 11 = .ok (.ifCond .ne 6, 3) := by decide +kernel
theorem dX11_fits_14 : decode cX11_fits 14 = .ok (.bipush (-103), 2) := by decide +kernel
theorem dX11_fits_16 : decode cX11_fits 16 = .ok (.ireturn, 1) := by decide +kernel
theorem dX11_fits_17 : decode cX11_fits 17 = .ok (.iload_n 1, 1) := by decide +kernel
theorem dX11_fits_18 : decode cX11_fits 18 = .ok (.aload_n 0, 1) := by decide +kernel
theorem dX11_fits_19 : decode cX11_fits 19 = .ok (.invokevirtual 190, 3) := by decide +kernel
theorem dX11_fits_22 : decode cX11_fits 22 = .ok (.if_icmp .ge 15, 3) := by decide +kernel
theorem dX11_fits_25 : decode cX11_fits 25 = .ok (.aload_n 0, 1) := by decide +kernel
theorem dX11_fits_26 : decode cX11_fits 26 = .ok (.getfield 61, 3) := by decide +kernel
theorem dX11_fits_29 : decode cX11_fits 29 = .ok (.getfield 196, 3) := by decide +kernel
theorem dX11_fits_32 : decode cX11_fits 32 = .ok (.iload_n 1, 1) := by decide +kernel
theorem dX11_fits_33 : decode cX11_fits 33 = .ok (.iaload, 1) := by decide +kernel
theorem dX11_fits_34 : decode cX11_fits 34 = .ok (.goto 4, 3) := by decide +kernel
theorem dX11_fits_37 : decode cX11_fits 37 = .ok (.iconst (-1), 1) := by decide +kernel
theorem dX11_fits_38 : decode cX11_fits 38 = .ok (.ireturn, 1) := by decide +kernel
theorem dX11_best_0 : decode cX11_best 0 = .ok (.aload_n 0, 1) := by decide +kernel
theorem dX11_best_1 : decode cX11_best 1 = .ok (.iload_n 1, 1) := by decide +kernel
theorem dX11_best_2 : decode cX11_best 2 = .ok (.invokevirtual 134, 3) := by decide +kernel
theorem dX11_best_5 : decode cX11_best 5 = .ok (.ifCond .ne 6, 3) := by decide +kernel
theorem dX11_best_8 : decode cX11_best 8 = .ok (.bipush (-101), 2) := by decide +kernel
theorem dX11_best_10 : decode cX11_best 10 = .ok (.ireturn, 1) := by decide +kernel
theorem dX11_best_11 : decode cX11_best 11 = .ok (.iload_n 2, 1) := by decide +kernel
theorem dX11_best_12 : decode cX11_best 12 = .ok (.ifCond .lt 8, 3) := by decide +kernel
theorem dX11_best_15 : decode cX11_best 15 = .ok (.iload_n 2, 1) := by decide +kernel
theorem dX11_best_16 : decode cX11_best 16 = .ok (.iconst 1, 1) := by decide +kernel
theorem dX11_best_17 : decode cX11_best 17 = .ok (.if_icmp .le 6, 3) := by decide +kernel
theorem dX11_best_20 : decode cX11_best 20 = .ok (.bipush (-102), 2) := by decide +kernel
theorem dX11_best_22 : decode cX11_best 22 = .ok (.ireturn, 1) := by decide +kernel
theorem dX11_best_23 : decode cX11_best 23 = .ok (.aload_n 0, 1) := by decide +kernel
theorem dX11_best_24 : decode cX11_best 24 = .ok (.getfield 199, 3) := by decide +kernel
theorem dX11_best_27 : decode cX11_best 27 = .ok (.bipush 24, 2) := by decide +kernel
theorem dX11_best_29 : decode cX11_best 29 = .ok (.if_icmp .lt 6, 3) := by decide +kernel
theorem dX11_best_32 : decode cX11_best 32 = .ok (.bipush (-103), 2) := by decide +kernel
theorem dX11_best_34 : decode cX11_best 34 = .ok (.ireturn, 1) := by decide +kernel
theorem dX11_best_35 : decode cX11_best 35 = .ok (.aload_n 0, 1) := by decide +kernel
theorem dX11_best_36 : decode cX11_best 36 = .ok (.dup, 1) := by decide +kernel
theorem dX11_best_37 : decode cX11_best 37 = .ok (.getfield 199, 3) := by decide +kernel
theorem dX11_best_40 : decode cX11_best 40 = .ok (.iconst 1, 1) := by decide +kernel
theorem dX11_best_41 : decode cX11_best 41 = .ok (.iadd, 1) := by decide +kernel
theorem dX11_best_42 : decode cX11_best 42 = .ok (.putfield 199, 3) := by decide +kernel
theorem dX11_best_45 : decode cX11_best 45 = .ok (.aload_n 0, 1) := by decide +kernel
theorem dX11_best_46 : decode cX11_best 46 = .ok (.invokevirtual 190, 3) := by decide +kernel
theorem dX11_best_49 : decode cX11_best 49 = .ok (.pop, 1) := by decide +kernel
theorem dX11_best_50 : decode cX11_best 50 = .ok (.aload_n 0, 1) := by decide +kernel
theorem dX11_best_51 : decode cX11_best 51 = .ok (.getfield 61, 3) := by decide +kernel
theorem dX11_best_54 : decode cX11_best 54 = .ok (.aload_n 0, 1) := by decide +kernel
theorem dX11_best_55 : decode cX11_best 55 = .ok (.iload_n 1, 1) := by decide +kernel
theorem dX11_best_56 : decode cX11_best 56 = .ok (.invokevirtual 147, 3) := by decide +kernel
theorem dX11_best_59 : decode cX11_best 59 = .ok (.invokevirtual 202, 3) := by decide +kernel
theorem dX11_best_62 : decode cX11_best 62 = .ok (.istore_n 3, 1) := by decide +kernel
theorem dX11_best_63 : decode cX11_best 63 = .ok (.iload_n 2, 1) := by decide +kernel
theorem dX11_best_64 : decode cX11_best 64 = .ok (.ifCond .ne 5, 3) := by decide +kernel
theorem dX11_best_67 : decode cX11_best 67 = .ok (.iload_n 3, 1) := by decide +kernel
theorem dX11_best_68 : decode cX11_best 68 = .ok (.ireturn, 1) := by decide +kernel
theorem dX11_best_69 : decode cX11_best 69 = .ok (.iload_n 3, 1) := by decide +kernel
theorem dX11_best_70 : decode cX11_best 70 = .ok (.iconst (-1), 1) := by decide +kernel
theorem dX11_best_71 : decode cX11_best 71 = .ok (.if_icmp .ne 7, 3) := by decide +kernel
theorem dX11_best_74 : decode cX11_best 74 = .ok (.iconst 0, 1) := by decide +kernel
theorem dX11_best_75 : decode cX11_best 75 = .ok (.goto 16, 3) := by decide +kernel
theorem dX11_best_78 : decode cX11_best 78 = .ok (.aload_n 0, 1) := by decide +kernel
theorem dX11_best_79 : decode cX11_best 79 = .ok (.getfield 61, 3) := by decide +kernel
theorem dX11_best_82 : decode cX11_best 82 = .ok (.aload_n 0, 1) := by decide +kernel
theorem dX11_best_83 : decode cX11_best 83 = .ok (.iload_n 1, 1) := by decide +kernel
theorem dX11_best_84 : decode cX11_best 84 = .ok (.invokevirtual 147, 3) := by decide +kernel
theorem dX11_best_87 : decode cX11_best 87 = .ok (.iload_n 3, 1) := by decide +kernel
theorem dX11_best_88 : decode cX11_best 88 = .ok (.invokevirtual 205, 3) := by decide +kernel
theorem dX11_best_91 : decode cX11_best 91 = .ok (.ireturn, 1) := by decide +kernel
theorem dX11_rest_0 : decode cX11_rest 0 = .ok (.aload_n 0, 1) := by decide +kernel
theorem dX11_rest_1 : decode cX11_rest 1 = .ok (.iload_n 1, 1) := by decide +kernel
theorem dX11_rest_2 : decode cX11_rest 2 = .ok (.invokevirtual 162, 3) := by decide +kernel
theorem dX11_rest_5 : decode cX11_rest 5 = .ok (.ifCond .eq 11, 3) := by decide +kernel
theorem dX11_rest_8 : decode cX11_rest 8 = .ok (.aload_n 0, 1) := by decide +kernel
theorem dX11_rest_9 : decode cX11_rest 9 = .ok (.iload_n 2, 1) := by decide +kernel
theorem dX11_rest_10 : decode cX11_rest 10 = .ok (.invokevirtual 134, 3) := by decide +kernel
theorem dX11_rest_13 : decode cX11_rest 13 = .ok (.ifCond .ne 6, 3) := by decide +kernel
theorem dX11_rest_16 : decode cX11_rest 16 = .ok (.bipush (-101), 2) := by decide +kernel
theorem dX11_rest_18 : decode cX11_rest 18 = .ok (.ireturn, 1) := by decide +kernel
theorem dX11_rest_19 : decode cX11_rest 19 = .ok (.iload_n 3, 1) := by decide +kernel
theorem dX11_rest_20 : decode cX11_rest 20 = .ok (.ifCond .lt 8, 3) := by decide +kernel
theorem dX11_rest_23 : decode cX11_rest 23 = .ok (.iload_n 3, 1) := by decide +kernel
theorem dX11_rest_24 : decode cX11_rest 24 = .ok (.iconst 1, 1) := by decide +kernel
theorem dX11_rest_25 : decode cX11_rest 25 = .ok (.if_icmp .le 6, 3) := by decide +kernel
theorem dX11_rest_28 : decode cX11_rest 28 = .ok (.bipush (-102), 2) := by decide +kernel
theorem dX11_rest_30 : decode cX11_rest 30 = .ok (.ireturn, 1) := by decide +kernel
theorem dX11_rest_31 : decode cX11_rest 31 = .ok (.aload_n 0, 1) := by decide +kernel
theorem dX11_rest_32 : decode cX11_rest 32 = .ok (.invokevirtual 190, 3) := by decide +kernel
theorem dX11_rest_35 : decode cX11_rest 35 = .ok (.ifCond .ne 5, 3) := by decide +kernel
theorem dX11_rest_38 : decode cX11_rest 38 = .ok (.iload_n 3, 1) := by decide +kernel
theorem dX11_rest_39 : decode cX11_rest 39 = .ok (.ireturn, 1) := by decide +kernel
theorem dX11_rest_40 : decode cX11_rest 40 = .ok (.aload_n 0, 1) := by decide +kernel
theorem dX11_rest_41 : decode cX11_rest 41 = .ok (.getfield 61, 3) := by decide +kernel
theorem dX11_rest_44 : decode cX11_rest 44 = .ok (.aload_n 0, 1) := by decide +kernel
theorem dX11_rest_45 : decode cX11_rest 45 = .ok (.iload_n 2, 1) := by decide +kernel
theorem dX11_rest_46 : decode cX11_rest 46 = .ok (.invokevirtual 147, 3) := by decide +kernel
theorem dX11_rest_49 : decode cX11_rest 49 = .ok (.iload_n 1, 1) := by decide +kernel
theorem dX11_rest_50 : decode cX11_rest 50 = .ok (.invokevirtual 209, 3) := by decide +kernel
theorem dX11_rest_53 : decode cX11_rest 53 = .ok (.istore 4, 2) := by decide +kernel
theorem dX11_rest_55 : decode cX11_rest 55 = .ok (.iload 4, 2) := by decide +kernel
theorem dX11_rest_57 : decode cX11_rest 57 = .ok (.aload_n 0, 1) := by decide +kernel
theorem dX11_rest_58 : decode cX11_rest 58 = .ok (.getfield 61, 3) := by decide +kernel
theorem dX11_rest_61 : decode cX11_rest 61 = .ok (.getfield 212, 3) := by decide +kernel
theorem dX11_rest_64 : decode cX11_rest 64 = .ok (.invokestatic 213, 3) := by decide +kernel
theorem dX11_rest_67 : decode cX11_rest 67 = .ok (.istore 5, 2) := by decide +kernel
theorem dX11_rest_69 : decode cX11_rest 69 = .ok (.iload_n 3, 1) := by decide +kernel
theorem dX11_rest_70 : decode cX11_rest 70 = .ok (.ifCond .ne 8, 3) := by decide +kernel
theorem dX11_rest_73 : decode cX11_rest 73 = .ok (.iload 4, 2) := by decide +kernel
theorem dX11_rest_75 : decode cX11_rest 75 = .ok (.goto 10, 3) := by decide +kernel
theorem dX11_rest_78 : decode cX11_rest 78 = .ok (.aload_n 0, 1) := by decide +kernel
theorem dX11_rest_79 : decode cX11_rest 79 = .ok (.getfield 61, 3) := by decide +kernel
theorem dX11_rest_82 : decode cX11_rest 82 = .ok (.getfield 212, 3) := by decide +kernel
theorem dX11_rest_85 : decode cX11_rest 85 = .ok (.iload 5, 2) := by decide +kernel
theorem dX11_rest_87 : decode cX11_rest 87 = .ok (.idiv, 1) := by decide +kernel
theorem dX11_rest_88 : decode cX11_rest 88 = .ok (.ireturn, 1) := by decide +kernel
theorem dX11_howLong_0 : decode cX11_howLong 0 = .ok (.aload_n 0, 1) := by decide +kernel
theorem dX11_howLong_1 : decode cX11_howLong 1 = .ok (.iload_n 1, 1) := by decide +kernel
theorem dX11_howLong_2 : decode cX11_howLong 2 = .ok (.invokevirtual 134, 3) := by decide +kernel
theorem dX11_howLong_5 : decode cX11_howLong 5 = .ok (.ifCond .eq 11, 3) := by decide +kernel
theorem dX11_howLong_8 : decode cX11_howLong 8 = .ok (.aload_n 0, 1) := by decide +kernel
theorem dX11_howLong_9 : decode cX11_howLong 9 = .ok (.iload_n 2, 1) := by decide +kernel
theorem dX11_howLong_10 : decode cX11_howLong 10 = .ok (.invokevirtual 162, 3) := by decide +kernel
theorem dX11_howLong_13 : decode cX11_howLong 13 = .ok (.ifCond .ne 6, 3) := by decide +kernel
theorem dX11_howLong_16 : decode cX11_howLong 16 = .ok (.bipush (-101), 2) := by decide +kernel
theorem dX11_howLong_18 : decode cX11_howLong 18 = .ok (.ireturn, 1) := by decide +kernel
theorem dX11_howLong_19 : decode cX11_howLong 19 = .ok (.aload_n 0, 1) := by decide +kernel
theorem dX11_howLong_20 : decode cX11_howLong 20 = .ok (.getfield 216, 3) := by decide +kernel
theorem dX11_howLong_23 : decode cX11_howLong 23 = .ok (.bipush 6, 2) := by decide +kernel
theorem dX11_howLong_25 : decode cX11_howLong 25 = .ok (.if_icmp .lt 6, 3) := by decide +kernel
theorem dX11_howLong_28 : decode cX11_howLong 28 = .ok (.bipush (-103), 2) := by decide +kernel
theorem dX11_howLong_30 : decode cX11_howLong 30 = .ok (.ireturn, 1) := by decide +kernel
theorem dX11_howLong_31 : decode cX11_howLong 31 = .ok (.aload_n 0, 1) := by decide +kernel
theorem dX11_howLong_32 : decode cX11_howLong 32 = .ok (.dup, 1) := by decide +kernel
theorem dX11_howLong_33 : decode cX11_howLong 33 = .ok (.getfield 216, 3) := by decide +kernel
theorem dX11_howLong_36 : decode cX11_howLong 36 = .ok (.iconst 1, 1) := by decide +kernel
theorem dX11_howLong_37 : decode cX11_howLong 37 = .ok (.iadd, 1) := by decide +kernel
theorem dX11_howLong_38 : decode cX11_howLong 38 = .ok (.putfield 216, 3) := by decide +kernel
theorem dX11_howLong_41 : decode cX11_howLong 41 = .ok (.aload_n 0, 1) := by decide +kernel
theorem dX11_howLong_42 : decode cX11_howLong 42 = .ok (.iload_n 1, 1) := by decide +kernel
theorem dX11_howLong_43 : decode cX11_howLong 43 = .ok (.invokevirtual 147, 3) := by decide +kernel
theorem dX11_howLong_46 : decode cX11_howLong 46 = .ok (.astore_n 3, 1) := by decide +kernel
theorem dX11_howLong_47 : decode cX11_howLong 47 = .ok (.aload_n 0, 1) := by decide +kernel
theorem dX11_howLong_48 : decode cX11_howLong 48 = .ok (.getfield 61, 3) := by decide +kernel
theorem dX11_howLong_51 : decode cX11_howLong 51 = .ok (.invokevirtual 219, 3) := by decide +kernel
theorem dX11_howLong_54 : decode cX11_howLong 54 = .ok (.iconst 0, 1) := by decide +kernel
theorem dX11_howLong_55 : decode cX11_howLong 55 = .ok (.istore 4, 2) := by decide +kernel
theorem dX11_howLong_57 : decode cX11_howLong 57 = .ok (.iload 4, 2) := by decide +kernel
theorem dX11_howLong_59 : decode cX11_howLong 59 = .ok (.bipush 8, 2) := by decide +kernel
theorem dX11_howLong_61 : decode cX11_howLong 61 = .ok (.if_icmp .ge 55, 3) := by decide +kernel
theorem dX11_howLong_64 : decode cX11_howLong 64 = .ok (.aload_n 0, 1) := by decide +kernel
theorem dX11_howLong_65 : decode cX11_howLong 65 = .ok (.getfield 61, 3) := by decide +kernel
theorem dX11_howLong_68 : decode cX11_howLong 68 = .ok (.getfield 212, 3) := by decide +kernel
theorem dX11_howLong_71 : decode cX11_howLong 71 = .ok (.iconst 1, 1) := by decide +kernel
theorem dX11_howLong_72 : decode cX11_howLong 72 = .ok (.if_icmp .le 44, 3) := by decide +kernel
theorem dX11_howLong_75 : decode cX11_howLong 75 = .ok (.aload_n 0, 1) := by decide +kernel
theorem dX11_howLong_76 : decode cX11_howLong 76 = .ok (.getfield 61, 3) := by decide +kernel
theorem dX11_howLong_79 : decode cX11_howLong 79 = .ok (.aload_n 3, 1) := by decide +kernel
theorem dX11_howLong_80 : decode cX11_howLong 80 = .ok (.invokevirtual 202, 3) := by decide +kernel
theorem dX11_howLong_83 : decode cX11_howLong 83 = .ok (.iconst 0, 1) := by decide +kernel
theorem dX11_howLong_84 : decode cX11_howLong 84 = .ok (.invokestatic 222, 3) := by decide +kernel
theorem dX11_howLong_87 : decode cX11_howLong 87 = .ok (.istore 5, 2) := by decide +kernel
theorem dX11_howLong_89 : decode cX11_howLong 89 = .ok (.aload_n 0, 1) := by decide +kernel
theorem dX11_howLong_90 : decode cX11_howLong 90 = .ok (.getfield 61, 3) := by decide +kernel
theorem dX11_howLong_93 : decode cX11_howLong 93 = .ok (.aload_n 3, 1) := by decide +kernel
theorem dX11_howLong_94 : decode cX11_howLong 94 = .ok (.iload 5, 2) := by decide +kernel
theorem dX11_howLong_96 : decode cX11_howLong 96 = .ok (.aload_n 3, 1) := by decide +kernel
theorem dX11_howLong_97 : decode cX11_howLong 97 = .ok (.aload_n 0, 1) := by decide +kernel
theorem dX11_howLong_98 : decode cX11_howLong 98 = .ok (.getfield 57, 3) := by decide +kernel
theorem dX11_howLong_101 : decode cX11_howLong 101 = .ok (.iload 5, 2) := by decide +kernel
theorem dX11_howLong_103 : decode cX11_howLong 103 = .ok (.iload_n 2, 1) := by decide +kernel
theorem dX11_howLong_104 : decode cX11_howLong 104 = .ok (.invokevirtual 174, 3) := by decide +kernel
theorem dX11_howLong_107 : decode cX11_howLong 107 = .ok (.invokevirtual 227, 3) := by decide +kernel
theorem dX11_howLong_110 : decode cX11_howLong 110 = .ok (.iinc 4 1, 3) := by decide +kernel
theorem dX11_howLong_113 : decode cX11_howLong 113 = .ok (.goto (-56), 3) := by decide +kernel
theorem dX11_howLong_116 : decode cX11_howLong 116 = .ok (.aload_n 0, 1) := by decide +kernel
theorem dX11_howLong_117 : decode cX11_howLong 117 = .ok (.getfield 61, 3) := by decide +kernel
theorem dX11_howLong_120 : decode cX11_howLong 120 = .ok (.getfield 212, 3) := by decide +kernel
theorem dX11_howLong_123 : decode cX11_howLong 123 = .ok (.iconst 1, 1) := by decide +kernel
theorem dX11_howLong_124 : decode cX11_howLong 124 = .ok (.if_icmp .ne 8, 3) := by decide +kernel
theorem dX11_howLong_127 : decode cX11_howLong 127 = .ok (.iload 4, 2) := by decide +kernel
theorem dX11_howLong_129 : decode cX11_howLong 129 = .ok (.goto 4, 3) := by decide +kernel
theorem dX11_howLong_132 : decode cX11_howLong 132 = .ok (.iconst (-1), 1) := by decide +kernel
theorem dX11_howLong_133 : decode cX11_howLong 133 = .ok (.ireturn, 1) := by decide +kernel
theorem dX11_parts_0 : decode cX11_parts 0 = .ok (.aload_n 0, 1) := by decide +kernel
theorem dX11_parts_1 : decode cX11_parts 1 = .ok (.iload_n 1, 1) := by decide +kernel
theorem dX11_parts_2 : decode cX11_parts 2 = .ok (.invokevirtual 134, 3) := by decide +kernel
theorem dX11_parts_5 : decode cX11_parts 5 = .ok (.ifCond .ne 6, 3) := by decide +kernel
theorem dX11_parts_8 : decode cX11_parts 8 = .ok (.bipush (-101), 2) := by decide +kernel
theorem dX11_parts_10 : decode cX11_parts 10 = .ok (.ireturn, 1) := by decide +kernel
theorem dX11_parts_11 : decode cX11_parts 11 = .ok (.iload_n 2, 1) := by decide +kernel
theorem dX11_parts_12 : decode cX11_parts 12 = .ok (.ifCond .lt 8, 3) := by decide +kernel
theorem dX11_parts_15 : decode cX11_parts 15 = .ok (.iload_n 2, 1) := by decide +kernel
theorem dX11_parts_16 : decode cX11_parts 16 = .ok (.iconst 2, 1) := by decide +kernel
theorem dX11_parts_17 : decode cX11_parts 17 = .ok (.if_icmp .le 6, 3) := by decide +kernel
theorem dX11_parts_20 : decode cX11_parts 20 = .ok (.bipush (-102), 2) := by decide +kernel
theorem dX11_parts_22 : decode cX11_parts 22 = .ok (.ireturn, 1) := by decide +kernel
theorem dX11_parts_23 : decode cX11_parts 23 = .ok (.aload_n 0, 1) := by decide +kernel
theorem dX11_parts_24 : decode cX11_parts 24 = .ok (.getfield 57, 3) := by decide +kernel
theorem dX11_parts_27 : decode cX11_parts 27 = .ok (.getfield 133, 3) := by decide +kernel
theorem dX11_parts_30 : decode cX11_parts 30 = .ok (.bipush 64, 2) := by decide +kernel
theorem dX11_parts_32 : decode cX11_parts 32 = .ok (.if_icmp .gt 12, 3) := by decide +kernel
theorem dX11_parts_35 : decode cX11_parts 35 = .ok (.aload_n 0, 1) := by decide +kernel
theorem dX11_parts_36 : decode cX11_parts 36 = .ok (.getfield 231, 3) := by decide +kernel
theorem dX11_parts_39 : decode cX11_parts 39 = .ok (.bipush 9, 2) := by decide +kernel
theorem dX11_parts_41 : decode cX11_parts 41 = .ok (.if_icmp .lt 6, 3) := by decide +kernel
theorem dX11_parts_44 : decode cX11_parts 44 = .ok (.bipush (-103), 2) := by decide +kernel
theorem dX11_parts_46 : decode cX11_parts 46 = .ok (.ireturn, 1) := by decide +kernel
theorem dX11_parts_47 : decode cX11_parts 47 = .ok (.aload_n 0, 1) := by decide +kernel
theorem dX11_parts_48 : decode cX11_parts 48 = .ok (.dup, 1) := by decide +kernel
theorem dX11_parts_49 : decode cX11_parts 49 = .ok (.getfield 231, 3) := by decide +kernel
theorem dX11_parts_52 : decode cX11_parts 52 = .ok (.iconst 1, 1) := by decide +kernel
theorem dX11_parts_53 : decode cX11_parts 53 = .ok (.iadd, 1) := by decide +kernel
theorem dX11_parts_54 : decode cX11_parts 54 = .ok (.putfield 231, 3) := by decide +kernel
theorem dX11_parts_57 : decode cX11_parts 57 = .ok (.aload_n 0, 1) := by decide +kernel
theorem dX11_parts_58 : decode cX11_parts 58 = .ok (.getfield 68, 3) := by decide +kernel
theorem dX11_parts_61 : decode cX11_parts 61 = .ok (.aload_n 0, 1) := by decide +kernel
theorem dX11_parts_62 : decode cX11_parts 62 = .ok (.iload_n 1, 1) := by decide +kernel
theorem dX11_parts_63 : decode cX11_parts 63 = .ok (.invokevirtual 147, 3) := by decide +kernel
theorem dX11_parts_66 : decode cX11_parts 66 = .ok (.invokevirtual 234, 3) := by decide +kernel
theorem dX11_parts_69 : decode cX11_parts 69 = .ok (.iload_n 2, 1) := by decide +kernel
theorem dX11_parts_70 : decode cX11_parts 70 = .ok (.ifCond .ne 11, 3) := by decide +kernel
theorem dX11_parts_73 : decode cX11_parts 73 = .ok (.aload_n 0, 1) := by decide +kernel
theorem dX11_parts_74 : decode cX11_parts 74 = .ok (.getfield 68, 3) := by decide +kernel
theorem dX11_parts_77 : decode cX11_parts 77 = .ok (.getfield 238, 3) := by decide +kernel
theorem dX11_parts_80 : decode cX11_parts 80 = .ok (.ireturn, 1) := by decide +kernel
theorem dX11_parts_81 : decode cX11_parts 81 = .ok (.iload_n 2, 1) := by decide +kernel
theorem dX11_parts_82 : decode cX11_parts 82 = .ok (.iconst 1, 1) := by decide +kernel
theorem dX11_parts_83 : decode cX11_parts 83 = .ok (.if_icmp .ne 13, 3) := by decide +kernel
theorem dX11_parts_86 : decode cX11_parts 86 = .ok (.aload_n 0, 1) := by decide +kernel
theorem dX11_parts_87 : decode cX11_parts 87 = .ok (.getfield 68, 3) := by decide +kernel
theorem dX11_parts_90 : decode cX11_parts 90 = .ok (.getfield 241, 3) := by decide +kernel
theorem dX11_parts_93 : decode cX11_parts 93 = .ok (.goto 10, 3) := by decide +kernel
theorem dX11_parts_96 : decode cX11_parts 96 = .ok (.aload_n 0, 1) := by decide +kernel
theorem dX11_parts_97 : decode cX11_parts 97 = .ok (.getfield 68, 3) := by decide +kernel
theorem dX11_parts_100 : decode cX11_parts 100 = .ok (.getfield 244, 3) := by decide +kernel
theorem dX11_parts_103 : decode cX11_parts 103 = .ok (.ireturn, 1) := by decide +kernel
theorem dX11_tries_0 : decode cX11_tries 0 = .ok (.aload_n 0, 1) := by decide +kernel
theorem dX11_tries_1 : decode cX11_tries 1 = .ok (.iload_n 1, 1) := by decide +kernel
theorem dX11_tries_2 : decode cX11_tries 2 = .ok (.invokevirtual 134, 3) := by decide +kernel
theorem dX11_tries_5 : decode cX11_tries 5 = .ok (.ifCond .ne 6, 3) := by decide +kernel
theorem dX11_tries_8 : decode cX11_tries 8 = .ok (.bipush (-101), 2) := by decide +kernel
theorem dX11_tries_10 : decode cX11_tries 10 = .ok (.ireturn, 1) := by decide +kernel
theorem dX11_tries_11 : decode cX11_tries 11 = .ok (.iload_n 2, 1) := by decide +kernel
theorem dX11_tries_12 : decode cX11_tries 12 = .ok (.iconst 1, 1) := by decide +kernel
theorem dX11_tries_13 : decode cX11_tries 13 = .ok (.if_icmp .lt 24, 3) := by decide +kernel
theorem dX11_tries_16 : decode cX11_tries 16 = .ok (.iload_n 2, 1) := by decide +kernel
theorem dX11_tries_17 : decode cX11_tries 17 = .ok (.bipush 20, 2) := by decide +kernel
theorem dX11_tries_19 : decode cX11_tries 19 = .ok (.if_icmp .gt 18, 3) := by decide +kernel
theorem dX11_tries_22 : decode cX11_tries 22 = .ok (.iload_n 3, 1) := by decide +kernel
theorem dX11_tries_23 : decode cX11_tries 23 = .ok (.ifCond .lt 14, 3) := by decide +kernel
theorem dX11_tries_26 : decode cX11_tries 26 = .ok (.iload 4, 2) := by decide +kernel
theorem dX11_tries_28 : decode cX11_tries 28 = .ok (.ifCond .lt 9, 3) := by decide +kernel
theorem dX11_tries_31 : decode cX11_tries 31 = .ok (.iload 4, 2) := by decide +kernel
theorem dX11_tries_33 : decode cX11_tries 33 = .ok (.iconst 2, 1) := by decide +kernel
theorem dX11_tries_34 : decode cX11_tries 34 = .ok (.if_icmp .le 6, 3) := by decide +kernel
theorem dX11_tries_37 : decode cX11_tries 37 = .ok (.bipush (-102), 2) := by decide +kernel
theorem dX11_tries_39 : decode cX11_tries 39 = .ok (.ireturn, 1) := by decide +kernel
theorem dX11_tries_40 : decode cX11_tries 40 = .ok (.aload_n 0, 1) := by decide +kernel
theorem dX11_tries_41 : decode cX11_tries 41 = .ok (.getfield 77, 3) := by decide +kernel
theorem dX11_tries_44 : decode cX11_tries 44 = .ok (.aload_n 0, 1) := by decide +kernel
theorem dX11_tries_45 : decode cX11_tries 45 = .ok (.iload_n 1, 1) := by decide +kernel
theorem dX11_tries_46 : decode cX11_tries 46 = .ok (.invokevirtual 147, 3) := by decide +kernel
theorem dX11_tries_49 : decode cX11_tries 49 = .ok (.iload_n 2, 1) := by decide +kernel
theorem dX11_tries_50 : decode cX11_tries 50 = .ok (.iload_n 3, 1) := by decide +kernel
theorem dX11_tries_51 : decode cX11_tries 51 = .ok (.invokevirtual 247, 3) := by decide +kernel
theorem dX11_tries_54 : decode cX11_tries 54 = .ok (.iload 4, 2) := by decide +kernel
theorem dX11_tries_56 : decode cX11_tries 56 = .ok (.ifCond .ne 11, 3) := by decide +kernel
theorem dX11_tries_59 : decode cX11_tries 59 = .ok (.aload_n 0, 1) := by decide +kernel
theorem dX11_tries_60 : decode cX11_tries 60 = .ok (.getfield 77, 3) := by decide +kernel
theorem dX11_tries_63 : decode cX11_tries 63 = .ok (.getfield 250, 3) := by decide +kernel
theorem dX11_tries_66 : decode cX11_tries 66 = .ok (.ireturn, 1) := by decide +kernel
theorem dX11_tries_67 : decode cX11_tries 67 = .ok (.iload 4, 2) := by decide +kernel
theorem dX11_tries_69 : decode cX11_tries 69 = .ok (.iconst 1, 1) := by decide +kernel
theorem dX11_tries_70 : decode cX11_tries 70 = .ok (.if_icmp .ne 13, 3) := by decide +kernel
theorem dX11_tries_73 : decode cX11_tries 73 = .ok (.aload_n 0, 1) := by decide +kernel
theorem dX11_tries_74 : decode cX11_tries 74 = .ok (.getfield 77, 3) := by decide +kernel
theorem dX11_tries_77 : decode cX11_tries 77 = .ok (.getfield 253, 3) := by decide +kernel
theorem dX11_tries_80 : decode cX11_tries 80 = .ok (.goto 10, 3) := by decide +kernel
theorem dX11_tries_83 : decode cX11_tries 83 = .ok (.aload_n 0, 1) := by decide +kernel
theorem dX11_tries_84 : decode cX11_tries 84 = .ok (.getfield 77, 3) := by decide +kernel
theorem dX11_tries_87 : decode cX11_tries 87 = .ok (.getfield 256, 3) := by decide +kernel
theorem dX11_tries_90 : decode cX11_tries 90 = .ok (.ireturn, 1) := by decide +kernel
theorem dX11_image_0 : decode cX11_image 0 = .ok (.aload_n 0, 1) := by decide +kernel
theorem dX11_image_1 : decode cX11_image 1 = .ok (.invokevirtual 193, 3) := by decide +kernel
theorem dX11_image_4 : decode cX11_image 4 = .ok (.ifCond .ne 6, 3) := by decide +kernel
theorem dX11_image_7 : decode cX11_image 7 = .ok (.bipush (-103), 2) := by decide +kernel
theorem dX11_image_9 : decode cX11_image 9 = .ok (.ireturn, 1) := by decide +kernel
theorem dX11_image_10 : decode cX11_image 10 = .ok (.aload_n 0, 1) := by decide +kernel
theorem dX11_image_11 : decode cX11_image 11 = .ok (.getfield 46, 3) := by decide +kernel
theorem dX11_image_14 : decode cX11_image 14 = .ok (.aload_n 0, 1) := by decide +kernel
theorem dX11_image_15 : decode cX11_image 15 = .ok (.getfield 42, 3) := by decide +kernel
theorem dX11_image_18 : decode cX11_image 18 = .ok (.invokevirtual 259, 3) := by decide +kernel
theorem dX11_image_21 : decode cX11_image 21 = .ok (.aload_n 0, 1) := by decide +kernel
theorem dX11_image_22 : decode cX11_image 22 = .ok (.iconst 1, 1) := by decide +kernel
theorem dX11_image_23 : decode cX11_image 23 = .ok (.putfield 126, 3) := by decide +kernel
theorem dX11_image_26 : decode cX11_image 26 = .ok (.aload_n 0, 1) := by decide +kernel
theorem dX11_image_27 : decode cX11_image 27 = .ok (.getfield 46, 3) := by decide +kernel
theorem dX11_image_30 : decode cX11_image 30 = .ok (.getfield 125, 3) := by decide +kernel
theorem dX11_image_33 : decode cX11_image 33 = .ok (.ireturn, 1) := by decide +kernel
theorem dX11_restore_0 : decode cX11_restore 0 = .ok (.aload_n 0, 1) := by decide +kernel
theorem dX11_restore_1 : decode cX11_restore 1 = .ok (.getfield 126, 3) := by decide +kernel
theorem dX11_restore_4 : decode cX11_restore 4 = .ok (.ifCond .ne 6, 3) := by decide +kernel
theorem dX11_restore_7 : decode cX11_restore 7 = .ok (.bipush (-103), 2) := by decide +kernel
theorem dX11_restore_9 : decode cX11_restore 9 = .ok (.ireturn, 1) := by decide +kernel
theorem dX11_restore_10 : decode cX11_restore 10 = .ok (.aload_n 0, 1) := by decide +kernel
theorem dX11_restore_11 : decode cX11_restore 11 = .ok (.getfield 42, 3) := by decide +kernel
theorem dX11_restore_14 : decode cX11_restore 14 = .ok (.aload_n 0, 1) := by decide +kernel
theorem dX11_restore_15 : decode cX11_restore 15 = .ok (.getfield 46, 3) := by decide +kernel
theorem dX11_restore_18 : decode cX11_restore 18 = .ok (.invokevirtual 259, 3) := by decide +kernel
theorem dX11_restore_21 : decode cX11_restore 21 = .ok (.aload_n 0, 1) := by decide +kernel
theorem dX11_restore_22 : decode cX11_restore 22 = .ok (.getfield 42, 3) := by decide +kernel
theorem dX11_restore_25 : decode cX11_restore 25 = .ok (.getfield 125, 3) := by decide +kernel
theorem dX11_restore_28 : decode cX11_restore 28 = .ok (.ireturn, 1) := by decide +kernel
theorem dX11_count_0 : decode cX11_count 0 = .ok (.iload_n 1, 1) := by decide +kernel
theorem dX11_count_1 : decode cX11_count 1 = .ok (.tableswitch 143 0 10 #[59, 67, 75, 83, 88, 96, 115, 123, 128, 133, 138], 59) := by decide +kernel
theorem dX11_count_60 : decode cX11_count 60 = .ok (.aload_n 0, 1) := by decide +kernel
theorem dX11_count_61 : decode cX11_count 61 = .ok (.getfield 57, 3) := by decide +kernel
theorem dX11_count_64 : decode cX11_count 64 = .ok (.getfield 168, 3) := by decide +kernel
theorem dX11_count_67 : decode cX11_count 67 = .ok (.ireturn, 1) := by decide +kernel
theorem dX11_count_68 : decode cX11_count 68 = .ok (.aload_n 0, 1) := by decide +kernel
theorem dX11_count_69 : decode cX11_count 69 = .ok (.getfield 57, 3) := by decide +kernel
theorem dX11_count_72 : decode cX11_count 72 = .ok (.getfield 263, 3) := by decide +kernel
theorem dX11_count_75 : decode cX11_count 75 = .ok (.ireturn, 1) := by decide +kernel
theorem dX11_count_76 : decode cX11_count 76 = .ok (.aload_n 0, 1) := by decide +kernel
theorem dX11_count_77 : decode cX11_count 77 = .ok (.getfield 57, 3) := by decide +kernel
theorem dX11_count_80 : decode cX11_count 80 = .ok (.getfield 133, 3) := by decide +kernel
theorem dX11_count_83 : decode cX11_count 83 = .ok (.ireturn, 1) := by decide +kernel
theorem dX11_count_84 : decode cX11_count 84 = .ok (.aload_n 0, 1) := by decide +kernel
theorem dX11_count_85 : decode cX11_count 85 = .ok (.getfield 110, 3) := by decide +kernel
theorem dX11_count_88 : decode cX11_count 88 = .ok (.ireturn, 1) := by decide +kernel
theorem dX11_count_89 : decode cX11_count 89 = .ok (.aload_n 0, 1) := by decide +kernel
theorem dX11_count_90 : decode cX11_count 90 = .ok (.getfield 42, 3) := by decide +kernel
theorem dX11_count_93 : decode cX11_count 93 = .ok (.getfield 125, 3) := by decide +kernel
theorem dX11_count_96 : decode cX11_count 96 = .ok (.ireturn, 1) := by decide +kernel
theorem dX11_count_97 : decode cX11_count 97 = .ok (.aload_n 0, 1) := by decide +kernel
theorem dX11_count_98 : decode cX11_count 98 = .ok (.invokevirtual 193, 3) := by decide +kernel
theorem dX11_count_101 : decode cX11_count 101 = .ok (.ifCond .eq 13, 3) := by decide +kernel
theorem dX11_count_104 : decode cX11_count 104 = .ok (.aload_n 0, 1) := by decide +kernel
theorem dX11_count_105 : decode cX11_count 105 = .ok (.getfield 42, 3) := by decide +kernel
theorem dX11_count_108 : decode cX11_count 108 = .ok (.getfield 122, 3) := by decide +kernel
theorem dX11_count_111 : decode cX11_count 111 = .ok (.goto 4, 3) := by decide +kernel
theorem dX11_count_114 : decode cX11_count 114 = .ok (.iconst (-1), 1) := by decide +kernel
theorem dX11_count_115 : decode cX11_count 115 = .ok (.ireturn, 1) := by decide +kernel
theorem dX11_count_116 : decode cX11_count 116 = .ok (.aload_n 0, 1) := by decide +kernel
theorem dX11_count_117 : decode cX11_count 117 = .ok (.getfield 12, 3) := by decide +kernel
theorem dX11_count_120 : decode cX11_count 120 = .ok (.getfield 81, 3) := by decide +kernel
theorem dX11_count_123 : decode cX11_count 123 = .ok (.ireturn, 1) := by decide +kernel
theorem dX11_count_124 : decode cX11_count 124 = .ok (.aload_n 0, 1) := by decide +kernel
theorem dX11_count_125 : decode cX11_count 125 = .ok (.getfield 130, 3) := by decide +kernel
theorem dX11_count_128 : decode cX11_count 128 = .ok (.ireturn, 1) := by decide +kernel
theorem dX11_count_129 : decode cX11_count 129 = .ok (.aload_n 0, 1) := by decide +kernel
theorem dX11_count_130 : decode cX11_count 130 = .ok (.getfield 199, 3) := by decide +kernel
theorem dX11_count_133 : decode cX11_count 133 = .ok (.ireturn, 1) := by decide +kernel
theorem dX11_count_134 : decode cX11_count 134 = .ok (.aload_n 0, 1) := by decide +kernel
theorem dX11_count_135 : decode cX11_count 135 = .ok (.getfield 216, 3) := by decide +kernel
theorem dX11_count_138 : decode cX11_count 138 = .ok (.ireturn, 1) := by decide +kernel
theorem dX11_count_139 : decode cX11_count 139 = .ok (.aload_n 0, 1) := by decide +kernel
theorem dX11_count_140 : decode cX11_count 140 = .ok (.getfield 231, 3) := by decide +kernel
theorem dX11_count_143 : decode cX11_count 143 = .ok (.ireturn, 1) := by decide +kernel
theorem dX11_count_144 : decode cX11_count 144 = .ok (.bipush (-102), 2) := by decide +kernel
theorem dX11_count_146 : decode cX11_count 146 = .ok (.ireturn, 1) := by decide +kernel
theorem dX11_digest_0 : decode cX11_digest 0 = .ok (.ldc2_w 265, 3) := by decide +kernel
theorem dX11_digest_3 : decode cX11_digest 3 = .ok (.lstore_n 1, 1) := by decide +kernel
theorem dX11_digest_4 : decode cX11_digest 4 = .ok (.iconst 0, 1) := by decide +kernel
theorem dX11_digest_5 : decode cX11_digest 5 = .ok (.istore_n 3, 1) := by decide +kernel
theorem dX11_digest_6 : decode cX11_digest 6 = .ok (.iload_n 3, 1) := by decide +kernel
theorem dX11_digest_7 : decode cX11_digest 7 = .ok (.aload_n 0, 1) := by decide +kernel
theorem dX11_digest_8 : decode cX11_digest 8 = .ok (.getfield 110, 3) := by decide +kernel
theorem dX11_digest_11 : decode cX11_digest 11 = .ok (.if_icmp .ge 58, 3) := by decide +kernel
theorem dX11_digest_14 : decode cX11_digest 14 = .ok (.iconst 0, 1) := by decide +kernel
theorem dX11_digest_15 : decode cX11_digest 15 = .ok (.istore 4, 2) := by decide +kernel
theorem dX11_digest_17 : decode cX11_digest 17 = .ok (.iload 4, 2) := by decide +kernel
theorem dX11_digest_19 : decode cX11_digest 19 = .ok (.iconst 4, 1) := by decide +kernel
theorem dX11_digest_20 : decode cX11_digest 20 = .ok (.if_icmp .ge 21, 3) := by decide +kernel
theorem dX11_digest_23 : decode cX11_digest 23 = .ok (.lload_n 1, 1) := by decide +kernel
theorem dX11_digest_24 : decode cX11_digest 24 = .ok (.aload_n 0, 1) := by decide +kernel
theorem dX11_digest_25 : decode cX11_digest 25 = .ok (.iload_n 3, 1) := by decide +kernel
theorem dX11_digest_26 : decode cX11_digest 26 = .ok (.iload 4, 2) := by decide +kernel
theorem dX11_digest_28 : decode cX11_digest 28 = .ok (.invokevirtual 267, 3) := by decide +kernel
theorem dX11_digest_31 : decode cX11_digest 31 = .ok (.invokestatic 270, 3) := by decide +kernel
theorem dX11_digest_34 : decode cX11_digest 34 = .ok (.lstore_n 1, 1) := by decide +kernel
theorem dX11_digest_35 : decode cX11_digest 35 = .ok (.iinc 4 1, 3) := by decide +kernel
theorem dX11_digest_38 : decode cX11_digest 38 = .ok (.goto (-21), 3) := by decide +kernel
theorem dX11_digest_41 : decode cX11_digest 41 = .ok (.lload_n 1, 1) := by decide +kernel
theorem dX11_digest_42 : decode cX11_digest 42 = .ok (.aload_n 0, 1) := by decide +kernel
theorem dX11_digest_43 : decode cX11_digest 43 = .ok (.iconst 0, 1) := by decide +kernel
theorem dX11_digest_44 : decode cX11_digest 44 = .ok (.iload_n 3, 1) := by decide +kernel
theorem dX11_digest_45 : decode cX11_digest 45 = .ok (.iconst 0, 1) := by decide +kernel
theorem dX11_digest_46 : decode cX11_digest 46 = .ok (.invokevirtual 274, 3) := by decide +kernel
theorem dX11_digest_49 : decode cX11_digest 49 = .ok (.invokestatic 270, 3) := by decide +kernel
theorem dX11_digest_52 : decode cX11_digest 52 = .ok (.aload_n 0, 1) := by decide +kernel
theorem dX11_digest_53 : decode cX11_digest 53 = .ok (.iconst 0, 1) := by decide +kernel
theorem dX11_digest_54 : decode cX11_digest 54 = .ok (.iload_n 3, 1) := by decide +kernel
theorem dX11_digest_55 : decode cX11_digest 55 = .ok (.iconst 1, 1) := by decide +kernel
theorem dX11_digest_56 : decode cX11_digest 56 = .ok (.invokevirtual 274, 3) := by decide +kernel
theorem dX11_digest_59 : decode cX11_digest 59 = .ok (.invokestatic 270, 3) := by decide +kernel
theorem dX11_digest_62 : decode cX11_digest 62 = .ok (.lstore_n 1, 1) := by decide +kernel
theorem dX11_digest_63 : decode cX11_digest 63 = .ok (.iinc 3 1, 3) := by decide +kernel
theorem dX11_digest_66 : decode cX11_digest 66 = .ok (.goto (-60), 3) := by decide +kernel
theorem dX11_digest_69 : decode cX11_digest 69 = .ok (.iconst 0, 1) := by decide +kernel
theorem dX11_digest_70 : decode cX11_digest 70 = .ok (.istore_n 3, 1) := by decide +kernel
theorem dX11_digest_71 : decode cX11_digest 71 = .ok (.iload_n 3, 1) := by decide +kernel
theorem dX11_digest_72 : decode cX11_digest 72 = .ok (.aload_n 0, 1) := by decide +kernel
theorem dX11_digest_73 : decode cX11_digest 73 = .ok (.getfield 42, 3) := by decide +kernel
theorem dX11_digest_76 : decode cX11_digest 76 = .ok (.getfield 125, 3) := by decide +kernel
theorem dX11_digest_79 : decode cX11_digest 79 = .ok (.if_icmp .ge 36, 3) := by decide +kernel
theorem dX11_digest_82 : decode cX11_digest 82 = .ok (.iconst 0, 1) := by decide +kernel
theorem dX11_digest_83 : decode cX11_digest 83 = .ok (.istore 4, 2) := by decide +kernel
theorem dX11_digest_85 : decode cX11_digest 85 = .ok (.iload 4, 2) := by decide +kernel
theorem dX11_digest_87 : decode cX11_digest 87 = .ok (.iconst 3, 1) := by decide +kernel
theorem dX11_digest_88 : decode cX11_digest 88 = .ok (.if_icmp .ge 21, 3) := by decide +kernel
theorem dX11_digest_91 : decode cX11_digest 91 = .ok (.lload_n 1, 1) := by decide +kernel
theorem dX11_digest_92 : decode cX11_digest 92 = .ok (.aload_n 0, 1) := by decide +kernel
theorem dX11_digest_93 : decode cX11_digest 93 = .ok (.iload_n 3, 1) := by decide +kernel
theorem dX11_digest_94 : decode cX11_digest 94 = .ok (.iload 4, 2) := by decide +kernel
theorem dX11_digest_96 : decode cX11_digest 96 = .ok (.invokevirtual 278, 3) := by decide +kernel
theorem dX11_digest_99 : decode cX11_digest 99 = .ok (.invokestatic 270, 3) := by decide +kernel
theorem dX11_digest_102 : decode cX11_digest 102 = .ok (.lstore_n 1, 1) := by decide +kernel
theorem dX11_digest_103 : decode cX11_digest 103 = .ok (.iinc 4 1, 3) := by decide +kernel
theorem dX11_digest_106 : decode cX11_digest 106 = .ok (.goto (-21), 3) := by decide +kernel
theorem dX11_digest_109 : decode cX11_digest 109 = .ok (.iinc 3 1, 3) := by decide +kernel
theorem dX11_digest_112 : decode cX11_digest 112 = .ok (.goto (-41), 3) := by decide +kernel
theorem dX11_digest_115 : decode cX11_digest 115 = .ok (.aload_n 0, 1) := by decide +kernel
theorem dX11_digest_116 : decode cX11_digest 116 = .ok (.invokevirtual 193, 3) := by decide +kernel
theorem dX11_digest_119 : decode cX11_digest 119 = .ok (.ifCond .eq 20, 3) := by decide +kernel
theorem dX11_digest_122 : decode cX11_digest 122 = .ok (.lload_n 1, 1) := by decide +kernel
theorem dX11_digest_123 : decode cX11_digest 123 = .ok (.aload_n 0, 1) := by decide +kernel
theorem dX11_digest_124 : decode cX11_digest 124 = .ok (.invokevirtual 281, 3) := by decide +kernel
theorem dX11_digest_127 : decode cX11_digest 127 = .ok (.invokestatic 270, 3) := by decide +kernel
theorem dX11_digest_130 : decode cX11_digest 130 = .ok (.aload_n 0, 1) := by decide +kernel
theorem dX11_digest_131 : decode cX11_digest 131 = .ok (.iconst 0, 1) := by decide +kernel
theorem dX11_digest_132 : decode cX11_digest 132 = .ok (.invokevirtual 284, 3) := by decide +kernel
theorem dX11_digest_135 : decode cX11_digest 135 = .ok (.invokestatic 270, 3) := by decide +kernel
theorem dX11_digest_138 : decode cX11_digest 138 = .ok (.lstore_n 1, 1) := by decide +kernel
theorem dX11_digest_139 : decode cX11_digest 139 = .ok (.iconst 0, 1) := by decide +kernel
theorem dX11_digest_140 : decode cX11_digest 140 = .ok (.istore_n 3, 1) := by decide +kernel
theorem dX11_digest_141 : decode cX11_digest 141 = .ok (.iload_n 3, 1) := by decide +kernel
theorem dX11_digest_142 : decode cX11_digest 142 = .ok (.aload_n 0, 1) := by decide +kernel
theorem dX11_digest_143 : decode cX11_digest 143 = .ok (.getfield 12, 3) := by decide +kernel
theorem dX11_digest_146 : decode cX11_digest 146 = .ok (.getfield 81, 3) := by decide +kernel
theorem dX11_digest_149 : decode cX11_digest 149 = .ok (.if_icmp .ge 23, 3) := by decide +kernel
theorem dX11_digest_152 : decode cX11_digest 152 = .ok (.lload_n 1, 1) := by decide +kernel
theorem dX11_digest_153 : decode cX11_digest 153 = .ok (.aload_n 0, 1) := by decide +kernel
theorem dX11_digest_154 : decode cX11_digest 154 = .ok (.getfield 12, 3) := by decide +kernel
theorem dX11_digest_157 : decode cX11_digest 157 = .ok (.getfield 287, 3) := by decide +kernel
theorem dX11_digest_160 : decode cX11_digest 160 = .ok (.iload_n 3, 1) := by decide +kernel
theorem dX11_digest_161 : decode cX11_digest 161 = .ok (.iaload, 1) := by decide +kernel
theorem dX11_digest_162 : decode cX11_digest 162 = .ok (.invokestatic 270, 3) := by decide +kernel
theorem dX11_digest_165 : decode cX11_digest 165 = .ok (.lstore_n 1, 1) := by decide +kernel
theorem dX11_digest_166 : decode cX11_digest 166 = .ok (.iinc 3 1, 3) := by decide +kernel
theorem dX11_digest_169 : decode cX11_digest 169 = .ok (.goto (-28), 3) := by decide +kernel
theorem dX11_digest_172 : decode cX11_digest 172 = .ok (.iconst 0, 1) := by decide +kernel
theorem dX11_digest_173 : decode cX11_digest 173 = .ok (.istore_n 3, 1) := by decide +kernel
theorem dX11_digest_174 : decode cX11_digest 174 = .ok (.iload_n 3, 1) := by decide +kernel
theorem dX11_digest_175 : decode cX11_digest 175 = .ok (.bipush 11, 2) := by decide +kernel
theorem dX11_digest_177 : decode cX11_digest 177 = .ok (.if_icmp .ge 19, 3) := by decide +kernel
theorem dX11_digest_180 : decode cX11_digest 180 = .ok (.lload_n 1, 1) := by decide +kernel
theorem dX11_digest_181 : decode cX11_digest 181 = .ok (.aload_n 0, 1) := by decide +kernel
theorem dX11_digest_182 : decode cX11_digest 182 = .ok (.iload_n 3, 1) := by decide +kernel
theorem dX11_digest_183 : decode cX11_digest 183 = .ok (.invokevirtual 290, 3) := by decide +kernel
theorem dX11_digest_186 : decode cX11_digest 186 = .ok (.invokestatic 270, 3) := by decide +kernel
theorem dX11_digest_189 : decode cX11_digest 189 = .ok (.lstore_n 1, 1) := by decide +kernel
theorem dX11_digest_190 : decode cX11_digest 190 = .ok (.iinc 3 1, 3) := by decide +kernel
theorem dX11_digest_193 : decode cX11_digest 193 = .ok (.goto (-19), 3) := by decide +kernel
theorem dX11_digest_196 : decode cX11_digest 196 = .ok (.lload_n 1, 1) := by decide +kernel
theorem dX11_digest_197 : decode cX11_digest 197 = .ok (.lreturn, 1) := by decide +kernel
theorem dX11_with_0 : decode cX11_with 0 = .ok (.ldc2_w 293, 3) := by decide +kernel
theorem dX11_with_3 : decode cX11_with 3 = .ok (.lload_n 0, 1) := by decide +kernel
theorem dX11_with_4 : decode cX11_with 4 = .ok (.lmul, 1) := by decide +kernel
theorem dX11_with_5 : decode cX11_with 5 = .ok (.iload_n 2, 1) := by decide +kernel
theorem dX11_with_6 : decode cX11_with 6 = .ok (.i2l, 1) := by decide +kernel
theorem dX11_with_7 : decode cX11_with 7 = .ok (.ladd, 1) := by decide +kernel
theorem dX11_with_8 : decode cX11_with 8 = .ok (.lreturn, 1) := by decide +kernel
theorem dX11_isGameOn_0 : decode cX11_isGameOn 0 = .ok (.aload_n 0, 1) := by decide +kernel
theorem dX11_isGameOn_1 : decode cX11_isGameOn 1 = .ok (.getfield 57, 3) := by decide +kernel
theorem dX11_isGameOn_4 : decode cX11_isGameOn 4 = .ok (.getfield 133, 3) := by decide +kernel
theorem dX11_isGameOn_7 : decode cX11_isGameOn 7 = .ok (.ifCond .le 7, 3) := by decide +kernel
theorem dX11_isGameOn_10 : decode cX11_isGameOn 10 = .ok (.iconst 1, 1) := by decide +kernel
theorem dX11_isGameOn_11 : decode cX11_isGameOn 11 = .ok (.goto 4, 3) := by decide +kernel
theorem dX11_isGameOn_14 : decode cX11_isGameOn 14 = .ok (.iconst 0, 1) := by decide +kernel
theorem dX11_isGameOn_15 : decode cX11_isGameOn 15 = .ok (.ireturn, 1) := by decide +kernel
theorem dX11_isJudge_0 : decode cX11_isJudge 0 = .ok (.iload_n 1, 1) := by decide +kernel
theorem dX11_isJudge_1 : decode cX11_isJudge 1 = .ok (.ifCond .lt 15, 3) := by decide +kernel
theorem dX11_isJudge_4 : decode cX11_isJudge 4 = .ok (.iload_n 1, 1) := by decide +kernel
theorem dX11_isJudge_5 : decode cX11_isJudge 5 = .ok (.aload_n 0, 1) := by decide +kernel
theorem dX11_isJudge_6 : decode cX11_isJudge 6 = .ok (.getfield 110, 3) := by decide +kernel
theorem dX11_isJudge_9 : decode cX11_isJudge 9 = .ok (.if_icmp .ge 7, 3) := by decide +kernel
theorem dX11_isJudge_12 : decode cX11_isJudge 12 = .ok (.iconst 1, 1) := by decide +kernel
theorem dX11_isJudge_13 : decode cX11_isJudge 13 = .ok (.goto 4, 3) := by decide +kernel
theorem dX11_isJudge_16 : decode cX11_isJudge 16 = .ok (.iconst 0, 1) := by decide +kernel
theorem dX11_isJudge_17 : decode cX11_isJudge 17 = .ok (.ireturn, 1) := by decide +kernel
theorem dX11_isRow_0 : decode cX11_isRow 0 = .ok (.iload_n 1, 1) := by decide +kernel
theorem dX11_isRow_1 : decode cX11_isRow 1 = .ok (.ifCond .lt 18, 3) := by decide +kernel
theorem dX11_isRow_4 : decode cX11_isRow 4 = .ok (.iload_n 1, 1) := by decide +kernel
theorem dX11_isRow_5 : decode cX11_isRow 5 = .ok (.aload_n 0, 1) := by decide +kernel
theorem dX11_isRow_6 : decode cX11_isRow 6 = .ok (.getfield 57, 3) := by decide +kernel
theorem dX11_isRow_9 : decode cX11_isRow 9 = .ok (.getfield 133, 3) := by decide +kernel
theorem dX11_isRow_12 : decode cX11_isRow 12 = .ok (.if_icmp .ge 7, 3) := by decide +kernel
theorem dX11_isRow_15 : decode cX11_isRow 15 = .ok (.iconst 1, 1) := by decide +kernel
theorem dX11_isRow_16 : decode cX11_isRow 16 = .ok (.goto 4, 3) := by decide +kernel
theorem dX11_isRow_19 : decode cX11_isRow 19 = .ok (.iconst 0, 1) := by decide +kernel
theorem dX11_isRow_20 : decode cX11_isRow 20 = .ok (.ireturn, 1) := by decide +kernel
theorem dX11_isKind_0 : decode cX11_isKind 0 = .ok (.iload_n 0, 1) := by decide +kernel
theorem dX11_isKind_1 : decode cX11_isKind 1 = .ok (.ifCond .lt 12, 3) := by decide +kernel
theorem dX11_isKind_4 : decode cX11_isKind 4 = .ok (.iload_n 0, 1) := by decide +kernel
theorem dX11_isKind_5 : decode cX11_isKind 5 = .ok (.iconst 5, 1) := by decide +kernel
theorem dX11_isKind_6 : decode cX11_isKind 6 = .ok (.if_icmp .ge 7, 3) := by decide +kernel
theorem dX11_isKind_9 : decode cX11_isKind 9 = .ok (.iconst 1, 1) := by decide +kernel
theorem dX11_isKind_10 : decode cX11_isKind 10 = .ok (.goto 4, 3) := by decide +kernel
theorem dX11_isKind_13 : decode cX11_isKind 13 = .ok (.iconst 0, 1) := by decide +kernel
theorem dX11_isKind_14 : decode cX11_isKind 14 = .ok (.ireturn, 1) := by decide +kernel
theorem dX11_judgeAt_0 : decode cX11_judgeAt 0 = .ok (.aload_n 0, 1) := by decide +kernel
theorem dX11_judgeAt_1 : decode cX11_judgeAt 1 = .ok (.getfield 31, 3) := by decide +kernel
theorem dX11_judgeAt_4 : decode cX11_judgeAt 4 = .ok (.aload_n 0, 1) := by decide +kernel
theorem dX11_judgeAt_5 : decode cX11_judgeAt 5 = .ok (.getfield 42, 3) := by decide +kernel
theorem dX11_judgeAt_8 : decode cX11_judgeAt 8 = .ok (.getfield 113, 3) := by decide +kernel
theorem dX11_judgeAt_11 : decode cX11_judgeAt 11 = .ok (.iload_n 1, 1) := by decide +kernel
theorem dX11_judgeAt_12 : decode cX11_judgeAt 12 = .ok (.iaload, 1) := by decide +kernel
theorem dX11_judgeAt_13 : decode cX11_judgeAt 13 = .ok (.aaload, 1) := by decide +kernel
theorem dX11_judgeAt_14 : decode cX11_judgeAt 14 = .ok (.areturn, 1) := by decide +kernel
theorem dX11_isOf_0 : decode cX11_isOf 0 = .ok (.iload_n 1, 1) := by decide +kernel
theorem dX11_isOf_1 : decode cX11_isOf 1 = .ok (.tableswitch 51 1 4 #[31, 36, 41, 46], 31) := by decide +kernel
theorem dX11_isOf_32 : decode cX11_isOf 32 = .ok (.aload_n 0, 1) := by decide +kernel
theorem dX11_isOf_33 : decode cX11_isOf 33 = .ok (.instanceof 19, 3) := by decide +kernel
theorem dX11_isOf_36 : decode cX11_isOf 36 = .ok (.ireturn, 1) := by decide +kernel
theorem dX11_isOf_37 : decode cX11_isOf 37 = .ok (.aload_n 0, 1) := by decide +kernel
theorem dX11_isOf_38 : decode cX11_isOf 38 = .ok (.instanceof 22, 3) := by decide +kernel
theorem dX11_isOf_41 : decode cX11_isOf 41 = .ok (.ireturn, 1) := by decide +kernel
theorem dX11_isOf_42 : decode cX11_isOf 42 = .ok (.aload_n 0, 1) := by decide +kernel
theorem dX11_isOf_43 : decode cX11_isOf 43 = .ok (.instanceof 25, 3) := by decide +kernel
theorem dX11_isOf_46 : decode cX11_isOf 46 = .ok (.ireturn, 1) := by decide +kernel
theorem dX11_isOf_47 : decode cX11_isOf 47 = .ok (.aload_n 0, 1) := by decide +kernel
theorem dX11_isOf_48 : decode cX11_isOf 48 = .ok (.instanceof 28, 3) := by decide +kernel
theorem dX11_isOf_51 : decode cX11_isOf 51 = .ok (.ireturn, 1) := by decide +kernel
theorem dX11_isOf_52 : decode cX11_isOf 52 = .ok (.iconst 1, 1) := by decide +kernel
theorem dX11_isOf_53 : decode cX11_isOf 53 = .ok (.ireturn, 1) := by decide +kernel
theorem dX11_fitting_0 : decode cX11_fitting 0 = .ok (.iconst 0, 1) := by decide +kernel
theorem dX11_fitting_1 : decode cX11_fitting 1 = .ok (.istore_n 2, 1) := by decide +kernel
theorem dX11_fitting_2 : decode cX11_fitting 2 = .ok (.iload_n 2, 1) := by decide +kernel
theorem dX11_fitting_3 : decode cX11_fitting 3 = .ok (.aload_n 0, 1) := by decide +kernel
theorem dX11_fitting_4 : decode cX11_fitting 4 = .ok (.getfield 42, 3) := by decide +kernel
theorem dX11_fitting_7 : decode cX11_fitting 7 = .ok (.getfield 125, 3) := by decide +kernel
theorem dX11_fitting_10 : decode cX11_fitting 10 = .ok (.if_icmp .ge 55, 3) := by decide +kernel
theorem dX11_fitting_13 : decode cX11_fitting 13 = .ok (.aload_n 0, 1) := by decide +kernel
theorem dX11_fitting_14 : decode cX11_fitting 14 = .ok (.aload_n 0, 1) := by decide +kernel
theorem dX11_fitting_15 : decode cX11_fitting 15 = .ok (.getfield 42, 3) := by decide +kernel
theorem dX11_fitting_18 : decode cX11_fitting 18 = .ok (.getfield 181, 3) := by decide +kernel
theorem dX11_fitting_21 : decode cX11_fitting 21 = .ok (.iload_n 2, 1) := by decide +kernel
theorem dX11_fitting_22 : decode cX11_fitting 22 = .ok (.iaload, 1) := by decide +kernel
theorem dX11_fitting_23 : decode cX11_fitting 23 = .ok (.invokevirtual 147, 3) := by decide +kernel
theorem dX11_fitting_26 : decode cX11_fitting 26 = .ok (.astore_n 3, 1) := by decide +kernel
theorem dX11_fitting_27 : decode cX11_fitting 27 = .ok (.aload_n 3, 1) := by decide +kernel
theorem dX11_fitting_28 : decode cX11_fitting 28 = .ok (.aload_n 0, 1) := by decide +kernel
theorem dX11_fitting_29 : decode cX11_fitting 29 = .ok (.getfield 57, 3) := by decide +kernel
theorem dX11_fitting_32 : decode cX11_fitting 32 = .ok (.aload_n 0, 1) := by decide +kernel
theorem dX11_fitting_33 : decode cX11_fitting 33 = .ok (.getfield 42, 3) := by decide +kernel
theorem dX11_fitting_36 : decode cX11_fitting 36 = .ok (.getfield 178, 3) := by decide +kernel
theorem dX11_fitting_39 : decode cX11_fitting 39 = .ok (.iload_n 2, 1) := by decide +kernel
theorem dX11_fitting_40 : decode cX11_fitting 40 = .ok (.iaload, 1) := by decide +kernel
theorem dX11_fitting_41 : decode cX11_fitting 41 = .ok (.iload_n 1, 1) := by decide +kernel
theorem dX11_fitting_42 : decode cX11_fitting 42 = .ok (.invokevirtual 174, 3) := by decide +kernel
theorem dX11_fitting_45 : decode cX11_fitting 45 = .ok (.aload_n 0, 1) := by decide +kernel
theorem dX11_fitting_46 : decode cX11_fitting 46 = .ok (.getfield 42, 3) := by decide +kernel
theorem dX11_fitting_49 : decode cX11_fitting 49 = .ok (.getfield 184, 3) := by decide +kernel
theorem dX11_fitting_52 : decode cX11_fitting 52 = .ok (.iload_n 2, 1) := by decide +kernel
theorem dX11_fitting_53 : decode cX11_fitting 53 = .ok (.iaload, 1) := by decide +kernel
theorem dX11_fitting_54 : decode cX11_fitting 54 = .ok (.if_icmp .eq 5, 3) := by decide +kernel
theorem dX11_fitting_57 : decode cX11_fitting 57 = .ok (.iconst 0, 1) := by decide +kernel
theorem dX11_fitting_58 : decode cX11_fitting 58 = .ok (.ireturn, 1) := by decide +kernel
theorem dX11_fitting_59 : decode cX11_fitting 59 = .ok (.iinc 2 1, 3) := by decide +kernel
theorem dX11_fitting_62 : decode cX11_fitting 62 = .ok (.goto (-60), 3) := by decide +kernel
theorem dX11_fitting_65 : decode cX11_fitting 65 = .ok (.iconst 1, 1) := by decide +kernel
theorem dX11_fitting_66 : decode cX11_fitting 66 = .ok (.ireturn, 1) := by decide +kernel
theorem dX11_gatherFitting_0 : decode cX11_gatherFitting 0 = .ok (.aload_n 0, 1) := by decide +kernel
theorem dX11_gatherFitting_1 : decode cX11_gatherFitting 1 = .ok (.getfield 61, 3) := by decide +kernel
theorem dX11_gatherFitting_4 : decode cX11_gatherFitting 4 = .ok (.invokevirtual 219, 3) := by decide +kernel
theorem dX11_gatherFitting_7 : decode cX11_gatherFitting 7 = .ok (.iconst 0, 1) := by decide +kernel
theorem dX11_gatherFitting_8 : decode cX11_gatherFitting 8 = .ok (.istore_n 1, 1) := by decide +kernel
theorem dX11_gatherFitting_9 : decode cX11_gatherFitting 9 = .ok (.iload_n 1, 1) := by decide +kernel
theorem dX11_gatherFitting_10 : decode cX11_gatherFitting 10 = .ok (.aload_n 0, 1) := by decide +kernel
theorem dX11_gatherFitting_11 : decode cX11_gatherFitting 11 = .ok (.getfield 42, 3) := by decide +kernel
theorem dX11_gatherFitting_14 : decode cX11_gatherFitting 14 = .ok (.getfield 125, 3) := by decide +kernel
theorem dX11_gatherFitting_17 : decode cX11_gatherFitting 17 = .ok (.if_icmp .ge 47, 3) := by decide +kernel
theorem dX11_gatherFitting_20 : decode cX11_gatherFitting 20 = .ok (.aload_n 0, 1) := by decide +kernel
theorem dX11_gatherFitting_21 : decode cX11_gatherFitting 21 = .ok (.getfield 61, 3) := by decide +kernel
theorem dX11_gatherFitting_24 : decode cX11_gatherFitting 24 = .ok (.aload_n 0, 1) := by decide +kernel
theorem dX11_gatherFitting_25 : decode cX11_gatherFitting 25 = .ok (.aload_n 0, 1) := by decide +kernel
theorem dX11_gatherFitting_26 : decode cX11_gatherFitting 26 = .ok (.getfield 42, 3) := by decide +kernel
theorem dX11_gatherFitting_29 : decode cX11_gatherFitting 29 = .ok (.getfield 181, 3) := by decide +kernel
theorem dX11_gatherFitting_32 : decode cX11_gatherFitting 32 = .ok (.iload_n 1, 1) := by decide +kernel
theorem dX11_gatherFitting_33 : decode cX11_gatherFitting 33 = .ok (.iaload, 1) := by decide +kernel
theorem dX11_gatherFitting_34 : decode cX11_gatherFitting 34 = .ok (.invokevirtual 147, 3) := by decide +kernel
theorem dX11_gatherFitting_37 : decode cX11_gatherFitting 37 = .ok (.aload_n 0, 1) := by decide +kernel
theorem dX11_gatherFitting_38 : decode cX11_gatherFitting 38 = .ok (.getfield 42, 3) := by decide +kernel
theorem dX11_gatherFitting_41 : decode cX11_gatherFitting 41 = .ok (.getfield 178, 3) := by decide +kernel
theorem dX11_gatherFitting_44 : decode cX11_gatherFitting 44 = .ok (.iload_n 1, 1) := by decide +kernel
theorem dX11_gatherFitting_45 : decode cX11_gatherFitting 45 = .ok (.iaload, 1) := by decide +kernel
theorem dX11_gatherFitting_46 : decode cX11_gatherFitting 46 = .ok (.aload_n 0, 1) := by decide +kernel
theorem dX11_gatherFitting_47 : decode cX11_gatherFitting 47 = .ok (.getfield 42, 3) := by decide +kernel
theorem dX11_gatherFitting_50 : decode cX11_gatherFitting 50 = .ok (.getfield 184, 3) := by decide +kernel
theorem dX11_gatherFitting_53 : decode cX11_gatherFitting 53 = .ok (.iload_n 1, 1) := by decide +kernel
theorem dX11_gatherFitting_54 : decode cX11_gatherFitting 54 = .ok (.iaload, 1) := by decide +kernel
theorem dX11_gatherFitting_55 : decode cX11_gatherFitting 55 = .ok (.invokevirtual 227, 3) := by decide +kernel
theorem dX11_gatherFitting_58 : decode cX11_gatherFitting 58 = .ok (.iinc 1 1, 3) := by decide +kernel
theorem dX11_gatherFitting_61 : decode cX11_gatherFitting 61 = .ok (.goto (-52), 3) := by decide +kernel
theorem dX11_gatherFitting_64 : decode cX11_gatherFitting 64 = .ok (.aload_n 0, 1) := by decide +kernel
theorem dX11_gatherFitting_65 : decode cX11_gatherFitting 65 = .ok (.getfield 61, 3) := by decide +kernel
theorem dX11_gatherFitting_68 : decode cX11_gatherFitting 68 = .ok (.getfield 212, 3) := by decide +kernel
theorem dX11_gatherFitting_71 : decode cX11_gatherFitting 71 = .ok (.ireturn, 1) := by decide +kernel
theorem dX11_sorts_0 : decode cX11_sorts 0 = .ok (.iconst 0, 1) := by decide +kernel
theorem dX11_sorts_1 : decode cX11_sorts 1 = .ok (.istore_n 2, 1) := by decide +kernel
theorem dX11_sorts_2 : decode cX11_sorts 2 = .ok (.iconst 0, 1) := by decide +kernel
theorem dX11_sorts_3 : decode cX11_sorts 3 = .ok (.istore_n 3, 1) := by decide +kernel
theorem dX11_sorts_4 : decode cX11_sorts 4 = .ok (.iload_n 3, 1) := by decide +kernel
theorem dX11_sorts_5 : decode cX11_sorts 5 = .ok (.iconst 5, 1) := by decide +kernel
theorem dX11_sorts_6 : decode cX11_sorts 6 = .ok (.if_icmp .ge 29, 3) := by decide +kernel
theorem dX11_sorts_9 : decode cX11_sorts 9 = .ok (.aload_n 0, 1) := by decide +kernel
theorem dX11_sorts_10 : decode cX11_sorts 10 = .ok (.iload_n 1, 1) := by decide +kernel
theorem dX11_sorts_11 : decode cX11_sorts 11 = .ok (.aload_n 0, 1) := by decide +kernel
theorem dX11_sorts_12 : decode cX11_sorts 12 = .ok (.getfield 31, 3) := by decide +kernel
theorem dX11_sorts_15 : decode cX11_sorts 15 = .ok (.iload_n 3, 1) := by decide +kernel
theorem dX11_sorts_16 : decode cX11_sorts 16 = .ok (.aaload, 1) := by decide +kernel
theorem dX11_sorts_17 : decode cX11_sorts 17 = .ok (.invokevirtual 295, 3) := by decide +kernel
theorem dX11_sorts_20 : decode cX11_sorts 20 = .ok (.ifCond .eq 9, 3) := by decide +kernel
theorem dX11_sorts_23 : decode cX11_sorts 23 = .ok (.iload_n 2, 1) := by decide +kernel
theorem dX11_sorts_24 : decode cX11_sorts 24 = .ok (.iconst 1, 1) := by decide +kernel
theorem dX11_sorts_25 : decode cX11_sorts 25 = .ok (.iload_n 3, 1) := by decide +kernel
theorem dX11_sorts_26 : decode cX11_sorts 26 = .ok (.ishl, 1) := by decide +kernel
theorem dX11_sorts_27 : decode cX11_sorts 27 = .ok (.ior, 1) := by decide +kernel
theorem dX11_sorts_28 : decode cX11_sorts 28 = .ok (.istore_n 2, 1) := by decide +kernel
theorem dX11_sorts_29 : decode cX11_sorts 29 = .ok (.iinc 3 1, 3) := by decide +kernel
theorem dX11_sorts_32 : decode cX11_sorts 32 = .ok (.goto (-28), 3) := by decide +kernel
theorem dX11_sorts_35 : decode cX11_sorts 35 = .ok (.iload_n 2, 1) := by decide +kernel
theorem dX11_sorts_36 : decode cX11_sorts 36 = .ok (.ireturn, 1) := by decide +kernel
theorem dX11_couldBe_0 : decode cX11_couldBe 0 = .ok (.iconst 0, 1) := by decide +kernel
theorem dX11_couldBe_1 : decode cX11_couldBe 1 = .ok (.istore_n 3, 1) := by decide +kernel
theorem dX11_couldBe_2 : decode cX11_couldBe 2 = .ok (.iload_n 3, 1) := by decide +kernel
theorem dX11_couldBe_3 : decode cX11_couldBe 3 = .ok (.aload_n 0, 1) := by decide +kernel
theorem dX11_couldBe_4 : decode cX11_couldBe 4 = .ok (.getfield 42, 3) := by decide +kernel
theorem dX11_couldBe_7 : decode cX11_couldBe 7 = .ok (.getfield 125, 3) := by decide +kernel
theorem dX11_couldBe_10 : decode cX11_couldBe 10 = .ok (.if_icmp .ge 60, 3) := by decide +kernel
theorem dX11_couldBe_13 : decode cX11_couldBe 13 = .ok (.aload_n 0, 1) := by decide +kernel
theorem dX11_couldBe_14 : decode cX11_couldBe 14 = .ok (.getfield 42, 3) := by decide +kernel
theorem dX11_couldBe_17 : decode cX11_couldBe 17 = .ok (.getfield 181, 3) := by decide +kernel
theorem dX11_couldBe_20 : decode cX11_couldBe 20 = .ok (.iload_n 3, 1) := by decide +kernel
theorem dX11_couldBe_21 : decode cX11_couldBe 21 = .ok (.iaload, 1) := by decide +kernel
theorem dX11_couldBe_22 : decode cX11_couldBe 22 = .ok (.iload_n 1, 1) := by decide +kernel
theorem dX11_couldBe_23 : decode cX11_couldBe 23 = .ok (.if_icmp .ne 41, 3) := by decide +kernel
theorem dX11_couldBe_26 : decode cX11_couldBe 26 = .ok (.aload_n 2, 1) := by decide +kernel
theorem dX11_couldBe_27 : decode cX11_couldBe 27 = .ok (.aload_n 0, 1) := by decide +kernel
theorem dX11_couldBe_28 : decode cX11_couldBe 28 = .ok (.getfield 57, 3) := by decide +kernel
theorem dX11_couldBe_31 : decode cX11_couldBe 31 = .ok (.aload_n 0, 1) := by decide +kernel
theorem dX11_couldBe_32 : decode cX11_couldBe 32 = .ok (.getfield 42, 3) := by decide +kernel
theorem dX11_couldBe_35 : decode cX11_couldBe 35 = .ok (.getfield 178, 3) := by decide +kernel
theorem dX11_couldBe_38 : decode cX11_couldBe 38 = .ok (.iload_n 3, 1) := by decide +kernel
theorem dX11_couldBe_39 : decode cX11_couldBe 39 = .ok (.iaload, 1) := by decide +kernel
theorem dX11_couldBe_40 : decode cX11_couldBe 40 = .ok (.aload_n 0, 1) := by decide +kernel
theorem dX11_couldBe_41 : decode cX11_couldBe 41 = .ok (.getfield 42, 3) := by decide +kernel
theorem dX11_couldBe_44 : decode cX11_couldBe 44 = .ok (.getfield 122, 3) := by decide +kernel
theorem dX11_couldBe_47 : decode cX11_couldBe 47 = .ok (.invokevirtual 174, 3) := by decide +kernel
theorem dX11_couldBe_50 : decode cX11_couldBe 50 = .ok (.aload_n 0, 1) := by decide +kernel
theorem dX11_couldBe_51 : decode cX11_couldBe 51 = .ok (.getfield 42, 3) := by decide +kernel
theorem dX11_couldBe_54 : decode cX11_couldBe 54 = .ok (.getfield 184, 3) := by decide +kernel
theorem dX11_couldBe_57 : decode cX11_couldBe 57 = .ok (.iload_n 3, 1) := by decide +kernel
theorem dX11_couldBe_58 : decode cX11_couldBe 58 = .ok (.iaload, 1) := by decide +kernel
theorem dX11_couldBe_59 : decode cX11_couldBe 59 = .ok (.if_icmp .eq 5, 3) := by decide +kernel
theorem dX11_couldBe_62 : decode cX11_couldBe 62 = .ok (.iconst 0, 1) := by decide +kernel
theorem dX11_couldBe_63 : decode cX11_couldBe 63 = .ok (.ireturn, 1) := by decide +kernel
theorem dX11_couldBe_64 : decode cX11_couldBe 64 = .ok (.iinc 3 1, 3) := by decide +kernel
theorem dX11_couldBe_67 : decode cX11_couldBe 67 = .ok (.goto (-65), 3) := by decide +kernel
theorem dX11_couldBe_70 : decode cX11_couldBe 70 = .ok (.iconst 1, 1) := by decide +kernel
theorem dX11_couldBe_71 : decode cX11_couldBe 71 = .ok (.ireturn, 1) := by decide +kernel
theorem dX11_testFor_0 : decode cX11_testFor 0 = .ok (.iconst (-1), 1) := by decide +kernel
theorem dX11_testFor_1 : decode cX11_testFor 1 = .ok (.istore_n 2, 1) := by decide +kernel
theorem dX11_testFor_2 : decode cX11_testFor 2 = .ok (.bipush 6, 2) := by decide +kernel
theorem dX11_testFor_4 : decode cX11_testFor 4 = .ok (.istore_n 3, 1) := by decide +kernel
theorem dX11_testFor_5 : decode cX11_testFor 5 = .ok (.iconst 0, 1) := by decide +kernel
theorem dX11_testFor_6 : decode cX11_testFor 6 = .ok (.istore 4, 2) := by decide +kernel
theorem dX11_testFor_8 : decode cX11_testFor 8 = .ok (.iload 4, 2) := by decide +kernel
theorem dX11_testFor_10 : decode cX11_testFor 10 = .ok (.aload_n 0, 1) := by decide +kernel
theorem dX11_testFor_11 : decode cX11_testFor 11 = .ok (.getfield 57, 3) := by decide +kernel
theorem dX11_testFor_14 : decode cX11_testFor 14 = .ok (.getfield 133, 3) := by decide +kernel
theorem dX11_testFor_17 : decode cX11_testFor 17 = .ok (.if_icmp .ge 34, 3) := by decide +kernel
theorem dX11_testFor_20 : decode cX11_testFor 20 = .ok (.iload_n 1, 1) := by decide +kernel
theorem dX11_testFor_21 : decode cX11_testFor 21 = .ok (.ifCond .eq 30, 3) := by decide +kernel
theorem dX11_testFor_24 : decode cX11_testFor 24 = .ok (.aload_n 0, 1) := by decide +kernel
theorem dX11_testFor_25 : decode cX11_testFor 25 = .ok (.iload_n 1, 1) := by decide +kernel
theorem dX11_testFor_26 : decode cX11_testFor 26 = .ok (.iload 4, 2) := by decide +kernel
theorem dX11_testFor_28 : decode cX11_testFor 28 = .ok (.invokevirtual 299, 3) := by decide +kernel
theorem dX11_testFor_31 : decode cX11_testFor 31 = .ok (.istore 5, 2) := by decide +kernel
theorem dX11_testFor_33 : decode cX11_testFor 33 = .ok (.iload 5, 2) := by decide +kernel
theorem dX11_testFor_35 : decode cX11_testFor 35 = .ok (.iload_n 3, 1) := by decide +kernel
theorem dX11_testFor_36 : decode cX11_testFor 36 = .ok (.if_icmp .ge 9, 3) := by decide +kernel
theorem dX11_testFor_39 : decode cX11_testFor 39 = .ok (.iload 5, 2) := by decide +kernel
theorem dX11_testFor_41 : decode cX11_testFor 41 = .ok (.istore_n 3, 1) := by decide +kernel
theorem dX11_testFor_42 : decode cX11_testFor 42 = .ok (.iload 4, 2) := by decide +kernel
theorem dX11_testFor_44 : decode cX11_testFor 44 = .ok (.istore_n 2, 1) := by decide +kernel
theorem dX11_testFor_45 : decode cX11_testFor 45 = .ok (.iinc 4 1, 3) := by decide +kernel
theorem dX11_testFor_48 : decode cX11_testFor 48 = .ok (.goto (-40), 3) := by decide +kernel
theorem dX11_testFor_51 : decode cX11_testFor 51 = .ok (.iload_n 2, 1) := by decide +kernel
theorem dX11_testFor_52 : decode cX11_testFor 52 = .ok (.ireturn, 1) := by decide +kernel
theorem dX11_worstSorts_0 : decode cX11_worstSorts 0 = .ok (.iconst 0, 1) := by decide +kernel
theorem dX11_worstSorts_1 : decode cX11_worstSorts 1 = .ok (.istore_n 3, 1) := by decide +kernel
theorem dX11_worstSorts_2 : decode cX11_worstSorts 2 = .ok (.iconst 0, 1) := by decide +kernel
theorem dX11_worstSorts_3 : decode cX11_worstSorts 3 = .ok (.istore 4, 2) := by decide +kernel
theorem dX11_worstSorts_5 : decode cX11_worstSorts 5 = .ok (.iload 4, 2) := by decide +kernel
theorem dX11_worstSorts_7 : decode cX11_worstSorts 7 = .ok (.iconst 5, 1) := by decide +kernel
theorem dX11_worstSorts_8 : decode cX11_worstSorts 8 = .ok (.if_icmp .ge 52, 3) := by decide +kernel
theorem dX11_worstSorts_11 : decode cX11_worstSorts 11 = .ok (.aload_n 0, 1) := by decide +kernel
theorem dX11_worstSorts_12 : decode cX11_worstSorts 12 = .ok (.getfield 35, 3) := by decide +kernel
theorem dX11_worstSorts_15 : decode cX11_worstSorts 15 = .ok (.iload 4, 2) := by decide +kernel
theorem dX11_worstSorts_17 : decode cX11_worstSorts 17 = .ok (.iload_n 1, 1) := by decide +kernel
theorem dX11_worstSorts_18 : decode cX11_worstSorts 18 = .ok (.iload 4, 2) := by decide +kernel
theorem dX11_worstSorts_20 : decode cX11_worstSorts 20 = .ok (.ishr, 1) := by decide +kernel
theorem dX11_worstSorts_21 : decode cX11_worstSorts 21 = .ok (.iconst 1, 1) := by decide +kernel
theorem dX11_worstSorts_22 : decode cX11_worstSorts 22 = .ok (.iand, 1) := by decide +kernel
theorem dX11_worstSorts_23 : decode cX11_worstSorts 23 = .ok (.iconst 1, 1) := by decide +kernel
theorem dX11_worstSorts_24 : decode cX11_worstSorts 24 = .ok (.if_icmp .ne 28, 3) := by decide +kernel
theorem dX11_worstSorts_27 : decode cX11_worstSorts 27 = .ok (.aload_n 0, 1) := by decide +kernel
theorem dX11_worstSorts_28 : decode cX11_worstSorts 28 = .ok (.getfield 31, 3) := by decide +kernel
theorem dX11_worstSorts_31 : decode cX11_worstSorts 31 = .ok (.iload 4, 2) := by decide +kernel
theorem dX11_worstSorts_33 : decode cX11_worstSorts 33 = .ok (.aaload, 1) := by decide +kernel
theorem dX11_worstSorts_34 : decode cX11_worstSorts 34 = .ok (.aload_n 0, 1) := by decide +kernel
theorem dX11_worstSorts_35 : decode cX11_worstSorts 35 = .ok (.getfield 57, 3) := by decide +kernel
theorem dX11_worstSorts_38 : decode cX11_worstSorts 38 = .ok (.iload_n 2, 1) := by decide +kernel
theorem dX11_worstSorts_39 : decode cX11_worstSorts 39 = .ok (.aload_n 0, 1) := by decide +kernel
theorem dX11_worstSorts_40 : decode cX11_worstSorts 40 = .ok (.getfield 42, 3) := by decide +kernel
theorem dX11_worstSorts_43 : decode cX11_worstSorts 43 = .ok (.getfield 122, 3) := by decide +kernel
theorem dX11_worstSorts_46 : decode cX11_worstSorts 46 = .ok (.invokevirtual 174, 3) := by decide +kernel
theorem dX11_worstSorts_49 : decode cX11_worstSorts 49 = .ok (.goto 4, 3) := by decide +kernel
theorem dX11_worstSorts_52 : decode cX11_worstSorts 52 = .ok (.iconst (-1), 1) := by decide +kernel
theorem dX11_worstSorts_53 : decode cX11_worstSorts 53 = .ok (.iastore, 1) := by decide +kernel
theorem dX11_worstSorts_54 : decode cX11_worstSorts 54 = .ok (.iinc 4 1, 3) := by decide +kernel
theorem dX11_worstSorts_57 : decode cX11_worstSorts 57 = .ok (.goto (-52), 3) := by decide +kernel
theorem dX11_worstSorts_60 : decode cX11_worstSorts 60 = .ok (.iconst 0, 1) := by decide +kernel
theorem dX11_worstSorts_61 : decode cX11_worstSorts 61 = .ok (.istore 4, 2) := by decide +kernel
theorem dX11_worstSorts_63 : decode cX11_worstSorts 63 = .ok (.iload 4, 2) := by decide +kernel
theorem dX11_worstSorts_65 : decode cX11_worstSorts 65 = .ok (.iconst 5, 1) := by decide +kernel
theorem dX11_worstSorts_66 : decode cX11_worstSorts 66 = .ok (.if_icmp .ge 65, 3) := by decide +kernel
theorem dX11_worstSorts_69 : decode cX11_worstSorts 69 = .ok (.iconst 0, 1) := by decide +kernel
theorem dX11_worstSorts_70 : decode cX11_worstSorts 70 = .ok (.istore 5, 2) := by decide +kernel
theorem dX11_worstSorts_72 : decode cX11_worstSorts 72 = .ok (.iconst 0, 1) := by decide +kernel
theorem dX11_worstSorts_73 : decode cX11_worstSorts 73 = .ok (.istore 6, 2) := by decide +kernel
theorem dX11_worstSorts_75 : decode cX11_worstSorts 75 = .ok (.iload 6, 2) := by decide +kernel
theorem dX11_worstSorts_77 : decode cX11_worstSorts 77 = .ok (.iconst 5, 1) := by decide +kernel
theorem dX11_worstSorts_78 : decode cX11_worstSorts 78 = .ok (.if_icmp .ge 40, 3) := by decide +kernel
theorem dX11_worstSorts_81 : decode cX11_worstSorts 81 = .ok (.aload_n 0, 1) := by decide +kernel
theorem dX11_worstSorts_82 : decode cX11_worstSorts 82 = .ok (.getfield 35, 3) := by decide +kernel
theorem dX11_worstSorts_85 : decode cX11_worstSorts 85 = .ok (.iload 4, 2) := by decide +kernel
theorem dX11_worstSorts_87 : decode cX11_worstSorts 87 = .ok (.iaload, 1) := by decide +kernel
theorem dX11_worstSorts_88 : decode cX11_worstSorts 88 = .ok (.iconst (-1), 1) := by decide +kernel
theorem dX11_worstSorts_89 : decode cX11_worstSorts 89 = .ok (.if_icmp .eq 29, 3) := by decide +kernel
theorem dX11_worstSorts_92 : decode cX11_worstSorts 92 = .ok (.aload_n 0, 1) := by decide +kernel
theorem dX11_worstSorts_93 : decode cX11_worstSorts 93 = .ok (.getfield 35, 3) := by decide +kernel
theorem dX11_worstSorts_96 : decode cX11_worstSorts 96 = .ok (.iload 6, 2) := by decide +kernel
theorem dX11_worstSorts_98 : decode cX11_worstSorts 98 = .ok (.iaload, 1) := by decide +kernel
theorem dX11_worstSorts_99 : decode cX11_worstSorts 99 = .ok (.aload_n 0, 1) := by decide +kernel
theorem dX11_worstSorts_100 : decode cX11_worstSorts 100 = .ok (.getfield 35, 3) := by decide +kernel
theorem dX11_worstSorts_103 : decode cX11_worstSorts 103 = .ok (.iload 4, 2) := by decide +kernel
theorem dX11_worstSorts_105 : decode cX11_worstSorts 105 = .ok (.iaload, 1) := by decide +kernel
theorem dX11_worstSorts_106 : decode cX11_worstSorts 106 = .ok (.if_icmp .ne 6, 3) := by decide +kernel
theorem dX11_worstSorts_109 : decode cX11_worstSorts 109 = .ok (.iinc 5 1, 3) := by decide +kernel
theorem dX11_worstSorts_112 : decode cX11_worstSorts 112 = .ok (.iinc 6 1, 3) := by decide +kernel
theorem dX11_worstSorts_115 : decode cX11_worstSorts 115 = .ok (.goto (-40), 3) := by decide +kernel
theorem dX11_worstSorts_118 : decode cX11_worstSorts 118 = .ok (.iload_n 3, 1) := by decide +kernel
theorem dX11_worstSorts_119 : decode cX11_worstSorts 119 = .ok (.iload 5, 2) := by decide +kernel
theorem dX11_worstSorts_121 : decode cX11_worstSorts 121 = .ok (.invokestatic 222, 3) := by decide +kernel
theorem dX11_worstSorts_124 : decode cX11_worstSorts 124 = .ok (.istore_n 3, 1) := by decide +kernel
theorem dX11_worstSorts_125 : decode cX11_worstSorts 125 = .ok (.iinc 4 1, 3) := by decide +kernel
theorem dX11_worstSorts_128 : decode cX11_worstSorts 128 = .ok (.goto (-65), 3) := by decide +kernel
theorem dX11_worstSorts_131 : decode cX11_worstSorts 131 = .ok (.iload_n 3, 1) := by decide +kernel
theorem dX11_worstSorts_132 : decode cX11_worstSorts 132 = .ok (.ireturn, 1) := by decide +kernel
theorem dX11_commonDivisor_0 : decode cX11_commonDivisor 0 = .ok (.iload_n 0, 1) := by decide +kernel
theorem dX11_commonDivisor_1 : decode cX11_commonDivisor 1 = .ok (.istore_n 2, 1) := by decide +kernel
theorem dX11_commonDivisor_2 : decode cX11_commonDivisor 2 = .ok (.iload_n 1, 1) := by decide +kernel
theorem dX11_commonDivisor_3 : decode cX11_commonDivisor 3 = .ok (.istore_n 3, 1) := by decide +kernel
theorem dX11_commonDivisor_4 : decode cX11_commonDivisor 4 = .ok (.iconst 0, 1) := by decide +kernel
theorem dX11_commonDivisor_5 : decode cX11_commonDivisor 5 = .ok (.istore 4, 2) := by decide +kernel
theorem dX11_commonDivisor_7 : decode cX11_commonDivisor 7 = .ok (.iload 4, 2) := by decide +kernel
theorem dX11_commonDivisor_9 : decode cX11_commonDivisor 9 = .ok (.bipush 64, 2) := by decide +kernel
theorem dX11_commonDivisor_11 : decode cX11_commonDivisor 11 = .ok (.if_icmp .ge 23, 3) := by decide +kernel
theorem dX11_commonDivisor_14 : decode cX11_commonDivisor 14 = .ok (.iload_n 3, 1) := by decide +kernel
theorem dX11_commonDivisor_15 : decode cX11_commonDivisor 15 = .ok (.ifCond .eq 19, 3) := by decide +kernel
theorem dX11_commonDivisor_18 : decode cX11_commonDivisor 18 = .ok (.iload_n 2, 1) := by decide +kernel
theorem dX11_commonDivisor_19 : decode cX11_commonDivisor 19 = .ok (.iload_n 3, 1) := by decide +kernel
theorem dX11_commonDivisor_20 : decode cX11_commonDivisor 20 = .ok (.irem, 1) := by decide +kernel
theorem dX11_commonDivisor_21 : decode cX11_commonDivisor 21 = .ok (.istore 5, 2) := by decide +kernel
theorem dX11_commonDivisor_23 : decode cX11_commonDivisor 23 = .ok (.iload_n 3, 1) := by decide +kernel
theorem dX11_commonDivisor_24 : decode cX11_commonDivisor 24 = .ok (.istore_n 2, 1) := by decide +kernel
theorem dX11_commonDivisor_25 : decode cX11_commonDivisor 25 = .ok (.iload 5, 2) := by decide +kernel
theorem dX11_commonDivisor_27 : decode cX11_commonDivisor 27 = .ok (.istore_n 3, 1) := by decide +kernel
theorem dX11_commonDivisor_28 : decode cX11_commonDivisor 28 = .ok (.iinc 4 1, 3) := by decide +kernel
theorem dX11_commonDivisor_31 : decode cX11_commonDivisor 31 = .ok (.goto (-24), 3) := by decide +kernel
theorem dX11_commonDivisor_34 : decode cX11_commonDivisor 34 = .ok (.iload_n 2, 1) := by decide +kernel
theorem dX11_commonDivisor_35 : decode cX11_commonDivisor 35 = .ok (.iconst 1, 1) := by decide +kernel
theorem dX11_commonDivisor_36 : decode cX11_commonDivisor 36 = .ok (.invokestatic 222, 3) := by decide +kernel
theorem dX11_commonDivisor_39 : decode cX11_commonDivisor 39 = .ok (.ireturn, 1) := by decide +kernel
theorem dJ11_isValidCodePoint_9a6ad_0 : decode cJ11_isValidCodePoint_9a6ad 0 = .ok (.iload_n 0, 1) := by decide +kernel
theorem dJ11_isValidCodePoint_9a6ad_1 : decode cJ11_isValidCodePoint_9a6ad 1 = .ok (.bipush 16, 2) := by decide +kernel
theorem dJ11_isValidCodePoint_9a6ad_3 : decode cJ11_isValidCodePoint_9a6ad 3 = .ok (.iushr, 1) := by decide +kernel
theorem dJ11_isValidCodePoint_9a6ad_4 : decode cJ11_isValidCodePoint_9a6ad 4 = .ok (.istore_n 1, 1) := by decide +kernel
theorem dJ11_isValidCodePoint_9a6ad_5 : decode cJ11_isValidCodePoint_9a6ad 5 = .ok (.iload_n 1, 1) := by decide +kernel
theorem dJ11_isValidCodePoint_9a6ad_6 : decode cJ11_isValidCodePoint_9a6ad 6 = .ok (.bipush 17, 2) := by decide +kernel
theorem dJ11_isValidCodePoint_9a6ad_8 : decode cJ11_isValidCodePoint_9a6ad 8 = .ok (.if_icmp .ge 7, 3) := by decide +kernel
theorem dJ11_isValidCodePoint_9a6ad_11 : decode cJ11_isValidCodePoint_9a6ad 11 = .ok (.iconst 1, 1) := by decide +kernel
theorem dJ11_isValidCodePoint_9a6ad_12 : decode cJ11_isValidCodePoint_9a6ad 12 = .ok (.goto 4, 3) := by decide +kernel
theorem dJ11_isValidCodePoint_9a6ad_15 : decode cJ11_isValidCodePoint_9a6ad 15 = .ok (.iconst 0, 1) := by decide +kernel
theorem dJ11_isValidCodePoint_9a6ad_16 : decode cJ11_isValidCodePoint_9a6ad 16 = .ok (.ireturn, 1) := by decide +kernel
theorem dJ11_highSurrogate_5068e_0 : decode cJ11_highSurrogate_5068e 0 = .ok (.iload_n 0, 1) := by decide +kernel
theorem dJ11_highSurrogate_5068e_1 : decode cJ11_highSurrogate_5068e 1 = .ok (.bipush 10, 2) := by decide +kernel
theorem dJ11_highSurrogate_5068e_3 : decode cJ11_highSurrogate_5068e 3 = .ok (.iushr, 1) := by decide +kernel
theorem dJ11_highSurrogate_5068e_4 : decode cJ11_highSurrogate_5068e 4 = .ok (.ldc 110, 2) := by decide +kernel
theorem dJ11_highSurrogate_5068e_6 : decode cJ11_highSurrogate_5068e 6 = .ok (.iadd, 1) := by decide +kernel
theorem dJ11_highSurrogate_5068e_7 : decode cJ11_highSurrogate_5068e 7 = .ok (.i2c, 1) := by decide +kernel
theorem dJ11_highSurrogate_5068e_8 : decode cJ11_highSurrogate_5068e 8 = .ok (.ireturn, 1) := by decide +kernel
theorem dJ11_lowSurrogate_5068e_0 : decode cJ11_lowSurrogate_5068e 0 = .ok (.iload_n 0, 1) := by decide +kernel
theorem dJ11_lowSurrogate_5068e_1 : decode cJ11_lowSurrogate_5068e 1 = .ok (.sipush 1023, 3) := by decide +kernel
theorem dJ11_lowSurrogate_5068e_4 : decode cJ11_lowSurrogate_5068e 4 = .ok (.iand, 1) := by decide +kernel
theorem dJ11_lowSurrogate_5068e_5 : decode cJ11_lowSurrogate_5068e 5 = .ok (.ldc 76, 2) := by decide +kernel
theorem dJ11_lowSurrogate_5068e_7 : decode cJ11_lowSurrogate_5068e 7 = .ok (.iadd, 1) := by decide +kernel
theorem dJ11_lowSurrogate_5068e_8 : decode cJ11_lowSurrogate_5068e 8 = .ok (.i2c, 1) := by decide +kernel
theorem dJ11_lowSurrogate_5068e_9 : decode cJ11_lowSurrogate_5068e 9 = .ok (.ireturn, 1) := by decide +kernel
theorem dJ6_bitCount_0f7a4_0 : decode cJ6_bitCount_0f7a4 0 = .ok (.iload_n 0, 1) := by decide +kernel
theorem dJ6_bitCount_0f7a4_1 : decode cJ6_bitCount_0f7a4 1 = .ok (.iload_n 0, 1) := by decide +kernel
theorem dJ6_bitCount_0f7a4_2 : decode cJ6_bitCount_0f7a4 2 = .ok (.iconst 1, 1) := by decide +kernel
theorem dJ6_bitCount_0f7a4_3 : decode cJ6_bitCount_0f7a4 3 = .ok (.iushr, 1) := by decide +kernel
theorem dJ6_bitCount_0f7a4_4 : decode cJ6_bitCount_0f7a4 4 = .ok (.ldc_w 265, 3) := by decide +kernel
theorem dJ6_bitCount_0f7a4_7 : decode cJ6_bitCount_0f7a4 7 = .ok (.iand, 1) := by decide +kernel
theorem dJ6_bitCount_0f7a4_8 : decode cJ6_bitCount_0f7a4 8 = .ok (.isub, 1) := by decide +kernel
theorem dJ6_bitCount_0f7a4_9 : decode cJ6_bitCount_0f7a4 9 = .ok (.istore_n 0, 1) := by decide +kernel
theorem dJ6_bitCount_0f7a4_10 : decode cJ6_bitCount_0f7a4 10 = .ok (.iload_n 0, 1) := by decide +kernel
theorem dJ6_bitCount_0f7a4_11 : decode cJ6_bitCount_0f7a4 11 = .ok (.ldc_w 266, 3) := by decide +kernel
theorem dJ6_bitCount_0f7a4_14 : decode cJ6_bitCount_0f7a4 14 = .ok (.iand, 1) := by decide +kernel
theorem dJ6_bitCount_0f7a4_15 : decode cJ6_bitCount_0f7a4 15 = .ok (.iload_n 0, 1) := by decide +kernel
theorem dJ6_bitCount_0f7a4_16 : decode cJ6_bitCount_0f7a4 16 = .ok (.iconst 2, 1) := by decide +kernel
theorem dJ6_bitCount_0f7a4_17 : decode cJ6_bitCount_0f7a4 17 = .ok (.iushr, 1) := by decide +kernel
theorem dJ6_bitCount_0f7a4_18 : decode cJ6_bitCount_0f7a4 18 = .ok (.ldc_w 266, 3) := by decide +kernel
theorem dJ6_bitCount_0f7a4_21 : decode cJ6_bitCount_0f7a4 21 = .ok (.iand, 1) := by decide +kernel
theorem dJ6_bitCount_0f7a4_22 : decode cJ6_bitCount_0f7a4 22 = .ok (.iadd, 1) := by decide +kernel
theorem dJ6_bitCount_0f7a4_23 : decode cJ6_bitCount_0f7a4 23 = .ok (.istore_n 0, 1) := by decide +kernel
theorem dJ6_bitCount_0f7a4_24 : decode cJ6_bitCount_0f7a4 24 = .ok (.iload_n 0, 1) := by decide +kernel
theorem dJ6_bitCount_0f7a4_25 : decode cJ6_bitCount_0f7a4 25 = .ok (.iload_n 0, 1) := by decide +kernel
theorem dJ6_bitCount_0f7a4_26 : decode cJ6_bitCount_0f7a4 26 = .ok (.iconst 4, 1) := by decide +kernel
theorem dJ6_bitCount_0f7a4_27 : decode cJ6_bitCount_0f7a4 27 = .ok (.iushr, 1) := by decide +kernel
theorem dJ6_bitCount_0f7a4_28 : decode cJ6_bitCount_0f7a4 28 = .ok (.iadd, 1) := by decide +kernel
theorem dJ6_bitCount_0f7a4_29 : decode cJ6_bitCount_0f7a4 29 = .ok (.ldc_w 267, 3) := by decide +kernel
theorem dJ6_bitCount_0f7a4_32 : decode cJ6_bitCount_0f7a4 32 = .ok (.iand, 1) := by decide +kernel
theorem dJ6_bitCount_0f7a4_33 : decode cJ6_bitCount_0f7a4 33 = .ok (.istore_n 0, 1) := by decide +kernel
theorem dJ6_bitCount_0f7a4_34 : decode cJ6_bitCount_0f7a4 34 = .ok (.iload_n 0, 1) := by decide +kernel
theorem dJ6_bitCount_0f7a4_35 : decode cJ6_bitCount_0f7a4 35 = .ok (.iload_n 0, 1) := by decide +kernel
theorem dJ6_bitCount_0f7a4_36 : decode cJ6_bitCount_0f7a4 36 = .ok (.bipush 8, 2) := by decide +kernel
theorem dJ6_bitCount_0f7a4_38 : decode cJ6_bitCount_0f7a4 38 = .ok (.iushr, 1) := by decide +kernel
theorem dJ6_bitCount_0f7a4_39 : decode cJ6_bitCount_0f7a4 39 = .ok (.iadd, 1) := by decide +kernel
theorem dJ6_bitCount_0f7a4_40 : decode cJ6_bitCount_0f7a4 40 = .ok (.istore_n 0, 1) := by decide +kernel
theorem dJ6_bitCount_0f7a4_41 : decode cJ6_bitCount_0f7a4 41 = .ok (.iload_n 0, 1) := by decide +kernel
theorem dJ6_bitCount_0f7a4_42 : decode cJ6_bitCount_0f7a4 42 = .ok (.iload_n 0, 1) := by decide +kernel
theorem dJ6_bitCount_0f7a4_43 : decode cJ6_bitCount_0f7a4 43 = .ok (.bipush 16, 2) := by decide +kernel
theorem dJ6_bitCount_0f7a4_45 : decode cJ6_bitCount_0f7a4 45 = .ok (.iushr, 1) := by decide +kernel
theorem dJ6_bitCount_0f7a4_46 : decode cJ6_bitCount_0f7a4 46 = .ok (.iadd, 1) := by decide +kernel
theorem dJ6_bitCount_0f7a4_47 : decode cJ6_bitCount_0f7a4 47 = .ok (.istore_n 0, 1) := by decide +kernel
theorem dJ6_bitCount_0f7a4_48 : decode cJ6_bitCount_0f7a4 48 = .ok (.iload_n 0, 1) := by decide +kernel
theorem dJ6_bitCount_0f7a4_49 : decode cJ6_bitCount_0f7a4 49 = .ok (.bipush 63, 2) := by decide +kernel
theorem dJ6_bitCount_0f7a4_51 : decode cJ6_bitCount_0f7a4 51 = .ok (.iand, 1) := by decide +kernel
theorem dJ6_bitCount_0f7a4_52 : decode cJ6_bitCount_0f7a4 52 = .ok (.ireturn, 1) := by decide +kernel
theorem dJ9_max_7cf53_0 : decode cJ9_max_7cf53 0 = .ok (.iload_n 0, 1) := by decide +kernel
theorem dJ9_max_7cf53_1 : decode cJ9_max_7cf53 1 = .ok (.iload_n 1, 1) := by decide +kernel
theorem dJ9_max_7cf53_2 : decode cJ9_max_7cf53 2 = .ok (.if_icmp .lt 7, 3) := by decide +kernel
theorem dJ9_max_7cf53_5 : decode cJ9_max_7cf53 5 = .ok (.iload_n 0, 1) := by decide +kernel
theorem dJ9_max_7cf53_6 : decode cJ9_max_7cf53 6 = .ok (.goto 4, 3) := by decide +kernel
theorem dJ9_max_7cf53_9 : decode cJ9_max_7cf53 9 = .ok (.iload_n 1, 1) := by decide +kernel
theorem dJ9_max_7cf53_10 : decode cJ9_max_7cf53 10 = .ok (.ireturn, 1) := by decide +kernel
theorem dJ9_min_7cf53_0 : decode cJ9_min_7cf53 0 = .ok (.iload_n 0, 1) := by decide +kernel
theorem dJ9_min_7cf53_1 : decode cJ9_min_7cf53 1 = .ok (.iload_n 1, 1) := by decide +kernel
theorem dJ9_min_7cf53_2 : decode cJ9_min_7cf53 2 = .ok (.if_icmp .gt 7, 3) := by decide +kernel
theorem dJ9_min_7cf53_5 : decode cJ9_min_7cf53 5 = .ok (.iload_n 0, 1) := by decide +kernel
theorem dJ9_min_7cf53_6 : decode cJ9_min_7cf53 6 = .ok (.goto 4, 3) := by decide +kernel
theorem dJ9_min_7cf53_9 : decode cJ9_min_7cf53 9 = .ok (.iload_n 1, 1) := by decide +kernel
theorem dJ9_min_7cf53_10 : decode cJ9_min_7cf53 10 = .ok (.ireturn, 1) := by decide +kernel
theorem dJ0_length_8abf5_0 : decode cJ0_length_8abf5 0 = .ok (.aload_n 0, 1) := by decide +kernel
theorem dJ0_length_8abf5_1 : decode cJ0_length_8abf5 1 = .ok (.getfield 9, 3) := by decide +kernel
theorem dJ0_length_8abf5_4 : decode cJ0_length_8abf5 4 = .ok (.arraylength, 1) := by decide +kernel
theorem dJ0_length_8abf5_5 : decode cJ0_length_8abf5 5 = .ok (.aload_n 0, 1) := by decide +kernel
theorem dJ0_length_8abf5_6 : decode cJ0_length_8abf5 6 = .ok (.invokevirtual 335, 3) := by decide +kernel
theorem dJ0_length_8abf5_9 : decode cJ0_length_8abf5 9 = .ok (.ishr, 1) := by decide +kernel
theorem dJ0_length_8abf5_10 : decode cJ0_length_8abf5 10 = .ok (.ireturn, 1) := by decide +kernel
theorem dJ0_indexOf_0f7a4_0 : decode cJ0_indexOf_0f7a4 0 = .ok (.aload_n 0, 1) := by decide +kernel
theorem dJ0_indexOf_0f7a4_1 : decode cJ0_indexOf_0f7a4 1 = .ok (.iload_n 1, 1) := by decide +kernel
theorem dJ0_indexOf_0f7a4_2 : decode cJ0_indexOf_0f7a4 2 = .ok (.iconst 0, 1) := by decide +kernel
theorem dJ0_indexOf_0f7a4_3 : decode cJ0_indexOf_0f7a4 3 = .ok (.invokevirtual 633, 3) := by decide +kernel
theorem dJ0_indexOf_0f7a4_6 : decode cJ0_indexOf_0f7a4 6 = .ok (.ireturn, 1) := by decide +kernel
theorem dJ0_indexOf_7cf53_0 : decode cJ0_indexOf_7cf53 0 = .ok (.aload_n 0, 1) := by decide +kernel
theorem dJ0_indexOf_7cf53_1 : decode cJ0_indexOf_7cf53 1 = .ok (.invokevirtual 492, 3) := by decide +kernel
theorem dJ0_indexOf_7cf53_4 : decode cJ0_indexOf_7cf53 4 = .ok (.ifCond .eq 19, 3) := by decide +kernel
theorem dJ0_indexOf_7cf53_7 : decode cJ0_indexOf_7cf53 7 = .ok (.aload_n 0, 1) := by decide +kernel
theorem dJ0_indexOf_7cf53_8 : decode cJ0_indexOf_7cf53 8 = .ok (.getfield 9, 3) := by decide +kernel
theorem dJ0_indexOf_7cf53_11 : decode cJ0_indexOf_7cf53 11 = .ok (.iload_n 1, 1) := by decide +kernel
theorem dJ0_indexOf_7cf53_12 : decode cJ0_indexOf_7cf53 12 = .ok (.iload_n 2, 1) := by decide +kernel
theorem dJ0_indexOf_7cf53_13 : decode cJ0_indexOf_7cf53 13 = .ok (.aload_n 0, 1) := by decide +kernel
theorem dJ0_indexOf_7cf53_14 : decode cJ0_indexOf_7cf53 14 = .ok (.invokevirtual 505, 3) := by decide +kernel
theorem dJ0_indexOf_7cf53_17 : decode cJ0_indexOf_7cf53 17 = .ok (.invokestatic 637, 3) := by decide +kernel
theorem dJ0_indexOf_7cf53_20 : decode cJ0_indexOf_7cf53 20 = .ok (.goto 16, 3) := by decide +kernel
theorem dJ0_indexOf_7cf53_23 : decode cJ0_indexOf_7cf53 23 = .ok (.aload_n 0, 1) := by decide +kernel
theorem dJ0_indexOf_7cf53_24 : decode cJ0_indexOf_7cf53 24 = .ok (.getfield 9, 3) := by decide +kernel
theorem dJ0_indexOf_7cf53_27 : decode cJ0_indexOf_7cf53 27 = .ok (.iload_n 1, 1) := by decide +kernel
theorem dJ0_indexOf_7cf53_28 : decode cJ0_indexOf_7cf53 28 = .ok (.iload_n 2, 1) := by decide +kernel
theorem dJ0_indexOf_7cf53_29 : decode cJ0_indexOf_7cf53 29 = .ok (.aload_n 0, 1) := by decide +kernel
theorem dJ0_indexOf_7cf53_30 : decode cJ0_indexOf_7cf53 30 = .ok (.invokevirtual 505, 3) := by decide +kernel
theorem dJ0_indexOf_7cf53_33 : decode cJ0_indexOf_7cf53 33 = .ok (.invokestatic 640, 3) := by decide +kernel
theorem dJ0_indexOf_7cf53_36 : decode cJ0_indexOf_7cf53 36 = .ok (.ireturn, 1) := by decide +kernel
theorem dJ0_coder_7d493_0 : decode cJ0_coder_7d493 0 = .ok (.getstatic 38, 3) := by decide +kernel
theorem dJ0_coder_7d493_3 : decode cJ0_coder_7d493 3 = .ok (.ifCond .eq 10, 3) := by decide +kernel
theorem dJ0_coder_7d493_6 : decode cJ0_coder_7d493 6 = .ok (.aload_n 0, 1) := by decide +kernel
theorem dJ0_coder_7d493_7 : decode cJ0_coder_7d493 7 = .ok (.getfield 15, 3) := by decide +kernel
theorem dJ0_coder_7d493_10 : decode cJ0_coder_7d493 10 = .ok (.goto 4, 3) := by decide +kernel
theorem dJ0_coder_7d493_13 : decode cJ0_coder_7d493 13 = .ok (.iconst 1, 1) := by decide +kernel
theorem dJ0_coder_7d493_14 : decode cJ0_coder_7d493 14 = .ok (.ireturn, 1) := by decide +kernel
theorem dJ0_isLatin1_aae02_0 : decode cJ0_isLatin1_aae02 0 = .ok (.getstatic 38, 3) := by decide +kernel
theorem dJ0_isLatin1_aae02_3 : decode cJ0_isLatin1_aae02 3 = .ok (.ifCond .eq 14, 3) := by decide +kernel
theorem dJ0_isLatin1_aae02_6 : decode cJ0_isLatin1_aae02 6 = .ok (.aload_n 0, 1) := by decide +kernel
theorem dJ0_isLatin1_aae02_7 : decode cJ0_isLatin1_aae02 7 = .ok (.getfield 15, 3) := by decide +kernel
theorem dJ0_isLatin1_aae02_10 : decode cJ0_isLatin1_aae02 10 = .ok (.ifCond .ne 7, 3) := by decide +kernel
theorem dJ0_isLatin1_aae02_13 : decode cJ0_isLatin1_aae02 13 = .ok (.iconst 1, 1) := by decide +kernel
theorem dJ0_isLatin1_aae02_14 : decode cJ0_isLatin1_aae02 14 = .ok (.goto 4, 3) := by decide +kernel
theorem dJ0_isLatin1_aae02_17 : decode cJ0_isLatin1_aae02 17 = .ok (.iconst 0, 1) := by decide +kernel
theorem dJ0_isLatin1_aae02_18 : decode cJ0_isLatin1_aae02 18 = .ok (.ireturn, 1) := by decide +kernel
theorem dJ0_checkBoundsBeginEnd_23922_0 : decode cJ0_checkBoundsBeginEnd_23922 0 = .ok (.iload_n 0, 1) := by decide +kernel
theorem dJ0_checkBoundsBeginEnd_23922_1 : decode cJ0_checkBoundsBeginEnd_23922 1 = .ok (.iload_n 1, 1) := by decide +kernel
theorem dJ0_checkBoundsBeginEnd_23922_2 : decode cJ0_checkBoundsBeginEnd_23922 2 = .ok (.iload_n 2, 1) := by decide +kernel
theorem dJ0_checkBoundsBeginEnd_23922_3 : decode cJ0_checkBoundsBeginEnd_23922 3 = .ok (.getstatic 1053, 3) := by decide +kernel
theorem dJ0_checkBoundsBeginEnd_23922_6 : decode cJ0_checkBoundsBeginEnd_23922 6 = .ok (.invokestatic 1062, 3) := by decide +kernel
theorem dJ0_checkBoundsBeginEnd_23922_9 : decode cJ0_checkBoundsBeginEnd_23922 9 = .ok (.pop, 1) := by decide +kernel
theorem dJ0_checkBoundsBeginEnd_23922_10 : decode cJ0_checkBoundsBeginEnd_23922 10 = .ok (.return_, 1) := by decide +kernel
theorem dJ1_canEncode_9a6ad_0 : decode cJ1_canEncode_9a6ad 0 = .ok (.iload_n 0, 1) := by decide +kernel
theorem dJ1_canEncode_9a6ad_1 : decode cJ1_canEncode_9a6ad 1 = .ok (.ifCond .lt 14, 3) := by decide +kernel
theorem dJ1_canEncode_9a6ad_4 : decode cJ1_canEncode_9a6ad 4 = .ok (.iload_n 0, 1) := by decide +kernel
theorem dJ1_canEncode_9a6ad_5 : decode cJ1_canEncode_9a6ad 5 = .ok (.sipush 255, 3) := by decide +kernel
theorem dJ1_canEncode_9a6ad_8 : decode cJ1_canEncode_9a6ad 8 = .ok (.if_icmp .gt 7, 3) := by decide +kernel
theorem dJ1_canEncode_9a6ad_11 : decode cJ1_canEncode_9a6ad 11 = .ok (.iconst 1, 1) := by decide +kernel
theorem dJ1_canEncode_9a6ad_12 : decode cJ1_canEncode_9a6ad 12 = .ok (.goto 4, 3) := by decide +kernel
theorem dJ1_canEncode_9a6ad_15 : decode cJ1_canEncode_9a6ad 15 = .ok (.iconst 0, 1) := by decide +kernel
theorem dJ1_canEncode_9a6ad_16 : decode cJ1_canEncode_9a6ad 16 = .ok (.ireturn, 1) := by decide +kernel
theorem dJ1_indexOf_4cfef_0 : decode cJ1_indexOf_4cfef 0 = .ok (.iload_n 1, 1) := by decide +kernel
theorem dJ1_indexOf_4cfef_1 : decode cJ1_indexOf_4cfef 1 = .ok (.invokestatic 88, 3) := by decide +kernel
theorem dJ1_indexOf_4cfef_4 : decode cJ1_indexOf_4cfef 4 = .ok (.ifCond .ne 5, 3) := by decide +kernel
theorem dJ1_indexOf_4cfef_7 : decode cJ1_indexOf_4cfef 7 = .ok (.iconst (-1), 1) := by decide +kernel
theorem dJ1_indexOf_4cfef_8 : decode cJ1_indexOf_4cfef 8 = .ok (.ireturn, 1) := by decide +kernel
theorem dJ1_indexOf_4cfef_9 : decode cJ1_indexOf_4cfef 9 = .ok (.iload_n 2, 1) := by decide +kernel
theorem dJ1_indexOf_4cfef_10 : decode cJ1_indexOf_4cfef 10 = .ok (.iconst 0, 1) := by decide +kernel
theorem dJ1_indexOf_4cfef_11 : decode cJ1_indexOf_4cfef 11 = .ok (.invokestatic 92, 3) := by decide +kernel
theorem dJ1_indexOf_4cfef_14 : decode cJ1_indexOf_4cfef 14 = .ok (.istore_n 2, 1) := by decide +kernel
theorem dJ1_indexOf_4cfef_15 : decode cJ1_indexOf_4cfef 15 = .ok (.iload_n 3, 1) := by decide +kernel
theorem dJ1_indexOf_4cfef_16 : decode cJ1_indexOf_4cfef 16 = .ok (.aload_n 0, 1) := by decide +kernel
theorem dJ1_indexOf_4cfef_17 : decode cJ1_indexOf_4cfef 17 = .ok (.arraylength, 1) := by decide +kernel
theorem dJ1_indexOf_4cfef_18 : decode cJ1_indexOf_4cfef 18 = .ok (.invokestatic 38, 3) := by decide +kernel
theorem dJ1_indexOf_4cfef_21 : decode cJ1_indexOf_4cfef 21 = .ok (.istore_n 3, 1) := by decide +kernel
theorem dJ1_indexOf_4cfef_22 : decode cJ1_indexOf_4cfef 22 = .ok (.iload_n 2, 1) := by decide +kernel
theorem dJ1_indexOf_4cfef_23 : decode cJ1_indexOf_4cfef 23 = .ok (.iload_n 3, 1) := by decide +kernel
theorem dJ1_indexOf_4cfef_24 : decode cJ1_indexOf_4cfef 24 = .ok (.if_icmp .lt 5, 3) := by decide +kernel
theorem dJ1_indexOf_4cfef_27 : decode cJ1_indexOf_4cfef 27 = .ok (.iconst (-1), 1) := by decide +kernel
theorem dJ1_indexOf_4cfef_28 : decode cJ1_indexOf_4cfef 28 = .ok (.ireturn, 1) := by decide +kernel
theorem dJ1_indexOf_4cfef_29 : decode cJ1_indexOf_4cfef 29 = .ok (.aload_n 0, 1) := by decide +kernel
theorem dJ1_indexOf_4cfef_30 : decode cJ1_indexOf_4cfef 30 = .ok (.iload_n 1, 1) := by decide +kernel
theorem dJ1_indexOf_4cfef_31 : decode cJ1_indexOf_4cfef 31 = .ok (.iload_n 2, 1) := by decide +kernel
theorem dJ1_indexOf_4cfef_32 : decode cJ1_indexOf_4cfef 32 = .ok (.iload_n 3, 1) := by decide +kernel
theorem dJ1_indexOf_4cfef_33 : decode cJ1_indexOf_4cfef 33 = .ok (.invokestatic 95, 3) := by decide +kernel
theorem dJ1_indexOf_4cfef_36 : decode cJ1_indexOf_4cfef 36 = .ok (.ireturn, 1) := by decide +kernel
theorem dJ1_indexOfChar_4cfef_0 : decode cJ1_indexOfChar_4cfef 0 = .ok (.iload_n 1, 1) := by decide +kernel
theorem dJ1_indexOfChar_4cfef_1 : decode cJ1_indexOfChar_4cfef 1 = .ok (.i2b, 1) := by decide +kernel
theorem dJ1_indexOfChar_4cfef_2 : decode cJ1_indexOfChar_4cfef 2 = .ok (.istore 4, 2) := by decide +kernel
theorem dJ1_indexOfChar_4cfef_4 : decode cJ1_indexOfChar_4cfef 4 = .ok (.iload_n 2, 1) := by decide +kernel
theorem dJ1_indexOfChar_4cfef_5 : decode cJ1_indexOfChar_4cfef 5 = .ok (.istore 5, 2) := by decide +kernel
theorem dJ1_indexOfChar_4cfef_7 : decode cJ1_indexOfChar_4cfef 7 = .ok (.iload 5, 2) := by decide +kernel
theorem dJ1_indexOfChar_4cfef_9 : decode cJ1_indexOfChar_4cfef 9 = .ok (.iload_n 3, 1) := by decide +kernel
theorem dJ1_indexOfChar_4cfef_10 : decode cJ1_indexOfChar_4cfef 10 = .ok (.if_icmp .ge 21, 3) := by decide +kernel
theorem dJ1_indexOfChar_4cfef_13 : decode cJ1_indexOfChar_4cfef 13 = .ok (.aload_n 0, 1) := by decide +kernel
theorem dJ1_indexOfChar_4cfef_14 : decode cJ1_indexOfChar_4cfef 14 = .ok (.iload 5, 2) := by decide +kernel
theorem dJ1_indexOfChar_4cfef_16 : decode cJ1_indexOfChar_4cfef 16 = .ok (.baload, 1) := by decide +kernel
theorem dJ1_indexOfChar_4cfef_17 : decode cJ1_indexOfChar_4cfef 17 = .ok (.iload 4, 2) := by decide +kernel
theorem dJ1_indexOfChar_4cfef_19 : decode cJ1_indexOfChar_4cfef 19 = .ok (.if_icmp .ne 6, 3) := by decide +kernel
theorem dJ1_indexOfChar_4cfef_22 : decode cJ1_indexOfChar_4cfef 22 = .ok (.iload 5, 2) := by decide +kernel
theorem dJ1_indexOfChar_4cfef_24 : decode cJ1_indexOfChar_4cfef 24 = .ok (.ireturn, 1) := by decide +kernel
theorem dJ1_indexOfChar_4cfef_25 : decode cJ1_indexOfChar_4cfef 25 = .ok (.iinc 5 1, 3) := by decide +kernel
theorem dJ1_indexOfChar_4cfef_28 : decode cJ1_indexOfChar_4cfef 28 = .ok (.goto (-21), 3) := by decide +kernel
theorem dJ1_indexOfChar_4cfef_31 : decode cJ1_indexOfChar_4cfef 31 = .ok (.iconst (-1), 1) := by decide +kernel
theorem dJ1_indexOfChar_4cfef_32 : decode cJ1_indexOfChar_4cfef 32 = .ok (.ireturn, 1) := by decide +kernel
theorem dJ2_getChar_3b067_0 : decode cJ2_getChar_3b067 0 = .ok (.getstatic 44, 3) := by decide +kernel
theorem dJ2_getChar_3b067_3 : decode cJ2_getChar_3b067 3 = .ok (.ifCond .ne 25, 3) := by decide +kernel
theorem dJ2_getChar_3b067_6 : decode cJ2_getChar_3b067 6 = .ok (.iload_n 1, 1) := by decide +kernel
theorem dJ2_getChar_3b067_7 : decode cJ2_getChar_3b067 7 = .ok (.ifCond .lt 11, 3) := by decide +kernel
theorem dJ2_getChar_3b067_10 : decode cJ2_getChar_3b067 10 = .ok (.iload_n 1, 1) := by decide +kernel
theorem dJ2_getChar_3b067_11 : decode cJ2_getChar_3b067 11 = .ok (.aload_n 0, 1) := by decide +kernel
theorem dJ2_getChar_3b067_12 : decode cJ2_getChar_3b067 12 = .ok (.invokestatic 48, 3) := by decide +kernel
theorem dJ2_getChar_3b067_15 : decode cJ2_getChar_3b067 15 = .ok (.if_icmp .lt 13, 3) := by decide +kernel
theorem dJ2_getChar_3b067_18 : decode cJ2_getChar_3b067 18 = .ok (.new 52, 3) := by decide +kernel
theorem dJ2_getChar_3b067_21 : decode cJ2_getChar_3b067 21 = .ok (.dup, 1) := by decide +kernel
theorem dJ2_getChar_3b067_22 : decode cJ2_getChar_3b067 22 = .ok (.ldc 54, 2) := by decide +kernel
theorem dJ2_getChar_3b067_24 : decode cJ2_getChar_3b067 24 = .ok (.invokespecial 56, 3) := by decide +kernel
theorem dJ2_getChar_3b067_27 : decode cJ2_getChar_3b067 27 = .ok (.athrow, 1) := by decide +kernel
theorem dJ2_getChar_3b067_28 : decode cJ2_getChar_3b067 28 = .ok (.iload_n 1, 1) := by decide +kernel
theorem dJ2_getChar_3b067_29 : decode cJ2_getChar_3b067 29 = .ok (.iconst 1, 1) := by decide +kernel
theorem dJ2_getChar_3b067_30 : decode cJ2_getChar_3b067 30 = .ok (.ishl, 1) := by decide +kernel
theorem dJ2_getChar_3b067_31 : decode cJ2_getChar_3b067 31 = .ok (.istore_n 1, 1) := by decide +kernel
theorem dJ2_getChar_3b067_32 : decode cJ2_getChar_3b067 32 = .ok (.aload_n 0, 1) := by decide +kernel
theorem dJ2_getChar_3b067_33 : decode cJ2_getChar_3b067 33 = .ok (.iload_n 1, 1) := by decide +kernel
theorem dJ2_getChar_3b067_34 : decode cJ2_getChar_3b067 34 = .ok (.iinc 1 1, 3) := by decide +kernel
theorem dJ2_getChar_3b067_37 : decode cJ2_getChar_3b067 37 = .ok (.baload, 1) := by decide +kernel
theorem dJ2_getChar_3b067_38 : decode cJ2_getChar_3b067 38 = .ok (.sipush 255, 3) := by decide +kernel
theorem dJ2_getChar_3b067_41 : decode cJ2_getChar_3b067 41 = .ok (.iand, 1) := by decide +kernel
theorem dJ2_getChar_3b067_42 : decode cJ2_getChar_3b067 42 = .ok (.getstatic 59, 3) := by decide +kernel
theorem dJ2_getChar_3b067_45 : decode cJ2_getChar_3b067 45 = .ok (.ishl, 1) := by decide +kernel
theorem dJ2_getChar_3b067_46 : decode cJ2_getChar_3b067 46 = .ok (.aload_n 0, 1) := by decide +kernel
theorem dJ2_getChar_3b067_47 : decode cJ2_getChar_3b067 47 = .ok (.iload_n 1, 1) := by decide +kernel
theorem dJ2_getChar_3b067_48 : decode cJ2_getChar_3b067 48 = .ok (.baload, 1) := by decide +kernel
theorem dJ2_getChar_3b067_49 : decode cJ2_getChar_3b067 49 = .ok (.sipush 255, 3) := by decide +kernel
theorem dJ2_getChar_3b067_52 : decode cJ2_getChar_3b067 52 = .ok (.iand, 1) := by decide +kernel
theorem dJ2_getChar_3b067_53 : decode cJ2_getChar_3b067 53 = .ok (.getstatic 63, 3) := by decide +kernel
theorem dJ2_getChar_3b067_56 : decode cJ2_getChar_3b067 56 = .ok (.ishl, 1) := by decide +kernel
theorem dJ2_getChar_3b067_57 : decode cJ2_getChar_3b067 57 = .ok (.ior, 1) := by decide +kernel
theorem dJ2_getChar_3b067_58 : decode cJ2_getChar_3b067 58 = .ok (.i2c, 1) := by decide +kernel
theorem dJ2_getChar_3b067_59 : decode cJ2_getChar_3b067 59 = .ok (.ireturn, 1) := by decide +kernel
theorem dJ2_length_9d52b_0 : decode cJ2_length_9d52b 0 = .ok (.aload_n 0, 1) := by decide +kernel
theorem dJ2_length_9d52b_1 : decode cJ2_length_9d52b 1 = .ok (.arraylength, 1) := by decide +kernel
theorem dJ2_length_9d52b_2 : decode cJ2_length_9d52b 2 = .ok (.iconst 1, 1) := by decide +kernel
theorem dJ2_length_9d52b_3 : decode cJ2_length_9d52b 3 = .ok (.ishr, 1) := by decide +kernel
theorem dJ2_length_9d52b_4 : decode cJ2_length_9d52b 4 = .ok (.ireturn, 1) := by decide +kernel
theorem dJ2_indexOf_4cfef_0 : decode cJ2_indexOf_4cfef 0 = .ok (.iload_n 2, 1) := by decide +kernel
theorem dJ2_indexOf_4cfef_1 : decode cJ2_indexOf_4cfef 1 = .ok (.iconst 0, 1) := by decide +kernel
theorem dJ2_indexOf_4cfef_2 : decode cJ2_indexOf_4cfef 2 = .ok (.invokestatic 224, 3) := by decide +kernel
theorem dJ2_indexOf_4cfef_5 : decode cJ2_indexOf_4cfef 5 = .ok (.istore_n 2, 1) := by decide +kernel
theorem dJ2_indexOf_4cfef_6 : decode cJ2_indexOf_4cfef 6 = .ok (.iload_n 3, 1) := by decide +kernel
theorem dJ2_indexOf_4cfef_7 : decode cJ2_indexOf_4cfef 7 = .ok (.aload_n 0, 1) := by decide +kernel
theorem dJ2_indexOf_4cfef_8 : decode cJ2_indexOf_4cfef 8 = .ok (.arraylength, 1) := by decide +kernel
theorem dJ2_indexOf_4cfef_9 : decode cJ2_indexOf_4cfef 9 = .ok (.iconst 1, 1) := by decide +kernel
theorem dJ2_indexOf_4cfef_10 : decode cJ2_indexOf_4cfef 10 = .ok (.ishr, 1) := by decide +kernel
theorem dJ2_indexOf_4cfef_11 : decode cJ2_indexOf_4cfef 11 = .ok (.invokestatic 183, 3) := by decide +kernel
theorem dJ2_indexOf_4cfef_14 : decode cJ2_indexOf_4cfef 14 = .ok (.istore_n 3, 1) := by decide +kernel
theorem dJ2_indexOf_4cfef_15 : decode cJ2_indexOf_4cfef 15 = .ok (.iload_n 2, 1) := by decide +kernel
theorem dJ2_indexOf_4cfef_16 : decode cJ2_indexOf_4cfef 16 = .ok (.iload_n 3, 1) := by decide +kernel
theorem dJ2_indexOf_4cfef_17 : decode cJ2_indexOf_4cfef 17 = .ok (.if_icmp .lt 5, 3) := by decide +kernel
theorem dJ2_indexOf_4cfef_20 : decode cJ2_indexOf_4cfef 20 = .ok (.iconst (-1), 1) := by decide +kernel
theorem dJ2_indexOf_4cfef_21 : decode cJ2_indexOf_4cfef 21 = .ok (.ireturn, 1) := by decide +kernel
theorem dJ2_indexOf_4cfef_22 : decode cJ2_indexOf_4cfef 22 = .ok (.iload_n 1, 1) := by decide +kernel
theorem dJ2_indexOf_4cfef_23 : decode cJ2_indexOf_4cfef 23 = .ok (.ldc 227, 2) := by decide +kernel
theorem dJ2_indexOf_4cfef_25 : decode cJ2_indexOf_4cfef 25 = .ok (.if_icmp .ge 11, 3) := by decide +kernel
theorem dJ2_indexOf_4cfef_28 : decode cJ2_indexOf_4cfef 28 = .ok (.aload_n 0, 1) := by decide +kernel
theorem dJ2_indexOf_4cfef_29 : decode cJ2_indexOf_4cfef 29 = .ok (.iload_n 1, 1) := by decide +kernel
theorem dJ2_indexOf_4cfef_30 : decode cJ2_indexOf_4cfef 30 = .ok (.iload_n 2, 1) := by decide +kernel
theorem dJ2_indexOf_4cfef_31 : decode cJ2_indexOf_4cfef 31 = .ok (.iload_n 3, 1) := by decide +kernel
theorem dJ2_indexOf_4cfef_32 : decode cJ2_indexOf_4cfef 32 = .ok (.invokestatic 228, 3) := by decide +kernel
theorem dJ2_indexOf_4cfef_35 : decode cJ2_indexOf_4cfef 35 = .ok (.ireturn, 1) := by decide +kernel
theorem dJ2_indexOf_4cfef_36 : decode cJ2_indexOf_4cfef 36 = .ok (.aload_n 0, 1) := by decide +kernel
theorem dJ2_indexOf_4cfef_37 : decode cJ2_indexOf_4cfef 37 = .ok (.iload_n 1, 1) := by decide +kernel
theorem dJ2_indexOf_4cfef_38 : decode cJ2_indexOf_4cfef 38 = .ok (.iload_n 2, 1) := by decide +kernel
theorem dJ2_indexOf_4cfef_39 : decode cJ2_indexOf_4cfef 39 = .ok (.iload_n 3, 1) := by decide +kernel
theorem dJ2_indexOf_4cfef_40 : decode cJ2_indexOf_4cfef 40 = .ok (.invokestatic 232, 3) := by decide +kernel
theorem dJ2_indexOf_4cfef_43 : decode cJ2_indexOf_4cfef 43 = .ok (.ireturn, 1) := by decide +kernel
theorem dJ2_indexOfChar_4cfef_0 : decode cJ2_indexOfChar_4cfef 0 = .ok (.iload_n 2, 1) := by decide +kernel
theorem dJ2_indexOfChar_4cfef_1 : decode cJ2_indexOfChar_4cfef 1 = .ok (.iload_n 3, 1) := by decide +kernel
theorem dJ2_indexOfChar_4cfef_2 : decode cJ2_indexOfChar_4cfef 2 = .ok (.aload_n 0, 1) := by decide +kernel
theorem dJ2_indexOfChar_4cfef_3 : decode cJ2_indexOfChar_4cfef 3 = .ok (.invokestatic 96, 3) := by decide +kernel
theorem dJ2_indexOfChar_4cfef_6 : decode cJ2_indexOfChar_4cfef 6 = .ok (.aload_n 0, 1) := by decide +kernel
theorem dJ2_indexOfChar_4cfef_7 : decode cJ2_indexOfChar_4cfef 7 = .ok (.iload_n 1, 1) := by decide +kernel
theorem dJ2_indexOfChar_4cfef_8 : decode cJ2_indexOfChar_4cfef 8 = .ok (.iload_n 2, 1) := by decide +kernel
theorem dJ2_indexOfChar_4cfef_9 : decode cJ2_indexOfChar_4cfef 9 = .ok (.iload_n 3, 1) := by decide +kernel
theorem dJ2_indexOfChar_4cfef_10 : decode cJ2_indexOfChar_4cfef 10 = .ok (.invokestatic 244, 3) := by decide +kernel
theorem dJ2_indexOfChar_4cfef_13 : decode cJ2_indexOfChar_4cfef 13 = .ok (.ireturn, 1) := by decide +kernel
theorem dJ2_indexOfCharUnsafe_4cfef_0 : decode cJ2_indexOfCharUnsafe_4cfef 0 = .ok (.iload_n 2, 1) := by decide +kernel
theorem dJ2_indexOfCharUnsafe_4cfef_1 : decode cJ2_indexOfCharUnsafe_4cfef 1 = .ok (.istore 4, 2) := by decide +kernel
theorem dJ2_indexOfCharUnsafe_4cfef_3 : decode cJ2_indexOfCharUnsafe_4cfef 3 = .ok (.iload 4, 2) := by decide +kernel
theorem dJ2_indexOfCharUnsafe_4cfef_5 : decode cJ2_indexOfCharUnsafe_4cfef 5 = .ok (.iload_n 3, 1) := by decide +kernel
theorem dJ2_indexOfCharUnsafe_4cfef_6 : decode cJ2_indexOfCharUnsafe_4cfef 6 = .ok (.if_icmp .ge 22, 3) := by decide +kernel
theorem dJ2_indexOfCharUnsafe_4cfef_9 : decode cJ2_indexOfCharUnsafe_4cfef 9 = .ok (.aload_n 0, 1) := by decide +kernel
theorem dJ2_indexOfCharUnsafe_4cfef_10 : decode cJ2_indexOfCharUnsafe_4cfef 10 = .ok (.iload 4, 2) := by decide +kernel
theorem dJ2_indexOfCharUnsafe_4cfef_12 : decode cJ2_indexOfCharUnsafe_4cfef 12 = .ok (.invokestatic 71, 3) := by decide +kernel
theorem dJ2_indexOfCharUnsafe_4cfef_15 : decode cJ2_indexOfCharUnsafe_4cfef 15 = .ok (.iload_n 1, 1) := by decide +kernel
theorem dJ2_indexOfCharUnsafe_4cfef_16 : decode cJ2_indexOfCharUnsafe_4cfef 16 = .ok (.if_icmp .ne 6, 3) := by decide +kernel
theorem dJ2_indexOfCharUnsafe_4cfef_19 : decode cJ2_indexOfCharUnsafe_4cfef 19 = .ok (.iload 4, 2) := by decide +kernel
theorem dJ2_indexOfCharUnsafe_4cfef_21 : decode cJ2_indexOfCharUnsafe_4cfef 21 = .ok (.ireturn, 1) := by decide +kernel
theorem dJ2_indexOfCharUnsafe_4cfef_22 : decode cJ2_indexOfCharUnsafe_4cfef 22 = .ok (.iinc 4 1, 3) := by decide +kernel
theorem dJ2_indexOfCharUnsafe_4cfef_25 : decode cJ2_indexOfCharUnsafe_4cfef 25 = .ok (.goto (-22), 3) := by decide +kernel
theorem dJ2_indexOfCharUnsafe_4cfef_28 : decode cJ2_indexOfCharUnsafe_4cfef 28 = .ok (.iconst (-1), 1) := by decide +kernel
theorem dJ2_indexOfCharUnsafe_4cfef_29 : decode cJ2_indexOfCharUnsafe_4cfef 29 = .ok (.ireturn, 1) := by decide +kernel
theorem dJ2_indexOfSupplementary_4cfef_0 : decode cJ2_indexOfSupplementary_4cfef 0 = .ok (.iload_n 1, 1) := by decide +kernel
theorem dJ2_indexOfSupplementary_4cfef_1 : decode cJ2_indexOfSupplementary_4cfef 1 = .ok (.invokestatic 164, 3) := by decide +kernel
theorem dJ2_indexOfSupplementary_4cfef_4 : decode cJ2_indexOfSupplementary_4cfef 4 = .ok (.ifCond .eq 65, 3) := by decide +kernel
theorem dJ2_indexOfSupplementary_4cfef_7 : decode cJ2_indexOfSupplementary_4cfef 7 = .ok (.iload_n 1, 1) := by decide +kernel
theorem dJ2_indexOfSupplementary_4cfef_8 : decode cJ2_indexOfSupplementary_4cfef 8 = .ok (.invokestatic 157, 3) := by decide +kernel
theorem dJ2_indexOfSupplementary_4cfef_11 : decode cJ2_indexOfSupplementary_4cfef 11 = .ok (.istore 4, 2) := by decide +kernel
theorem dJ2_indexOfSupplementary_4cfef_13 : decode cJ2_indexOfSupplementary_4cfef 13 = .ok (.iload_n 1, 1) := by decide +kernel
theorem dJ2_indexOfSupplementary_4cfef_14 : decode cJ2_indexOfSupplementary_4cfef 14 = .ok (.invokestatic 161, 3) := by decide +kernel
theorem dJ2_indexOfSupplementary_4cfef_17 : decode cJ2_indexOfSupplementary_4cfef 17 = .ok (.istore 5, 2) := by decide +kernel
theorem dJ2_indexOfSupplementary_4cfef_19 : decode cJ2_indexOfSupplementary_4cfef 19 = .ok (.iload_n 2, 1) := by decide +kernel
theorem dJ2_indexOfSupplementary_4cfef_20 : decode cJ2_indexOfSupplementary_4cfef 20 = .ok (.iload_n 3, 1) := by decide +kernel
theorem dJ2_indexOfSupplementary_4cfef_21 : decode cJ2_indexOfSupplementary_4cfef 21 = .ok (.aload_n 0, 1) := by decide +kernel
theorem dJ2_indexOfSupplementary_4cfef_22 : decode cJ2_indexOfSupplementary_4cfef 22 = .ok (.invokestatic 96, 3) := by decide +kernel
theorem dJ2_indexOfSupplementary_4cfef_25 : decode cJ2_indexOfSupplementary_4cfef 25 = .ok (.iload_n 2, 1) := by decide +kernel
theorem dJ2_indexOfSupplementary_4cfef_26 : decode cJ2_indexOfSupplementary_4cfef 26 = .ok (.istore 6, 2) := by decide +kernel
theorem dJ2_indexOfSupplementary_4cfef_28 : decode cJ2_indexOfSupplementary_4cfef 28 = .ok (.iload 6, 2) := by decide +kernel
theorem dJ2_indexOfSupplementary_4cfef_30 : decode cJ2_indexOfSupplementary_4cfef 30 = .ok (.iload_n 3, 1) := by decide +kernel
theorem dJ2_indexOfSupplementary_4cfef_31 : decode cJ2_indexOfSupplementary_4cfef 31 = .ok (.iconst 1, 1) := by decide +kernel
theorem dJ2_indexOfSupplementary_4cfef_32 : decode cJ2_indexOfSupplementary_4cfef 32 = .ok (.isub, 1) := by decide +kernel
theorem dJ2_indexOfSupplementary_4cfef_33 : decode cJ2_indexOfSupplementary_4cfef 33 = .ok (.if_icmp .ge 36, 3) := by decide +kernel
theorem dJ2_indexOfSupplementary_4cfef_36 : decode cJ2_indexOfSupplementary_4cfef 36 = .ok (.aload_n 0, 1) := by decide +kernel
theorem dJ2_indexOfSupplementary_4cfef_37 : decode cJ2_indexOfSupplementary_4cfef 37 = .ok (.iload 6, 2) := by decide +kernel
theorem dJ2_indexOfSupplementary_4cfef_39 : decode cJ2_indexOfSupplementary_4cfef 39 = .ok (.invokestatic 71, 3) := by decide +kernel
theorem dJ2_indexOfSupplementary_4cfef_42 : decode cJ2_indexOfSupplementary_4cfef 42 = .ok (.iload 4, 2) := by decide +kernel
theorem dJ2_indexOfSupplementary_4cfef_44 : decode cJ2_indexOfSupplementary_4cfef 44 = .ok (.if_icmp .ne 19, 3) := by decide +kernel
theorem dJ2_indexOfSupplementary_4cfef_47 : decode cJ2_indexOfSupplementary_4cfef 47 = .ok (.aload_n 0, 1) := by decide +kernel
theorem dJ2_indexOfSupplementary_4cfef_48 : decode cJ2_indexOfSupplementary_4cfef 48 = .ok (.iload 6, 2) := by decide +kernel
theorem dJ2_indexOfSupplementary_4cfef_50 : decode cJ2_indexOfSupplementary_4cfef 50 = .ok (.iconst 1, 1) := by decide +kernel
theorem dJ2_indexOfSupplementary_4cfef_51 : decode cJ2_indexOfSupplementary_4cfef 51 = .ok (.iadd, 1) := by decide +kernel
theorem dJ2_indexOfSupplementary_4cfef_52 : decode cJ2_indexOfSupplementary_4cfef 52 = .ok (.invokestatic 71, 3) := by decide +kernel
theorem dJ2_indexOfSupplementary_4cfef_55 : decode cJ2_indexOfSupplementary_4cfef 55 = .ok (.iload 5, 2) := by decide +kernel
theorem dJ2_indexOfSupplementary_4cfef_57 : decode cJ2_indexOfSupplementary_4cfef 57 = .ok (.if_icmp .ne 6, 3) := by decide +kernel
theorem dJ2_indexOfSupplementary_4cfef_60 : decode cJ2_indexOfSupplementary_4cfef 60 = .ok (.iload 6, 2) := by decide +kernel
theorem dJ2_indexOfSupplementary_4cfef_62 : decode cJ2_indexOfSupplementary_4cfef 62 = .ok (.ireturn, 1) := by decide +kernel
theorem dJ2_indexOfSupplementary_4cfef_63 : decode cJ2_indexOfSupplementary_4cfef 63 = .ok (.iinc 6 1, 3) := by decide +kernel
theorem dJ2_indexOfSupplementary_4cfef_66 : decode cJ2_indexOfSupplementary_4cfef 66 = .ok (.goto (-38), 3) := by decide +kernel
theorem dJ2_indexOfSupplementary_4cfef_69 : decode cJ2_indexOfSupplementary_4cfef 69 = .ok (.iconst (-1), 1) := by decide +kernel
theorem dJ2_indexOfSupplementary_4cfef_70 : decode cJ2_indexOfSupplementary_4cfef 70 = .ok (.ireturn, 1) := by decide +kernel
theorem dJ2_checkBoundsBeginEnd_d044e_0 : decode cJ2_checkBoundsBeginEnd_d044e 0 = .ok (.iload_n 0, 1) := by decide +kernel
theorem dJ2_checkBoundsBeginEnd_d044e_1 : decode cJ2_checkBoundsBeginEnd_d044e 1 = .ok (.iload_n 1, 1) := by decide +kernel
theorem dJ2_checkBoundsBeginEnd_d044e_2 : decode cJ2_checkBoundsBeginEnd_d044e 2 = .ok (.aload_n 2, 1) := by decide +kernel
theorem dJ2_checkBoundsBeginEnd_d044e_3 : decode cJ2_checkBoundsBeginEnd_d044e 3 = .ok (.invokestatic 48, 3) := by decide +kernel
theorem dJ2_checkBoundsBeginEnd_d044e_6 : decode cJ2_checkBoundsBeginEnd_d044e 6 = .ok (.invokestatic 241, 3) := by decide +kernel
theorem dJ2_checkBoundsBeginEnd_d044e_9 : decode cJ2_checkBoundsBeginEnd_d044e 9 = .ok (.return_, 1) := by decide +kernel
theorem dJ3_checkFromToIndex_8c36e_0 : decode cJ3_checkFromToIndex_8c36e 0 = .ok (.iload_n 0, 1) := by decide +kernel
theorem dJ3_checkFromToIndex_8c36e_1 : decode cJ3_checkFromToIndex_8c36e 1 = .ok (.ifCond .lt 13, 3) := by decide +kernel
theorem dJ3_checkFromToIndex_8c36e_4 : decode cJ3_checkFromToIndex_8c36e 4 = .ok (.iload_n 0, 1) := by decide +kernel
theorem dJ3_checkFromToIndex_8c36e_5 : decode cJ3_checkFromToIndex_8c36e 5 = .ok (.iload_n 1, 1) := by decide +kernel
theorem dJ3_checkFromToIndex_8c36e_6 : decode cJ3_checkFromToIndex_8c36e 6 = .ok (.if_icmp .gt 8, 3) := by decide +kernel
theorem dJ3_checkFromToIndex_8c36e_9 : decode cJ3_checkFromToIndex_8c36e 9 = .ok (.iload_n 1, 1) := by decide +kernel
theorem dJ3_checkFromToIndex_8c36e_10 : decode cJ3_checkFromToIndex_8c36e 10 = .ok (.iload_n 2, 1) := by decide +kernel
theorem dJ3_checkFromToIndex_8c36e_11 : decode cJ3_checkFromToIndex_8c36e 11 = .ok (.if_icmp .le 11, 3) := by decide +kernel
theorem dJ3_checkFromToIndex_8c36e_14 : decode cJ3_checkFromToIndex_8c36e 14 = .ok (.aload_n 3, 1) := by decide +kernel
theorem dJ3_checkFromToIndex_8c36e_15 : decode cJ3_checkFromToIndex_8c36e 15 = .ok (.iload_n 0, 1) := by decide +kernel
theorem dJ3_checkFromToIndex_8c36e_16 : decode cJ3_checkFromToIndex_8c36e 16 = .ok (.iload_n 1, 1) := by decide +kernel
theorem dJ3_checkFromToIndex_8c36e_17 : decode cJ3_checkFromToIndex_8c36e 17 = .ok (.iload_n 2, 1) := by decide +kernel
theorem dJ3_checkFromToIndex_8c36e_18 : decode cJ3_checkFromToIndex_8c36e 18 = .ok (.invokestatic 99, 3) := by decide +kernel
theorem dJ3_checkFromToIndex_8c36e_21 : decode cJ3_checkFromToIndex_8c36e 21 = .ok (.athrow, 1) := by decide +kernel
theorem dJ3_checkFromToIndex_8c36e_22 : decode cJ3_checkFromToIndex_8c36e 22 = .ok (.iload_n 0, 1) := by decide +kernel
theorem dJ3_checkFromToIndex_8c36e_23 : decode cJ3_checkFromToIndex_8c36e 23 = .ok (.ireturn, 1) := by decide +kernel
end
section
theorem dX12_init_0 : decode cX12_init 0 = .ok (.aload_n 0, 1) := by decide +kernel
theorem dX12_init_1 : decode cX12_init 1 = .ok (.invokespecial 1, 3) := by decide +kernel
theorem dX12_init_4 : decode cX12_init 4 = .ok (.aload_n 0, 1) := by decide +kernel
theorem dX12_init_5 : decode cX12_init 5 = .ok (.bipush 12, 2) := by decide +kernel
theorem dX12_init_7 : decode cX12_init 7 = .ok (.newarray .int, 2) := by decide +kernel
theorem dX12_init_9 : decode cX12_init 9 = .ok (.putfield 7, 3) := by decide +kernel
theorem dX12_init_12 : decode cX12_init 12 = .ok (.aload_n 0, 1) := by decide +kernel
theorem dX12_init_13 : decode cX12_init 13 = .ok (.iconst 3, 1) := by decide +kernel
theorem dX12_init_14 : decode cX12_init 14 = .ok (.newarray .int, 2) := by decide +kernel
theorem dX12_init_16 : decode cX12_init 16 = .ok (.putfield 13, 3) := by decide +kernel
theorem dX12_init_19 : decode cX12_init 19 = .ok (.aload_n 0, 1) := by decide +kernel
theorem dX12_init_20 : decode cX12_init 20 = .ok (.bipush 36, 2) := by decide +kernel
theorem dX12_init_22 : decode cX12_init 22 = .ok (.newarray .int, 2) := by decide +kernel
theorem dX12_init_24 : decode cX12_init 24 = .ok (.putfield 16, 3) := by decide +kernel
theorem dX12_init_27 : decode cX12_init 27 = .ok (.aload_n 0, 1) := by decide +kernel
theorem dX12_init_28 : decode cX12_init 28 = .ok (.sipush 216, 3) := by decide +kernel
theorem dX12_init_31 : decode cX12_init 31 = .ok (.newarray .int, 2) := by decide +kernel
theorem dX12_init_33 : decode cX12_init 33 = .ok (.putfield 19, 3) := by decide +kernel
theorem dX12_init_36 : decode cX12_init 36 = .ok (.aload_n 0, 1) := by decide +kernel
theorem dX12_init_37 : decode cX12_init 37 = .ok (.bipush 41, 2) := by decide +kernel
theorem dX12_init_39 : decode cX12_init 39 = .ok (.newarray .int, 2) := by decide +kernel
theorem dX12_init_41 : decode cX12_init 41 = .ok (.putfield 22, 3) := by decide +kernel
theorem dX12_init_44 : decode cX12_init 44 = .ok (.aload_n 0, 1) := by decide +kernel
theorem dX12_init_45 : decode cX12_init 45 = .ok (.sipush 4096, 3) := by decide +kernel
theorem dX12_init_48 : decode cX12_init 48 = .ok (.newarray .int, 2) := by decide +kernel
theorem dX12_init_50 : decode cX12_init 50 = .ok (.putfield 25, 3) := by decide +kernel
theorem dX12_init_53 : decode cX12_init 53 = .ok (.aload_n 0, 1) := by decide +kernel
theorem dX12_init_54 : decode cX12_init 54 = .ok (.sipush 4096, 3) := by decide +kernel
theorem dX12_init_57 : decode cX12_init 57 = .ok (.newarray .int, 2) := by decide +kernel
theorem dX12_init_59 : decode cX12_init 59 = .ok (.putfield 28, 3) := by decide +kernel
theorem dX12_init_62 : decode cX12_init 62 = .ok (.aload_n 0, 1) := by decide +kernel
theorem dX12_init_63 : decode cX12_init 63 = .ok (.iconst 3, 1) := by decide +kernel
theorem dX12_init_64 : decode cX12_init 64 = .ok (.newarray .int, 2) := by decide +kernel
theorem dX12_init_66 : decode cX12_init 66 = .ok (.putfield 31, 3) := by decide +kernel
theorem dX12_init_69 : decode cX12_init 69 = .ok (.aload_n 0, 1) := by decide +kernel
theorem dX12_init_70 : decode cX12_init 70 = .ok (.bipush 36, 2) := by decide +kernel
theorem dX12_init_72 : decode cX12_init 72 = .ok (.newarray .int, 2) := by decide +kernel
theorem dX12_init_74 : decode cX12_init 74 = .ok (.putfield 34, 3) := by decide +kernel
theorem dX12_init_77 : decode cX12_init 77 = .ok (.aload_n 0, 1) := by decide +kernel
theorem dX12_init_78 : decode cX12_init 78 = .ok (.iconst (-1), 1) := by decide +kernel
theorem dX12_init_79 : decode cX12_init 79 = .ok (.putfield 37, 3) := by decide +kernel
theorem dX12_init_82 : decode cX12_init 82 = .ok (.aload_n 0, 1) := by decide +kernel
theorem dX12_init_83 : decode cX12_init 83 = .ok (.iconst (-1), 1) := by decide +kernel
theorem dX12_init_84 : decode cX12_init 84 = .ok (.putfield 41, 3) := by decide +kernel
theorem dX12_init_87 : decode cX12_init 87 = .ok (.return_, 1) := by decide +kernel
theorem dX12_in_0 : decode cX12_in 0 = .ok (.lload_n 0, 1) := by decide +kernel
theorem dX12_in_1 : decode cX12_in 1 = .ok (.lload_n 2, 1) := by decide +kernel
theorem dX12_in_2 : decode cX12_in 2 = .ok (.lcmp, 1) := by decide +kernel
theorem dX12_in_3 : decode cX12_in 3 = .ok (.ifCond .lt 14, 3) := by decide +kernel
theorem dX12_in_6 : decode cX12_in 6 = .ok (.lload_n 0, 1) := by decide +kernel
theorem dX12_in_7 : decode cX12_in 7 = .ok (.lload 4, 2) := by decide +kernel
theorem dX12_in_9 : decode cX12_in 9 = .ok (.lcmp, 1) := by decide +kernel
theorem dX12_in_10 : decode cX12_in 10 = .ok (.ifCond .gt 7, 3) := by decide +kernel
theorem dX12_in_13 : decode cX12_in 13 = .ok (.iconst 1, 1) := by decide +kernel
theorem dX12_in_14 : decode cX12_in 14 = .ok (.goto 4, 3) := by decide +kernel
theorem dX12_in_17 : decode cX12_in 17 = .ok (.iconst 0, 1) := by decide +kernel
theorem dX12_in_18 : decode cX12_in 18 = .ok (.ireturn, 1) := by decide +kernel
theorem dX12_copy_0 : decode cX12_copy 0 = .ok (.iconst 0, 1) := by decide +kernel
theorem dX12_copy_1 : decode cX12_copy 1 = .ok (.istore_n 2, 1) := by decide +kernel
theorem dX12_copy_2 : decode cX12_copy 2 = .ok (.iload_n 2, 1) := by decide +kernel
theorem dX12_copy_3 : decode cX12_copy 3 = .ok (.aload_n 0, 1) := by decide +kernel
theorem dX12_copy_4 : decode cX12_copy 4 = .ok (.arraylength, 1) := by decide +kernel
theorem dX12_copy_5 : decode cX12_copy 5 = .ok (.if_icmp .ge 15, 3) := by decide +kernel
theorem dX12_copy_8 : decode cX12_copy 8 = .ok (.aload_n 1, 1) := by decide +kernel
theorem dX12_copy_9 : decode cX12_copy 9 = .ok (.iload_n 2, 1) := by decide +kernel
theorem dX12_copy_10 : decode cX12_copy 10 = .ok (.aload_n 0, 1) := by decide +kernel
theorem dX12_copy_11 : decode cX12_copy 11 = .ok (.iload_n 2, 1) := by decide +kernel
theorem dX12_copy_12 : decode cX12_copy 12 = .ok (.iaload, 1) := by decide +kernel
theorem dX12_copy_13 : decode cX12_copy 13 = .ok (.iastore, 1) := by decide +kernel
theorem dX12_copy_14 : decode cX12_copy 14 = .ok (.iinc 2 1, 3) := by decide +kernel
theorem dX12_copy_17 : decode cX12_copy 17 = .ok (.goto (-15), 3) := by decide +kernel
theorem dX12_copy_20 : decode cX12_copy 20 = .ok (.return_, 1) := by decide +kernel
theorem dX12_letter_0 : decode cX12_letter 0 = .ok (.iload_n 1, 1) := by decide +kernel
theorem dX12_letter_1 : decode cX12_letter 1 = .ok (.i2l, 1) := by decide +kernel
theorem dX12_letter_2 : decode cX12_letter 2 = .ok (.lconst 1, 1) := by decide +kernel
theorem dX12_letter_3 : decode cX12_letter 3 = .ok (.ldc2_w 44, 3) := by decide +kernel
theorem dX12_letter_6 : decode cX12_letter 6 = .ok (.invokestatic 46, 3) := by decide +kernel
theorem dX12_letter_9 : decode cX12_letter 9 = .ok (.ifCond .ne 6, 3) := by decide +kernel
theorem dX12_letter_12 : decode cX12_letter 12 = .ok (.bipush (-102), 2) := by decide +kernel
theorem dX12_letter_14 : decode cX12_letter 14 = .ok (.ireturn, 1) := by decide +kernel
theorem dX12_letter_15 : decode cX12_letter 15 = .ok (.aload_n 0, 1) := by decide +kernel
theorem dX12_letter_16 : decode cX12_letter 16 = .ok (.getfield 50, 3) := by decide +kernel
theorem dX12_letter_19 : decode cX12_letter 19 = .ok (.bipush 12, 2) := by decide +kernel
theorem dX12_letter_21 : decode cX12_letter 21 = .ok (.if_icmp .ne 6, 3) := by decide +kernel
theorem dX12_letter_24 : decode cX12_letter 24 = .ok (.bipush (-104), 2) := by decide +kernel
theorem dX12_letter_26 : decode cX12_letter 26 = .ok (.ireturn, 1) := by decide +kernel
theorem dX12_letter_27 : decode cX12_letter 27 = .ok (.aload_n 0, 1) := by decide +kernel
theorem dX12_letter_28 : decode cX12_letter 28 = .ok (.getfield 7, 3) := by decide +kernel
theorem dX12_letter_31 : decode cX12_letter 31 = .ok (.aload_n 0, 1) := by decide +kernel
theorem dX12_letter_32 : decode cX12_letter 32 = .ok (.getfield 50, 3) := by decide +kernel
theorem dX12_letter_35 : decode cX12_letter 35 = .ok (.iload_n 1, 1) := by decide +kernel
theorem dX12_letter_36 : decode cX12_letter 36 = .ok (.iastore, 1) := by decide +kernel
theorem dX12_letter_37 : decode cX12_letter 37 = .ok (.aload_n 0, 1) := by decide +kernel
theorem dX12_letter_38 : decode cX12_letter 38 = .ok (.dup, 1) := by decide +kernel
theorem dX12_letter_39 : decode cX12_letter 39 = .ok (.getfield 50, 3) := by decide +kernel
theorem dX12_letter_42 : decode cX12_letter 42 = .ok (.iconst 1, 1) := by decide +kernel
theorem dX12_letter_43 : decode cX12_letter 43 = .ok (.iadd, 1) := by decide +kernel
theorem dX12_letter_44 : decode cX12_letter 44 = .ok (.putfield 50, 3) := by decide +kernel
theorem dX12_letter_47 : decode cX12_letter 47 = .ok (.aload_n 0, 1) := by decide +kernel
theorem dX12_letter_48 : decode cX12_letter 48 = .ok (.getfield 50, 3) := by decide +kernel
theorem dX12_letter_51 : decode cX12_letter 51 = .ok (.ireturn, 1) := by decide +kernel
theorem dX12_blank_0 : decode cX12_blank 0 = .ok (.aload_n 0, 1) := by decide +kernel
theorem dX12_blank_1 : decode cX12_blank 1 = .ok (.getfield 50, 3) := by decide +kernel
theorem dX12_blank_4 : decode cX12_blank 4 = .ok (.istore_n 1, 1) := by decide +kernel
theorem dX12_blank_5 : decode cX12_blank 5 = .ok (.aload_n 0, 1) := by decide +kernel
theorem dX12_blank_6 : decode cX12_blank 6 = .ok (.iconst 0, 1) := by decide +kernel
theorem dX12_blank_7 : decode cX12_blank 7 = .ok (.putfield 50, 3) := by decide +kernel
theorem dX12_blank_10 : decode cX12_blank 10 = .ok (.iload_n 1, 1) := by decide +kernel
theorem dX12_blank_11 : decode cX12_blank 11 = .ok (.ireturn, 1) := by decide +kernel
theorem dX12_kindBy_0 : decode cX12_kindBy 0 = .ok (.iload_n 0, 1) := by decide +kernel
theorem dX12_kindBy_1 : decode cX12_kindBy 1 = .ok (.lookupswitch 61 #[(99, 59), (106, 51), (115, 53), (116, 55), (119, 57)], 51) := by decide +kernel
theorem dX12_kindBy_52 : decode cX12_kindBy 52 = .ok (.iconst 0, 1) := by decide +kernel
theorem dX12_kindBy_53 : decode cX12_kindBy 53 = .ok (.ireturn, 1) := by decide +kernel
theorem dX12_kindBy_54 : decode cX12_kindBy 54 = .ok (.iconst 1, 1) := by decide +kernel
theorem dX12_kindBy_55 : decode cX12_kindBy 55 = .ok (.ireturn, 1) := by decide +kernel
theorem dX12_kindBy_56 : decode cX12_kindBy 56 = .ok (.iconst 2, 1) := by decide +kernel
theorem dX12_kindBy_57 : decode cX12_kindBy 57 = .ok (.ireturn, 1) := by decide +kernel
theorem dX12_kindBy_58 : decode cX12_kindBy 58 = .ok (.iconst 3, 1) := by decide +kernel
theorem dX12_kindBy_59 : decode cX12_kindBy 59 = .ok (.ireturn, 1) := by decide +kernel
theorem dX12_kindBy_60 : decode cX12_kindBy 60 = .ok (.iconst 4, 1) := by decide +kernel
theorem dX12_kindBy_61 : decode cX12_kindBy 61 = .ok (.ireturn, 1) := by decide +kernel
theorem dX12_kindBy_62 : decode cX12_kindBy 62 = .ok (.iconst (-1), 1) := by decide +kernel
theorem dX12_kindBy_63 : decode cX12_kindBy 63 = .ok (.ireturn, 1) := by decide +kernel
theorem dX12_isJudgeLetter_0 : decode cX12_isJudgeLetter 0 = .ok (.aload_n 0, 1) := by decide +kernel
theorem dX12_isJudgeLetter_1 : decode cX12_isJudgeLetter 1 = .ok (.getfield 7, 3) := by decide +kernel
theorem dX12_isJudgeLetter_4 : decode cX12_isJudgeLetter 4 = .ok (.iload_n 1, 1) := by decide +kernel
theorem dX12_isJudgeLetter_5 : decode cX12_isJudgeLetter 5 = .ok (.iaload, 1) := by decide +kernel
theorem dX12_isJudgeLetter_6 : decode cX12_isJudgeLetter 6 = .ok (.istore_n 2, 1) := by decide +kernel
theorem dX12_isJudgeLetter_7 : decode cX12_isJudgeLetter 7 = .ok (.iload_n 2, 1) := by decide +kernel
theorem dX12_isJudgeLetter_8 : decode cX12_isJudgeLetter 8 = .ok (.bipush 59, 2) := by decide +kernel
theorem dX12_isJudgeLetter_10 : decode cX12_isJudgeLetter 10 = .ok (.if_icmp .ne 15, 3) := by decide +kernel
theorem dX12_isJudgeLetter_13 : decode cX12_isJudgeLetter 13 = .ok (.iload_n 1, 1) := by decide +kernel
theorem dX12_isJudgeLetter_14 : decode cX12_isJudgeLetter 14 = .ok (.iconst 3, 1) := by decide +kernel
theorem dX12_isJudgeLetter_15 : decode cX12_isJudgeLetter 15 = .ok (.if_icmp .le 10, 3) := by decide +kernel
theorem dX12_isJudgeLetter_18 : decode cX12_isJudgeLetter 18 = .ok (.aload_n 0, 1) := by decide +kernel
theorem dX12_isJudgeLetter_19 : decode cX12_isJudgeLetter 19 = .ok (.iload_n 1, 1) := by decide +kernel
theorem dX12_isJudgeLetter_20 : decode cX12_isJudgeLetter 20 = .ok (.putfield 53, 3) := by decide +kernel
theorem dX12_isJudgeLetter_23 : decode cX12_isJudgeLetter 23 = .ok (.iconst 1, 1) := by decide +kernel
theorem dX12_isJudgeLetter_24 : decode cX12_isJudgeLetter 24 = .ok (.ireturn, 1) := by decide +kernel
theorem dX12_isJudgeLetter_25 : decode cX12_isJudgeLetter 25 = .ok (.iload_n 2, 1) := by decide +kernel
theorem dX12_isJudgeLetter_26 : decode cX12_isJudgeLetter 26 = .ok (.invokestatic 56, 3) := by decide +kernel
theorem dX12_isJudgeLetter_29 : decode cX12_isJudgeLetter 29 = .ok (.iconst (-1), 1) := by decide +kernel
theorem dX12_isJudgeLetter_30 : decode cX12_isJudgeLetter 30 = .ok (.if_icmp .eq 13, 3) := by decide +kernel
theorem dX12_isJudgeLetter_33 : decode cX12_isJudgeLetter 33 = .ok (.iload_n 1, 1) := by decide +kernel
theorem dX12_isJudgeLetter_34 : decode cX12_isJudgeLetter 34 = .ok (.bipush 6, 2) := by decide +kernel
theorem dX12_isJudgeLetter_36 : decode cX12_isJudgeLetter 36 = .ok (.if_icmp .ge 7, 3) := by decide +kernel
theorem dX12_isJudgeLetter_39 : decode cX12_isJudgeLetter 39 = .ok (.iconst 1, 1) := by decide +kernel
theorem dX12_isJudgeLetter_40 : decode cX12_isJudgeLetter 40 = .ok (.goto 4, 3) := by decide +kernel
theorem dX12_isJudgeLetter_43 : decode cX12_isJudgeLetter 43 = .ok (.iconst 0, 1) := by decide +kernel
theorem dX12_isJudgeLetter_44 : decode cX12_isJudgeLetter 44 = .ok (.ireturn, 1) := by decide +kernel
theorem dX12_isGood_0 : decode cX12_isGood 0 = .ok (.aload_n 0, 1) := by decide +kernel
theorem dX12_isGood_1 : decode cX12_isGood 1 = .ok (.getfield 7, 3) := by decide +kernel
theorem dX12_isGood_4 : decode cX12_isGood 4 = .ok (.iload_n 1, 1) := by decide +kernel
theorem dX12_isGood_5 : decode cX12_isGood 5 = .ok (.iaload, 1) := by decide +kernel
theorem dX12_isGood_6 : decode cX12_isGood 6 = .ok (.istore_n 2, 1) := by decide +kernel
theorem dX12_isGood_7 : decode cX12_isGood 7 = .ok (.iload_n 1, 1) := by decide +kernel
theorem dX12_isGood_8 : decode cX12_isGood 8 = .ok (.tableswitch 64 0 2 #[28, 40, 52], 28) := by decide +kernel
theorem dX12_isGood_36 : decode cX12_isGood 36 = .ok (.iload_n 2, 1) := by decide +kernel
theorem dX12_isGood_37 : decode cX12_isGood 37 = .ok (.i2l, 1) := by decide +kernel
theorem dX12_isGood_38 : decode cX12_isGood 38 = .ok (.ldc2_w 60, 3) := by decide +kernel
theorem dX12_isGood_41 : decode cX12_isGood 41 = .ok (.ldc2_w 62, 3) := by decide +kernel
theorem dX12_isGood_44 : decode cX12_isGood 44 = .ok (.invokestatic 46, 3) := by decide +kernel
theorem dX12_isGood_47 : decode cX12_isGood 47 = .ok (.ireturn, 1) := by decide +kernel
theorem dX12_isGood_48 : decode cX12_isGood 48 = .ok (.iload_n 2, 1) := by decide +kernel
theorem dX12_isGood_49 : decode cX12_isGood 49 = .ok (.i2l, 1) := by decide +kernel
theorem dX12_isGood_50 : decode cX12_isGood 50 = .ok (.ldc2_w 64, 3) := by decide +kernel
theorem dX12_isGood_53 : decode cX12_isGood 53 = .ok (.ldc2_w 66, 3) := by decide +kernel
theorem dX12_isGood_56 : decode cX12_isGood 56 = .ok (.invokestatic 46, 3) := by decide +kernel
theorem dX12_isGood_59 : decode cX12_isGood 59 = .ok (.ireturn, 1) := by decide +kernel
theorem dX12_isGood_60 : decode cX12_isGood 60 = .ok (.iload_n 2, 1) := by decide +kernel
theorem dX12_isGood_61 : decode cX12_isGood 61 = .ok (.bipush 59, 2) := by decide +kernel
theorem dX12_isGood_63 : decode cX12_isGood 63 = .ok (.if_icmp .ne 7, 3) := by decide +kernel
theorem dX12_isGood_66 : decode cX12_isGood 66 = .ok (.iconst 1, 1) := by decide +kernel
theorem dX12_isGood_67 : decode cX12_isGood 67 = .ok (.goto 4, 3) := by decide +kernel
theorem dX12_isGood_70 : decode cX12_isGood 70 = .ok (.iconst 0, 1) := by decide +kernel
theorem dX12_isGood_71 : decode cX12_isGood 71 = .ok (.ireturn, 1) := by decide +kernel
theorem dX12_isGood_72 : decode cX12_isGood 72 = .ok (.aload_n 0, 1) := by decide +kernel
theorem dX12_isGood_73 : decode cX12_isGood 73 = .ok (.getfield 53, 3) := by decide +kernel
theorem dX12_isGood_76 : decode cX12_isGood 76 = .ok (.ifCond .ne 9, 3) := by decide +kernel
theorem dX12_isGood_79 : decode cX12_isGood 79 = .ok (.aload_n 0, 1) := by decide +kernel
theorem dX12_isGood_80 : decode cX12_isGood 80 = .ok (.iload_n 1, 1) := by decide +kernel
theorem dX12_isGood_81 : decode cX12_isGood 81 = .ok (.invokevirtual 68, 3) := by decide +kernel
theorem dX12_isGood_84 : decode cX12_isGood 84 = .ok (.ireturn, 1) := by decide +kernel
theorem dX12_isGood_85 : decode cX12_isGood 85 = .ok (.iload_n 1, 1) := by decide +kernel
theorem dX12_isGood_86 : decode cX12_isGood 86 = .ok (.aload_n 0, 1) := by decide +kernel
theorem dX12_isGood_87 : decode cX12_isGood 87 = .ok (.getfield 53, 3) := by decide +kernel
theorem dX12_isGood_90 : decode cX12_isGood 90 = .ok (.isub, 1) := by decide +kernel
theorem dX12_isGood_91 : decode cX12_isGood 91 = .ok (.aload_n 0, 1) := by decide +kernel
theorem dX12_isGood_92 : decode cX12_isGood 92 = .ok (.getfield 7, 3) := by decide +kernel
theorem dX12_isGood_95 : decode cX12_isGood 95 = .ok (.iconst 0, 1) := by decide +kernel
theorem dX12_isGood_96 : decode cX12_isGood 96 = .ok (.iaload, 1) := by decide +kernel
theorem dX12_isGood_97 : decode cX12_isGood 97 = .ok (.bipush 48, 2) := by decide +kernel
theorem dX12_isGood_99 : decode cX12_isGood 99 = .ok (.isub, 1) := by decide +kernel
theorem dX12_isGood_100 : decode cX12_isGood 100 = .ok (.if_icmp .gt 31, 3) := by decide +kernel
theorem dX12_isGood_103 : decode cX12_isGood 103 = .ok (.iload_n 2, 1) := by decide +kernel
theorem dX12_isGood_104 : decode cX12_isGood 104 = .ok (.i2l, 1) := by decide +kernel
theorem dX12_isGood_105 : decode cX12_isGood 105 = .ok (.ldc2_w 72, 3) := by decide +kernel
theorem dX12_isGood_108 : decode cX12_isGood 108 = .ok (.bipush 97, 2) := by decide +kernel
theorem dX12_isGood_110 : decode cX12_isGood 110 = .ok (.aload_n 0, 1) := by decide +kernel
theorem dX12_isGood_111 : decode cX12_isGood 111 = .ok (.getfield 7, 3) := by decide +kernel
theorem dX12_isGood_114 : decode cX12_isGood 114 = .ok (.iconst 1, 1) := by decide +kernel
theorem dX12_isGood_115 : decode cX12_isGood 115 = .ok (.iaload, 1) := by decide +kernel
theorem dX12_isGood_116 : decode cX12_isGood 116 = .ok (.iadd, 1) := by decide +kernel
theorem dX12_isGood_117 : decode cX12_isGood 117 = .ok (.bipush 49, 2) := by decide +kernel
theorem dX12_isGood_119 : decode cX12_isGood 119 = .ok (.isub, 1) := by decide +kernel
theorem dX12_isGood_120 : decode cX12_isGood 120 = .ok (.i2l, 1) := by decide +kernel
theorem dX12_isGood_121 : decode cX12_isGood 121 = .ok (.invokestatic 46, 3) := by decide +kernel
theorem dX12_isGood_124 : decode cX12_isGood 124 = .ok (.ifCond .eq 7, 3) := by decide +kernel
theorem dX12_isGood_127 : decode cX12_isGood 127 = .ok (.iconst 1, 1) := by decide +kernel
theorem dX12_isGood_128 : decode cX12_isGood 128 = .ok (.goto 4, 3) := by decide +kernel
theorem dX12_isGood_131 : decode cX12_isGood 131 = .ok (.iconst 0, 1) := by decide +kernel
theorem dX12_isGood_132 : decode cX12_isGood 132 = .ok (.ireturn, 1) := by decide +kernel
theorem dX12_faultOf_0 : decode cX12_faultOf 0 = .ok (.aload_n 0, 1) := by decide +kernel
theorem dX12_faultOf_1 : decode cX12_faultOf 1 = .ok (.iconst 0, 1) := by decide +kernel
theorem dX12_faultOf_2 : decode cX12_faultOf 2 = .ok (.putfield 53, 3) := by decide +kernel
theorem dX12_faultOf_5 : decode cX12_faultOf 5 = .ok (.iconst 0, 1) := by decide +kernel
theorem dX12_faultOf_6 : decode cX12_faultOf 6 = .ok (.istore_n 1, 1) := by decide +kernel
theorem dX12_faultOf_7 : decode cX12_faultOf 7 = .ok (.iload_n 1, 1) := by decide +kernel
theorem dX12_faultOf_8 : decode cX12_faultOf 8 = .ok (.aload_n 0, 1) := by decide +kernel
theorem dX12_faultOf_9 : decode cX12_faultOf 9 = .ok (.getfield 50, 3) := by decide +kernel
theorem dX12_faultOf_12 : decode cX12_faultOf 12 = .ok (.if_icmp .ge 17, 3) := by decide +kernel
theorem dX12_faultOf_15 : decode cX12_faultOf 15 = .ok (.aload_n 0, 1) := by decide +kernel
theorem dX12_faultOf_16 : decode cX12_faultOf 16 = .ok (.iload_n 1, 1) := by decide +kernel
theorem dX12_faultOf_17 : decode cX12_faultOf 17 = .ok (.invokevirtual 74, 3) := by decide +kernel
theorem dX12_faultOf_20 : decode cX12_faultOf 20 = .ok (.ifCond .eq 9, 3) := by decide +kernel
theorem dX12_faultOf_23 : decode cX12_faultOf 23 = .ok (.iinc 1 1, 3) := by decide +kernel
theorem dX12_faultOf_26 : decode cX12_faultOf 26 = .ok (.goto (-19), 3) := by decide +kernel
theorem dX12_faultOf_29 : decode cX12_faultOf 29 = .ok (.iload_n 1, 1) := by decide +kernel
theorem dX12_faultOf_30 : decode cX12_faultOf 30 = .ok (.ireturn, 1) := by decide +kernel
theorem dX12_fault_0 : decode cX12_fault 0 = .ok (.aload_n 0, 1) := by decide +kernel
theorem dX12_fault_1 : decode cX12_fault 1 = .ok (.invokevirtual 77, 3) := by decide +kernel
theorem dX12_fault_4 : decode cX12_fault 4 = .ok (.ireturn, 1) := by decide +kernel
theorem dX12_game_0 : decode cX12_game 0 = .ok (.aload_n 0, 1) := by decide +kernel
theorem dX12_game_1 : decode cX12_game 1 = .ok (.invokevirtual 77, 3) := by decide +kernel
theorem dX12_game_4 : decode cX12_game 4 = .ok (.aload_n 0, 1) := by decide +kernel
theorem dX12_game_5 : decode cX12_game 5 = .ok (.getfield 50, 3) := by decide +kernel
theorem dX12_game_8 : decode cX12_game 8 = .ok (.if_icmp .lt 33, 3) := by decide +kernel
theorem dX12_game_11 : decode cX12_game 11 = .ok (.aload_n 0, 1) := by decide +kernel
theorem dX12_game_12 : decode cX12_game 12 = .ok (.getfield 53, 3) := by decide +kernel
theorem dX12_game_15 : decode cX12_game 15 = .ok (.ifCond .eq 26, 3) := by decide +kernel
theorem dX12_game_18 : decode cX12_game 18 = .ok (.aload_n 0, 1) := by decide +kernel
theorem dX12_game_19 : decode cX12_game 19 = .ok (.getfield 50, 3) := by decide +kernel
theorem dX12_game_22 : decode cX12_game 22 = .ok (.aload_n 0, 1) := by decide +kernel
theorem dX12_game_23 : decode cX12_game 23 = .ok (.getfield 53, 3) := by decide +kernel
theorem dX12_game_26 : decode cX12_game 26 = .ok (.isub, 1) := by decide +kernel
theorem dX12_game_27 : decode cX12_game 27 = .ok (.iconst 1, 1) := by decide +kernel
theorem dX12_game_28 : decode cX12_game 28 = .ok (.isub, 1) := by decide +kernel
theorem dX12_game_29 : decode cX12_game 29 = .ok (.aload_n 0, 1) := by decide +kernel
theorem dX12_game_30 : decode cX12_game 30 = .ok (.getfield 7, 3) := by decide +kernel
theorem dX12_game_33 : decode cX12_game 33 = .ok (.iconst 0, 1) := by decide +kernel
theorem dX12_game_34 : decode cX12_game 34 = .ok (.iaload, 1) := by decide +kernel
theorem dX12_game_35 : decode cX12_game 35 = .ok (.bipush 48, 2) := by decide +kernel
theorem dX12_game_37 : decode cX12_game 37 = .ok (.isub, 1) := by decide +kernel
theorem dX12_game_38 : decode cX12_game 38 = .ok (.if_icmp .eq 6, 3) := by decide +kernel
theorem dX12_game_41 : decode cX12_game 41 = .ok (.bipush (-103), 2) := by decide +kernel
theorem dX12_game_43 : decode cX12_game 43 = .ok (.ireturn, 1) := by decide +kernel
theorem dX12_game_44 : decode cX12_game 44 = .ok (.aload_n 0, 1) := by decide +kernel
theorem dX12_game_45 : decode cX12_game 45 = .ok (.aload_n 0, 1) := by decide +kernel
theorem dX12_game_46 : decode cX12_game 46 = .ok (.getfield 7, 3) := by decide +kernel
theorem dX12_game_49 : decode cX12_game 49 = .ok (.iconst 0, 1) := by decide +kernel
theorem dX12_game_50 : decode cX12_game 50 = .ok (.iaload, 1) := by decide +kernel
theorem dX12_game_51 : decode cX12_game 51 = .ok (.bipush 48, 2) := by decide +kernel
theorem dX12_game_53 : decode cX12_game 53 = .ok (.isub, 1) := by decide +kernel
theorem dX12_game_54 : decode cX12_game 54 = .ok (.putfield 81, 3) := by decide +kernel
theorem dX12_game_57 : decode cX12_game 57 = .ok (.aload_n 0, 1) := by decide +kernel
theorem dX12_game_58 : decode cX12_game 58 = .ok (.aload_n 0, 1) := by decide +kernel
theorem dX12_game_59 : decode cX12_game 59 = .ok (.getfield 7, 3) := by decide +kernel
theorem dX12_game_62 : decode cX12_game 62 = .ok (.iconst 1, 1) := by decide +kernel
theorem dX12_game_63 : decode cX12_game 63 = .ok (.iaload, 1) := by decide +kernel
theorem dX12_game_64 : decode cX12_game 64 = .ok (.bipush 48, 2) := by decide +kernel
theorem dX12_game_66 : decode cX12_game 66 = .ok (.isub, 1) := by decide +kernel
theorem dX12_game_67 : decode cX12_game 67 = .ok (.putfield 84, 3) := by decide +kernel
theorem dX12_game_70 : decode cX12_game 70 = .ok (.aload_n 0, 1) := by decide +kernel
theorem dX12_game_71 : decode cX12_game 71 = .ok (.aload_n 0, 1) := by decide +kernel
theorem dX12_game_72 : decode cX12_game 72 = .ok (.getfield 53, 3) := by decide +kernel
theorem dX12_game_75 : decode cX12_game 75 = .ok (.iconst 3, 1) := by decide +kernel
theorem dX12_game_76 : decode cX12_game 76 = .ok (.isub, 1) := by decide +kernel
theorem dX12_game_77 : decode cX12_game 77 = .ok (.putfield 87, 3) := by decide +kernel
theorem dX12_game_80 : decode cX12_game 80 = .ok (.aload_n 0, 1) := by decide +kernel
theorem dX12_game_81 : decode cX12_game 81 = .ok (.iconst 1, 1) := by decide +kernel
theorem dX12_game_82 : decode cX12_game 82 = .ok (.putfield 90, 3) := by decide +kernel
theorem dX12_game_85 : decode cX12_game 85 = .ok (.aload_n 0, 1) := by decide +kernel
theorem dX12_game_86 : decode cX12_game 86 = .ok (.iconst 0, 1) := by decide +kernel
theorem dX12_game_87 : decode cX12_game 87 = .ok (.putfield 41, 3) := by decide +kernel
theorem dX12_game_90 : decode cX12_game 90 = .ok (.iconst 0, 1) := by decide +kernel
theorem dX12_game_91 : decode cX12_game 91 = .ok (.istore_n 1, 1) := by decide +kernel
theorem dX12_game_92 : decode cX12_game 92 = .ok (.iload_n 1, 1) := by decide +kernel
theorem dX12_game_93 : decode cX12_game 93 = .ok (.aload_n 0, 1) := by decide +kernel
theorem dX12_game_94 : decode cX12_game 94 = .ok (.getfield 81, 3) := by decide +kernel
theorem dX12_game_97 : decode cX12_game 97 = .ok (.if_icmp .ge 52, 3) := by decide +kernel
theorem dX12_game_100 : decode cX12_game 100 = .ok (.aload_n 0, 1) := by decide +kernel
theorem dX12_game_101 : decode cX12_game 101 = .ok (.dup, 1) := by decide +kernel
theorem dX12_game_102 : decode cX12_game 102 = .ok (.getfield 90, 3) := by decide +kernel
theorem dX12_game_105 : decode cX12_game 105 = .ok (.aload_n 0, 1) := by decide +kernel
theorem dX12_game_106 : decode cX12_game 106 = .ok (.getfield 84, 3) := by decide +kernel
theorem dX12_game_109 : decode cX12_game 109 = .ok (.imul, 1) := by decide +kernel
theorem dX12_game_110 : decode cX12_game 110 = .ok (.putfield 90, 3) := by decide +kernel
theorem dX12_game_113 : decode cX12_game 113 = .ok (.aload_n 0, 1) := by decide +kernel
theorem dX12_game_114 : decode cX12_game 114 = .ok (.aload_n 0, 1) := by decide +kernel
theorem dX12_game_115 : decode cX12_game 115 = .ok (.getfield 41, 3) := by decide +kernel
theorem dX12_game_118 : decode cX12_game 118 = .ok (.aload_n 0, 1) := by decide +kernel
theorem dX12_game_119 : decode cX12_game 119 = .ok (.getfield 84, 3) := by decide +kernel
theorem dX12_game_122 : decode cX12_game 122 = .ok (.imul, 1) := by decide +kernel
theorem dX12_game_123 : decode cX12_game 123 = .ok (.aload_n 0, 1) := by decide +kernel
theorem dX12_game_124 : decode cX12_game 124 = .ok (.getfield 7, 3) := by decide +kernel
theorem dX12_game_127 : decode cX12_game 127 = .ok (.aload_n 0, 1) := by decide +kernel
theorem dX12_game_128 : decode cX12_game 128 = .ok (.getfield 53, 3) := by decide +kernel
theorem dX12_game_131 : decode cX12_game 131 = .ok (.iconst 1, 1) := by decide +kernel
theorem dX12_game_132 : decode cX12_game 132 = .ok (.iadd, 1) := by decide +kernel
theorem dX12_game_133 : decode cX12_game 133 = .ok (.iload_n 1, 1) := by decide +kernel
theorem dX12_game_134 : decode cX12_game 134 = .ok (.iadd, 1) := by decide +kernel
theorem dX12_game_135 : decode cX12_game 135 = .ok (.iaload, 1) := by decide +kernel
theorem dX12_game_136 : decode cX12_game 136 = .ok (.iadd, 1) := by decide +kernel
theorem dX12_game_137 : decode cX12_game 137 = .ok (.bipush 97, 2) := by decide +kernel
theorem dX12_game_139 : decode cX12_game 139 = .ok (.isub, 1) := by decide +kernel
theorem dX12_game_140 : decode cX12_game 140 = .ok (.putfield 41, 3) := by decide +kernel
theorem dX12_game_143 : decode cX12_game 143 = .ok (.iinc 1 1, 3) := by decide +kernel
theorem dX12_game_146 : decode cX12_game 146 = .ok (.goto (-54), 3) := by decide +kernel
theorem dX12_game_149 : decode cX12_game 149 = .ok (.iconst 0, 1) := by decide +kernel
theorem dX12_game_150 : decode cX12_game 150 = .ok (.istore_n 1, 1) := by decide +kernel
theorem dX12_game_151 : decode cX12_game 151 = .ok (.iload_n 1, 1) := by decide +kernel
theorem dX12_game_152 : decode cX12_game 152 = .ok (.aload_n 0, 1) := by decide +kernel
theorem dX12_game_153 : decode cX12_game 153 = .ok (.getfield 87, 3) := by decide +kernel
theorem dX12_game_156 : decode cX12_game 156 = .ok (.if_icmp .ge 26, 3) := by decide +kernel
theorem dX12_game_159 : decode cX12_game 159 = .ok (.aload_n 0, 1) := by decide +kernel
theorem dX12_game_160 : decode cX12_game 160 = .ok (.getfield 13, 3) := by decide +kernel
theorem dX12_game_163 : decode cX12_game 163 = .ok (.iload_n 1, 1) := by decide +kernel
theorem dX12_game_164 : decode cX12_game 164 = .ok (.aload_n 0, 1) := by decide +kernel
theorem dX12_game_165 : decode cX12_game 165 = .ok (.getfield 7, 3) := by decide +kernel
theorem dX12_game_168 : decode cX12_game 168 = .ok (.iconst 3, 1) := by decide +kernel
theorem dX12_game_169 : decode cX12_game 169 = .ok (.iload_n 1, 1) := by decide +kernel
theorem dX12_game_170 : decode cX12_game 170 = .ok (.iadd, 1) := by decide +kernel
theorem dX12_game_171 : decode cX12_game 171 = .ok (.iaload, 1) := by decide +kernel
theorem dX12_game_172 : decode cX12_game 172 = .ok (.invokestatic 56, 3) := by decide +kernel
theorem dX12_game_175 : decode cX12_game 175 = .ok (.iastore, 1) := by decide +kernel
theorem dX12_game_176 : decode cX12_game 176 = .ok (.iinc 1 1, 3) := by decide +kernel
theorem dX12_game_179 : decode cX12_game 179 = .ok (.goto (-28), 3) := by decide +kernel
theorem dX12_game_182 : decode cX12_game 182 = .ok (.aload_n 0, 1) := by decide +kernel
theorem dX12_game_183 : decode cX12_game 183 = .ok (.iconst 0, 1) := by decide +kernel
theorem dX12_game_184 : decode cX12_game 184 = .ok (.putfield 93, 3) := by decide +kernel
theorem dX12_game_187 : decode cX12_game 187 = .ok (.aload_n 0, 1) := by decide +kernel
theorem dX12_game_188 : decode cX12_game 188 = .ok (.dup, 1) := by decide +kernel
theorem dX12_game_189 : decode cX12_game 189 = .ok (.getfield 96, 3) := by decide +kernel
theorem dX12_game_192 : decode cX12_game 192 = .ok (.iconst 1, 1) := by decide +kernel
theorem dX12_game_193 : decode cX12_game 193 = .ok (.iadd, 1) := by decide +kernel
theorem dX12_game_194 : decode cX12_game 194 = .ok (.putfield 96, 3) := by decide +kernel
theorem dX12_game_197 : decode cX12_game 197 = .ok (.aload_n 0, 1) := by decide +kernel
theorem dX12_game_198 : decode cX12_game 198 = .ok (.iconst 0, 1) := by decide +kernel
theorem dX12_game_199 : decode cX12_game 199 = .ok (.putfield 50, 3) := by decide +kernel
theorem dX12_game_202 : decode cX12_game 202 = .ok (.aload_n 0, 1) := by decide +kernel
theorem dX12_game_203 : decode cX12_game 203 = .ok (.getfield 90, 3) := by decide +kernel
theorem dX12_game_206 : decode cX12_game 206 = .ok (.ireturn, 1) := by decide +kernel
theorem dX12_lacks_0 : decode cX12_lacks 0 = .ok (.aload_n 0, 1) := by decide +kernel
theorem dX12_lacks_1 : decode cX12_lacks 1 = .ok (.getfield 90, 3) := by decide +kernel
theorem dX12_lacks_4 : decode cX12_lacks 4 = .ok (.ifCond .ne 7, 3) := by decide +kernel
theorem dX12_lacks_7 : decode cX12_lacks 7 = .ok (.iconst 1, 1) := by decide +kernel
theorem dX12_lacks_8 : decode cX12_lacks 8 = .ok (.goto 4, 3) := by decide +kernel
theorem dX12_lacks_11 : decode cX12_lacks 11 = .ok (.iconst 0, 1) := by decide +kernel
theorem dX12_lacks_12 : decode cX12_lacks 12 = .ok (.ireturn, 1) := by decide +kernel
theorem dX12_isRow_0 : decode cX12_isRow 0 = .ok (.iload_n 1, 1) := by decide +kernel
theorem dX12_isRow_1 : decode cX12_isRow 1 = .ok (.i2l, 1) := by decide +kernel
theorem dX12_isRow_2 : decode cX12_isRow 2 = .ok (.lconst 0, 1) := by decide +kernel
theorem dX12_isRow_3 : decode cX12_isRow 3 = .ok (.aload_n 0, 1) := by decide +kernel
theorem dX12_isRow_4 : decode cX12_isRow 4 = .ok (.getfield 90, 3) := by decide +kernel
theorem dX12_isRow_7 : decode cX12_isRow 7 = .ok (.iconst 1, 1) := by decide +kernel
theorem dX12_isRow_8 : decode cX12_isRow 8 = .ok (.isub, 1) := by decide +kernel
theorem dX12_isRow_9 : decode cX12_isRow 9 = .ok (.i2l, 1) := by decide +kernel
theorem dX12_isRow_10 : decode cX12_isRow 10 = .ok (.invokestatic 46, 3) := by decide +kernel
theorem dX12_isRow_13 : decode cX12_isRow 13 = .ok (.ireturn, 1) := by decide +kernel
theorem dX12_isJudge_0 : decode cX12_isJudge 0 = .ok (.iload_n 1, 1) := by decide +kernel
theorem dX12_isJudge_1 : decode cX12_isJudge 1 = .ok (.i2l, 1) := by decide +kernel
theorem dX12_isJudge_2 : decode cX12_isJudge 2 = .ok (.lconst 0, 1) := by decide +kernel
theorem dX12_isJudge_3 : decode cX12_isJudge 3 = .ok (.aload_n 0, 1) := by decide +kernel
theorem dX12_isJudge_4 : decode cX12_isJudge 4 = .ok (.getfield 87, 3) := by decide +kernel
theorem dX12_isJudge_7 : decode cX12_isJudge 7 = .ok (.iconst 1, 1) := by decide +kernel
theorem dX12_isJudge_8 : decode cX12_isJudge 8 = .ok (.isub, 1) := by decide +kernel
theorem dX12_isJudge_9 : decode cX12_isJudge 9 = .ok (.i2l, 1) := by decide +kernel
theorem dX12_isJudge_10 : decode cX12_isJudge 10 = .ok (.invokestatic 46, 3) := by decide +kernel
theorem dX12_isJudge_13 : decode cX12_isJudge 13 = .ok (.ireturn, 1) := by decide +kernel
theorem dX12_peg_0 : decode cX12_peg 0 = .ok (.iload_n 1, 1) := by decide +kernel
theorem dX12_peg_1 : decode cX12_peg 1 = .ok (.istore_n 3, 1) := by decide +kernel
theorem dX12_peg_2 : decode cX12_peg 2 = .ok (.iload_n 2, 1) := by decide +kernel
theorem dX12_peg_3 : decode cX12_peg 3 = .ok (.iconst 1, 1) := by decide +kernel
theorem dX12_peg_4 : decode cX12_peg 4 = .ok (.iadd, 1) := by decide +kernel
theorem dX12_peg_5 : decode cX12_peg 5 = .ok (.istore 4, 2) := by decide +kernel
theorem dX12_peg_7 : decode cX12_peg 7 = .ok (.iload 4, 2) := by decide +kernel
theorem dX12_peg_9 : decode cX12_peg 9 = .ok (.aload_n 0, 1) := by decide +kernel
theorem dX12_peg_10 : decode cX12_peg 10 = .ok (.getfield 81, 3) := by decide +kernel
theorem dX12_peg_13 : decode cX12_peg 13 = .ok (.if_icmp .ge 16, 3) := by decide +kernel
theorem dX12_peg_16 : decode cX12_peg 16 = .ok (.iload_n 3, 1) := by decide +kernel
theorem dX12_peg_17 : decode cX12_peg 17 = .ok (.aload_n 0, 1) := by decide +kernel
theorem dX12_peg_18 : decode cX12_peg 18 = .ok (.getfield 84, 3) := by decide +kernel
theorem dX12_peg_21 : decode cX12_peg 21 = .ok (.idiv, 1) := by decide +kernel
theorem dX12_peg_22 : decode cX12_peg 22 = .ok (.istore_n 3, 1) := by decide +kernel
theorem dX12_peg_23 : decode cX12_peg 23 = .ok (.iinc 4 1, 3) := by decide +kernel
theorem dX12_peg_26 : decode cX12_peg 26 = .ok (.goto (-19), 3) := by decide +kernel
theorem dX12_peg_29 : decode cX12_peg 29 = .ok (.iload_n 3, 1) := by decide +kernel
theorem dX12_peg_30 : decode cX12_peg 30 = .ok (.aload_n 0, 1) := by decide +kernel
theorem dX12_peg_31 : decode cX12_peg 31 = .ok (.getfield 84, 3) := by decide +kernel
theorem dX12_peg_34 : decode cX12_peg 34 = .ok (.irem, 1) := by decide +kernel
theorem dX12_peg_35 : decode cX12_peg 35 = .ok (.ireturn, 1) := by decide +kernel
theorem dX12_right_0 : decode cX12_right 0 = .ok (.iconst 0, 1) := by decide +kernel
theorem dX12_right_1 : decode cX12_right 1 = .ok (.istore 4, 2) := by decide +kernel
theorem dX12_right_3 : decode cX12_right 3 = .ok (.iconst 0, 1) := by decide +kernel
theorem dX12_right_4 : decode cX12_right 4 = .ok (.istore 5, 2) := by decide +kernel
theorem dX12_right_6 : decode cX12_right 6 = .ok (.iload 5, 2) := by decide +kernel
theorem dX12_right_8 : decode cX12_right 8 = .ok (.aload_n 0, 1) := by decide +kernel
theorem dX12_right_9 : decode cX12_right 9 = .ok (.getfield 81, 3) := by decide +kernel
theorem dX12_right_12 : decode cX12_right 12 = .ok (.if_icmp .ge 52, 3) := by decide +kernel
theorem dX12_right_15 : decode cX12_right 15 = .ok (.iload 4, 2) := by decide +kernel
theorem dX12_right_17 : decode cX12_right 17 = .ok (.aload_n 0, 1) := by decide +kernel
theorem dX12_right_18 : decode cX12_right 18 = .ok (.iload_n 1, 1) := by decide +kernel
theorem dX12_right_19 : decode cX12_right 19 = .ok (.iload_n 3, 1) := by decide +kernel
theorem dX12_right_20 : decode cX12_right 20 = .ok (.ifCond .eq 15, 3) := by decide +kernel
theorem dX12_right_23 : decode cX12_right 23 = .ok (.aload_n 0, 1) := by decide +kernel
theorem dX12_right_24 : decode cX12_right 24 = .ok (.getfield 81, 3) := by decide +kernel
theorem dX12_right_27 : decode cX12_right 27 = .ok (.iconst 1, 1) := by decide +kernel
theorem dX12_right_28 : decode cX12_right 28 = .ok (.isub, 1) := by decide +kernel
theorem dX12_right_29 : decode cX12_right 29 = .ok (.iload 5, 2) := by decide +kernel
theorem dX12_right_31 : decode cX12_right 31 = .ok (.isub, 1) := by decide +kernel
theorem dX12_right_32 : decode cX12_right 32 = .ok (.goto 5, 3) := by decide +kernel
theorem dX12_right_35 : decode cX12_right 35 = .ok (.iload 5, 2) := by decide +kernel
theorem dX12_right_37 : decode cX12_right 37 = .ok (.invokevirtual 99, 3) := by decide +kernel
theorem dX12_right_40 : decode cX12_right 40 = .ok (.aload_n 0, 1) := by decide +kernel
theorem dX12_right_41 : decode cX12_right 41 = .ok (.iload_n 2, 1) := by decide +kernel
theorem dX12_right_42 : decode cX12_right 42 = .ok (.iload 5, 2) := by decide +kernel
theorem dX12_right_44 : decode cX12_right 44 = .ok (.invokevirtual 99, 3) := by decide +kernel
theorem dX12_right_47 : decode cX12_right 47 = .ok (.if_icmp .ne 7, 3) := by decide +kernel
theorem dX12_right_50 : decode cX12_right 50 = .ok (.iconst 1, 1) := by decide +kernel
theorem dX12_right_51 : decode cX12_right 51 = .ok (.goto 4, 3) := by decide +kernel
theorem dX12_right_54 : decode cX12_right 54 = .ok (.iconst 0, 1) := by decide +kernel
theorem dX12_right_55 : decode cX12_right 55 = .ok (.iadd, 1) := by decide +kernel
theorem dX12_right_56 : decode cX12_right 56 = .ok (.istore 4, 2) := by decide +kernel
theorem dX12_right_58 : decode cX12_right 58 = .ok (.iinc 5 1, 3) := by decide +kernel
theorem dX12_right_61 : decode cX12_right 61 = .ok (.goto (-55), 3) := by decide +kernel
theorem dX12_right_64 : decode cX12_right 64 = .ok (.iload 4, 2) := by decide +kernel
theorem dX12_right_66 : decode cX12_right 66 = .ok (.ireturn, 1) := by decide +kernel
theorem dX12_alike_0 : decode cX12_alike 0 = .ok (.iconst 0, 1) := by decide +kernel
theorem dX12_alike_1 : decode cX12_alike 1 = .ok (.istore_n 3, 1) := by decide +kernel
theorem dX12_alike_2 : decode cX12_alike 2 = .ok (.iconst 0, 1) := by decide +kernel
theorem dX12_alike_3 : decode cX12_alike 3 = .ok (.istore 4, 2) := by decide +kernel
theorem dX12_alike_5 : decode cX12_alike 5 = .ok (.iload 4, 2) := by decide +kernel
theorem dX12_alike_7 : decode cX12_alike 7 = .ok (.aload_n 0, 1) := by decide +kernel
theorem dX12_alike_8 : decode cX12_alike 8 = .ok (.getfield 84, 3) := by decide +kernel
theorem dX12_alike_11 : decode cX12_alike 11 = .ok (.if_icmp .ge 94, 3) := by decide +kernel
theorem dX12_alike_14 : decode cX12_alike 14 = .ok (.iconst 0, 1) := by decide +kernel
theorem dX12_alike_15 : decode cX12_alike 15 = .ok (.istore 5, 2) := by decide +kernel
theorem dX12_alike_17 : decode cX12_alike 17 = .ok (.iconst 0, 1) := by decide +kernel
theorem dX12_alike_18 : decode cX12_alike 18 = .ok (.istore 6, 2) := by decide +kernel
theorem dX12_alike_20 : decode cX12_alike 20 = .ok (.iconst 0, 1) := by decide +kernel
theorem dX12_alike_21 : decode cX12_alike 21 = .ok (.istore 7, 2) := by decide +kernel
theorem dX12_alike_23 : decode cX12_alike 23 = .ok (.iload 7, 2) := by decide +kernel
theorem dX12_alike_25 : decode cX12_alike 25 = .ok (.aload_n 0, 1) := by decide +kernel
theorem dX12_alike_26 : decode cX12_alike 26 = .ok (.getfield 81, 3) := by decide +kernel
theorem dX12_alike_29 : decode cX12_alike 29 = .ok (.if_icmp .ge 53, 3) := by decide +kernel
theorem dX12_alike_32 : decode cX12_alike 32 = .ok (.iload 5, 2) := by decide +kernel
theorem dX12_alike_34 : decode cX12_alike 34 = .ok (.aload_n 0, 1) := by decide +kernel
theorem dX12_alike_35 : decode cX12_alike 35 = .ok (.iload_n 1, 1) := by decide +kernel
theorem dX12_alike_36 : decode cX12_alike 36 = .ok (.iload 7, 2) := by decide +kernel
theorem dX12_alike_38 : decode cX12_alike 38 = .ok (.invokevirtual 99, 3) := by decide +kernel
theorem dX12_alike_41 : decode cX12_alike 41 = .ok (.iload 4, 2) := by decide +kernel
theorem dX12_alike_43 : decode cX12_alike 43 = .ok (.if_icmp .ne 7, 3) := by decide +kernel
theorem dX12_alike_46 : decode cX12_alike 46 = .ok (.iconst 1, 1) := by decide +kernel
theorem dX12_alike_47 : decode cX12_alike 47 = .ok (.goto 4, 3) := by decide +kernel
theorem dX12_alike_50 : decode cX12_alike 50 = .ok (.iconst 0, 1) := by decide +kernel
theorem dX12_alike_51 : decode cX12_alike 51 = .ok (.iadd, 1) := by decide +kernel
theorem dX12_alike_52 : decode cX12_alike 52 = .ok (.istore 5, 2) := by decide +kernel
theorem dX12_alike_54 : decode cX12_alike 54 = .ok (.iload 6, 2) := by decide +kernel
theorem dX12_alike_56 : decode cX12_alike 56 = .ok (.aload_n 0, 1) := by decide +kernel
theorem dX12_alike_57 : decode cX12_alike 57 = .ok (.iload_n 2, 1) := by decide +kernel
theorem dX12_alike_58 : decode cX12_alike 58 = .ok (.iload 7, 2) := by decide +kernel
theorem dX12_alike_60 : decode cX12_alike 60 = .ok (.invokevirtual 99, 3) := by decide +kernel
theorem dX12_alike_63 : decode cX12_alike 63 = .ok (.iload 4, 2) := by decide +kernel
theorem dX12_alike_65 : decode cX12_alike 65 = .ok (.if_icmp .ne 7, 3) := by decide +kernel
theorem dX12_alike_68 : decode cX12_alike 68 = .ok (.iconst 1, 1) := by decide +kernel
theorem dX12_alike_69 : decode cX12_alike 69 = .ok (.goto 4, 3) := by decide +kernel
theorem dX12_alike_72 : decode cX12_alike 72 = .ok (.iconst 0, 1) := by decide +kernel
theorem dX12_alike_73 : decode cX12_alike 73 = .ok (.iadd, 1) := by decide +kernel
theorem dX12_alike_74 : decode cX12_alike 74 = .ok (.istore 6, 2) := by decide +kernel
theorem dX12_alike_76 : decode cX12_alike 76 = .ok (.iinc 7 1, 3) := by decide +kernel
theorem dX12_alike_79 : decode cX12_alike 79 = .ok (.goto (-56), 3) := by decide +kernel
theorem dX12_alike_82 : decode cX12_alike 82 = .ok (.iload_n 3, 1) := by decide +kernel
theorem dX12_alike_83 : decode cX12_alike 83 = .ok (.iload 5, 2) := by decide +kernel
theorem dX12_alike_85 : decode cX12_alike 85 = .ok (.iload 6, 2) := by decide +kernel
theorem dX12_alike_87 : decode cX12_alike 87 = .ok (.if_icmp .ge 8, 3) := by decide +kernel
theorem dX12_alike_90 : decode cX12_alike 90 = .ok (.iload 5, 2) := by decide +kernel
theorem dX12_alike_92 : decode cX12_alike 92 = .ok (.goto 5, 3) := by decide +kernel
theorem dX12_alike_95 : decode cX12_alike 95 = .ok (.iload 6, 2) := by decide +kernel
theorem dX12_alike_97 : decode cX12_alike 97 = .ok (.iadd, 1) := by decide +kernel
theorem dX12_alike_98 : decode cX12_alike 98 = .ok (.istore_n 3, 1) := by decide +kernel
theorem dX12_alike_99 : decode cX12_alike 99 = .ok (.iinc 4 1, 3) := by decide +kernel
theorem dX12_alike_102 : decode cX12_alike 102 = .ok (.goto (-97), 3) := by decide +kernel
theorem dX12_alike_105 : decode cX12_alike 105 = .ok (.iload_n 3, 1) := by decide +kernel
theorem dX12_alike_106 : decode cX12_alike 106 = .ok (.ireturn, 1) := by decide +kernel
theorem dX12_tellsBy_0 : decode cX12_tellsBy 0 = .ok (.aload_n 0, 1) := by decide +kernel
theorem dX12_tellsBy_1 : decode cX12_tellsBy 1 = .ok (.iload_n 2, 1) := by decide +kernel
theorem dX12_tellsBy_2 : decode cX12_tellsBy 2 = .ok (.iload_n 3, 1) := by decide +kernel
theorem dX12_tellsBy_3 : decode cX12_tellsBy 3 = .ok (.iload_n 1, 1) := by decide +kernel
theorem dX12_tellsBy_4 : decode cX12_tellsBy 4 = .ok (.iconst 3, 1) := by decide +kernel
theorem dX12_tellsBy_5 : decode cX12_tellsBy 5 = .ok (.if_icmp .ne 7, 3) := by decide +kernel
theorem dX12_tellsBy_8 : decode cX12_tellsBy 8 = .ok (.iconst 1, 1) := by decide +kernel
theorem dX12_tellsBy_9 : decode cX12_tellsBy 9 = .ok (.goto 4, 3) := by decide +kernel
theorem dX12_tellsBy_12 : decode cX12_tellsBy 12 = .ok (.iconst 0, 1) := by decide +kernel
theorem dX12_tellsBy_13 : decode cX12_tellsBy 13 = .ok (.invokevirtual 103, 3) := by decide +kernel
theorem dX12_tellsBy_16 : decode cX12_tellsBy 16 = .ok (.istore 4, 2) := by decide +kernel
theorem dX12_tellsBy_18 : decode cX12_tellsBy 18 = .ok (.iload_n 1, 1) := by decide +kernel
theorem dX12_tellsBy_19 : decode cX12_tellsBy 19 = .ok (.tableswitch 48 1 4 #[29, 36, 48, 39], 29) := by decide +kernel
theorem dX12_tellsBy_48 : decode cX12_tellsBy 48 = .ok (.aload_n 0, 1) := by decide +kernel
theorem dX12_tellsBy_49 : decode cX12_tellsBy 49 = .ok (.iload_n 2, 1) := by decide +kernel
theorem dX12_tellsBy_50 : decode cX12_tellsBy 50 = .ok (.iload_n 3, 1) := by decide +kernel
theorem dX12_tellsBy_51 : decode cX12_tellsBy 51 = .ok (.invokevirtual 107, 3) := by decide +kernel
theorem dX12_tellsBy_54 : decode cX12_tellsBy 54 = .ok (.ireturn, 1) := by decide +kernel
theorem dX12_tellsBy_55 : decode cX12_tellsBy 55 = .ok (.iload 4, 2) := by decide +kernel
theorem dX12_tellsBy_57 : decode cX12_tellsBy 57 = .ok (.ireturn, 1) := by decide +kernel
theorem dX12_tellsBy_58 : decode cX12_tellsBy 58 = .ok (.aload_n 0, 1) := by decide +kernel
theorem dX12_tellsBy_59 : decode cX12_tellsBy 59 = .ok (.iload_n 2, 1) := by decide +kernel
theorem dX12_tellsBy_60 : decode cX12_tellsBy 60 = .ok (.iload_n 3, 1) := by decide +kernel
theorem dX12_tellsBy_61 : decode cX12_tellsBy 61 = .ok (.invokevirtual 107, 3) := by decide +kernel
theorem dX12_tellsBy_64 : decode cX12_tellsBy 64 = .ok (.iconst 2, 1) := by decide +kernel
theorem dX12_tellsBy_65 : decode cX12_tellsBy 65 = .ok (.irem, 1) := by decide +kernel
theorem dX12_tellsBy_66 : decode cX12_tellsBy 66 = .ok (.ireturn, 1) := by decide +kernel
theorem dX12_tellsBy_67 : decode cX12_tellsBy 67 = .ok (.bipush 9, 2) := by decide +kernel
theorem dX12_tellsBy_69 : decode cX12_tellsBy 69 = .ok (.iload 4, 2) := by decide +kernel
theorem dX12_tellsBy_71 : decode cX12_tellsBy 71 = .ok (.imul, 1) := by decide +kernel
theorem dX12_tellsBy_72 : decode cX12_tellsBy 72 = .ok (.aload_n 0, 1) := by decide +kernel
theorem dX12_tellsBy_73 : decode cX12_tellsBy 73 = .ok (.iload_n 2, 1) := by decide +kernel
theorem dX12_tellsBy_74 : decode cX12_tellsBy 74 = .ok (.iload_n 3, 1) := by decide +kernel
theorem dX12_tellsBy_75 : decode cX12_tellsBy 75 = .ok (.invokevirtual 107, 3) := by decide +kernel
theorem dX12_tellsBy_78 : decode cX12_tellsBy 78 = .ok (.iadd, 1) := by decide +kernel
theorem dX12_tellsBy_79 : decode cX12_tellsBy 79 = .ok (.ireturn, 1) := by decide +kernel
theorem dX12_tells_0 : decode cX12_tells 0 = .ok (.aload_n 0, 1) := by decide +kernel
theorem dX12_tells_1 : decode cX12_tells 1 = .ok (.iload_n 1, 1) := by decide +kernel
theorem dX12_tells_2 : decode cX12_tells 2 = .ok (.invokevirtual 110, 3) := by decide +kernel
theorem dX12_tells_5 : decode cX12_tells 5 = .ok (.ifCond .eq 34, 3) := by decide +kernel
theorem dX12_tells_8 : decode cX12_tells 8 = .ok (.aload_n 0, 1) := by decide +kernel
theorem dX12_tells_9 : decode cX12_tells 9 = .ok (.iload_n 2, 1) := by decide +kernel
theorem dX12_tells_10 : decode cX12_tells 10 = .ok (.invokevirtual 113, 3) := by decide +kernel
theorem dX12_tells_13 : decode cX12_tells 13 = .ok (.ifCond .eq 26, 3) := by decide +kernel
theorem dX12_tells_16 : decode cX12_tells 16 = .ok (.aload_n 0, 1) := by decide +kernel
theorem dX12_tells_17 : decode cX12_tells 17 = .ok (.iload_n 3, 1) := by decide +kernel
theorem dX12_tells_18 : decode cX12_tells 18 = .ok (.invokevirtual 113, 3) := by decide +kernel
theorem dX12_tells_21 : decode cX12_tells 21 = .ok (.ifCond .eq 18, 3) := by decide +kernel
theorem dX12_tells_24 : decode cX12_tells 24 = .ok (.aload_n 0, 1) := by decide +kernel
theorem dX12_tells_25 : decode cX12_tells 25 = .ok (.aload_n 0, 1) := by decide +kernel
theorem dX12_tells_26 : decode cX12_tells 26 = .ok (.getfield 13, 3) := by decide +kernel
theorem dX12_tells_29 : decode cX12_tells 29 = .ok (.iload_n 1, 1) := by decide +kernel
theorem dX12_tells_30 : decode cX12_tells 30 = .ok (.iaload, 1) := by decide +kernel
theorem dX12_tells_31 : decode cX12_tells 31 = .ok (.iload_n 2, 1) := by decide +kernel
theorem dX12_tells_32 : decode cX12_tells 32 = .ok (.iload_n 3, 1) := by decide +kernel
theorem dX12_tells_33 : decode cX12_tells 33 = .ok (.invokevirtual 116, 3) := by decide +kernel
theorem dX12_tells_36 : decode cX12_tells 36 = .ok (.goto 5, 3) := by decide +kernel
theorem dX12_tells_39 : decode cX12_tells 39 = .ok (.bipush (-101), 2) := by decide +kernel
theorem dX12_tells_41 : decode cX12_tells 41 = .ok (.ireturn, 1) := by decide +kernel
theorem dX12_isFit_0 : decode cX12_isFit 0 = .ok (.iconst 1, 1) := by decide +kernel
theorem dX12_isFit_1 : decode cX12_isFit 1 = .ok (.istore_n 2, 1) := by decide +kernel
theorem dX12_isFit_2 : decode cX12_isFit 2 = .ok (.iconst 0, 1) := by decide +kernel
theorem dX12_isFit_3 : decode cX12_isFit 3 = .ok (.istore_n 3, 1) := by decide +kernel
theorem dX12_isFit_4 : decode cX12_isFit 4 = .ok (.iload_n 3, 1) := by decide +kernel
theorem dX12_isFit_5 : decode cX12_isFit 5 = .ok (.iconst 3, 1) := by decide +kernel
theorem dX12_isFit_6 : decode cX12_isFit 6 = .ok (.aload_n 0, 1) := by decide +kernel
theorem dX12_isFit_7 : decode cX12_isFit 7 = .ok (.getfield 93, 3) := by decide +kernel
theorem dX12_isFit_10 : decode cX12_isFit 10 = .ok (.imul, 1) := by decide +kernel
theorem dX12_isFit_11 : decode cX12_isFit 11 = .ok (.if_icmp .ge 54, 3) := by decide +kernel
theorem dX12_isFit_14 : decode cX12_isFit 14 = .ok (.iload_n 2, 1) := by decide +kernel
theorem dX12_isFit_15 : decode cX12_isFit 15 = .ok (.ifCond .eq 42, 3) := by decide +kernel
theorem dX12_isFit_18 : decode cX12_isFit 18 = .ok (.aload_n 0, 1) := by decide +kernel
theorem dX12_isFit_19 : decode cX12_isFit 19 = .ok (.aload_n 0, 1) := by decide +kernel
theorem dX12_isFit_20 : decode cX12_isFit 20 = .ok (.getfield 13, 3) := by decide +kernel
theorem dX12_isFit_23 : decode cX12_isFit 23 = .ok (.aload_n 0, 1) := by decide +kernel
theorem dX12_isFit_24 : decode cX12_isFit 24 = .ok (.getfield 16, 3) := by decide +kernel
theorem dX12_isFit_27 : decode cX12_isFit 27 = .ok (.iload_n 3, 1) := by decide +kernel
theorem dX12_isFit_28 : decode cX12_isFit 28 = .ok (.iconst 1, 1) := by decide +kernel
theorem dX12_isFit_29 : decode cX12_isFit 29 = .ok (.iadd, 1) := by decide +kernel
theorem dX12_isFit_30 : decode cX12_isFit 30 = .ok (.iaload, 1) := by decide +kernel
theorem dX12_isFit_31 : decode cX12_isFit 31 = .ok (.iaload, 1) := by decide +kernel
theorem dX12_isFit_32 : decode cX12_isFit 32 = .ok (.aload_n 0, 1) := by decide +kernel
theorem dX12_isFit_33 : decode cX12_isFit 33 = .ok (.getfield 16, 3) := by decide +kernel
theorem dX12_isFit_36 : decode cX12_isFit 36 = .ok (.iload_n 3, 1) := by decide +kernel
theorem dX12_isFit_37 : decode cX12_isFit 37 = .ok (.iaload, 1) := by decide +kernel
theorem dX12_isFit_38 : decode cX12_isFit 38 = .ok (.iload_n 1, 1) := by decide +kernel
theorem dX12_isFit_39 : decode cX12_isFit 39 = .ok (.invokevirtual 116, 3) := by decide +kernel
theorem dX12_isFit_42 : decode cX12_isFit 42 = .ok (.aload_n 0, 1) := by decide +kernel
theorem dX12_isFit_43 : decode cX12_isFit 43 = .ok (.getfield 16, 3) := by decide +kernel
theorem dX12_isFit_46 : decode cX12_isFit 46 = .ok (.iload_n 3, 1) := by decide +kernel
theorem dX12_isFit_47 : decode cX12_isFit 47 = .ok (.iconst 2, 1) := by decide +kernel
theorem dX12_isFit_48 : decode cX12_isFit 48 = .ok (.iadd, 1) := by decide +kernel
theorem dX12_isFit_49 : decode cX12_isFit 49 = .ok (.iaload, 1) := by decide +kernel
theorem dX12_isFit_50 : decode cX12_isFit 50 = .ok (.if_icmp .ne 7, 3) := by decide +kernel
theorem dX12_isFit_53 : decode cX12_isFit 53 = .ok (.iconst 1, 1) := by decide +kernel
theorem dX12_isFit_54 : decode cX12_isFit 54 = .ok (.goto 4, 3) := by decide +kernel
theorem dX12_isFit_57 : decode cX12_isFit 57 = .ok (.iconst 0, 1) := by decide +kernel
theorem dX12_isFit_58 : decode cX12_isFit 58 = .ok (.istore_n 2, 1) := by decide +kernel
theorem dX12_isFit_59 : decode cX12_isFit 59 = .ok (.iinc 3 3, 3) := by decide +kernel
theorem dX12_isFit_62 : decode cX12_isFit 62 = .ok (.goto (-58), 3) := by decide +kernel
theorem dX12_isFit_65 : decode cX12_isFit 65 = .ok (.iload_n 2, 1) := by decide +kernel
theorem dX12_isFit_66 : decode cX12_isFit 66 = .ok (.ireturn, 1) := by decide +kernel
theorem dX12_layFit_0 : decode cX12_layFit 0 = .ok (.iconst 0, 1) := by decide +kernel
theorem dX12_layFit_1 : decode cX12_layFit 1 = .ok (.istore_n 1, 1) := by decide +kernel
theorem dX12_layFit_2 : decode cX12_layFit 2 = .ok (.iload_n 1, 1) := by decide +kernel
theorem dX12_layFit_3 : decode cX12_layFit 3 = .ok (.aload_n 0, 1) := by decide +kernel
theorem dX12_layFit_4 : decode cX12_layFit 4 = .ok (.getfield 90, 3) := by decide +kernel
theorem dX12_layFit_7 : decode cX12_layFit 7 = .ok (.if_icmp .ge 28, 3) := by decide +kernel
theorem dX12_layFit_10 : decode cX12_layFit 10 = .ok (.aload_n 0, 1) := by decide +kernel
theorem dX12_layFit_11 : decode cX12_layFit 11 = .ok (.getfield 19, 3) := by decide +kernel
theorem dX12_layFit_14 : decode cX12_layFit 14 = .ok (.iload_n 1, 1) := by decide +kernel
theorem dX12_layFit_15 : decode cX12_layFit 15 = .ok (.aload_n 0, 1) := by decide +kernel
theorem dX12_layFit_16 : decode cX12_layFit 16 = .ok (.iload_n 1, 1) := by decide +kernel
theorem dX12_layFit_17 : decode cX12_layFit 17 = .ok (.invokevirtual 120, 3) := by decide +kernel
theorem dX12_layFit_20 : decode cX12_layFit 20 = .ok (.ifCond .eq 7, 3) := by decide +kernel
theorem dX12_layFit_23 : decode cX12_layFit 23 = .ok (.iconst 1, 1) := by decide +kernel
theorem dX12_layFit_24 : decode cX12_layFit 24 = .ok (.goto 4, 3) := by decide +kernel
theorem dX12_layFit_27 : decode cX12_layFit 27 = .ok (.iconst 0, 1) := by decide +kernel
theorem dX12_layFit_28 : decode cX12_layFit 28 = .ok (.iastore, 1) := by decide +kernel
theorem dX12_layFit_29 : decode cX12_layFit 29 = .ok (.iinc 1 1, 3) := by decide +kernel
theorem dX12_layFit_32 : decode cX12_layFit 32 = .ok (.goto (-30), 3) := by decide +kernel
theorem dX12_layFit_35 : decode cX12_layFit 35 = .ok (.return_, 1) := by decide +kernel
theorem dX12_fitMany_0 : decode cX12_fitMany 0 = .ok (.iconst 0, 1) := by decide +kernel
theorem dX12_fitMany_1 : decode cX12_fitMany 1 = .ok (.istore_n 1, 1) := by decide +kernel
theorem dX12_fitMany_2 : decode cX12_fitMany 2 = .ok (.iconst 0, 1) := by decide +kernel
theorem dX12_fitMany_3 : decode cX12_fitMany 3 = .ok (.istore_n 2, 1) := by decide +kernel
theorem dX12_fitMany_4 : decode cX12_fitMany 4 = .ok (.iload_n 2, 1) := by decide +kernel
theorem dX12_fitMany_5 : decode cX12_fitMany 5 = .ok (.aload_n 0, 1) := by decide +kernel
theorem dX12_fitMany_6 : decode cX12_fitMany 6 = .ok (.getfield 90, 3) := by decide +kernel
theorem dX12_fitMany_9 : decode cX12_fitMany 9 = .ok (.if_icmp .ge 18, 3) := by decide +kernel
theorem dX12_fitMany_12 : decode cX12_fitMany 12 = .ok (.iload_n 1, 1) := by decide +kernel
theorem dX12_fitMany_13 : decode cX12_fitMany 13 = .ok (.aload_n 0, 1) := by decide +kernel
theorem dX12_fitMany_14 : decode cX12_fitMany 14 = .ok (.getfield 19, 3) := by decide +kernel
theorem dX12_fitMany_17 : decode cX12_fitMany 17 = .ok (.iload_n 2, 1) := by decide +kernel
theorem dX12_fitMany_18 : decode cX12_fitMany 18 = .ok (.iaload, 1) := by decide +kernel
theorem dX12_fitMany_19 : decode cX12_fitMany 19 = .ok (.iadd, 1) := by decide +kernel
theorem dX12_fitMany_20 : decode cX12_fitMany 20 = .ok (.istore_n 1, 1) := by decide +kernel
theorem dX12_fitMany_21 : decode cX12_fitMany 21 = .ok (.iinc 2 1, 3) := by decide +kernel
theorem dX12_fitMany_24 : decode cX12_fitMany 24 = .ok (.goto (-20), 3) := by decide +kernel
theorem dX12_fitMany_27 : decode cX12_fitMany 27 = .ok (.iload_n 1, 1) := by decide +kernel
theorem dX12_fitMany_28 : decode cX12_fitMany 28 = .ok (.ireturn, 1) := by decide +kernel
theorem dX12_leftOf_0 : decode cX12_leftOf 0 = .ok (.aload_n 0, 1) := by decide +kernel
theorem dX12_leftOf_1 : decode cX12_leftOf 1 = .ok (.invokevirtual 123, 3) := by decide +kernel
theorem dX12_leftOf_4 : decode cX12_leftOf 4 = .ok (.aload_n 0, 1) := by decide +kernel
theorem dX12_leftOf_5 : decode cX12_leftOf 5 = .ok (.invokevirtual 126, 3) := by decide +kernel
theorem dX12_leftOf_8 : decode cX12_leftOf 8 = .ok (.ireturn, 1) := by decide +kernel
theorem dX12_left_0 : decode cX12_left 0 = .ok (.aload_n 0, 1) := by decide +kernel
theorem dX12_left_1 : decode cX12_left 1 = .ok (.invokevirtual 129, 3) := by decide +kernel
theorem dX12_left_4 : decode cX12_left 4 = .ok (.ifCond .eq 8, 3) := by decide +kernel
theorem dX12_left_7 : decode cX12_left 7 = .ok (.bipush (-103), 2) := by decide +kernel
theorem dX12_left_9 : decode cX12_left 9 = .ok (.goto 7, 3) := by decide +kernel
theorem dX12_left_12 : decode cX12_left 12 = .ok (.aload_n 0, 1) := by decide +kernel
theorem dX12_left_13 : decode cX12_left 13 = .ok (.invokevirtual 133, 3) := by decide +kernel
theorem dX12_left_16 : decode cX12_left 16 = .ok (.ireturn, 1) := by decide +kernel
theorem dX12_fitsOf_0 : decode cX12_fitsOf 0 = .ok (.aload_n 0, 1) := by decide +kernel
theorem dX12_fitsOf_1 : decode cX12_fitsOf 1 = .ok (.invokevirtual 123, 3) := by decide +kernel
theorem dX12_fitsOf_4 : decode cX12_fitsOf 4 = .ok (.iload_n 1, 1) := by decide +kernel
theorem dX12_fitsOf_5 : decode cX12_fitsOf 5 = .ok (.istore_n 2, 1) := by decide +kernel
theorem dX12_fitsOf_6 : decode cX12_fitsOf 6 = .ok (.iconst 0, 1) := by decide +kernel
theorem dX12_fitsOf_7 : decode cX12_fitsOf 7 = .ok (.istore_n 3, 1) := by decide +kernel
theorem dX12_fitsOf_8 : decode cX12_fitsOf 8 = .ok (.iload_n 3, 1) := by decide +kernel
theorem dX12_fitsOf_9 : decode cX12_fitsOf 9 = .ok (.aload_n 0, 1) := by decide +kernel
theorem dX12_fitsOf_10 : decode cX12_fitsOf 10 = .ok (.getfield 90, 3) := by decide +kernel
theorem dX12_fitsOf_13 : decode cX12_fitsOf 13 = .ok (.if_icmp .ge 34, 3) := by decide +kernel
theorem dX12_fitsOf_16 : decode cX12_fitsOf 16 = .ok (.aload_n 0, 1) := by decide +kernel
theorem dX12_fitsOf_17 : decode cX12_fitsOf 17 = .ok (.getfield 19, 3) := by decide +kernel
theorem dX12_fitsOf_20 : decode cX12_fitsOf 20 = .ok (.iload_n 3, 1) := by decide +kernel
theorem dX12_fitsOf_21 : decode cX12_fitsOf 21 = .ok (.iaload, 1) := by decide +kernel
theorem dX12_fitsOf_22 : decode cX12_fitsOf 22 = .ok (.iconst 1, 1) := by decide +kernel
theorem dX12_fitsOf_23 : decode cX12_fitsOf 23 = .ok (.if_icmp .ne 9, 3) := by decide +kernel
theorem dX12_fitsOf_26 : decode cX12_fitsOf 26 = .ok (.iload_n 2, 1) := by decide +kernel
theorem dX12_fitsOf_27 : decode cX12_fitsOf 27 = .ok (.ifCond .ne 5, 3) := by decide +kernel
theorem dX12_fitsOf_30 : decode cX12_fitsOf 30 = .ok (.iload_n 3, 1) := by decide +kernel
theorem dX12_fitsOf_31 : decode cX12_fitsOf 31 = .ok (.ireturn, 1) := by decide +kernel
theorem dX12_fitsOf_32 : decode cX12_fitsOf 32 = .ok (.iload_n 2, 1) := by decide +kernel
theorem dX12_fitsOf_33 : decode cX12_fitsOf 33 = .ok (.aload_n 0, 1) := by decide +kernel
theorem dX12_fitsOf_34 : decode cX12_fitsOf 34 = .ok (.getfield 19, 3) := by decide +kernel
theorem dX12_fitsOf_37 : decode cX12_fitsOf 37 = .ok (.iload_n 3, 1) := by decide +kernel
theorem dX12_fitsOf_38 : decode cX12_fitsOf 38 = .ok (.iaload, 1) := by decide +kernel
theorem dX12_fitsOf_39 : decode cX12_fitsOf 39 = .ok (.isub, 1) := by decide +kernel
theorem dX12_fitsOf_40 : decode cX12_fitsOf 40 = .ok (.istore_n 2, 1) := by decide +kernel
theorem dX12_fitsOf_41 : decode cX12_fitsOf 41 = .ok (.iinc 3 1, 3) := by decide +kernel
theorem dX12_fitsOf_44 : decode cX12_fitsOf 44 = .ok (.goto (-36), 3) := by decide +kernel
theorem dX12_fitsOf_47 : decode cX12_fitsOf 47 = .ok (.iconst (-1), 1) := by decide +kernel
theorem dX12_fitsOf_48 : decode cX12_fitsOf 48 = .ok (.ireturn, 1) := by decide +kernel
theorem dX12_fits_0 : decode cX12_fits 0 = .ok (.iload_n 1, 1) := by decide +kernel
theorem dX12_fits_1 : decode cX12_fits 1 = .ok (.ifCond .ge 6, 3) := by decide +kernel
theorem dX12_fits_4 : decode cX12_fits 4 = .ok (.bipush (-102), 2) := by decide +kernel
theorem dX12_fits_6 : decode cX12_fits 6 = .ok (.ireturn, 1) := by decide +kernel
theorem dX12_fits_7 : decode cX12_fits 7 = .ok (.aload_n 0, 1) := by decide +kernel
theorem dX12_fits_8 : decode cX12_fits 8 = .ok (.invokevirtual 129, 3) := by decide +kernel
theorem dX12_fits_11 : decode cX12_fits 11 = .ok (.ifCond .eq 8, 3) := by decide +kernel
theorem dX12_fits_14 : decode cX12_fits 14 = .ok (.bipush (-103), 2) := by decide +kernel
theorem dX12_fits_16 : decode cX12_fits 16 = .ok (.goto 8, 3) := by decide +kernel
theorem dX12_fits_19 : decode cX12_fits 19 = .ok (.aload_n 0, 1) := by decide +kernel
theorem dX12_fits_20 : decode cX12_fits 20 = .ok (.iload_n 1, 1) := by decide +kernel
theorem dX12_fits_21 : decode cX12_fits 21 = .ok (.invokevirtual 136, 3) := by decide +kernel
theorem dX12_fits_24 : decode cX12_fits 24 = .ok (.ireturn, 1) := by decide +kernel
theorem dX12_toJudge_0 : decode cX12_toJudge 0 = .ok (.iconst 0, 1) := by decide +kernel
theorem dX12_toJudge_1 : decode cX12_toJudge 1 = .ok (.istore_n 2, 1) := by decide +kernel
theorem dX12_toJudge_2 : decode cX12_toJudge 2 = .ok (.iconst 0, 1) := by decide +kernel
theorem dX12_toJudge_3 : decode cX12_toJudge 3 = .ok (.istore_n 3, 1) := by decide +kernel
theorem dX12_toJudge_4 : decode cX12_toJudge 4 = .ok (.iload_n 3, 1) := by decide +kernel
theorem dX12_toJudge_5 : decode cX12_toJudge 5 = .ok (.aload_n 0, 1) := by decide +kernel
theorem dX12_toJudge_6 : decode cX12_toJudge 6 = .ok (.getfield 93, 3) := by decide +kernel
theorem dX12_toJudge_9 : decode cX12_toJudge 9 = .ok (.if_icmp .ge 31, 3) := by decide +kernel
theorem dX12_toJudge_12 : decode cX12_toJudge 12 = .ok (.iload_n 2, 1) := by decide +kernel
theorem dX12_toJudge_13 : decode cX12_toJudge 13 = .ok (.aload_n 0, 1) := by decide +kernel
theorem dX12_toJudge_14 : decode cX12_toJudge 14 = .ok (.getfield 16, 3) := by decide +kernel
theorem dX12_toJudge_17 : decode cX12_toJudge 17 = .ok (.iconst 3, 1) := by decide +kernel
theorem dX12_toJudge_18 : decode cX12_toJudge 18 = .ok (.iload_n 3, 1) := by decide +kernel
theorem dX12_toJudge_19 : decode cX12_toJudge 19 = .ok (.imul, 1) := by decide +kernel
theorem dX12_toJudge_20 : decode cX12_toJudge 20 = .ok (.iconst 1, 1) := by decide +kernel
theorem dX12_toJudge_21 : decode cX12_toJudge 21 = .ok (.iadd, 1) := by decide +kernel
theorem dX12_toJudge_22 : decode cX12_toJudge 22 = .ok (.iaload, 1) := by decide +kernel
theorem dX12_toJudge_23 : decode cX12_toJudge 23 = .ok (.iload_n 1, 1) := by decide +kernel
theorem dX12_toJudge_24 : decode cX12_toJudge 24 = .ok (.if_icmp .ne 7, 3) := by decide +kernel
theorem dX12_toJudge_27 : decode cX12_toJudge 27 = .ok (.iconst 1, 1) := by decide +kernel
theorem dX12_toJudge_28 : decode cX12_toJudge 28 = .ok (.goto 4, 3) := by decide +kernel
theorem dX12_toJudge_31 : decode cX12_toJudge 31 = .ok (.iconst 0, 1) := by decide +kernel
theorem dX12_toJudge_32 : decode cX12_toJudge 32 = .ok (.iadd, 1) := by decide +kernel
theorem dX12_toJudge_33 : decode cX12_toJudge 33 = .ok (.istore_n 2, 1) := by decide +kernel
theorem dX12_toJudge_34 : decode cX12_toJudge 34 = .ok (.iinc 3 1, 3) := by decide +kernel
theorem dX12_toJudge_37 : decode cX12_toJudge 37 = .ok (.goto (-33), 3) := by decide +kernel
theorem dX12_toJudge_40 : decode cX12_toJudge 40 = .ok (.iload_n 2, 1) := by decide +kernel
theorem dX12_toJudge_41 : decode cX12_toJudge 41 = .ok (.ireturn, 1) := by decide +kernel
theorem dX12_tellJudge_0 : decode cX12_tellJudge 0 = .ok (.iload_n 2, 1) := by decide +kernel
theorem dX12_tellJudge_1 : decode cX12_tellJudge 1 = .ok (.tableswitch 66 0 4 #[35, 42, 48, 54, 60], 35) := by decide +kernel
theorem dX12_tellJudge_36 : decode cX12_tellJudge 36 = .ok (.aload_n 0, 1) := by decide +kernel
theorem dX12_tellJudge_37 : decode cX12_tellJudge 37 = .ok (.getfield 13, 3) := by decide +kernel
theorem dX12_tellJudge_40 : decode cX12_tellJudge 40 = .ok (.iload_n 1, 1) := by decide +kernel
theorem dX12_tellJudge_41 : decode cX12_tellJudge 41 = .ok (.iaload, 1) := by decide +kernel
theorem dX12_tellJudge_42 : decode cX12_tellJudge 42 = .ok (.ireturn, 1) := by decide +kernel
theorem dX12_tellJudge_43 : decode cX12_tellJudge 43 = .ok (.aload_n 0, 1) := by decide +kernel
theorem dX12_tellJudge_44 : decode cX12_tellJudge 44 = .ok (.iload_n 1, 1) := by decide +kernel
theorem dX12_tellJudge_45 : decode cX12_tellJudge 45 = .ok (.invokevirtual 139, 3) := by decide +kernel
theorem dX12_tellJudge_48 : decode cX12_tellJudge 48 = .ok (.ireturn, 1) := by decide +kernel
theorem dX12_tellJudge_49 : decode cX12_tellJudge 49 = .ok (.aload_n 0, 1) := by decide +kernel
theorem dX12_tellJudge_50 : decode cX12_tellJudge 50 = .ok (.iload_n 1, 1) := by decide +kernel
theorem dX12_tellJudge_51 : decode cX12_tellJudge 51 = .ok (.invokevirtual 142, 3) := by decide +kernel
theorem dX12_tellJudge_54 : decode cX12_tellJudge 54 = .ok (.ireturn, 1) := by decide +kernel
theorem dX12_tellJudge_55 : decode cX12_tellJudge 55 = .ok (.aload_n 0, 1) := by decide +kernel
theorem dX12_tellJudge_56 : decode cX12_tellJudge 56 = .ok (.iload_n 1, 1) := by decide +kernel
theorem dX12_tellJudge_57 : decode cX12_tellJudge 57 = .ok (.invokevirtual 145, 3) := by decide +kernel
theorem dX12_tellJudge_60 : decode cX12_tellJudge 60 = .ok (.ireturn, 1) := by decide +kernel
theorem dX12_tellJudge_61 : decode cX12_tellJudge 61 = .ok (.aload_n 0, 1) := by decide +kernel
theorem dX12_tellJudge_62 : decode cX12_tellJudge 62 = .ok (.iload_n 1, 1) := by decide +kernel
theorem dX12_tellJudge_63 : decode cX12_tellJudge 63 = .ok (.invokevirtual 148, 3) := by decide +kernel
theorem dX12_tellJudge_66 : decode cX12_tellJudge 66 = .ok (.ireturn, 1) := by decide +kernel
theorem dX12_tellJudge_67 : decode cX12_tellJudge 67 = .ok (.bipush (-102), 2) := by decide +kernel
theorem dX12_tellJudge_69 : decode cX12_tellJudge 69 = .ok (.ireturn, 1) := by decide +kernel
theorem dX12_judge_0 : decode cX12_judge 0 = .ok (.aload_n 0, 1) := by decide +kernel
theorem dX12_judge_1 : decode cX12_judge 1 = .ok (.iload_n 1, 1) := by decide +kernel
theorem dX12_judge_2 : decode cX12_judge 2 = .ok (.invokevirtual 110, 3) := by decide +kernel
theorem dX12_judge_5 : decode cX12_judge 5 = .ok (.ifCond .eq 12, 3) := by decide +kernel
theorem dX12_judge_8 : decode cX12_judge 8 = .ok (.aload_n 0, 1) := by decide +kernel
theorem dX12_judge_9 : decode cX12_judge 9 = .ok (.iload_n 1, 1) := by decide +kernel
theorem dX12_judge_10 : decode cX12_judge 10 = .ok (.iload_n 2, 1) := by decide +kernel
theorem dX12_judge_11 : decode cX12_judge 11 = .ok (.invokevirtual 151, 3) := by decide +kernel
theorem dX12_judge_14 : decode cX12_judge 14 = .ok (.goto 5, 3) := by decide +kernel
theorem dX12_judge_17 : decode cX12_judge 17 = .ok (.bipush (-101), 2) := by decide +kernel
theorem dX12_judge_19 : decode cX12_judge 19 = .ok (.ireturn, 1) := by decide +kernel
theorem dX12_as_0 : decode cX12_as 0 = .ok (.aload_n 0, 1) := by decide +kernel
theorem dX12_as_1 : decode cX12_as 1 = .ok (.iload_n 1, 1) := by decide +kernel
theorem dX12_as_2 : decode cX12_as 2 = .ok (.invokevirtual 110, 3) := by decide +kernel
theorem dX12_as_5 : decode cX12_as 5 = .ok (.ifCond .ne 6, 3) := by decide +kernel
theorem dX12_as_8 : decode cX12_as 8 = .ok (.bipush (-101), 2) := by decide +kernel
theorem dX12_as_10 : decode cX12_as 10 = .ok (.ireturn, 1) := by decide +kernel
theorem dX12_as_11 : decode cX12_as 11 = .ok (.iload_n 2, 1) := by decide +kernel
theorem dX12_as_12 : decode cX12_as 12 = .ok (.i2l, 1) := by decide +kernel
theorem dX12_as_13 : decode cX12_as 13 = .ok (.lconst 0, 1) := by decide +kernel
theorem dX12_as_14 : decode cX12_as 14 = .ok (.ldc2_w 154, 3) := by decide +kernel
theorem dX12_as_17 : decode cX12_as 17 = .ok (.invokestatic 46, 3) := by decide +kernel
theorem dX12_as_20 : decode cX12_as 20 = .ok (.ifCond .ne 6, 3) := by decide +kernel
theorem dX12_as_23 : decode cX12_as 23 = .ok (.bipush (-102), 2) := by decide +kernel
theorem dX12_as_25 : decode cX12_as 25 = .ok (.ireturn, 1) := by decide +kernel
theorem dX12_as_26 : decode cX12_as 26 = .ok (.iload_n 2, 1) := by decide +kernel
theorem dX12_as_27 : decode cX12_as 27 = .ok (.ifCond .eq 28, 3) := by decide +kernel
theorem dX12_as_30 : decode cX12_as 30 = .ok (.iload_n 2, 1) := by decide +kernel
theorem dX12_as_31 : decode cX12_as 31 = .ok (.aload_n 0, 1) := by decide +kernel
theorem dX12_as_32 : decode cX12_as 32 = .ok (.getfield 13, 3) := by decide +kernel
theorem dX12_as_35 : decode cX12_as 35 = .ok (.iload_n 1, 1) := by decide +kernel
theorem dX12_as_36 : decode cX12_as 36 = .ok (.iaload, 1) := by decide +kernel
theorem dX12_as_37 : decode cX12_as 37 = .ok (.if_icmp .eq 18, 3) := by decide +kernel
theorem dX12_as_40 : decode cX12_as 40 = .ok (.iload_n 2, 1) := by decide +kernel
theorem dX12_as_41 : decode cX12_as 41 = .ok (.iconst 1, 1) := by decide +kernel
theorem dX12_as_42 : decode cX12_as 42 = .ok (.if_icmp .ne 17, 3) := by decide +kernel
theorem dX12_as_45 : decode cX12_as 45 = .ok (.aload_n 0, 1) := by decide +kernel
theorem dX12_as_46 : decode cX12_as 46 = .ok (.getfield 13, 3) := by decide +kernel
theorem dX12_as_49 : decode cX12_as 49 = .ok (.iload_n 1, 1) := by decide +kernel
theorem dX12_as_50 : decode cX12_as 50 = .ok (.iaload, 1) := by decide +kernel
theorem dX12_as_51 : decode cX12_as 51 = .ok (.iconst 4, 1) := by decide +kernel
theorem dX12_as_52 : decode cX12_as 52 = .ok (.if_icmp .ne 7, 3) := by decide +kernel
theorem dX12_as_55 : decode cX12_as 55 = .ok (.iconst 1, 1) := by decide +kernel
theorem dX12_as_56 : decode cX12_as 56 = .ok (.goto 4, 3) := by decide +kernel
theorem dX12_as_59 : decode cX12_as 59 = .ok (.iconst 0, 1) := by decide +kernel
theorem dX12_as_60 : decode cX12_as 60 = .ok (.istore_n 3, 1) := by decide +kernel
theorem dX12_as_61 : decode cX12_as 61 = .ok (.iload_n 3, 1) := by decide +kernel
theorem dX12_as_62 : decode cX12_as 62 = .ok (.ifCond .eq 7, 3) := by decide +kernel
theorem dX12_as_65 : decode cX12_as 65 = .ok (.iload_n 1, 1) := by decide +kernel
theorem dX12_as_66 : decode cX12_as 66 = .ok (.goto 4, 3) := by decide +kernel
theorem dX12_as_69 : decode cX12_as 69 = .ok (.iconst (-1), 1) := by decide +kernel
theorem dX12_as_70 : decode cX12_as 70 = .ok (.ireturn, 1) := by decide +kernel
theorem dX12_tellRow_0 : decode cX12_tellRow 0 = .ok (.iload_n 2, 1) := by decide +kernel
theorem dX12_tellRow_1 : decode cX12_tellRow 1 = .ok (.tableswitch 86 0 4 #[35, 49, 49, 49, 72], 35) := by decide +kernel
theorem dX12_tellRow_36 : decode cX12_tellRow 36 = .ok (.aload_n 0, 1) := by decide +kernel
theorem dX12_tellRow_37 : decode cX12_tellRow 37 = .ok (.iload_n 1, 1) := by decide +kernel
theorem dX12_tellRow_38 : decode cX12_tellRow 38 = .ok (.invokevirtual 120, 3) := by decide +kernel
theorem dX12_tellRow_41 : decode cX12_tellRow 41 = .ok (.ifCond .eq 7, 3) := by decide +kernel
theorem dX12_tellRow_44 : decode cX12_tellRow 44 = .ok (.iconst 1, 1) := by decide +kernel
theorem dX12_tellRow_45 : decode cX12_tellRow 45 = .ok (.goto 4, 3) := by decide +kernel
theorem dX12_tellRow_48 : decode cX12_tellRow 48 = .ok (.iconst 0, 1) := by decide +kernel
theorem dX12_tellRow_49 : decode cX12_tellRow 49 = .ok (.ireturn, 1) := by decide +kernel
theorem dX12_tellRow_50 : decode cX12_tellRow 50 = .ok (.iload_n 2, 1) := by decide +kernel
theorem dX12_tellRow_51 : decode cX12_tellRow 51 = .ok (.iconst 1, 1) := by decide +kernel
theorem dX12_tellRow_52 : decode cX12_tellRow 52 = .ok (.isub, 1) := by decide +kernel
theorem dX12_tellRow_53 : decode cX12_tellRow 53 = .ok (.aload_n 0, 1) := by decide +kernel
theorem dX12_tellRow_54 : decode cX12_tellRow 54 = .ok (.getfield 81, 3) := by decide +kernel
theorem dX12_tellRow_57 : decode cX12_tellRow 57 = .ok (.if_icmp .ge 14, 3) := by decide +kernel
theorem dX12_tellRow_60 : decode cX12_tellRow 60 = .ok (.aload_n 0, 1) := by decide +kernel
theorem dX12_tellRow_61 : decode cX12_tellRow 61 = .ok (.iload_n 1, 1) := by decide +kernel
theorem dX12_tellRow_62 : decode cX12_tellRow 62 = .ok (.iload_n 2, 1) := by decide +kernel
theorem dX12_tellRow_63 : decode cX12_tellRow 63 = .ok (.iconst 1, 1) := by decide +kernel
theorem dX12_tellRow_64 : decode cX12_tellRow 64 = .ok (.isub, 1) := by decide +kernel
theorem dX12_tellRow_65 : decode cX12_tellRow 65 = .ok (.invokevirtual 99, 3) := by decide +kernel
theorem dX12_tellRow_68 : decode cX12_tellRow 68 = .ok (.goto 4, 3) := by decide +kernel
theorem dX12_tellRow_71 : decode cX12_tellRow 71 = .ok (.iconst (-1), 1) := by decide +kernel
theorem dX12_tellRow_72 : decode cX12_tellRow 72 = .ok (.ireturn, 1) := by decide +kernel
theorem dX12_tellRow_73 : decode cX12_tellRow 73 = .ok (.iload_n 1, 1) := by decide +kernel
theorem dX12_tellRow_74 : decode cX12_tellRow 74 = .ok (.aload_n 0, 1) := by decide +kernel
theorem dX12_tellRow_75 : decode cX12_tellRow 75 = .ok (.getfield 41, 3) := by decide +kernel
theorem dX12_tellRow_78 : decode cX12_tellRow 78 = .ok (.if_icmp .ne 7, 3) := by decide +kernel
theorem dX12_tellRow_81 : decode cX12_tellRow 81 = .ok (.iconst 1, 1) := by decide +kernel
theorem dX12_tellRow_82 : decode cX12_tellRow 82 = .ok (.goto 4, 3) := by decide +kernel
theorem dX12_tellRow_85 : decode cX12_tellRow 85 = .ok (.iconst 0, 1) := by decide +kernel
theorem dX12_tellRow_86 : decode cX12_tellRow 86 = .ok (.ireturn, 1) := by decide +kernel
theorem dX12_tellRow_87 : decode cX12_tellRow 87 = .ok (.bipush (-102), 2) := by decide +kernel
theorem dX12_tellRow_89 : decode cX12_tellRow 89 = .ok (.ireturn, 1) := by decide +kernel
theorem dX12_row_0 : decode cX12_row 0 = .ok (.aload_n 0, 1) := by decide +kernel
theorem dX12_row_1 : decode cX12_row 1 = .ok (.iload_n 1, 1) := by decide +kernel
theorem dX12_row_2 : decode cX12_row 2 = .ok (.invokevirtual 113, 3) := by decide +kernel
theorem dX12_row_5 : decode cX12_row 5 = .ok (.ifCond .eq 12, 3) := by decide +kernel
theorem dX12_row_8 : decode cX12_row 8 = .ok (.aload_n 0, 1) := by decide +kernel
theorem dX12_row_9 : decode cX12_row 9 = .ok (.iload_n 1, 1) := by decide +kernel
theorem dX12_row_10 : decode cX12_row 10 = .ok (.iload_n 2, 1) := by decide +kernel
theorem dX12_row_11 : decode cX12_row 11 = .ok (.invokevirtual 156, 3) := by decide +kernel
theorem dX12_row_14 : decode cX12_row 14 = .ok (.goto 5, 3) := by decide +kernel
theorem dX12_row_17 : decode cX12_row 17 = .ok (.bipush (-101), 2) := by decide +kernel
theorem dX12_row_19 : decode cX12_row 19 = .ok (.ireturn, 1) := by decide +kernel
theorem dX12_seen_0 : decode cX12_seen 0 = .ok (.iload_n 1, 1) := by decide +kernel
theorem dX12_seen_1 : decode cX12_seen 1 = .ok (.i2l, 1) := by decide +kernel
theorem dX12_seen_2 : decode cX12_seen 2 = .ok (.lconst 0, 1) := by decide +kernel
theorem dX12_seen_3 : decode cX12_seen 3 = .ok (.aload_n 0, 1) := by decide +kernel
theorem dX12_seen_4 : decode cX12_seen 4 = .ok (.getfield 93, 3) := by decide +kernel
theorem dX12_seen_7 : decode cX12_seen 7 = .ok (.iconst 1, 1) := by decide +kernel
theorem dX12_seen_8 : decode cX12_seen 8 = .ok (.isub, 1) := by decide +kernel
theorem dX12_seen_9 : decode cX12_seen 9 = .ok (.i2l, 1) := by decide +kernel
theorem dX12_seen_10 : decode cX12_seen 10 = .ok (.invokestatic 46, 3) := by decide +kernel
theorem dX12_seen_13 : decode cX12_seen 13 = .ok (.ifCond .ne 6, 3) := by decide +kernel
theorem dX12_seen_16 : decode cX12_seen 16 = .ok (.bipush (-101), 2) := by decide +kernel
theorem dX12_seen_18 : decode cX12_seen 18 = .ok (.ireturn, 1) := by decide +kernel
theorem dX12_seen_19 : decode cX12_seen 19 = .ok (.iload_n 2, 1) := by decide +kernel
theorem dX12_seen_20 : decode cX12_seen 20 = .ok (.i2l, 1) := by decide +kernel
theorem dX12_seen_21 : decode cX12_seen 21 = .ok (.lconst 0, 1) := by decide +kernel
theorem dX12_seen_22 : decode cX12_seen 22 = .ok (.ldc2_w 159, 3) := by decide +kernel
theorem dX12_seen_25 : decode cX12_seen 25 = .ok (.invokestatic 46, 3) := by decide +kernel
theorem dX12_seen_28 : decode cX12_seen 28 = .ok (.ifCond .eq 16, 3) := by decide +kernel
theorem dX12_seen_31 : decode cX12_seen 31 = .ok (.aload_n 0, 1) := by decide +kernel
theorem dX12_seen_32 : decode cX12_seen 32 = .ok (.getfield 16, 3) := by decide +kernel
theorem dX12_seen_35 : decode cX12_seen 35 = .ok (.iconst 3, 1) := by decide +kernel
theorem dX12_seen_36 : decode cX12_seen 36 = .ok (.iload_n 1, 1) := by decide +kernel
theorem dX12_seen_37 : decode cX12_seen 37 = .ok (.imul, 1) := by decide +kernel
theorem dX12_seen_38 : decode cX12_seen 38 = .ok (.iload_n 2, 1) := by decide +kernel
theorem dX12_seen_39 : decode cX12_seen 39 = .ok (.iadd, 1) := by decide +kernel
theorem dX12_seen_40 : decode cX12_seen 40 = .ok (.iaload, 1) := by decide +kernel
theorem dX12_seen_41 : decode cX12_seen 41 = .ok (.goto 5, 3) := by decide +kernel
theorem dX12_seen_44 : decode cX12_seen 44 = .ok (.bipush (-102), 2) := by decide +kernel
theorem dX12_seen_46 : decode cX12_seen 46 = .ok (.ireturn, 1) := by decide +kernel
theorem dX12_keep_0 : decode cX12_keep 0 = .ok (.aload_n 0, 1) := by decide +kernel
theorem dX12_keep_1 : decode cX12_keep 1 = .ok (.getfield 16, 3) := by decide +kernel
theorem dX12_keep_4 : decode cX12_keep 4 = .ok (.iconst 3, 1) := by decide +kernel
theorem dX12_keep_5 : decode cX12_keep 5 = .ok (.aload_n 0, 1) := by decide +kernel
theorem dX12_keep_6 : decode cX12_keep 6 = .ok (.getfield 93, 3) := by decide +kernel
theorem dX12_keep_9 : decode cX12_keep 9 = .ok (.imul, 1) := by decide +kernel
theorem dX12_keep_10 : decode cX12_keep 10 = .ok (.iload_n 1, 1) := by decide +kernel
theorem dX12_keep_11 : decode cX12_keep 11 = .ok (.iastore, 1) := by decide +kernel
theorem dX12_keep_12 : decode cX12_keep 12 = .ok (.aload_n 0, 1) := by decide +kernel
theorem dX12_keep_13 : decode cX12_keep 13 = .ok (.getfield 16, 3) := by decide +kernel
theorem dX12_keep_16 : decode cX12_keep 16 = .ok (.iconst 3, 1) := by decide +kernel
theorem dX12_keep_17 : decode cX12_keep 17 = .ok (.aload_n 0, 1) := by decide +kernel
theorem dX12_keep_18 : decode cX12_keep 18 = .ok (.getfield 93, 3) := by decide +kernel
theorem dX12_keep_21 : decode cX12_keep 21 = .ok (.imul, 1) := by decide +kernel
theorem dX12_keep_22 : decode cX12_keep 22 = .ok (.iconst 1, 1) := by decide +kernel
theorem dX12_keep_23 : decode cX12_keep 23 = .ok (.iadd, 1) := by decide +kernel
theorem dX12_keep_24 : decode cX12_keep 24 = .ok (.iload_n 2, 1) := by decide +kernel
theorem dX12_keep_25 : decode cX12_keep 25 = .ok (.iastore, 1) := by decide +kernel
theorem dX12_keep_26 : decode cX12_keep 26 = .ok (.aload_n 0, 1) := by decide +kernel
theorem dX12_keep_27 : decode cX12_keep 27 = .ok (.getfield 16, 3) := by decide +kernel
theorem dX12_keep_30 : decode cX12_keep 30 = .ok (.iconst 3, 1) := by decide +kernel
theorem dX12_keep_31 : decode cX12_keep 31 = .ok (.aload_n 0, 1) := by decide +kernel
theorem dX12_keep_32 : decode cX12_keep 32 = .ok (.getfield 93, 3) := by decide +kernel
theorem dX12_keep_35 : decode cX12_keep 35 = .ok (.imul, 1) := by decide +kernel
theorem dX12_keep_36 : decode cX12_keep 36 = .ok (.iconst 2, 1) := by decide +kernel
theorem dX12_keep_37 : decode cX12_keep 37 = .ok (.iadd, 1) := by decide +kernel
theorem dX12_keep_38 : decode cX12_keep 38 = .ok (.iload_n 3, 1) := by decide +kernel
theorem dX12_keep_39 : decode cX12_keep 39 = .ok (.iastore, 1) := by decide +kernel
theorem dX12_keep_40 : decode cX12_keep 40 = .ok (.aload_n 0, 1) := by decide +kernel
theorem dX12_keep_41 : decode cX12_keep 41 = .ok (.dup, 1) := by decide +kernel
theorem dX12_keep_42 : decode cX12_keep 42 = .ok (.getfield 93, 3) := by decide +kernel
theorem dX12_keep_45 : decode cX12_keep 45 = .ok (.iconst 1, 1) := by decide +kernel
theorem dX12_keep_46 : decode cX12_keep 46 = .ok (.iadd, 1) := by decide +kernel
theorem dX12_keep_47 : decode cX12_keep 47 = .ok (.putfield 93, 3) := by decide +kernel
theorem dX12_keep_50 : decode cX12_keep 50 = .ok (.return_, 1) := by decide +kernel
theorem dX12_show_0 : decode cX12_show 0 = .ok (.aload_n 0, 1) := by decide +kernel
theorem dX12_show_1 : decode cX12_show 1 = .ok (.iload_n 1, 1) := by decide +kernel
theorem dX12_show_2 : decode cX12_show 2 = .ok (.invokevirtual 113, 3) := by decide +kernel
theorem dX12_show_5 : decode cX12_show 5 = .ok (.ifCond .eq 11, 3) := by decide +kernel
theorem dX12_show_8 : decode cX12_show 8 = .ok (.aload_n 0, 1) := by decide +kernel
theorem dX12_show_9 : decode cX12_show 9 = .ok (.iload_n 2, 1) := by decide +kernel
theorem dX12_show_10 : decode cX12_show 10 = .ok (.invokevirtual 110, 3) := by decide +kernel
theorem dX12_show_13 : decode cX12_show 13 = .ok (.ifCond .ne 6, 3) := by decide +kernel
theorem dX12_show_16 : decode cX12_show 16 = .ok (.bipush (-101), 2) := by decide +kernel
theorem dX12_show_18 : decode cX12_show 18 = .ok (.ireturn, 1) := by decide +kernel
theorem dX12_show_19 : decode cX12_show 19 = .ok (.aload_n 0, 1) := by decide +kernel
theorem dX12_show_20 : decode cX12_show 20 = .ok (.getfield 93, 3) := by decide +kernel
theorem dX12_show_23 : decode cX12_show 23 = .ok (.bipush 12, 2) := by decide +kernel
theorem dX12_show_25 : decode cX12_show 25 = .ok (.if_icmp .ne 6, 3) := by decide +kernel
theorem dX12_show_28 : decode cX12_show 28 = .ok (.bipush (-104), 2) := by decide +kernel
theorem dX12_show_30 : decode cX12_show 30 = .ok (.ireturn, 1) := by decide +kernel
theorem dX12_show_31 : decode cX12_show 31 = .ok (.aload_n 0, 1) := by decide +kernel
theorem dX12_show_32 : decode cX12_show 32 = .ok (.aload_n 0, 1) := by decide +kernel
theorem dX12_show_33 : decode cX12_show 33 = .ok (.getfield 13, 3) := by decide +kernel
theorem dX12_show_36 : decode cX12_show 36 = .ok (.iload_n 2, 1) := by decide +kernel
theorem dX12_show_37 : decode cX12_show 37 = .ok (.iaload, 1) := by decide +kernel
theorem dX12_show_38 : decode cX12_show 38 = .ok (.iload_n 1, 1) := by decide +kernel
theorem dX12_show_39 : decode cX12_show 39 = .ok (.aload_n 0, 1) := by decide +kernel
theorem dX12_show_40 : decode cX12_show 40 = .ok (.getfield 41, 3) := by decide +kernel
theorem dX12_show_43 : decode cX12_show 43 = .ok (.invokevirtual 116, 3) := by decide +kernel
theorem dX12_show_46 : decode cX12_show 46 = .ok (.istore_n 3, 1) := by decide +kernel
theorem dX12_show_47 : decode cX12_show 47 = .ok (.aload_n 0, 1) := by decide +kernel
theorem dX12_show_48 : decode cX12_show 48 = .ok (.iload_n 1, 1) := by decide +kernel
theorem dX12_show_49 : decode cX12_show 49 = .ok (.iload_n 2, 1) := by decide +kernel
theorem dX12_show_50 : decode cX12_show 50 = .ok (.iload_n 3, 1) := by decide +kernel
theorem dX12_show_51 : decode cX12_show 51 = .ok (.invokevirtual 161, 3) := by decide +kernel
theorem dX12_show_54 : decode cX12_show 54 = .ok (.iload_n 3, 1) := by decide +kernel
theorem dX12_show_55 : decode cX12_show 55 = .ok (.ireturn, 1) := by decide +kernel
theorem dX12_note_0 : decode cX12_note 0 = .ok (.aload_n 0, 1) := by decide +kernel
theorem dX12_note_1 : decode cX12_note 1 = .ok (.iload_n 1, 1) := by decide +kernel
theorem dX12_note_2 : decode cX12_note 2 = .ok (.invokevirtual 113, 3) := by decide +kernel
theorem dX12_note_5 : decode cX12_note 5 = .ok (.ifCond .eq 11, 3) := by decide +kernel
theorem dX12_note_8 : decode cX12_note 8 = .ok (.aload_n 0, 1) := by decide +kernel
theorem dX12_note_9 : decode cX12_note 9 = .ok (.iload_n 2, 1) := by decide +kernel
theorem dX12_note_10 : decode cX12_note 10 = .ok (.invokevirtual 110, 3) := by decide +kernel
theorem dX12_note_13 : decode cX12_note 13 = .ok (.ifCond .ne 6, 3) := by decide +kernel
theorem dX12_note_16 : decode cX12_note 16 = .ok (.bipush (-101), 2) := by decide +kernel
theorem dX12_note_18 : decode cX12_note 18 = .ok (.ireturn, 1) := by decide +kernel
theorem dX12_note_19 : decode cX12_note 19 = .ok (.iload_n 3, 1) := by decide +kernel
theorem dX12_note_20 : decode cX12_note 20 = .ok (.i2l, 1) := by decide +kernel
theorem dX12_note_21 : decode cX12_note 21 = .ok (.lconst 0, 1) := by decide +kernel
theorem dX12_note_22 : decode cX12_note 22 = .ok (.ldc2_w 165, 3) := by decide +kernel
theorem dX12_note_25 : decode cX12_note 25 = .ok (.invokestatic 46, 3) := by decide +kernel
theorem dX12_note_28 : decode cX12_note 28 = .ok (.ifCond .ne 6, 3) := by decide +kernel
theorem dX12_note_31 : decode cX12_note 31 = .ok (.bipush (-102), 2) := by decide +kernel
theorem dX12_note_33 : decode cX12_note 33 = .ok (.ireturn, 1) := by decide +kernel
theorem dX12_note_34 : decode cX12_note 34 = .ok (.aload_n 0, 1) := by decide +kernel
theorem dX12_note_35 : decode cX12_note 35 = .ok (.getfield 93, 3) := by decide +kernel
theorem dX12_note_38 : decode cX12_note 38 = .ok (.bipush 12, 2) := by decide +kernel
theorem dX12_note_40 : decode cX12_note 40 = .ok (.if_icmp .ne 6, 3) := by decide +kernel
theorem dX12_note_43 : decode cX12_note 43 = .ok (.bipush (-104), 2) := by decide +kernel
theorem dX12_note_45 : decode cX12_note 45 = .ok (.ireturn, 1) := by decide +kernel
theorem dX12_note_46 : decode cX12_note 46 = .ok (.aload_n 0, 1) := by decide +kernel
theorem dX12_note_47 : decode cX12_note 47 = .ok (.iload_n 1, 1) := by decide +kernel
theorem dX12_note_48 : decode cX12_note 48 = .ok (.iload_n 2, 1) := by decide +kernel
theorem dX12_note_49 : decode cX12_note 49 = .ok (.iload_n 3, 1) := by decide +kernel
theorem dX12_note_50 : decode cX12_note 50 = .ok (.invokevirtual 161, 3) := by decide +kernel
theorem dX12_note_53 : decode cX12_note 53 = .ok (.aload_n 0, 1) := by decide +kernel
theorem dX12_note_54 : decode cX12_note 54 = .ok (.invokevirtual 133, 3) := by decide +kernel
theorem dX12_note_57 : decode cX12_note 57 = .ok (.ireturn, 1) := by decide +kernel
theorem dX12_strike_0 : decode cX12_strike 0 = .ok (.aload_n 0, 1) := by decide +kernel
theorem dX12_strike_1 : decode cX12_strike 1 = .ok (.getfield 93, 3) := by decide +kernel
theorem dX12_strike_4 : decode cX12_strike 4 = .ok (.ifCond .ne 6, 3) := by decide +kernel
theorem dX12_strike_7 : decode cX12_strike 7 = .ok (.bipush (-103), 2) := by decide +kernel
theorem dX12_strike_9 : decode cX12_strike 9 = .ok (.ireturn, 1) := by decide +kernel
theorem dX12_strike_10 : decode cX12_strike 10 = .ok (.aload_n 0, 1) := by decide +kernel
theorem dX12_strike_11 : decode cX12_strike 11 = .ok (.dup, 1) := by decide +kernel
theorem dX12_strike_12 : decode cX12_strike 12 = .ok (.getfield 93, 3) := by decide +kernel
theorem dX12_strike_15 : decode cX12_strike 15 = .ok (.iconst 1, 1) := by decide +kernel
theorem dX12_strike_16 : decode cX12_strike 16 = .ok (.isub, 1) := by decide +kernel
theorem dX12_strike_17 : decode cX12_strike 17 = .ok (.putfield 93, 3) := by decide +kernel
theorem dX12_strike_20 : decode cX12_strike 20 = .ok (.aload_n 0, 1) := by decide +kernel
theorem dX12_strike_21 : decode cX12_strike 21 = .ok (.getfield 93, 3) := by decide +kernel
theorem dX12_strike_24 : decode cX12_strike 24 = .ok (.ireturn, 1) := by decide +kernel
theorem dX12_forget_0 : decode cX12_forget 0 = .ok (.aload_n 0, 1) := by decide +kernel
theorem dX12_forget_1 : decode cX12_forget 1 = .ok (.getfield 93, 3) := by decide +kernel
theorem dX12_forget_4 : decode cX12_forget 4 = .ok (.istore_n 1, 1) := by decide +kernel
theorem dX12_forget_5 : decode cX12_forget 5 = .ok (.aload_n 0, 1) := by decide +kernel
theorem dX12_forget_6 : decode cX12_forget 6 = .ok (.iconst 0, 1) := by decide +kernel
theorem dX12_forget_7 : decode cX12_forget 7 = .ok (.putfield 93, 3) := by decide +kernel
theorem dX12_forget_10 : decode cX12_forget 10 = .ok (.iload_n 1, 1) := by decide +kernel
theorem dX12_forget_11 : decode cX12_forget 11 = .ok (.ireturn, 1) := by decide +kernel
theorem dX12_hide_0 : decode cX12_hide 0 = .ok (.aload_n 0, 1) := by decide +kernel
theorem dX12_hide_1 : decode cX12_hide 1 = .ok (.iload_n 1, 1) := by decide +kernel
theorem dX12_hide_2 : decode cX12_hide 2 = .ok (.invokevirtual 113, 3) := by decide +kernel
theorem dX12_hide_5 : decode cX12_hide 5 = .ok (.ifCond .ne 6, 3) := by decide +kernel
theorem dX12_hide_8 : decode cX12_hide 8 = .ok (.bipush (-101), 2) := by decide +kernel
theorem dX12_hide_10 : decode cX12_hide 10 = .ok (.ireturn, 1) := by decide +kernel
theorem dX12_hide_11 : decode cX12_hide 11 = .ok (.aload_n 0, 1) := by decide +kernel
theorem dX12_hide_12 : decode cX12_hide 12 = .ok (.getfield 41, 3) := by decide +kernel
theorem dX12_hide_15 : decode cX12_hide 15 = .ok (.istore_n 2, 1) := by decide +kernel
theorem dX12_hide_16 : decode cX12_hide 16 = .ok (.aload_n 0, 1) := by decide +kernel
theorem dX12_hide_17 : decode cX12_hide 17 = .ok (.iload_n 1, 1) := by decide +kernel
theorem dX12_hide_18 : decode cX12_hide 18 = .ok (.putfield 41, 3) := by decide +kernel
theorem dX12_hide_21 : decode cX12_hide 21 = .ok (.iload_n 2, 1) := by decide +kernel
theorem dX12_hide_22 : decode cX12_hide 22 = .ok (.ireturn, 1) := by decide +kernel
theorem dX12_swap_0 : decode cX12_swap 0 = .ok (.aload_n 0, 1) := by decide +kernel
theorem dX12_swap_1 : decode cX12_swap 1 = .ok (.iload_n 1, 1) := by decide +kernel
theorem dX12_swap_2 : decode cX12_swap 2 = .ok (.invokevirtual 110, 3) := by decide +kernel
theorem dX12_swap_5 : decode cX12_swap 5 = .ok (.ifCond .ne 6, 3) := by decide +kernel
theorem dX12_swap_8 : decode cX12_swap 8 = .ok (.bipush (-101), 2) := by decide +kernel
theorem dX12_swap_10 : decode cX12_swap 10 = .ok (.ireturn, 1) := by decide +kernel
theorem dX12_swap_11 : decode cX12_swap 11 = .ok (.iload_n 2, 1) := by decide +kernel
theorem dX12_swap_12 : decode cX12_swap 12 = .ok (.i2l, 1) := by decide +kernel
theorem dX12_swap_13 : decode cX12_swap 13 = .ok (.lconst 0, 1) := by decide +kernel
theorem dX12_swap_14 : decode cX12_swap 14 = .ok (.ldc2_w 154, 3) := by decide +kernel
theorem dX12_swap_17 : decode cX12_swap 17 = .ok (.invokestatic 46, 3) := by decide +kernel
theorem dX12_swap_20 : decode cX12_swap 20 = .ok (.ifCond .ne 6, 3) := by decide +kernel
theorem dX12_swap_23 : decode cX12_swap 23 = .ok (.bipush (-102), 2) := by decide +kernel
theorem dX12_swap_25 : decode cX12_swap 25 = .ok (.ireturn, 1) := by decide +kernel
theorem dX12_swap_26 : decode cX12_swap 26 = .ok (.aload_n 0, 1) := by decide +kernel
theorem dX12_swap_27 : decode cX12_swap 27 = .ok (.getfield 13, 3) := by decide +kernel
theorem dX12_swap_30 : decode cX12_swap 30 = .ok (.iload_n 1, 1) := by decide +kernel
theorem dX12_swap_31 : decode cX12_swap 31 = .ok (.iaload, 1) := by decide +kernel
theorem dX12_swap_32 : decode cX12_swap 32 = .ok (.istore_n 3, 1) := by decide +kernel
theorem dX12_swap_33 : decode cX12_swap 33 = .ok (.aload_n 0, 1) := by decide +kernel
theorem dX12_swap_34 : decode cX12_swap 34 = .ok (.getfield 13, 3) := by decide +kernel
theorem dX12_swap_37 : decode cX12_swap 37 = .ok (.iload_n 1, 1) := by decide +kernel
theorem dX12_swap_38 : decode cX12_swap 38 = .ok (.iload_n 2, 1) := by decide +kernel
theorem dX12_swap_39 : decode cX12_swap 39 = .ok (.iastore, 1) := by decide +kernel
theorem dX12_swap_40 : decode cX12_swap 40 = .ok (.iload_n 3, 1) := by decide +kernel
theorem dX12_swap_41 : decode cX12_swap 41 = .ok (.ireturn, 1) := by decide +kernel
theorem dX12_laySizes_0 : decode cX12_laySizes 0 = .ok (.iconst 0, 1) := by decide +kernel
theorem dX12_laySizes_1 : decode cX12_laySizes 1 = .ok (.istore_n 3, 1) := by decide +kernel
theorem dX12_laySizes_2 : decode cX12_laySizes 2 = .ok (.iload_n 3, 1) := by decide +kernel
theorem dX12_laySizes_3 : decode cX12_laySizes 3 = .ok (.bipush 41, 2) := by decide +kernel
theorem dX12_laySizes_5 : decode cX12_laySizes 5 = .ok (.if_icmp .ge 16, 3) := by decide +kernel
theorem dX12_laySizes_8 : decode cX12_laySizes 8 = .ok (.aload_n 0, 1) := by decide +kernel
theorem dX12_laySizes_9 : decode cX12_laySizes 9 = .ok (.getfield 22, 3) := by decide +kernel
theorem dX12_laySizes_12 : decode cX12_laySizes 12 = .ok (.iload_n 3, 1) := by decide +kernel
theorem dX12_laySizes_13 : decode cX12_laySizes 13 = .ok (.iconst 0, 1) := by decide +kernel
theorem dX12_laySizes_14 : decode cX12_laySizes 14 = .ok (.iastore, 1) := by decide +kernel
theorem dX12_laySizes_15 : decode cX12_laySizes 15 = .ok (.iinc 3 1, 3) := by decide +kernel
theorem dX12_laySizes_18 : decode cX12_laySizes 18 = .ok (.goto (-16), 3) := by decide +kernel
theorem dX12_laySizes_21 : decode cX12_laySizes 21 = .ok (.iconst 0, 1) := by decide +kernel
theorem dX12_laySizes_22 : decode cX12_laySizes 22 = .ok (.istore_n 3, 1) := by decide +kernel
theorem dX12_laySizes_23 : decode cX12_laySizes 23 = .ok (.iload_n 3, 1) := by decide +kernel
theorem dX12_laySizes_24 : decode cX12_laySizes 24 = .ok (.aload_n 0, 1) := by decide +kernel
theorem dX12_laySizes_25 : decode cX12_laySizes 25 = .ok (.getfield 90, 3) := by decide +kernel
theorem dX12_laySizes_28 : decode cX12_laySizes 28 = .ok (.if_icmp .ge 35, 3) := by decide +kernel
theorem dX12_laySizes_31 : decode cX12_laySizes 31 = .ok (.aload_n 0, 1) := by decide +kernel
theorem dX12_laySizes_32 : decode cX12_laySizes 32 = .ok (.getfield 19, 3) := by decide +kernel
theorem dX12_laySizes_35 : decode cX12_laySizes 35 = .ok (.iload_n 3, 1) := by decide +kernel
theorem dX12_laySizes_36 : decode cX12_laySizes 36 = .ok (.iaload, 1) := by decide +kernel
theorem dX12_laySizes_37 : decode cX12_laySizes 37 = .ok (.iconst 1, 1) := by decide +kernel
theorem dX12_laySizes_38 : decode cX12_laySizes 38 = .ok (.if_icmp .ne 19, 3) := by decide +kernel
theorem dX12_laySizes_41 : decode cX12_laySizes 41 = .ok (.aload_n 0, 1) := by decide +kernel
theorem dX12_laySizes_42 : decode cX12_laySizes 42 = .ok (.getfield 22, 3) := by decide +kernel
theorem dX12_laySizes_45 : decode cX12_laySizes 45 = .ok (.aload_n 0, 1) := by decide +kernel
theorem dX12_laySizes_46 : decode cX12_laySizes 46 = .ok (.iload_n 1, 1) := by decide +kernel
theorem dX12_laySizes_47 : decode cX12_laySizes 47 = .ok (.iload_n 2, 1) := by decide +kernel
theorem dX12_laySizes_48 : decode cX12_laySizes 48 = .ok (.iload_n 3, 1) := by decide +kernel
theorem dX12_laySizes_49 : decode cX12_laySizes 49 = .ok (.invokevirtual 116, 3) := by decide +kernel
theorem dX12_laySizes_52 : decode cX12_laySizes 52 = .ok (.dup2, 1) := by decide +kernel
theorem dX12_laySizes_53 : decode cX12_laySizes 53 = .ok (.iaload, 1) := by decide +kernel
theorem dX12_laySizes_54 : decode cX12_laySizes 54 = .ok (.iconst 1, 1) := by decide +kernel
theorem dX12_laySizes_55 : decode cX12_laySizes 55 = .ok (.iadd, 1) := by decide +kernel
theorem dX12_laySizes_56 : decode cX12_laySizes 56 = .ok (.iastore, 1) := by decide +kernel
theorem dX12_laySizes_57 : decode cX12_laySizes 57 = .ok (.iinc 3 1, 3) := by decide +kernel
theorem dX12_laySizes_60 : decode cX12_laySizes 60 = .ok (.goto (-37), 3) := by decide +kernel
theorem dX12_laySizes_63 : decode cX12_laySizes 63 = .ok (.return_, 1) := by decide +kernel
theorem dX12_greatest_0 : decode cX12_greatest 0 = .ok (.iconst 0, 1) := by decide +kernel
theorem dX12_greatest_1 : decode cX12_greatest 1 = .ok (.istore_n 1, 1) := by decide +kernel
theorem dX12_greatest_2 : decode cX12_greatest 2 = .ok (.iconst 0, 1) := by decide +kernel
theorem dX12_greatest_3 : decode cX12_greatest 3 = .ok (.istore_n 2, 1) := by decide +kernel
theorem dX12_greatest_4 : decode cX12_greatest 4 = .ok (.iload_n 2, 1) := by decide +kernel
theorem dX12_greatest_5 : decode cX12_greatest 5 = .ok (.bipush 41, 2) := by decide +kernel
theorem dX12_greatest_7 : decode cX12_greatest 7 = .ok (.if_icmp .ge 30, 3) := by decide +kernel
theorem dX12_greatest_10 : decode cX12_greatest 10 = .ok (.aload_n 0, 1) := by decide +kernel
theorem dX12_greatest_11 : decode cX12_greatest 11 = .ok (.getfield 22, 3) := by decide +kernel
theorem dX12_greatest_14 : decode cX12_greatest 14 = .ok (.iload_n 2, 1) := by decide +kernel
theorem dX12_greatest_15 : decode cX12_greatest 15 = .ok (.iaload, 1) := by decide +kernel
theorem dX12_greatest_16 : decode cX12_greatest 16 = .ok (.iload_n 1, 1) := by decide +kernel
theorem dX12_greatest_17 : decode cX12_greatest 17 = .ok (.if_icmp .le 12, 3) := by decide +kernel
theorem dX12_greatest_20 : decode cX12_greatest 20 = .ok (.aload_n 0, 1) := by decide +kernel
theorem dX12_greatest_21 : decode cX12_greatest 21 = .ok (.getfield 22, 3) := by decide +kernel
theorem dX12_greatest_24 : decode cX12_greatest 24 = .ok (.iload_n 2, 1) := by decide +kernel
theorem dX12_greatest_25 : decode cX12_greatest 25 = .ok (.iaload, 1) := by decide +kernel
theorem dX12_greatest_26 : decode cX12_greatest 26 = .ok (.goto 4, 3) := by decide +kernel
theorem dX12_greatest_29 : decode cX12_greatest 29 = .ok (.iload_n 1, 1) := by decide +kernel
theorem dX12_greatest_30 : decode cX12_greatest 30 = .ok (.istore_n 1, 1) := by decide +kernel
theorem dX12_greatest_31 : decode cX12_greatest 31 = .ok (.iinc 2 1, 3) := by decide +kernel
theorem dX12_greatest_34 : decode cX12_greatest 34 = .ok (.goto (-30), 3) := by decide +kernel
theorem dX12_greatest_37 : decode cX12_greatest 37 = .ok (.iload_n 1, 1) := by decide +kernel
theorem dX12_greatest_38 : decode cX12_greatest 38 = .ok (.ireturn, 1) := by decide +kernel
theorem dX12_bestBy_0 : decode cX12_bestBy 0 = .ok (.iconst (-1), 1) := by decide +kernel
theorem dX12_bestBy_1 : decode cX12_bestBy 1 = .ok (.istore_n 2, 1) := by decide +kernel
theorem dX12_bestBy_2 : decode cX12_bestBy 2 = .ok (.sipush 1000, 3) := by decide +kernel
theorem dX12_bestBy_5 : decode cX12_bestBy 5 = .ok (.istore_n 3, 1) := by decide +kernel
theorem dX12_bestBy_6 : decode cX12_bestBy 6 = .ok (.iconst 0, 1) := by decide +kernel
theorem dX12_bestBy_7 : decode cX12_bestBy 7 = .ok (.istore 4, 2) := by decide +kernel
theorem dX12_bestBy_9 : decode cX12_bestBy 9 = .ok (.iload 4, 2) := by decide +kernel
theorem dX12_bestBy_11 : decode cX12_bestBy 11 = .ok (.aload_n 0, 1) := by decide +kernel
theorem dX12_bestBy_12 : decode cX12_bestBy 12 = .ok (.getfield 90, 3) := by decide +kernel
theorem dX12_bestBy_15 : decode cX12_bestBy 15 = .ok (.if_icmp .ge 67, 3) := by decide +kernel
theorem dX12_bestBy_18 : decode cX12_bestBy 18 = .ok (.aload_n 0, 1) := by decide +kernel
theorem dX12_bestBy_19 : decode cX12_bestBy 19 = .ok (.invokevirtual 126, 3) := by decide +kernel
theorem dX12_bestBy_22 : decode cX12_bestBy 22 = .ok (.ifCond .le 60, 3) := by decide +kernel
theorem dX12_bestBy_25 : decode cX12_bestBy 25 = .ok (.aload_n 0, 1) := by decide +kernel
theorem dX12_bestBy_26 : decode cX12_bestBy 26 = .ok (.iload_n 1, 1) := by decide +kernel
theorem dX12_bestBy_27 : decode cX12_bestBy 27 = .ok (.iload 4, 2) := by decide +kernel
theorem dX12_bestBy_29 : decode cX12_bestBy 29 = .ok (.invokevirtual 167, 3) := by decide +kernel
theorem dX12_bestBy_32 : decode cX12_bestBy 32 = .ok (.iconst 2, 1) := by decide +kernel
theorem dX12_bestBy_33 : decode cX12_bestBy 33 = .ok (.aload_n 0, 1) := by decide +kernel
theorem dX12_bestBy_34 : decode cX12_bestBy 34 = .ok (.invokevirtual 171, 3) := by decide +kernel
theorem dX12_bestBy_37 : decode cX12_bestBy 37 = .ok (.imul, 1) := by decide +kernel
theorem dX12_bestBy_38 : decode cX12_bestBy 38 = .ok (.iconst 1, 1) := by decide +kernel
theorem dX12_bestBy_39 : decode cX12_bestBy 39 = .ok (.iadd, 1) := by decide +kernel
theorem dX12_bestBy_40 : decode cX12_bestBy 40 = .ok (.aload_n 0, 1) := by decide +kernel
theorem dX12_bestBy_41 : decode cX12_bestBy 41 = .ok (.getfield 19, 3) := by decide +kernel
theorem dX12_bestBy_44 : decode cX12_bestBy 44 = .ok (.iload 4, 2) := by decide +kernel
theorem dX12_bestBy_46 : decode cX12_bestBy 46 = .ok (.iaload, 1) := by decide +kernel
theorem dX12_bestBy_47 : decode cX12_bestBy 47 = .ok (.isub, 1) := by decide +kernel
theorem dX12_bestBy_48 : decode cX12_bestBy 48 = .ok (.istore 5, 2) := by decide +kernel
theorem dX12_bestBy_50 : decode cX12_bestBy 50 = .ok (.iload 5, 2) := by decide +kernel
theorem dX12_bestBy_52 : decode cX12_bestBy 52 = .ok (.iload_n 3, 1) := by decide +kernel
theorem dX12_bestBy_53 : decode cX12_bestBy 53 = .ok (.if_icmp .ge 8, 3) := by decide +kernel
theorem dX12_bestBy_56 : decode cX12_bestBy 56 = .ok (.iload 4, 2) := by decide +kernel
theorem dX12_bestBy_58 : decode cX12_bestBy 58 = .ok (.goto 4, 3) := by decide +kernel
theorem dX12_bestBy_61 : decode cX12_bestBy 61 = .ok (.iload_n 2, 1) := by decide +kernel
theorem dX12_bestBy_62 : decode cX12_bestBy 62 = .ok (.istore_n 2, 1) := by decide +kernel
theorem dX12_bestBy_63 : decode cX12_bestBy 63 = .ok (.iload 5, 2) := by decide +kernel
theorem dX12_bestBy_65 : decode cX12_bestBy 65 = .ok (.iload_n 3, 1) := by decide +kernel
theorem dX12_bestBy_66 : decode cX12_bestBy 66 = .ok (.if_icmp .ge 8, 3) := by decide +kernel
theorem dX12_bestBy_69 : decode cX12_bestBy 69 = .ok (.iload 5, 2) := by decide +kernel
theorem dX12_bestBy_71 : decode cX12_bestBy 71 = .ok (.goto 4, 3) := by decide +kernel
theorem dX12_bestBy_74 : decode cX12_bestBy 74 = .ok (.iload_n 3, 1) := by decide +kernel
theorem dX12_bestBy_75 : decode cX12_bestBy 75 = .ok (.istore_n 3, 1) := by decide +kernel
theorem dX12_bestBy_76 : decode cX12_bestBy 76 = .ok (.iinc 4 1, 3) := by decide +kernel
theorem dX12_bestBy_79 : decode cX12_bestBy 79 = .ok (.goto (-70), 3) := by decide +kernel
theorem dX12_bestBy_82 : decode cX12_bestBy 82 = .ok (.aload_n 0, 1) := by decide +kernel
theorem dX12_bestBy_83 : decode cX12_bestBy 83 = .ok (.iload_n 2, 1) := by decide +kernel
theorem dX12_bestBy_84 : decode cX12_bestBy 84 = .ok (.iconst (-1), 1) := by decide +kernel
theorem dX12_bestBy_85 : decode cX12_bestBy 85 = .ok (.if_icmp .ne 7, 3) := by decide +kernel
theorem dX12_bestBy_88 : decode cX12_bestBy 88 = .ok (.iconst 0, 1) := by decide +kernel
theorem dX12_bestBy_89 : decode cX12_bestBy 89 = .ok (.goto 6, 3) := by decide +kernel
theorem dX12_bestBy_92 : decode cX12_bestBy 92 = .ok (.iload_n 3, 1) := by decide +kernel
theorem dX12_bestBy_93 : decode cX12_bestBy 93 = .ok (.iconst 2, 1) := by decide +kernel
theorem dX12_bestBy_94 : decode cX12_bestBy 94 = .ok (.idiv, 1) := by decide +kernel
theorem dX12_bestBy_95 : decode cX12_bestBy 95 = .ok (.putfield 174, 3) := by decide +kernel
theorem dX12_bestBy_98 : decode cX12_bestBy 98 = .ok (.iload_n 2, 1) := by decide +kernel
theorem dX12_bestBy_99 : decode cX12_bestBy 99 = .ok (.ireturn, 1) := by decide +kernel
theorem dX12_best_0 : decode cX12_best 0 = .ok (.aload_n 0, 1) := by decide +kernel
theorem dX12_best_1 : decode cX12_best 1 = .ok (.iload_n 1, 1) := by decide +kernel
theorem dX12_best_2 : decode cX12_best 2 = .ok (.invokevirtual 110, 3) := by decide +kernel
theorem dX12_best_5 : decode cX12_best 5 = .ok (.ifCond .ne 6, 3) := by decide +kernel
theorem dX12_best_8 : decode cX12_best 8 = .ok (.bipush (-101), 2) := by decide +kernel
theorem dX12_best_10 : decode cX12_best 10 = .ok (.ireturn, 1) := by decide +kernel
theorem dX12_best_11 : decode cX12_best 11 = .ok (.iload_n 2, 1) := by decide +kernel
theorem dX12_best_12 : decode cX12_best 12 = .ok (.i2l, 1) := by decide +kernel
theorem dX12_best_13 : decode cX12_best 13 = .ok (.lconst 0, 1) := by decide +kernel
theorem dX12_best_14 : decode cX12_best 14 = .ok (.lconst 1, 1) := by decide +kernel
theorem dX12_best_15 : decode cX12_best 15 = .ok (.invokestatic 46, 3) := by decide +kernel
theorem dX12_best_18 : decode cX12_best 18 = .ok (.ifCond .ne 6, 3) := by decide +kernel
theorem dX12_best_21 : decode cX12_best 21 = .ok (.bipush (-102), 2) := by decide +kernel
theorem dX12_best_23 : decode cX12_best 23 = .ok (.ireturn, 1) := by decide +kernel
theorem dX12_best_24 : decode cX12_best 24 = .ok (.aload_n 0, 1) := by decide +kernel
theorem dX12_best_25 : decode cX12_best 25 = .ok (.getfield 177, 3) := by decide +kernel
theorem dX12_best_28 : decode cX12_best 28 = .ok (.bipush 24, 2) := by decide +kernel
theorem dX12_best_30 : decode cX12_best 30 = .ok (.if_icmp .ne 6, 3) := by decide +kernel
theorem dX12_best_33 : decode cX12_best 33 = .ok (.bipush (-103), 2) := by decide +kernel
theorem dX12_best_35 : decode cX12_best 35 = .ok (.ireturn, 1) := by decide +kernel
theorem dX12_best_36 : decode cX12_best 36 = .ok (.aload_n 0, 1) := by decide +kernel
theorem dX12_best_37 : decode cX12_best 37 = .ok (.dup, 1) := by decide +kernel
theorem dX12_best_38 : decode cX12_best 38 = .ok (.getfield 177, 3) := by decide +kernel
theorem dX12_best_41 : decode cX12_best 41 = .ok (.iconst 1, 1) := by decide +kernel
theorem dX12_best_42 : decode cX12_best 42 = .ok (.iadd, 1) := by decide +kernel
theorem dX12_best_43 : decode cX12_best 43 = .ok (.putfield 177, 3) := by decide +kernel
theorem dX12_best_46 : decode cX12_best 46 = .ok (.aload_n 0, 1) := by decide +kernel
theorem dX12_best_47 : decode cX12_best 47 = .ok (.invokevirtual 123, 3) := by decide +kernel
theorem dX12_best_50 : decode cX12_best 50 = .ok (.aload_n 0, 1) := by decide +kernel
theorem dX12_best_51 : decode cX12_best 51 = .ok (.aload_n 0, 1) := by decide +kernel
theorem dX12_best_52 : decode cX12_best 52 = .ok (.getfield 13, 3) := by decide +kernel
theorem dX12_best_55 : decode cX12_best 55 = .ok (.iload_n 1, 1) := by decide +kernel
theorem dX12_best_56 : decode cX12_best 56 = .ok (.iaload, 1) := by decide +kernel
theorem dX12_best_57 : decode cX12_best 57 = .ok (.invokevirtual 180, 3) := by decide +kernel
theorem dX12_best_60 : decode cX12_best 60 = .ok (.istore_n 3, 1) := by decide +kernel
theorem dX12_best_61 : decode cX12_best 61 = .ok (.iload_n 2, 1) := by decide +kernel
theorem dX12_best_62 : decode cX12_best 62 = .ok (.ifCond .ne 7, 3) := by decide +kernel
theorem dX12_best_65 : decode cX12_best 65 = .ok (.iload_n 3, 1) := by decide +kernel
theorem dX12_best_66 : decode cX12_best 66 = .ok (.goto 7, 3) := by decide +kernel
theorem dX12_best_69 : decode cX12_best 69 = .ok (.aload_n 0, 1) := by decide +kernel
theorem dX12_best_70 : decode cX12_best 70 = .ok (.getfield 174, 3) := by decide +kernel
theorem dX12_best_73 : decode cX12_best 73 = .ok (.ireturn, 1) := by decide +kernel
theorem dX12_restOf_0 : decode cX12_restOf 0 = .ok (.aload_n 0, 1) := by decide +kernel
theorem dX12_restOf_1 : decode cX12_restOf 1 = .ok (.invokevirtual 123, 3) := by decide +kernel
theorem dX12_restOf_4 : decode cX12_restOf 4 = .ok (.aload_n 0, 1) := by decide +kernel
theorem dX12_restOf_5 : decode cX12_restOf 5 = .ok (.aload_n 0, 1) := by decide +kernel
theorem dX12_restOf_6 : decode cX12_restOf 6 = .ok (.getfield 13, 3) := by decide +kernel
theorem dX12_restOf_9 : decode cX12_restOf 9 = .ok (.iload_n 2, 1) := by decide +kernel
theorem dX12_restOf_10 : decode cX12_restOf 10 = .ok (.iaload, 1) := by decide +kernel
theorem dX12_restOf_11 : decode cX12_restOf 11 = .ok (.iload_n 1, 1) := by decide +kernel
theorem dX12_restOf_12 : decode cX12_restOf 12 = .ok (.invokevirtual 167, 3) := by decide +kernel
theorem dX12_restOf_15 : decode cX12_restOf 15 = .ok (.iconst 0, 1) := by decide +kernel
theorem dX12_restOf_16 : decode cX12_restOf 16 = .ok (.istore 4, 2) := by decide +kernel
theorem dX12_restOf_18 : decode cX12_restOf 18 = .ok (.iconst 0, 1) := by decide +kernel
theorem dX12_restOf_19 : decode cX12_restOf 19 = .ok (.istore 5, 2) := by decide +kernel
theorem dX12_restOf_21 : decode cX12_restOf 21 = .ok (.iload 5, 2) := by decide +kernel
theorem dX12_restOf_23 : decode cX12_restOf 23 = .ok (.bipush 41, 2) := by decide +kernel
theorem dX12_restOf_25 : decode cX12_restOf 25 = .ok (.if_icmp .ge 29, 3) := by decide +kernel
theorem dX12_restOf_28 : decode cX12_restOf 28 = .ok (.iload 4, 2) := by decide +kernel
theorem dX12_restOf_30 : decode cX12_restOf 30 = .ok (.aload_n 0, 1) := by decide +kernel
theorem dX12_restOf_31 : decode cX12_restOf 31 = .ok (.getfield 22, 3) := by decide +kernel
theorem dX12_restOf_34 : decode cX12_restOf 34 = .ok (.iload 5, 2) := by decide +kernel
theorem dX12_restOf_36 : decode cX12_restOf 36 = .ok (.iaload, 1) := by decide +kernel
theorem dX12_restOf_37 : decode cX12_restOf 37 = .ok (.aload_n 0, 1) := by decide +kernel
theorem dX12_restOf_38 : decode cX12_restOf 38 = .ok (.getfield 22, 3) := by decide +kernel
theorem dX12_restOf_41 : decode cX12_restOf 41 = .ok (.iload 5, 2) := by decide +kernel
theorem dX12_restOf_43 : decode cX12_restOf 43 = .ok (.iaload, 1) := by decide +kernel
theorem dX12_restOf_44 : decode cX12_restOf 44 = .ok (.imul, 1) := by decide +kernel
theorem dX12_restOf_45 : decode cX12_restOf 45 = .ok (.iadd, 1) := by decide +kernel
theorem dX12_restOf_46 : decode cX12_restOf 46 = .ok (.istore 4, 2) := by decide +kernel
theorem dX12_restOf_48 : decode cX12_restOf 48 = .ok (.iinc 5 1, 3) := by decide +kernel
theorem dX12_restOf_51 : decode cX12_restOf 51 = .ok (.goto (-30), 3) := by decide +kernel
theorem dX12_restOf_54 : decode cX12_restOf 54 = .ok (.iload 4, 2) := by decide +kernel
theorem dX12_restOf_56 : decode cX12_restOf 56 = .ok (.ifCond .ne 5, 3) := by decide +kernel
theorem dX12_restOf_59 : decode cX12_restOf 59 = .ok (.iload_n 3, 1) := by decide +kernel
theorem dX12_restOf_60 : decode cX12_restOf 60 = .ok (.ireturn, 1) := by decide +kernel
theorem dX12_restOf_61 : decode cX12_restOf 61 = .ok (.aload_n 0, 1) := by decide +kernel
theorem dX12_restOf_62 : decode cX12_restOf 62 = .ok (.invokevirtual 126, 3) := by decide +kernel
theorem dX12_restOf_65 : decode cX12_restOf 65 = .ok (.istore 5, 2) := by decide +kernel
theorem dX12_restOf_67 : decode cX12_restOf 67 = .ok (.iload 4, 2) := by decide +kernel
theorem dX12_restOf_69 : decode cX12_restOf 69 = .ok (.istore 6, 2) := by decide +kernel
theorem dX12_restOf_71 : decode cX12_restOf 71 = .ok (.iload 6, 2) := by decide +kernel
theorem dX12_restOf_73 : decode cX12_restOf 73 = .ok (.ifCond .le 21, 3) := by decide +kernel
theorem dX12_restOf_76 : decode cX12_restOf 76 = .ok (.iload 5, 2) := by decide +kernel
theorem dX12_restOf_78 : decode cX12_restOf 78 = .ok (.iload 6, 2) := by decide +kernel
theorem dX12_restOf_80 : decode cX12_restOf 80 = .ok (.irem, 1) := by decide +kernel
theorem dX12_restOf_81 : decode cX12_restOf 81 = .ok (.istore 7, 2) := by decide +kernel
theorem dX12_restOf_83 : decode cX12_restOf 83 = .ok (.iload 6, 2) := by decide +kernel
theorem dX12_restOf_85 : decode cX12_restOf 85 = .ok (.istore 5, 2) := by decide +kernel
theorem dX12_restOf_87 : decode cX12_restOf 87 = .ok (.iload 7, 2) := by decide +kernel
theorem dX12_restOf_89 : decode cX12_restOf 89 = .ok (.istore 6, 2) := by decide +kernel
theorem dX12_restOf_91 : decode cX12_restOf 91 = .ok (.goto (-20), 3) := by decide +kernel
theorem dX12_restOf_94 : decode cX12_restOf 94 = .ok (.iload_n 3, 1) := by decide +kernel
theorem dX12_restOf_95 : decode cX12_restOf 95 = .ok (.ifCond .ne 11, 3) := by decide +kernel
theorem dX12_restOf_98 : decode cX12_restOf 98 = .ok (.iload 4, 2) := by decide +kernel
theorem dX12_restOf_100 : decode cX12_restOf 100 = .ok (.iload 5, 2) := by decide +kernel
theorem dX12_restOf_102 : decode cX12_restOf 102 = .ok (.idiv, 1) := by decide +kernel
theorem dX12_restOf_103 : decode cX12_restOf 103 = .ok (.goto 10, 3) := by decide +kernel
theorem dX12_restOf_106 : decode cX12_restOf 106 = .ok (.aload_n 0, 1) := by decide +kernel
theorem dX12_restOf_107 : decode cX12_restOf 107 = .ok (.invokevirtual 126, 3) := by decide +kernel
theorem dX12_restOf_110 : decode cX12_restOf 110 = .ok (.iload 5, 2) := by decide +kernel
theorem dX12_restOf_112 : decode cX12_restOf 112 = .ok (.idiv, 1) := by decide +kernel
theorem dX12_restOf_113 : decode cX12_restOf 113 = .ok (.ireturn, 1) := by decide +kernel
theorem dX12_rest_0 : decode cX12_rest 0 = .ok (.aload_n 0, 1) := by decide +kernel
theorem dX12_rest_1 : decode cX12_rest 1 = .ok (.iload_n 1, 1) := by decide +kernel
theorem dX12_rest_2 : decode cX12_rest 2 = .ok (.invokevirtual 113, 3) := by decide +kernel
theorem dX12_rest_5 : decode cX12_rest 5 = .ok (.ifCond .eq 11, 3) := by decide +kernel
theorem dX12_rest_8 : decode cX12_rest 8 = .ok (.aload_n 0, 1) := by decide +kernel
theorem dX12_rest_9 : decode cX12_rest 9 = .ok (.iload_n 2, 1) := by decide +kernel
theorem dX12_rest_10 : decode cX12_rest 10 = .ok (.invokevirtual 110, 3) := by decide +kernel
theorem dX12_rest_13 : decode cX12_rest 13 = .ok (.ifCond .ne 6, 3) := by decide +kernel
theorem dX12_rest_16 : decode cX12_rest 16 = .ok (.bipush (-101), 2) := by decide +kernel
theorem dX12_rest_18 : decode cX12_rest 18 = .ok (.ireturn, 1) := by decide +kernel
theorem dX12_rest_19 : decode cX12_rest 19 = .ok (.iload_n 3, 1) := by decide +kernel
theorem dX12_rest_20 : decode cX12_rest 20 = .ok (.i2l, 1) := by decide +kernel
theorem dX12_rest_21 : decode cX12_rest 21 = .ok (.lconst 0, 1) := by decide +kernel
theorem dX12_rest_22 : decode cX12_rest 22 = .ok (.lconst 1, 1) := by decide +kernel
theorem dX12_rest_23 : decode cX12_rest 23 = .ok (.invokestatic 46, 3) := by decide +kernel
theorem dX12_rest_26 : decode cX12_rest 26 = .ok (.ifCond .eq 13, 3) := by decide +kernel
theorem dX12_rest_29 : decode cX12_rest 29 = .ok (.aload_n 0, 1) := by decide +kernel
theorem dX12_rest_30 : decode cX12_rest 30 = .ok (.iload_n 1, 1) := by decide +kernel
theorem dX12_rest_31 : decode cX12_rest 31 = .ok (.iload_n 2, 1) := by decide +kernel
theorem dX12_rest_32 : decode cX12_rest 32 = .ok (.iload_n 3, 1) := by decide +kernel
theorem dX12_rest_33 : decode cX12_rest 33 = .ok (.invokevirtual 183, 3) := by decide +kernel
theorem dX12_rest_36 : decode cX12_rest 36 = .ok (.goto 5, 3) := by decide +kernel
theorem dX12_rest_39 : decode cX12_rest 39 = .ok (.bipush (-102), 2) := by decide +kernel
theorem dX12_rest_41 : decode cX12_rest 41 = .ok (.ireturn, 1) := by decide +kernel
theorem dX12_longOf_0 : decode cX12_longOf 0 = .ok (.iconst 0, 1) := by decide +kernel
theorem dX12_longOf_1 : decode cX12_longOf 1 = .ok (.istore_n 3, 1) := by decide +kernel
theorem dX12_longOf_2 : decode cX12_longOf 2 = .ok (.iload_n 3, 1) := by decide +kernel
theorem dX12_longOf_3 : decode cX12_longOf 3 = .ok (.aload_n 0, 1) := by decide +kernel
theorem dX12_longOf_4 : decode cX12_longOf 4 = .ok (.getfield 90, 3) := by decide +kernel
theorem dX12_longOf_7 : decode cX12_longOf 7 = .ok (.if_icmp .ge 16, 3) := by decide +kernel
theorem dX12_longOf_10 : decode cX12_longOf 10 = .ok (.aload_n 0, 1) := by decide +kernel
theorem dX12_longOf_11 : decode cX12_longOf 11 = .ok (.getfield 19, 3) := by decide +kernel
theorem dX12_longOf_14 : decode cX12_longOf 14 = .ok (.iload_n 3, 1) := by decide +kernel
theorem dX12_longOf_15 : decode cX12_longOf 15 = .ok (.iconst 1, 1) := by decide +kernel
theorem dX12_longOf_16 : decode cX12_longOf 16 = .ok (.iastore, 1) := by decide +kernel
theorem dX12_longOf_17 : decode cX12_longOf 17 = .ok (.iinc 3 1, 3) := by decide +kernel
theorem dX12_longOf_20 : decode cX12_longOf 20 = .ok (.goto (-18), 3) := by decide +kernel
theorem dX12_longOf_23 : decode cX12_longOf 23 = .ok (.iconst 1, 1) := by decide +kernel
theorem dX12_longOf_24 : decode cX12_longOf 24 = .ok (.istore_n 3, 1) := by decide +kernel
theorem dX12_longOf_25 : decode cX12_longOf 25 = .ok (.iload_n 3, 1) := by decide +kernel
theorem dX12_longOf_26 : decode cX12_longOf 26 = .ok (.bipush 9, 2) := by decide +kernel
theorem dX12_longOf_28 : decode cX12_longOf 28 = .ok (.if_icmp .ge 91, 3) := by decide +kernel
theorem dX12_longOf_31 : decode cX12_longOf 31 = .ok (.aload_n 0, 1) := by decide +kernel
theorem dX12_longOf_32 : decode cX12_longOf 32 = .ok (.iload_n 1, 1) := by decide +kernel
theorem dX12_longOf_33 : decode cX12_longOf 33 = .ok (.invokevirtual 180, 3) := by decide +kernel
theorem dX12_longOf_36 : decode cX12_longOf 36 = .ok (.istore 4, 2) := by decide +kernel
theorem dX12_longOf_38 : decode cX12_longOf 38 = .ok (.aload_n 0, 1) := by decide +kernel
theorem dX12_longOf_39 : decode cX12_longOf 39 = .ok (.iload_n 1, 1) := by decide +kernel
theorem dX12_longOf_40 : decode cX12_longOf 40 = .ok (.iload 4, 2) := by decide +kernel
theorem dX12_longOf_42 : decode cX12_longOf 42 = .ok (.iload_n 2, 1) := by decide +kernel
theorem dX12_longOf_43 : decode cX12_longOf 43 = .ok (.invokevirtual 116, 3) := by decide +kernel
theorem dX12_longOf_46 : decode cX12_longOf 46 = .ok (.istore 5, 2) := by decide +kernel
theorem dX12_longOf_48 : decode cX12_longOf 48 = .ok (.iconst 0, 1) := by decide +kernel
theorem dX12_longOf_49 : decode cX12_longOf 49 = .ok (.istore 6, 2) := by decide +kernel
theorem dX12_longOf_51 : decode cX12_longOf 51 = .ok (.iload 6, 2) := by decide +kernel
theorem dX12_longOf_53 : decode cX12_longOf 53 = .ok (.aload_n 0, 1) := by decide +kernel
theorem dX12_longOf_54 : decode cX12_longOf 54 = .ok (.getfield 90, 3) := by decide +kernel
theorem dX12_longOf_57 : decode cX12_longOf 57 = .ok (.if_icmp .ge 46, 3) := by decide +kernel
theorem dX12_longOf_60 : decode cX12_longOf 60 = .ok (.aload_n 0, 1) := by decide +kernel
theorem dX12_longOf_61 : decode cX12_longOf 61 = .ok (.getfield 19, 3) := by decide +kernel
theorem dX12_longOf_64 : decode cX12_longOf 64 = .ok (.iload 6, 2) := by decide +kernel
theorem dX12_longOf_66 : decode cX12_longOf 66 = .ok (.aload_n 0, 1) := by decide +kernel
theorem dX12_longOf_67 : decode cX12_longOf 67 = .ok (.getfield 19, 3) := by decide +kernel
theorem dX12_longOf_70 : decode cX12_longOf 70 = .ok (.iload 6, 2) := by decide +kernel
theorem dX12_longOf_72 : decode cX12_longOf 72 = .ok (.iaload, 1) := by decide +kernel
theorem dX12_longOf_73 : decode cX12_longOf 73 = .ok (.iconst 1, 1) := by decide +kernel
theorem dX12_longOf_74 : decode cX12_longOf 74 = .ok (.if_icmp .ne 21, 3) := by decide +kernel
theorem dX12_longOf_77 : decode cX12_longOf 77 = .ok (.aload_n 0, 1) := by decide +kernel
theorem dX12_longOf_78 : decode cX12_longOf 78 = .ok (.iload_n 1, 1) := by decide +kernel
theorem dX12_longOf_79 : decode cX12_longOf 79 = .ok (.iload 4, 2) := by decide +kernel
theorem dX12_longOf_81 : decode cX12_longOf 81 = .ok (.iload 6, 2) := by decide +kernel
theorem dX12_longOf_83 : decode cX12_longOf 83 = .ok (.invokevirtual 116, 3) := by decide +kernel
theorem dX12_longOf_86 : decode cX12_longOf 86 = .ok (.iload 5, 2) := by decide +kernel
theorem dX12_longOf_88 : decode cX12_longOf 88 = .ok (.if_icmp .ne 7, 3) := by decide +kernel
theorem dX12_longOf_91 : decode cX12_longOf 91 = .ok (.iconst 1, 1) := by decide +kernel
theorem dX12_longOf_92 : decode cX12_longOf 92 = .ok (.goto 4, 3) := by decide +kernel
theorem dX12_longOf_95 : decode cX12_longOf 95 = .ok (.iconst 0, 1) := by decide +kernel
theorem dX12_longOf_96 : decode cX12_longOf 96 = .ok (.iastore, 1) := by decide +kernel
theorem dX12_longOf_97 : decode cX12_longOf 97 = .ok (.iinc 6 1, 3) := by decide +kernel
theorem dX12_longOf_100 : decode cX12_longOf 100 = .ok (.goto (-49), 3) := by decide +kernel
theorem dX12_longOf_103 : decode cX12_longOf 103 = .ok (.aload_n 0, 1) := by decide +kernel
theorem dX12_longOf_104 : decode cX12_longOf 104 = .ok (.invokevirtual 126, 3) := by decide +kernel
theorem dX12_longOf_107 : decode cX12_longOf 107 = .ok (.iconst 1, 1) := by decide +kernel
theorem dX12_longOf_108 : decode cX12_longOf 108 = .ok (.if_icmp .ne 5, 3) := by decide +kernel
theorem dX12_longOf_111 : decode cX12_longOf 111 = .ok (.iload_n 3, 1) := by decide +kernel
theorem dX12_longOf_112 : decode cX12_longOf 112 = .ok (.ireturn, 1) := by decide +kernel
theorem dX12_longOf_113 : decode cX12_longOf 113 = .ok (.iinc 3 1, 3) := by decide +kernel
theorem dX12_longOf_116 : decode cX12_longOf 116 = .ok (.goto (-91), 3) := by decide +kernel
theorem dX12_longOf_119 : decode cX12_longOf 119 = .ok (.iconst (-1), 1) := by decide +kernel
theorem dX12_longOf_120 : decode cX12_longOf 120 = .ok (.ireturn, 1) := by decide +kernel
theorem dX12_howLong_0 : decode cX12_howLong 0 = .ok (.aload_n 0, 1) := by decide +kernel
theorem dX12_howLong_1 : decode cX12_howLong 1 = .ok (.iload_n 1, 1) := by decide +kernel
theorem dX12_howLong_2 : decode cX12_howLong 2 = .ok (.invokevirtual 110, 3) := by decide +kernel
theorem dX12_howLong_5 : decode cX12_howLong 5 = .ok (.ifCond .eq 11, 3) := by decide +kernel
theorem dX12_howLong_8 : decode cX12_howLong 8 = .ok (.aload_n 0, 1) := by decide +kernel
theorem dX12_howLong_9 : decode cX12_howLong 9 = .ok (.iload_n 2, 1) := by decide +kernel
theorem dX12_howLong_10 : decode cX12_howLong 10 = .ok (.invokevirtual 113, 3) := by decide +kernel
theorem dX12_howLong_13 : decode cX12_howLong 13 = .ok (.ifCond .ne 6, 3) := by decide +kernel
theorem dX12_howLong_16 : decode cX12_howLong 16 = .ok (.bipush (-101), 2) := by decide +kernel
theorem dX12_howLong_18 : decode cX12_howLong 18 = .ok (.ireturn, 1) := by decide +kernel
theorem dX12_howLong_19 : decode cX12_howLong 19 = .ok (.aload_n 0, 1) := by decide +kernel
theorem dX12_howLong_20 : decode cX12_howLong 20 = .ok (.getfield 186, 3) := by decide +kernel
theorem dX12_howLong_23 : decode cX12_howLong 23 = .ok (.bipush 6, 2) := by decide +kernel
theorem dX12_howLong_25 : decode cX12_howLong 25 = .ok (.if_icmp .ne 6, 3) := by decide +kernel
theorem dX12_howLong_28 : decode cX12_howLong 28 = .ok (.bipush (-103), 2) := by decide +kernel
theorem dX12_howLong_30 : decode cX12_howLong 30 = .ok (.ireturn, 1) := by decide +kernel
theorem dX12_howLong_31 : decode cX12_howLong 31 = .ok (.aload_n 0, 1) := by decide +kernel
theorem dX12_howLong_32 : decode cX12_howLong 32 = .ok (.dup, 1) := by decide +kernel
theorem dX12_howLong_33 : decode cX12_howLong 33 = .ok (.getfield 186, 3) := by decide +kernel
theorem dX12_howLong_36 : decode cX12_howLong 36 = .ok (.iconst 1, 1) := by decide +kernel
theorem dX12_howLong_37 : decode cX12_howLong 37 = .ok (.iadd, 1) := by decide +kernel
theorem dX12_howLong_38 : decode cX12_howLong 38 = .ok (.putfield 186, 3) := by decide +kernel
theorem dX12_howLong_41 : decode cX12_howLong 41 = .ok (.aload_n 0, 1) := by decide +kernel
theorem dX12_howLong_42 : decode cX12_howLong 42 = .ok (.aload_n 0, 1) := by decide +kernel
theorem dX12_howLong_43 : decode cX12_howLong 43 = .ok (.getfield 13, 3) := by decide +kernel
theorem dX12_howLong_46 : decode cX12_howLong 46 = .ok (.iload_n 1, 1) := by decide +kernel
theorem dX12_howLong_47 : decode cX12_howLong 47 = .ok (.iaload, 1) := by decide +kernel
theorem dX12_howLong_48 : decode cX12_howLong 48 = .ok (.iload_n 2, 1) := by decide +kernel
theorem dX12_howLong_49 : decode cX12_howLong 49 = .ok (.invokevirtual 189, 3) := by decide +kernel
theorem dX12_howLong_52 : decode cX12_howLong 52 = .ok (.ireturn, 1) := by decide +kernel
theorem dX12_isTwin_0 : decode cX12_isTwin 0 = .ok (.iconst 0, 1) := by decide +kernel
theorem dX12_isTwin_1 : decode cX12_isTwin 1 = .ok (.istore 4, 2) := by decide +kernel
theorem dX12_isTwin_3 : decode cX12_isTwin 3 = .ok (.iload 4, 2) := by decide +kernel
theorem dX12_isTwin_5 : decode cX12_isTwin 5 = .ok (.aload_n 0, 1) := by decide +kernel
theorem dX12_isTwin_6 : decode cX12_isTwin 6 = .ok (.getfield 90, 3) := by decide +kernel
theorem dX12_isTwin_9 : decode cX12_isTwin 9 = .ok (.if_icmp .ge 30, 3) := by decide +kernel
theorem dX12_isTwin_12 : decode cX12_isTwin 12 = .ok (.aload_n 0, 1) := by decide +kernel
theorem dX12_isTwin_13 : decode cX12_isTwin 13 = .ok (.iload_n 1, 1) := by decide +kernel
theorem dX12_isTwin_14 : decode cX12_isTwin 14 = .ok (.iload 4, 2) := by decide +kernel
theorem dX12_isTwin_16 : decode cX12_isTwin 16 = .ok (.iload_n 2, 1) := by decide +kernel
theorem dX12_isTwin_17 : decode cX12_isTwin 17 = .ok (.invokevirtual 116, 3) := by decide +kernel
theorem dX12_isTwin_20 : decode cX12_isTwin 20 = .ok (.aload_n 0, 1) := by decide +kernel
theorem dX12_isTwin_21 : decode cX12_isTwin 21 = .ok (.iload_n 1, 1) := by decide +kernel
theorem dX12_isTwin_22 : decode cX12_isTwin 22 = .ok (.iload 4, 2) := by decide +kernel
theorem dX12_isTwin_24 : decode cX12_isTwin 24 = .ok (.iload_n 3, 1) := by decide +kernel
theorem dX12_isTwin_25 : decode cX12_isTwin 25 = .ok (.invokevirtual 116, 3) := by decide +kernel
theorem dX12_isTwin_28 : decode cX12_isTwin 28 = .ok (.if_icmp .eq 5, 3) := by decide +kernel
theorem dX12_isTwin_31 : decode cX12_isTwin 31 = .ok (.iconst 0, 1) := by decide +kernel
theorem dX12_isTwin_32 : decode cX12_isTwin 32 = .ok (.ireturn, 1) := by decide +kernel
theorem dX12_isTwin_33 : decode cX12_isTwin 33 = .ok (.iinc 4 1, 3) := by decide +kernel
theorem dX12_isTwin_36 : decode cX12_isTwin 36 = .ok (.goto (-33), 3) := by decide +kernel
theorem dX12_isTwin_39 : decode cX12_isTwin 39 = .ok (.iconst 1, 1) := by decide +kernel
theorem dX12_isTwin_40 : decode cX12_isTwin 40 = .ok (.ireturn, 1) := by decide +kernel
theorem dX12_twinsOf_0 : decode cX12_twinsOf 0 = .ok (.iconst 0, 1) := by decide +kernel
theorem dX12_twinsOf_1 : decode cX12_twinsOf 1 = .ok (.istore_n 2, 1) := by decide +kernel
theorem dX12_twinsOf_2 : decode cX12_twinsOf 2 = .ok (.iload_n 2, 1) := by decide +kernel
theorem dX12_twinsOf_3 : decode cX12_twinsOf 3 = .ok (.aload_n 0, 1) := by decide +kernel
theorem dX12_twinsOf_4 : decode cX12_twinsOf 4 = .ok (.getfield 90, 3) := by decide +kernel
theorem dX12_twinsOf_7 : decode cX12_twinsOf 7 = .ok (.if_icmp .ge 50, 3) := by decide +kernel
theorem dX12_twinsOf_10 : decode cX12_twinsOf 10 = .ok (.iload_n 2, 1) := by decide +kernel
theorem dX12_twinsOf_11 : decode cX12_twinsOf 11 = .ok (.iconst 1, 1) := by decide +kernel
theorem dX12_twinsOf_12 : decode cX12_twinsOf 12 = .ok (.iadd, 1) := by decide +kernel
theorem dX12_twinsOf_13 : decode cX12_twinsOf 13 = .ok (.istore_n 3, 1) := by decide +kernel
theorem dX12_twinsOf_14 : decode cX12_twinsOf 14 = .ok (.iload_n 3, 1) := by decide +kernel
theorem dX12_twinsOf_15 : decode cX12_twinsOf 15 = .ok (.aload_n 0, 1) := by decide +kernel
theorem dX12_twinsOf_16 : decode cX12_twinsOf 16 = .ok (.getfield 90, 3) := by decide +kernel
theorem dX12_twinsOf_19 : decode cX12_twinsOf 19 = .ok (.if_icmp .ge 32, 3) := by decide +kernel
theorem dX12_twinsOf_22 : decode cX12_twinsOf 22 = .ok (.aload_n 0, 1) := by decide +kernel
theorem dX12_twinsOf_23 : decode cX12_twinsOf 23 = .ok (.aload_n 0, 1) := by decide +kernel
theorem dX12_twinsOf_24 : decode cX12_twinsOf 24 = .ok (.getfield 13, 3) := by decide +kernel
theorem dX12_twinsOf_27 : decode cX12_twinsOf 27 = .ok (.iload_n 1, 1) := by decide +kernel
theorem dX12_twinsOf_28 : decode cX12_twinsOf 28 = .ok (.iaload, 1) := by decide +kernel
theorem dX12_twinsOf_29 : decode cX12_twinsOf 29 = .ok (.iload_n 2, 1) := by decide +kernel
theorem dX12_twinsOf_30 : decode cX12_twinsOf 30 = .ok (.iload_n 3, 1) := by decide +kernel
theorem dX12_twinsOf_31 : decode cX12_twinsOf 31 = .ok (.invokevirtual 192, 3) := by decide +kernel
theorem dX12_twinsOf_34 : decode cX12_twinsOf 34 = .ok (.ifCond .eq 11, 3) := by decide +kernel
theorem dX12_twinsOf_37 : decode cX12_twinsOf 37 = .ok (.sipush 1000, 3) := by decide +kernel
theorem dX12_twinsOf_40 : decode cX12_twinsOf 40 = .ok (.iload_n 2, 1) := by decide +kernel
theorem dX12_twinsOf_41 : decode cX12_twinsOf 41 = .ok (.imul, 1) := by decide +kernel
theorem dX12_twinsOf_42 : decode cX12_twinsOf 42 = .ok (.iload_n 3, 1) := by decide +kernel
theorem dX12_twinsOf_43 : decode cX12_twinsOf 43 = .ok (.iadd, 1) := by decide +kernel
theorem dX12_twinsOf_44 : decode cX12_twinsOf 44 = .ok (.ireturn, 1) := by decide +kernel
theorem dX12_twinsOf_45 : decode cX12_twinsOf 45 = .ok (.iinc 3 1, 3) := by decide +kernel
theorem dX12_twinsOf_48 : decode cX12_twinsOf 48 = .ok (.goto (-34), 3) := by decide +kernel
theorem dX12_twinsOf_51 : decode cX12_twinsOf 51 = .ok (.iinc 2 1, 3) := by decide +kernel
theorem dX12_twinsOf_54 : decode cX12_twinsOf 54 = .ok (.goto (-52), 3) := by decide +kernel
theorem dX12_twinsOf_57 : decode cX12_twinsOf 57 = .ok (.iconst (-1), 1) := by decide +kernel
theorem dX12_twinsOf_58 : decode cX12_twinsOf 58 = .ok (.ireturn, 1) := by decide +kernel
theorem dX12_layTable_0 : decode cX12_layTable 0 = .ok (.iconst 0, 1) := by decide +kernel
theorem dX12_layTable_1 : decode cX12_layTable 1 = .ok (.istore_n 2, 1) := by decide +kernel
theorem dX12_layTable_2 : decode cX12_layTable 2 = .ok (.iload_n 2, 1) := by decide +kernel
theorem dX12_layTable_3 : decode cX12_layTable 3 = .ok (.sipush 4096, 3) := by decide +kernel
theorem dX12_layTable_6 : decode cX12_layTable 6 = .ok (.if_icmp .ge 100, 3) := by decide +kernel
theorem dX12_layTable_9 : decode cX12_layTable 9 = .ok (.iload_n 2, 1) := by decide +kernel
theorem dX12_layTable_10 : decode cX12_layTable 10 = .ok (.bipush 64, 2) := by decide +kernel
theorem dX12_layTable_12 : decode cX12_layTable 12 = .ok (.idiv, 1) := by decide +kernel
theorem dX12_layTable_13 : decode cX12_layTable 13 = .ok (.istore_n 3, 1) := by decide +kernel
theorem dX12_layTable_14 : decode cX12_layTable 14 = .ok (.iload_n 2, 1) := by decide +kernel
theorem dX12_layTable_15 : decode cX12_layTable 15 = .ok (.bipush 64, 2) := by decide +kernel
theorem dX12_layTable_17 : decode cX12_layTable 17 = .ok (.irem, 1) := by decide +kernel
theorem dX12_layTable_18 : decode cX12_layTable 18 = .ok (.istore 4, 2) := by decide +kernel
theorem dX12_layTable_20 : decode cX12_layTable 20 = .ok (.iload_n 3, 1) := by decide +kernel
theorem dX12_layTable_21 : decode cX12_layTable 21 = .ok (.aload_n 0, 1) := by decide +kernel
theorem dX12_layTable_22 : decode cX12_layTable 22 = .ok (.getfield 90, 3) := by decide +kernel
theorem dX12_layTable_25 : decode cX12_layTable 25 = .ok (.if_icmp .ge 16, 3) := by decide +kernel
theorem dX12_layTable_28 : decode cX12_layTable 28 = .ok (.iload 4, 2) := by decide +kernel
theorem dX12_layTable_30 : decode cX12_layTable 30 = .ok (.aload_n 0, 1) := by decide +kernel
theorem dX12_layTable_31 : decode cX12_layTable 31 = .ok (.getfield 90, 3) := by decide +kernel
theorem dX12_layTable_34 : decode cX12_layTable 34 = .ok (.if_icmp .ge 7, 3) := by decide +kernel
theorem dX12_layTable_37 : decode cX12_layTable 37 = .ok (.iconst 1, 1) := by decide +kernel
theorem dX12_layTable_38 : decode cX12_layTable 38 = .ok (.goto 4, 3) := by decide +kernel
theorem dX12_layTable_41 : decode cX12_layTable 41 = .ok (.iconst 0, 1) := by decide +kernel
theorem dX12_layTable_42 : decode cX12_layTable 42 = .ok (.istore 5, 2) := by decide +kernel
theorem dX12_layTable_44 : decode cX12_layTable 44 = .ok (.aload_n 0, 1) := by decide +kernel
theorem dX12_layTable_45 : decode cX12_layTable 45 = .ok (.getfield 25, 3) := by decide +kernel
theorem dX12_layTable_48 : decode cX12_layTable 48 = .ok (.iload_n 2, 1) := by decide +kernel
theorem dX12_layTable_49 : decode cX12_layTable 49 = .ok (.iload 5, 2) := by decide +kernel
theorem dX12_layTable_51 : decode cX12_layTable 51 = .ok (.ifCond .eq 14, 3) := by decide +kernel
theorem dX12_layTable_54 : decode cX12_layTable 54 = .ok (.aload_n 0, 1) := by decide +kernel
theorem dX12_layTable_55 : decode cX12_layTable 55 = .ok (.iload_n 1, 1) := by decide +kernel
theorem dX12_layTable_56 : decode cX12_layTable 56 = .ok (.iload_n 3, 1) := by decide +kernel
theorem dX12_layTable_57 : decode cX12_layTable 57 = .ok (.iload 4, 2) := by decide +kernel
theorem dX12_layTable_59 : decode cX12_layTable 59 = .ok (.invokevirtual 116, 3) := by decide +kernel
theorem dX12_layTable_62 : decode cX12_layTable 62 = .ok (.goto 4, 3) := by decide +kernel
theorem dX12_layTable_65 : decode cX12_layTable 65 = .ok (.iconst 0, 1) := by decide +kernel
theorem dX12_layTable_66 : decode cX12_layTable 66 = .ok (.iastore, 1) := by decide +kernel
theorem dX12_layTable_67 : decode cX12_layTable 67 = .ok (.aload_n 0, 1) := by decide +kernel
theorem dX12_layTable_68 : decode cX12_layTable 68 = .ok (.getfield 28, 3) := by decide +kernel
theorem dX12_layTable_71 : decode cX12_layTable 71 = .ok (.iload_n 2, 1) := by decide +kernel
theorem dX12_layTable_72 : decode cX12_layTable 72 = .ok (.iload 5, 2) := by decide +kernel
theorem dX12_layTable_74 : decode cX12_layTable 74 = .ok (.ifCond .eq 24, 3) := by decide +kernel
theorem dX12_layTable_77 : decode cX12_layTable 77 = .ok (.iload_n 3, 1) := by decide +kernel
theorem dX12_layTable_78 : decode cX12_layTable 78 = .ok (.iload 4, 2) := by decide +kernel
theorem dX12_layTable_80 : decode cX12_layTable 80 = .ok (.if_icmp .ge 18, 3) := by decide +kernel
theorem dX12_layTable_83 : decode cX12_layTable 83 = .ok (.aload_n 0, 1) := by decide +kernel
theorem dX12_layTable_84 : decode cX12_layTable 84 = .ok (.iload_n 1, 1) := by decide +kernel
theorem dX12_layTable_85 : decode cX12_layTable 85 = .ok (.iload_n 3, 1) := by decide +kernel
theorem dX12_layTable_86 : decode cX12_layTable 86 = .ok (.iload 4, 2) := by decide +kernel
theorem dX12_layTable_88 : decode cX12_layTable 88 = .ok (.invokevirtual 192, 3) := by decide +kernel
theorem dX12_layTable_91 : decode cX12_layTable 91 = .ok (.ifCond .ne 7, 3) := by decide +kernel
theorem dX12_layTable_94 : decode cX12_layTable 94 = .ok (.iconst 1, 1) := by decide +kernel
theorem dX12_layTable_95 : decode cX12_layTable 95 = .ok (.goto 4, 3) := by decide +kernel
theorem dX12_layTable_98 : decode cX12_layTable 98 = .ok (.iconst 0, 1) := by decide +kernel
theorem dX12_layTable_99 : decode cX12_layTable 99 = .ok (.iastore, 1) := by decide +kernel
theorem dX12_layTable_100 : decode cX12_layTable 100 = .ok (.iinc 2 1, 3) := by decide +kernel
theorem dX12_layTable_103 : decode cX12_layTable 103 = .ok (.goto (-101), 3) := by decide +kernel
theorem dX12_layTable_106 : decode cX12_layTable 106 = .ok (.return_, 1) := by decide +kernel
theorem dX12_isEnough_0 : decode cX12_isEnough 0 = .ok (.iconst 0, 1) := by decide +kernel
theorem dX12_isEnough_1 : decode cX12_isEnough 1 = .ok (.istore_n 3, 1) := by decide +kernel
theorem dX12_isEnough_2 : decode cX12_isEnough 2 = .ok (.iload_n 3, 1) := by decide +kernel
theorem dX12_isEnough_3 : decode cX12_isEnough 3 = .ok (.aload_n 0, 1) := by decide +kernel
theorem dX12_isEnough_4 : decode cX12_isEnough 4 = .ok (.getfield 90, 3) := by decide +kernel
theorem dX12_isEnough_7 : decode cX12_isEnough 7 = .ok (.if_icmp .ge 111, 3) := by decide +kernel
theorem dX12_isEnough_10 : decode cX12_isEnough 10 = .ok (.iload_n 3, 1) := by decide +kernel
theorem dX12_isEnough_11 : decode cX12_isEnough 11 = .ok (.iconst 1, 1) := by decide +kernel
theorem dX12_isEnough_12 : decode cX12_isEnough 12 = .ok (.iadd, 1) := by decide +kernel
theorem dX12_isEnough_13 : decode cX12_isEnough 13 = .ok (.istore 4, 2) := by decide +kernel
theorem dX12_isEnough_15 : decode cX12_isEnough 15 = .ok (.iload 4, 2) := by decide +kernel
theorem dX12_isEnough_17 : decode cX12_isEnough 17 = .ok (.aload_n 0, 1) := by decide +kernel
theorem dX12_isEnough_18 : decode cX12_isEnough 18 = .ok (.getfield 90, 3) := by decide +kernel
theorem dX12_isEnough_21 : decode cX12_isEnough 21 = .ok (.if_icmp .ge 91, 3) := by decide +kernel
theorem dX12_isEnough_24 : decode cX12_isEnough 24 = .ok (.aload_n 0, 1) := by decide +kernel
theorem dX12_isEnough_25 : decode cX12_isEnough 25 = .ok (.getfield 25, 3) := by decide +kernel
theorem dX12_isEnough_28 : decode cX12_isEnough 28 = .ok (.bipush 64, 2) := by decide +kernel
theorem dX12_isEnough_30 : decode cX12_isEnough 30 = .ok (.iload_n 1, 1) := by decide +kernel
theorem dX12_isEnough_31 : decode cX12_isEnough 31 = .ok (.imul, 1) := by decide +kernel
theorem dX12_isEnough_32 : decode cX12_isEnough 32 = .ok (.iload_n 3, 1) := by decide +kernel
theorem dX12_isEnough_33 : decode cX12_isEnough 33 = .ok (.iadd, 1) := by decide +kernel
theorem dX12_isEnough_34 : decode cX12_isEnough 34 = .ok (.iaload, 1) := by decide +kernel
theorem dX12_isEnough_35 : decode cX12_isEnough 35 = .ok (.aload_n 0, 1) := by decide +kernel
theorem dX12_isEnough_36 : decode cX12_isEnough 36 = .ok (.getfield 25, 3) := by decide +kernel
theorem dX12_isEnough_39 : decode cX12_isEnough 39 = .ok (.bipush 64, 2) := by decide +kernel
theorem dX12_isEnough_41 : decode cX12_isEnough 41 = .ok (.iload_n 1, 1) := by decide +kernel
theorem dX12_isEnough_42 : decode cX12_isEnough 42 = .ok (.imul, 1) := by decide +kernel
theorem dX12_isEnough_43 : decode cX12_isEnough 43 = .ok (.iload 4, 2) := by decide +kernel
theorem dX12_isEnough_45 : decode cX12_isEnough 45 = .ok (.iadd, 1) := by decide +kernel
theorem dX12_isEnough_46 : decode cX12_isEnough 46 = .ok (.iaload, 1) := by decide +kernel
theorem dX12_isEnough_47 : decode cX12_isEnough 47 = .ok (.if_icmp .ne 33, 3) := by decide +kernel
theorem dX12_isEnough_50 : decode cX12_isEnough 50 = .ok (.aload_n 0, 1) := by decide +kernel
theorem dX12_isEnough_51 : decode cX12_isEnough 51 = .ok (.getfield 25, 3) := by decide +kernel
theorem dX12_isEnough_54 : decode cX12_isEnough 54 = .ok (.bipush 64, 2) := by decide +kernel
theorem dX12_isEnough_56 : decode cX12_isEnough 56 = .ok (.iload_n 2, 1) := by decide +kernel
theorem dX12_isEnough_57 : decode cX12_isEnough 57 = .ok (.imul, 1) := by decide +kernel
theorem dX12_isEnough_58 : decode cX12_isEnough 58 = .ok (.iload_n 3, 1) := by decide +kernel
theorem dX12_isEnough_59 : decode cX12_isEnough 59 = .ok (.iadd, 1) := by decide +kernel
theorem dX12_isEnough_60 : decode cX12_isEnough 60 = .ok (.iaload, 1) := by decide +kernel
theorem dX12_isEnough_61 : decode cX12_isEnough 61 = .ok (.aload_n 0, 1) := by decide +kernel
theorem dX12_isEnough_62 : decode cX12_isEnough 62 = .ok (.getfield 25, 3) := by decide +kernel
theorem dX12_isEnough_65 : decode cX12_isEnough 65 = .ok (.bipush 64, 2) := by decide +kernel
theorem dX12_isEnough_67 : decode cX12_isEnough 67 = .ok (.iload_n 2, 1) := by decide +kernel
theorem dX12_isEnough_68 : decode cX12_isEnough 68 = .ok (.imul, 1) := by decide +kernel
theorem dX12_isEnough_69 : decode cX12_isEnough 69 = .ok (.iload 4, 2) := by decide +kernel
theorem dX12_isEnough_71 : decode cX12_isEnough 71 = .ok (.iadd, 1) := by decide +kernel
theorem dX12_isEnough_72 : decode cX12_isEnough 72 = .ok (.iaload, 1) := by decide +kernel
theorem dX12_isEnough_73 : decode cX12_isEnough 73 = .ok (.if_icmp .ne 7, 3) := by decide +kernel
theorem dX12_isEnough_76 : decode cX12_isEnough 76 = .ok (.iconst 1, 1) := by decide +kernel
theorem dX12_isEnough_77 : decode cX12_isEnough 77 = .ok (.goto 4, 3) := by decide +kernel
theorem dX12_isEnough_80 : decode cX12_isEnough 80 = .ok (.iconst 0, 1) := by decide +kernel
theorem dX12_isEnough_81 : decode cX12_isEnough 81 = .ok (.istore 5, 2) := by decide +kernel
theorem dX12_isEnough_83 : decode cX12_isEnough 83 = .ok (.iload 5, 2) := by decide +kernel
theorem dX12_isEnough_85 : decode cX12_isEnough 85 = .ok (.ifCond .eq 21, 3) := by decide +kernel
theorem dX12_isEnough_88 : decode cX12_isEnough 88 = .ok (.aload_n 0, 1) := by decide +kernel
theorem dX12_isEnough_89 : decode cX12_isEnough 89 = .ok (.getfield 28, 3) := by decide +kernel
theorem dX12_isEnough_92 : decode cX12_isEnough 92 = .ok (.bipush 64, 2) := by decide +kernel
theorem dX12_isEnough_94 : decode cX12_isEnough 94 = .ok (.iload_n 3, 1) := by decide +kernel
theorem dX12_isEnough_95 : decode cX12_isEnough 95 = .ok (.imul, 1) := by decide +kernel
theorem dX12_isEnough_96 : decode cX12_isEnough 96 = .ok (.iload 4, 2) := by decide +kernel
theorem dX12_isEnough_98 : decode cX12_isEnough 98 = .ok (.iadd, 1) := by decide +kernel
theorem dX12_isEnough_99 : decode cX12_isEnough 99 = .ok (.iaload, 1) := by decide +kernel
theorem dX12_isEnough_100 : decode cX12_isEnough 100 = .ok (.iconst 1, 1) := by decide +kernel
theorem dX12_isEnough_101 : decode cX12_isEnough 101 = .ok (.if_icmp .ne 5, 3) := by decide +kernel
theorem dX12_isEnough_104 : decode cX12_isEnough 104 = .ok (.iconst 0, 1) := by decide +kernel
theorem dX12_isEnough_105 : decode cX12_isEnough 105 = .ok (.ireturn, 1) := by decide +kernel
theorem dX12_isEnough_106 : decode cX12_isEnough 106 = .ok (.iinc 4 1, 3) := by decide +kernel
theorem dX12_isEnough_109 : decode cX12_isEnough 109 = .ok (.goto (-94), 3) := by decide +kernel
theorem dX12_isEnough_112 : decode cX12_isEnough 112 = .ok (.iinc 3 1, 3) := by decide +kernel
theorem dX12_isEnough_115 : decode cX12_isEnough 115 = .ok (.goto (-113), 3) := by decide +kernel
theorem dX12_isEnough_118 : decode cX12_isEnough 118 = .ok (.iconst 1, 1) := by decide +kernel
theorem dX12_isEnough_119 : decode cX12_isEnough 119 = .ok (.ireturn, 1) := by decide +kernel
theorem dX12_apartMany_0 : decode cX12_apartMany 0 = .ok (.iconst 0, 1) := by decide +kernel
theorem dX12_apartMany_1 : decode cX12_apartMany 1 = .ok (.istore_n 1, 1) := by decide +kernel
theorem dX12_apartMany_2 : decode cX12_apartMany 2 = .ok (.iconst 0, 1) := by decide +kernel
theorem dX12_apartMany_3 : decode cX12_apartMany 3 = .ok (.istore_n 2, 1) := by decide +kernel
theorem dX12_apartMany_4 : decode cX12_apartMany 4 = .ok (.iload_n 2, 1) := by decide +kernel
theorem dX12_apartMany_5 : decode cX12_apartMany 5 = .ok (.sipush 4096, 3) := by decide +kernel
theorem dX12_apartMany_8 : decode cX12_apartMany 8 = .ok (.if_icmp .ge 18, 3) := by decide +kernel
theorem dX12_apartMany_11 : decode cX12_apartMany 11 = .ok (.iload_n 1, 1) := by decide +kernel
theorem dX12_apartMany_12 : decode cX12_apartMany 12 = .ok (.aload_n 0, 1) := by decide +kernel
theorem dX12_apartMany_13 : decode cX12_apartMany 13 = .ok (.getfield 28, 3) := by decide +kernel
theorem dX12_apartMany_16 : decode cX12_apartMany 16 = .ok (.iload_n 2, 1) := by decide +kernel
theorem dX12_apartMany_17 : decode cX12_apartMany 17 = .ok (.iaload, 1) := by decide +kernel
theorem dX12_apartMany_18 : decode cX12_apartMany 18 = .ok (.iadd, 1) := by decide +kernel
theorem dX12_apartMany_19 : decode cX12_apartMany 19 = .ok (.istore_n 1, 1) := by decide +kernel
theorem dX12_apartMany_20 : decode cX12_apartMany 20 = .ok (.iinc 2 1, 3) := by decide +kernel
theorem dX12_apartMany_23 : decode cX12_apartMany 23 = .ok (.goto (-19), 3) := by decide +kernel
theorem dX12_apartMany_26 : decode cX12_apartMany 26 = .ok (.iload_n 1, 1) := by decide +kernel
theorem dX12_apartMany_27 : decode cX12_apartMany 27 = .ok (.ireturn, 1) := by decide +kernel
theorem dX12_partsOf_0 : decode cX12_partsOf 0 = .ok (.aload_n 0, 1) := by decide +kernel
theorem dX12_partsOf_1 : decode cX12_partsOf 1 = .ok (.iload_n 1, 1) := by decide +kernel
theorem dX12_partsOf_2 : decode cX12_partsOf 2 = .ok (.invokevirtual 196, 3) := by decide +kernel
theorem dX12_partsOf_5 : decode cX12_partsOf 5 = .ok (.aload_n 0, 1) := by decide +kernel
theorem dX12_partsOf_6 : decode cX12_partsOf 6 = .ok (.invokevirtual 200, 3) := by decide +kernel
theorem dX12_partsOf_9 : decode cX12_partsOf 9 = .ok (.ifCond .ne 13, 3) := by decide +kernel
theorem dX12_partsOf_12 : decode cX12_partsOf 12 = .ok (.iload_n 2, 1) := by decide +kernel
theorem dX12_partsOf_13 : decode cX12_partsOf 13 = .ok (.ifCond .ne 7, 3) := by decide +kernel
theorem dX12_partsOf_16 : decode cX12_partsOf 16 = .ok (.iconst 0, 1) := by decide +kernel
theorem dX12_partsOf_17 : decode cX12_partsOf 17 = .ok (.goto 4, 3) := by decide +kernel
theorem dX12_partsOf_20 : decode cX12_partsOf 20 = .ok (.iconst (-1), 1) := by decide +kernel
theorem dX12_partsOf_21 : decode cX12_partsOf 21 = .ok (.ireturn, 1) := by decide +kernel
theorem dX12_partsOf_22 : decode cX12_partsOf 22 = .ok (.iconst 0, 1) := by decide +kernel
theorem dX12_partsOf_23 : decode cX12_partsOf 23 = .ok (.istore_n 3, 1) := by decide +kernel
theorem dX12_partsOf_24 : decode cX12_partsOf 24 = .ok (.iload_n 3, 1) := by decide +kernel
theorem dX12_partsOf_25 : decode cX12_partsOf 25 = .ok (.aload_n 0, 1) := by decide +kernel
theorem dX12_partsOf_26 : decode cX12_partsOf 26 = .ok (.getfield 90, 3) := by decide +kernel
theorem dX12_partsOf_29 : decode cX12_partsOf 29 = .ok (.if_icmp .ge 37, 3) := by decide +kernel
theorem dX12_partsOf_32 : decode cX12_partsOf 32 = .ok (.aload_n 0, 1) := by decide +kernel
theorem dX12_partsOf_33 : decode cX12_partsOf 33 = .ok (.iload_n 3, 1) := by decide +kernel
theorem dX12_partsOf_34 : decode cX12_partsOf 34 = .ok (.iload_n 3, 1) := by decide +kernel
theorem dX12_partsOf_35 : decode cX12_partsOf 35 = .ok (.invokevirtual 203, 3) := by decide +kernel
theorem dX12_partsOf_38 : decode cX12_partsOf 38 = .ok (.ifCond .eq 22, 3) := by decide +kernel
theorem dX12_partsOf_41 : decode cX12_partsOf 41 = .ok (.iload_n 2, 1) := by decide +kernel
theorem dX12_partsOf_42 : decode cX12_partsOf 42 = .ok (.ifCond .ne 7, 3) := by decide +kernel
theorem dX12_partsOf_45 : decode cX12_partsOf 45 = .ok (.iconst 1, 1) := by decide +kernel
theorem dX12_partsOf_46 : decode cX12_partsOf 46 = .ok (.goto 13, 3) := by decide +kernel
theorem dX12_partsOf_49 : decode cX12_partsOf 49 = .ok (.iload_n 2, 1) := by decide +kernel
theorem dX12_partsOf_50 : decode cX12_partsOf 50 = .ok (.iconst 1, 1) := by decide +kernel
theorem dX12_partsOf_51 : decode cX12_partsOf 51 = .ok (.if_icmp .ne 7, 3) := by decide +kernel
theorem dX12_partsOf_54 : decode cX12_partsOf 54 = .ok (.iload_n 3, 1) := by decide +kernel
theorem dX12_partsOf_55 : decode cX12_partsOf 55 = .ok (.goto 4, 3) := by decide +kernel
theorem dX12_partsOf_58 : decode cX12_partsOf 58 = .ok (.iconst (-1), 1) := by decide +kernel
theorem dX12_partsOf_59 : decode cX12_partsOf 59 = .ok (.ireturn, 1) := by decide +kernel
theorem dX12_partsOf_60 : decode cX12_partsOf 60 = .ok (.iinc 3 1, 3) := by decide +kernel
theorem dX12_partsOf_63 : decode cX12_partsOf 63 = .ok (.goto (-39), 3) := by decide +kernel
theorem dX12_partsOf_66 : decode cX12_partsOf 66 = .ok (.iconst 0, 1) := by decide +kernel
theorem dX12_partsOf_67 : decode cX12_partsOf 67 = .ok (.istore_n 3, 1) := by decide +kernel
theorem dX12_partsOf_68 : decode cX12_partsOf 68 = .ok (.iload_n 3, 1) := by decide +kernel
theorem dX12_partsOf_69 : decode cX12_partsOf 69 = .ok (.aload_n 0, 1) := by decide +kernel
theorem dX12_partsOf_70 : decode cX12_partsOf 70 = .ok (.getfield 90, 3) := by decide +kernel
theorem dX12_partsOf_73 : decode cX12_partsOf 73 = .ok (.if_icmp .ge 59, 3) := by decide +kernel
theorem dX12_partsOf_76 : decode cX12_partsOf 76 = .ok (.iload_n 3, 1) := by decide +kernel
theorem dX12_partsOf_77 : decode cX12_partsOf 77 = .ok (.iconst 1, 1) := by decide +kernel
theorem dX12_partsOf_78 : decode cX12_partsOf 78 = .ok (.iadd, 1) := by decide +kernel
theorem dX12_partsOf_79 : decode cX12_partsOf 79 = .ok (.istore 4, 2) := by decide +kernel
theorem dX12_partsOf_81 : decode cX12_partsOf 81 = .ok (.iload 4, 2) := by decide +kernel
theorem dX12_partsOf_83 : decode cX12_partsOf 83 = .ok (.aload_n 0, 1) := by decide +kernel
theorem dX12_partsOf_84 : decode cX12_partsOf 84 = .ok (.getfield 90, 3) := by decide +kernel
theorem dX12_partsOf_87 : decode cX12_partsOf 87 = .ok (.if_icmp .ge 39, 3) := by decide +kernel
theorem dX12_partsOf_90 : decode cX12_partsOf 90 = .ok (.aload_n 0, 1) := by decide +kernel
theorem dX12_partsOf_91 : decode cX12_partsOf 91 = .ok (.iload_n 3, 1) := by decide +kernel
theorem dX12_partsOf_92 : decode cX12_partsOf 92 = .ok (.iload 4, 2) := by decide +kernel
theorem dX12_partsOf_94 : decode cX12_partsOf 94 = .ok (.invokevirtual 203, 3) := by decide +kernel
theorem dX12_partsOf_97 : decode cX12_partsOf 97 = .ok (.ifCond .eq 23, 3) := by decide +kernel
theorem dX12_partsOf_100 : decode cX12_partsOf 100 = .ok (.iload_n 2, 1) := by decide +kernel
theorem dX12_partsOf_101 : decode cX12_partsOf 101 = .ok (.ifCond .ne 7, 3) := by decide +kernel
theorem dX12_partsOf_104 : decode cX12_partsOf 104 = .ok (.iconst 2, 1) := by decide +kernel
theorem dX12_partsOf_105 : decode cX12_partsOf 105 = .ok (.goto 14, 3) := by decide +kernel
theorem dX12_partsOf_108 : decode cX12_partsOf 108 = .ok (.iload_n 2, 1) := by decide +kernel
theorem dX12_partsOf_109 : decode cX12_partsOf 109 = .ok (.iconst 1, 1) := by decide +kernel
theorem dX12_partsOf_110 : decode cX12_partsOf 110 = .ok (.if_icmp .ne 7, 3) := by decide +kernel
theorem dX12_partsOf_113 : decode cX12_partsOf 113 = .ok (.iload_n 3, 1) := by decide +kernel
theorem dX12_partsOf_114 : decode cX12_partsOf 114 = .ok (.goto 5, 3) := by decide +kernel
theorem dX12_partsOf_117 : decode cX12_partsOf 117 = .ok (.iload 4, 2) := by decide +kernel
theorem dX12_partsOf_119 : decode cX12_partsOf 119 = .ok (.ireturn, 1) := by decide +kernel
theorem dX12_partsOf_120 : decode cX12_partsOf 120 = .ok (.iinc 4 1, 3) := by decide +kernel
theorem dX12_partsOf_123 : decode cX12_partsOf 123 = .ok (.goto (-42), 3) := by decide +kernel
theorem dX12_partsOf_126 : decode cX12_partsOf 126 = .ok (.iinc 3 1, 3) := by decide +kernel
theorem dX12_partsOf_129 : decode cX12_partsOf 129 = .ok (.goto (-61), 3) := by decide +kernel
theorem dX12_partsOf_132 : decode cX12_partsOf 132 = .ok (.iconst (-1), 1) := by decide +kernel
theorem dX12_partsOf_133 : decode cX12_partsOf 133 = .ok (.ireturn, 1) := by decide +kernel
theorem dX12_parts_0 : decode cX12_parts 0 = .ok (.aload_n 0, 1) := by decide +kernel
theorem dX12_parts_1 : decode cX12_parts 1 = .ok (.iload_n 1, 1) := by decide +kernel
theorem dX12_parts_2 : decode cX12_parts 2 = .ok (.invokevirtual 110, 3) := by decide +kernel
theorem dX12_parts_5 : decode cX12_parts 5 = .ok (.ifCond .ne 6, 3) := by decide +kernel
theorem dX12_parts_8 : decode cX12_parts 8 = .ok (.bipush (-101), 2) := by decide +kernel
theorem dX12_parts_10 : decode cX12_parts 10 = .ok (.ireturn, 1) := by decide +kernel
theorem dX12_parts_11 : decode cX12_parts 11 = .ok (.iload_n 2, 1) := by decide +kernel
theorem dX12_parts_12 : decode cX12_parts 12 = .ok (.i2l, 1) := by decide +kernel
theorem dX12_parts_13 : decode cX12_parts 13 = .ok (.lconst 0, 1) := by decide +kernel
theorem dX12_parts_14 : decode cX12_parts 14 = .ok (.ldc2_w 159, 3) := by decide +kernel
theorem dX12_parts_17 : decode cX12_parts 17 = .ok (.invokestatic 46, 3) := by decide +kernel
theorem dX12_parts_20 : decode cX12_parts 20 = .ok (.ifCond .ne 6, 3) := by decide +kernel
theorem dX12_parts_23 : decode cX12_parts 23 = .ok (.bipush (-102), 2) := by decide +kernel
theorem dX12_parts_25 : decode cX12_parts 25 = .ok (.ireturn, 1) := by decide +kernel
theorem dX12_parts_26 : decode cX12_parts 26 = .ok (.aload_n 0, 1) := by decide +kernel
theorem dX12_parts_27 : decode cX12_parts 27 = .ok (.getfield 90, 3) := by decide +kernel
theorem dX12_parts_30 : decode cX12_parts 30 = .ok (.bipush 64, 2) := by decide +kernel
theorem dX12_parts_32 : decode cX12_parts 32 = .ok (.if_icmp .gt 12, 3) := by decide +kernel
theorem dX12_parts_35 : decode cX12_parts 35 = .ok (.aload_n 0, 1) := by decide +kernel
theorem dX12_parts_36 : decode cX12_parts 36 = .ok (.getfield 207, 3) := by decide +kernel
theorem dX12_parts_39 : decode cX12_parts 39 = .ok (.bipush 9, 2) := by decide +kernel
theorem dX12_parts_41 : decode cX12_parts 41 = .ok (.if_icmp .ne 6, 3) := by decide +kernel
theorem dX12_parts_44 : decode cX12_parts 44 = .ok (.bipush (-103), 2) := by decide +kernel
theorem dX12_parts_46 : decode cX12_parts 46 = .ok (.ireturn, 1) := by decide +kernel
theorem dX12_parts_47 : decode cX12_parts 47 = .ok (.aload_n 0, 1) := by decide +kernel
theorem dX12_parts_48 : decode cX12_parts 48 = .ok (.dup, 1) := by decide +kernel
theorem dX12_parts_49 : decode cX12_parts 49 = .ok (.getfield 207, 3) := by decide +kernel
theorem dX12_parts_52 : decode cX12_parts 52 = .ok (.iconst 1, 1) := by decide +kernel
theorem dX12_parts_53 : decode cX12_parts 53 = .ok (.iadd, 1) := by decide +kernel
theorem dX12_parts_54 : decode cX12_parts 54 = .ok (.putfield 207, 3) := by decide +kernel
theorem dX12_parts_57 : decode cX12_parts 57 = .ok (.aload_n 0, 1) := by decide +kernel
theorem dX12_parts_58 : decode cX12_parts 58 = .ok (.aload_n 0, 1) := by decide +kernel
theorem dX12_parts_59 : decode cX12_parts 59 = .ok (.getfield 13, 3) := by decide +kernel
theorem dX12_parts_62 : decode cX12_parts 62 = .ok (.iload_n 1, 1) := by decide +kernel
theorem dX12_parts_63 : decode cX12_parts 63 = .ok (.iaload, 1) := by decide +kernel
theorem dX12_parts_64 : decode cX12_parts 64 = .ok (.iload_n 2, 1) := by decide +kernel
theorem dX12_parts_65 : decode cX12_parts 65 = .ok (.invokevirtual 210, 3) := by decide +kernel
theorem dX12_parts_68 : decode cX12_parts 68 = .ok (.ireturn, 1) := by decide +kernel
theorem dX12_sortsOf_0 : decode cX12_sortsOf 0 = .ok (.iconst 0, 1) := by decide +kernel
theorem dX12_sortsOf_1 : decode cX12_sortsOf 1 = .ok (.istore_n 2, 1) := by decide +kernel
theorem dX12_sortsOf_2 : decode cX12_sortsOf 2 = .ok (.iconst 0, 1) := by decide +kernel
theorem dX12_sortsOf_3 : decode cX12_sortsOf 3 = .ok (.istore_n 3, 1) := by decide +kernel
theorem dX12_sortsOf_4 : decode cX12_sortsOf 4 = .ok (.iload_n 3, 1) := by decide +kernel
theorem dX12_sortsOf_5 : decode cX12_sortsOf 5 = .ok (.iconst 5, 1) := by decide +kernel
theorem dX12_sortsOf_6 : decode cX12_sortsOf 6 = .ok (.if_icmp .ge 100, 3) := by decide +kernel
theorem dX12_sortsOf_9 : decode cX12_sortsOf 9 = .ok (.iconst 1, 1) := by decide +kernel
theorem dX12_sortsOf_10 : decode cX12_sortsOf 10 = .ok (.istore 4, 2) := by decide +kernel
theorem dX12_sortsOf_12 : decode cX12_sortsOf 12 = .ok (.iconst 0, 1) := by decide +kernel
theorem dX12_sortsOf_13 : decode cX12_sortsOf 13 = .ok (.istore 5, 2) := by decide +kernel
theorem dX12_sortsOf_15 : decode cX12_sortsOf 15 = .ok (.iload 5, 2) := by decide +kernel
theorem dX12_sortsOf_17 : decode cX12_sortsOf 17 = .ok (.iconst 3, 1) := by decide +kernel
theorem dX12_sortsOf_18 : decode cX12_sortsOf 18 = .ok (.aload_n 0, 1) := by decide +kernel
theorem dX12_sortsOf_19 : decode cX12_sortsOf 19 = .ok (.getfield 93, 3) := by decide +kernel
theorem dX12_sortsOf_22 : decode cX12_sortsOf 22 = .ok (.imul, 1) := by decide +kernel
theorem dX12_sortsOf_23 : decode cX12_sortsOf 23 = .ok (.if_icmp .ge 62, 3) := by decide +kernel
theorem dX12_sortsOf_26 : decode cX12_sortsOf 26 = .ok (.iload 4, 2) := by decide +kernel
theorem dX12_sortsOf_28 : decode cX12_sortsOf 28 = .ok (.ifCond .eq 48, 3) := by decide +kernel
theorem dX12_sortsOf_31 : decode cX12_sortsOf 31 = .ok (.aload_n 0, 1) := by decide +kernel
theorem dX12_sortsOf_32 : decode cX12_sortsOf 32 = .ok (.getfield 16, 3) := by decide +kernel
theorem dX12_sortsOf_35 : decode cX12_sortsOf 35 = .ok (.iload 5, 2) := by decide +kernel
theorem dX12_sortsOf_37 : decode cX12_sortsOf 37 = .ok (.iconst 1, 1) := by decide +kernel
theorem dX12_sortsOf_38 : decode cX12_sortsOf 38 = .ok (.iadd, 1) := by decide +kernel
theorem dX12_sortsOf_39 : decode cX12_sortsOf 39 = .ok (.iaload, 1) := by decide +kernel
theorem dX12_sortsOf_40 : decode cX12_sortsOf 40 = .ok (.iload_n 1, 1) := by decide +kernel
theorem dX12_sortsOf_41 : decode cX12_sortsOf 41 = .ok (.if_icmp .ne 31, 3) := by decide +kernel
theorem dX12_sortsOf_44 : decode cX12_sortsOf 44 = .ok (.aload_n 0, 1) := by decide +kernel
theorem dX12_sortsOf_45 : decode cX12_sortsOf 45 = .ok (.iload_n 3, 1) := by decide +kernel
theorem dX12_sortsOf_46 : decode cX12_sortsOf 46 = .ok (.aload_n 0, 1) := by decide +kernel
theorem dX12_sortsOf_47 : decode cX12_sortsOf 47 = .ok (.getfield 16, 3) := by decide +kernel
theorem dX12_sortsOf_50 : decode cX12_sortsOf 50 = .ok (.iload 5, 2) := by decide +kernel
theorem dX12_sortsOf_52 : decode cX12_sortsOf 52 = .ok (.iaload, 1) := by decide +kernel
theorem dX12_sortsOf_53 : decode cX12_sortsOf 53 = .ok (.aload_n 0, 1) := by decide +kernel
theorem dX12_sortsOf_54 : decode cX12_sortsOf 54 = .ok (.getfield 41, 3) := by decide +kernel
theorem dX12_sortsOf_57 : decode cX12_sortsOf 57 = .ok (.invokevirtual 116, 3) := by decide +kernel
theorem dX12_sortsOf_60 : decode cX12_sortsOf 60 = .ok (.aload_n 0, 1) := by decide +kernel
theorem dX12_sortsOf_61 : decode cX12_sortsOf 61 = .ok (.getfield 16, 3) := by decide +kernel
theorem dX12_sortsOf_64 : decode cX12_sortsOf 64 = .ok (.iload 5, 2) := by decide +kernel
theorem dX12_sortsOf_66 : decode cX12_sortsOf 66 = .ok (.iconst 2, 1) := by decide +kernel
theorem dX12_sortsOf_67 : decode cX12_sortsOf 67 = .ok (.iadd, 1) := by decide +kernel
theorem dX12_sortsOf_68 : decode cX12_sortsOf 68 = .ok (.iaload, 1) := by decide +kernel
theorem dX12_sortsOf_69 : decode cX12_sortsOf 69 = .ok (.if_icmp .ne 7, 3) := by decide +kernel
theorem dX12_sortsOf_72 : decode cX12_sortsOf 72 = .ok (.iconst 1, 1) := by decide +kernel
theorem dX12_sortsOf_73 : decode cX12_sortsOf 73 = .ok (.goto 4, 3) := by decide +kernel
theorem dX12_sortsOf_76 : decode cX12_sortsOf 76 = .ok (.iconst 0, 1) := by decide +kernel
theorem dX12_sortsOf_77 : decode cX12_sortsOf 77 = .ok (.istore 4, 2) := by decide +kernel
theorem dX12_sortsOf_79 : decode cX12_sortsOf 79 = .ok (.iinc 5 3, 3) := by decide +kernel
theorem dX12_sortsOf_82 : decode cX12_sortsOf 82 = .ok (.goto (-67), 3) := by decide +kernel
theorem dX12_sortsOf_85 : decode cX12_sortsOf 85 = .ok (.iload_n 2, 1) := by decide +kernel
theorem dX12_sortsOf_86 : decode cX12_sortsOf 86 = .ok (.iload 4, 2) := by decide +kernel
theorem dX12_sortsOf_88 : decode cX12_sortsOf 88 = .ok (.ifCond .eq 9, 3) := by decide +kernel
theorem dX12_sortsOf_91 : decode cX12_sortsOf 91 = .ok (.iconst 1, 1) := by decide +kernel
theorem dX12_sortsOf_92 : decode cX12_sortsOf 92 = .ok (.iload_n 3, 1) := by decide +kernel
theorem dX12_sortsOf_93 : decode cX12_sortsOf 93 = .ok (.ishl, 1) := by decide +kernel
theorem dX12_sortsOf_94 : decode cX12_sortsOf 94 = .ok (.goto 4, 3) := by decide +kernel
theorem dX12_sortsOf_97 : decode cX12_sortsOf 97 = .ok (.iconst 0, 1) := by decide +kernel
theorem dX12_sortsOf_98 : decode cX12_sortsOf 98 = .ok (.ior, 1) := by decide +kernel
theorem dX12_sortsOf_99 : decode cX12_sortsOf 99 = .ok (.istore_n 2, 1) := by decide +kernel
theorem dX12_sortsOf_100 : decode cX12_sortsOf 100 = .ok (.iinc 3 1, 3) := by decide +kernel
theorem dX12_sortsOf_103 : decode cX12_sortsOf 103 = .ok (.goto (-99), 3) := by decide +kernel
theorem dX12_sortsOf_106 : decode cX12_sortsOf 106 = .ok (.iload_n 2, 1) := by decide +kernel
theorem dX12_sortsOf_107 : decode cX12_sortsOf 107 = .ok (.ireturn, 1) := by decide +kernel
theorem dX12_testOf_0 : decode cX12_testOf 0 = .ok (.aload_n 0, 1) := by decide +kernel
theorem dX12_testOf_1 : decode cX12_testOf 1 = .ok (.iload_n 1, 1) := by decide +kernel
theorem dX12_testOf_2 : decode cX12_testOf 2 = .ok (.invokevirtual 142, 3) := by decide +kernel
theorem dX12_testOf_5 : decode cX12_testOf 5 = .ok (.istore_n 2, 1) := by decide +kernel
theorem dX12_testOf_6 : decode cX12_testOf 6 = .ok (.iconst (-1), 1) := by decide +kernel
theorem dX12_testOf_7 : decode cX12_testOf 7 = .ok (.istore_n 3, 1) := by decide +kernel
theorem dX12_testOf_8 : decode cX12_testOf 8 = .ok (.bipush 6, 2) := by decide +kernel
theorem dX12_testOf_10 : decode cX12_testOf 10 = .ok (.istore 4, 2) := by decide +kernel
theorem dX12_testOf_12 : decode cX12_testOf 12 = .ok (.iconst 0, 1) := by decide +kernel
theorem dX12_testOf_13 : decode cX12_testOf 13 = .ok (.istore 5, 2) := by decide +kernel
theorem dX12_testOf_15 : decode cX12_testOf 15 = .ok (.iload 5, 2) := by decide +kernel
theorem dX12_testOf_17 : decode cX12_testOf 17 = .ok (.aload_n 0, 1) := by decide +kernel
theorem dX12_testOf_18 : decode cX12_testOf 18 = .ok (.getfield 90, 3) := by decide +kernel
theorem dX12_testOf_21 : decode cX12_testOf 21 = .ok (.if_icmp .ge 147, 3) := by decide +kernel
theorem dX12_testOf_24 : decode cX12_testOf 24 = .ok (.iload_n 2, 1) := by decide +kernel
theorem dX12_testOf_25 : decode cX12_testOf 25 = .ok (.ifCond .eq 143, 3) := by decide +kernel
theorem dX12_testOf_28 : decode cX12_testOf 28 = .ok (.iconst 0, 1) := by decide +kernel
theorem dX12_testOf_29 : decode cX12_testOf 29 = .ok (.istore 6, 2) := by decide +kernel
theorem dX12_testOf_31 : decode cX12_testOf 31 = .ok (.iconst 0, 1) := by decide +kernel
theorem dX12_testOf_32 : decode cX12_testOf 32 = .ok (.istore 7, 2) := by decide +kernel
theorem dX12_testOf_34 : decode cX12_testOf 34 = .ok (.iload 7, 2) := by decide +kernel
theorem dX12_testOf_36 : decode cX12_testOf 36 = .ok (.iconst 5, 1) := by decide +kernel
theorem dX12_testOf_37 : decode cX12_testOf 37 = .ok (.if_icmp .ge 95, 3) := by decide +kernel
theorem dX12_testOf_40 : decode cX12_testOf 40 = .ok (.iconst 0, 1) := by decide +kernel
theorem dX12_testOf_41 : decode cX12_testOf 41 = .ok (.istore 8, 2) := by decide +kernel
theorem dX12_testOf_43 : decode cX12_testOf 43 = .ok (.iconst 0, 1) := by decide +kernel
theorem dX12_testOf_44 : decode cX12_testOf 44 = .ok (.istore 9, 2) := by decide +kernel
theorem dX12_testOf_46 : decode cX12_testOf 46 = .ok (.iload 9, 2) := by decide +kernel
theorem dX12_testOf_48 : decode cX12_testOf 48 = .ok (.iconst 5, 1) := by decide +kernel
theorem dX12_testOf_49 : decode cX12_testOf 49 = .ok (.if_icmp .ge 51, 3) := by decide +kernel
theorem dX12_testOf_52 : decode cX12_testOf 52 = .ok (.iload 8, 2) := by decide +kernel
theorem dX12_testOf_54 : decode cX12_testOf 54 = .ok (.aload_n 0, 1) := by decide +kernel
theorem dX12_testOf_55 : decode cX12_testOf 55 = .ok (.iload 9, 2) := by decide +kernel
theorem dX12_testOf_57 : decode cX12_testOf 57 = .ok (.iload 5, 2) := by decide +kernel
theorem dX12_testOf_59 : decode cX12_testOf 59 = .ok (.aload_n 0, 1) := by decide +kernel
theorem dX12_testOf_60 : decode cX12_testOf 60 = .ok (.getfield 41, 3) := by decide +kernel
theorem dX12_testOf_63 : decode cX12_testOf 63 = .ok (.invokevirtual 116, 3) := by decide +kernel
theorem dX12_testOf_66 : decode cX12_testOf 66 = .ok (.aload_n 0, 1) := by decide +kernel
theorem dX12_testOf_67 : decode cX12_testOf 67 = .ok (.iload 7, 2) := by decide +kernel
theorem dX12_testOf_69 : decode cX12_testOf 69 = .ok (.iload 5, 2) := by decide +kernel
theorem dX12_testOf_71 : decode cX12_testOf 71 = .ok (.aload_n 0, 1) := by decide +kernel
theorem dX12_testOf_72 : decode cX12_testOf 72 = .ok (.getfield 41, 3) := by decide +kernel
theorem dX12_testOf_75 : decode cX12_testOf 75 = .ok (.invokevirtual 116, 3) := by decide +kernel
theorem dX12_testOf_78 : decode cX12_testOf 78 = .ok (.if_icmp .ne 12, 3) := by decide +kernel
theorem dX12_testOf_81 : decode cX12_testOf 81 = .ok (.iload_n 2, 1) := by decide +kernel
theorem dX12_testOf_82 : decode cX12_testOf 82 = .ok (.iload 9, 2) := by decide +kernel
theorem dX12_testOf_84 : decode cX12_testOf 84 = .ok (.ishr, 1) := by decide +kernel
theorem dX12_testOf_85 : decode cX12_testOf 85 = .ok (.iconst 1, 1) := by decide +kernel
theorem dX12_testOf_86 : decode cX12_testOf 86 = .ok (.iand, 1) := by decide +kernel
theorem dX12_testOf_87 : decode cX12_testOf 87 = .ok (.goto 4, 3) := by decide +kernel
theorem dX12_testOf_90 : decode cX12_testOf 90 = .ok (.iconst 0, 1) := by decide +kernel
theorem dX12_testOf_91 : decode cX12_testOf 91 = .ok (.iadd, 1) := by decide +kernel
theorem dX12_testOf_92 : decode cX12_testOf 92 = .ok (.istore 8, 2) := by decide +kernel
theorem dX12_testOf_94 : decode cX12_testOf 94 = .ok (.iinc 9 1, 3) := by decide +kernel
theorem dX12_testOf_97 : decode cX12_testOf 97 = .ok (.goto (-51), 3) := by decide +kernel
theorem dX12_testOf_100 : decode cX12_testOf 100 = .ok (.iload_n 2, 1) := by decide +kernel
theorem dX12_testOf_101 : decode cX12_testOf 101 = .ok (.iload 7, 2) := by decide +kernel
theorem dX12_testOf_103 : decode cX12_testOf 103 = .ok (.ishr, 1) := by decide +kernel
theorem dX12_testOf_104 : decode cX12_testOf 104 = .ok (.iconst 1, 1) := by decide +kernel
theorem dX12_testOf_105 : decode cX12_testOf 105 = .ok (.iand, 1) := by decide +kernel
theorem dX12_testOf_106 : decode cX12_testOf 106 = .ok (.iconst 1, 1) := by decide +kernel
theorem dX12_testOf_107 : decode cX12_testOf 107 = .ok (.if_icmp .ne 15, 3) := by decide +kernel
theorem dX12_testOf_110 : decode cX12_testOf 110 = .ok (.iload 8, 2) := by decide +kernel
theorem dX12_testOf_112 : decode cX12_testOf 112 = .ok (.iload 6, 2) := by decide +kernel
theorem dX12_testOf_114 : decode cX12_testOf 114 = .ok (.if_icmp .le 8, 3) := by decide +kernel
theorem dX12_testOf_117 : decode cX12_testOf 117 = .ok (.iload 8, 2) := by decide +kernel
theorem dX12_testOf_119 : decode cX12_testOf 119 = .ok (.goto 5, 3) := by decide +kernel
theorem dX12_testOf_122 : decode cX12_testOf 122 = .ok (.iload 6, 2) := by decide +kernel
theorem dX12_testOf_124 : decode cX12_testOf 124 = .ok (.istore 6, 2) := by decide +kernel
theorem dX12_testOf_126 : decode cX12_testOf 126 = .ok (.iinc 7 1, 3) := by decide +kernel
theorem dX12_testOf_129 : decode cX12_testOf 129 = .ok (.goto (-95), 3) := by decide +kernel
theorem dX12_testOf_132 : decode cX12_testOf 132 = .ok (.iload 6, 2) := by decide +kernel
theorem dX12_testOf_134 : decode cX12_testOf 134 = .ok (.iload 4, 2) := by decide +kernel
theorem dX12_testOf_136 : decode cX12_testOf 136 = .ok (.if_icmp .ge 8, 3) := by decide +kernel
theorem dX12_testOf_139 : decode cX12_testOf 139 = .ok (.iload 5, 2) := by decide +kernel
theorem dX12_testOf_141 : decode cX12_testOf 141 = .ok (.goto 4, 3) := by decide +kernel
theorem dX12_testOf_144 : decode cX12_testOf 144 = .ok (.iload_n 3, 1) := by decide +kernel
theorem dX12_testOf_145 : decode cX12_testOf 145 = .ok (.istore_n 3, 1) := by decide +kernel
theorem dX12_testOf_146 : decode cX12_testOf 146 = .ok (.iload 6, 2) := by decide +kernel
theorem dX12_testOf_148 : decode cX12_testOf 148 = .ok (.iload 4, 2) := by decide +kernel
theorem dX12_testOf_150 : decode cX12_testOf 150 = .ok (.if_icmp .ge 8, 3) := by decide +kernel
theorem dX12_testOf_153 : decode cX12_testOf 153 = .ok (.iload 6, 2) := by decide +kernel
theorem dX12_testOf_155 : decode cX12_testOf 155 = .ok (.goto 5, 3) := by decide +kernel
theorem dX12_testOf_158 : decode cX12_testOf 158 = .ok (.iload 4, 2) := by decide +kernel
theorem dX12_testOf_160 : decode cX12_testOf 160 = .ok (.istore 4, 2) := by decide +kernel
theorem dX12_testOf_162 : decode cX12_testOf 162 = .ok (.iinc 5 1, 3) := by decide +kernel
theorem dX12_testOf_165 : decode cX12_testOf 165 = .ok (.goto (-150), 3) := by decide +kernel
theorem dX12_testOf_168 : decode cX12_testOf 168 = .ok (.iload_n 3, 1) := by decide +kernel
theorem dX12_testOf_169 : decode cX12_testOf 169 = .ok (.ireturn, 1) := by decide +kernel
theorem dX12_draw_0 : decode cX12_draw 0 = .ok (.aload_n 0, 1) := by decide +kernel
theorem dX12_draw_1 : decode cX12_draw 1 = .ok (.ldc2_w 213, 3) := by decide +kernel
theorem dX12_draw_4 : decode cX12_draw 4 = .ok (.aload_n 0, 1) := by decide +kernel
theorem dX12_draw_5 : decode cX12_draw 5 = .ok (.getfield 215, 3) := by decide +kernel
theorem dX12_draw_8 : decode cX12_draw 8 = .ok (.i2l, 1) := by decide +kernel
theorem dX12_draw_9 : decode cX12_draw 9 = .ok (.lmul, 1) := by decide +kernel
theorem dX12_draw_10 : decode cX12_draw 10 = .ok (.ldc2_w 218, 3) := by decide +kernel
theorem dX12_draw_13 : decode cX12_draw 13 = .ok (.ladd, 1) := by decide +kernel
theorem dX12_draw_14 : decode cX12_draw 14 = .ok (.ldc2_w 220, 3) := by decide +kernel
theorem dX12_draw_17 : decode cX12_draw 17 = .ok (.land, 1) := by decide +kernel
theorem dX12_draw_18 : decode cX12_draw 18 = .ok (.l2i, 1) := by decide +kernel
theorem dX12_draw_19 : decode cX12_draw 19 = .ok (.putfield 215, 3) := by decide +kernel
theorem dX12_draw_22 : decode cX12_draw 22 = .ok (.aload_n 0, 1) := by decide +kernel
theorem dX12_draw_23 : decode cX12_draw 23 = .ok (.getfield 215, 3) := by decide +kernel
theorem dX12_draw_26 : decode cX12_draw 26 = .ok (.ldc 222, 2) := by decide +kernel
theorem dX12_draw_28 : decode cX12_draw 28 = .ok (.idiv, 1) := by decide +kernel
theorem dX12_draw_29 : decode cX12_draw 29 = .ok (.iload_n 1, 1) := by decide +kernel
theorem dX12_draw_30 : decode cX12_draw 30 = .ok (.irem, 1) := by decide +kernel
theorem dX12_draw_31 : decode cX12_draw 31 = .ok (.ireturn, 1) := by decide +kernel
theorem dX12_soManieth_0 : decode cX12_soManieth 0 = .ok (.iload_n 1, 1) := by decide +kernel
theorem dX12_soManieth_1 : decode cX12_soManieth 1 = .ok (.istore_n 2, 1) := by decide +kernel
theorem dX12_soManieth_2 : decode cX12_soManieth 2 = .ok (.iconst 0, 1) := by decide +kernel
theorem dX12_soManieth_3 : decode cX12_soManieth 3 = .ok (.istore_n 3, 1) := by decide +kernel
theorem dX12_soManieth_4 : decode cX12_soManieth 4 = .ok (.aload_n 0, 1) := by decide +kernel
theorem dX12_soManieth_5 : decode cX12_soManieth 5 = .ok (.getfield 19, 3) := by decide +kernel
theorem dX12_soManieth_8 : decode cX12_soManieth 8 = .ok (.iload_n 3, 1) := by decide +kernel
theorem dX12_soManieth_9 : decode cX12_soManieth 9 = .ok (.iaload, 1) := by decide +kernel
theorem dX12_soManieth_10 : decode cX12_soManieth 10 = .ok (.ifCond .eq 7, 3) := by decide +kernel
theorem dX12_soManieth_13 : decode cX12_soManieth 13 = .ok (.iload_n 2, 1) := by decide +kernel
theorem dX12_soManieth_14 : decode cX12_soManieth 14 = .ok (.ifCond .le 18, 3) := by decide +kernel
theorem dX12_soManieth_17 : decode cX12_soManieth 17 = .ok (.iload_n 2, 1) := by decide +kernel
theorem dX12_soManieth_18 : decode cX12_soManieth 18 = .ok (.aload_n 0, 1) := by decide +kernel
theorem dX12_soManieth_19 : decode cX12_soManieth 19 = .ok (.getfield 19, 3) := by decide +kernel
theorem dX12_soManieth_22 : decode cX12_soManieth 22 = .ok (.iload_n 3, 1) := by decide +kernel
theorem dX12_soManieth_23 : decode cX12_soManieth 23 = .ok (.iaload, 1) := by decide +kernel
theorem dX12_soManieth_24 : decode cX12_soManieth 24 = .ok (.isub, 1) := by decide +kernel
theorem dX12_soManieth_25 : decode cX12_soManieth 25 = .ok (.istore_n 2, 1) := by decide +kernel
theorem dX12_soManieth_26 : decode cX12_soManieth 26 = .ok (.iinc 3 1, 3) := by decide +kernel
theorem dX12_soManieth_29 : decode cX12_soManieth 29 = .ok (.goto (-25), 3) := by decide +kernel
theorem dX12_soManieth_32 : decode cX12_soManieth 32 = .ok (.iload_n 3, 1) := by decide +kernel
theorem dX12_soManieth_33 : decode cX12_soManieth 33 = .ok (.ireturn, 1) := by decide +kernel
theorem dX12_tryOne_0 : decode cX12_tryOne 0 = .ok (.aload_n 0, 1) := by decide +kernel
theorem dX12_tryOne_1 : decode cX12_tryOne 1 = .ok (.aload_n 0, 1) := by decide +kernel
theorem dX12_tryOne_2 : decode cX12_tryOne 2 = .ok (.getfield 90, 3) := by decide +kernel
theorem dX12_tryOne_5 : decode cX12_tryOne 5 = .ok (.invokevirtual 223, 3) := by decide +kernel
theorem dX12_tryOne_8 : decode cX12_tryOne 8 = .ok (.istore_n 2, 1) := by decide +kernel
theorem dX12_tryOne_9 : decode cX12_tryOne 9 = .ok (.iconst 0, 1) := by decide +kernel
theorem dX12_tryOne_10 : decode cX12_tryOne 10 = .ok (.istore_n 3, 1) := by decide +kernel
theorem dX12_tryOne_11 : decode cX12_tryOne 11 = .ok (.iload_n 3, 1) := by decide +kernel
theorem dX12_tryOne_12 : decode cX12_tryOne 12 = .ok (.aload_n 0, 1) := by decide +kernel
theorem dX12_tryOne_13 : decode cX12_tryOne 13 = .ok (.getfield 90, 3) := by decide +kernel
theorem dX12_tryOne_16 : decode cX12_tryOne 16 = .ok (.if_icmp .ge 16, 3) := by decide +kernel
theorem dX12_tryOne_19 : decode cX12_tryOne 19 = .ok (.aload_n 0, 1) := by decide +kernel
theorem dX12_tryOne_20 : decode cX12_tryOne 20 = .ok (.getfield 19, 3) := by decide +kernel
theorem dX12_tryOne_23 : decode cX12_tryOne 23 = .ok (.iload_n 3, 1) := by decide +kernel
theorem dX12_tryOne_24 : decode cX12_tryOne 24 = .ok (.iconst 1, 1) := by decide +kernel
theorem dX12_tryOne_25 : decode cX12_tryOne 25 = .ok (.iastore, 1) := by decide +kernel
theorem dX12_tryOne_26 : decode cX12_tryOne 26 = .ok (.iinc 3 1, 3) := by decide +kernel
theorem dX12_tryOne_29 : decode cX12_tryOne 29 = .ok (.goto (-18), 3) := by decide +kernel
theorem dX12_tryOne_32 : decode cX12_tryOne 32 = .ok (.iconst 0, 1) := by decide +kernel
theorem dX12_tryOne_33 : decode cX12_tryOne 33 = .ok (.istore_n 3, 1) := by decide +kernel
theorem dX12_tryOne_34 : decode cX12_tryOne 34 = .ok (.iconst (-1), 1) := by decide +kernel
theorem dX12_tryOne_35 : decode cX12_tryOne 35 = .ok (.istore 4, 2) := by decide +kernel
theorem dX12_tryOne_37 : decode cX12_tryOne 37 = .ok (.iload 4, 2) := by decide +kernel
theorem dX12_tryOne_39 : decode cX12_tryOne 39 = .ok (.iload_n 2, 1) := by decide +kernel
theorem dX12_tryOne_40 : decode cX12_tryOne 40 = .ok (.if_icmp .eq 95, 3) := by decide +kernel
theorem dX12_tryOne_43 : decode cX12_tryOne 43 = .ok (.aload_n 0, 1) := by decide +kernel
theorem dX12_tryOne_44 : decode cX12_tryOne 44 = .ok (.aload_n 0, 1) := by decide +kernel
theorem dX12_tryOne_45 : decode cX12_tryOne 45 = .ok (.aload_n 0, 1) := by decide +kernel
theorem dX12_tryOne_46 : decode cX12_tryOne 46 = .ok (.invokevirtual 126, 3) := by decide +kernel
theorem dX12_tryOne_49 : decode cX12_tryOne 49 = .ok (.invokevirtual 223, 3) := by decide +kernel
theorem dX12_tryOne_52 : decode cX12_tryOne 52 = .ok (.invokevirtual 226, 3) := by decide +kernel
theorem dX12_tryOne_55 : decode cX12_tryOne 55 = .ok (.istore 4, 2) := by decide +kernel
theorem dX12_tryOne_57 : decode cX12_tryOne 57 = .ok (.iinc 3 1, 3) := by decide +kernel
theorem dX12_tryOne_60 : decode cX12_tryOne 60 = .ok (.aload_n 0, 1) := by decide +kernel
theorem dX12_tryOne_61 : decode cX12_tryOne 61 = .ok (.iload_n 1, 1) := by decide +kernel
theorem dX12_tryOne_62 : decode cX12_tryOne 62 = .ok (.iload 4, 2) := by decide +kernel
theorem dX12_tryOne_64 : decode cX12_tryOne 64 = .ok (.iload_n 2, 1) := by decide +kernel
theorem dX12_tryOne_65 : decode cX12_tryOne 65 = .ok (.invokevirtual 116, 3) := by decide +kernel
theorem dX12_tryOne_68 : decode cX12_tryOne 68 = .ok (.istore 5, 2) := by decide +kernel
theorem dX12_tryOne_70 : decode cX12_tryOne 70 = .ok (.iconst 0, 1) := by decide +kernel
theorem dX12_tryOne_71 : decode cX12_tryOne 71 = .ok (.istore 6, 2) := by decide +kernel
theorem dX12_tryOne_73 : decode cX12_tryOne 73 = .ok (.iload 6, 2) := by decide +kernel
theorem dX12_tryOne_75 : decode cX12_tryOne 75 = .ok (.aload_n 0, 1) := by decide +kernel
theorem dX12_tryOne_76 : decode cX12_tryOne 76 = .ok (.getfield 90, 3) := by decide +kernel
theorem dX12_tryOne_79 : decode cX12_tryOne 79 = .ok (.if_icmp .ge 53, 3) := by decide +kernel
theorem dX12_tryOne_82 : decode cX12_tryOne 82 = .ok (.aload_n 0, 1) := by decide +kernel
theorem dX12_tryOne_83 : decode cX12_tryOne 83 = .ok (.getfield 19, 3) := by decide +kernel
theorem dX12_tryOne_86 : decode cX12_tryOne 86 = .ok (.iload 6, 2) := by decide +kernel
theorem dX12_tryOne_88 : decode cX12_tryOne 88 = .ok (.aload_n 0, 1) := by decide +kernel
theorem dX12_tryOne_89 : decode cX12_tryOne 89 = .ok (.getfield 19, 3) := by decide +kernel
theorem dX12_tryOne_92 : decode cX12_tryOne 92 = .ok (.iload 6, 2) := by decide +kernel
theorem dX12_tryOne_94 : decode cX12_tryOne 94 = .ok (.iaload, 1) := by decide +kernel
theorem dX12_tryOne_95 : decode cX12_tryOne 95 = .ok (.iconst 1, 1) := by decide +kernel
theorem dX12_tryOne_96 : decode cX12_tryOne 96 = .ok (.if_icmp .ne 28, 3) := by decide +kernel
theorem dX12_tryOne_99 : decode cX12_tryOne 99 = .ok (.iload 6, 2) := by decide +kernel
theorem dX12_tryOne_101 : decode cX12_tryOne 101 = .ok (.iload 4, 2) := by decide +kernel
theorem dX12_tryOne_103 : decode cX12_tryOne 103 = .ok (.if_icmp .eq 21, 3) := by decide +kernel
theorem dX12_tryOne_106 : decode cX12_tryOne 106 = .ok (.aload_n 0, 1) := by decide +kernel
theorem dX12_tryOne_107 : decode cX12_tryOne 107 = .ok (.iload_n 1, 1) := by decide +kernel
theorem dX12_tryOne_108 : decode cX12_tryOne 108 = .ok (.iload 4, 2) := by decide +kernel
theorem dX12_tryOne_110 : decode cX12_tryOne 110 = .ok (.iload 6, 2) := by decide +kernel
theorem dX12_tryOne_112 : decode cX12_tryOne 112 = .ok (.invokevirtual 116, 3) := by decide +kernel
theorem dX12_tryOne_115 : decode cX12_tryOne 115 = .ok (.iload 5, 2) := by decide +kernel
theorem dX12_tryOne_117 : decode cX12_tryOne 117 = .ok (.if_icmp .ne 7, 3) := by decide +kernel
theorem dX12_tryOne_120 : decode cX12_tryOne 120 = .ok (.iconst 1, 1) := by decide +kernel
theorem dX12_tryOne_121 : decode cX12_tryOne 121 = .ok (.goto 4, 3) := by decide +kernel
theorem dX12_tryOne_124 : decode cX12_tryOne 124 = .ok (.iconst 0, 1) := by decide +kernel
theorem dX12_tryOne_125 : decode cX12_tryOne 125 = .ok (.iastore, 1) := by decide +kernel
theorem dX12_tryOne_126 : decode cX12_tryOne 126 = .ok (.iinc 6 1, 3) := by decide +kernel
theorem dX12_tryOne_129 : decode cX12_tryOne 129 = .ok (.goto (-56), 3) := by decide +kernel
theorem dX12_tryOne_132 : decode cX12_tryOne 132 = .ok (.goto (-95), 3) := by decide +kernel
theorem dX12_tryOne_135 : decode cX12_tryOne 135 = .ok (.iload_n 3, 1) := by decide +kernel
theorem dX12_tryOne_136 : decode cX12_tryOne 136 = .ok (.ireturn, 1) := by decide +kernel
theorem dX12_tries_0 : decode cX12_tries 0 = .ok (.aload_n 0, 1) := by decide +kernel
theorem dX12_tries_1 : decode cX12_tries 1 = .ok (.iload_n 1, 1) := by decide +kernel
theorem dX12_tries_2 : decode cX12_tries 2 = .ok (.invokevirtual 110, 3) := by decide +kernel
theorem dX12_tries_5 : decode cX12_tries 5 = .ok (.ifCond .ne 6, 3) := by decide +kernel
theorem dX12_tries_8 : decode cX12_tries 8 = .ok (.bipush (-101), 2) := by decide +kernel
theorem dX12_tries_10 : decode cX12_tries 10 = .ok (.ireturn, 1) := by decide +kernel
theorem dX12_tries_11 : decode cX12_tries 11 = .ok (.iload_n 2, 1) := by decide +kernel
theorem dX12_tries_12 : decode cX12_tries 12 = .ok (.i2l, 1) := by decide +kernel
theorem dX12_tries_13 : decode cX12_tries 13 = .ok (.lconst 1, 1) := by decide +kernel
theorem dX12_tries_14 : decode cX12_tries 14 = .ok (.ldc2_w 229, 3) := by decide +kernel
theorem dX12_tries_17 : decode cX12_tries 17 = .ok (.invokestatic 46, 3) := by decide +kernel
theorem dX12_tries_20 : decode cX12_tries 20 = .ok (.ifCond .eq 20, 3) := by decide +kernel
theorem dX12_tries_23 : decode cX12_tries 23 = .ok (.iload_n 3, 1) := by decide +kernel
theorem dX12_tries_24 : decode cX12_tries 24 = .ok (.ifCond .lt 16, 3) := by decide +kernel
theorem dX12_tries_27 : decode cX12_tries 27 = .ok (.iload 4, 2) := by decide +kernel
theorem dX12_tries_29 : decode cX12_tries 29 = .ok (.i2l, 1) := by decide +kernel
theorem dX12_tries_30 : decode cX12_tries 30 = .ok (.lconst 0, 1) := by decide +kernel
theorem dX12_tries_31 : decode cX12_tries 31 = .ok (.ldc2_w 159, 3) := by decide +kernel
theorem dX12_tries_34 : decode cX12_tries 34 = .ok (.invokestatic 46, 3) := by decide +kernel
theorem dX12_tries_37 : decode cX12_tries 37 = .ok (.ifCond .ne 6, 3) := by decide +kernel
theorem dX12_tries_40 : decode cX12_tries 40 = .ok (.bipush (-102), 2) := by decide +kernel
theorem dX12_tries_42 : decode cX12_tries 42 = .ok (.ireturn, 1) := by decide +kernel
theorem dX12_tries_43 : decode cX12_tries 43 = .ok (.aload_n 0, 1) := by decide +kernel
theorem dX12_tries_44 : decode cX12_tries 44 = .ok (.iload_n 3, 1) := by decide +kernel
theorem dX12_tries_45 : decode cX12_tries 45 = .ok (.putfield 215, 3) := by decide +kernel
theorem dX12_tries_48 : decode cX12_tries 48 = .ok (.iconst 0, 1) := by decide +kernel
theorem dX12_tries_49 : decode cX12_tries 49 = .ok (.istore 5, 2) := by decide +kernel
theorem dX12_tries_51 : decode cX12_tries 51 = .ok (.iconst 0, 1) := by decide +kernel
theorem dX12_tries_52 : decode cX12_tries 52 = .ok (.istore 6, 2) := by decide +kernel
theorem dX12_tries_54 : decode cX12_tries 54 = .ok (.iconst 0, 1) := by decide +kernel
theorem dX12_tries_55 : decode cX12_tries 55 = .ok (.istore 7, 2) := by decide +kernel
theorem dX12_tries_57 : decode cX12_tries 57 = .ok (.iload 7, 2) := by decide +kernel
theorem dX12_tries_59 : decode cX12_tries 59 = .ok (.iload_n 2, 1) := by decide +kernel
theorem dX12_tries_60 : decode cX12_tries 60 = .ok (.if_icmp .ge 44, 3) := by decide +kernel
theorem dX12_tries_63 : decode cX12_tries 63 = .ok (.aload_n 0, 1) := by decide +kernel
theorem dX12_tries_64 : decode cX12_tries 64 = .ok (.aload_n 0, 1) := by decide +kernel
theorem dX12_tries_65 : decode cX12_tries 65 = .ok (.getfield 13, 3) := by decide +kernel
theorem dX12_tries_68 : decode cX12_tries 68 = .ok (.iload_n 1, 1) := by decide +kernel
theorem dX12_tries_69 : decode cX12_tries 69 = .ok (.iaload, 1) := by decide +kernel
theorem dX12_tries_70 : decode cX12_tries 70 = .ok (.invokevirtual 231, 3) := by decide +kernel
theorem dX12_tries_73 : decode cX12_tries 73 = .ok (.istore 8, 2) := by decide +kernel
theorem dX12_tries_75 : decode cX12_tries 75 = .ok (.iload 5, 2) := by decide +kernel
theorem dX12_tries_77 : decode cX12_tries 77 = .ok (.iload 8, 2) := by decide +kernel
theorem dX12_tries_79 : decode cX12_tries 79 = .ok (.iadd, 1) := by decide +kernel
theorem dX12_tries_80 : decode cX12_tries 80 = .ok (.istore 5, 2) := by decide +kernel
theorem dX12_tries_82 : decode cX12_tries 82 = .ok (.iload 6, 2) := by decide +kernel
theorem dX12_tries_84 : decode cX12_tries 84 = .ok (.iload 8, 2) := by decide +kernel
theorem dX12_tries_86 : decode cX12_tries 86 = .ok (.iconst 4, 1) := by decide +kernel
theorem dX12_tries_87 : decode cX12_tries 87 = .ok (.if_icmp .ge 7, 3) := by decide +kernel
theorem dX12_tries_90 : decode cX12_tries 90 = .ok (.iconst 1, 1) := by decide +kernel
theorem dX12_tries_91 : decode cX12_tries 91 = .ok (.goto 4, 3) := by decide +kernel
theorem dX12_tries_94 : decode cX12_tries 94 = .ok (.iconst 0, 1) := by decide +kernel
theorem dX12_tries_95 : decode cX12_tries 95 = .ok (.iadd, 1) := by decide +kernel
theorem dX12_tries_96 : decode cX12_tries 96 = .ok (.istore 6, 2) := by decide +kernel
theorem dX12_tries_98 : decode cX12_tries 98 = .ok (.iinc 7 1, 3) := by decide +kernel
theorem dX12_tries_101 : decode cX12_tries 101 = .ok (.goto (-44), 3) := by decide +kernel
theorem dX12_tries_104 : decode cX12_tries 104 = .ok (.iload 4, 2) := by decide +kernel
theorem dX12_tries_106 : decode cX12_tries 106 = .ok (.ifCond .ne 8, 3) := by decide +kernel
theorem dX12_tries_109 : decode cX12_tries 109 = .ok (.iload 5, 2) := by decide +kernel
theorem dX12_tries_111 : decode cX12_tries 111 = .ok (.goto 18, 3) := by decide +kernel
theorem dX12_tries_114 : decode cX12_tries 114 = .ok (.iload 4, 2) := by decide +kernel
theorem dX12_tries_116 : decode cX12_tries 116 = .ok (.iconst 1, 1) := by decide +kernel
theorem dX12_tries_117 : decode cX12_tries 117 = .ok (.if_icmp .ne 8, 3) := by decide +kernel
theorem dX12_tries_120 : decode cX12_tries 120 = .ok (.iload 6, 2) := by decide +kernel
theorem dX12_tries_122 : decode cX12_tries 122 = .ok (.goto 7, 3) := by decide +kernel
theorem dX12_tries_125 : decode cX12_tries 125 = .ok (.aload_n 0, 1) := by decide +kernel
theorem dX12_tries_126 : decode cX12_tries 126 = .ok (.getfield 215, 3) := by decide +kernel
theorem dX12_tries_129 : decode cX12_tries 129 = .ok (.ireturn, 1) := by decide +kernel
theorem dX12_image_0 : decode cX12_image 0 = .ok (.aload_n 0, 1) := by decide +kernel
theorem dX12_image_1 : decode cX12_image 1 = .ok (.invokevirtual 129, 3) := by decide +kernel
theorem dX12_image_4 : decode cX12_image 4 = .ok (.ifCond .eq 6, 3) := by decide +kernel
theorem dX12_image_7 : decode cX12_image 7 = .ok (.bipush (-103), 2) := by decide +kernel
theorem dX12_image_9 : decode cX12_image 9 = .ok (.ireturn, 1) := by decide +kernel
theorem dX12_image_10 : decode cX12_image 10 = .ok (.aload_n 0, 1) := by decide +kernel
theorem dX12_image_11 : decode cX12_image 11 = .ok (.getfield 13, 3) := by decide +kernel
theorem dX12_image_14 : decode cX12_image 14 = .ok (.aload_n 0, 1) := by decide +kernel
theorem dX12_image_15 : decode cX12_image 15 = .ok (.getfield 31, 3) := by decide +kernel
theorem dX12_image_18 : decode cX12_image 18 = .ok (.invokestatic 234, 3) := by decide +kernel
theorem dX12_image_21 : decode cX12_image 21 = .ok (.aload_n 0, 1) := by decide +kernel
theorem dX12_image_22 : decode cX12_image 22 = .ok (.getfield 16, 3) := by decide +kernel
theorem dX12_image_25 : decode cX12_image 25 = .ok (.aload_n 0, 1) := by decide +kernel
theorem dX12_image_26 : decode cX12_image 26 = .ok (.getfield 34, 3) := by decide +kernel
theorem dX12_image_29 : decode cX12_image 29 = .ok (.invokestatic 234, 3) := by decide +kernel
theorem dX12_image_32 : decode cX12_image 32 = .ok (.aload_n 0, 1) := by decide +kernel
theorem dX12_image_33 : decode cX12_image 33 = .ok (.aload_n 0, 1) := by decide +kernel
theorem dX12_image_34 : decode cX12_image 34 = .ok (.getfield 41, 3) := by decide +kernel
theorem dX12_image_37 : decode cX12_image 37 = .ok (.putfield 238, 3) := by decide +kernel
theorem dX12_image_40 : decode cX12_image 40 = .ok (.aload_n 0, 1) := by decide +kernel
theorem dX12_image_41 : decode cX12_image 41 = .ok (.aload_n 0, 1) := by decide +kernel
theorem dX12_image_42 : decode cX12_image 42 = .ok (.getfield 93, 3) := by decide +kernel
theorem dX12_image_45 : decode cX12_image 45 = .ok (.putfield 241, 3) := by decide +kernel
theorem dX12_image_48 : decode cX12_image 48 = .ok (.aload_n 0, 1) := by decide +kernel
theorem dX12_image_49 : decode cX12_image 49 = .ok (.aload_n 0, 1) := by decide +kernel
theorem dX12_image_50 : decode cX12_image 50 = .ok (.getfield 96, 3) := by decide +kernel
theorem dX12_image_53 : decode cX12_image 53 = .ok (.putfield 37, 3) := by decide +kernel
theorem dX12_image_56 : decode cX12_image 56 = .ok (.aload_n 0, 1) := by decide +kernel
theorem dX12_image_57 : decode cX12_image 57 = .ok (.getfield 93, 3) := by decide +kernel
theorem dX12_image_60 : decode cX12_image 60 = .ok (.ireturn, 1) := by decide +kernel
theorem dX12_restore_0 : decode cX12_restore 0 = .ok (.aload_n 0, 1) := by decide +kernel
theorem dX12_restore_1 : decode cX12_restore 1 = .ok (.getfield 37, 3) := by decide +kernel
theorem dX12_restore_4 : decode cX12_restore 4 = .ok (.aload_n 0, 1) := by decide +kernel
theorem dX12_restore_5 : decode cX12_restore 5 = .ok (.getfield 96, 3) := by decide +kernel
theorem dX12_restore_8 : decode cX12_restore 8 = .ok (.if_icmp .eq 6, 3) := by decide +kernel
theorem dX12_restore_11 : decode cX12_restore 11 = .ok (.bipush (-103), 2) := by decide +kernel
theorem dX12_restore_13 : decode cX12_restore 13 = .ok (.ireturn, 1) := by decide +kernel
theorem dX12_restore_14 : decode cX12_restore 14 = .ok (.aload_n 0, 1) := by decide +kernel
theorem dX12_restore_15 : decode cX12_restore 15 = .ok (.getfield 31, 3) := by decide +kernel
theorem dX12_restore_18 : decode cX12_restore 18 = .ok (.aload_n 0, 1) := by decide +kernel
theorem dX12_restore_19 : decode cX12_restore 19 = .ok (.getfield 13, 3) := by decide +kernel
theorem dX12_restore_22 : decode cX12_restore 22 = .ok (.invokestatic 234, 3) := by decide +kernel
theorem dX12_restore_25 : decode cX12_restore 25 = .ok (.aload_n 0, 1) := by decide +kernel
theorem dX12_restore_26 : decode cX12_restore 26 = .ok (.getfield 34, 3) := by decide +kernel
theorem dX12_restore_29 : decode cX12_restore 29 = .ok (.aload_n 0, 1) := by decide +kernel
theorem dX12_restore_30 : decode cX12_restore 30 = .ok (.getfield 16, 3) := by decide +kernel
theorem dX12_restore_33 : decode cX12_restore 33 = .ok (.invokestatic 234, 3) := by decide +kernel
theorem dX12_restore_36 : decode cX12_restore 36 = .ok (.aload_n 0, 1) := by decide +kernel
theorem dX12_restore_37 : decode cX12_restore 37 = .ok (.aload_n 0, 1) := by decide +kernel
theorem dX12_restore_38 : decode cX12_restore 38 = .ok (.getfield 238, 3) := by decide +kernel
theorem dX12_restore_41 : decode cX12_restore 41 = .ok (.putfield 41, 3) := by decide +kernel
theorem dX12_restore_44 : decode cX12_restore 44 = .ok (.aload_n 0, 1) := by decide +kernel
theorem dX12_restore_45 : decode cX12_restore 45 = .ok (.aload_n 0, 1) := by decide +kernel
theorem dX12_restore_46 : decode cX12_restore 46 = .ok (.getfield 241, 3) := by decide +kernel
theorem dX12_restore_49 : decode cX12_restore 49 = .ok (.putfield 93, 3) := by decide +kernel
theorem dX12_restore_52 : decode cX12_restore 52 = .ok (.aload_n 0, 1) := by decide +kernel
theorem dX12_restore_53 : decode cX12_restore 53 = .ok (.getfield 93, 3) := by decide +kernel
theorem dX12_restore_56 : decode cX12_restore 56 = .ok (.ireturn, 1) := by decide +kernel
theorem dX12_countOf_0 : decode cX12_countOf 0 = .ok (.iload_n 1, 1) := by decide +kernel
theorem dX12_countOf_1 : decode cX12_countOf 1 = .ok (.tableswitch 114 0 10 #[59, 64, 69, 74, 79, 84, 89, 94, 99, 104, 109], 59) := by decide +kernel
theorem dX12_countOf_60 : decode cX12_countOf 60 = .ok (.aload_n 0, 1) := by decide +kernel
theorem dX12_countOf_61 : decode cX12_countOf 61 = .ok (.getfield 81, 3) := by decide +kernel
theorem dX12_countOf_64 : decode cX12_countOf 64 = .ok (.ireturn, 1) := by decide +kernel
theorem dX12_countOf_65 : decode cX12_countOf 65 = .ok (.aload_n 0, 1) := by decide +kernel
theorem dX12_countOf_66 : decode cX12_countOf 66 = .ok (.getfield 84, 3) := by decide +kernel
theorem dX12_countOf_69 : decode cX12_countOf 69 = .ok (.ireturn, 1) := by decide +kernel
theorem dX12_countOf_70 : decode cX12_countOf 70 = .ok (.aload_n 0, 1) := by decide +kernel
theorem dX12_countOf_71 : decode cX12_countOf 71 = .ok (.getfield 90, 3) := by decide +kernel
theorem dX12_countOf_74 : decode cX12_countOf 74 = .ok (.ireturn, 1) := by decide +kernel
theorem dX12_countOf_75 : decode cX12_countOf 75 = .ok (.aload_n 0, 1) := by decide +kernel
theorem dX12_countOf_76 : decode cX12_countOf 76 = .ok (.getfield 87, 3) := by decide +kernel
theorem dX12_countOf_79 : decode cX12_countOf 79 = .ok (.ireturn, 1) := by decide +kernel
theorem dX12_countOf_80 : decode cX12_countOf 80 = .ok (.aload_n 0, 1) := by decide +kernel
theorem dX12_countOf_81 : decode cX12_countOf 81 = .ok (.getfield 93, 3) := by decide +kernel
theorem dX12_countOf_84 : decode cX12_countOf 84 = .ok (.ireturn, 1) := by decide +kernel
theorem dX12_countOf_85 : decode cX12_countOf 85 = .ok (.aload_n 0, 1) := by decide +kernel
theorem dX12_countOf_86 : decode cX12_countOf 86 = .ok (.getfield 41, 3) := by decide +kernel
theorem dX12_countOf_89 : decode cX12_countOf 89 = .ok (.ireturn, 1) := by decide +kernel
theorem dX12_countOf_90 : decode cX12_countOf 90 = .ok (.aload_n 0, 1) := by decide +kernel
theorem dX12_countOf_91 : decode cX12_countOf 91 = .ok (.getfield 50, 3) := by decide +kernel
theorem dX12_countOf_94 : decode cX12_countOf 94 = .ok (.ireturn, 1) := by decide +kernel
theorem dX12_countOf_95 : decode cX12_countOf 95 = .ok (.aload_n 0, 1) := by decide +kernel
theorem dX12_countOf_96 : decode cX12_countOf 96 = .ok (.getfield 96, 3) := by decide +kernel
theorem dX12_countOf_99 : decode cX12_countOf 99 = .ok (.ireturn, 1) := by decide +kernel
theorem dX12_countOf_100 : decode cX12_countOf 100 = .ok (.aload_n 0, 1) := by decide +kernel
theorem dX12_countOf_101 : decode cX12_countOf 101 = .ok (.getfield 177, 3) := by decide +kernel
theorem dX12_countOf_104 : decode cX12_countOf 104 = .ok (.ireturn, 1) := by decide +kernel
theorem dX12_countOf_105 : decode cX12_countOf 105 = .ok (.aload_n 0, 1) := by decide +kernel
theorem dX12_countOf_106 : decode cX12_countOf 106 = .ok (.getfield 186, 3) := by decide +kernel
theorem dX12_countOf_109 : decode cX12_countOf 109 = .ok (.ireturn, 1) := by decide +kernel
theorem dX12_countOf_110 : decode cX12_countOf 110 = .ok (.aload_n 0, 1) := by decide +kernel
theorem dX12_countOf_111 : decode cX12_countOf 111 = .ok (.getfield 207, 3) := by decide +kernel
theorem dX12_countOf_114 : decode cX12_countOf 114 = .ok (.ireturn, 1) := by decide +kernel
theorem dX12_countOf_115 : decode cX12_countOf 115 = .ok (.bipush (-102), 2) := by decide +kernel
theorem dX12_countOf_117 : decode cX12_countOf 117 = .ok (.ireturn, 1) := by decide +kernel
theorem dX12_count_0 : decode cX12_count 0 = .ok (.aload_n 0, 1) := by decide +kernel
theorem dX12_count_1 : decode cX12_count 1 = .ok (.iload_n 1, 1) := by decide +kernel
theorem dX12_count_2 : decode cX12_count 2 = .ok (.invokevirtual 244, 3) := by decide +kernel
theorem dX12_count_5 : decode cX12_count 5 = .ok (.ireturn, 1) := by decide +kernel
theorem dX12_say_0 : decode cX12_say 0 = .ok (.aload_n 0, 1) := by decide +kernel
theorem dX12_say_1 : decode cX12_say 1 = .ok (.ldc2_w 247, 3) := by decide +kernel
theorem dX12_say_4 : decode cX12_say 4 = .ok (.aload_n 0, 1) := by decide +kernel
theorem dX12_say_5 : decode cX12_say 5 = .ok (.getfield 249, 3) := by decide +kernel
theorem dX12_say_8 : decode cX12_say 8 = .ok (.lmul, 1) := by decide +kernel
theorem dX12_say_9 : decode cX12_say 9 = .ok (.lload_n 1, 1) := by decide +kernel
theorem dX12_say_10 : decode cX12_say 10 = .ok (.ladd, 1) := by decide +kernel
theorem dX12_say_11 : decode cX12_say 11 = .ok (.putfield 249, 3) := by decide +kernel
theorem dX12_say_14 : decode cX12_say 14 = .ok (.return_, 1) := by decide +kernel
theorem dX12_digest_0 : decode cX12_digest 0 = .ok (.aload_n 0, 1) := by decide +kernel
theorem dX12_digest_1 : decode cX12_digest 1 = .ok (.ldc2_w 253, 3) := by decide +kernel
theorem dX12_digest_4 : decode cX12_digest 4 = .ok (.putfield 249, 3) := by decide +kernel
theorem dX12_digest_7 : decode cX12_digest 7 = .ok (.iconst 0, 1) := by decide +kernel
theorem dX12_digest_8 : decode cX12_digest 8 = .ok (.istore_n 1, 1) := by decide +kernel
theorem dX12_digest_9 : decode cX12_digest 9 = .ok (.iload_n 1, 1) := by decide +kernel
theorem dX12_digest_10 : decode cX12_digest 10 = .ok (.aload_n 0, 1) := by decide +kernel
theorem dX12_digest_11 : decode cX12_digest 11 = .ok (.getfield 87, 3) := by decide +kernel
theorem dX12_digest_14 : decode cX12_digest 14 = .ok (.if_icmp .ge 57, 3) := by decide +kernel
theorem dX12_digest_17 : decode cX12_digest 17 = .ok (.iconst 0, 1) := by decide +kernel
theorem dX12_digest_18 : decode cX12_digest 18 = .ok (.istore_n 2, 1) := by decide +kernel
theorem dX12_digest_19 : decode cX12_digest 19 = .ok (.iload_n 2, 1) := by decide +kernel
theorem dX12_digest_20 : decode cX12_digest 20 = .ok (.iconst 4, 1) := by decide +kernel
theorem dX12_digest_21 : decode cX12_digest 21 = .ok (.if_icmp .ge 20, 3) := by decide +kernel
theorem dX12_digest_24 : decode cX12_digest 24 = .ok (.aload_n 0, 1) := by decide +kernel
theorem dX12_digest_25 : decode cX12_digest 25 = .ok (.aload_n 0, 1) := by decide +kernel
theorem dX12_digest_26 : decode cX12_digest 26 = .ok (.iload_n 1, 1) := by decide +kernel
theorem dX12_digest_27 : decode cX12_digest 27 = .ok (.iload_n 2, 1) := by decide +kernel
theorem dX12_digest_28 : decode cX12_digest 28 = .ok (.invokevirtual 151, 3) := by decide +kernel
theorem dX12_digest_31 : decode cX12_digest 31 = .ok (.i2l, 1) := by decide +kernel
theorem dX12_digest_32 : decode cX12_digest 32 = .ok (.invokevirtual 255, 3) := by decide +kernel
theorem dX12_digest_35 : decode cX12_digest 35 = .ok (.iinc 2 1, 3) := by decide +kernel
theorem dX12_digest_38 : decode cX12_digest 38 = .ok (.goto (-19), 3) := by decide +kernel
theorem dX12_digest_41 : decode cX12_digest 41 = .ok (.aload_n 0, 1) := by decide +kernel
theorem dX12_digest_42 : decode cX12_digest 42 = .ok (.aload_n 0, 1) := by decide +kernel
theorem dX12_digest_43 : decode cX12_digest 43 = .ok (.iconst 0, 1) := by decide +kernel
theorem dX12_digest_44 : decode cX12_digest 44 = .ok (.iload_n 1, 1) := by decide +kernel
theorem dX12_digest_45 : decode cX12_digest 45 = .ok (.iconst 0, 1) := by decide +kernel
theorem dX12_digest_46 : decode cX12_digest 46 = .ok (.invokevirtual 183, 3) := by decide +kernel
theorem dX12_digest_49 : decode cX12_digest 49 = .ok (.i2l, 1) := by decide +kernel
theorem dX12_digest_50 : decode cX12_digest 50 = .ok (.invokevirtual 255, 3) := by decide +kernel
theorem dX12_digest_53 : decode cX12_digest 53 = .ok (.aload_n 0, 1) := by decide +kernel
theorem dX12_digest_54 : decode cX12_digest 54 = .ok (.aload_n 0, 1) := by decide +kernel
theorem dX12_digest_55 : decode cX12_digest 55 = .ok (.iconst 0, 1) := by decide +kernel
theorem dX12_digest_56 : decode cX12_digest 56 = .ok (.iload_n 1, 1) := by decide +kernel
theorem dX12_digest_57 : decode cX12_digest 57 = .ok (.iconst 1, 1) := by decide +kernel
theorem dX12_digest_58 : decode cX12_digest 58 = .ok (.invokevirtual 183, 3) := by decide +kernel
theorem dX12_digest_61 : decode cX12_digest 61 = .ok (.i2l, 1) := by decide +kernel
theorem dX12_digest_62 : decode cX12_digest 62 = .ok (.invokevirtual 255, 3) := by decide +kernel
theorem dX12_digest_65 : decode cX12_digest 65 = .ok (.iinc 1 1, 3) := by decide +kernel
theorem dX12_digest_68 : decode cX12_digest 68 = .ok (.goto (-59), 3) := by decide +kernel
theorem dX12_digest_71 : decode cX12_digest 71 = .ok (.iconst 0, 1) := by decide +kernel
theorem dX12_digest_72 : decode cX12_digest 72 = .ok (.istore_n 1, 1) := by decide +kernel
theorem dX12_digest_73 : decode cX12_digest 73 = .ok (.iload_n 1, 1) := by decide +kernel
theorem dX12_digest_74 : decode cX12_digest 74 = .ok (.iconst 3, 1) := by decide +kernel
theorem dX12_digest_75 : decode cX12_digest 75 = .ok (.aload_n 0, 1) := by decide +kernel
theorem dX12_digest_76 : decode cX12_digest 76 = .ok (.getfield 93, 3) := by decide +kernel
theorem dX12_digest_79 : decode cX12_digest 79 = .ok (.imul, 1) := by decide +kernel
theorem dX12_digest_80 : decode cX12_digest 80 = .ok (.if_icmp .ge 20, 3) := by decide +kernel
theorem dX12_digest_83 : decode cX12_digest 83 = .ok (.aload_n 0, 1) := by decide +kernel
theorem dX12_digest_84 : decode cX12_digest 84 = .ok (.aload_n 0, 1) := by decide +kernel
theorem dX12_digest_85 : decode cX12_digest 85 = .ok (.getfield 16, 3) := by decide +kernel
theorem dX12_digest_88 : decode cX12_digest 88 = .ok (.iload_n 1, 1) := by decide +kernel
theorem dX12_digest_89 : decode cX12_digest 89 = .ok (.iaload, 1) := by decide +kernel
theorem dX12_digest_90 : decode cX12_digest 90 = .ok (.i2l, 1) := by decide +kernel
theorem dX12_digest_91 : decode cX12_digest 91 = .ok (.invokevirtual 255, 3) := by decide +kernel
theorem dX12_digest_94 : decode cX12_digest 94 = .ok (.iinc 1 1, 3) := by decide +kernel
theorem dX12_digest_97 : decode cX12_digest 97 = .ok (.goto (-24), 3) := by decide +kernel
theorem dX12_digest_100 : decode cX12_digest 100 = .ok (.aload_n 0, 1) := by decide +kernel
theorem dX12_digest_101 : decode cX12_digest 101 = .ok (.invokevirtual 129, 3) := by decide +kernel
theorem dX12_digest_104 : decode cX12_digest 104 = .ok (.ifCond .ne 22, 3) := by decide +kernel
theorem dX12_digest_107 : decode cX12_digest 107 = .ok (.aload_n 0, 1) := by decide +kernel
theorem dX12_digest_108 : decode cX12_digest 108 = .ok (.aload_n 0, 1) := by decide +kernel
theorem dX12_digest_109 : decode cX12_digest 109 = .ok (.invokevirtual 133, 3) := by decide +kernel
theorem dX12_digest_112 : decode cX12_digest 112 = .ok (.i2l, 1) := by decide +kernel
theorem dX12_digest_113 : decode cX12_digest 113 = .ok (.invokevirtual 255, 3) := by decide +kernel
theorem dX12_digest_116 : decode cX12_digest 116 = .ok (.aload_n 0, 1) := by decide +kernel
theorem dX12_digest_117 : decode cX12_digest 117 = .ok (.aload_n 0, 1) := by decide +kernel
theorem dX12_digest_118 : decode cX12_digest 118 = .ok (.iconst 0, 1) := by decide +kernel
theorem dX12_digest_119 : decode cX12_digest 119 = .ok (.invokevirtual 136, 3) := by decide +kernel
theorem dX12_digest_122 : decode cX12_digest 122 = .ok (.i2l, 1) := by decide +kernel
theorem dX12_digest_123 : decode cX12_digest 123 = .ok (.invokevirtual 255, 3) := by decide +kernel
theorem dX12_digest_126 : decode cX12_digest 126 = .ok (.iconst 0, 1) := by decide +kernel
theorem dX12_digest_127 : decode cX12_digest 127 = .ok (.istore_n 1, 1) := by decide +kernel
theorem dX12_digest_128 : decode cX12_digest 128 = .ok (.iload_n 1, 1) := by decide +kernel
theorem dX12_digest_129 : decode cX12_digest 129 = .ok (.aload_n 0, 1) := by decide +kernel
theorem dX12_digest_130 : decode cX12_digest 130 = .ok (.getfield 50, 3) := by decide +kernel
theorem dX12_digest_133 : decode cX12_digest 133 = .ok (.if_icmp .ge 20, 3) := by decide +kernel
theorem dX12_digest_136 : decode cX12_digest 136 = .ok (.aload_n 0, 1) := by decide +kernel
theorem dX12_digest_137 : decode cX12_digest 137 = .ok (.aload_n 0, 1) := by decide +kernel
theorem dX12_digest_138 : decode cX12_digest 138 = .ok (.getfield 7, 3) := by decide +kernel
theorem dX12_digest_141 : decode cX12_digest 141 = .ok (.iload_n 1, 1) := by decide +kernel
theorem dX12_digest_142 : decode cX12_digest 142 = .ok (.iaload, 1) := by decide +kernel
theorem dX12_digest_143 : decode cX12_digest 143 = .ok (.i2l, 1) := by decide +kernel
theorem dX12_digest_144 : decode cX12_digest 144 = .ok (.invokevirtual 255, 3) := by decide +kernel
theorem dX12_digest_147 : decode cX12_digest 147 = .ok (.iinc 1 1, 3) := by decide +kernel
theorem dX12_digest_150 : decode cX12_digest 150 = .ok (.goto (-22), 3) := by decide +kernel
theorem dX12_digest_153 : decode cX12_digest 153 = .ok (.iconst 0, 1) := by decide +kernel
theorem dX12_digest_154 : decode cX12_digest 154 = .ok (.istore_n 1, 1) := by decide +kernel
theorem dX12_digest_155 : decode cX12_digest 155 = .ok (.iload_n 1, 1) := by decide +kernel
theorem dX12_digest_156 : decode cX12_digest 156 = .ok (.bipush 11, 2) := by decide +kernel
theorem dX12_digest_158 : decode cX12_digest 158 = .ok (.if_icmp .ge 19, 3) := by decide +kernel
theorem dX12_digest_161 : decode cX12_digest 161 = .ok (.aload_n 0, 1) := by decide +kernel
theorem dX12_digest_162 : decode cX12_digest 162 = .ok (.aload_n 0, 1) := by decide +kernel
theorem dX12_digest_163 : decode cX12_digest 163 = .ok (.iload_n 1, 1) := by decide +kernel
theorem dX12_digest_164 : decode cX12_digest 164 = .ok (.invokevirtual 244, 3) := by decide +kernel
theorem dX12_digest_167 : decode cX12_digest 167 = .ok (.i2l, 1) := by decide +kernel
theorem dX12_digest_168 : decode cX12_digest 168 = .ok (.invokevirtual 255, 3) := by decide +kernel
theorem dX12_digest_171 : decode cX12_digest 171 = .ok (.iinc 1 1, 3) := by decide +kernel
theorem dX12_digest_174 : decode cX12_digest 174 = .ok (.goto (-19), 3) := by decide +kernel
theorem dX12_digest_177 : decode cX12_digest 177 = .ok (.aload_n 0, 1) := by decide +kernel
theorem dX12_digest_178 : decode cX12_digest 178 = .ok (.getfield 249, 3) := by decide +kernel
theorem dX12_digest_181 : decode cX12_digest 181 = .ok (.lreturn, 1) := by decide +kernel
end
section
theorem dL_law_0 : decode cL_law 0 = .ok (.new 7, 3) := by decide +kernel
theorem dL_law_3 : decode cL_law 3 = .ok (.dup, 1) := by decide +kernel
theorem dL_law_4 : decode cL_law 4 = .ok (.invokespecial 9, 3) := by decide +kernel
theorem dL_law_7 : decode cL_law 7 = .ok (.astore_n 1, 1) := by decide +kernel
theorem dL_law_8 : decode cL_law 8 = .ok (.new 10, 3) := by decide +kernel
theorem dL_law_11 : decode cL_law 11 = .ok (.dup, 1) := by decide +kernel
theorem dL_law_12 : decode cL_law 12 = .ok (.invokespecial 12, 3) := by decide +kernel
theorem dL_law_15 : decode cL_law 15 = .ok (.astore_n 2, 1) := by decide +kernel
theorem dL_law_16 : decode cL_law 16 = .ok (.iconst 0, 1) := by decide +kernel
theorem dL_law_17 : decode cL_law 17 = .ok (.istore_n 3, 1) := by decide +kernel
theorem dL_law_18 : decode cL_law 18 = .ok (.iload_n 3, 1) := by decide +kernel
theorem dL_law_19 : decode cL_law 19 = .ok (.aload_n 0, 1) := by decide +kernel
theorem dL_law_20 : decode cL_law 20 = .ok (.arraylength, 1) := by decide +kernel
theorem dL_law_21 : decode cL_law 21 = .ok (.iconst 5, 1) := by decide +kernel
theorem dL_law_22 : decode cL_law 22 = .ok (.isub, 1) := by decide +kernel
theorem dL_law_23 : decode cL_law 23 = .ok (.if_icmp .gt 824, 3) := by decide +kernel
theorem dL_law_26 : decode cL_law 26 = .ok (.aload_n 0, 1) := by decide +kernel
theorem dL_law_27 : decode cL_law 27 = .ok (.iload_n 3, 1) := by decide +kernel
theorem dL_law_28 : decode cL_law 28 = .ok (.iaload, 1) := by decide +kernel
theorem dL_law_29 : decode cL_law 29 = .ok (.bipush 31, 2) := by decide +kernel
theorem dL_law_31 : decode cL_law 31 = .ok (.iand, 1) := by decide +kernel
theorem dL_law_32 : decode cL_law 32 = .ok (.tableswitch 809 0 25 #[120, 143, 156, 169, 182, 215, 248, 281, 324, 357, 390, 433, 446, 459, 482, 515, 528, 551, 584, 627, 660, 693, 746, 759, 772, 795], 120) := by decide +kernel
theorem dL_law_152 : decode cL_law 152 = .ok (.aload_n 1, 1) := by decide +kernel
theorem dL_law_153 : decode cL_law 153 = .ok (.aload_n 0, 1) := by decide +kernel
theorem dL_law_154 : decode cL_law 154 = .ok (.iload_n 3, 1) := by decide +kernel
theorem dL_law_155 : decode cL_law 155 = .ok (.iconst 1, 1) := by decide +kernel
theorem dL_law_156 : decode cL_law 156 = .ok (.iadd, 1) := by decide +kernel
theorem dL_law_157 : decode cL_law 157 = .ok (.iaload, 1) := by decide +kernel
theorem dL_law_158 : decode cL_law 158 = .ok (.invokevirtual 13, 3) := by decide +kernel
theorem dL_law_161 : decode cL_law 161 = .ok (.aload_n 2, 1) := by decide +kernel
theorem dL_law_162 : decode cL_law 162 = .ok (.aload_n 0, 1) := by decide +kernel
theorem dL_law_163 : decode cL_law 163 = .ok (.iload_n 3, 1) := by decide +kernel
theorem dL_law_164 : decode cL_law 164 = .ok (.iconst 1, 1) := by decide +kernel
theorem dL_law_165 : decode cL_law 165 = .ok (.iadd, 1) := by decide +kernel
theorem dL_law_166 : decode cL_law 166 = .ok (.iaload, 1) := by decide +kernel
theorem dL_law_167 : decode cL_law 167 = .ok (.invokevirtual 17, 3) := by decide +kernel
theorem dL_law_170 : decode cL_law 170 = .ok (.if_icmp .eq 671, 3) := by decide +kernel
theorem dL_law_173 : decode cL_law 173 = .ok (.iconst 0, 1) := by decide +kernel
theorem dL_law_174 : decode cL_law 174 = .ok (.ireturn, 1) := by decide +kernel
theorem dL_law_175 : decode cL_law 175 = .ok (.aload_n 1, 1) := by decide +kernel
theorem dL_law_176 : decode cL_law 176 = .ok (.invokevirtual 18, 3) := by decide +kernel
theorem dL_law_179 : decode cL_law 179 = .ok (.aload_n 2, 1) := by decide +kernel
theorem dL_law_180 : decode cL_law 180 = .ok (.invokevirtual 22, 3) := by decide +kernel
theorem dL_law_183 : decode cL_law 183 = .ok (.if_icmp .eq 658, 3) := by decide +kernel
theorem dL_law_186 : decode cL_law 186 = .ok (.iconst 0, 1) := by decide +kernel
theorem dL_law_187 : decode cL_law 187 = .ok (.ireturn, 1) := by decide +kernel
theorem dL_law_188 : decode cL_law 188 = .ok (.aload_n 1, 1) := by decide +kernel
theorem dL_law_189 : decode cL_law 189 = .ok (.invokevirtual 23, 3) := by decide +kernel
theorem dL_law_192 : decode cL_law 192 = .ok (.aload_n 2, 1) := by decide +kernel
theorem dL_law_193 : decode cL_law 193 = .ok (.invokevirtual 26, 3) := by decide +kernel
theorem dL_law_196 : decode cL_law 196 = .ok (.if_icmp .eq 645, 3) := by decide +kernel
theorem dL_law_199 : decode cL_law 199 = .ok (.iconst 0, 1) := by decide +kernel
theorem dL_law_200 : decode cL_law 200 = .ok (.ireturn, 1) := by decide +kernel
theorem dL_law_201 : decode cL_law 201 = .ok (.aload_n 1, 1) := by decide +kernel
theorem dL_law_202 : decode cL_law 202 = .ok (.invokevirtual 27, 3) := by decide +kernel
theorem dL_law_205 : decode cL_law 205 = .ok (.aload_n 2, 1) := by decide +kernel
theorem dL_law_206 : decode cL_law 206 = .ok (.invokevirtual 30, 3) := by decide +kernel
theorem dL_law_209 : decode cL_law 209 = .ok (.if_icmp .eq 632, 3) := by decide +kernel
theorem dL_law_212 : decode cL_law 212 = .ok (.iconst 0, 1) := by decide +kernel
theorem dL_law_213 : decode cL_law 213 = .ok (.ireturn, 1) := by decide +kernel
theorem dL_law_214 : decode cL_law 214 = .ok (.aload_n 1, 1) := by decide +kernel
theorem dL_law_215 : decode cL_law 215 = .ok (.aload_n 0, 1) := by decide +kernel
theorem dL_law_216 : decode cL_law 216 = .ok (.iload_n 3, 1) := by decide +kernel
theorem dL_law_217 : decode cL_law 217 = .ok (.iconst 1, 1) := by decide +kernel
theorem dL_law_218 : decode cL_law 218 = .ok (.iadd, 1) := by decide +kernel
theorem dL_law_219 : decode cL_law 219 = .ok (.iaload, 1) := by decide +kernel
theorem dL_law_220 : decode cL_law 220 = .ok (.aload_n 0, 1) := by decide +kernel
theorem dL_law_221 : decode cL_law 221 = .ok (.iload_n 3, 1) := by decide +kernel
theorem dL_law_222 : decode cL_law 222 = .ok (.iconst 2, 1) := by decide +kernel
theorem dL_law_223 : decode cL_law 223 = .ok (.iadd, 1) := by decide +kernel
theorem dL_law_224 : decode cL_law 224 = .ok (.iaload, 1) := by decide +kernel
theorem dL_law_225 : decode cL_law 225 = .ok (.invokevirtual 31, 3) := by decide +kernel
theorem dL_law_228 : decode cL_law 228 = .ok (.aload_n 2, 1) := by decide +kernel
theorem dL_law_229 : decode cL_law 229 = .ok (.aload_n 0, 1) := by decide +kernel
theorem dL_law_230 : decode cL_law 230 = .ok (.iload_n 3, 1) := by decide +kernel
theorem dL_law_231 : decode cL_law 231 = .ok (.iconst 1, 1) := by decide +kernel
theorem dL_law_232 : decode cL_law 232 = .ok (.iadd, 1) := by decide +kernel
theorem dL_law_233 : decode cL_law 233 = .ok (.iaload, 1) := by decide +kernel
theorem dL_law_234 : decode cL_law 234 = .ok (.aload_n 0, 1) := by decide +kernel
theorem dL_law_235 : decode cL_law 235 = .ok (.iload_n 3, 1) := by decide +kernel
theorem dL_law_236 : decode cL_law 236 = .ok (.iconst 2, 1) := by decide +kernel
theorem dL_law_237 : decode cL_law 237 = .ok (.iadd, 1) := by decide +kernel
theorem dL_law_238 : decode cL_law 238 = .ok (.iaload, 1) := by decide +kernel
theorem dL_law_239 : decode cL_law 239 = .ok (.invokevirtual 35, 3) := by decide +kernel
theorem dL_law_242 : decode cL_law 242 = .ok (.if_icmp .eq 599, 3) := by decide +kernel
theorem dL_law_245 : decode cL_law 245 = .ok (.iconst 0, 1) := by decide +kernel
theorem dL_law_246 : decode cL_law 246 = .ok (.ireturn, 1) := by decide +kernel
theorem dL_law_247 : decode cL_law 247 = .ok (.aload_n 1, 1) := by decide +kernel
theorem dL_law_248 : decode cL_law 248 = .ok (.aload_n 0, 1) := by decide +kernel
theorem dL_law_249 : decode cL_law 249 = .ok (.iload_n 3, 1) := by decide +kernel
theorem dL_law_250 : decode cL_law 250 = .ok (.iconst 1, 1) := by decide +kernel
theorem dL_law_251 : decode cL_law 251 = .ok (.iadd, 1) := by decide +kernel
theorem dL_law_252 : decode cL_law 252 = .ok (.iaload, 1) := by decide +kernel
theorem dL_law_253 : decode cL_law 253 = .ok (.aload_n 0, 1) := by decide +kernel
theorem dL_law_254 : decode cL_law 254 = .ok (.iload_n 3, 1) := by decide +kernel
theorem dL_law_255 : decode cL_law 255 = .ok (.iconst 2, 1) := by decide +kernel
theorem dL_law_256 : decode cL_law 256 = .ok (.iadd, 1) := by decide +kernel
theorem dL_law_257 : decode cL_law 257 = .ok (.iaload, 1) := by decide +kernel
theorem dL_law_258 : decode cL_law 258 = .ok (.invokevirtual 36, 3) := by decide +kernel
theorem dL_law_261 : decode cL_law 261 = .ok (.aload_n 2, 1) := by decide +kernel
theorem dL_law_262 : decode cL_law 262 = .ok (.aload_n 0, 1) := by decide +kernel
theorem dL_law_263 : decode cL_law 263 = .ok (.iload_n 3, 1) := by decide +kernel
theorem dL_law_264 : decode cL_law 264 = .ok (.iconst 1, 1) := by decide +kernel
theorem dL_law_265 : decode cL_law 265 = .ok (.iadd, 1) := by decide +kernel
theorem dL_law_266 : decode cL_law 266 = .ok (.iaload, 1) := by decide +kernel
theorem dL_law_267 : decode cL_law 267 = .ok (.aload_n 0, 1) := by decide +kernel
theorem dL_law_268 : decode cL_law 268 = .ok (.iload_n 3, 1) := by decide +kernel
theorem dL_law_269 : decode cL_law 269 = .ok (.iconst 2, 1) := by decide +kernel
theorem dL_law_270 : decode cL_law 270 = .ok (.iadd, 1) := by decide +kernel
theorem dL_law_271 : decode cL_law 271 = .ok (.iaload, 1) := by decide +kernel
theorem dL_law_272 : decode cL_law 272 = .ok (.invokevirtual 39, 3) := by decide +kernel
theorem dL_law_275 : decode cL_law 275 = .ok (.if_icmp .eq 566, 3) := by decide +kernel
theorem dL_law_278 : decode cL_law 278 = .ok (.iconst 0, 1) := by decide +kernel
theorem dL_law_279 : decode cL_law 279 = .ok (.ireturn, 1) := by decide +kernel
theorem dL_law_280 : decode cL_law 280 = .ok (.aload_n 1, 1) := by decide +kernel
theorem dL_law_281 : decode cL_law 281 = .ok (.aload_n 0, 1) := by decide +kernel
theorem dL_law_282 : decode cL_law 282 = .ok (.iload_n 3, 1) := by decide +kernel
theorem dL_law_283 : decode cL_law 283 = .ok (.iconst 1, 1) := by decide +kernel
theorem dL_law_284 : decode cL_law 284 = .ok (.iadd, 1) := by decide +kernel
theorem dL_law_285 : decode cL_law 285 = .ok (.iaload, 1) := by decide +kernel
theorem dL_law_286 : decode cL_law 286 = .ok (.aload_n 0, 1) := by decide +kernel
theorem dL_law_287 : decode cL_law 287 = .ok (.iload_n 3, 1) := by decide +kernel
theorem dL_law_288 : decode cL_law 288 = .ok (.iconst 2, 1) := by decide +kernel
theorem dL_law_289 : decode cL_law 289 = .ok (.iadd, 1) := by decide +kernel
theorem dL_law_290 : decode cL_law 290 = .ok (.iaload, 1) := by decide +kernel
theorem dL_law_291 : decode cL_law 291 = .ok (.invokevirtual 40, 3) := by decide +kernel
theorem dL_law_294 : decode cL_law 294 = .ok (.aload_n 2, 1) := by decide +kernel
theorem dL_law_295 : decode cL_law 295 = .ok (.aload_n 0, 1) := by decide +kernel
theorem dL_law_296 : decode cL_law 296 = .ok (.iload_n 3, 1) := by decide +kernel
theorem dL_law_297 : decode cL_law 297 = .ok (.iconst 1, 1) := by decide +kernel
theorem dL_law_298 : decode cL_law 298 = .ok (.iadd, 1) := by decide +kernel
theorem dL_law_299 : decode cL_law 299 = .ok (.iaload, 1) := by decide +kernel
theorem dL_law_300 : decode cL_law 300 = .ok (.aload_n 0, 1) := by decide +kernel
theorem dL_law_301 : decode cL_law 301 = .ok (.iload_n 3, 1) := by decide +kernel
theorem dL_law_302 : decode cL_law 302 = .ok (.iconst 2, 1) := by decide +kernel
theorem dL_law_303 : decode cL_law 303 = .ok (.iadd, 1) := by decide +kernel
theorem dL_law_304 : decode cL_law 304 = .ok (.iaload, 1) := by decide +kernel
theorem dL_law_305 : decode cL_law 305 = .ok (.invokevirtual 43, 3) := by decide +kernel
theorem dL_law_308 : decode cL_law 308 = .ok (.if_icmp .eq 533, 3) := by decide +kernel
theorem dL_law_311 : decode cL_law 311 = .ok (.iconst 0, 1) := by decide +kernel
theorem dL_law_312 : decode cL_law 312 = .ok (.ireturn, 1) := by decide +kernel
theorem dL_law_313 : decode cL_law 313 = .ok (.aload_n 1, 1) := by decide +kernel
theorem dL_law_314 : decode cL_law 314 = .ok (.aload_n 0, 1) := by decide +kernel
theorem dL_law_315 : decode cL_law 315 = .ok (.iload_n 3, 1) := by decide +kernel
theorem dL_law_316 : decode cL_law 316 = .ok (.iconst 1, 1) := by decide +kernel
theorem dL_law_317 : decode cL_law 317 = .ok (.iadd, 1) := by decide +kernel
theorem dL_law_318 : decode cL_law 318 = .ok (.iaload, 1) := by decide +kernel
theorem dL_law_319 : decode cL_law 319 = .ok (.aload_n 0, 1) := by decide +kernel
theorem dL_law_320 : decode cL_law 320 = .ok (.iload_n 3, 1) := by decide +kernel
theorem dL_law_321 : decode cL_law 321 = .ok (.iconst 2, 1) := by decide +kernel
theorem dL_law_322 : decode cL_law 322 = .ok (.iadd, 1) := by decide +kernel
theorem dL_law_323 : decode cL_law 323 = .ok (.iaload, 1) := by decide +kernel
theorem dL_law_324 : decode cL_law 324 = .ok (.aload_n 0, 1) := by decide +kernel
theorem dL_law_325 : decode cL_law 325 = .ok (.iload_n 3, 1) := by decide +kernel
theorem dL_law_326 : decode cL_law 326 = .ok (.iconst 3, 1) := by decide +kernel
theorem dL_law_327 : decode cL_law 327 = .ok (.iadd, 1) := by decide +kernel
theorem dL_law_328 : decode cL_law 328 = .ok (.iaload, 1) := by decide +kernel
theorem dL_law_329 : decode cL_law 329 = .ok (.invokevirtual 44, 3) := by decide +kernel
theorem dL_law_332 : decode cL_law 332 = .ok (.aload_n 2, 1) := by decide +kernel
theorem dL_law_333 : decode cL_law 333 = .ok (.aload_n 0, 1) := by decide +kernel
theorem dL_law_334 : decode cL_law 334 = .ok (.iload_n 3, 1) := by decide +kernel
theorem dL_law_335 : decode cL_law 335 = .ok (.iconst 1, 1) := by decide +kernel
theorem dL_law_336 : decode cL_law 336 = .ok (.iadd, 1) := by decide +kernel
theorem dL_law_337 : decode cL_law 337 = .ok (.iaload, 1) := by decide +kernel
theorem dL_law_338 : decode cL_law 338 = .ok (.aload_n 0, 1) := by decide +kernel
theorem dL_law_339 : decode cL_law 339 = .ok (.iload_n 3, 1) := by decide +kernel
theorem dL_law_340 : decode cL_law 340 = .ok (.iconst 2, 1) := by decide +kernel
theorem dL_law_341 : decode cL_law 341 = .ok (.iadd, 1) := by decide +kernel
theorem dL_law_342 : decode cL_law 342 = .ok (.iaload, 1) := by decide +kernel
theorem dL_law_343 : decode cL_law 343 = .ok (.aload_n 0, 1) := by decide +kernel
theorem dL_law_344 : decode cL_law 344 = .ok (.iload_n 3, 1) := by decide +kernel
theorem dL_law_345 : decode cL_law 345 = .ok (.iconst 3, 1) := by decide +kernel
theorem dL_law_346 : decode cL_law 346 = .ok (.iadd, 1) := by decide +kernel
theorem dL_law_347 : decode cL_law 347 = .ok (.iaload, 1) := by decide +kernel
theorem dL_law_348 : decode cL_law 348 = .ok (.invokevirtual 48, 3) := by decide +kernel
theorem dL_law_351 : decode cL_law 351 = .ok (.if_icmp .eq 490, 3) := by decide +kernel
theorem dL_law_354 : decode cL_law 354 = .ok (.iconst 0, 1) := by decide +kernel
theorem dL_law_355 : decode cL_law 355 = .ok (.ireturn, 1) := by decide +kernel
theorem dL_law_356 : decode cL_law 356 = .ok (.aload_n 1, 1) := by decide +kernel
theorem dL_law_357 : decode cL_law 357 = .ok (.aload_n 0, 1) := by decide +kernel
theorem dL_law_358 : decode cL_law 358 = .ok (.iload_n 3, 1) := by decide +kernel
theorem dL_law_359 : decode cL_law 359 = .ok (.iconst 1, 1) := by decide +kernel
theorem dL_law_360 : decode cL_law 360 = .ok (.iadd, 1) := by decide +kernel
theorem dL_law_361 : decode cL_law 361 = .ok (.iaload, 1) := by decide +kernel
theorem dL_law_362 : decode cL_law 362 = .ok (.aload_n 0, 1) := by decide +kernel
theorem dL_law_363 : decode cL_law 363 = .ok (.iload_n 3, 1) := by decide +kernel
theorem dL_law_364 : decode cL_law 364 = .ok (.iconst 2, 1) := by decide +kernel
theorem dL_law_365 : decode cL_law 365 = .ok (.iadd, 1) := by decide +kernel
theorem dL_law_366 : decode cL_law 366 = .ok (.iaload, 1) := by decide +kernel
theorem dL_law_367 : decode cL_law 367 = .ok (.invokevirtual 49, 3) := by decide +kernel
theorem dL_law_370 : decode cL_law 370 = .ok (.aload_n 2, 1) := by decide +kernel
theorem dL_law_371 : decode cL_law 371 = .ok (.aload_n 0, 1) := by decide +kernel
theorem dL_law_372 : decode cL_law 372 = .ok (.iload_n 3, 1) := by decide +kernel
theorem dL_law_373 : decode cL_law 373 = .ok (.iconst 1, 1) := by decide +kernel
theorem dL_law_374 : decode cL_law 374 = .ok (.iadd, 1) := by decide +kernel
theorem dL_law_375 : decode cL_law 375 = .ok (.iaload, 1) := by decide +kernel
theorem dL_law_376 : decode cL_law 376 = .ok (.aload_n 0, 1) := by decide +kernel
theorem dL_law_377 : decode cL_law 377 = .ok (.iload_n 3, 1) := by decide +kernel
theorem dL_law_378 : decode cL_law 378 = .ok (.iconst 2, 1) := by decide +kernel
theorem dL_law_379 : decode cL_law 379 = .ok (.iadd, 1) := by decide +kernel
theorem dL_law_380 : decode cL_law 380 = .ok (.iaload, 1) := by decide +kernel
theorem dL_law_381 : decode cL_law 381 = .ok (.invokevirtual 52, 3) := by decide +kernel
theorem dL_law_384 : decode cL_law 384 = .ok (.if_icmp .eq 457, 3) := by decide +kernel
theorem dL_law_387 : decode cL_law 387 = .ok (.iconst 0, 1) := by decide +kernel
theorem dL_law_388 : decode cL_law 388 = .ok (.ireturn, 1) := by decide +kernel
theorem dL_law_389 : decode cL_law 389 = .ok (.aload_n 1, 1) := by decide +kernel
theorem dL_law_390 : decode cL_law 390 = .ok (.aload_n 0, 1) := by decide +kernel
theorem dL_law_391 : decode cL_law 391 = .ok (.iload_n 3, 1) := by decide +kernel
theorem dL_law_392 : decode cL_law 392 = .ok (.iconst 1, 1) := by decide +kernel
theorem dL_law_393 : decode cL_law 393 = .ok (.iadd, 1) := by decide +kernel
theorem dL_law_394 : decode cL_law 394 = .ok (.iaload, 1) := by decide +kernel
theorem dL_law_395 : decode cL_law 395 = .ok (.aload_n 0, 1) := by decide +kernel
theorem dL_law_396 : decode cL_law 396 = .ok (.iload_n 3, 1) := by decide +kernel
theorem dL_law_397 : decode cL_law 397 = .ok (.iconst 2, 1) := by decide +kernel
theorem dL_law_398 : decode cL_law 398 = .ok (.iadd, 1) := by decide +kernel
theorem dL_law_399 : decode cL_law 399 = .ok (.iaload, 1) := by decide +kernel
theorem dL_law_400 : decode cL_law 400 = .ok (.invokevirtual 53, 3) := by decide +kernel
theorem dL_law_403 : decode cL_law 403 = .ok (.aload_n 2, 1) := by decide +kernel
theorem dL_law_404 : decode cL_law 404 = .ok (.aload_n 0, 1) := by decide +kernel
theorem dL_law_405 : decode cL_law 405 = .ok (.iload_n 3, 1) := by decide +kernel
theorem dL_law_406 : decode cL_law 406 = .ok (.iconst 1, 1) := by decide +kernel
theorem dL_law_407 : decode cL_law 407 = .ok (.iadd, 1) := by decide +kernel
theorem dL_law_408 : decode cL_law 408 = .ok (.iaload, 1) := by decide +kernel
theorem dL_law_409 : decode cL_law 409 = .ok (.aload_n 0, 1) := by decide +kernel
theorem dL_law_410 : decode cL_law 410 = .ok (.iload_n 3, 1) := by decide +kernel
theorem dL_law_411 : decode cL_law 411 = .ok (.iconst 2, 1) := by decide +kernel
theorem dL_law_412 : decode cL_law 412 = .ok (.iadd, 1) := by decide +kernel
theorem dL_law_413 : decode cL_law 413 = .ok (.iaload, 1) := by decide +kernel
theorem dL_law_414 : decode cL_law 414 = .ok (.invokevirtual 56, 3) := by decide +kernel
theorem dL_law_417 : decode cL_law 417 = .ok (.if_icmp .eq 424, 3) := by decide +kernel
theorem dL_law_420 : decode cL_law 420 = .ok (.iconst 0, 1) := by decide +kernel
theorem dL_law_421 : decode cL_law 421 = .ok (.ireturn, 1) := by decide +kernel
theorem dL_law_422 : decode cL_law 422 = .ok (.aload_n 1, 1) := by decide +kernel
theorem dL_law_423 : decode cL_law 423 = .ok (.aload_n 0, 1) := by decide +kernel
theorem dL_law_424 : decode cL_law 424 = .ok (.iload_n 3, 1) := by decide +kernel
theorem dL_law_425 : decode cL_law 425 = .ok (.iconst 1, 1) := by decide +kernel
theorem dL_law_426 : decode cL_law 426 = .ok (.iadd, 1) := by decide +kernel
theorem dL_law_427 : decode cL_law 427 = .ok (.iaload, 1) := by decide +kernel
theorem dL_law_428 : decode cL_law 428 = .ok (.aload_n 0, 1) := by decide +kernel
theorem dL_law_429 : decode cL_law 429 = .ok (.iload_n 3, 1) := by decide +kernel
theorem dL_law_430 : decode cL_law 430 = .ok (.iconst 2, 1) := by decide +kernel
theorem dL_law_431 : decode cL_law 431 = .ok (.iadd, 1) := by decide +kernel
theorem dL_law_432 : decode cL_law 432 = .ok (.iaload, 1) := by decide +kernel
theorem dL_law_433 : decode cL_law 433 = .ok (.aload_n 0, 1) := by decide +kernel
theorem dL_law_434 : decode cL_law 434 = .ok (.iload_n 3, 1) := by decide +kernel
theorem dL_law_435 : decode cL_law 435 = .ok (.iconst 3, 1) := by decide +kernel
theorem dL_law_436 : decode cL_law 436 = .ok (.iadd, 1) := by decide +kernel
theorem dL_law_437 : decode cL_law 437 = .ok (.iaload, 1) := by decide +kernel
theorem dL_law_438 : decode cL_law 438 = .ok (.invokevirtual 57, 3) := by decide +kernel
theorem dL_law_441 : decode cL_law 441 = .ok (.aload_n 2, 1) := by decide +kernel
theorem dL_law_442 : decode cL_law 442 = .ok (.aload_n 0, 1) := by decide +kernel
theorem dL_law_443 : decode cL_law 443 = .ok (.iload_n 3, 1) := by decide +kernel
theorem dL_law_444 : decode cL_law 444 = .ok (.iconst 1, 1) := by decide +kernel
theorem dL_law_445 : decode cL_law 445 = .ok (.iadd, 1) := by decide +kernel
theorem dL_law_446 : decode cL_law 446 = .ok (.iaload, 1) := by decide +kernel
theorem dL_law_447 : decode cL_law 447 = .ok (.aload_n 0, 1) := by decide +kernel
theorem dL_law_448 : decode cL_law 448 = .ok (.iload_n 3, 1) := by decide +kernel
theorem dL_law_449 : decode cL_law 449 = .ok (.iconst 2, 1) := by decide +kernel
theorem dL_law_450 : decode cL_law 450 = .ok (.iadd, 1) := by decide +kernel
theorem dL_law_451 : decode cL_law 451 = .ok (.iaload, 1) := by decide +kernel
theorem dL_law_452 : decode cL_law 452 = .ok (.aload_n 0, 1) := by decide +kernel
theorem dL_law_453 : decode cL_law 453 = .ok (.iload_n 3, 1) := by decide +kernel
theorem dL_law_454 : decode cL_law 454 = .ok (.iconst 3, 1) := by decide +kernel
theorem dL_law_455 : decode cL_law 455 = .ok (.iadd, 1) := by decide +kernel
theorem dL_law_456 : decode cL_law 456 = .ok (.iaload, 1) := by decide +kernel
theorem dL_law_457 : decode cL_law 457 = .ok (.invokevirtual 60, 3) := by decide +kernel
theorem dL_law_460 : decode cL_law 460 = .ok (.if_icmp .eq 381, 3) := by decide +kernel
theorem dL_law_463 : decode cL_law 463 = .ok (.iconst 0, 1) := by decide +kernel
theorem dL_law_464 : decode cL_law 464 = .ok (.ireturn, 1) := by decide +kernel
theorem dL_law_465 : decode cL_law 465 = .ok (.aload_n 1, 1) := by decide +kernel
theorem dL_law_466 : decode cL_law 466 = .ok (.invokevirtual 61, 3) := by decide +kernel
theorem dL_law_469 : decode cL_law 469 = .ok (.aload_n 2, 1) := by decide +kernel
theorem dL_law_470 : decode cL_law 470 = .ok (.invokevirtual 64, 3) := by decide +kernel
theorem dL_law_473 : decode cL_law 473 = .ok (.if_icmp .eq 368, 3) := by decide +kernel
theorem dL_law_476 : decode cL_law 476 = .ok (.iconst 0, 1) := by decide +kernel
theorem dL_law_477 : decode cL_law 477 = .ok (.ireturn, 1) := by decide +kernel
theorem dL_law_478 : decode cL_law 478 = .ok (.aload_n 1, 1) := by decide +kernel
theorem dL_law_479 : decode cL_law 479 = .ok (.invokevirtual 65, 3) := by decide +kernel
theorem dL_law_482 : decode cL_law 482 = .ok (.aload_n 2, 1) := by decide +kernel
theorem dL_law_483 : decode cL_law 483 = .ok (.invokevirtual 68, 3) := by decide +kernel
theorem dL_law_486 : decode cL_law 486 = .ok (.if_icmp .eq 355, 3) := by decide +kernel
theorem dL_law_489 : decode cL_law 489 = .ok (.iconst 0, 1) := by decide +kernel
theorem dL_law_490 : decode cL_law 490 = .ok (.ireturn, 1) := by decide +kernel
theorem dL_law_491 : decode cL_law 491 = .ok (.aload_n 1, 1) := by decide +kernel
theorem dL_law_492 : decode cL_law 492 = .ok (.aload_n 0, 1) := by decide +kernel
theorem dL_law_493 : decode cL_law 493 = .ok (.iload_n 3, 1) := by decide +kernel
theorem dL_law_494 : decode cL_law 494 = .ok (.iconst 1, 1) := by decide +kernel
theorem dL_law_495 : decode cL_law 495 = .ok (.iadd, 1) := by decide +kernel
theorem dL_law_496 : decode cL_law 496 = .ok (.iaload, 1) := by decide +kernel
theorem dL_law_497 : decode cL_law 497 = .ok (.invokevirtual 69, 3) := by decide +kernel
theorem dL_law_500 : decode cL_law 500 = .ok (.aload_n 2, 1) := by decide +kernel
theorem dL_law_501 : decode cL_law 501 = .ok (.aload_n 0, 1) := by decide +kernel
theorem dL_law_502 : decode cL_law 502 = .ok (.iload_n 3, 1) := by decide +kernel
theorem dL_law_503 : decode cL_law 503 = .ok (.iconst 1, 1) := by decide +kernel
theorem dL_law_504 : decode cL_law 504 = .ok (.iadd, 1) := by decide +kernel
theorem dL_law_505 : decode cL_law 505 = .ok (.iaload, 1) := by decide +kernel
theorem dL_law_506 : decode cL_law 506 = .ok (.invokevirtual 72, 3) := by decide +kernel
theorem dL_law_509 : decode cL_law 509 = .ok (.if_icmp .eq 332, 3) := by decide +kernel
theorem dL_law_512 : decode cL_law 512 = .ok (.iconst 0, 1) := by decide +kernel
theorem dL_law_513 : decode cL_law 513 = .ok (.ireturn, 1) := by decide +kernel
theorem dL_law_514 : decode cL_law 514 = .ok (.aload_n 1, 1) := by decide +kernel
theorem dL_law_515 : decode cL_law 515 = .ok (.aload_n 0, 1) := by decide +kernel
theorem dL_law_516 : decode cL_law 516 = .ok (.iload_n 3, 1) := by decide +kernel
theorem dL_law_517 : decode cL_law 517 = .ok (.iconst 1, 1) := by decide +kernel
theorem dL_law_518 : decode cL_law 518 = .ok (.iadd, 1) := by decide +kernel
theorem dL_law_519 : decode cL_law 519 = .ok (.iaload, 1) := by decide +kernel
theorem dL_law_520 : decode cL_law 520 = .ok (.aload_n 0, 1) := by decide +kernel
theorem dL_law_521 : decode cL_law 521 = .ok (.iload_n 3, 1) := by decide +kernel
theorem dL_law_522 : decode cL_law 522 = .ok (.iconst 2, 1) := by decide +kernel
theorem dL_law_523 : decode cL_law 523 = .ok (.iadd, 1) := by decide +kernel
theorem dL_law_524 : decode cL_law 524 = .ok (.iaload, 1) := by decide +kernel
theorem dL_law_525 : decode cL_law 525 = .ok (.invokevirtual 73, 3) := by decide +kernel
theorem dL_law_528 : decode cL_law 528 = .ok (.aload_n 2, 1) := by decide +kernel
theorem dL_law_529 : decode cL_law 529 = .ok (.aload_n 0, 1) := by decide +kernel
theorem dL_law_530 : decode cL_law 530 = .ok (.iload_n 3, 1) := by decide +kernel
theorem dL_law_531 : decode cL_law 531 = .ok (.iconst 1, 1) := by decide +kernel
theorem dL_law_532 : decode cL_law 532 = .ok (.iadd, 1) := by decide +kernel
theorem dL_law_533 : decode cL_law 533 = .ok (.iaload, 1) := by decide +kernel
theorem dL_law_534 : decode cL_law 534 = .ok (.aload_n 0, 1) := by decide +kernel
theorem dL_law_535 : decode cL_law 535 = .ok (.iload_n 3, 1) := by decide +kernel
theorem dL_law_536 : decode cL_law 536 = .ok (.iconst 2, 1) := by decide +kernel
theorem dL_law_537 : decode cL_law 537 = .ok (.iadd, 1) := by decide +kernel
theorem dL_law_538 : decode cL_law 538 = .ok (.iaload, 1) := by decide +kernel
theorem dL_law_539 : decode cL_law 539 = .ok (.invokevirtual 76, 3) := by decide +kernel
theorem dL_law_542 : decode cL_law 542 = .ok (.if_icmp .eq 299, 3) := by decide +kernel
theorem dL_law_545 : decode cL_law 545 = .ok (.iconst 0, 1) := by decide +kernel
theorem dL_law_546 : decode cL_law 546 = .ok (.ireturn, 1) := by decide +kernel
theorem dL_law_547 : decode cL_law 547 = .ok (.aload_n 1, 1) := by decide +kernel
theorem dL_law_548 : decode cL_law 548 = .ok (.invokevirtual 77, 3) := by decide +kernel
theorem dL_law_551 : decode cL_law 551 = .ok (.aload_n 2, 1) := by decide +kernel
theorem dL_law_552 : decode cL_law 552 = .ok (.invokevirtual 80, 3) := by decide +kernel
theorem dL_law_555 : decode cL_law 555 = .ok (.if_icmp .eq 286, 3) := by decide +kernel
theorem dL_law_558 : decode cL_law 558 = .ok (.iconst 0, 1) := by decide +kernel
theorem dL_law_559 : decode cL_law 559 = .ok (.ireturn, 1) := by decide +kernel
theorem dL_law_560 : decode cL_law 560 = .ok (.aload_n 1, 1) := by decide +kernel
theorem dL_law_561 : decode cL_law 561 = .ok (.aload_n 0, 1) := by decide +kernel
theorem dL_law_562 : decode cL_law 562 = .ok (.iload_n 3, 1) := by decide +kernel
theorem dL_law_563 : decode cL_law 563 = .ok (.iconst 1, 1) := by decide +kernel
theorem dL_law_564 : decode cL_law 564 = .ok (.iadd, 1) := by decide +kernel
theorem dL_law_565 : decode cL_law 565 = .ok (.iaload, 1) := by decide +kernel
theorem dL_law_566 : decode cL_law 566 = .ok (.invokevirtual 81, 3) := by decide +kernel
theorem dL_law_569 : decode cL_law 569 = .ok (.aload_n 2, 1) := by decide +kernel
theorem dL_law_570 : decode cL_law 570 = .ok (.aload_n 0, 1) := by decide +kernel
theorem dL_law_571 : decode cL_law 571 = .ok (.iload_n 3, 1) := by decide +kernel
theorem dL_law_572 : decode cL_law 572 = .ok (.iconst 1, 1) := by decide +kernel
theorem dL_law_573 : decode cL_law 573 = .ok (.iadd, 1) := by decide +kernel
theorem dL_law_574 : decode cL_law 574 = .ok (.iaload, 1) := by decide +kernel
theorem dL_law_575 : decode cL_law 575 = .ok (.invokevirtual 84, 3) := by decide +kernel
theorem dL_law_578 : decode cL_law 578 = .ok (.if_icmp .eq 263, 3) := by decide +kernel
theorem dL_law_581 : decode cL_law 581 = .ok (.iconst 0, 1) := by decide +kernel
theorem dL_law_582 : decode cL_law 582 = .ok (.ireturn, 1) := by decide +kernel
theorem dL_law_583 : decode cL_law 583 = .ok (.aload_n 1, 1) := by decide +kernel
theorem dL_law_584 : decode cL_law 584 = .ok (.aload_n 0, 1) := by decide +kernel
theorem dL_law_585 : decode cL_law 585 = .ok (.iload_n 3, 1) := by decide +kernel
theorem dL_law_586 : decode cL_law 586 = .ok (.iconst 1, 1) := by decide +kernel
theorem dL_law_587 : decode cL_law 587 = .ok (.iadd, 1) := by decide +kernel
theorem dL_law_588 : decode cL_law 588 = .ok (.iaload, 1) := by decide +kernel
theorem dL_law_589 : decode cL_law 589 = .ok (.aload_n 0, 1) := by decide +kernel
theorem dL_law_590 : decode cL_law 590 = .ok (.iload_n 3, 1) := by decide +kernel
theorem dL_law_591 : decode cL_law 591 = .ok (.iconst 2, 1) := by decide +kernel
theorem dL_law_592 : decode cL_law 592 = .ok (.iadd, 1) := by decide +kernel
theorem dL_law_593 : decode cL_law 593 = .ok (.iaload, 1) := by decide +kernel
theorem dL_law_594 : decode cL_law 594 = .ok (.invokevirtual 85, 3) := by decide +kernel
theorem dL_law_597 : decode cL_law 597 = .ok (.aload_n 2, 1) := by decide +kernel
theorem dL_law_598 : decode cL_law 598 = .ok (.aload_n 0, 1) := by decide +kernel
theorem dL_law_599 : decode cL_law 599 = .ok (.iload_n 3, 1) := by decide +kernel
theorem dL_law_600 : decode cL_law 600 = .ok (.iconst 1, 1) := by decide +kernel
theorem dL_law_601 : decode cL_law 601 = .ok (.iadd, 1) := by decide +kernel
theorem dL_law_602 : decode cL_law 602 = .ok (.iaload, 1) := by decide +kernel
theorem dL_law_603 : decode cL_law 603 = .ok (.aload_n 0, 1) := by decide +kernel
theorem dL_law_604 : decode cL_law 604 = .ok (.iload_n 3, 1) := by decide +kernel
theorem dL_law_605 : decode cL_law 605 = .ok (.iconst 2, 1) := by decide +kernel
theorem dL_law_606 : decode cL_law 606 = .ok (.iadd, 1) := by decide +kernel
theorem dL_law_607 : decode cL_law 607 = .ok (.iaload, 1) := by decide +kernel
theorem dL_law_608 : decode cL_law 608 = .ok (.invokevirtual 88, 3) := by decide +kernel
theorem dL_law_611 : decode cL_law 611 = .ok (.if_icmp .eq 230, 3) := by decide +kernel
theorem dL_law_614 : decode cL_law 614 = .ok (.iconst 0, 1) := by decide +kernel
theorem dL_law_615 : decode cL_law 615 = .ok (.ireturn, 1) := by decide +kernel
theorem dL_law_616 : decode cL_law 616 = .ok (.aload_n 1, 1) := by decide +kernel
theorem dL_law_617 : decode cL_law 617 = .ok (.aload_n 0, 1) := by decide +kernel
theorem dL_law_618 : decode cL_law 618 = .ok (.iload_n 3, 1) := by decide +kernel
theorem dL_law_619 : decode cL_law 619 = .ok (.iconst 1, 1) := by decide +kernel
theorem dL_law_620 : decode cL_law 620 = .ok (.iadd, 1) := by decide +kernel
theorem dL_law_621 : decode cL_law 621 = .ok (.iaload, 1) := by decide +kernel
theorem dL_law_622 : decode cL_law 622 = .ok (.aload_n 0, 1) := by decide +kernel
theorem dL_law_623 : decode cL_law 623 = .ok (.iload_n 3, 1) := by decide +kernel
theorem dL_law_624 : decode cL_law 624 = .ok (.iconst 2, 1) := by decide +kernel
theorem dL_law_625 : decode cL_law 625 = .ok (.iadd, 1) := by decide +kernel
theorem dL_law_626 : decode cL_law 626 = .ok (.iaload, 1) := by decide +kernel
theorem dL_law_627 : decode cL_law 627 = .ok (.aload_n 0, 1) := by decide +kernel
theorem dL_law_628 : decode cL_law 628 = .ok (.iload_n 3, 1) := by decide +kernel
theorem dL_law_629 : decode cL_law 629 = .ok (.iconst 3, 1) := by decide +kernel
theorem dL_law_630 : decode cL_law 630 = .ok (.iadd, 1) := by decide +kernel
theorem dL_law_631 : decode cL_law 631 = .ok (.iaload, 1) := by decide +kernel
theorem dL_law_632 : decode cL_law 632 = .ok (.invokevirtual 89, 3) := by decide +kernel
theorem dL_law_635 : decode cL_law 635 = .ok (.aload_n 2, 1) := by decide +kernel
theorem dL_law_636 : decode cL_law 636 = .ok (.aload_n 0, 1) := by decide +kernel
theorem dL_law_637 : decode cL_law 637 = .ok (.iload_n 3, 1) := by decide +kernel
theorem dL_law_638 : decode cL_law 638 = .ok (.iconst 1, 1) := by decide +kernel
theorem dL_law_639 : decode cL_law 639 = .ok (.iadd, 1) := by decide +kernel
theorem dL_law_640 : decode cL_law 640 = .ok (.iaload, 1) := by decide +kernel
theorem dL_law_641 : decode cL_law 641 = .ok (.aload_n 0, 1) := by decide +kernel
theorem dL_law_642 : decode cL_law 642 = .ok (.iload_n 3, 1) := by decide +kernel
theorem dL_law_643 : decode cL_law 643 = .ok (.iconst 2, 1) := by decide +kernel
theorem dL_law_644 : decode cL_law 644 = .ok (.iadd, 1) := by decide +kernel
theorem dL_law_645 : decode cL_law 645 = .ok (.iaload, 1) := by decide +kernel
theorem dL_law_646 : decode cL_law 646 = .ok (.aload_n 0, 1) := by decide +kernel
theorem dL_law_647 : decode cL_law 647 = .ok (.iload_n 3, 1) := by decide +kernel
theorem dL_law_648 : decode cL_law 648 = .ok (.iconst 3, 1) := by decide +kernel
theorem dL_law_649 : decode cL_law 649 = .ok (.iadd, 1) := by decide +kernel
theorem dL_law_650 : decode cL_law 650 = .ok (.iaload, 1) := by decide +kernel
theorem dL_law_651 : decode cL_law 651 = .ok (.invokevirtual 92, 3) := by decide +kernel
theorem dL_law_654 : decode cL_law 654 = .ok (.if_icmp .eq 187, 3) := by decide +kernel
theorem dL_law_657 : decode cL_law 657 = .ok (.iconst 0, 1) := by decide +kernel
theorem dL_law_658 : decode cL_law 658 = .ok (.ireturn, 1) := by decide +kernel
theorem dL_law_659 : decode cL_law 659 = .ok (.aload_n 1, 1) := by decide +kernel
theorem dL_law_660 : decode cL_law 660 = .ok (.aload_n 0, 1) := by decide +kernel
theorem dL_law_661 : decode cL_law 661 = .ok (.iload_n 3, 1) := by decide +kernel
theorem dL_law_662 : decode cL_law 662 = .ok (.iconst 1, 1) := by decide +kernel
theorem dL_law_663 : decode cL_law 663 = .ok (.iadd, 1) := by decide +kernel
theorem dL_law_664 : decode cL_law 664 = .ok (.iaload, 1) := by decide +kernel
theorem dL_law_665 : decode cL_law 665 = .ok (.aload_n 0, 1) := by decide +kernel
theorem dL_law_666 : decode cL_law 666 = .ok (.iload_n 3, 1) := by decide +kernel
theorem dL_law_667 : decode cL_law 667 = .ok (.iconst 2, 1) := by decide +kernel
theorem dL_law_668 : decode cL_law 668 = .ok (.iadd, 1) := by decide +kernel
theorem dL_law_669 : decode cL_law 669 = .ok (.iaload, 1) := by decide +kernel
theorem dL_law_670 : decode cL_law 670 = .ok (.invokevirtual 93, 3) := by decide +kernel
theorem dL_law_673 : decode cL_law 673 = .ok (.aload_n 2, 1) := by decide +kernel
theorem dL_law_674 : decode cL_law 674 = .ok (.aload_n 0, 1) := by decide +kernel
theorem dL_law_675 : decode cL_law 675 = .ok (.iload_n 3, 1) := by decide +kernel
theorem dL_law_676 : decode cL_law 676 = .ok (.iconst 1, 1) := by decide +kernel
theorem dL_law_677 : decode cL_law 677 = .ok (.iadd, 1) := by decide +kernel
theorem dL_law_678 : decode cL_law 678 = .ok (.iaload, 1) := by decide +kernel
theorem dL_law_679 : decode cL_law 679 = .ok (.aload_n 0, 1) := by decide +kernel
theorem dL_law_680 : decode cL_law 680 = .ok (.iload_n 3, 1) := by decide +kernel
theorem dL_law_681 : decode cL_law 681 = .ok (.iconst 2, 1) := by decide +kernel
theorem dL_law_682 : decode cL_law 682 = .ok (.iadd, 1) := by decide +kernel
theorem dL_law_683 : decode cL_law 683 = .ok (.iaload, 1) := by decide +kernel
theorem dL_law_684 : decode cL_law 684 = .ok (.invokevirtual 96, 3) := by decide +kernel
theorem dL_law_687 : decode cL_law 687 = .ok (.if_icmp .eq 154, 3) := by decide +kernel
theorem dL_law_690 : decode cL_law 690 = .ok (.iconst 0, 1) := by decide +kernel
theorem dL_law_691 : decode cL_law 691 = .ok (.ireturn, 1) := by decide +kernel
theorem dL_law_692 : decode cL_law 692 = .ok (.aload_n 1, 1) := by decide +kernel
theorem dL_law_693 : decode cL_law 693 = .ok (.aload_n 0, 1) := by decide +kernel
theorem dL_law_694 : decode cL_law 694 = .ok (.iload_n 3, 1) := by decide +kernel
theorem dL_law_695 : decode cL_law 695 = .ok (.iconst 1, 1) := by decide +kernel
theorem dL_law_696 : decode cL_law 696 = .ok (.iadd, 1) := by decide +kernel
theorem dL_law_697 : decode cL_law 697 = .ok (.iaload, 1) := by decide +kernel
theorem dL_law_698 : decode cL_law 698 = .ok (.aload_n 0, 1) := by decide +kernel
theorem dL_law_699 : decode cL_law 699 = .ok (.iload_n 3, 1) := by decide +kernel
theorem dL_law_700 : decode cL_law 700 = .ok (.iconst 2, 1) := by decide +kernel
theorem dL_law_701 : decode cL_law 701 = .ok (.iadd, 1) := by decide +kernel
theorem dL_law_702 : decode cL_law 702 = .ok (.iaload, 1) := by decide +kernel
theorem dL_law_703 : decode cL_law 703 = .ok (.invokevirtual 97, 3) := by decide +kernel
theorem dL_law_706 : decode cL_law 706 = .ok (.aload_n 2, 1) := by decide +kernel
theorem dL_law_707 : decode cL_law 707 = .ok (.aload_n 0, 1) := by decide +kernel
theorem dL_law_708 : decode cL_law 708 = .ok (.iload_n 3, 1) := by decide +kernel
theorem dL_law_709 : decode cL_law 709 = .ok (.iconst 1, 1) := by decide +kernel
theorem dL_law_710 : decode cL_law 710 = .ok (.iadd, 1) := by decide +kernel
theorem dL_law_711 : decode cL_law 711 = .ok (.iaload, 1) := by decide +kernel
theorem dL_law_712 : decode cL_law 712 = .ok (.aload_n 0, 1) := by decide +kernel
theorem dL_law_713 : decode cL_law 713 = .ok (.iload_n 3, 1) := by decide +kernel
theorem dL_law_714 : decode cL_law 714 = .ok (.iconst 2, 1) := by decide +kernel
theorem dL_law_715 : decode cL_law 715 = .ok (.iadd, 1) := by decide +kernel
theorem dL_law_716 : decode cL_law 716 = .ok (.iaload, 1) := by decide +kernel
theorem dL_law_717 : decode cL_law 717 = .ok (.invokevirtual 100, 3) := by decide +kernel
theorem dL_law_720 : decode cL_law 720 = .ok (.if_icmp .eq 121, 3) := by decide +kernel
theorem dL_law_723 : decode cL_law 723 = .ok (.iconst 0, 1) := by decide +kernel
theorem dL_law_724 : decode cL_law 724 = .ok (.ireturn, 1) := by decide +kernel
theorem dL_law_725 : decode cL_law 725 = .ok (.aload_n 1, 1) := by decide +kernel
theorem dL_law_726 : decode cL_law 726 = .ok (.aload_n 0, 1) := by decide +kernel
theorem dL_law_727 : decode cL_law 727 = .ok (.iload_n 3, 1) := by decide +kernel
theorem dL_law_728 : decode cL_law 728 = .ok (.iconst 1, 1) := by decide +kernel
theorem dL_law_729 : decode cL_law 729 = .ok (.iadd, 1) := by decide +kernel
theorem dL_law_730 : decode cL_law 730 = .ok (.iaload, 1) := by decide +kernel
theorem dL_law_731 : decode cL_law 731 = .ok (.aload_n 0, 1) := by decide +kernel
theorem dL_law_732 : decode cL_law 732 = .ok (.iload_n 3, 1) := by decide +kernel
theorem dL_law_733 : decode cL_law 733 = .ok (.iconst 2, 1) := by decide +kernel
theorem dL_law_734 : decode cL_law 734 = .ok (.iadd, 1) := by decide +kernel
theorem dL_law_735 : decode cL_law 735 = .ok (.iaload, 1) := by decide +kernel
theorem dL_law_736 : decode cL_law 736 = .ok (.aload_n 0, 1) := by decide +kernel
theorem dL_law_737 : decode cL_law 737 = .ok (.iload_n 3, 1) := by decide +kernel
theorem dL_law_738 : decode cL_law 738 = .ok (.iconst 3, 1) := by decide +kernel
theorem dL_law_739 : decode cL_law 739 = .ok (.iadd, 1) := by decide +kernel
theorem dL_law_740 : decode cL_law 740 = .ok (.iaload, 1) := by decide +kernel
theorem dL_law_741 : decode cL_law 741 = .ok (.aload_n 0, 1) := by decide +kernel
theorem dL_law_742 : decode cL_law 742 = .ok (.iload_n 3, 1) := by decide +kernel
theorem dL_law_743 : decode cL_law 743 = .ok (.iconst 4, 1) := by decide +kernel
theorem dL_law_744 : decode cL_law 744 = .ok (.iadd, 1) := by decide +kernel
theorem dL_law_745 : decode cL_law 745 = .ok (.iaload, 1) := by decide +kernel
theorem dL_law_746 : decode cL_law 746 = .ok (.invokevirtual 101, 3) := by decide +kernel
theorem dL_law_749 : decode cL_law 749 = .ok (.aload_n 2, 1) := by decide +kernel
theorem dL_law_750 : decode cL_law 750 = .ok (.aload_n 0, 1) := by decide +kernel
theorem dL_law_751 : decode cL_law 751 = .ok (.iload_n 3, 1) := by decide +kernel
theorem dL_law_752 : decode cL_law 752 = .ok (.iconst 1, 1) := by decide +kernel
theorem dL_law_753 : decode cL_law 753 = .ok (.iadd, 1) := by decide +kernel
theorem dL_law_754 : decode cL_law 754 = .ok (.iaload, 1) := by decide +kernel
theorem dL_law_755 : decode cL_law 755 = .ok (.aload_n 0, 1) := by decide +kernel
theorem dL_law_756 : decode cL_law 756 = .ok (.iload_n 3, 1) := by decide +kernel
theorem dL_law_757 : decode cL_law 757 = .ok (.iconst 2, 1) := by decide +kernel
theorem dL_law_758 : decode cL_law 758 = .ok (.iadd, 1) := by decide +kernel
theorem dL_law_759 : decode cL_law 759 = .ok (.iaload, 1) := by decide +kernel
theorem dL_law_760 : decode cL_law 760 = .ok (.aload_n 0, 1) := by decide +kernel
theorem dL_law_761 : decode cL_law 761 = .ok (.iload_n 3, 1) := by decide +kernel
theorem dL_law_762 : decode cL_law 762 = .ok (.iconst 3, 1) := by decide +kernel
theorem dL_law_763 : decode cL_law 763 = .ok (.iadd, 1) := by decide +kernel
theorem dL_law_764 : decode cL_law 764 = .ok (.iaload, 1) := by decide +kernel
theorem dL_law_765 : decode cL_law 765 = .ok (.aload_n 0, 1) := by decide +kernel
theorem dL_law_766 : decode cL_law 766 = .ok (.iload_n 3, 1) := by decide +kernel
theorem dL_law_767 : decode cL_law 767 = .ok (.iconst 4, 1) := by decide +kernel
theorem dL_law_768 : decode cL_law 768 = .ok (.iadd, 1) := by decide +kernel
theorem dL_law_769 : decode cL_law 769 = .ok (.iaload, 1) := by decide +kernel
theorem dL_law_770 : decode cL_law 770 = .ok (.invokevirtual 105, 3) := by decide +kernel
theorem dL_law_773 : decode cL_law 773 = .ok (.if_icmp .eq 68, 3) := by decide +kernel
theorem dL_law_776 : decode cL_law 776 = .ok (.iconst 0, 1) := by decide +kernel
theorem dL_law_777 : decode cL_law 777 = .ok (.ireturn, 1) := by decide +kernel
theorem dL_law_778 : decode cL_law 778 = .ok (.aload_n 1, 1) := by decide +kernel
theorem dL_law_779 : decode cL_law 779 = .ok (.invokevirtual 106, 3) := by decide +kernel
theorem dL_law_782 : decode cL_law 782 = .ok (.aload_n 2, 1) := by decide +kernel
theorem dL_law_783 : decode cL_law 783 = .ok (.invokevirtual 109, 3) := by decide +kernel
theorem dL_law_786 : decode cL_law 786 = .ok (.if_icmp .eq 55, 3) := by decide +kernel
theorem dL_law_789 : decode cL_law 789 = .ok (.iconst 0, 1) := by decide +kernel
theorem dL_law_790 : decode cL_law 790 = .ok (.ireturn, 1) := by decide +kernel
theorem dL_law_791 : decode cL_law 791 = .ok (.aload_n 1, 1) := by decide +kernel
theorem dL_law_792 : decode cL_law 792 = .ok (.invokevirtual 110, 3) := by decide +kernel
theorem dL_law_795 : decode cL_law 795 = .ok (.aload_n 2, 1) := by decide +kernel
theorem dL_law_796 : decode cL_law 796 = .ok (.invokevirtual 113, 3) := by decide +kernel
theorem dL_law_799 : decode cL_law 799 = .ok (.if_icmp .eq 42, 3) := by decide +kernel
theorem dL_law_802 : decode cL_law 802 = .ok (.iconst 0, 1) := by decide +kernel
theorem dL_law_803 : decode cL_law 803 = .ok (.ireturn, 1) := by decide +kernel
theorem dL_law_804 : decode cL_law 804 = .ok (.aload_n 1, 1) := by decide +kernel
theorem dL_law_805 : decode cL_law 805 = .ok (.aload_n 0, 1) := by decide +kernel
theorem dL_law_806 : decode cL_law 806 = .ok (.iload_n 3, 1) := by decide +kernel
theorem dL_law_807 : decode cL_law 807 = .ok (.iconst 1, 1) := by decide +kernel
theorem dL_law_808 : decode cL_law 808 = .ok (.iadd, 1) := by decide +kernel
theorem dL_law_809 : decode cL_law 809 = .ok (.iaload, 1) := by decide +kernel
theorem dL_law_810 : decode cL_law 810 = .ok (.invokevirtual 114, 3) := by decide +kernel
theorem dL_law_813 : decode cL_law 813 = .ok (.aload_n 2, 1) := by decide +kernel
theorem dL_law_814 : decode cL_law 814 = .ok (.aload_n 0, 1) := by decide +kernel
theorem dL_law_815 : decode cL_law 815 = .ok (.iload_n 3, 1) := by decide +kernel
theorem dL_law_816 : decode cL_law 816 = .ok (.iconst 1, 1) := by decide +kernel
theorem dL_law_817 : decode cL_law 817 = .ok (.iadd, 1) := by decide +kernel
theorem dL_law_818 : decode cL_law 818 = .ok (.iaload, 1) := by decide +kernel
theorem dL_law_819 : decode cL_law 819 = .ok (.invokevirtual 117, 3) := by decide +kernel
theorem dL_law_822 : decode cL_law 822 = .ok (.if_icmp .eq 19, 3) := by decide +kernel
theorem dL_law_825 : decode cL_law 825 = .ok (.iconst 0, 1) := by decide +kernel
theorem dL_law_826 : decode cL_law 826 = .ok (.ireturn, 1) := by decide +kernel
theorem dL_law_827 : decode cL_law 827 = .ok (.aload_n 1, 1) := by decide +kernel
theorem dL_law_828 : decode cL_law 828 = .ok (.invokevirtual 118, 3) := by decide +kernel
theorem dL_law_831 : decode cL_law 831 = .ok (.aload_n 2, 1) := by decide +kernel
theorem dL_law_832 : decode cL_law 832 = .ok (.invokevirtual 122, 3) := by decide +kernel
theorem dL_law_835 : decode cL_law 835 = .ok (.lcmp, 1) := by decide +kernel
theorem dL_law_836 : decode cL_law 836 = .ok (.ifCond .eq 5, 3) := by decide +kernel
theorem dL_law_839 : decode cL_law 839 = .ok (.iconst 0, 1) := by decide +kernel
theorem dL_law_840 : decode cL_law 840 = .ok (.ireturn, 1) := by decide +kernel
theorem dL_law_841 : decode cL_law 841 = .ok (.iinc 3 5, 3) := by decide +kernel
theorem dL_law_844 : decode cL_law 844 = .ok (.goto (-826), 3) := by decide +kernel
theorem dL_law_847 : decode cL_law 847 = .ok (.iconst 1, 1) := by decide +kernel
theorem dL_law_848 : decode cL_law 848 = .ok (.ireturn, 1) := by decide +kernel
end
section
/-! the state: what each cell's slot holds; runs as functions that may fail -/
abbrev St : Type := Nat → Nat → Int32
def pt (σ : St) (k i : Nat) (v : Int32) : St := fun k' => bif Nat.beq k' k then upd (σ k') i v else σ k'
def pa (σ : St) (k : Nat) (f : Nat → Int32) : St := fun k' => bif Nat.beq k' k then f else σ k'
def gi {α : Type} (i : Int32) (n : Nat) (x : Option α) : Option α := if i < 0 ∨ n ≤ i.toNatClampNeg then none else x
def gz {α : Type} (y : Int32) (x : Option α) : Option α := if y = 0 then none else x
def gb {α : Type} (y : Int32) (x : Option α) : Option α := if y = 0 ∨ y = 1 then x else none
def bp {α β : Type} (x : Option α) (f : α → Option β) : Option β := x.bind f
def bs {α β γ : Type} (x : Option (α × β)) (f : α → β → Option γ) : Option γ := x.bind (fun q => f q.1 q.2)
theorem gi_some {α : Type} {i : Int32} {n : Nat} {x : Option α} {y : α} (h : gi i n x = some y) : vp_in i n ∧ x = some y := by
  unfold gi at h
  by_cases c : i < 0 ∨ n ≤ i.toNatClampNeg
  · rw [if_pos c] at h; cases h
  · rw [if_neg c] at h; exact ⟨c, h⟩
theorem gz_some {α : Type} {i : Int32} {x : Option α} {y : α} (h : gz i x = some y) : ¬ i = 0 ∧ x = some y := by
  unfold gz at h
  by_cases c : i = 0
  · rw [if_pos c] at h; cases h
  · rw [if_neg c] at h; exact ⟨c, h⟩
theorem gb_some {α : Type} {i : Int32} {x : Option α} {y : α} (h : gb i x = some y) : (i = 0 ∨ i = 1) ∧ x = some y := by
  unfold gb at h
  by_cases c : i = 0 ∨ i = 1
  · rw [if_pos c] at h; exact ⟨c, h⟩
  · rw [if_neg c] at h; cases h
theorem bp_some {α β : Type} {x : Option α} {f : α → Option β} {y : β} (h : bp x f = some y) : ∃ a, x = some a ∧ f a = some y := Option.bind_eq_some_iff.mp h
theorem bs_some {α β γ : Type} {x : Option (α × β)} {f : α → β → Option γ} {y : γ} (h : bs x f = some y) : ∃ (a : α) (b : β), x = some (a, b) ∧ f a b = some y := by
  obtain ⟨⟨a, b⟩, h1, h2⟩ := Option.bind_eq_some_iff.mp h
  exact ⟨a, b, h1, h2⟩
theorem b_t {α : Type} {c : Prop} {_ : Decidable c} {x y z : α} (h : c) (e : (if c then x else y) = z) : x = z := by rw [if_pos h] at e; exact e
theorem b_f {α : Type} {c : Prop} {_ : Decidable c} {x y z : α} (h : ¬ c) (e : (if c then x else y) = z) : y = z := by rw [if_neg h] at e; exact e
theorem b_n {α : Type} {c : Prop} {_ : Decidable c} {x y z : α} (h : ¬ c) (e : (if c then x else y) = z) : y = z := by rw [if_neg h] at e; exact e
theorem so_inj {α : Type} {x y : α} (h : some x = some y) : x = y := Option.some.inj h

def gk {α : Type} (k : Nat) (x : Option α) : Option α := if k < 5 then x else none
theorem gk_some {α : Type} {k : Nat} {x : Option α} {y : α} (h : gk k x = some y) : k < 5 ∧ x = some y := by
  unfold gk at h
  by_cases c : k < 5
  · rw [if_pos c] at h; exact ⟨c, h⟩
  · rw [if_neg c] at h; cases h
/-- whether a judge of a kind is one of that kind -/
def inK (nx k : Nat) : Int32 := if nx = 1 then (if k = 1 ∨ k = 4 then 1 else 0) else (if k = nx then 1 else 0)
/-- the place of a letter in "jstwc" -/
def kix (x : Int32) : Int32 := if x = 106 then 0 else if x = 115 then 1 else if x = 116 then 2 else if x = 119 then 3 else if x = 99 then 4 else -1
end
section
def D_J6_bitCount_0f7a4 (x0 : Int32) : Option Int32 :=
  some ((((((((x0 - (((x0.toUInt32 >>> ((1 : Int32).toUInt32 &&& Int32.toUInt32 31)).toInt32) &&& (1431655765 : Int32))) &&& (858993459 : Int32)) + ((((x0 - (((x0.toUInt32 >>> ((1 : Int32).toUInt32 &&& Int32.toUInt32 31)).toInt32) &&& (1431655765 : Int32))).toUInt32 >>> ((2 : Int32).toUInt32 &&& Int32.toUInt32 31)).toInt32) &&& (858993459 : Int32))) + (((((x0 - (((x0.toUInt32 >>> ((1 : Int32).toUInt32 &&& Int32.toUInt32 31)).toInt32) &&& (1431655765 : Int32))) &&& (858993459 : Int32)) + ((((x0 - (((x0.toUInt32 >>> ((1 : Int32).toUInt32 &&& Int32.toUInt32 31)).toInt32) &&& (1431655765 : Int32))).toUInt32 >>> ((2 : Int32).toUInt32 &&& Int32.toUInt32 31)).toInt32) &&& (858993459 : Int32))).toUInt32 >>> ((4 : Int32).toUInt32 &&& Int32.toUInt32 31)).toInt32)) &&& (252645135 : Int32)) + (((((((x0 - (((x0.toUInt32 >>> ((1 : Int32).toUInt32 &&& Int32.toUInt32 31)).toInt32) &&& (1431655765 : Int32))) &&& (858993459 : Int32)) + ((((x0 - (((x0.toUInt32 >>> ((1 : Int32).toUInt32 &&& Int32.toUInt32 31)).toInt32) &&& (1431655765 : Int32))).toUInt32 >>> ((2 : Int32).toUInt32 &&& Int32.toUInt32 31)).toInt32) &&& (858993459 : Int32))) + (((((x0 - (((x0.toUInt32 >>> ((1 : Int32).toUInt32 &&& Int32.toUInt32 31)).toInt32) &&& (1431655765 : Int32))) &&& (858993459 : Int32)) + ((((x0 - (((x0.toUInt32 >>> ((1 : Int32).toUInt32 &&& Int32.toUInt32 31)).toInt32) &&& (1431655765 : Int32))).toUInt32 >>> ((2 : Int32).toUInt32 &&& Int32.toUInt32 31)).toInt32) &&& (858993459 : Int32))).toUInt32 >>> ((4 : Int32).toUInt32 &&& Int32.toUInt32 31)).toInt32)) &&& (252645135 : Int32)).toUInt32 >>> ((8 : Int32).toUInt32 &&& Int32.toUInt32 31)).toInt32)) + ((((((((x0 - (((x0.toUInt32 >>> ((1 : Int32).toUInt32 &&& Int32.toUInt32 31)).toInt32) &&& (1431655765 : Int32))) &&& (858993459 : Int32)) + ((((x0 - (((x0.toUInt32 >>> ((1 : Int32).toUInt32 &&& Int32.toUInt32 31)).toInt32) &&& (1431655765 : Int32))).toUInt32 >>> ((2 : Int32).toUInt32 &&& Int32.toUInt32 31)).toInt32) &&& (858993459 : Int32))) + (((((x0 - (((x0.toUInt32 >>> ((1 : Int32).toUInt32 &&& Int32.toUInt32 31)).toInt32) &&& (1431655765 : Int32))) &&& (858993459 : Int32)) + ((((x0 - (((x0.toUInt32 >>> ((1 : Int32).toUInt32 &&& Int32.toUInt32 31)).toInt32) &&& (1431655765 : Int32))).toUInt32 >>> ((2 : Int32).toUInt32 &&& Int32.toUInt32 31)).toInt32) &&& (858993459 : Int32))).toUInt32 >>> ((4 : Int32).toUInt32 &&& Int32.toUInt32 31)).toInt32)) &&& (252645135 : Int32)) + (((((((x0 - (((x0.toUInt32 >>> ((1 : Int32).toUInt32 &&& Int32.toUInt32 31)).toInt32) &&& (1431655765 : Int32))) &&& (858993459 : Int32)) + ((((x0 - (((x0.toUInt32 >>> ((1 : Int32).toUInt32 &&& Int32.toUInt32 31)).toInt32) &&& (1431655765 : Int32))).toUInt32 >>> ((2 : Int32).toUInt32 &&& Int32.toUInt32 31)).toInt32) &&& (858993459 : Int32))) + (((((x0 - (((x0.toUInt32 >>> ((1 : Int32).toUInt32 &&& Int32.toUInt32 31)).toInt32) &&& (1431655765 : Int32))) &&& (858993459 : Int32)) + ((((x0 - (((x0.toUInt32 >>> ((1 : Int32).toUInt32 &&& Int32.toUInt32 31)).toInt32) &&& (1431655765 : Int32))).toUInt32 >>> ((2 : Int32).toUInt32 &&& Int32.toUInt32 31)).toInt32) &&& (858993459 : Int32))).toUInt32 >>> ((4 : Int32).toUInt32 &&& Int32.toUInt32 31)).toInt32)) &&& (252645135 : Int32)).toUInt32 >>> ((8 : Int32).toUInt32 &&& Int32.toUInt32 31)).toInt32)).toUInt32 >>> ((16 : Int32).toUInt32 &&& Int32.toUInt32 31)).toInt32)) &&& (63 : Int32))
def D_X0_append (σ : St) (x1 : Int32) (x2 : Int32) (x3 : Int32) : Option St :=
  if (12 : Int32) ≤ (σ 10 5) then
    some σ
  else
    gi (σ 10 5) 12 (gi (σ 10 5) 12 (gi (σ 10 5) 12 (some (pt (pt (pt (pt σ 12 ((σ 10 5).toNatClampNeg) x1) 13 ((σ 10 5).toNatClampNeg) x2) 14 ((σ 10 5).toNatClampNeg) x3) 10 5 ((σ 10 5) + (1 : Int32))))))
def L_X0_shownTo_4 (N : Nat) (σ : St) (x1 : Int32) : Nat → Int32 → Int32 → Option Int32
  | 0, _, _ => none
  | n + 1, x2, x3 =>
    if (σ 10 5) ≤ x3 then
      some x2
    else
      gi x3 12 (if (σ 13 x3.toNatClampNeg) = x1 then
          L_X0_shownTo_4 N σ x1 n (x2 + (1 : Int32)) (x3 + (1 : Int32))
        else
          L_X0_shownTo_4 N σ x1 n x2 (x3 + (1 : Int32)))
def D_X0_shownTo (N : Nat) (σ : St) (x1 : Int32) : Option Int32 :=
  L_X0_shownTo_4 N σ x1 N (0 : Int32) (0 : Int32)
def D_X0_take_k (σ : St) : Option St :=
  some (pt (pt (pa (pa (pa (pa σ 16 (va_cpy (σ 11) (σ 16) 0 0 3)) 17 (va_cpy (σ 12) (σ 17) 0 0 12)) 18 (va_cpy (σ 13) (σ 18) 0 0 12)) 19 (va_cpy (σ 14) (σ 19) 0 0 12)) 15 4 (σ 10 4)) 15 5 (σ 10 5))
def D_X0_take_n (σ : St) : Option St :=
  some (pt (pt (pa (pa (pa (pa σ 11 (va_cpy (σ 16) (σ 11) 0 0 3)) 12 (va_cpy (σ 17) (σ 12) 0 0 12)) 13 (va_cpy (σ 18) (σ 13) 0 0 12)) 14 (va_cpy (σ 19) (σ 14) 0 0 12)) 10 4 (σ 15 4)) 10 5 (σ 15 5))
def D_X6_rightFromOtherEnd (σ : St) (x1 : Int32) (x2 : Int32) : Option Int32 :=
  gi x1 216 (gi x2 216 (bp (D_J6_bitCount_0f7a4 ((σ 22 x1.toNatClampNeg) &&& (σ 21 x2.toNatClampNeg))) (fun r3 => some r3)))
def D_X6_alike (σ : St) (x1 : Int32) (x2 : Int32) : Option Int32 :=
  gi x1 216 (gi x2 216 (bp (D_J6_bitCount_0f7a4 ((σ 23 x1.toNatClampNeg) &&& (σ 23 x2.toNatClampNeg))) (fun r3 => some r3)))
def D_X2_plainWord (x0 : Int32) (x1 : Int32) : Option Int32 :=
  some ((((10 : Int32) * x0) + x1) - x0)
def D_X10_word (σ : St) (x2 : Int32) (x3 : Int32) : Option Int32 :=
  bp (D_X6_rightFromOtherEnd σ x2 x3) (fun r1 => bp (D_X6_alike σ x2 x3) (fun r2 => bp (D_X2_plainWord r1 r2) (fun r3 => some r3)))
def D_X11_isJudge (σ : St) (x1 : Int32) : Option Int32 :=
  if x1 < 0 then
    some (0 : Int32)
  else
    if (σ 0 9) ≤ x1 then
      some (0 : Int32)
    else
      some (1 : Int32)
def D_X11_isKind (x0 : Int32) : Option Int32 :=
  if x0 < 0 then
    some (0 : Int32)
  else
    if (5 : Int32) ≤ x0 then
      some (0 : Int32)
    else
      some (1 : Int32)
def D_X11_judgeAt (σ : St) (x1 : Int32) : Option Nat :=
  gi x1 3 (gi (σ 11 x1.toNatClampNeg) 5 (some ((σ 11 x1.toNatClampNeg).toNatClampNeg)))
def D_X11_isOf (k0 : Nat) (x1 : Int32) : Option Int32 :=
  if x1 = (1 : Int32) then
    gk k0 (gb (inK 1 k0) (some (inK 1 k0)))
  else if x1 = (2 : Int32) then
    gk k0 (gb (inK 2 k0) (some (inK 2 k0)))
  else if x1 = (3 : Int32) then
    gk k0 (gb (inK 3 k0) (some (inK 3 k0)))
  else if x1 = (4 : Int32) then
    gk k0 (gb (inK 4 k0) (some (inK 4 k0)))
  else 
    some (1 : Int32)
def D_X11_as (σ : St) (x1 : Int32) (x2 : Int32) : Option Int32 :=
  bp (D_X11_isJudge σ x1) (fun r1 => if r1 = 0 then
      some (-101 : Int32)
    else
      bp (D_X11_isKind x2) (fun r3 => if r3 = 0 then
          some (-102 : Int32)
        else
          bp (D_X11_judgeAt σ x1) (fun r5 => bp (D_X11_isOf r5 x2) (fun r6 => if r6 = 0 then
                some (-1 : Int32)
              else
                some x1))))
def L_X5_fill_13 (N : Nat) : Nat → Int32 → St → Option St
  | 0, _, _ => none
  | n + 1, x1, σ =>
    if (σ 24 2) ≤ x1 then
      some σ
    else
      gi x1 216 (gi x1 216 (L_X5_fill_13 N n (x1 + (1 : Int32)) (pt (pt σ 25 x1.toNatClampNeg x1) 26 x1.toNatClampNeg (1 : Int32))))
def D_X5_fill (N : Nat) (σ : St) : Option St :=
  L_X5_fill_13 N N (0 : Int32) (pt σ 24 2 (σ 20 2))
def D_X6_right (σ : St) (x1 : Int32) (x2 : Int32) : Option Int32 :=
  gi x1 216 (gi x2 216 (bp (D_J6_bitCount_0f7a4 ((σ 21 x1.toNatClampNeg) &&& (σ 21 x2.toNatClampNeg))) (fun r3 => some r3)))
def D_X2_word (σ : St) (x2 : Int32) (x3 : Int32) : Option Int32 :=
  bp (D_X6_right σ x2 x3) (fun r1 => bp (D_X6_alike σ x2 x3) (fun r2 => bp (D_X2_plainWord r1 r2) (fun r3 => some r3)))
def D_X7_word (σ : St) (x2 : Int32) (x3 : Int32) : Option Int32 :=
  bp (D_X6_alike σ x2 x3) (fun r1 => some r1)
def D_X8_word (σ : St) (x2 : Int32) (x3 : Int32) : Option Int32 :=
  bp (D_X6_right σ x2 x3) (fun r1 => some r1)
def D_X1_word (σ : St) (x2 : Int32) (x3 : Int32) : Option Int32 :=
  bp (D_X6_alike σ x2 x3) (fun r1 => some (r1 &&& (1 : Int32)))
def D_wd (σ : St) (k : Nat) (x2 x3 : Int32) : Option Int32 :=
  if k = 0 then D_X2_word σ x2 x3 else if k = 1 then D_X7_word σ x2 x3 else if k = 2 then D_X8_word σ x2 x3 else if k = 3 then D_X10_word σ x2 x3 else if k = 4 then D_X1_word σ x2 x3 else none
def L_X5_keep_6 (N : Nat) (k1 : Nat) (x2 : Int32) (x3 : Int32) : Nat → Int32 → Int32 → St → Option St
  | 0, _, _, _ => none
  | n + 1, x4, x5, σ =>
    if (σ 24 2) ≤ x5 then
      some (pt σ 24 2 x4)
    else
      gi x5 216 (bp (D_wd σ k1 x2 (σ 25 x5.toNatClampNeg)) (fun r3 => if r3 = x3 then
            gi x4 216 (L_X5_keep_6 N k1 x2 x3 n (x4 + (1 : Int32)) (x5 + (1 : Int32)) (pt σ 25 x4.toNatClampNeg (σ 25 x5.toNatClampNeg)))
          else
            gi (σ 25 x5.toNatClampNeg) 216 (L_X5_keep_6 N k1 x2 x3 n x4 (x5 + (1 : Int32)) (pt σ 26 ((σ 25 x5.toNatClampNeg).toNatClampNeg) (0 : Int32)))))
def D_X5_keep (N : Nat) (σ : St) (k1 : Nat) (x2 : Int32) (x3 : Int32) : Option St :=
  L_X5_keep_6 N k1 x2 x3 N (0 : Int32) (0 : Int32) σ
def L_X11_gatherFitting_9 (N : Nat) : Nat → Int32 → St → Option (Int32 × St)
  | 0, _, _ => none
  | n + 1, x1, σ =>
    if (σ 10 5) ≤ x1 then
      some (σ 24 2, σ)
    else
      gi x1 12 (bp (D_X11_judgeAt σ (σ 13 x1.toNatClampNeg)) (fun r4 => gi x1 12 (gi x1 12 (bp (D_X5_keep N σ r4 (σ 12 x1.toNatClampNeg) (σ 14 x1.toNatClampNeg)) (fun s7 => L_X11_gatherFitting_9 N n (x1 + (1 : Int32)) s7)))))
def D_X11_gatherFitting (N : Nat) (σ : St) : Option (Int32 × St) :=
  bp (D_X5_fill N σ) (fun s1 => L_X11_gatherFitting_9 N N (0 : Int32) s1)
def L_X5_tally_26 (N : Nat) (k1 : Nat) (x2 : Int32) : Nat → Int32 → St → Option St
  | 0, _, _ => none
  | n + 1, x3, σ =>
    if (σ 24 2) ≤ x3 then
      some σ
    else
      gi x3 216 (bp (D_wd σ k1 x2 (σ 25 x3.toNatClampNeg)) (fun r4 => if r4 < 0 then
            L_X5_tally_26 N k1 x2 n (x3 + (1 : Int32)) σ
          else
            if (31 : Int32) ≤ r4 then
              L_X5_tally_26 N k1 x2 n (x3 + (1 : Int32)) σ
            else
              gi r4 31 (gi r4 31 (L_X5_tally_26 N k1 x2 n (x3 + (1 : Int32)) (pt σ 27 r4.toNatClampNeg ((σ 27 r4.toNatClampNeg) + (1 : Int32)))))))
def L_X5_tally_2 (N : Nat) (k1 : Nat) (x2 : Int32) : Nat → Int32 → St → Option St
  | 0, _, _ => none
  | n + 1, x3, σ =>
    if (31 : Int32) ≤ x3 then
      L_X5_tally_26 N k1 x2 N (0 : Int32) σ
    else
      gi x3 31 (L_X5_tally_2 N k1 x2 n (x3 + (1 : Int32)) (pt σ 27 x3.toNatClampNeg (0 : Int32)))
def D_X5_tally (N : Nat) (σ : St) (k1 : Nat) (x2 : Int32) : Option St :=
  L_X5_tally_2 N k1 x2 N (0 : Int32) σ
def L_X5_worst_22 (N : Nat) (x5 : Int32) : Nat → Int32 → Int32 → St → Option (Int32 × St)
  | 0, _, _, _ => none
  | n + 1, x3, x6, σ =>
    if x5 ≤ x6 then
      some (x3, σ)
    else
      gi x6 31 (L_X5_worst_22 N x5 n (if x3 < (σ 27 x6.toNatClampNeg) then (σ 27 x6.toNatClampNeg) else x3) (x6 + (1 : Int32)) σ)
def D_X5_worst (N : Nat) (σ : St) (k1 : Nat) (x2 : Int32) : Option (Int32 × St) :=
  bp (D_X5_tally N σ k1 x2) (fun s1 => L_X5_worst_22 N (31 : Int32) N (0 : Int32) (0 : Int32) s1)
def J_X5_bestRow_52 (N : Nat) (kc9 : Int32 → Int32 → Int32 → St → Option (Int32 × St)) (k1 : Nat) (x2 : Int32) (x3 : Int32) (x4 : Int32) (t0 : Int32) (t1 : Int32) (σ : St) : Option (Int32 × St) :=
  if x3 ≤ (t0 + t1) then
    kc9 x2 x3 (x4 + (1 : Int32)) σ
  else
    kc9 x4 (t0 + t1) (x4 + (1 : Int32)) σ
def L_X5_bestRow_9 (N : Nat) (k1 : Nat) : Nat → Int32 → Int32 → Int32 → St → Option (Int32 × St)
  | 0, _, _, _, _ => none
  | n + 1, x2, x3, x4, σ =>
    if (σ 20 2) ≤ x4 then
      some (x2, σ)
    else
      if (σ 24 2) ≤ 0 then
        some (x2, σ)
      else
        bs (D_X5_worst N σ k1 x4) (fun r3 s3 => gi x4 216 (if (s3 26 x4.toNatClampNeg) = 0 then
              J_X5_bestRow_52 N (L_X5_bestRow_9 N k1 n) k1 x2 x3 x4 ((2 : Int32) * r3) (1 : Int32) s3
            else
              J_X5_bestRow_52 N (L_X5_bestRow_9 N k1 n) k1 x2 x3 x4 ((2 : Int32) * r3) (0 : Int32) s3))
def D_X5_bestRow (N : Nat) (σ : St) (k1 : Nat) : Option (Int32 × St) :=
  L_X5_bestRow_9 N k1 N (-1 : Int32) (434 : Int32) (0 : Int32) σ
def D_X11_best (N : Nat) (σ : St) (x1 : Int32) (x2 : Int32) : Option (Int32 × St) :=
  bp (D_X11_isJudge σ x1) (fun r1 => if r1 = 0 then
      some ((-101 : Int32), σ)
    else
      if x2 < 0 then
        some ((-102 : Int32), σ)
      else
        if x2 ≤ (1 : Int32) then
          if (σ 0 12) < (24 : Int32) then
            bs (D_X11_gatherFitting N (pt σ 0 12 ((σ 0 12) + (1 : Int32)))) (fun r6 s6 => bp (D_X11_judgeAt s6 x1) (fun r7 => bs (D_X5_bestRow N s6 r7) (fun r8 s8 => if x2 = 0 then
                    some (r8, s8)
                  else
                    if r8 = (-1 : Int32) then
                      some ((0 : Int32), s8)
                    else
                      bp (D_X11_judgeAt s8 x1) (fun r11 => bs (D_X5_worst N s8 r11 r8) (fun r12 s12 => some (r12, s12))))))
          else
            some ((-103 : Int32), σ)
        else
          some ((-102 : Int32), σ))
def D_X11_blank (σ : St) : Option (Int32 × St) :=
  some (σ 1 1, pt σ 1 1 (0 : Int32))
def J_X11_commonDivisor_34 (N : Nat) (x2 : Int32)  : Option Int32 :=
  some (if x2 < (1 : Int32) then (1 : Int32) else x2)
def L_X11_commonDivisor_7 (N : Nat) : Nat → Int32 → Int32 → Int32 → Option Int32
  | 0, _, _, _ => none
  | n + 1, x2, x3, x4 =>
    if (64 : Int32) ≤ x4 then
      J_X11_commonDivisor_34 N x2
    else
      if x3 = 0 then
        J_X11_commonDivisor_34 N x2
      else
        gz x3 (L_X11_commonDivisor_7 N n x3 (x2 - x2 / x3 * x3) (x4 + (1 : Int32)))
def D_X11_commonDivisor (N : Nat) (x0 : Int32) (x1 : Int32) : Option Int32 :=
  L_X11_commonDivisor_7 N N x0 x1 (0 : Int32)
def L_X11_couldBe_2 (N : Nat) (σ : St) (x1 : Int32) (k2 : Nat) : Nat → Int32 → Option Int32
  | 0, _ => none
  | n + 1, x3 =>
    if (σ 10 5) ≤ x3 then
      some (1 : Int32)
    else
      gi x3 12 (if (σ 13 x3.toNatClampNeg) = x1 then
          gi x3 12 (bp (D_wd σ k2 (σ 12 x3.toNatClampNeg) (σ 10 4)) (fun r5 => gi x3 12 (if r5 = (σ 14 x3.toNatClampNeg) then
                  L_X11_couldBe_2 N σ x1 k2 n (x3 + (1 : Int32))
                else
                  some (0 : Int32))))
        else
          L_X11_couldBe_2 N σ x1 k2 n (x3 + (1 : Int32)))
def D_X11_couldBe (N : Nat) (σ : St) (x1 : Int32) (k2 : Nat) : Option Int32 :=
  L_X11_couldBe_2 N σ x1 k2 N (0 : Int32)
def D_X11_isGameOn (σ : St) : Option Int32 :=
  if (σ 20 2) ≤ 0 then
    some (0 : Int32)
  else
    some (1 : Int32)
def D_X11_count (σ : St) (x1 : Int32) : Option Int32 :=
  if x1 = (0 : Int32) then
    some (σ 20 0)
  else if x1 = (1 : Int32) then
    some (σ 20 1)
  else if x1 = (2 : Int32) then
    some (σ 20 2)
  else if x1 = (3 : Int32) then
    some (σ 0 9)
  else if x1 = (4 : Int32) then
    some (σ 10 5)
  else if x1 = (5 : Int32) then
    bp (D_X11_isGameOn σ) (fun r7 => if r7 = 0 then
        some (-1 : Int32)
      else
        some (σ 10 4))
  else if x1 = (6 : Int32) then
    some (σ 1 1)
  else if x1 = (7 : Int32) then
    some (σ 0 11)
  else if x1 = (8 : Int32) then
    some (σ 0 12)
  else if x1 = (9 : Int32) then
    some (σ 0 13)
  else if x1 = (10 : Int32) then
    some (σ 0 14)
  else 
    some (-102 : Int32)
def J_X6_areTwins_39 (N : Nat) (σ : St) (kc3 : Int32 → Option Int32) (k1 : Nat) (x2 : Int32) (x3 : Int32) (x4 : Int32) (t0 : Int32)  : Option Int32 :=
  bp (D_wd σ k1 t0 x2) (fun r3 => bp (D_wd σ k1 t0 x3) (fun r4 => if r3 = r4 then
        kc3 (x4 + (1 : Int32))
      else
        some (0 : Int32)))
def L_X6_areTwins_3 (N : Nat) (σ : St) (k1 : Nat) (x2 : Int32) (x3 : Int32) : Nat → Int32 → Option Int32
  | 0, _ => none
  | n + 1, x4 =>
    if (σ 20 2) ≤ x4 then
      some (1 : Int32)
    else
      if (σ 20 2) ≤ (x2 + x4) then
        J_X6_areTwins_39 N σ (L_X6_areTwins_3 N σ k1 x2 x3 n) k1 x2 x3 x4 ((x2 + x4) - (σ 20 2))
      else
        J_X6_areTwins_39 N σ (L_X6_areTwins_3 N σ k1 x2 x3 n) k1 x2 x3 x4 (x2 + x4)
def D_X6_areTwins (N : Nat) (σ : St) (k1 : Nat) (x2 : Int32) (x3 : Int32) : Option Int32 :=
  L_X6_areTwins_3 N σ k1 x2 x3 N (0 : Int32)
def L_X6_twins_14 (N : Nat) (σ : St) (kc2 : Int32 → Option Int32) (k1 : Nat) (x2 : Int32) : Nat → Int32 → Option Int32
  | 0, _ => none
  | n + 1, x3 =>
    if (σ 20 2) ≤ x3 then
      kc2 (x2 + (1 : Int32))
    else
      bp (D_X6_areTwins N σ k1 x2 x3) (fun r3 => if r3 = 0 then
          L_X6_twins_14 N σ kc2 k1 x2 n (x3 + (1 : Int32))
        else
          some ((x2 * (1000 : Int32)) + x3))
def L_X6_twins_2 (N : Nat) (σ : St) (k1 : Nat) : Nat → Int32 → Option Int32
  | 0, _ => none
  | n + 1, x2 =>
    if (σ 20 2) ≤ x2 then
      some (-1 : Int32)
    else
      L_X6_twins_14 N σ (L_X6_twins_2 N σ k1 n) k1 x2 N (x2 + (1 : Int32))
def D_X6_twins (N : Nat) (σ : St) (k1 : Nat) : Option Int32 :=
  L_X6_twins_2 N σ k1 N (0 : Int32)
def L_X11_sorts_4 (N : Nat) (σ : St) (x1 : Int32) : Nat → Int32 → Int32 → Option Int32
  | 0, _, _ => none
  | n + 1, x2, x3 =>
    if (5 : Int32) ≤ x3 then
      some x2
    else
      gi x3 5 (bp (D_X11_couldBe N σ x1 x3.toNatClampNeg) (fun r3 => if r3 = 0 then
            L_X11_sorts_4 N σ x1 n x2 (x3 + (1 : Int32))
          else
            L_X11_sorts_4 N σ x1 n (x2 ||| ((1 : Int32) <<< (x3 &&& 31))) (x3 + (1 : Int32))))
def D_X11_sorts (N : Nat) (σ : St) (x1 : Int32) : Option Int32 :=
  L_X11_sorts_4 N σ x1 N (0 : Int32) (0 : Int32)
def J_X11_worstSorts_118 (N : Nat) (kc63 : Int32 → Int32 → St → Option (Int32 × St)) (x3 : Int32) (x4 : Int32) (x5 : Int32) (σ : St) : Option (Int32 × St) :=
  kc63 (if x3 < x5 then x5 else x3) (x4 + (1 : Int32)) σ
def L_X11_worstSorts_75 (N : Nat) (kc63 : Int32 → Int32 → St → Option (Int32 × St)) (x3 : Int32) (x4 : Int32) : Nat → Int32 → Int32 → St → Option (Int32 × St)
  | 0, _, _, _ => none
  | n + 1, x5, x6, σ =>
    if (5 : Int32) ≤ x6 then
      J_X11_worstSorts_118 N kc63 x3 x4 x5 σ
    else
      gi x4 5 (if (σ 9 x4.toNatClampNeg) = (-1 : Int32) then
          J_X11_worstSorts_118 N kc63 x3 x4 x5 σ
        else
          gi x6 5 (gi x4 5 (if (σ 9 x6.toNatClampNeg) = (σ 9 x4.toNatClampNeg) then
                L_X11_worstSorts_75 N kc63 x3 x4 n (x5 + (1 : Int32)) (x6 + (1 : Int32)) σ
              else
                L_X11_worstSorts_75 N kc63 x3 x4 n x5 (x6 + (1 : Int32)) σ)))
def L_X11_worstSorts_63 (N : Nat) : Nat → Int32 → Int32 → St → Option (Int32 × St)
  | 0, _, _, _ => none
  | n + 1, x3, x4, σ =>
    if (5 : Int32) ≤ x4 then
      some (x3, σ)
    else
      L_X11_worstSorts_75 N (L_X11_worstSorts_63 N n) x3 x4 N (0 : Int32) (0 : Int32) σ
def L_X11_worstSorts_5 (N : Nat) (x1 : Int32) (x2 : Int32) (x3 : Int32) : Nat → Int32 → St → Option (Int32 × St)
  | 0, _, _ => none
  | n + 1, x4, σ =>
    if (5 : Int32) ≤ x4 then
      L_X11_worstSorts_63 N N x3 (0 : Int32) σ
    else
      if ((x1 >>> (x4 &&& 31)) &&& (1 : Int32)) = (1 : Int32) then
        gi x4 5 (bp (D_wd σ x4.toNatClampNeg x2 (σ 10 4)) (fun r13 => gi x4 5 (L_X11_worstSorts_5 N x1 x2 x3 n (x4 + (1 : Int32)) (pt σ 9 x4.toNatClampNeg r13))))
      else
        gi x4 5 (L_X11_worstSorts_5 N x1 x2 x3 n (x4 + (1 : Int32)) (pt σ 9 x4.toNatClampNeg (-1 : Int32)))
def D_X11_worstSorts (N : Nat) (σ : St) (x1 : Int32) (x2 : Int32) : Option (Int32 × St) :=
  L_X11_worstSorts_5 N x1 x2 (0 : Int32) N (0 : Int32) σ
def L_X11_testFor_8 (N : Nat) (x1 : Int32) : Nat → Int32 → Int32 → Int32 → St → Option (Int32 × St)
  | 0, _, _, _, _ => none
  | n + 1, x2, x3, x4, σ =>
    if (σ 20 2) ≤ x4 then
      some (x2, σ)
    else
      if x1 = 0 then
        some (x2, σ)
      else
        bs (D_X11_worstSorts N σ x1 x4) (fun r3 s3 => if x3 ≤ r3 then
            L_X11_testFor_8 N x1 n x2 x3 (x4 + (1 : Int32)) s3
          else
            L_X11_testFor_8 N x1 n x4 r3 (x4 + (1 : Int32)) s3)
def D_X11_testFor (N : Nat) (σ : St) (x1 : Int32) : Option (Int32 × St) :=
  L_X11_testFor_8 N x1 N (-1 : Int32) (6 : Int32) (0 : Int32) σ
def D_X11_judge (N : Nat) (σ : St) (x1 : Int32) (x2 : Int32) : Option (Int32 × St) :=
  bp (D_X11_isJudge σ x1) (fun r1 => if r1 = 0 then
      some ((-101 : Int32), σ)
    else
      if x2 = (0 : Int32) then
        gi x1 3 (some (σ 11 x1.toNatClampNeg, σ))
      else if x2 = (1 : Int32) then
        bp (D_X0_shownTo N σ x1) (fun r6 => some (r6, σ))
      else if x2 = (2 : Int32) then
        bp (D_X11_sorts N σ x1) (fun r8 => some (r8, σ))
      else if x2 = (3 : Int32) then
        bp (D_X11_sorts N σ x1) (fun r10 => bs (D_X11_testFor N σ r10) (fun r11 s11 => some (r11, s11)))
      else if x2 = (4 : Int32) then
        bp (D_X11_judgeAt σ x1) (fun r13 => bp (D_X6_twins N σ r13) (fun r14 => some (r14, σ)))
      else 
        some ((-102 : Int32), σ))
def D_X11_with (y0 : Int64) (x2 : Int32) : Option Int64 :=
  some (((31 : Int64) * y0) + x2.toInt64)
def D_X11_isRow (σ : St) (x1 : Int32) : Option Int32 :=
  if x1 < 0 then
    some (0 : Int32)
  else
    if (σ 20 2) ≤ x1 then
      some (0 : Int32)
    else
      some (1 : Int32)
def L_X5_squares_22 (N : Nat) (x5 : Int32) : Nat → Int32 → Int32 → St → Option (Int32 × St)
  | 0, _, _, _ => none
  | n + 1, x3, x6, σ =>
    if x5 ≤ x6 then
      some (x3, σ)
    else
      gi x6 31 (L_X5_squares_22 N x5 n (x3 + ((σ 27 x6.toNatClampNeg) * (σ 27 x6.toNatClampNeg))) (x6 + (1 : Int32)) σ)
def D_X5_squares (N : Nat) (σ : St) (k1 : Nat) (x2 : Int32) : Option (Int32 × St) :=
  bp (D_X5_tally N σ k1 x2) (fun s1 => L_X5_squares_22 N (31 : Int32) N (0 : Int32) (0 : Int32) s1)
def J_X11_rest_85 (N : Nat) (x5 : Int32) (t0 : Int32) (σ : St) : Option (Int32 × St) :=
  gz x5 (some (t0 / x5, σ))
def D_X11_rest (N : Nat) (σ : St) (x1 : Int32) (x2 : Int32) (x3 : Int32) : Option (Int32 × St) :=
  bp (D_X11_isRow σ x1) (fun r1 => if r1 = 0 then
      some ((-101 : Int32), σ)
    else
      bp (D_X11_isJudge σ x2) (fun r3 => if r3 = 0 then
          some ((-101 : Int32), σ)
        else
          if x3 < 0 then
            some ((-102 : Int32), σ)
          else
            if x3 ≤ (1 : Int32) then
              bs (D_X11_gatherFitting N σ) (fun r7 s7 => if r7 = 0 then
                  some (x3, s7)
                else
                  bp (D_X11_judgeAt s7 x2) (fun r9 => bs (D_X5_squares N s7 r9 x1) (fun r10 s10 => bp (D_X11_commonDivisor N r10 (s10 24 2)) (fun r11 => if x3 = 0 then
                          J_X11_rest_85 N r11 r10 s10
                        else
                          J_X11_rest_85 N r11 (s10 24 2) s10))))
            else
              some ((-102 : Int32), σ)))
def D_X11_seen (σ : St) (x1 : Int32) (x2 : Int32) : Option Int32 :=
  if x1 < 0 then
    some (-101 : Int32)
  else
    if x1 < (σ 10 5) then
      if x2 = (0 : Int32) then
        gi x1 12 (some (σ 12 x1.toNatClampNeg))
      else if x2 = (1 : Int32) then
        gi x1 12 (some (σ 13 x1.toNatClampNeg))
      else if x2 = (2 : Int32) then
        gi x1 12 (some (σ 14 x1.toNatClampNeg))
      else 
        some (-102 : Int32)
    else
      some (-101 : Int32)
def D_X11_left (N : Nat) (σ : St) : Option (Int32 × St) :=
  bp (D_X11_isGameOn σ) (fun r1 => if r1 = 0 then
      some ((-103 : Int32), σ)
    else
      bs (D_X11_gatherFitting N σ) (fun r3 s3 => some (r3, s3)))
def D_X11_fits (N : Nat) (σ : St) (x1 : Int32) : Option (Int32 × St) :=
  if 0 ≤ x1 then
    bp (D_X11_isGameOn σ) (fun r2 => if r2 = 0 then
        some ((-103 : Int32), σ)
      else
        bs (D_X11_gatherFitting N σ) (fun r4 s4 => if r4 ≤ x1 then
            some ((-1 : Int32), s4)
          else
            gi x1 216 (some (s4 25 x1.toNatClampNeg, s4))))
  else
    some ((-102 : Int32), σ)
def L_X11_digest_174 (N : Nat) : Nat → Int64 → Int32 → St → Option (Int64 × St)
  | 0, _, _, _ => none
  | n + 1, y1, x3, σ =>
    if (11 : Int32) ≤ x3 then
      some (y1, σ)
    else
      bp (D_X11_count σ x3) (fun r7 => bp (D_X11_with y1 r7) (fun r8 => L_X11_digest_174 N n r8 (x3 + (1 : Int32)) σ))
def L_X11_digest_141 (N : Nat) : Nat → Int64 → Int32 → St → Option (Int64 × St)
  | 0, _, _, _ => none
  | n + 1, y1, x3, σ =>
    if (σ 1 1) ≤ x3 then
      L_X11_digest_174 N N y1 (0 : Int32) σ
    else
      gi x3 12 (bp (D_X11_with y1 (σ 2 x3.toNatClampNeg)) (fun r10 => L_X11_digest_141 N n r10 (x3 + (1 : Int32)) σ))
def L_X11_digest_85 (N : Nat) (kc71 : Int64 → Int32 → St → Option (Int64 × St)) (x3 : Int32) : Nat → Int64 → Int32 → St → Option (Int64 × St)
  | 0, _, _, _ => none
  | n + 1, y1, x4, σ =>
    if (3 : Int32) ≤ x4 then
      kc71 y1 (x3 + (1 : Int32)) σ
    else
      bp (D_X11_seen σ x3 x4) (fun r16 => bp (D_X11_with y1 r16) (fun r17 => L_X11_digest_85 N kc71 x3 n r17 (x4 + (1 : Int32)) σ))
def L_X11_digest_71 (N : Nat) : Nat → Int64 → Int32 → St → Option (Int64 × St)
  | 0, _, _, _ => none
  | n + 1, y1, x3, σ =>
    if (σ 10 5) ≤ x3 then
      bp (D_X11_isGameOn σ) (fun r3 => if r3 = 0 then
          L_X11_digest_141 N N y1 (0 : Int32) σ
        else
          bs (D_X11_left N σ) (fun r11 s11 => bp (D_X11_with y1 r11) (fun r12 => bs (D_X11_fits N s11 (0 : Int32)) (fun r13 s13 => bp (D_X11_with r12 r13) (fun r14 => L_X11_digest_141 N N r14 (0 : Int32) s13)))))
    else
      L_X11_digest_85 N (L_X11_digest_71 N n) x3 N y1 (0 : Int32) σ
def L_X11_digest_17 (N : Nat) (kc6 : Int64 → Int32 → St → Option (Int64 × St)) (x3 : Int32) : Nat → Int64 → Int32 → St → Option (Int64 × St)
  | 0, _, _, _ => none
  | n + 1, y1, x4, σ =>
    if (4 : Int32) ≤ x4 then
      bs (D_X11_rest N σ (0 : Int32) x3 (0 : Int32)) (fun r19 s19 => bp (D_X11_with y1 r19) (fun r20 => bs (D_X11_rest N s19 (0 : Int32) x3 (1 : Int32)) (fun r21 s21 => bp (D_X11_with r20 r21) (fun r22 => kc6 r22 (x3 + (1 : Int32)) s21))))
    else
      bs (D_X11_judge N σ x3 x4) (fun r23 s23 => bp (D_X11_with y1 r23) (fun r24 => L_X11_digest_17 N kc6 x3 n r24 (x4 + (1 : Int32)) s23))
def L_X11_digest_6 (N : Nat) : Nat → Int64 → Int32 → St → Option (Int64 × St)
  | 0, _, _, _ => none
  | n + 1, y1, x3, σ =>
    if (σ 0 9) ≤ x3 then
      L_X11_digest_71 N N y1 (0 : Int32) σ
    else
      L_X11_digest_17 N (L_X11_digest_6 N n) x3 N y1 (0 : Int32) σ
def D_X11_digest (N : Nat) (σ : St) : Option (Int64 × St) :=
  L_X11_digest_6 N N (1297 : Int64) (0 : Int32) σ
def L_X3_kindsEnd_2 (N : Nat) (σ : St) (x1 : Int32) : Nat → Int32 → Option Int32
  | 0, _ => none
  | n + 1, x2 =>
    if x1 ≤ x2 then
      some (-1 : Int32)
    else
      gi x2 12 (if (σ 2 x2.toNatClampNeg) = (59 : Int32) then
          some x2
        else
          L_X3_kindsEnd_2 N σ x1 n (x2 + (1 : Int32)))
def D_X3_kindsEnd (N : Nat) (σ : St) (x1 : Int32) : Option Int32 :=
  L_X3_kindsEnd_2 N σ x1 N (3 : Int32)
def D_X3_pegs (σ : St) : Option Int32 :=
  gi (0 : Int32) 12 (some ((σ 2 ((0 : Int32).toNatClampNeg)) - (48 : Int32)))
def D_X3_colours (σ : St) : Option Int32 :=
  gi (1 : Int32) 12 (some ((σ 2 ((1 : Int32).toNatClampNeg)) - (48 : Int32)))
def D_X3_mayStand (N : Nat) (σ : St) (x1 : Int32) : Option Int32 :=
  gi x1 12 (if x1 = (0 : Int32) then
      if (σ 2 x1.toNatClampNeg) < (49 : Int32) then
        some (0 : Int32)
      else
        if (51 : Int32) < (σ 2 x1.toNatClampNeg) then
          some (0 : Int32)
        else
          some (1 : Int32)
    else if x1 = (1 : Int32) then
      if (σ 2 x1.toNatClampNeg) < (50 : Int32) then
        some (0 : Int32)
      else
        if (54 : Int32) < (σ 2 x1.toNatClampNeg) then
          some (0 : Int32)
        else
          some (1 : Int32)
    else if x1 = (2 : Int32) then
      if (σ 2 x1.toNatClampNeg) = (59 : Int32) then
        some (1 : Int32)
      else
        some (0 : Int32)
    else 
      bp (D_X3_kindsEnd N σ x1) (fun r10 => if r10 = (-1 : Int32) then
          if (σ 2 x1.toNatClampNeg) = (59 : Int32) then
            if x1 ≤ (3 : Int32) then
              some (0 : Int32)
            else
              some (1 : Int32)
          else
            if (6 : Int32) ≤ x1 then
              some (0 : Int32)
            else
              if (kix (((σ 2 x1.toNatClampNeg).toUInt32 % 65536).toInt32)) < 0 then
                some (0 : Int32)
              else
                some (1 : Int32)
        else
          bp (D_X3_pegs σ) (fun r17 => if (r10 + r17) < x1 then
              some (0 : Int32)
            else
              if (σ 2 x1.toNatClampNeg) < (97 : Int32) then
                some (0 : Int32)
              else
                bp (D_X3_colours σ) (fun r20 => if ((97 : Int32) + r20) ≤ (σ 2 x1.toNatClampNeg) then
                    some (0 : Int32)
                  else
                    some (1 : Int32)))))
def L_X3_firstFault_2 (N : Nat) (σ : St) : Nat → Int32 → Option Int32
  | 0, _ => none
  | n + 1, x1 =>
    if (σ 1 1) ≤ x1 then
      some (σ 1 1)
    else
      bp (D_X3_mayStand N σ x1) (fun r2 => if r2 = 0 then
          some x1
        else
          L_X3_firstFault_2 N σ n (x1 + (1 : Int32)))
def D_X3_firstFault (N : Nat) (σ : St) : Option Int32 :=
  L_X3_firstFault_2 N σ N (0 : Int32)
def D_X11_fault (N : Nat) (σ : St) : Option Int32 :=
  bp (D_X3_firstFault N σ) (fun r1 => some r1)
def L_X11_fitting_2 (N : Nat) (σ : St) (x1 : Int32) : Nat → Int32 → Option Int32
  | 0, _ => none
  | n + 1, x2 =>
    if (σ 10 5) ≤ x2 then
      some (1 : Int32)
    else
      gi x2 12 (bp (D_X11_judgeAt σ (σ 13 x2.toNatClampNeg)) (fun r3 => gi x2 12 (bp (D_wd σ r3 (σ 12 x2.toNatClampNeg) x1) (fun r5 => gi x2 12 (if r5 = (σ 14 x2.toNatClampNeg) then
                  L_X11_fitting_2 N σ x1 n (x2 + (1 : Int32))
                else
                  some (0 : Int32))))))
def D_X11_fitting (N : Nat) (σ : St) (x1 : Int32) : Option Int32 :=
  L_X11_fitting_2 N σ x1 N (0 : Int32)
def D_X11_forget (σ : St) : Option (Int32 × St) :=
  some (σ 10 5, pt σ 10 5 (0 : Int32))
def D_X3_isGame (N : Nat) (σ : St) : Option Int32 :=
  bp (D_X3_kindsEnd N σ (σ 1 1)) (fun r1 => if r1 = (-1 : Int32) then
      some (0 : Int32)
    else
      bp (D_X3_pegs σ) (fun r3 => if (σ 1 1) = ((r1 + (1 : Int32)) + r3) then
          bp (D_X3_firstFault N σ) (fun r5 => if r5 = (σ 1 1) then
              some (1 : Int32)
            else
              some (0 : Int32))
        else
          some (0 : Int32)))
def L_X6_colour_20 (N : Nat) (σ : St) (x2 : Int32) : Nat → Int32 → Int32 → Option Int32
  | 0, _, _ => none
  | n + 1, x3, x4 =>
    if x4 ≤ x2 then
      gz (σ 20 1) (some (x3 - x3 / (σ 20 1) * (σ 20 1)))
    else
      gz (σ 20 1) (L_X6_colour_20 N σ x2 n (x3 / (σ 20 1)) (x4 + (-1 : Int32)))
def D_X6_colour (N : Nat) (σ : St) (x1 : Int32) (x2 : Int32) : Option Int32 :=
  if (1 : Int32) ≤ (σ 20 1) then
    L_X6_colour_20 N σ x2 N x1 ((σ 20 0) - (1 : Int32))
  else
    some (-1 : Int32)
def L_X6_withOneMore_8 (N : Nat) (x0 : Int32) : Nat → Int32 → Int32 → Option Int32
  | 0, _, _ => none
  | n + 1, x2, x3 =>
    if (3 : Int32) ≤ x3 then
      some (x0 ||| x2)
    else
      if (x0 &&& x2) = 0 then
        some (x0 ||| x2)
      else
        L_X6_withOneMore_8 N x0 n (x2 <<< ((1 : Int32) &&& 31)) (x3 + (1 : Int32))
def D_X6_withOneMore (N : Nat) (x0 : Int32) (x1 : Int32) : Option Int32 :=
  L_X6_withOneMore_8 N x0 N ((1 : Int32) <<< ((x1 * (3 : Int32)) &&& 31)) (0 : Int32)
def L_X6_layRow_10 (N : Nat) (x1 : Int32) : Nat → Int32 → Int32 → Int32 → Int32 → St → Option St
  | 0, _, _, _, _, _ => none
  | n + 1, x2, x3, x4, x5, σ =>
    if (σ 20 0) ≤ x5 then
      gi x1 216 (gi x1 216 (gi x1 216 (some (pt (pt (pt σ 21 x1.toNatClampNeg x2) 22 x1.toNatClampNeg x3) 23 x1.toNatClampNeg x4))))
    else
      bp (D_X6_colour N σ x1 x5) (fun r5 => bp (D_X6_withOneMore N x4 r5) (fun r6 => L_X6_layRow_10 N x1 n (x2 ||| ((1 : Int32) <<< (((x5 * (6 : Int32)) + r5) &&& 31))) (x3 ||| ((1 : Int32) <<< ((((((σ 20 0) - (1 : Int32)) - x5) * (6 : Int32)) + r5) &&& 31))) r6 (x5 + (1 : Int32)) σ))
def D_X6_layRow (N : Nat) (σ : St) (x1 : Int32) : Option St :=
  L_X6_layRow_10 N x1 N (0 : Int32) (0 : Int32) (0 : Int32) (0 : Int32) σ
def L_X6_lay_40 (N : Nat) : Nat → Int32 → St → Option St
  | 0, _, _ => none
  | n + 1, x3, σ =>
    if (σ 20 2) ≤ x3 then
      some σ
    else
      bp (D_X6_layRow N σ x3) (fun s3 => L_X6_lay_40 N n (x3 + (1 : Int32)) s3)
def L_X6_lay_17 (N : Nat) (x1 : Int32) (x2 : Int32) : Nat → Int32 → St → Option St
  | 0, _, _ => none
  | n + 1, x3, σ =>
    if x1 ≤ x3 then
      L_X6_lay_40 N N (0 : Int32) σ
    else
      L_X6_lay_17 N x1 x2 n (x3 + (1 : Int32)) (pt σ 20 2 ((σ 20 2) * x2))
def D_X6_lay (N : Nat) (σ : St) (x1 : Int32) (x2 : Int32) : Option St :=
  L_X6_lay_17 N x1 x2 N (0 : Int32) (pt (pt (pt σ 20 0 x1) 20 1 x2) 20 2 (1 : Int32))
def D_X3_judgesWritten (N : Nat) (σ : St) : Option Int32 :=
  bp (D_X3_kindsEnd N σ (σ 1 1)) (fun r1 => some (r1 - (3 : Int32)))
def D_X3_kindWritten (σ : St) (x1 : Int32) : Option Int32 :=
  gi ((3 : Int32) + x1) 12 (some (kix (((σ 2 (((3 : Int32) + x1).toNatClampNeg)).toUInt32 % 65536).toInt32)))
def L_X3_rowWritten_13 (N : Nat) (σ : St) : Nat → Int32 → Int32 → Option Int32
  | 0, _, _ => none
  | n + 1, x1, x2 =>
    if (σ 1 1) ≤ x2 then
      some x1
    else
      bp (D_X3_colours σ) (fun r3 => gi x2 12 (L_X3_rowWritten_13 N σ n (((x1 * r3) + (σ 2 x2.toNatClampNeg)) - (97 : Int32)) (x2 + (1 : Int32))))
def D_X3_rowWritten (N : Nat) (σ : St) : Option Int32 :=
  bp (D_X3_kindsEnd N σ (σ 1 1)) (fun r1 => L_X3_rowWritten_13 N σ N (0 : Int32) (r1 + (1 : Int32)))
def L_X11_game_47 (N : Nat) : Nat → Int32 → St → Option (Int32 × St)
  | 0, _, _ => none
  | n + 1, x1, σ =>
    if (σ 0 9) ≤ x1 then
      bp (D_X3_rowWritten N σ) (fun r8 => some (σ 20 2, pt (pt (pt (pt (pt σ 10 4 r8) 10 5 (0 : Int32)) 0 10 (0 : Int32)) 0 11 ((σ 0 11) + (1 : Int32))) 1 1 (0 : Int32)))
    else
      bp (D_X3_kindWritten σ x1) (fun r9 => gi x1 3 (L_X11_game_47 N n (x1 + (1 : Int32)) (pt σ 11 x1.toNatClampNeg r9)))
def D_X11_game (N : Nat) (σ : St) : Option (Int32 × St) :=
  bp (D_X3_isGame N σ) (fun r1 => if r1 = 0 then
      some ((-103 : Int32), σ)
    else
      bp (D_X3_pegs σ) (fun r3 => bp (D_X3_colours σ) (fun r4 => bp (D_X6_lay N σ r3 r4) (fun s5 => bp (D_X3_judgesWritten N s5) (fun r6 => L_X11_game_47 N N (0 : Int32) (pt s5 0 9 r6))))))
def D_X11_hide (σ : St) (x1 : Int32) : Option (Int32 × St) :=
  bp (D_X11_isRow σ x1) (fun r1 => if r1 = 0 then
      some ((-101 : Int32), σ)
    else
      some (σ 10 4, pt σ 10 4 x1))
def J_X11_howLong_116 (N : Nat) (x4 : Int32) (σ : St) : Option (Int32 × St) :=
  if (σ 24 2) = (1 : Int32) then
    some (x4, σ)
  else
    some ((-1 : Int32), σ)
def L_X11_howLong_57 (N : Nat) (x2 : Int32) (k3 : Nat) : Nat → Int32 → St → Option (Int32 × St)
  | 0, _, _ => none
  | n + 1, x4, σ =>
    if (8 : Int32) ≤ x4 then
      J_X11_howLong_116 N x4 σ
    else
      if (σ 24 2) ≤ (1 : Int32) then
        J_X11_howLong_116 N x4 σ
      else
        bs (D_X5_bestRow N σ k3) (fun r11 s11 => bp (D_wd s11 k3 (if r11 < (0 : Int32) then (0 : Int32) else r11) x2) (fun r13 => bp (D_X5_keep N s11 k3 (if r11 < (0 : Int32) then (0 : Int32) else r11) r13) (fun s14 => L_X11_howLong_57 N x2 k3 n (x4 + (1 : Int32)) s14)))
def D_X11_howLong (N : Nat) (σ : St) (x1 : Int32) (x2 : Int32) : Option (Int32 × St) :=
  bp (D_X11_isJudge σ x1) (fun r1 => if r1 = 0 then
      some ((-101 : Int32), σ)
    else
      bp (D_X11_isRow σ x2) (fun r3 => if r3 = 0 then
          some ((-101 : Int32), σ)
        else
          if (σ 0 13) < (6 : Int32) then
            bp (D_X11_judgeAt (pt σ 0 13 ((σ 0 13) + (1 : Int32))) x1) (fun r6 => bp (D_X5_fill N (pt σ 0 13 ((σ 0 13) + (1 : Int32)))) (fun s7 => L_X11_howLong_57 N x2 r6 N (0 : Int32) s7))
          else
            some ((-103 : Int32), σ)))
def D_X11_image (σ : St) : Option (Int32 × St) :=
  bp (D_X11_isGameOn σ) (fun r1 => if r1 = 0 then
      some ((-103 : Int32), σ)
    else
      bp (D_X0_take_k σ) (fun s3 => some (s3 15 5, pt s3 0 10 (1 : Int32))))
def D_X3_append (σ : St) (x1 : Int32) : Option St :=
  if (12 : Int32) ≤ (σ 1 1) then
    some σ
  else
    gi (σ 1 1) 12 (some (pt (pt σ 2 ((σ 1 1).toNatClampNeg) x1) 1 1 ((σ 1 1) + (1 : Int32))))
def D_X11_letter (σ : St) (x1 : Int32) : Option (Int32 × St) :=
  if x1 < (1 : Int32) then
    some ((-102 : Int32), σ)
  else
    if x1 ≤ (126 : Int32) then
      if (σ 1 1) < (12 : Int32) then
        bp (D_X3_append σ x1) (fun s4 => some (s4 1 1, s4))
      else
        some ((-104 : Int32), σ)
    else
      some ((-102 : Int32), σ)
def D_X11_note (N : Nat) (σ : St) (x1 : Int32) (x2 : Int32) (x3 : Int32) : Option (Int32 × St) :=
  bp (D_X11_isRow σ x1) (fun r1 => if r1 = 0 then
      some ((-101 : Int32), σ)
    else
      bp (D_X11_isJudge σ x2) (fun r3 => if r3 = 0 then
          some ((-101 : Int32), σ)
        else
          if x3 < 0 then
            some ((-102 : Int32), σ)
          else
            if x3 ≤ (40 : Int32) then
              if (σ 10 5) < (12 : Int32) then
                bp (D_X0_append σ x1 x2 x3) (fun s8 => bs (D_X11_gatherFitting N s8) (fun r9 s9 => some (r9, s9)))
              else
                some ((-104 : Int32), σ)
            else
              some ((-102 : Int32), σ)))
def J_X4_sortsOfRows_59 (N : Nat) (σ : St) (kc4 : Int32 → Int32 → Option Int32) (k1 : Nat) (x2 : Int32) (x3 : Int32) (x4 : Int32)  : Option Int32 :=
  if x4 = 0 then
    kc4 x2 (x3 + (1 : Int32))
  else
    kc4 (x2 + (1 : Int32)) (x3 + (1 : Int32))
def L_X4_sortsOfRows_21 (N : Nat) (σ : St) (kc4 : Int32 → Int32 → Option Int32) (k1 : Nat) (x2 : Int32) (x3 : Int32) : Nat → Int32 → Int32 → Option Int32
  | 0, _, _ => none
  | n + 1, x4, x5 =>
    if x3 ≤ x5 then
      J_X4_sortsOfRows_59 N σ kc4 k1 x2 x3 x4
    else
      if x4 = 0 then
        J_X4_sortsOfRows_59 N σ kc4 k1 x2 x3 x4
      else
        bp (D_X6_areTwins N σ k1 x5 x3) (fun r5 => if r5 = 0 then
            L_X4_sortsOfRows_21 N σ kc4 k1 x2 x3 n (1 : Int32) (x5 + (1 : Int32))
          else
            L_X4_sortsOfRows_21 N σ kc4 k1 x2 x3 n (0 : Int32) (x5 + (1 : Int32)))
def L_X4_sortsOfRows_4 (N : Nat) (σ : St) (k1 : Nat) : Nat → Int32 → Int32 → Option Int32
  | 0, _, _ => none
  | n + 1, x2, x3 =>
    if (σ 20 2) ≤ x3 then
      some x2
    else
      L_X4_sortsOfRows_21 N σ (L_X4_sortsOfRows_4 N σ k1 n) k1 x2 x3 N (1 : Int32) (0 : Int32)
def D_X4_sortsOfRows (N : Nat) (σ : St) (k1 : Nat) : Option Int32 :=
  L_X4_sortsOfRows_4 N σ k1 N (0 : Int32) (0 : Int32)
def L_X4_partsBy_16 (N : Nat) (k1 : Nat) (x2 : Int32) (x3 : Int32) : Nat → Int32 → Int32 → St → Option (Int32 × St)
  | 0, _, _, _ => none
  | n + 1, x4, x5, σ =>
    if (σ 20 2) ≤ x5 then
      some (x4, σ)
    else
      bp (D_wd σ k1 x2 x5) (fun r2 => bp (D_wd σ k1 x3 x5) (fun r3 => if ((r2 * (31 : Int32)) + r3) < 0 then
            L_X4_partsBy_16 N k1 x2 x3 n x4 (x5 + (1 : Int32)) σ
          else
            if (961 : Int32) ≤ ((r2 * (31 : Int32)) + r3) then
              L_X4_partsBy_16 N k1 x2 x3 n x4 (x5 + (1 : Int32)) σ
            else
              gi ((r2 * (31 : Int32)) + r3) 961 (if (σ 29 (((r2 * (31 : Int32)) + r3).toNatClampNeg)) = (σ 28 2) then
                  L_X4_partsBy_16 N k1 x2 x3 n x4 (x5 + (1 : Int32)) σ
                else
                  gi ((r2 * (31 : Int32)) + r3) 961 (L_X4_partsBy_16 N k1 x2 x3 n (x4 + (1 : Int32)) (x5 + (1 : Int32)) (pt σ 29 (((r2 * (31 : Int32)) + r3).toNatClampNeg) (σ 28 2))))))
def D_X4_partsBy (N : Nat) (σ : St) (k1 : Nat) (x2 : Int32) (x3 : Int32) : Option (Int32 × St) :=
  L_X4_partsBy_16 N k1 x2 x3 N (0 : Int32) (0 : Int32) (pt σ 28 2 ((σ 28 2) + (1 : Int32)))
def D_X4_answer (σ : St) (x1 : Int32) (x2 : Int32) (x3 : Int32) : Option St :=
  some (pt (pt (pt σ 28 3 x1) 28 4 x2) 28 5 x3)
def L_X4_find_62 (N : Nat) (kc46 : Int32 → St → Option St) (k1 : Nat) (x2 : Int32) (x3 : Int32) : Nat → Int32 → St → Option St
  | 0, _, _ => none
  | n + 1, x4, σ =>
    if (σ 20 2) ≤ x4 then
      kc46 (x3 + (1 : Int32)) σ
    else
      bs (D_X4_partsBy N σ k1 x3 x4) (fun r6 s6 => if r6 = x2 then
          bp (D_X4_answer s6 (2 : Int32) x3 x4) (fun s8 => some s8)
        else
          L_X4_find_62 N kc46 k1 x2 x3 n (x4 + (1 : Int32)) s6)
def L_X4_find_46 (N : Nat) (k1 : Nat) (x2 : Int32) : Nat → Int32 → St → Option St
  | 0, _, _ => none
  | n + 1, x3, σ =>
    if (σ 20 2) ≤ x3 then
      bp (D_X4_answer σ (-1 : Int32) (-1 : Int32) (-1 : Int32)) (fun s4 => some s4)
    else
      L_X4_find_62 N (L_X4_find_46 N k1 x2 n) k1 x2 x3 N (x3 + (1 : Int32)) σ
def L_X4_find_8 (N : Nat) (k1 : Nat) (x2 : Int32) : Nat → Int32 → St → Option St
  | 0, _, _ => none
  | n + 1, x3, σ =>
    if (σ 20 2) ≤ x3 then
      L_X4_find_46 N k1 x2 N (0 : Int32) σ
    else
      bs (D_X4_partsBy N σ k1 x3 x3) (fun r9 s9 => if r9 = x2 then
          bp (D_X4_answer s9 (1 : Int32) x3 (-1 : Int32)) (fun s11 => some s11)
        else
          L_X4_find_8 N k1 x2 n (x3 + (1 : Int32)) s9)
def D_X4_find (N : Nat) (σ : St) (k1 : Nat) : Option St :=
  bp (D_X4_sortsOfRows N σ k1) (fun r1 => L_X4_find_8 N k1 r1 N (0 : Int32) σ)
def D_X11_parts (N : Nat) (σ : St) (x1 : Int32) (x2 : Int32) : Option (Int32 × St) :=
  bp (D_X11_isJudge σ x1) (fun r1 => if r1 = 0 then
      some ((-101 : Int32), σ)
    else
      if x2 < 0 then
        some ((-102 : Int32), σ)
      else
        if x2 ≤ (2 : Int32) then
          if (64 : Int32) < (σ 20 2) then
            some ((-103 : Int32), σ)
          else
            if (σ 0 14) < (9 : Int32) then
              bp (D_X11_judgeAt (pt σ 0 14 ((σ 0 14) + (1 : Int32))) x1) (fun r7 => bp (D_X4_find N (pt σ 0 14 ((σ 0 14) + (1 : Int32))) r7) (fun s8 => if x2 = 0 then
                    some (s8 28 3, s8)
                  else
                    if x2 = (1 : Int32) then
                      some (s8 28 4, s8)
                    else
                      some (s8 28 5, s8)))
            else
              some ((-103 : Int32), σ)
        else
          some ((-102 : Int32), σ))
def D_X11_restore (σ : St) : Option (Int32 × St) :=
  if (σ 0 10) = 0 then
    some ((-103 : Int32), σ)
  else
    bp (D_X0_take_n σ) (fun s2 => some (s2 10 5, s2))
def D_X11_row (N : Nat) (σ : St) (x1 : Int32) (x2 : Int32) : Option Int32 :=
  bp (D_X11_isRow σ x1) (fun r1 => if r1 = 0 then
      some (-101 : Int32)
    else
      if x2 < 0 then
        some (-102 : Int32)
      else
        if x2 ≤ (4 : Int32) then
          if x2 = 0 then
            bp (D_X11_fitting N σ x1) (fun r10 => if r10 = 0 then
                some (0 : Int32)
              else
                some (1 : Int32))
          else
            if x2 ≤ (3 : Int32) then
              if (σ 20 0) < x2 then
                some (-1 : Int32)
              else
                bp (D_X6_colour N σ x1 (x2 - (1 : Int32))) (fun r8 => some r8)
            else
              if x1 = (σ 10 4) then
                some (1 : Int32)
              else
                some (0 : Int32)
        else
          some (-102 : Int32))
def D_X11_show (σ : St) (x1 : Int32) (x2 : Int32) : Option (Int32 × St) :=
  bp (D_X11_isRow σ x1) (fun r1 => if r1 = 0 then
      some ((-101 : Int32), σ)
    else
      bp (D_X11_isJudge σ x2) (fun r3 => if r3 = 0 then
          some ((-101 : Int32), σ)
        else
          if (σ 10 5) < (12 : Int32) then
            bp (D_X11_judgeAt σ x2) (fun r6 => bp (D_wd σ r6 x1 (σ 10 4)) (fun r7 => bp (D_X0_append σ x1 x2 r7) (fun s8 => some (r7, s8))))
          else
            some ((-104 : Int32), σ)))
def D_X11_strike (σ : St) : Option (Int32 × St) :=
  if (σ 10 5) = 0 then
    some ((-103 : Int32), σ)
  else
    some ((σ 10 5) - (1 : Int32), pt σ 10 5 ((σ 10 5) - (1 : Int32)))
def D_X11_swap (σ : St) (x1 : Int32) (x2 : Int32) : Option (Int32 × St) :=
  bp (D_X11_isJudge σ x1) (fun r1 => if r1 = 0 then
      some ((-101 : Int32), σ)
    else
      bp (D_X11_isKind x2) (fun r3 => if r3 = 0 then
          some ((-102 : Int32), σ)
        else
          gi x1 3 (gi x1 3 (some (σ 11 x1.toNatClampNeg, pt σ 11 x1.toNatClampNeg x2)))))
def D_X11_tells (σ : St) (x1 : Int32) (x2 : Int32) (x3 : Int32) : Option Int32 :=
  bp (D_X11_isJudge σ x1) (fun r1 => if r1 = 0 then
      some (-101 : Int32)
    else
      bp (D_X11_isRow σ x2) (fun r3 => if r3 = 0 then
          some (-101 : Int32)
        else
          bp (D_X11_isRow σ x3) (fun r5 => if r5 = 0 then
              some (-101 : Int32)
            else
              bp (D_X11_judgeAt σ x1) (fun r7 => bp (D_wd σ r7 x2 x3) (fun r8 => some r8)))))
def D_X9_draw (σ : St) (x1 : Int32) : Option (Int32 × St) :=
  if x1 ≤ 0 then
    some ((0 : Int32), pt σ 30 4 (((((1103515245 : Int64) * ((σ 30 4).toInt64)) + (12345 : Int64)) &&& (2147483647 : Int64)).toInt32))
  else
    gz x1 (some (((((((1103515245 : Int64) * ((σ 30 4).toInt64)) + (12345 : Int64)) &&& (2147483647 : Int64)).toInt32) / (65536 : Int32)) - ((((((1103515245 : Int64) * ((σ 30 4).toInt64)) + (12345 : Int64)) &&& (2147483647 : Int64)).toInt32) / (65536 : Int32)) / x1 * x1, pt σ 30 4 (((((1103515245 : Int64) * ((σ 30 4).toInt64)) + (12345 : Int64)) &&& (2147483647 : Int64)).toInt32)))
def L_X5_drop_4 (N : Nat) (x1 : Int32) : Nat → Int32 → Int32 → St → Option St
  | 0, _, _, _ => none
  | n + 1, x2, x3, σ =>
    if (σ 24 2) ≤ x3 then
      gi x1 216 (some (pt (pt σ 24 2 x2) 26 x1.toNatClampNeg (0 : Int32)))
    else
      gi x3 216 (if (σ 25 x3.toNatClampNeg) = x1 then
          L_X5_drop_4 N x1 n x2 (x3 + (1 : Int32)) σ
        else
          gi x3 216 (gi x2 216 (L_X5_drop_4 N x1 n (x2 + (1 : Int32)) (x3 + (1 : Int32)) (pt σ 25 x2.toNatClampNeg (σ 25 x3.toNatClampNeg)))))
def D_X5_drop (N : Nat) (σ : St) (x1 : Int32) : Option St :=
  L_X5_drop_4 N x1 N (0 : Int32) (0 : Int32) σ
def L_X9_playOne_21 (N : Nat) (k1 : Nat) (x2 : Int32) : Nat → Int32 → St → Option (Int32 × St)
  | 0, _, _ => none
  | n + 1, x3, σ =>
    if (σ 20 2) < x3 then
      some (σ 20 2, σ)
    else
      bs (D_X9_draw σ (σ 24 2)) (fun r4 s4 => gi r4 216 (if (s4 25 r4.toNatClampNeg) = x2 then
            some (x3, s4)
          else
            bp (D_wd s4 k1 (s4 25 r4.toNatClampNeg) x2) (fun r7 => bp (D_X5_keep N s4 k1 (s4 25 r4.toNatClampNeg) r7) (fun s8 => bp (D_X5_drop N s8 (s4 25 r4.toNatClampNeg)) (fun s9 => L_X9_playOne_21 N k1 x2 n (x3 + (1 : Int32)) s9)))))
def D_X9_playOne (N : Nat) (σ : St) (k1 : Nat) : Option (Int32 × St) :=
  bs (D_X9_draw σ (σ 20 2)) (fun r1 s1 => bp (D_X5_fill N s1) (fun s2 => L_X9_playOne_21 N k1 r1 N (1 : Int32) s2))
def L_X9_play_18 (N : Nat) (k1 : Nat) (x2 : Int32) : Nat → Int32 → St → Option St
  | 0, _, _ => none
  | n + 1, x4, σ =>
    if x2 ≤ x4 then
      some σ
    else
      bs (D_X9_playOne N σ k1) (fun r2 s2 => if (3 : Int32) < r2 then
          L_X9_play_18 N k1 x2 n (x4 + (1 : Int32)) (pt s2 30 2 ((s2 30 2) + r2))
        else
          L_X9_play_18 N k1 x2 n (x4 + (1 : Int32)) (pt (pt s2 30 2 ((s2 30 2) + r2)) 30 3 ((s2 30 3) + (1 : Int32))))
def D_X9_play (N : Nat) (σ : St) (k1 : Nat) (x2 : Int32) (x3 : Int32) : Option St :=
  L_X9_play_18 N k1 x2 N (0 : Int32) (pt (pt (pt σ 30 4 x3) 30 2 (0 : Int32)) 30 3 (0 : Int32))
def D_X11_tries (N : Nat) (σ : St) (x1 : Int32) (x2 : Int32) (x3 : Int32) (x4 : Int32) : Option (Int32 × St) :=
  bp (D_X11_isJudge σ x1) (fun r1 => if r1 = 0 then
      some ((-101 : Int32), σ)
    else
      if x2 < (1 : Int32) then
        some ((-102 : Int32), σ)
      else
        if (20 : Int32) < x2 then
          some ((-102 : Int32), σ)
        else
          if x3 < 0 then
            some ((-102 : Int32), σ)
          else
            if x4 < 0 then
              some ((-102 : Int32), σ)
            else
              if x4 ≤ (2 : Int32) then
                bp (D_X11_judgeAt σ x1) (fun r8 => bp (D_X9_play N σ r8 x2 x3) (fun s9 => if x4 = 0 then
                      some (s9 30 2, s9)
                    else
                      if x4 = (1 : Int32) then
                        some (s9 30 3, s9)
                      else
                        some (s9 30 4, s9)))
              else
                some ((-102 : Int32), σ))
def L_X12_peg_7 (N : Nat) (σ : St) : Nat → Int32 → Int32 → Option Int32
  | 0, _, _ => none
  | n + 1, x3, x4 =>
    if (σ 31 3) ≤ x4 then
      gz (σ 31 4) (some (x3 - x3 / (σ 31 4) * (σ 31 4)))
    else
      gz (σ 31 4) (L_X12_peg_7 N σ n (x3 / (σ 31 4)) (x4 + (1 : Int32)))
def D_X12_peg (N : Nat) (σ : St) (x1 : Int32) (x2 : Int32) : Option Int32 :=
  L_X12_peg_7 N σ N x1 (x2 + (1 : Int32))
def J_X12_alike_51 (N : Nat) (σ : St) (kc5 : Int32 → Int32 → Option Int32) (kc23 : Int32 → Int32 → Int32 → Option Int32) (x1 : Int32) (x2 : Int32) (x3 : Int32) (x4 : Int32) (x6 : Int32) (x7 : Int32) (t0 : Int32) (t1 : Int32)  : Option Int32 :=
  bp (D_X12_peg N σ x2 x7) (fun r6 => if r6 = x4 then
      kc23 (t0 + t1) (x6 + (1 : Int32)) (x7 + (1 : Int32))
    else
      kc23 (t0 + t1) (x6 + (0 : Int32)) (x7 + (1 : Int32)))
def L_X12_alike_23 (N : Nat) (σ : St) (kc5 : Int32 → Int32 → Option Int32) (x1 : Int32) (x2 : Int32) (x3 : Int32) (x4 : Int32) : Nat → Int32 → Int32 → Int32 → Option Int32
  | 0, _, _, _ => none
  | n + 1, x5, x6, x7 =>
    if (σ 31 3) ≤ x7 then
      if x6 ≤ x5 then
        kc5 (x3 + x6) (x4 + (1 : Int32))
      else
        kc5 (x3 + x5) (x4 + (1 : Int32))
    else
      bp (D_X12_peg N σ x1 x7) (fun r4 => if r4 = x4 then
          J_X12_alike_51 N σ kc5 (L_X12_alike_23 N σ kc5 x1 x2 x3 x4 n) x1 x2 x3 x4 x6 x7 x5 (1 : Int32)
        else
          J_X12_alike_51 N σ kc5 (L_X12_alike_23 N σ kc5 x1 x2 x3 x4 n) x1 x2 x3 x4 x6 x7 x5 (0 : Int32))
def L_X12_alike_5 (N : Nat) (σ : St) (x1 : Int32) (x2 : Int32) : Nat → Int32 → Int32 → Option Int32
  | 0, _, _ => none
  | n + 1, x3, x4 =>
    if (σ 31 4) ≤ x4 then
      some x3
    else
      L_X12_alike_23 N σ (L_X12_alike_5 N σ x1 x2 n) x1 x2 x3 x4 N (0 : Int32) (0 : Int32) (0 : Int32)
def D_X12_alike (N : Nat) (σ : St) (x1 : Int32) (x2 : Int32) : Option Int32 :=
  L_X12_alike_5 N σ x1 x2 N (0 : Int32) (0 : Int32)
def L_X12_apartMany_4 (N : Nat) (σ : St) : Nat → Int32 → Int32 → Option Int32
  | 0, _, _ => none
  | n + 1, x1, x2 =>
    if (4096 : Int32) ≤ x2 then
      some x1
    else
      gi x2 4096 (L_X12_apartMany_4 N σ n (x1 + (σ 38 x2.toNatClampNeg)) (x2 + (1 : Int32)))
def D_X12_apartMany (N : Nat) (σ : St) : Option Int32 :=
  L_X12_apartMany_4 N σ N (0 : Int32) (0 : Int32)
def D_X12_in (y0 : Int64) (y2 : Int64) (y4 : Int64) : Option Int32 :=
  if (lg_cmp y0 y2) < 0 then
    some (0 : Int32)
  else
    if 0 < (lg_cmp y0 y4) then
      some (0 : Int32)
    else
      some (1 : Int32)
def D_X12_isJudge (σ : St) (x1 : Int32) : Option Int32 :=
  bp (D_X12_in x1.toInt64 (0 : Int64) (((σ 31 6) - (1 : Int32)).toInt64)) (fun r1 => gb r1 (some r1))
def J_X12_as_60 (σ : St) (x1 : Int32) (t0 : Int32)  : Option Int32 :=
  if t0 = 0 then
    some (-1 : Int32)
  else
    some x1
def J_X12_as_55 (σ : St) (x1 : Int32)  : Option Int32 :=
  J_X12_as_60 σ x1 (1 : Int32)
def J_X12_as_59 (σ : St) (x1 : Int32)  : Option Int32 :=
  J_X12_as_60 σ x1 (0 : Int32)
def D_X12_as (σ : St) (x1 : Int32) (x2 : Int32) : Option Int32 :=
  bp (D_X12_isJudge σ x1) (fun r1 => if r1 = 0 then
      some (-101 : Int32)
    else
      bp (D_X12_in x2.toInt64 (0 : Int64) (4 : Int64)) (fun r3 => if r3 = 0 then
          some (-102 : Int32)
        else
          if x2 = 0 then
            J_X12_as_55 σ x1
          else
            gi x1 3 (if x2 = (σ 33 x1.toNatClampNeg) then
                J_X12_as_55 σ x1
              else
                if x2 = (1 : Int32) then
                  gi x1 3 (if (σ 33 x1.toNatClampNeg) = (4 : Int32) then
                      J_X12_as_55 σ x1
                    else
                      J_X12_as_59 σ x1)
                else
                  J_X12_as_59 σ x1)))
def J_X12_right_37 (N : Nat) (σ : St) (kc6 : Int32 → Int32 → Option Int32) (x1 : Int32) (x2 : Int32) (x3 : Int32) (x5 : Int32) (t0 : Int32) (t2 : Int32) (t3 : Int32)  : Option Int32 :=
  bp (D_X12_peg N σ t2 t3) (fun r3 => bp (D_X12_peg N σ x2 x5) (fun r4 => if r3 = r4 then
        kc6 (t0 + (1 : Int32)) (x5 + (1 : Int32))
      else
        kc6 (t0 + (0 : Int32)) (x5 + (1 : Int32))))
def L_X12_right_6 (N : Nat) (σ : St) (x1 : Int32) (x2 : Int32) (x3 : Int32) : Nat → Int32 → Int32 → Option Int32
  | 0, _, _ => none
  | n + 1, x4, x5 =>
    if (σ 31 3) ≤ x5 then
      some x4
    else
      if x3 = 0 then
        J_X12_right_37 N σ (L_X12_right_6 N σ x1 x2 x3 n) x1 x2 x3 x5 x4 x1 x5
      else
        J_X12_right_37 N σ (L_X12_right_6 N σ x1 x2 x3 n) x1 x2 x3 x5 x4 x1 (((σ 31 3) - (1 : Int32)) - x5)
def D_X12_right (N : Nat) (σ : St) (x1 : Int32) (x2 : Int32) (x3 : Int32) : Option Int32 :=
  L_X12_right_6 N σ x1 x2 x3 N (0 : Int32) (0 : Int32)
def J_X12_tellsBy_67 (N : Nat) (σ : St) (x2 : Int32) (x3 : Int32) (x4 : Int32)  : Option Int32 :=
  bp (D_X12_alike N σ x2 x3) (fun r7 => some (((9 : Int32) * x4) + r7))
def J_X12_tellsBy_13 (N : Nat) (σ : St) (x1 : Int32) (x2 : Int32) (x3 : Int32) (t1 : Int32) (t2 : Int32) (t3 : Int32)  : Option Int32 :=
  bp (D_X12_right N σ t1 t2 t3) (fun r2 => if x1 = (1 : Int32) then
      bp (D_X12_alike N σ x2 x3) (fun r4 => some r4)
    else if x1 = (2 : Int32) then
      some r2
    else if x1 = (3 : Int32) then
      J_X12_tellsBy_67 N σ x2 x3 r2
    else if x1 = (4 : Int32) then
      bp (D_X12_alike N σ x2 x3) (fun r9 => some (r9 - r9 / (2 : Int32) * (2 : Int32)))
    else 
      J_X12_tellsBy_67 N σ x2 x3 r2)
def D_X12_tellsBy (N : Nat) (σ : St) (x1 : Int32) (x2 : Int32) (x3 : Int32) : Option Int32 :=
  if x1 = (3 : Int32) then
    J_X12_tellsBy_13 N σ x1 x2 x3 x2 x3 (1 : Int32)
  else
    J_X12_tellsBy_13 N σ x1 x2 x3 x2 x3 (0 : Int32)
def L_X12_isFit_4 (N : Nat) (σ : St) (x1 : Int32) : Nat → Int32 → Int32 → Option Int32
  | 0, _, _ => none
  | n + 1, x2, x3 =>
    if ((3 : Int32) * (σ 31 8)) ≤ x3 then
      gb x2 (some x2)
    else
      if x2 = 0 then
        L_X12_isFit_4 N σ x1 n (0 : Int32) (x3 + (3 : Int32))
      else
        gi (x3 + (1 : Int32)) 36 (gi (σ 34 ((x3 + (1 : Int32)).toNatClampNeg)) 3 (gi x3 36 (bp (D_X12_tellsBy N σ (σ 33 ((σ 34 ((x3 + (1 : Int32)).toNatClampNeg)).toNatClampNeg)) (σ 34 x3.toNatClampNeg) x1) (fun r7 => gi (x3 + (2 : Int32)) 36 (if r7 = (σ 34 ((x3 + (2 : Int32)).toNatClampNeg)) then
                    L_X12_isFit_4 N σ x1 n (1 : Int32) (x3 + (3 : Int32))
                  else
                    L_X12_isFit_4 N σ x1 n (0 : Int32) (x3 + (3 : Int32)))))))
def D_X12_isFit (N : Nat) (σ : St) (x1 : Int32) : Option Int32 :=
  L_X12_isFit_4 N σ x1 N (1 : Int32) (0 : Int32)
def L_X12_layFit_2 (N : Nat) : Nat → Int32 → St → Option St
  | 0, _, _ => none
  | n + 1, x1, σ =>
    if (σ 31 5) ≤ x1 then
      some σ
    else
      bp (D_X12_isFit N σ x1) (fun r2 => if r2 = 0 then
          gi x1 216 (L_X12_layFit_2 N n (x1 + (1 : Int32)) (pt σ 35 x1.toNatClampNeg (0 : Int32)))
        else
          gi x1 216 (L_X12_layFit_2 N n (x1 + (1 : Int32)) (pt σ 35 x1.toNatClampNeg (1 : Int32))))
def D_X12_layFit (N : Nat) (σ : St) : Option St :=
  L_X12_layFit_2 N N (0 : Int32) σ
def L_X12_fitMany_4 (N : Nat) (σ : St) : Nat → Int32 → Int32 → Option Int32
  | 0, _, _ => none
  | n + 1, x1, x2 =>
    if (σ 31 5) ≤ x2 then
      some x1
    else
      gi x2 216 (L_X12_fitMany_4 N σ n (x1 + (σ 35 x2.toNatClampNeg)) (x2 + (1 : Int32)))
def D_X12_fitMany (N : Nat) (σ : St) : Option Int32 :=
  L_X12_fitMany_4 N σ N (0 : Int32) (0 : Int32)
def L_X12_laySizes_23 (N : Nat) (x1 : Int32) (x2 : Int32) : Nat → Int32 → St → Option St
  | 0, _, _ => none
  | n + 1, x3, σ =>
    if (σ 31 5) ≤ x3 then
      some σ
    else
      gi x3 216 (if (σ 35 x3.toNatClampNeg) = (1 : Int32) then
          bp (D_X12_tellsBy N σ x1 x2 x3) (fun r5 => gi r5 41 (gi r5 41 (L_X12_laySizes_23 N x1 x2 n (x3 + (1 : Int32)) (pt σ 36 r5.toNatClampNeg ((σ 36 r5.toNatClampNeg) + (1 : Int32))))))
        else
          L_X12_laySizes_23 N x1 x2 n (x3 + (1 : Int32)) σ)
def L_X12_laySizes_2 (N : Nat) (x1 : Int32) (x2 : Int32) : Nat → Int32 → St → Option St
  | 0, _, _ => none
  | n + 1, x3, σ =>
    if (41 : Int32) ≤ x3 then
      L_X12_laySizes_23 N x1 x2 N (0 : Int32) σ
    else
      gi x3 41 (L_X12_laySizes_2 N x1 x2 n (x3 + (1 : Int32)) (pt σ 36 x3.toNatClampNeg (0 : Int32)))
def D_X12_laySizes (N : Nat) (σ : St) (x1 : Int32) (x2 : Int32) : Option St :=
  L_X12_laySizes_2 N x1 x2 N (0 : Int32) σ
def L_X12_greatest_4 (N : Nat) (σ : St) : Nat → Int32 → Int32 → Option Int32
  | 0, _, _ => none
  | n + 1, x1, x2 =>
    if (41 : Int32) ≤ x2 then
      some x1
    else
      gi x2 41 (if (σ 36 x2.toNatClampNeg) ≤ x1 then
          L_X12_greatest_4 N σ n x1 (x2 + (1 : Int32))
        else
          gi x2 41 (L_X12_greatest_4 N σ n (σ 36 x2.toNatClampNeg) (x2 + (1 : Int32))))
def D_X12_greatest (N : Nat) (σ : St) : Option Int32 :=
  L_X12_greatest_4 N σ N (0 : Int32) (0 : Int32)
def J_X12_bestBy_82 (N : Nat) (x2 : Int32) (x3 : Int32) (σ : St) : Option (Int32 × St) :=
  if x2 = (-1 : Int32) then
    some (x2, pt σ 31 14 (0 : Int32))
  else
    some (x2, pt σ 31 14 (x3 / (2 : Int32)))
def J_X12_bestBy_62 (N : Nat) (kc9 : Int32 → Int32 → Int32 → St → Option (Int32 × St)) (x1 : Int32) (x3 : Int32) (x4 : Int32) (x5 : Int32) (t0 : Int32) (σ : St) : Option (Int32 × St) :=
  if x3 ≤ x5 then
    kc9 t0 x3 (x4 + (1 : Int32)) σ
  else
    kc9 t0 x5 (x4 + (1 : Int32)) σ
def L_X12_bestBy_9 (N : Nat) (x1 : Int32) : Nat → Int32 → Int32 → Int32 → St → Option (Int32 × St)
  | 0, _, _, _, _ => none
  | n + 1, x2, x3, x4, σ =>
    if (σ 31 5) ≤ x4 then
      J_X12_bestBy_82 N x2 x3 σ
    else
      bp (D_X12_fitMany N σ) (fun r4 => if r4 ≤ 0 then
          J_X12_bestBy_82 N x2 x3 σ
        else
          bp (D_X12_laySizes N σ x1 x4) (fun s6 => bp (D_X12_greatest N s6) (fun r7 => gi x4 216 (if x3 ≤ ((((2 : Int32) * r7) + (1 : Int32)) - (s6 35 x4.toNatClampNeg)) then
                  J_X12_bestBy_62 N (L_X12_bestBy_9 N x1 n) x1 x3 x4 ((((2 : Int32) * r7) + (1 : Int32)) - (s6 35 x4.toNatClampNeg)) x2 s6
                else
                  J_X12_bestBy_62 N (L_X12_bestBy_9 N x1 n) x1 x3 x4 ((((2 : Int32) * r7) + (1 : Int32)) - (s6 35 x4.toNatClampNeg)) x4 s6))))
def D_X12_bestBy (N : Nat) (σ : St) (x1 : Int32) : Option (Int32 × St) :=
  L_X12_bestBy_9 N x1 N (-1 : Int32) (1000 : Int32) (0 : Int32) σ
def D_X12_best (N : Nat) (σ : St) (x1 : Int32) (x2 : Int32) : Option (Int32 × St) :=
  bp (D_X12_isJudge σ x1) (fun r1 => if r1 = 0 then
      some ((-101 : Int32), σ)
    else
      bp (D_X12_in x2.toInt64 (0 : Int64) (1 : Int64)) (fun r3 => if r3 = 0 then
          some ((-102 : Int32), σ)
        else
          if (σ 31 15) = (24 : Int32) then
            some ((-103 : Int32), σ)
          else
            bp (D_X12_layFit N (pt σ 31 15 ((σ 31 15) + (1 : Int32)))) (fun s6 => gi x1 3 (bs (D_X12_bestBy N s6 (s6 33 x1.toNatClampNeg)) (fun r8 s8 => if x2 = 0 then
                    some (r8, s8)
                  else
                    some (s8 31 14, s8))))))
def D_X12_blank (σ : St) : Option (Int32 × St) :=
  some (σ 31 1, pt σ 31 1 (0 : Int32))
def L_X12_copy_k1_2 (N : Nat) : Nat → Int32 → St → Option St
  | 0, _, _ => none
  | n + 1, x2, σ =>
    if (3 : Int32) ≤ x2 then
      some σ
    else
      gi x2 3 (gi x2 3 (L_X12_copy_k1_2 N n (x2 + (1 : Int32)) (pt σ 39 x2.toNatClampNeg (σ 33 x2.toNatClampNeg))))
def D_X12_copy_k1 (N : Nat) (σ : St) : Option St :=
  L_X12_copy_k1_2 N N (0 : Int32) σ
def L_X12_copy_k2_2 (N : Nat) : Nat → Int32 → St → Option St
  | 0, _, _ => none
  | n + 1, x2, σ =>
    if (3 : Int32) ≤ x2 then
      some σ
    else
      gi x2 3 (gi x2 3 (L_X12_copy_k2_2 N n (x2 + (1 : Int32)) (pt σ 33 x2.toNatClampNeg (σ 39 x2.toNatClampNeg))))
def D_X12_copy_k2 (N : Nat) (σ : St) : Option St :=
  L_X12_copy_k2_2 N N (0 : Int32) σ
def L_X12_copy_s1_2 (N : Nat) : Nat → Int32 → St → Option St
  | 0, _, _ => none
  | n + 1, x2, σ =>
    if (36 : Int32) ≤ x2 then
      some σ
    else
      gi x2 36 (gi x2 36 (L_X12_copy_s1_2 N n (x2 + (1 : Int32)) (pt σ 40 x2.toNatClampNeg (σ 34 x2.toNatClampNeg))))
def D_X12_copy_s1 (N : Nat) (σ : St) : Option St :=
  L_X12_copy_s1_2 N N (0 : Int32) σ
def L_X12_copy_s2_2 (N : Nat) : Nat → Int32 → St → Option St
  | 0, _, _ => none
  | n + 1, x2, σ =>
    if (36 : Int32) ≤ x2 then
      some σ
    else
      gi x2 36 (gi x2 36 (L_X12_copy_s2_2 N n (x2 + (1 : Int32)) (pt σ 34 x2.toNatClampNeg (σ 40 x2.toNatClampNeg))))
def D_X12_copy_s2 (N : Nat) (σ : St) : Option St :=
  L_X12_copy_s2_2 N N (0 : Int32) σ
def D_X12_countOf (σ : St) (x1 : Int32) : Option Int32 :=
  if x1 = (0 : Int32) then
    some (σ 31 3)
  else if x1 = (1 : Int32) then
    some (σ 31 4)
  else if x1 = (2 : Int32) then
    some (σ 31 5)
  else if x1 = (3 : Int32) then
    some (σ 31 6)
  else if x1 = (4 : Int32) then
    some (σ 31 8)
  else if x1 = (5 : Int32) then
    some (σ 31 7)
  else if x1 = (6 : Int32) then
    some (σ 31 1)
  else if x1 = (7 : Int32) then
    some (σ 31 9)
  else if x1 = (8 : Int32) then
    some (σ 31 15)
  else if x1 = (9 : Int32) then
    some (σ 31 16)
  else if x1 = (10 : Int32) then
    some (σ 31 17)
  else 
    some (-102 : Int32)
def D_X12_count (σ : St) (x1 : Int32) : Option Int32 :=
  bp (D_X12_countOf σ x1) (fun r1 => some r1)
def L_X12_isTwin_3 (N : Nat) (σ : St) (x1 : Int32) (x2 : Int32) (x3 : Int32) : Nat → Int32 → Option Int32
  | 0, _ => none
  | n + 1, x4 =>
    if (σ 31 5) ≤ x4 then
      some (1 : Int32)
    else
      bp (D_X12_tellsBy N σ x1 x4 x2) (fun r2 => bp (D_X12_tellsBy N σ x1 x4 x3) (fun r3 => if r2 = r3 then
            L_X12_isTwin_3 N σ x1 x2 x3 n (x4 + (1 : Int32))
          else
            some (0 : Int32)))
def D_X12_isTwin (N : Nat) (σ : St) (x1 : Int32) (x2 : Int32) (x3 : Int32) : Option Int32 :=
  L_X12_isTwin_3 N σ x1 x2 x3 N (0 : Int32)
def L_X12_twinsOf_14 (N : Nat) (σ : St) (kc2 : Int32 → Option Int32) (x1 : Int32) (x2 : Int32) : Nat → Int32 → Option Int32
  | 0, _ => none
  | n + 1, x3 =>
    if (σ 31 5) ≤ x3 then
      kc2 (x2 + (1 : Int32))
    else
      gi x1 3 (bp (D_X12_isTwin N σ (σ 33 x1.toNatClampNeg) x2 x3) (fun r4 => if r4 = 0 then
            L_X12_twinsOf_14 N σ kc2 x1 x2 n (x3 + (1 : Int32))
          else
            some (((1000 : Int32) * x2) + x3)))
def L_X12_twinsOf_2 (N : Nat) (σ : St) (x1 : Int32) : Nat → Int32 → Option Int32
  | 0, _ => none
  | n + 1, x2 =>
    if (σ 31 5) ≤ x2 then
      some (-1 : Int32)
    else
      L_X12_twinsOf_14 N σ (L_X12_twinsOf_2 N σ x1 n) x1 x2 N (x2 + (1 : Int32))
def D_X12_twinsOf (N : Nat) (σ : St) (x1 : Int32) : Option Int32 :=
  L_X12_twinsOf_2 N σ x1 N (0 : Int32)
def L_X12_sortsOf_15 (N : Nat) (σ : St) (kc4 : Int32 → Int32 → Option Int32) (x1 : Int32) (x2 : Int32) (x3 : Int32) : Nat → Int32 → Int32 → Option Int32
  | 0, _, _ => none
  | n + 1, x4, x5 =>
    if ((3 : Int32) * (σ 31 8)) ≤ x5 then
      if x4 = 0 then
        kc4 (x2 ||| (0 : Int32)) (x3 + (1 : Int32))
      else
        kc4 (x2 ||| ((1 : Int32) <<< (x3 &&& 31))) (x3 + (1 : Int32))
    else
      if x4 = 0 then
        L_X12_sortsOf_15 N σ kc4 x1 x2 x3 n (0 : Int32) (x5 + (3 : Int32))
      else
        gi (x5 + (1 : Int32)) 36 (if (σ 34 ((x5 + (1 : Int32)).toNatClampNeg)) = x1 then
            gi x5 36 (bp (D_X12_tellsBy N σ x3 (σ 34 x5.toNatClampNeg) (σ 31 7)) (fun r8 => gi (x5 + (2 : Int32)) 36 (if r8 = (σ 34 ((x5 + (2 : Int32)).toNatClampNeg)) then
                    L_X12_sortsOf_15 N σ kc4 x1 x2 x3 n (1 : Int32) (x5 + (3 : Int32))
                  else
                    L_X12_sortsOf_15 N σ kc4 x1 x2 x3 n (0 : Int32) (x5 + (3 : Int32)))))
          else
            L_X12_sortsOf_15 N σ kc4 x1 x2 x3 n (1 : Int32) (x5 + (3 : Int32)))
def L_X12_sortsOf_4 (N : Nat) (σ : St) (x1 : Int32) : Nat → Int32 → Int32 → Option Int32
  | 0, _, _ => none
  | n + 1, x2, x3 =>
    if (5 : Int32) ≤ x3 then
      some x2
    else
      L_X12_sortsOf_15 N σ (L_X12_sortsOf_4 N σ x1 n) x1 x2 x3 N (1 : Int32) (0 : Int32)
def D_X12_sortsOf (N : Nat) (σ : St) (x1 : Int32) : Option Int32 :=
  L_X12_sortsOf_4 N σ x1 N (0 : Int32) (0 : Int32)
def J_X12_testOf_145 (N : Nat) (σ : St) (kc15 : Int32 → Int32 → Int32 → Option Int32) (x2 : Int32) (x4 : Int32) (x5 : Int32) (x6 : Int32) (t0 : Int32)  : Option Int32 :=
  if x4 ≤ x6 then
    kc15 t0 x4 (x5 + (1 : Int32))
  else
    kc15 t0 x6 (x5 + (1 : Int32))
def L_X12_testOf_46 (N : Nat) (σ : St) (kc15 : Int32 → Int32 → Int32 → Option Int32) (kc34 : Int32 → Int32 → Option Int32) (x2 : Int32) (x3 : Int32) (x4 : Int32) (x5 : Int32) (x6 : Int32) (x7 : Int32) : Nat → Int32 → Int32 → Option Int32
  | 0, _, _ => none
  | n + 1, x8, x9 =>
    if (5 : Int32) ≤ x9 then
      if ((x2 >>> (x7 &&& 31)) &&& (1 : Int32)) = (1 : Int32) then
        if x8 ≤ x6 then
          kc34 x6 (x7 + (1 : Int32))
        else
          kc34 x8 (x7 + (1 : Int32))
      else
        kc34 x6 (x7 + (1 : Int32))
    else
      bp (D_X12_tellsBy N σ x9 x5 (σ 31 7)) (fun r10 => bp (D_X12_tellsBy N σ x7 x5 (σ 31 7)) (fun r11 => if r10 = r11 then
            L_X12_testOf_46 N σ kc15 kc34 x2 x3 x4 x5 x6 x7 n (x8 + ((x2 >>> (x9 &&& 31)) &&& (1 : Int32))) (x9 + (1 : Int32))
          else
            L_X12_testOf_46 N σ kc15 kc34 x2 x3 x4 x5 x6 x7 n (x8 + (0 : Int32)) (x9 + (1 : Int32))))
def L_X12_testOf_34 (N : Nat) (σ : St) (kc15 : Int32 → Int32 → Int32 → Option Int32) (x2 : Int32) (x3 : Int32) (x4 : Int32) (x5 : Int32) : Nat → Int32 → Int32 → Option Int32
  | 0, _, _ => none
  | n + 1, x6, x7 =>
    if (5 : Int32) ≤ x7 then
      if x4 ≤ x6 then
        J_X12_testOf_145 N σ kc15 x2 x4 x5 x6 x3
      else
        J_X12_testOf_145 N σ kc15 x2 x4 x5 x6 x5
    else
      L_X12_testOf_46 N σ kc15 (L_X12_testOf_34 N σ kc15 x2 x3 x4 x5 n) x2 x3 x4 x5 x6 x7 N (0 : Int32) (0 : Int32)
def L_X12_testOf_15 (N : Nat) (σ : St) (x2 : Int32) : Nat → Int32 → Int32 → Int32 → Option Int32
  | 0, _, _, _ => none
  | n + 1, x3, x4, x5 =>
    if (σ 31 5) ≤ x5 then
      some x3
    else
      if x2 = 0 then
        some x3
      else
        L_X12_testOf_34 N σ (L_X12_testOf_15 N σ x2 n) x2 x3 x4 x5 N (0 : Int32) (0 : Int32)
def D_X12_testOf (N : Nat) (σ : St) (x1 : Int32) : Option Int32 :=
  bp (D_X12_sortsOf N σ x1) (fun r1 => L_X12_testOf_15 N σ r1 N (-1 : Int32) (6 : Int32) (0 : Int32))
def L_X12_toJudge_4 (N : Nat) (σ : St) (x1 : Int32) : Nat → Int32 → Int32 → Option Int32
  | 0, _, _ => none
  | n + 1, x2, x3 =>
    if (σ 31 8) ≤ x3 then
      some x2
    else
      gi (((3 : Int32) * x3) + (1 : Int32)) 36 (if (σ 34 ((((3 : Int32) * x3) + (1 : Int32)).toNatClampNeg)) = x1 then
          L_X12_toJudge_4 N σ x1 n (x2 + (1 : Int32)) (x3 + (1 : Int32))
        else
          L_X12_toJudge_4 N σ x1 n (x2 + (0 : Int32)) (x3 + (1 : Int32)))
def D_X12_toJudge (N : Nat) (σ : St) (x1 : Int32) : Option Int32 :=
  L_X12_toJudge_4 N σ x1 N (0 : Int32) (0 : Int32)
def D_X12_tellJudge (N : Nat) (σ : St) (x1 : Int32) (x2 : Int32) : Option Int32 :=
  if x2 = (0 : Int32) then
    gi x1 3 (some (σ 33 x1.toNatClampNeg))
  else if x2 = (1 : Int32) then
    bp (D_X12_toJudge N σ x1) (fun r4 => some r4)
  else if x2 = (2 : Int32) then
    bp (D_X12_sortsOf N σ x1) (fun r6 => some r6)
  else if x2 = (3 : Int32) then
    bp (D_X12_testOf N σ x1) (fun r8 => some r8)
  else if x2 = (4 : Int32) then
    bp (D_X12_twinsOf N σ x1) (fun r10 => some r10)
  else 
    some (-102 : Int32)
def D_X12_say (σ : St) (h : Int64) (y1 : Int64) : Option (St × Int64) :=
  some (σ, ((31 : Int64) * h) + y1)
def L_X12_restOf_71 (N : Nat) (x3 : Int32) (x4 : Int32) : Nat → Int32 → Int32 → St → Option (Int32 × St)
  | 0, _, _, _ => none
  | n + 1, x5, x6, σ =>
    if x6 ≤ 0 then
      if x3 = 0 then
        gz x5 (some (x4 / x5, σ))
      else
        bp (D_X12_fitMany N σ) (fun r9 => gz x5 (some (r9 / x5, σ)))
    else
      gz x6 (L_X12_restOf_71 N x3 x4 n x6 (x5 - x5 / x6 * x6) σ)
def L_X12_restOf_21 (N : Nat) (x3 : Int32) : Nat → Int32 → Int32 → St → Option (Int32 × St)
  | 0, _, _, _ => none
  | n + 1, x4, x5, σ =>
    if (41 : Int32) ≤ x5 then
      if x4 = 0 then
        some (x3, σ)
      else
        bp (D_X12_fitMany N σ) (fun r6 => L_X12_restOf_71 N x3 x4 N r6 x4 σ)
    else
      gi x5 41 (gi x5 41 (L_X12_restOf_21 N x3 n (x4 + ((σ 36 x5.toNatClampNeg) * (σ 36 x5.toNatClampNeg))) (x5 + (1 : Int32)) σ))
def D_X12_restOf (N : Nat) (σ : St) (x1 : Int32) (x2 : Int32) (x3 : Int32) : Option (Int32 × St) :=
  bp (D_X12_layFit N σ) (fun s1 => gi x2 3 (bp (D_X12_laySizes N s1 (s1 33 x2.toNatClampNeg) x1) (fun s3 => L_X12_restOf_21 N x3 N (0 : Int32) (0 : Int32) s3)))
def D_X12_lacks (σ : St) : Option Int32 :=
  if (σ 31 5) = 0 then
    some (1 : Int32)
  else
    some (0 : Int32)
def D_X12_leftOf (N : Nat) (σ : St) : Option (Int32 × St) :=
  bp (D_X12_layFit N σ) (fun s1 => bp (D_X12_fitMany N s1) (fun r2 => some (r2, s1)))
def J_X12_fitsOf_32 (N : Nat) (kc8 : Int32 → Int32 → St → Option (Int32 × St)) (x2 : Int32) (x3 : Int32) (σ : St) : Option (Int32 × St) :=
  gi x3 216 (kc8 (x2 - (σ 35 x3.toNatClampNeg)) (x3 + (1 : Int32)) σ)
def L_X12_fitsOf_8 (N : Nat) : Nat → Int32 → Int32 → St → Option (Int32 × St)
  | 0, _, _, _ => none
  | n + 1, x2, x3, σ =>
    if (σ 31 5) ≤ x3 then
      some ((-1 : Int32), σ)
    else
      gi x3 216 (if (σ 35 x3.toNatClampNeg) = (1 : Int32) then
          if x2 = 0 then
            some (x3, σ)
          else
            J_X12_fitsOf_32 N (L_X12_fitsOf_8 N n) x2 x3 σ
        else
          J_X12_fitsOf_32 N (L_X12_fitsOf_8 N n) x2 x3 σ)
def D_X12_fitsOf (N : Nat) (σ : St) (x1 : Int32) : Option (Int32 × St) :=
  bp (D_X12_layFit N σ) (fun s1 => L_X12_fitsOf_8 N N x1 (0 : Int32) s1)
def L_X12_digest_155 (N : Nat) : Nat → Int32 → St → Int64 → Option (Int64 × (St × Int64))
  | 0, _, _, _ => none
  | n + 1, x1, σ, h =>
    if (11 : Int32) ≤ x1 then
      some (h, (σ, h))
    else
      bp (D_X12_countOf σ x1) (fun r7 => bs (D_X12_say σ h r7.toInt64) (fun s8 h8 => L_X12_digest_155 N n (x1 + (1 : Int32)) s8 h8))
def L_X12_digest_128 (N : Nat) : Nat → Int32 → St → Int64 → Option (Int64 × (St × Int64))
  | 0, _, _, _ => none
  | n + 1, x1, σ, h =>
    if (σ 31 1) ≤ x1 then
      L_X12_digest_155 N N (0 : Int32) σ h
    else
      gi x1 12 (bs (D_X12_say σ h ((σ 32 x1.toNatClampNeg).toInt64)) (fun s10 h10 => L_X12_digest_128 N n (x1 + (1 : Int32)) s10 h10))
def L_X12_digest_73 (N : Nat) : Nat → Int32 → St → Int64 → Option (Int64 × (St × Int64))
  | 0, _, _, _ => none
  | n + 1, x1, σ, h =>
    if ((3 : Int32) * (σ 31 8)) ≤ x1 then
      bp (D_X12_lacks σ) (fun r3 => if r3 = 0 then
          bs (D_X12_leftOf N σ) (fun r11 s11 => bs (D_X12_say s11 h r11.toInt64) (fun s12 h12 => bs (D_X12_fitsOf N s12 (0 : Int32)) (fun r13 s13 => bs (D_X12_say s13 h12 r13.toInt64) (fun s14 h14 => L_X12_digest_128 N N (0 : Int32) s14 h14))))
        else
          L_X12_digest_128 N N (0 : Int32) σ h)
    else
      gi x1 36 (bs (D_X12_say σ h ((σ 34 x1.toNatClampNeg).toInt64)) (fun s16 h16 => L_X12_digest_73 N n (x1 + (1 : Int32)) s16 h16))
def L_X12_digest_19 (N : Nat) (kc9 : Int32 → St → Int64 → Option (Int64 × (St × Int64))) (x1 : Int32) : Nat → Int32 → St → Int64 → Option (Int64 × (St × Int64))
  | 0, _, _, _ => none
  | n + 1, x2, σ, h =>
    if (4 : Int32) ≤ x2 then
      bs (D_X12_restOf N σ (0 : Int32) x1 (0 : Int32)) (fun r18 s18 => bs (D_X12_say s18 h r18.toInt64) (fun s19 h19 => bs (D_X12_restOf N s19 (0 : Int32) x1 (1 : Int32)) (fun r20 s20 => bs (D_X12_say s20 h19 r20.toInt64) (fun s21 h21 => kc9 (x1 + (1 : Int32)) s21 h21))))
    else
      bp (D_X12_tellJudge N σ x1 x2) (fun r22 => bs (D_X12_say σ h r22.toInt64) (fun s23 h23 => L_X12_digest_19 N kc9 x1 n (x2 + (1 : Int32)) s23 h23))
def L_X12_digest_9 (N : Nat) : Nat → Int32 → St → Int64 → Option (Int64 × (St × Int64))
  | 0, _, _, _ => none
  | n + 1, x1, σ, h =>
    if (σ 31 6) ≤ x1 then
      L_X12_digest_73 N N (0 : Int32) σ h
    else
      L_X12_digest_19 N (L_X12_digest_9 N n) x1 N (0 : Int32) σ h
def D_X12_digest (N : Nat) (σ : St) (h : Int64) : Option (Int64 × (St × Int64)) :=
  L_X12_digest_9 N N (0 : Int32) σ (1297 : Int64)
def D_X12_draw (σ : St) (x1 : Int32) : Option (Int32 × St) :=
  gz x1 (some (((((((1103515245 : Int64) * ((σ 31 20).toInt64)) + (12345 : Int64)) &&& (2147483647 : Int64)).toInt32) / (65536 : Int32)) - ((((((1103515245 : Int64) * ((σ 31 20).toInt64)) + (12345 : Int64)) &&& (2147483647 : Int64)).toInt32) / (65536 : Int32)) / x1 * x1, pt σ 31 20 (((((1103515245 : Int64) * ((σ 31 20).toInt64)) + (12345 : Int64)) &&& (2147483647 : Int64)).toInt32)))
def D_X12_kindBy (x0 : Int32) : Option Int32 :=
  if x0 = (99 : Int32) then
    some (4 : Int32)
  else if x0 = (106 : Int32) then
    some (0 : Int32)
  else if x0 = (115 : Int32) then
    some (1 : Int32)
  else if x0 = (116 : Int32) then
    some (2 : Int32)
  else if x0 = (119 : Int32) then
    some (3 : Int32)
  else 
    some (-1 : Int32)
def J_X12_isJudgeLetter_25 (x1 : Int32) (x2 : Int32) (σ : St) : Option (Int32 × St) :=
  bp (D_X12_kindBy x2) (fun r3 => if r3 = (-1 : Int32) then
      some ((0 : Int32), σ)
    else
      if (6 : Int32) ≤ x1 then
        some ((0 : Int32), σ)
      else
        some ((1 : Int32), σ))
def D_X12_isJudgeLetter (σ : St) (x1 : Int32) : Option (Int32 × St) :=
  gi x1 12 (if (σ 32 x1.toNatClampNeg) = (59 : Int32) then
      if x1 ≤ (3 : Int32) then
        J_X12_isJudgeLetter_25 x1 (σ 32 x1.toNatClampNeg) σ
      else
        some ((1 : Int32), pt σ 31 2 x1)
    else
      J_X12_isJudgeLetter_25 x1 (σ 32 x1.toNatClampNeg) σ)
def D_X12_isGood (σ : St) (x1 : Int32) : Option (Int32 × St) :=
  gi x1 12 (if x1 = (0 : Int32) then
      bp (D_X12_in ((σ 32 x1.toNatClampNeg).toInt64) (49 : Int64) (51 : Int64)) (fun r3 => gb r3 (some (r3, σ)))
    else if x1 = (1 : Int32) then
      bp (D_X12_in ((σ 32 x1.toNatClampNeg).toInt64) (50 : Int64) (54 : Int64)) (fun r6 => gb r6 (some (r6, σ)))
    else if x1 = (2 : Int32) then
      if (σ 32 x1.toNatClampNeg) = (59 : Int32) then
        some ((1 : Int32), σ)
      else
        some ((0 : Int32), σ)
    else 
      if (σ 31 2) = 0 then
        bs (D_X12_isJudgeLetter σ x1) (fun r16 s16 => gb r16 (some (r16, s16)))
      else
        gi (0 : Int32) 12 (if ((σ 32 ((0 : Int32).toNatClampNeg)) - (48 : Int32)) < (x1 - (σ 31 2)) then
            some ((0 : Int32), σ)
          else
            gi (1 : Int32) 12 (bp (D_X12_in ((σ 32 x1.toNatClampNeg).toInt64) (97 : Int64) ((((97 : Int32) + (σ 32 ((1 : Int32).toNatClampNeg))) - (49 : Int32)).toInt64)) (fun r14 => if r14 = 0 then
                  some ((0 : Int32), σ)
                else
                  some ((1 : Int32), σ)))))
def L_X12_faultOf_7 (N : Nat) : Nat → Int32 → St → Option (Int32 × St)
  | 0, _, _ => none
  | n + 1, x1, σ =>
    if (σ 31 1) ≤ x1 then
      some (x1, σ)
    else
      bs (D_X12_isGood σ x1) (fun r2 s2 => if r2 = 0 then
          some (x1, s2)
        else
          L_X12_faultOf_7 N n (x1 + (1 : Int32)) s2)
def D_X12_faultOf (N : Nat) (σ : St) : Option (Int32 × St) :=
  L_X12_faultOf_7 N N (0 : Int32) (pt σ 31 2 (0 : Int32))
def D_X12_fault (N : Nat) (σ : St) : Option (Int32 × St) :=
  bs (D_X12_faultOf N σ) (fun r1 s1 => some (r1, s1))
def D_X12_fits (N : Nat) (σ : St) (x1 : Int32) : Option (Int32 × St) :=
  if 0 ≤ x1 then
    bp (D_X12_lacks σ) (fun r2 => if r2 = 0 then
        bs (D_X12_fitsOf N σ x1) (fun r4 s4 => some (r4, s4))
      else
        some ((-103 : Int32), σ))
  else
    some ((-102 : Int32), σ)
def D_X12_forget (σ : St) : Option (Int32 × St) :=
  some (σ 31 8, pt σ 31 8 (0 : Int32))
def L_X12_game_151 (N : Nat) : Nat → Int32 → St → Option (Int32 × St)
  | 0, _, _ => none
  | n + 1, x1, σ =>
    if (σ 31 6) ≤ x1 then
      some (σ 31 5, pt (pt (pt σ 31 8 (0 : Int32)) 31 9 ((σ 31 9) + (1 : Int32))) 31 1 (0 : Int32))
    else
      gi ((3 : Int32) + x1) 12 (bp (D_X12_kindBy (σ 32 (((3 : Int32) + x1).toNatClampNeg))) (fun r11 => gi x1 3 (L_X12_game_151 N n (x1 + (1 : Int32)) (pt σ 33 x1.toNatClampNeg r11))))
def L_X12_game_92 (N : Nat) : Nat → Int32 → St → Option (Int32 × St)
  | 0, _, _ => none
  | n + 1, x1, σ =>
    if (σ 31 3) ≤ x1 then
      L_X12_game_151 N N (0 : Int32) σ
    else
      gi (((σ 31 2) + (1 : Int32)) + x1) 12 (L_X12_game_92 N n (x1 + (1 : Int32)) (pt (pt σ 31 5 ((σ 31 5) * (σ 31 4))) 31 7 ((((σ 31 7) * (σ 31 4)) + (σ 32 ((((σ 31 2) + (1 : Int32)) + x1).toNatClampNeg))) - (97 : Int32))))
def D_X12_game (N : Nat) (σ : St) : Option (Int32 × St) :=
  bs (D_X12_faultOf N σ) (fun r1 s1 => if r1 < (s1 31 1) then
      some ((-103 : Int32), s1)
    else
      if (s1 31 2) = 0 then
        some ((-103 : Int32), s1)
      else
        gi (0 : Int32) 12 (if (((s1 31 1) - (s1 31 2)) - (1 : Int32)) = ((s1 32 ((0 : Int32).toNatClampNeg)) - (48 : Int32)) then
            gi (0 : Int32) 12 (gi (1 : Int32) 12 (L_X12_game_92 N N (0 : Int32) (pt (pt (pt (pt (pt s1 31 3 ((s1 32 ((0 : Int32).toNatClampNeg)) - (48 : Int32))) 31 4 ((s1 32 ((1 : Int32).toNatClampNeg)) - (48 : Int32))) 31 6 ((s1 31 2) - (3 : Int32))) 31 5 (1 : Int32)) 31 7 (0 : Int32))))
          else
            some ((-103 : Int32), s1)))
def D_X12_isRow (σ : St) (x1 : Int32) : Option Int32 :=
  bp (D_X12_in x1.toInt64 (0 : Int64) (((σ 31 5) - (1 : Int32)).toInt64)) (fun r1 => gb r1 (some r1))
def D_X12_hide (σ : St) (x1 : Int32) : Option (Int32 × St) :=
  bp (D_X12_isRow σ x1) (fun r1 => if r1 = 0 then
      some ((-101 : Int32), σ)
    else
      some (σ 31 7, pt σ 31 7 x1))
def L_X12_longOf_51 (N : Nat) (kc25 : Int32 → St → Option (Int32 × St)) (x1 : Int32) (x2 : Int32) (x3 : Int32) (x4 : Int32) (x5 : Int32) : Nat → Int32 → St → Option (Int32 × St)
  | 0, _, _ => none
  | n + 1, x6, σ =>
    if (σ 31 5) ≤ x6 then
      bp (D_X12_fitMany N σ) (fun r6 => if r6 = (1 : Int32) then
          some (x3, σ)
        else
          kc25 (x3 + (1 : Int32)) σ)
    else
      gi x6 216 (if (σ 35 x6.toNatClampNeg) = (1 : Int32) then
          bp (D_X12_tellsBy N σ x1 x4 x6) (fun r11 => if r11 = x5 then
              gi x6 216 (L_X12_longOf_51 N kc25 x1 x2 x3 x4 x5 n (x6 + (1 : Int32)) (pt σ 35 x6.toNatClampNeg (1 : Int32)))
            else
              gi x6 216 (L_X12_longOf_51 N kc25 x1 x2 x3 x4 x5 n (x6 + (1 : Int32)) (pt σ 35 x6.toNatClampNeg (0 : Int32))))
        else
          gi x6 216 (L_X12_longOf_51 N kc25 x1 x2 x3 x4 x5 n (x6 + (1 : Int32)) (pt σ 35 x6.toNatClampNeg (0 : Int32))))
def L_X12_longOf_25 (N : Nat) (x1 : Int32) (x2 : Int32) : Nat → Int32 → St → Option (Int32 × St)
  | 0, _, _ => none
  | n + 1, x3, σ =>
    if (9 : Int32) ≤ x3 then
      some ((-1 : Int32), σ)
    else
      bs (D_X12_bestBy N σ x1) (fun r3 s3 => bp (D_X12_tellsBy N s3 x1 r3 x2) (fun r4 => L_X12_longOf_51 N (L_X12_longOf_25 N x1 x2 n) x1 x2 x3 r3 r4 N (0 : Int32) s3))
def L_X12_longOf_2 (N : Nat) (x1 : Int32) (x2 : Int32) : Nat → Int32 → St → Option (Int32 × St)
  | 0, _, _ => none
  | n + 1, x3, σ =>
    if (σ 31 5) ≤ x3 then
      L_X12_longOf_25 N x1 x2 N (1 : Int32) σ
    else
      gi x3 216 (L_X12_longOf_2 N x1 x2 n (x3 + (1 : Int32)) (pt σ 35 x3.toNatClampNeg (1 : Int32)))
def D_X12_longOf (N : Nat) (σ : St) (x1 : Int32) (x2 : Int32) : Option (Int32 × St) :=
  L_X12_longOf_2 N x1 x2 N (0 : Int32) σ
def D_X12_howLong (N : Nat) (σ : St) (x1 : Int32) (x2 : Int32) : Option (Int32 × St) :=
  bp (D_X12_isJudge σ x1) (fun r1 => if r1 = 0 then
      some ((-101 : Int32), σ)
    else
      bp (D_X12_isRow σ x2) (fun r3 => if r3 = 0 then
          some ((-101 : Int32), σ)
        else
          if (σ 31 16) = (6 : Int32) then
            some ((-103 : Int32), σ)
          else
            gi x1 3 (bs (D_X12_longOf N (pt σ 31 16 ((σ 31 16) + (1 : Int32))) (σ 33 x1.toNatClampNeg) x2) (fun r7 s7 => some (r7, s7)))))
def D_X12_image (N : Nat) (σ : St) : Option (Int32 × St) :=
  bp (D_X12_lacks σ) (fun r1 => if r1 = 0 then
      bp (D_X12_copy_k1 N σ) (fun s3 => bp (D_X12_copy_s1 N s3) (fun s4 => some (s4 31 8, pt (pt (pt s4 31 22 (s4 31 7)) 31 23 (s4 31 8)) 31 21 (s4 31 9))))
    else
      some ((-103 : Int32), σ))
def J_X12_isEnough_81 (N : Nat) (σ : St) (kc2 : Int32 → Option Int32) (kc15 : Int32 → Option Int32) (x1 : Int32) (x2 : Int32) (x3 : Int32) (x4 : Int32) (t0 : Int32)  : Option Int32 :=
  if t0 = 0 then
    kc15 (x4 + (1 : Int32))
  else
    gi (((64 : Int32) * x3) + x4) 4096 (if (σ 38 ((((64 : Int32) * x3) + x4).toNatClampNeg)) = (1 : Int32) then
        some (0 : Int32)
      else
        kc15 (x4 + (1 : Int32)))
def J_X12_isEnough_80 (N : Nat) (σ : St) (kc2 : Int32 → Option Int32) (kc15 : Int32 → Option Int32) (x1 : Int32) (x2 : Int32) (x3 : Int32) (x4 : Int32)  : Option Int32 :=
  J_X12_isEnough_81 N σ kc2 kc15 x1 x2 x3 x4 (0 : Int32)
def L_X12_isEnough_15 (N : Nat) (σ : St) (kc2 : Int32 → Option Int32) (x1 : Int32) (x2 : Int32) (x3 : Int32) : Nat → Int32 → Option Int32
  | 0, _ => none
  | n + 1, x4 =>
    if (σ 31 5) ≤ x4 then
      kc2 (x3 + (1 : Int32))
    else
      gi (((64 : Int32) * x1) + x3) 4096 (gi (((64 : Int32) * x1) + x4) 4096 (if (σ 37 ((((64 : Int32) * x1) + x3).toNatClampNeg)) = (σ 37 ((((64 : Int32) * x1) + x4).toNatClampNeg)) then
            gi (((64 : Int32) * x2) + x3) 4096 (gi (((64 : Int32) * x2) + x4) 4096 (if (σ 37 ((((64 : Int32) * x2) + x3).toNatClampNeg)) = (σ 37 ((((64 : Int32) * x2) + x4).toNatClampNeg)) then
                  J_X12_isEnough_81 N σ kc2 (L_X12_isEnough_15 N σ kc2 x1 x2 x3 n) x1 x2 x3 x4 (1 : Int32)
                else
                  J_X12_isEnough_80 N σ kc2 (L_X12_isEnough_15 N σ kc2 x1 x2 x3 n) x1 x2 x3 x4))
          else
            J_X12_isEnough_80 N σ kc2 (L_X12_isEnough_15 N σ kc2 x1 x2 x3 n) x1 x2 x3 x4))
def L_X12_isEnough_2 (N : Nat) (σ : St) (x1 : Int32) (x2 : Int32) : Nat → Int32 → Option Int32
  | 0, _ => none
  | n + 1, x3 =>
    if (σ 31 5) ≤ x3 then
      some (1 : Int32)
    else
      L_X12_isEnough_15 N σ (L_X12_isEnough_2 N σ x1 x2 n) x1 x2 x3 N (x3 + (1 : Int32))
def D_X12_isEnough (N : Nat) (σ : St) (x1 : Int32) (x2 : Int32) : Option Int32 :=
  L_X12_isEnough_2 N σ x1 x2 N (0 : Int32)
def D_X12_judge (N : Nat) (σ : St) (x1 : Int32) (x2 : Int32) : Option Int32 :=
  bp (D_X12_isJudge σ x1) (fun r1 => if r1 = 0 then
      some (-101 : Int32)
    else
      bp (D_X12_tellJudge N σ x1 x2) (fun r3 => some r3))
def D_X12_keep (σ : St) (x1 : Int32) (x2 : Int32) (x3 : Int32) : Option St :=
  gi ((3 : Int32) * (σ 31 8)) 36 (gi (((3 : Int32) * (σ 31 8)) + (1 : Int32)) 36 (gi (((3 : Int32) * (σ 31 8)) + (2 : Int32)) 36 (some (pt (pt (pt (pt σ 34 (((3 : Int32) * (σ 31 8)).toNatClampNeg) x1) 34 ((((3 : Int32) * (σ 31 8)) + (1 : Int32)).toNatClampNeg) x2) 34 ((((3 : Int32) * (σ 31 8)) + (2 : Int32)).toNatClampNeg) x3) 31 8 ((σ 31 8) + (1 : Int32))))))
def J_X12_layTable_66 (N : Nat) (kc2 : Int32 → St → Option St) (x1 : Int32) (x2 : Int32) (x3 : Int32) (x4 : Int32) (x5 : Int32) (t1 : Int32) (t2 : Int32) (σ : St) : Option St :=
  gi t1 4096 (if x5 = 0 then
      gi x2 4096 (kc2 (x2 + (1 : Int32)) (pt (pt σ 37 t1.toNatClampNeg t2) 38 x2.toNatClampNeg (0 : Int32)))
    else
      if x4 ≤ x3 then
        gi x2 4096 (kc2 (x2 + (1 : Int32)) (pt (pt σ 37 t1.toNatClampNeg t2) 38 x2.toNatClampNeg (0 : Int32)))
      else
        bp (D_X12_isTwin N (pt σ 37 t1.toNatClampNeg t2) x1 x3 x4) (fun r11 => if r11 = 0 then
            gi x2 4096 (kc2 (x2 + (1 : Int32)) (pt (pt σ 37 t1.toNatClampNeg t2) 38 x2.toNatClampNeg (1 : Int32)))
          else
            gi x2 4096 (kc2 (x2 + (1 : Int32)) (pt (pt σ 37 t1.toNatClampNeg t2) 38 x2.toNatClampNeg (0 : Int32)))))
def J_X12_layTable_42 (N : Nat) (kc2 : Int32 → St → Option St) (x1 : Int32) (x2 : Int32) (x3 : Int32) (x4 : Int32) (t0 : Int32) (σ : St) : Option St :=
  if t0 = 0 then
    J_X12_layTable_66 N kc2 x1 x2 x3 x4 t0 x2 (0 : Int32) σ
  else
    bp (D_X12_tellsBy N σ x1 x3 x4) (fun r15 => J_X12_layTable_66 N kc2 x1 x2 x3 x4 t0 x2 r15 σ)
def J_X12_layTable_41 (N : Nat) (kc2 : Int32 → St → Option St) (x1 : Int32) (x2 : Int32) (x3 : Int32) (x4 : Int32) (σ : St) : Option St :=
  J_X12_layTable_42 N kc2 x1 x2 x3 x4 (0 : Int32) σ
def L_X12_layTable_2 (N : Nat) (x1 : Int32) : Nat → Int32 → St → Option St
  | 0, _, _ => none
  | n + 1, x2, σ =>
    if (4096 : Int32) ≤ x2 then
      some σ
    else
      if (σ 31 5) ≤ (x2 / (64 : Int32)) then
        J_X12_layTable_41 N (L_X12_layTable_2 N x1 n) x1 x2 (x2 / (64 : Int32)) (x2 - x2 / (64 : Int32) * (64 : Int32)) σ
      else
        if (σ 31 5) ≤ (x2 - x2 / (64 : Int32) * (64 : Int32)) then
          J_X12_layTable_41 N (L_X12_layTable_2 N x1 n) x1 x2 (x2 / (64 : Int32)) (x2 - x2 / (64 : Int32) * (64 : Int32)) σ
        else
          J_X12_layTable_42 N (L_X12_layTable_2 N x1 n) x1 x2 (x2 / (64 : Int32)) (x2 - x2 / (64 : Int32) * (64 : Int32)) (1 : Int32) σ
def D_X12_layTable (N : Nat) (σ : St) (x1 : Int32) : Option St :=
  L_X12_layTable_2 N x1 N (0 : Int32) σ
def D_X12_left (N : Nat) (σ : St) : Option (Int32 × St) :=
  bp (D_X12_lacks σ) (fun r1 => if r1 = 0 then
      bs (D_X12_leftOf N σ) (fun r3 s3 => some (r3, s3))
    else
      some ((-103 : Int32), σ))
def D_X12_letter (σ : St) (x1 : Int32) : Option (Int32 × St) :=
  bp (D_X12_in x1.toInt64 (1 : Int64) (126 : Int64)) (fun r1 => if r1 = 0 then
      some ((-102 : Int32), σ)
    else
      if (σ 31 1) = (12 : Int32) then
        some ((-104 : Int32), σ)
      else
        gi (σ 31 1) 12 (some ((σ 31 1) + (1 : Int32), pt (pt σ 32 ((σ 31 1).toNatClampNeg) x1) 31 1 ((σ 31 1) + (1 : Int32)))))
def D_X12_note (N : Nat) (σ : St) (x1 : Int32) (x2 : Int32) (x3 : Int32) : Option (Int32 × St) :=
  bp (D_X12_isRow σ x1) (fun r1 => if r1 = 0 then
      some ((-101 : Int32), σ)
    else
      bp (D_X12_isJudge σ x2) (fun r3 => if r3 = 0 then
          some ((-101 : Int32), σ)
        else
          bp (D_X12_in x3.toInt64 (0 : Int64) (40 : Int64)) (fun r5 => if r5 = 0 then
              some ((-102 : Int32), σ)
            else
              if (σ 31 8) = (12 : Int32) then
                some ((-104 : Int32), σ)
              else
                bp (D_X12_keep σ x1 x2 x3) (fun s8 => bs (D_X12_leftOf N s8) (fun r9 s9 => some (r9, s9))))))
def L_X12_partsOf_81 (N : Nat) (kc68 : Int32 → St → Option (Int32 × St)) (x2 : Int32) (x3 : Int32) : Nat → Int32 → St → Option (Int32 × St)
  | 0, _, _ => none
  | n + 1, x4, σ =>
    if (σ 31 5) ≤ x4 then
      kc68 (x3 + (1 : Int32)) σ
    else
      bp (D_X12_isEnough N σ x3 x4) (fun r7 => if r7 = 0 then
          L_X12_partsOf_81 N kc68 x2 x3 n (x4 + (1 : Int32)) σ
        else
          if x2 = 0 then
            some ((2 : Int32), σ)
          else
            if x2 = (1 : Int32) then
              some (x3, σ)
            else
              some (x4, σ))
def L_X12_partsOf_68 (N : Nat) (x2 : Int32) : Nat → Int32 → St → Option (Int32 × St)
  | 0, _, _ => none
  | n + 1, x3, σ =>
    if (σ 31 5) ≤ x3 then
      some ((-1 : Int32), σ)
    else
      L_X12_partsOf_81 N (L_X12_partsOf_68 N x2 n) x2 x3 N (x3 + (1 : Int32)) σ
def L_X12_partsOf_24 (N : Nat) (x2 : Int32) : Nat → Int32 → St → Option (Int32 × St)
  | 0, _, _ => none
  | n + 1, x3, σ =>
    if (σ 31 5) ≤ x3 then
      L_X12_partsOf_68 N x2 N (0 : Int32) σ
    else
      bp (D_X12_isEnough N σ x3 x3) (fun r11 => if r11 = 0 then
          L_X12_partsOf_24 N x2 n (x3 + (1 : Int32)) σ
        else
          if x2 = 0 then
            some ((1 : Int32), σ)
          else
            if x2 = (1 : Int32) then
              some (x3, σ)
            else
              some ((-1 : Int32), σ))
def D_X12_partsOf (N : Nat) (σ : St) (x1 : Int32) (x2 : Int32) : Option (Int32 × St) :=
  bp (D_X12_layTable N σ x1) (fun s1 => bp (D_X12_apartMany N s1) (fun r2 => if r2 = 0 then
        if x2 = 0 then
          some ((0 : Int32), s1)
        else
          some ((-1 : Int32), s1)
      else
        L_X12_partsOf_24 N x2 N (0 : Int32) s1))
def D_X12_parts (N : Nat) (σ : St) (x1 : Int32) (x2 : Int32) : Option (Int32 × St) :=
  bp (D_X12_isJudge σ x1) (fun r1 => if r1 = 0 then
      some ((-101 : Int32), σ)
    else
      bp (D_X12_in x2.toInt64 (0 : Int64) (2 : Int64)) (fun r3 => if r3 = 0 then
          some ((-102 : Int32), σ)
        else
          if (64 : Int32) < (σ 31 5) then
            some ((-103 : Int32), σ)
          else
            if (σ 31 17) = (9 : Int32) then
              some ((-103 : Int32), σ)
            else
              gi x1 3 (bs (D_X12_partsOf N (pt σ 31 17 ((σ 31 17) + (1 : Int32))) (σ 33 x1.toNatClampNeg) x2) (fun r8 s8 => some (r8, s8)))))
def D_X12_rest (N : Nat) (σ : St) (x1 : Int32) (x2 : Int32) (x3 : Int32) : Option (Int32 × St) :=
  bp (D_X12_isRow σ x1) (fun r1 => if r1 = 0 then
      some ((-101 : Int32), σ)
    else
      bp (D_X12_isJudge σ x2) (fun r3 => if r3 = 0 then
          some ((-101 : Int32), σ)
        else
          bp (D_X12_in x3.toInt64 (0 : Int64) (1 : Int64)) (fun r5 => if r5 = 0 then
              some ((-102 : Int32), σ)
            else
              bs (D_X12_restOf N σ x1 x2 x3) (fun r7 s7 => some (r7, s7)))))
def D_X12_restore (N : Nat) (σ : St) : Option (Int32 × St) :=
  if (σ 31 21) = (σ 31 9) then
    bp (D_X12_copy_k2 N σ) (fun s2 => bp (D_X12_copy_s2 N s2) (fun s3 => some (s3 31 23, pt (pt s3 31 7 (s3 31 22)) 31 8 (s3 31 23))))
  else
    some ((-103 : Int32), σ)
def J_X12_tellRow_50 (N : Nat) (σ : St) (x1 : Int32) (x2 : Int32)  : Option Int32 :=
  if (σ 31 3) ≤ (x2 - (1 : Int32)) then
    some (-1 : Int32)
  else
    bp (D_X12_peg N σ x1 (x2 - (1 : Int32))) (fun r6 => some r6)
def D_X12_tellRow (N : Nat) (σ : St) (x1 : Int32) (x2 : Int32) : Option Int32 :=
  if x2 = (0 : Int32) then
    bp (D_X12_isFit N σ x1) (fun r2 => if r2 = 0 then
        some (0 : Int32)
      else
        some (1 : Int32))
  else if x2 = (1 : Int32) then
    J_X12_tellRow_50 N σ x1 x2
  else if x2 = (2 : Int32) then
    J_X12_tellRow_50 N σ x1 x2
  else if x2 = (3 : Int32) then
    J_X12_tellRow_50 N σ x1 x2
  else if x2 = (4 : Int32) then
    if x1 = (σ 31 7) then
      some (1 : Int32)
    else
      some (0 : Int32)
  else 
    some (-102 : Int32)
def D_X12_row (N : Nat) (σ : St) (x1 : Int32) (x2 : Int32) : Option Int32 :=
  bp (D_X12_isRow σ x1) (fun r1 => if r1 = 0 then
      some (-101 : Int32)
    else
      bp (D_X12_tellRow N σ x1 x2) (fun r3 => some r3))
def D_X12_seen (σ : St) (x1 : Int32) (x2 : Int32) : Option Int32 :=
  bp (D_X12_in x1.toInt64 (0 : Int64) (((σ 31 8) - (1 : Int32)).toInt64)) (fun r1 => if r1 = 0 then
      some (-101 : Int32)
    else
      bp (D_X12_in x2.toInt64 (0 : Int64) (2 : Int64)) (fun r3 => if r3 = 0 then
          some (-102 : Int32)
        else
          gi (((3 : Int32) * x1) + x2) 36 (some (σ 34 ((((3 : Int32) * x1) + x2).toNatClampNeg)))))
def D_X12_show (N : Nat) (σ : St) (x1 : Int32) (x2 : Int32) : Option (Int32 × St) :=
  bp (D_X12_isRow σ x1) (fun r1 => if r1 = 0 then
      some ((-101 : Int32), σ)
    else
      bp (D_X12_isJudge σ x2) (fun r3 => if r3 = 0 then
          some ((-101 : Int32), σ)
        else
          if (σ 31 8) = (12 : Int32) then
            some ((-104 : Int32), σ)
          else
            gi x2 3 (bp (D_X12_tellsBy N σ (σ 33 x2.toNatClampNeg) x1 (σ 31 7)) (fun r7 => bp (D_X12_keep σ x1 x2 r7) (fun s8 => some (r7, s8))))))
def J_X12_soManieth_17 (N : Nat) (σ : St) (kc4 : Int32 → Int32 → Option Int32) (x2 : Int32) (x3 : Int32)  : Option Int32 :=
  gi x3 216 (kc4 (x2 - (σ 35 x3.toNatClampNeg)) (x3 + (1 : Int32)))
def L_X12_soManieth_4 (N : Nat) (σ : St) : Nat → Int32 → Int32 → Option Int32
  | 0, _, _ => none
  | n + 1, x2, x3 =>
    gi x3 216 (if (σ 35 x3.toNatClampNeg) = 0 then
        J_X12_soManieth_17 N σ (L_X12_soManieth_4 N σ n) x2 x3
      else
        if x2 ≤ 0 then
          some x3
        else
          J_X12_soManieth_17 N σ (L_X12_soManieth_4 N σ n) x2 x3)
def D_X12_soManieth (N : Nat) (σ : St) (x1 : Int32) : Option Int32 :=
  L_X12_soManieth_4 N σ N x1 (0 : Int32)
def D_X12_strike (σ : St) : Option (Int32 × St) :=
  if (σ 31 8) = 0 then
    some ((-103 : Int32), σ)
  else
    some ((σ 31 8) - (1 : Int32), pt σ 31 8 ((σ 31 8) - (1 : Int32)))
def D_X12_swap (σ : St) (x1 : Int32) (x2 : Int32) : Option (Int32 × St) :=
  bp (D_X12_isJudge σ x1) (fun r1 => if r1 = 0 then
      some ((-101 : Int32), σ)
    else
      bp (D_X12_in x2.toInt64 (0 : Int64) (4 : Int64)) (fun r3 => if r3 = 0 then
          some ((-102 : Int32), σ)
        else
          gi x1 3 (gi x1 3 (some (σ 33 x1.toNatClampNeg, pt σ 33 x1.toNatClampNeg x2)))))
def D_X12_tells (N : Nat) (σ : St) (x1 : Int32) (x2 : Int32) (x3 : Int32) : Option Int32 :=
  bp (D_X12_isJudge σ x1) (fun r1 => if r1 = 0 then
      some (-101 : Int32)
    else
      bp (D_X12_isRow σ x2) (fun r3 => if r3 = 0 then
          some (-101 : Int32)
        else
          bp (D_X12_isRow σ x3) (fun r5 => if r5 = 0 then
              some (-101 : Int32)
            else
              gi x1 3 (bp (D_X12_tellsBy N σ (σ 33 x1.toNatClampNeg) x2 x3) (fun r8 => some r8)))))
def L_X12_tryOne_73 (N : Nat) (kc37 : Int32 → Int32 → St → Option (Int32 × St)) (x1 : Int32) (x2 : Int32) (x3 : Int32) (x4 : Int32) (x5 : Int32) : Nat → Int32 → St → Option (Int32 × St)
  | 0, _, _ => none
  | n + 1, x6, σ =>
    if (σ 31 5) ≤ x6 then
      kc37 x3 x4 σ
    else
      gi x6 216 (if (σ 35 x6.toNatClampNeg) = (1 : Int32) then
          if x6 = x4 then
            gi x6 216 (L_X12_tryOne_73 N kc37 x1 x2 x3 x4 x5 n (x6 + (1 : Int32)) (pt σ 35 x6.toNatClampNeg (0 : Int32)))
          else
            bp (D_X12_tellsBy N σ x1 x4 x6) (fun r14 => if r14 = x5 then
                gi x6 216 (L_X12_tryOne_73 N kc37 x1 x2 x3 x4 x5 n (x6 + (1 : Int32)) (pt σ 35 x6.toNatClampNeg (1 : Int32)))
              else
                gi x6 216 (L_X12_tryOne_73 N kc37 x1 x2 x3 x4 x5 n (x6 + (1 : Int32)) (pt σ 35 x6.toNatClampNeg (0 : Int32))))
        else
          gi x6 216 (L_X12_tryOne_73 N kc37 x1 x2 x3 x4 x5 n (x6 + (1 : Int32)) (pt σ 35 x6.toNatClampNeg (0 : Int32))))
def L_X12_tryOne_37 (N : Nat) (x1 : Int32) (x2 : Int32) : Nat → Int32 → Int32 → St → Option (Int32 × St)
  | 0, _, _, _ => none
  | n + 1, x3, x4, σ =>
    if x4 = x2 then
      some (x3, σ)
    else
      bp (D_X12_fitMany N σ) (fun r4 => bs (D_X12_draw σ r4) (fun r5 s5 => bp (D_X12_soManieth N s5 r5) (fun r6 => bp (D_X12_tellsBy N s5 x1 r6 x2) (fun r7 => L_X12_tryOne_73 N (L_X12_tryOne_37 N x1 x2 n) x1 x2 (x3 + (1 : Int32)) r6 r7 N (0 : Int32) s5))))
def L_X12_tryOne_11 (N : Nat) (x1 : Int32) (x2 : Int32) : Nat → Int32 → St → Option (Int32 × St)
  | 0, _, _ => none
  | n + 1, x3, σ =>
    if (σ 31 5) ≤ x3 then
      L_X12_tryOne_37 N x1 x2 N (0 : Int32) (-1 : Int32) σ
    else
      gi x3 216 (L_X12_tryOne_11 N x1 x2 n (x3 + (1 : Int32)) (pt σ 35 x3.toNatClampNeg (1 : Int32)))
def D_X12_tryOne (N : Nat) (σ : St) (x1 : Int32) : Option (Int32 × St) :=
  bs (D_X12_draw σ (σ 31 5)) (fun r1 s1 => L_X12_tryOne_11 N x1 r1 N (0 : Int32) s1)
def L_X12_tries_57 (N : Nat) (x1 : Int32) (x2 : Int32) (x4 : Int32) : Nat → Int32 → Int32 → Int32 → St → Option (Int32 × St)
  | 0, _, _, _, _ => none
  | n + 1, x5, x6, x7, σ =>
    if x2 ≤ x7 then
      if x4 = 0 then
        some (x5, σ)
      else
        if x4 = (1 : Int32) then
          some (x6, σ)
        else
          some (σ 31 20, σ)
    else
      gi x1 3 (bs (D_X12_tryOne N σ (σ 33 x1.toNatClampNeg)) (fun r12 s12 => if (4 : Int32) ≤ r12 then
            L_X12_tries_57 N x1 x2 x4 n (x5 + r12) (x6 + (0 : Int32)) (x7 + (1 : Int32)) s12
          else
            L_X12_tries_57 N x1 x2 x4 n (x5 + r12) (x6 + (1 : Int32)) (x7 + (1 : Int32)) s12))
def D_X12_tries (N : Nat) (σ : St) (x1 : Int32) (x2 : Int32) (x3 : Int32) (x4 : Int32) : Option (Int32 × St) :=
  bp (D_X12_isJudge σ x1) (fun r1 => if r1 = 0 then
      some ((-101 : Int32), σ)
    else
      bp (D_X12_in x2.toInt64 (1 : Int64) (20 : Int64)) (fun r3 => if r3 = 0 then
          some ((-102 : Int32), σ)
        else
          if x3 < 0 then
            some ((-102 : Int32), σ)
          else
            bp (D_X12_in x4.toInt64 (0 : Int64) (2 : Int64)) (fun r6 => if r6 = 0 then
                some ((-102 : Int32), σ)
              else
                L_X12_tries_57 N x1 x2 x4 N (0 : Int32) (0 : Int32) (0 : Int32) (pt σ 31 20 x3))))
end
section
/-! worlds, contexts, rows of the kit over them -/
abbrev Gx : Type := va_G × (Nat → ClassId) × (Nat → Nat)
abbrev ty3 (g : Gx) : List (ClassId × FieldType) := [(g.2.1 0, .int), (g.2.1 1, .boolean), (g.2.1 2, .object "JudgedRows$Judge")]
def tb : List Cond := lw_tbl.filter goodWord
theorem tb_in {w : Cond} (i : Nat) (h : lw_tbl[i]? = some w) (hg : goodWord w = true) : w ∈ tb := List.mem_filter.mpr ⟨List.mem_of_getElem? h, hg⟩
theorem tb_good {w : Cond} (h : w ∈ tb) : goodWord w = true := (List.mem_filter.mp h).2
theorem tb_sub {ws : List Cond} (h : ∀ w ∈ ws, w ∈ tb) : GoodIn tb ws := fun w hw => ⟨h w hw, good_of_word (tb_good (h w hw))⟩
def Inj (g : Gx) : Prop := ∀ i j : Nat, i < 41 → j < 41 → g.2.2 i = g.2.2 j → i = j
def wX (g : Gx) (σ : St) : va_W := [
  (g.2.2 0, .inr (11, [.ref (g.2.2 1), .ref (g.2.2 3), .ref (g.2.2 9), .ref (g.2.2 10), .ref (g.2.2 15), .ref (g.2.2 20), .ref (g.2.2 24), .ref (g.2.2 28), .ref (g.2.2 30), .int (σ 0 9), .int (σ 0 10), .int (σ 0 11), .int (σ 0 12), .int (σ 0 13), .int (σ 0 14)])),
  (g.2.2 1, .inr (3, [.ref (g.2.2 2), .int (σ 1 1)])),
  (g.2.2 2, .inl (g.2.1 0, 12, .inl (σ 2))),
  (g.2.2 3, .inl (g.2.1 2, 5, .inr (.inr (.inr (.inr (fun i => some (g.2.2 (4 + i)))))))),
  (g.2.2 4, .inr (2, [])),
  (g.2.2 5, .inr (7, [])),
  (g.2.2 6, .inr (8, [])),
  (g.2.2 7, .inr (10, [])),
  (g.2.2 8, .inr (1, [])),
  (g.2.2 9, .inl (g.2.1 0, 5, .inl (σ 9))),
  (g.2.2 10, .inr (0, [.ref (g.2.2 11), .ref (g.2.2 12), .ref (g.2.2 13), .ref (g.2.2 14), .int (σ 10 4), .int (σ 10 5)])),
  (g.2.2 11, .inl (g.2.1 0, 3, .inl (σ 11))),
  (g.2.2 12, .inl (g.2.1 0, 12, .inl (σ 12))),
  (g.2.2 13, .inl (g.2.1 0, 12, .inl (σ 13))),
  (g.2.2 14, .inl (g.2.1 0, 12, .inl (σ 14))),
  (g.2.2 15, .inr (0, [.ref (g.2.2 16), .ref (g.2.2 17), .ref (g.2.2 18), .ref (g.2.2 19), .int (σ 15 4), .int (σ 15 5)])),
  (g.2.2 16, .inl (g.2.1 0, 3, .inl (σ 16))),
  (g.2.2 17, .inl (g.2.1 0, 12, .inl (σ 17))),
  (g.2.2 18, .inl (g.2.1 0, 12, .inl (σ 18))),
  (g.2.2 19, .inl (g.2.1 0, 12, .inl (σ 19))),
  (g.2.2 20, .inr (6, [.int (σ 20 0), .int (σ 20 1), .int (σ 20 2), .ref (g.2.2 21), .ref (g.2.2 22), .ref (g.2.2 23)])),
  (g.2.2 21, .inl (g.2.1 0, 216, .inl (σ 21))),
  (g.2.2 22, .inl (g.2.1 0, 216, .inl (σ 22))),
  (g.2.2 23, .inl (g.2.1 0, 216, .inl (σ 23))),
  (g.2.2 24, .inr (5, [.ref (g.2.2 20), .ref (g.2.2 25), .int (σ 24 2), .ref (g.2.2 26), .ref (g.2.2 27)])),
  (g.2.2 25, .inl (g.2.1 0, 216, .inl (σ 25))),
  (g.2.2 26, .inl (g.2.1 1, 216, .inl (σ 26))),
  (g.2.2 27, .inl (g.2.1 0, 31, .inl (σ 27))),
  (g.2.2 28, .inr (4, [.ref (g.2.2 20), .ref (g.2.2 29), .int (σ 28 2), .int (σ 28 3), .int (σ 28 4), .int (σ 28 5)])),
  (g.2.2 29, .inl (g.2.1 0, 961, .inl (σ 29))),
  (g.2.2 30, .inr (9, [.ref (g.2.2 20), .ref (g.2.2 24), .int (σ 30 2), .int (σ 30 3), .int (σ 30 4)]))]
def wM (g : Gx) (h : Int64) (σ : St) : va_W := [
  (g.2.2 31, .inr (12, [.ref (g.2.2 32), .int (σ 31 1), .int (σ 31 2), .int (σ 31 3), .int (σ 31 4), .int (σ 31 5), .int (σ 31 6), .int (σ 31 7), .int (σ 31 8), .int (σ 31 9), .ref (g.2.2 33), .ref (g.2.2 34), .ref (g.2.2 35), .ref (g.2.2 36), .int (σ 31 14), .int (σ 31 15), .int (σ 31 16), .int (σ 31 17), .ref (g.2.2 37), .ref (g.2.2 38), .int (σ 31 20), .int (σ 31 21), .int (σ 31 22), .int (σ 31 23), .ref (g.2.2 39), .ref (g.2.2 40), .long h])),
  (g.2.2 32, .inl (g.2.1 0, 12, .inl (σ 32))),
  (g.2.2 33, .inl (g.2.1 0, 3, .inl (σ 33))),
  (g.2.2 34, .inl (g.2.1 0, 36, .inl (σ 34))),
  (g.2.2 35, .inl (g.2.1 0, 216, .inl (σ 35))),
  (g.2.2 36, .inl (g.2.1 0, 41, .inl (σ 36))),
  (g.2.2 37, .inl (g.2.1 0, 4096, .inl (σ 37))),
  (g.2.2 38, .inl (g.2.1 0, 4096, .inl (σ 38))),
  (g.2.2 39, .inl (g.2.1 0, 3, .inl (σ 39))),
  (g.2.2 40, .inl (g.2.1 0, 36, .inl (σ 40)))]

def exC : List Cond := [.castable "JudgedRows$CurtJudge" "JudgedRows$ShortJudge"]
def exN : List (String × String) := [("JudgedRows$Judge", "JudgedRows$ShortJudge"), ("JudgedRows$Judge", "JudgedRows$SternJudge"), ("JudgedRows$Judge", "JudgedRows$WrongJudge"), ("JudgedRows$Judge", "JudgedRows$CurtJudge"), ("JudgedRows$ShortJudge", "JudgedRows$SternJudge"), ("JudgedRows$ShortJudge", "JudgedRows$WrongJudge"), ("JudgedRows$ShortJudge", "JudgedRows$CurtJudge"), ("JudgedRows$SternJudge", "JudgedRows$ShortJudge"), ("JudgedRows$SternJudge", "JudgedRows$WrongJudge"), ("JudgedRows$SternJudge", "JudgedRows$CurtJudge"), ("JudgedRows$WrongJudge", "JudgedRows$ShortJudge"), ("JudgedRows$WrongJudge", "JudgedRows$SternJudge"), ("JudgedRows$WrongJudge", "JudgedRows$CurtJudge"), ("JudgedRows$CurtJudge", "JudgedRows$SternJudge"), ("JudgedRows$CurtJudge", "JudgedRows$WrongJudge")]
/-- what stands beside the class's world: its one text, the flag of the texts, who is of which kind -/
def ExX (g : Gx) (A : Nat → Prop) (U : State) : Prop := vk_R RX3 37 "jstwc" (g.2.2 50) U ∧ vk_S 1 [5] [[106, 115, 116, 119, 99]] (fun _ => g.2.2 50) (fun _ => g.2.2 51) A U U.heap ∧ va_Z "java/lang/String" "COMPACT_STRINGS" "Z" (.int 1) A U U.heap ∧ va_Nw (.castable "JudgedRows$CurtJudge" "JudgedRows$ShortJudge") U ∧ ∀ q ∈ exN, va_Nc q.1 q.2 U
theorem ExX.pass {g : Gx} {A B : Nat → Prop} {s U : State} {H : Heap} {locs : List Loc} (h : ExX g A s) (hS : va_S A s.heap H locs) (hU : U.heap = H) (hW : s.WarmedH U.vm) (hB : ∀ q, B q → A q) : ExX g B U := by
  subst hU
  obtain ⟨h1, h2, h3, h4, h5⟩ := h
  exact ⟨h1.warm hW, ((h2.kept hS.2.1).narrow hB).moved hW.alike, ((h3.kept hS.2.1).narrow hB).moved hW.alike, va_Nw.warmC hW h4, fun q hq => va_Nc.moved hW.alike (h5 q hq)⟩
theorem ExX.blind {g : Gx} {A : Nat → Prop} {U : State} {f : JFrame} {mk : MethodId} {a : Array Value} (h : ExX g A U) : ExX g A (U.calling f mk a) := by
  obtain ⟨h1, h2, h3, h4, h5⟩ := h
  exact ⟨h1.same rfl, vk_S.moved (u := U) (U := U.calling f mk a) (Vm.Alike.refl U.vm) h2, va_Z.moved (u := U) (U := U.calling f mk a) (Vm.Alike.refl U.vm) h3, va_Nw.same (u := U) (U := U.calling f mk a) rfl rfl h4, fun q hq => va_Nc.moved (u := U) (U := U.calling f mk a) (Vm.Alike.refl U.vm) (h5 q hq)⟩

theorem fst_X (g : Gx) (σ : St) : (wX g σ).map Prod.fst = (List.range 31).map (fun k => g.2.2 (0 + k)) := by simp [wX, List.range, List.range.loop]
theorem at_X {g : Gx} {σ : St} {i : Nat} {q : Nat × va_E} (e : (wX g σ)[i]? = some q) : i < 31 ∧ q.1 = g.2.2 (0 + i) := by
  have h1 : ((wX g σ).map Prod.fst)[i]? = some q.1 := by rw [List.getElem?_map, e]; rfl
  rw [fst_X, List.getElem?_map] at h1
  by_cases hi : i < 31
  · rw [List.getElem?_range hi] at h1
    exact ⟨hi, (Option.some.inj h1).symm⟩
  · rw [List.getElem?_eq_none (by rw [List.length_range]; omega)] at h1
    cases h1
/-- which cells a method of this side may change -/
def AX (g : Gx) (sz : Nat) : Nat → Prop := fun q => (∃ k, k < 31 ∧ q = g.2.2 (0 + k)) ∨ sz ≤ q
theorem vD_X {g : Gx} {A : Nat → Prop} (hi : Inj g) (hA : ∀ k, k < 31 → A (g.2.2 (0 + k))) (σ : St) : va_D A (wX g σ) := by
  refine ⟨fun i j p q h1 h2 e => ?_, fun k q h1 => ?_⟩
  · obtain ⟨a1, a2⟩ := at_X h1
    obtain ⟨b1, b2⟩ := at_X h2
    rw [a2, b2] at e
    have := hi (0 + i) (0 + j) (by omega) (by omega) e
    omega
  · obtain ⟨a1, a2⟩ := at_X h1
    rw [a2]; exact hA k a1
def CX (g : Gx) (A : Nat → Prop) (p : Program) (s : State) (m : MethodId) (args : Array Value) (meth : Method) (c : Code) (cc : ByteArray) (nL : Nat) (own : String) : Prop :=
  p.tables.exec = Jvm.exec ∧ c.code = cc ∧ c.maxLocals = nL ∧ s.vm.findClass own = some m.cls ∧ (∀ w ∈ tb, w.before args s = true) ∧ va_K g.1 vwCl (ty3 g) s ∧ Inj g ∧ (∀ k, k < 31 → A (g.2.2 (0 + k))) ∧ (∀ q, s.heap.size ≤ q → A q) ∧ meth.locks = false ∧ ExX g A s
def PcX (g : Gx) (av : List Value) (σ : St) (sz : Nat) : Array Value → State → Prop := va_Pc av (fun U => U.heap.size = sz ∧ va_P g.1 vwCl (wX g σ) U.heap ∧ va_K g.1 vwCl (ty3 g) U ∧ Inj g ∧ ExX g (AX g sz) U)
def BX (g : Gx) (u : St) (t : State) : Prop := va_P g.1 vwCl (wX g u) t.heap ∧ va_K g.1 vwCl (ty3 g) t
def QiX (g : Gx) (A : Nat → Prop) (r : Int32) (u : St) : Array Value → State → Outcome → State → Prop := va_Qi (fun (r' : Int32) (u' : St) => r' = r ∧ u' = u) (BX g) A
def QlX (g : Gx) (A : Nat → Prop) (r : Int64) (u : St) : Array Value → State → Outcome → State → Prop := va_Ql (fun (r' : Int64) (u' : St) => r' = r ∧ u' = u) (BX g) A
def QvX (g : Gx) (A : Nat → Prop) (u : St) : Array Value → State → Outcome → State → Prop := va_Qv (fun (u' : St) => u' = u) (BX g) A
def QrX (g : Gx) (A : Nat → Prop) (k : Nat) (u : St) : Array Value → State → Outcome → State → Prop := va_Qr (fun (u' : St) => u' = u) (fun u' a t => a = g.2.2 k ∧ BX g u' t) A
theorem blind_X {g : Gx} {av : List Value} {σ : St} {sz : Nat} : FrameBlind (PcX g av σ sz) := by
  intro a U f mk q
  obtain ⟨q0, q1, qP, qK, qI, hE⟩ := q
  exact ⟨q0, q1, qP, va_K.moved (u := U) (U := U.calling f mk a) (Vm.Alike.refl U.vm) qK, qI, hE.blind⟩
section WX
variable {p : Program} {l : Launch} {e : Env} {R : Room} {s : State} {m : MethodId} {args : Array Value} {below : List Frame} {meth : Method} {c : Code} {H : Heap} {locs : List Loc} {cells slots : Nat} {Q : State → Prop} {cc : ByteArray} {nL pc : Nat} {own : String} {ls : Array Slot} {rest : List Value} {g : Gx} {A : Nat → Prop} {σ : St}
theorem CX.D (C : CX g A p s m args meth c cc nL own) : va_D A (wX g σ) := vD_X C.2.2.2.2.2.2.1 C.2.2.2.2.2.2.2.1 σ
theorem CX.sub (C : CX g A p s m args meth c cc nL own) (hS : va_S A s.heap H locs) : ∀ q, AX g H.size q → A q := by
  intro q h
  rcases h with ⟨k, hk, rfl⟩ | h
  · exact C.2.2.2.2.2.2.2.1 k hk
  · exact C.2.2.2.2.2.2.2.2.1 q (Nat.le_trans hS.1 h)
/-- the start of a method of this side -/
theorem CX.of {y : MethodName} {ws : List Cond} {rm : Room} {maxL : Nat} {ret : Option FieldType} {av : List Value} {s₁ : State} (B : BodyLoose p l y (headSpec ws rm) cc maxL ret e s m args below meth c s₁) (hml : c.maxLocals = maxL) (hw : ∀ w ∈ tb, w ∈ ws) (hy : y.cls = own) (hv : PcX g av σ s.heap.size args s) : CX g (AX g s.heap.size) p s m args meth c cc maxL own := by
  obtain ⟨-, -, -, hK, hI, hE⟩ := hv
  have hts := atoms_spec (ws := ws) B.pre
  exact ⟨B.exec, B.bytes, hml, hy ▸ findClass_of_methodNamed B.named, fun w h => hts w (hw w h), hK, hI, fun k hk => Or.inl ⟨k, hk, rfl⟩, fun q h => Or.inr h, B.notSynchronized, hE⟩
/-- what a callee of this side finds -/
theorem CX.pre (C : CX g A p s m args meth c cc nL own) (hP : va_P g.1 vwCl (wX g σ) H) (hS : va_S A s.heap H locs) {av : List Value} {U : State} (hU : U.heap = H) (hW : s.WarmedH U.vm) : PcX g av σ H.size av.toArray U := by
  obtain ⟨c1, c2, c3, c4, c5, c6, c7, c8, c9, c10, c11⟩ := id C
  exact ⟨rfl, by rw [hU], by rw [hU]; exact hP, va_K.moved hW.alike c6, c7, c11.pass hS hU hW (C.sub hS)⟩
theorem iaX (C : CX g A p s m args meth c cc nL own) (hP : va_P g.1 vwCl (wX g σ) H) (q : Nat) {n k : Nat} {i : Int32} (ha : (wX g σ)[q]? = some (g.2.2 k, .inl (g.2.1 0, n, .inl (σ k)))) (hin : vp_in i n) (hd : decode cc pc = .ok (.iaload, 1))
    (kk : W p l e R s m args below meth c H locs cells slots Q (F0 m (pc + 1) ls (.int (σ k i.toNatClampNeg) :: rest))) : W p l e R s m args below meth c H locs cells slots Q (F0 m pc ls (.int i :: .ref (g.2.2 k) :: rest)) :=
  va_iald C.1 C.2.1 C.2.2.2.2.2.1 hP q 0 ha rfl hin hd kk
theorem zaX (C : CX g A p s m args meth c cc nL own) (hP : va_P g.1 vwCl (wX g σ) H) (q : Nat) {n k : Nat} {i : Int32} (ha : (wX g σ)[q]? = some (g.2.2 k, .inl (g.2.1 1, n, .inl (σ k)))) (hin : vp_in i n) (hd : decode cc pc = .ok (.baload, 1))
    (kk : W p l e R s m args below meth c H locs cells slots Q (F0 m (pc + 1) ls (.int (σ k i.toNatClampNeg) :: rest))) : W p l e R s m args below meth c H locs cells slots Q (F0 m pc ls (.int i :: .ref (g.2.2 k) :: rest)) :=
  va_zald C.1 C.2.1 C.2.2.2.2.2.1 hP q 1 ha rfl hin hd kk
theorem isX (C : CX g A p s m args meth c cc nL own) (hP : va_P g.1 vwCl (wX g σ) H) (hS : va_S A s.heap H locs) (q : Nat) {n k : Nat} {i x : Int32} (ha : (wX g σ)[q]? = some (g.2.2 k, .inl (g.2.1 0, n, .inl (σ k)))) (hin : vp_in i n) (hd : decode cc pc = .ok (.iastore, 1))
    (he : (wX g σ).set q (g.2.2 k, .inl (g.2.1 0, n, .inl (upd (σ k) i.toNatClampNeg x))) = wX g (pt σ k i.toNatClampNeg x))
    (kk : ∀ (H1 : Heap) (locs1 : List Loc), va_P g.1 vwCl (wX g (pt σ k i.toNatClampNeg x)) H1 → va_S A s.heap H1 locs1 → W p l e R s m args below meth c H1 locs1 cells slots Q (F0 m (pc + 1) ls rest)) : W p l e R s m args below meth c H locs cells slots Q (F0 m pc ls (.int x :: .int i :: .ref (g.2.2 k) :: rest)) :=
  va_iast C.1 C.2.1 C.2.2.2.2.2.1 hP C.D hS q 0 ha rfl hin hd (fun H1 locs1 h1 _ h3 => kk H1 locs1 (he ▸ h1) h3)
theorem zsX (C : CX g A p s m args meth c cc nL own) (hP : va_P g.1 vwCl (wX g σ) H) (hS : va_S A s.heap H locs) (q : Nat) {n k : Nat} {i x : Int32} (ha : (wX g σ)[q]? = some (g.2.2 k, .inl (g.2.1 1, n, .inl (σ k)))) (hx : vp_nar .boolean x = x) (hin : vp_in i n) (hd : decode cc pc = .ok (.bastore, 1))
    (he : (wX g σ).set q (g.2.2 k, .inl (g.2.1 1, n, .inl (upd (σ k) i.toNatClampNeg x))) = wX g (pt σ k i.toNatClampNeg x))
    (kk : ∀ (H1 : Heap) (locs1 : List Loc), va_P g.1 vwCl (wX g (pt σ k i.toNatClampNeg x)) H1 → va_S A s.heap H1 locs1 → W p l e R s m args below meth c H1 locs1 cells slots Q (F0 m (pc + 1) ls rest)) : W p l e R s m args below meth c H locs cells slots Q (F0 m pc ls (.int x :: .int i :: .ref (g.2.2 k) :: rest)) :=
  va_zast C.1 C.2.1 C.2.2.2.2.2.1 hP C.D hS q 1 ha rfl hin hd (fun H1 locs1 h1 _ h3 => kk H1 locs1 (he ▸ (by rw [hx] at h1; exact h1)) h3)
theorem alX (C : CX g A p s m args meth c cc nL own) (hP : va_P g.1 vwCl (wX g σ) H) (q : Nat) {n k : Nat} {v : Int32} (ha : (wX g σ)[q]? = some (g.2.2 k, .inl (g.2.1 0, n, .inl (σ k)))) (hv : Int32.ofNat n = v) (hd : decode cc pc = .ok (.arraylength, 1))
    (kk : W p l e R s m args below meth c H locs cells slots Q (F0 m (pc + 1) ls (.int v :: rest))) : W p l e R s m args below meth c H locs cells slots Q (F0 m pc ls (.ref (g.2.2 k) :: rest)) :=
  va_alen C.1 C.2.1 C.2.2.2.2.2.1 hP q 0 ha rfl hv hd kk
/-- behind a call of this side: the world, the frame -/
theorem CX.back (C : CX g A p s m args meth c cc nL own) {t : State} {H1 : Heap} {u : St} (ht : t.heap = H1) (hB : BX g u t) : va_P g.1 vwCl (wX g u) H1 := by rw [← ht]; exact hB.1
end WX

theorem fst_M (g : Gx) (h : Int64) (σ : St) : (wM g h σ).map Prod.fst = (List.range 10).map (fun k => g.2.2 (31 + k)) := by simp [wM, List.range, List.range.loop]
theorem at_M {g : Gx} {h : Int64} {σ : St} {i : Nat} {q : Nat × va_E} (e : (wM g h σ)[i]? = some q) : i < 10 ∧ q.1 = g.2.2 (31 + i) := by
  have h1 : ((wM g h σ).map Prod.fst)[i]? = some q.1 := by rw [List.getElem?_map, e]; rfl
  rw [fst_M, List.getElem?_map] at h1
  by_cases hi : i < 10
  · rw [List.getElem?_range hi] at h1
    exact ⟨hi, (Option.some.inj h1).symm⟩
  · rw [List.getElem?_eq_none (by rw [List.length_range]; omega)] at h1
    cases h1
/-- which cells a method of this side may change -/
def AM (g : Gx) (sz : Nat) : Nat → Prop := fun q => (∃ k, k < 10 ∧ q = g.2.2 (31 + k)) ∨ sz ≤ q
theorem vD_M {g : Gx} {A : Nat → Prop} (hi : Inj g) (hA : ∀ k, k < 10 → A (g.2.2 (31 + k))) (h : Int64) (σ : St) : va_D A (wM g h σ) := by
  refine ⟨fun i j p q h1 h2 e => ?_, fun k q h1 => ?_⟩
  · obtain ⟨a1, a2⟩ := at_M h1
    obtain ⟨b1, b2⟩ := at_M h2
    rw [a2, b2] at e
    have := hi (31 + i) (31 + j) (by omega) (by omega) e
    omega
  · obtain ⟨a1, a2⟩ := at_M h1
    rw [a2]; exact hA k a1
def CM (g : Gx) (A : Nat → Prop) (p : Program) (s : State) (m : MethodId) (args : Array Value) (meth : Method) (c : Code) (cc : ByteArray) (nL : Nat) (own : String) : Prop :=
  p.tables.exec = Jvm.exec ∧ c.code = cc ∧ c.maxLocals = nL ∧ s.vm.findClass own = some m.cls ∧ (∀ w ∈ tb, w.before args s = true) ∧ va_K g.1 vwCl (ty3 g) s ∧ Inj g ∧ (∀ k, k < 10 → A (g.2.2 (31 + k))) ∧ (∀ q, s.heap.size ≤ q → A q) ∧ meth.locks = false
def PcM (g : Gx) (h : Int64) (av : List Value) (σ : St) (sz : Nat) : Array Value → State → Prop := va_Pc av (fun U => U.heap.size = sz ∧ va_P g.1 vwCl (wM g h σ) U.heap ∧ va_K g.1 vwCl (ty3 g) U ∧ Inj g)
def BM (g : Gx) (h : Int64) (u : St) (t : State) : Prop := va_P g.1 vwCl (wM g h u) t.heap ∧ va_K g.1 vwCl (ty3 g) t
def QiM (g : Gx) (h : Int64) (A : Nat → Prop) (r : Int32) (u : St) : Array Value → State → Outcome → State → Prop := va_Qi (fun (r' : Int32) (u' : St) => r' = r ∧ u' = u) (BM g h) A
def QlM (g : Gx) (h : Int64) (A : Nat → Prop) (r : Int64) (u : St) : Array Value → State → Outcome → State → Prop := va_Ql (fun (r' : Int64) (u' : St) => r' = r ∧ u' = u) (BM g h) A
def QvM (g : Gx) (h : Int64) (A : Nat → Prop) (u : St) : Array Value → State → Outcome → State → Prop := va_Qv (fun (u' : St) => u' = u) (BM g h) A
def QrM (g : Gx) (h : Int64) (A : Nat → Prop) (k : Nat) (u : St) : Array Value → State → Outcome → State → Prop := va_Qr (fun (u' : St) => u' = u) (fun u' a t => a = g.2.2 k ∧ BM g h u' t) A
theorem blind_M {g : Gx} {h : Int64} {av : List Value} {σ : St} {sz : Nat} : FrameBlind (PcM g h av σ sz) := by
  intro a U f mk q
  obtain ⟨q0, q1, qP, qK, qI⟩ := q
  exact ⟨q0, q1, qP, va_K.moved (u := U) (U := U.calling f mk a) (Vm.Alike.refl U.vm) qK, qI⟩
section WM
variable {p : Program} {l : Launch} {e : Env} {R : Room} {s : State} {m : MethodId} {args : Array Value} {below : List Frame} {meth : Method} {c : Code} {H : Heap} {locs : List Loc} {cells slots : Nat} {Q : State → Prop} {cc : ByteArray} {nL pc : Nat} {own : String} {ls : Array Slot} {rest : List Value} {g : Gx} {A : Nat → Prop} {σ : St} {h : Int64}
theorem CM.D (C : CM g A p s m args meth c cc nL own) : va_D A (wM g h σ) := vD_M C.2.2.2.2.2.2.1 C.2.2.2.2.2.2.2.1 h σ
theorem CM.sub (C : CM g A p s m args meth c cc nL own) (hS : va_S A s.heap H locs) : ∀ q, AM g H.size q → A q := by
  intro q h
  rcases h with ⟨k, hk, rfl⟩ | h
  · exact C.2.2.2.2.2.2.2.1 k hk
  · exact C.2.2.2.2.2.2.2.2.1 q (Nat.le_trans hS.1 h)
/-- the start of a method of this side -/
theorem CM.of {y : MethodName} {ws : List Cond} {rm : Room} {maxL : Nat} {ret : Option FieldType} {av : List Value} {s₁ : State} (B : BodyLoose p l y (headSpec ws rm) cc maxL ret e s m args below meth c s₁) (hml : c.maxLocals = maxL) (hw : ∀ w ∈ tb, w ∈ ws) (hy : y.cls = own) (hv : PcM g h av σ s.heap.size args s) : CM g (AM g s.heap.size) p s m args meth c cc maxL own := by
  obtain ⟨-, -, -, hK, hI⟩ := hv
  have hts := atoms_spec (ws := ws) B.pre
  exact ⟨B.exec, B.bytes, hml, hy ▸ findClass_of_methodNamed B.named, fun w h => hts w (hw w h), hK, hI, fun k hk => Or.inl ⟨k, hk, rfl⟩, fun q h => Or.inr h, B.notSynchronized⟩
/-- what a callee of this side finds -/
theorem CM.pre (C : CM g A p s m args meth c cc nL own) (hP : va_P g.1 vwCl (wM g h σ) H) (hS : va_S A s.heap H locs) {av : List Value} {U : State} (hU : U.heap = H) (hW : s.WarmedH U.vm) : PcM g h av σ H.size av.toArray U := by
  obtain ⟨c1, c2, c3, c4, c5, c6, c7, c8, c9, c10⟩ := id C
  exact ⟨rfl, by rw [hU], by rw [hU]; exact hP, va_K.moved hW.alike c6, c7⟩
theorem iaM (C : CM g A p s m args meth c cc nL own) (hP : va_P g.1 vwCl (wM g h σ) H) (q : Nat) {n k : Nat} {i : Int32} (ha : (wM g h σ)[q]? = some (g.2.2 k, .inl (g.2.1 0, n, .inl (σ k)))) (hin : vp_in i n) (hd : decode cc pc = .ok (.iaload, 1))
    (kk : W p l e R s m args below meth c H locs cells slots Q (F0 m (pc + 1) ls (.int (σ k i.toNatClampNeg) :: rest))) : W p l e R s m args below meth c H locs cells slots Q (F0 m pc ls (.int i :: .ref (g.2.2 k) :: rest)) :=
  va_iald C.1 C.2.1 C.2.2.2.2.2.1 hP q 0 ha rfl hin hd kk
theorem zaM (C : CM g A p s m args meth c cc nL own) (hP : va_P g.1 vwCl (wM g h σ) H) (q : Nat) {n k : Nat} {i : Int32} (ha : (wM g h σ)[q]? = some (g.2.2 k, .inl (g.2.1 1, n, .inl (σ k)))) (hin : vp_in i n) (hd : decode cc pc = .ok (.baload, 1))
    (kk : W p l e R s m args below meth c H locs cells slots Q (F0 m (pc + 1) ls (.int (σ k i.toNatClampNeg) :: rest))) : W p l e R s m args below meth c H locs cells slots Q (F0 m pc ls (.int i :: .ref (g.2.2 k) :: rest)) :=
  va_zald C.1 C.2.1 C.2.2.2.2.2.1 hP q 1 ha rfl hin hd kk
theorem isM (C : CM g A p s m args meth c cc nL own) (hP : va_P g.1 vwCl (wM g h σ) H) (hS : va_S A s.heap H locs) (q : Nat) {n k : Nat} {i x : Int32} (ha : (wM g h σ)[q]? = some (g.2.2 k, .inl (g.2.1 0, n, .inl (σ k)))) (hin : vp_in i n) (hd : decode cc pc = .ok (.iastore, 1))
    (he : (wM g h σ).set q (g.2.2 k, .inl (g.2.1 0, n, .inl (upd (σ k) i.toNatClampNeg x))) = wM g h (pt σ k i.toNatClampNeg x))
    (kk : ∀ (H1 : Heap) (locs1 : List Loc), va_P g.1 vwCl (wM g h (pt σ k i.toNatClampNeg x)) H1 → va_S A s.heap H1 locs1 → W p l e R s m args below meth c H1 locs1 cells slots Q (F0 m (pc + 1) ls rest)) : W p l e R s m args below meth c H locs cells slots Q (F0 m pc ls (.int x :: .int i :: .ref (g.2.2 k) :: rest)) :=
  va_iast C.1 C.2.1 C.2.2.2.2.2.1 hP C.D hS q 0 ha rfl hin hd (fun H1 locs1 h1 _ h3 => kk H1 locs1 (he ▸ h1) h3)
theorem zsM (C : CM g A p s m args meth c cc nL own) (hP : va_P g.1 vwCl (wM g h σ) H) (hS : va_S A s.heap H locs) (q : Nat) {n k : Nat} {i x : Int32} (ha : (wM g h σ)[q]? = some (g.2.2 k, .inl (g.2.1 1, n, .inl (σ k)))) (hx : vp_nar .boolean x = x) (hin : vp_in i n) (hd : decode cc pc = .ok (.bastore, 1))
    (he : (wM g h σ).set q (g.2.2 k, .inl (g.2.1 1, n, .inl (upd (σ k) i.toNatClampNeg x))) = wM g h (pt σ k i.toNatClampNeg x))
    (kk : ∀ (H1 : Heap) (locs1 : List Loc), va_P g.1 vwCl (wM g h (pt σ k i.toNatClampNeg x)) H1 → va_S A s.heap H1 locs1 → W p l e R s m args below meth c H1 locs1 cells slots Q (F0 m (pc + 1) ls rest)) : W p l e R s m args below meth c H locs cells slots Q (F0 m pc ls (.int x :: .int i :: .ref (g.2.2 k) :: rest)) :=
  va_zast C.1 C.2.1 C.2.2.2.2.2.1 hP C.D hS q 1 ha rfl hin hd (fun H1 locs1 h1 _ h3 => kk H1 locs1 (he ▸ (by rw [hx] at h1; exact h1)) h3)
theorem alM (C : CM g A p s m args meth c cc nL own) (hP : va_P g.1 vwCl (wM g h σ) H) (q : Nat) {n k : Nat} {v : Int32} (ha : (wM g h σ)[q]? = some (g.2.2 k, .inl (g.2.1 0, n, .inl (σ k)))) (hv : Int32.ofNat n = v) (hd : decode cc pc = .ok (.arraylength, 1))
    (kk : W p l e R s m args below meth c H locs cells slots Q (F0 m (pc + 1) ls (.int v :: rest))) : W p l e R s m args below meth c H locs cells slots Q (F0 m pc ls (.ref (g.2.2 k) :: rest)) :=
  va_alen C.1 C.2.1 C.2.2.2.2.2.1 hP q 0 ha rfl hv hd kk
/-- behind a call of this side: the world, the frame -/
theorem CM.back (C : CM g A p s m args meth c cc nL own) {t : State} {H1 : Heap} {u : St} (ht : t.heap = H1) (hB : BM g h u t) : va_P g.1 vwCl (wM g h u) H1 := by rw [← ht]; exact hB.1
end WM
end
section
/-! fields by pool numbers -/
theorem inX0 : ∀ w ∈ wsX00, w ∈ tb := by decide +kernel
theorem inX1 : ∀ w ∈ wsX10, w ∈ tb := by decide +kernel
theorem inX2 : ∀ w ∈ wsX20, w ∈ tb := by decide +kernel
theorem inX3 : ∀ w ∈ wsX30, w ∈ tb := by decide +kernel
theorem inX4 : ∀ w ∈ wsX40, w ∈ tb := by decide +kernel
theorem inX5 : ∀ w ∈ wsX50, w ∈ tb := by decide +kernel
theorem inX6 : ∀ w ∈ wsX60, w ∈ tb := by decide +kernel
theorem inX7 : ∀ w ∈ wsX70, w ∈ tb := by decide +kernel
theorem inX8 : ∀ w ∈ wsX80, w ∈ tb := by decide +kernel
theorem inX9 : ∀ w ∈ wsX90, w ∈ tb := by decide +kernel
theorem inX10 : ∀ w ∈ wsX100, w ∈ tb := by decide +kernel
theorem inX11 : ∀ w ∈ wsX110, w ∈ tb := by decide +kernel
theorem inX12 : ∀ w ∈ wsX120, w ∈ tb := by decide +kernel
section FLD
variable {p : Program} {l : Launch} {e : Env} {R : Room} {s : State} {m : MethodId} {args : Array Value} {below : List Frame} {meth : Method} {c : Code} {H : Heap} {locs : List Loc} {cells slots : Nat} {Q : State → Prop} {cc : ByteArray} {nL pc : Nat} {ls : Array Slot} {rest : List Value} {g : Gx} {A : Nat → Prop} {σ : St} {h : Int64}
theorem gf_X3_9_1 (C : CX g A p s m args meth c cc nL RX3) (hP : va_P g.1 vwCl (wX g σ) H) (hd : decode cc pc = .ok (.getfield 9, 3)) (kk : W p l e R s m args below meth c H locs cells slots Q (F0 m (pc + 3) ls (.ref (g.2.2 2) :: rest))) : W p l e R s m args below meth c H locs cells slots Q (F0 m pc ls (.ref (g.2.2 1) :: rest)) :=
  va_get (ci := 3) (v := .ref (g.2.2 2)) (C := RX3) (T := TX3) (N := 2) C.1 C.2.1 C.2.2.2.2.1 inX3 C.2.2.2.1 C.2.2.2.2.2.1 hP 1 rfl rfl 0 (by decide) (C.2.2.2.2.1 (.fieldLink RX3 9 "JudgedRows$Page" "codes" "[I") (tb_in 92 (by decide +kernel) (by decide +kernel))) (fun _ h => h) rfl hd kk
theorem gf_X11_287_1 (C : CX g A p s m args meth c cc nL RX11) (hP : va_P g.1 vwCl (wX g σ) H) (hd : decode cc pc = .ok (.getfield 287, 3)) (kk : W p l e R s m args below meth c H locs cells slots Q (F0 m (pc + 3) ls (.ref (g.2.2 2) :: rest))) : W p l e R s m args below meth c H locs cells slots Q (F0 m pc ls (.ref (g.2.2 1) :: rest)) :=
  va_get (ci := 3) (v := .ref (g.2.2 2)) (C := RX3) (T := TX3) (N := 2) C.1 C.2.1 C.2.2.2.2.1 inX3 C.2.2.2.1 C.2.2.2.2.2.1 hP 1 rfl rfl 0 (by decide) (C.2.2.2.2.1 (.fieldLink RX11 287 "JudgedRows$Page" "codes" "[I") (tb_in 93 (by decide +kernel) (by decide +kernel))) (fun _ h => h) rfl hd kk
theorem gf_X3_15_1 (C : CX g A p s m args meth c cc nL RX3) (hP : va_P g.1 vwCl (wX g σ) H) (hd : decode cc pc = .ok (.getfield 15, 3)) (kk : W p l e R s m args below meth c H locs cells slots Q (F0 m (pc + 3) ls (.int (σ 1 1) :: rest))) : W p l e R s m args below meth c H locs cells slots Q (F0 m pc ls (.ref (g.2.2 1) :: rest)) :=
  va_get (ci := 3) (v := .int (σ 1 1)) (C := RX3) (T := TX3) (N := 2) C.1 C.2.1 C.2.2.2.2.1 inX3 C.2.2.2.1 C.2.2.2.2.2.1 hP 1 rfl rfl 1 (by decide) (C.2.2.2.2.1 (.fieldLink RX3 15 "JudgedRows$Page" "size" "I") (tb_in 94 (by decide +kernel) (by decide +kernel))) (fun _ h => h) rfl hd kk
theorem pf_X3_15_1 (C : CX g A p s m args meth c cc nL RX3) (hP : va_P g.1 vwCl (wX g σ) H) (hS : va_S A s.heap H locs) {v : Int32} (hd : decode cc pc = .ok (.putfield 15, 3)) (kk : ∀ (H1 : Heap) (locs1 : List Loc), va_P g.1 vwCl (wX g (pt σ 1 1 v)) H1 → va_S A s.heap H1 locs1 → W p l e R s m args below meth c H1 locs1 cells slots Q (F0 m (pc + 3) ls rest)) : W p l e R s m args below meth c H locs cells slots Q (F0 m pc ls (.int v :: .ref (g.2.2 1) :: rest)) :=
  va_put (ci := 3) (v := .int v) (ty := .int) (C := RX3) (T := TX3) (N := 2) C.1 C.2.1 C.2.2.2.2.1 inX3 tyX3 tyX3_ok nmX3 C.2.2.2.1 C.2.2.2.2.2.1 hP C.D hS 1 rfl rfl 1 (by decide) (C.2.2.2.2.1 (.fieldLink RX3 15 "JudgedRows$Page" "size" "I") (tb_in 94 (by decide +kernel) (by decide +kernel))) (fun _ h => h) rfl (by decide +kernel) rfl rfl (Nat.le_of_ble_eq_true rfl) hd (fun H1 locs1 h1 _ h3 => kk H1 locs1 h1 h3)
theorem gf_X11_81_1 (C : CX g A p s m args meth c cc nL RX11) (hP : va_P g.1 vwCl (wX g σ) H) (hd : decode cc pc = .ok (.getfield 81, 3)) (kk : W p l e R s m args below meth c H locs cells slots Q (F0 m (pc + 3) ls (.int (σ 1 1) :: rest))) : W p l e R s m args below meth c H locs cells slots Q (F0 m pc ls (.ref (g.2.2 1) :: rest)) :=
  va_get (ci := 3) (v := .int (σ 1 1)) (C := RX3) (T := TX3) (N := 2) C.1 C.2.1 C.2.2.2.2.1 inX3 C.2.2.2.1 C.2.2.2.2.2.1 hP 1 rfl rfl 1 (by decide) (C.2.2.2.2.1 (.fieldLink RX11 81 "JudgedRows$Page" "size" "I") (tb_in 95 (by decide +kernel) (by decide +kernel))) (fun _ h => h) rfl hd kk
theorem pf_X11_81_1 (C : CX g A p s m args meth c cc nL RX11) (hP : va_P g.1 vwCl (wX g σ) H) (hS : va_S A s.heap H locs) {v : Int32} (hd : decode cc pc = .ok (.putfield 81, 3)) (kk : ∀ (H1 : Heap) (locs1 : List Loc), va_P g.1 vwCl (wX g (pt σ 1 1 v)) H1 → va_S A s.heap H1 locs1 → W p l e R s m args below meth c H1 locs1 cells slots Q (F0 m (pc + 3) ls rest)) : W p l e R s m args below meth c H locs cells slots Q (F0 m pc ls (.int v :: .ref (g.2.2 1) :: rest)) :=
  va_put (ci := 3) (v := .int v) (ty := .int) (C := RX3) (T := TX3) (N := 2) C.1 C.2.1 C.2.2.2.2.1 inX3 tyX3 tyX3_ok nmX3 C.2.2.2.1 C.2.2.2.2.2.1 hP C.D hS 1 rfl rfl 1 (by decide) (C.2.2.2.2.1 (.fieldLink RX11 81 "JudgedRows$Page" "size" "I") (tb_in 95 (by decide +kernel) (by decide +kernel))) (fun _ h => h) rfl (by decide +kernel) rfl rfl (Nat.le_of_ble_eq_true rfl) hd (fun H1 locs1 h1 _ h3 => kk H1 locs1 h1 h3)
theorem gf_X0_9_10 (C : CX g A p s m args meth c cc nL RX0) (hP : va_P g.1 vwCl (wX g σ) H) (hd : decode cc pc = .ok (.getfield 9, 3)) (kk : W p l e R s m args below meth c H locs cells slots Q (F0 m (pc + 3) ls (.ref (g.2.2 11) :: rest))) : W p l e R s m args below meth c H locs cells slots Q (F0 m pc ls (.ref (g.2.2 10) :: rest)) :=
  va_get (ci := 0) (v := .ref (g.2.2 11)) (C := RX0) (T := TX0) (N := 6) C.1 C.2.1 C.2.2.2.2.1 inX0 C.2.2.2.1 C.2.2.2.2.2.1 hP 10 rfl rfl 0 (by decide) (C.2.2.2.2.1 (.fieldLink RX0 9 "JudgedRows$Course" "kinds" "[I") (tb_in 144 (by decide +kernel) (by decide +kernel))) (fun _ h => h) rfl hd kk
theorem gf_X0_9_15 (C : CX g A p s m args meth c cc nL RX0) (hP : va_P g.1 vwCl (wX g σ) H) (hd : decode cc pc = .ok (.getfield 9, 3)) (kk : W p l e R s m args below meth c H locs cells slots Q (F0 m (pc + 3) ls (.ref (g.2.2 16) :: rest))) : W p l e R s m args below meth c H locs cells slots Q (F0 m pc ls (.ref (g.2.2 15) :: rest)) :=
  va_get (ci := 0) (v := .ref (g.2.2 16)) (C := RX0) (T := TX0) (N := 6) C.1 C.2.1 C.2.2.2.2.1 inX0 C.2.2.2.1 C.2.2.2.2.2.1 hP 15 rfl rfl 0 (by decide) (C.2.2.2.2.1 (.fieldLink RX0 9 "JudgedRows$Course" "kinds" "[I") (tb_in 144 (by decide +kernel) (by decide +kernel))) (fun _ h => h) rfl hd kk
theorem gf_X11_113_10 (C : CX g A p s m args meth c cc nL RX11) (hP : va_P g.1 vwCl (wX g σ) H) (hd : decode cc pc = .ok (.getfield 113, 3)) (kk : W p l e R s m args below meth c H locs cells slots Q (F0 m (pc + 3) ls (.ref (g.2.2 11) :: rest))) : W p l e R s m args below meth c H locs cells slots Q (F0 m pc ls (.ref (g.2.2 10) :: rest)) :=
  va_get (ci := 0) (v := .ref (g.2.2 11)) (C := RX0) (T := TX0) (N := 6) C.1 C.2.1 C.2.2.2.2.1 inX0 C.2.2.2.1 C.2.2.2.2.2.1 hP 10 rfl rfl 0 (by decide) (C.2.2.2.2.1 (.fieldLink RX11 113 "JudgedRows$Course" "kinds" "[I") (tb_in 145 (by decide +kernel) (by decide +kernel))) (fun _ h => h) rfl hd kk
theorem gf_X11_113_15 (C : CX g A p s m args meth c cc nL RX11) (hP : va_P g.1 vwCl (wX g σ) H) (hd : decode cc pc = .ok (.getfield 113, 3)) (kk : W p l e R s m args below meth c H locs cells slots Q (F0 m (pc + 3) ls (.ref (g.2.2 16) :: rest))) : W p l e R s m args below meth c H locs cells slots Q (F0 m pc ls (.ref (g.2.2 15) :: rest)) :=
  va_get (ci := 0) (v := .ref (g.2.2 16)) (C := RX0) (T := TX0) (N := 6) C.1 C.2.1 C.2.2.2.2.1 inX0 C.2.2.2.1 C.2.2.2.2.2.1 hP 15 rfl rfl 0 (by decide) (C.2.2.2.2.1 (.fieldLink RX11 113 "JudgedRows$Course" "kinds" "[I") (tb_in 145 (by decide +kernel) (by decide +kernel))) (fun _ h => h) rfl hd kk
theorem gf_X0_15_10 (C : CX g A p s m args meth c cc nL RX0) (hP : va_P g.1 vwCl (wX g σ) H) (hd : decode cc pc = .ok (.getfield 15, 3)) (kk : W p l e R s m args below meth c H locs cells slots Q (F0 m (pc + 3) ls (.ref (g.2.2 12) :: rest))) : W p l e R s m args below meth c H locs cells slots Q (F0 m pc ls (.ref (g.2.2 10) :: rest)) :=
  va_get (ci := 0) (v := .ref (g.2.2 12)) (C := RX0) (T := TX0) (N := 6) C.1 C.2.1 C.2.2.2.2.1 inX0 C.2.2.2.1 C.2.2.2.2.2.1 hP 10 rfl rfl 1 (by decide) (C.2.2.2.2.1 (.fieldLink RX0 15 "JudgedRows$Course" "rowOf" "[I") (tb_in 146 (by decide +kernel) (by decide +kernel))) (fun _ h => h) rfl hd kk
theorem gf_X0_15_15 (C : CX g A p s m args meth c cc nL RX0) (hP : va_P g.1 vwCl (wX g σ) H) (hd : decode cc pc = .ok (.getfield 15, 3)) (kk : W p l e R s m args below meth c H locs cells slots Q (F0 m (pc + 3) ls (.ref (g.2.2 17) :: rest))) : W p l e R s m args below meth c H locs cells slots Q (F0 m pc ls (.ref (g.2.2 15) :: rest)) :=
  va_get (ci := 0) (v := .ref (g.2.2 17)) (C := RX0) (T := TX0) (N := 6) C.1 C.2.1 C.2.2.2.2.1 inX0 C.2.2.2.1 C.2.2.2.2.2.1 hP 15 rfl rfl 1 (by decide) (C.2.2.2.2.1 (.fieldLink RX0 15 "JudgedRows$Course" "rowOf" "[I") (tb_in 146 (by decide +kernel) (by decide +kernel))) (fun _ h => h) rfl hd kk
theorem gf_X11_178_10 (C : CX g A p s m args meth c cc nL RX11) (hP : va_P g.1 vwCl (wX g σ) H) (hd : decode cc pc = .ok (.getfield 178, 3)) (kk : W p l e R s m args below meth c H locs cells slots Q (F0 m (pc + 3) ls (.ref (g.2.2 12) :: rest))) : W p l e R s m args below meth c H locs cells slots Q (F0 m pc ls (.ref (g.2.2 10) :: rest)) :=
  va_get (ci := 0) (v := .ref (g.2.2 12)) (C := RX0) (T := TX0) (N := 6) C.1 C.2.1 C.2.2.2.2.1 inX0 C.2.2.2.1 C.2.2.2.2.2.1 hP 10 rfl rfl 1 (by decide) (C.2.2.2.2.1 (.fieldLink RX11 178 "JudgedRows$Course" "rowOf" "[I") (tb_in 147 (by decide +kernel) (by decide +kernel))) (fun _ h => h) rfl hd kk
theorem gf_X11_178_15 (C : CX g A p s m args meth c cc nL RX11) (hP : va_P g.1 vwCl (wX g σ) H) (hd : decode cc pc = .ok (.getfield 178, 3)) (kk : W p l e R s m args below meth c H locs cells slots Q (F0 m (pc + 3) ls (.ref (g.2.2 17) :: rest))) : W p l e R s m args below meth c H locs cells slots Q (F0 m pc ls (.ref (g.2.2 15) :: rest)) :=
  va_get (ci := 0) (v := .ref (g.2.2 17)) (C := RX0) (T := TX0) (N := 6) C.1 C.2.1 C.2.2.2.2.1 inX0 C.2.2.2.1 C.2.2.2.2.2.1 hP 15 rfl rfl 1 (by decide) (C.2.2.2.2.1 (.fieldLink RX11 178 "JudgedRows$Course" "rowOf" "[I") (tb_in 147 (by decide +kernel) (by decide +kernel))) (fun _ h => h) rfl hd kk
theorem gf_X0_18_10 (C : CX g A p s m args meth c cc nL RX0) (hP : va_P g.1 vwCl (wX g σ) H) (hd : decode cc pc = .ok (.getfield 18, 3)) (kk : W p l e R s m args below meth c H locs cells slots Q (F0 m (pc + 3) ls (.ref (g.2.2 13) :: rest))) : W p l e R s m args below meth c H locs cells slots Q (F0 m pc ls (.ref (g.2.2 10) :: rest)) :=
  va_get (ci := 0) (v := .ref (g.2.2 13)) (C := RX0) (T := TX0) (N := 6) C.1 C.2.1 C.2.2.2.2.1 inX0 C.2.2.2.1 C.2.2.2.2.2.1 hP 10 rfl rfl 2 (by decide) (C.2.2.2.2.1 (.fieldLink RX0 18 "JudgedRows$Course" "judgeOf" "[I") (tb_in 148 (by decide +kernel) (by decide +kernel))) (fun _ h => h) rfl hd kk
theorem gf_X0_18_15 (C : CX g A p s m args meth c cc nL RX0) (hP : va_P g.1 vwCl (wX g σ) H) (hd : decode cc pc = .ok (.getfield 18, 3)) (kk : W p l e R s m args below meth c H locs cells slots Q (F0 m (pc + 3) ls (.ref (g.2.2 18) :: rest))) : W p l e R s m args below meth c H locs cells slots Q (F0 m pc ls (.ref (g.2.2 15) :: rest)) :=
  va_get (ci := 0) (v := .ref (g.2.2 18)) (C := RX0) (T := TX0) (N := 6) C.1 C.2.1 C.2.2.2.2.1 inX0 C.2.2.2.1 C.2.2.2.2.2.1 hP 15 rfl rfl 2 (by decide) (C.2.2.2.2.1 (.fieldLink RX0 18 "JudgedRows$Course" "judgeOf" "[I") (tb_in 148 (by decide +kernel) (by decide +kernel))) (fun _ h => h) rfl hd kk
theorem gf_X11_181_10 (C : CX g A p s m args meth c cc nL RX11) (hP : va_P g.1 vwCl (wX g σ) H) (hd : decode cc pc = .ok (.getfield 181, 3)) (kk : W p l e R s m args below meth c H locs cells slots Q (F0 m (pc + 3) ls (.ref (g.2.2 13) :: rest))) : W p l e R s m args below meth c H locs cells slots Q (F0 m pc ls (.ref (g.2.2 10) :: rest)) :=
  va_get (ci := 0) (v := .ref (g.2.2 13)) (C := RX0) (T := TX0) (N := 6) C.1 C.2.1 C.2.2.2.2.1 inX0 C.2.2.2.1 C.2.2.2.2.2.1 hP 10 rfl rfl 2 (by decide) (C.2.2.2.2.1 (.fieldLink RX11 181 "JudgedRows$Course" "judgeOf" "[I") (tb_in 149 (by decide +kernel) (by decide +kernel))) (fun _ h => h) rfl hd kk
theorem gf_X11_181_15 (C : CX g A p s m args meth c cc nL RX11) (hP : va_P g.1 vwCl (wX g σ) H) (hd : decode cc pc = .ok (.getfield 181, 3)) (kk : W p l e R s m args below meth c H locs cells slots Q (F0 m (pc + 3) ls (.ref (g.2.2 18) :: rest))) : W p l e R s m args below meth c H locs cells slots Q (F0 m pc ls (.ref (g.2.2 15) :: rest)) :=
  va_get (ci := 0) (v := .ref (g.2.2 18)) (C := RX0) (T := TX0) (N := 6) C.1 C.2.1 C.2.2.2.2.1 inX0 C.2.2.2.1 C.2.2.2.2.2.1 hP 15 rfl rfl 2 (by decide) (C.2.2.2.2.1 (.fieldLink RX11 181 "JudgedRows$Course" "judgeOf" "[I") (tb_in 149 (by decide +kernel) (by decide +kernel))) (fun _ h => h) rfl hd kk
theorem gf_X0_21_10 (C : CX g A p s m args meth c cc nL RX0) (hP : va_P g.1 vwCl (wX g σ) H) (hd : decode cc pc = .ok (.getfield 21, 3)) (kk : W p l e R s m args below meth c H locs cells slots Q (F0 m (pc + 3) ls (.ref (g.2.2 14) :: rest))) : W p l e R s m args below meth c H locs cells slots Q (F0 m pc ls (.ref (g.2.2 10) :: rest)) :=
  va_get (ci := 0) (v := .ref (g.2.2 14)) (C := RX0) (T := TX0) (N := 6) C.1 C.2.1 C.2.2.2.2.1 inX0 C.2.2.2.1 C.2.2.2.2.2.1 hP 10 rfl rfl 3 (by decide) (C.2.2.2.2.1 (.fieldLink RX0 21 "JudgedRows$Course" "toldOf" "[I") (tb_in 150 (by decide +kernel) (by decide +kernel))) (fun _ h => h) rfl hd kk
theorem gf_X0_21_15 (C : CX g A p s m args meth c cc nL RX0) (hP : va_P g.1 vwCl (wX g σ) H) (hd : decode cc pc = .ok (.getfield 21, 3)) (kk : W p l e R s m args below meth c H locs cells slots Q (F0 m (pc + 3) ls (.ref (g.2.2 19) :: rest))) : W p l e R s m args below meth c H locs cells slots Q (F0 m pc ls (.ref (g.2.2 15) :: rest)) :=
  va_get (ci := 0) (v := .ref (g.2.2 19)) (C := RX0) (T := TX0) (N := 6) C.1 C.2.1 C.2.2.2.2.1 inX0 C.2.2.2.1 C.2.2.2.2.2.1 hP 15 rfl rfl 3 (by decide) (C.2.2.2.2.1 (.fieldLink RX0 21 "JudgedRows$Course" "toldOf" "[I") (tb_in 150 (by decide +kernel) (by decide +kernel))) (fun _ h => h) rfl hd kk
theorem gf_X11_184_10 (C : CX g A p s m args meth c cc nL RX11) (hP : va_P g.1 vwCl (wX g σ) H) (hd : decode cc pc = .ok (.getfield 184, 3)) (kk : W p l e R s m args below meth c H locs cells slots Q (F0 m (pc + 3) ls (.ref (g.2.2 14) :: rest))) : W p l e R s m args below meth c H locs cells slots Q (F0 m pc ls (.ref (g.2.2 10) :: rest)) :=
  va_get (ci := 0) (v := .ref (g.2.2 14)) (C := RX0) (T := TX0) (N := 6) C.1 C.2.1 C.2.2.2.2.1 inX0 C.2.2.2.1 C.2.2.2.2.2.1 hP 10 rfl rfl 3 (by decide) (C.2.2.2.2.1 (.fieldLink RX11 184 "JudgedRows$Course" "toldOf" "[I") (tb_in 151 (by decide +kernel) (by decide +kernel))) (fun _ h => h) rfl hd kk
theorem gf_X11_184_15 (C : CX g A p s m args meth c cc nL RX11) (hP : va_P g.1 vwCl (wX g σ) H) (hd : decode cc pc = .ok (.getfield 184, 3)) (kk : W p l e R s m args below meth c H locs cells slots Q (F0 m (pc + 3) ls (.ref (g.2.2 19) :: rest))) : W p l e R s m args below meth c H locs cells slots Q (F0 m pc ls (.ref (g.2.2 15) :: rest)) :=
  va_get (ci := 0) (v := .ref (g.2.2 19)) (C := RX0) (T := TX0) (N := 6) C.1 C.2.1 C.2.2.2.2.1 inX0 C.2.2.2.1 C.2.2.2.2.2.1 hP 15 rfl rfl 3 (by decide) (C.2.2.2.2.1 (.fieldLink RX11 184 "JudgedRows$Course" "toldOf" "[I") (tb_in 151 (by decide +kernel) (by decide +kernel))) (fun _ h => h) rfl hd kk
theorem gf_X0_34_10 (C : CX g A p s m args meth c cc nL RX0) (hP : va_P g.1 vwCl (wX g σ) H) (hd : decode cc pc = .ok (.getfield 34, 3)) (kk : W p l e R s m args below meth c H locs cells slots Q (F0 m (pc + 3) ls (.int (σ 10 4) :: rest))) : W p l e R s m args below meth c H locs cells slots Q (F0 m pc ls (.ref (g.2.2 10) :: rest)) :=
  va_get (ci := 0) (v := .int (σ 10 4)) (C := RX0) (T := TX0) (N := 6) C.1 C.2.1 C.2.2.2.2.1 inX0 C.2.2.2.1 C.2.2.2.2.2.1 hP 10 rfl rfl 4 (by decide) (C.2.2.2.2.1 (.fieldLink RX0 34 "JudgedRows$Course" "hidden" "I") (tb_in 152 (by decide +kernel) (by decide +kernel))) (fun _ h => h) rfl hd kk
theorem pf_X0_34_10 (C : CX g A p s m args meth c cc nL RX0) (hP : va_P g.1 vwCl (wX g σ) H) (hS : va_S A s.heap H locs) {v : Int32} (hd : decode cc pc = .ok (.putfield 34, 3)) (kk : ∀ (H1 : Heap) (locs1 : List Loc), va_P g.1 vwCl (wX g (pt σ 10 4 v)) H1 → va_S A s.heap H1 locs1 → W p l e R s m args below meth c H1 locs1 cells slots Q (F0 m (pc + 3) ls rest)) : W p l e R s m args below meth c H locs cells slots Q (F0 m pc ls (.int v :: .ref (g.2.2 10) :: rest)) :=
  va_put (ci := 0) (v := .int v) (ty := .int) (C := RX0) (T := TX0) (N := 6) C.1 C.2.1 C.2.2.2.2.1 inX0 tyX0 tyX0_ok nmX0 C.2.2.2.1 C.2.2.2.2.2.1 hP C.D hS 10 rfl rfl 4 (by decide) (C.2.2.2.2.1 (.fieldLink RX0 34 "JudgedRows$Course" "hidden" "I") (tb_in 152 (by decide +kernel) (by decide +kernel))) (fun _ h => h) rfl (by decide +kernel) rfl rfl (Nat.le_of_ble_eq_true rfl) hd (fun H1 locs1 h1 _ h3 => kk H1 locs1 h1 h3)
theorem gf_X0_34_15 (C : CX g A p s m args meth c cc nL RX0) (hP : va_P g.1 vwCl (wX g σ) H) (hd : decode cc pc = .ok (.getfield 34, 3)) (kk : W p l e R s m args below meth c H locs cells slots Q (F0 m (pc + 3) ls (.int (σ 15 4) :: rest))) : W p l e R s m args below meth c H locs cells slots Q (F0 m pc ls (.ref (g.2.2 15) :: rest)) :=
  va_get (ci := 0) (v := .int (σ 15 4)) (C := RX0) (T := TX0) (N := 6) C.1 C.2.1 C.2.2.2.2.1 inX0 C.2.2.2.1 C.2.2.2.2.2.1 hP 15 rfl rfl 4 (by decide) (C.2.2.2.2.1 (.fieldLink RX0 34 "JudgedRows$Course" "hidden" "I") (tb_in 152 (by decide +kernel) (by decide +kernel))) (fun _ h => h) rfl hd kk
theorem pf_X0_34_15 (C : CX g A p s m args meth c cc nL RX0) (hP : va_P g.1 vwCl (wX g σ) H) (hS : va_S A s.heap H locs) {v : Int32} (hd : decode cc pc = .ok (.putfield 34, 3)) (kk : ∀ (H1 : Heap) (locs1 : List Loc), va_P g.1 vwCl (wX g (pt σ 15 4 v)) H1 → va_S A s.heap H1 locs1 → W p l e R s m args below meth c H1 locs1 cells slots Q (F0 m (pc + 3) ls rest)) : W p l e R s m args below meth c H locs cells slots Q (F0 m pc ls (.int v :: .ref (g.2.2 15) :: rest)) :=
  va_put (ci := 0) (v := .int v) (ty := .int) (C := RX0) (T := TX0) (N := 6) C.1 C.2.1 C.2.2.2.2.1 inX0 tyX0 tyX0_ok nmX0 C.2.2.2.1 C.2.2.2.2.2.1 hP C.D hS 15 rfl rfl 4 (by decide) (C.2.2.2.2.1 (.fieldLink RX0 34 "JudgedRows$Course" "hidden" "I") (tb_in 152 (by decide +kernel) (by decide +kernel))) (fun _ h => h) rfl (by decide +kernel) rfl rfl (Nat.le_of_ble_eq_true rfl) hd (fun H1 locs1 h1 _ h3 => kk H1 locs1 h1 h3)
theorem gf_X11_122_10 (C : CX g A p s m args meth c cc nL RX11) (hP : va_P g.1 vwCl (wX g σ) H) (hd : decode cc pc = .ok (.getfield 122, 3)) (kk : W p l e R s m args below meth c H locs cells slots Q (F0 m (pc + 3) ls (.int (σ 10 4) :: rest))) : W p l e R s m args below meth c H locs cells slots Q (F0 m pc ls (.ref (g.2.2 10) :: rest)) :=
  va_get (ci := 0) (v := .int (σ 10 4)) (C := RX0) (T := TX0) (N := 6) C.1 C.2.1 C.2.2.2.2.1 inX0 C.2.2.2.1 C.2.2.2.2.2.1 hP 10 rfl rfl 4 (by decide) (C.2.2.2.2.1 (.fieldLink RX11 122 "JudgedRows$Course" "hidden" "I") (tb_in 153 (by decide +kernel) (by decide +kernel))) (fun _ h => h) rfl hd kk
theorem pf_X11_122_10 (C : CX g A p s m args meth c cc nL RX11) (hP : va_P g.1 vwCl (wX g σ) H) (hS : va_S A s.heap H locs) {v : Int32} (hd : decode cc pc = .ok (.putfield 122, 3)) (kk : ∀ (H1 : Heap) (locs1 : List Loc), va_P g.1 vwCl (wX g (pt σ 10 4 v)) H1 → va_S A s.heap H1 locs1 → W p l e R s m args below meth c H1 locs1 cells slots Q (F0 m (pc + 3) ls rest)) : W p l e R s m args below meth c H locs cells slots Q (F0 m pc ls (.int v :: .ref (g.2.2 10) :: rest)) :=
  va_put (ci := 0) (v := .int v) (ty := .int) (C := RX0) (T := TX0) (N := 6) C.1 C.2.1 C.2.2.2.2.1 inX0 tyX0 tyX0_ok nmX0 C.2.2.2.1 C.2.2.2.2.2.1 hP C.D hS 10 rfl rfl 4 (by decide) (C.2.2.2.2.1 (.fieldLink RX11 122 "JudgedRows$Course" "hidden" "I") (tb_in 153 (by decide +kernel) (by decide +kernel))) (fun _ h => h) rfl (by decide +kernel) rfl rfl (Nat.le_of_ble_eq_true rfl) hd (fun H1 locs1 h1 _ h3 => kk H1 locs1 h1 h3)
theorem gf_X11_122_15 (C : CX g A p s m args meth c cc nL RX11) (hP : va_P g.1 vwCl (wX g σ) H) (hd : decode cc pc = .ok (.getfield 122, 3)) (kk : W p l e R s m args below meth c H locs cells slots Q (F0 m (pc + 3) ls (.int (σ 15 4) :: rest))) : W p l e R s m args below meth c H locs cells slots Q (F0 m pc ls (.ref (g.2.2 15) :: rest)) :=
  va_get (ci := 0) (v := .int (σ 15 4)) (C := RX0) (T := TX0) (N := 6) C.1 C.2.1 C.2.2.2.2.1 inX0 C.2.2.2.1 C.2.2.2.2.2.1 hP 15 rfl rfl 4 (by decide) (C.2.2.2.2.1 (.fieldLink RX11 122 "JudgedRows$Course" "hidden" "I") (tb_in 153 (by decide +kernel) (by decide +kernel))) (fun _ h => h) rfl hd kk
theorem pf_X11_122_15 (C : CX g A p s m args meth c cc nL RX11) (hP : va_P g.1 vwCl (wX g σ) H) (hS : va_S A s.heap H locs) {v : Int32} (hd : decode cc pc = .ok (.putfield 122, 3)) (kk : ∀ (H1 : Heap) (locs1 : List Loc), va_P g.1 vwCl (wX g (pt σ 15 4 v)) H1 → va_S A s.heap H1 locs1 → W p l e R s m args below meth c H1 locs1 cells slots Q (F0 m (pc + 3) ls rest)) : W p l e R s m args below meth c H locs cells slots Q (F0 m pc ls (.int v :: .ref (g.2.2 15) :: rest)) :=
  va_put (ci := 0) (v := .int v) (ty := .int) (C := RX0) (T := TX0) (N := 6) C.1 C.2.1 C.2.2.2.2.1 inX0 tyX0 tyX0_ok nmX0 C.2.2.2.1 C.2.2.2.2.2.1 hP C.D hS 15 rfl rfl 4 (by decide) (C.2.2.2.2.1 (.fieldLink RX11 122 "JudgedRows$Course" "hidden" "I") (tb_in 153 (by decide +kernel) (by decide +kernel))) (fun _ h => h) rfl (by decide +kernel) rfl rfl (Nat.le_of_ble_eq_true rfl) hd (fun H1 locs1 h1 _ h3 => kk H1 locs1 h1 h3)
theorem gf_X0_24_10 (C : CX g A p s m args meth c cc nL RX0) (hP : va_P g.1 vwCl (wX g σ) H) (hd : decode cc pc = .ok (.getfield 24, 3)) (kk : W p l e R s m args below meth c H locs cells slots Q (F0 m (pc + 3) ls (.int (σ 10 5) :: rest))) : W p l e R s m args below meth c H locs cells slots Q (F0 m pc ls (.ref (g.2.2 10) :: rest)) :=
  va_get (ci := 0) (v := .int (σ 10 5)) (C := RX0) (T := TX0) (N := 6) C.1 C.2.1 C.2.2.2.2.1 inX0 C.2.2.2.1 C.2.2.2.2.2.1 hP 10 rfl rfl 5 (by decide) (C.2.2.2.2.1 (.fieldLink RX0 24 "JudgedRows$Course" "size" "I") (tb_in 154 (by decide +kernel) (by decide +kernel))) (fun _ h => h) rfl hd kk
theorem pf_X0_24_10 (C : CX g A p s m args meth c cc nL RX0) (hP : va_P g.1 vwCl (wX g σ) H) (hS : va_S A s.heap H locs) {v : Int32} (hd : decode cc pc = .ok (.putfield 24, 3)) (kk : ∀ (H1 : Heap) (locs1 : List Loc), va_P g.1 vwCl (wX g (pt σ 10 5 v)) H1 → va_S A s.heap H1 locs1 → W p l e R s m args below meth c H1 locs1 cells slots Q (F0 m (pc + 3) ls rest)) : W p l e R s m args below meth c H locs cells slots Q (F0 m pc ls (.int v :: .ref (g.2.2 10) :: rest)) :=
  va_put (ci := 0) (v := .int v) (ty := .int) (C := RX0) (T := TX0) (N := 6) C.1 C.2.1 C.2.2.2.2.1 inX0 tyX0 tyX0_ok nmX0 C.2.2.2.1 C.2.2.2.2.2.1 hP C.D hS 10 rfl rfl 5 (by decide) (C.2.2.2.2.1 (.fieldLink RX0 24 "JudgedRows$Course" "size" "I") (tb_in 154 (by decide +kernel) (by decide +kernel))) (fun _ h => h) rfl (by decide +kernel) rfl rfl (Nat.le_of_ble_eq_true rfl) hd (fun H1 locs1 h1 _ h3 => kk H1 locs1 h1 h3)
theorem gf_X0_24_15 (C : CX g A p s m args meth c cc nL RX0) (hP : va_P g.1 vwCl (wX g σ) H) (hd : decode cc pc = .ok (.getfield 24, 3)) (kk : W p l e R s m args below meth c H locs cells slots Q (F0 m (pc + 3) ls (.int (σ 15 5) :: rest))) : W p l e R s m args below meth c H locs cells slots Q (F0 m pc ls (.ref (g.2.2 15) :: rest)) :=
  va_get (ci := 0) (v := .int (σ 15 5)) (C := RX0) (T := TX0) (N := 6) C.1 C.2.1 C.2.2.2.2.1 inX0 C.2.2.2.1 C.2.2.2.2.2.1 hP 15 rfl rfl 5 (by decide) (C.2.2.2.2.1 (.fieldLink RX0 24 "JudgedRows$Course" "size" "I") (tb_in 154 (by decide +kernel) (by decide +kernel))) (fun _ h => h) rfl hd kk
theorem pf_X0_24_15 (C : CX g A p s m args meth c cc nL RX0) (hP : va_P g.1 vwCl (wX g σ) H) (hS : va_S A s.heap H locs) {v : Int32} (hd : decode cc pc = .ok (.putfield 24, 3)) (kk : ∀ (H1 : Heap) (locs1 : List Loc), va_P g.1 vwCl (wX g (pt σ 15 5 v)) H1 → va_S A s.heap H1 locs1 → W p l e R s m args below meth c H1 locs1 cells slots Q (F0 m (pc + 3) ls rest)) : W p l e R s m args below meth c H locs cells slots Q (F0 m pc ls (.int v :: .ref (g.2.2 15) :: rest)) :=
  va_put (ci := 0) (v := .int v) (ty := .int) (C := RX0) (T := TX0) (N := 6) C.1 C.2.1 C.2.2.2.2.1 inX0 tyX0 tyX0_ok nmX0 C.2.2.2.1 C.2.2.2.2.2.1 hP C.D hS 15 rfl rfl 5 (by decide) (C.2.2.2.2.1 (.fieldLink RX0 24 "JudgedRows$Course" "size" "I") (tb_in 154 (by decide +kernel) (by decide +kernel))) (fun _ h => h) rfl (by decide +kernel) rfl rfl (Nat.le_of_ble_eq_true rfl) hd (fun H1 locs1 h1 _ h3 => kk H1 locs1 h1 h3)
theorem gf_X11_125_10 (C : CX g A p s m args meth c cc nL RX11) (hP : va_P g.1 vwCl (wX g σ) H) (hd : decode cc pc = .ok (.getfield 125, 3)) (kk : W p l e R s m args below meth c H locs cells slots Q (F0 m (pc + 3) ls (.int (σ 10 5) :: rest))) : W p l e R s m args below meth c H locs cells slots Q (F0 m pc ls (.ref (g.2.2 10) :: rest)) :=
  va_get (ci := 0) (v := .int (σ 10 5)) (C := RX0) (T := TX0) (N := 6) C.1 C.2.1 C.2.2.2.2.1 inX0 C.2.2.2.1 C.2.2.2.2.2.1 hP 10 rfl rfl 5 (by decide) (C.2.2.2.2.1 (.fieldLink RX11 125 "JudgedRows$Course" "size" "I") (tb_in 155 (by decide +kernel) (by decide +kernel))) (fun _ h => h) rfl hd kk
theorem pf_X11_125_10 (C : CX g A p s m args meth c cc nL RX11) (hP : va_P g.1 vwCl (wX g σ) H) (hS : va_S A s.heap H locs) {v : Int32} (hd : decode cc pc = .ok (.putfield 125, 3)) (kk : ∀ (H1 : Heap) (locs1 : List Loc), va_P g.1 vwCl (wX g (pt σ 10 5 v)) H1 → va_S A s.heap H1 locs1 → W p l e R s m args below meth c H1 locs1 cells slots Q (F0 m (pc + 3) ls rest)) : W p l e R s m args below meth c H locs cells slots Q (F0 m pc ls (.int v :: .ref (g.2.2 10) :: rest)) :=
  va_put (ci := 0) (v := .int v) (ty := .int) (C := RX0) (T := TX0) (N := 6) C.1 C.2.1 C.2.2.2.2.1 inX0 tyX0 tyX0_ok nmX0 C.2.2.2.1 C.2.2.2.2.2.1 hP C.D hS 10 rfl rfl 5 (by decide) (C.2.2.2.2.1 (.fieldLink RX11 125 "JudgedRows$Course" "size" "I") (tb_in 155 (by decide +kernel) (by decide +kernel))) (fun _ h => h) rfl (by decide +kernel) rfl rfl (Nat.le_of_ble_eq_true rfl) hd (fun H1 locs1 h1 _ h3 => kk H1 locs1 h1 h3)
theorem gf_X11_125_15 (C : CX g A p s m args meth c cc nL RX11) (hP : va_P g.1 vwCl (wX g σ) H) (hd : decode cc pc = .ok (.getfield 125, 3)) (kk : W p l e R s m args below meth c H locs cells slots Q (F0 m (pc + 3) ls (.int (σ 15 5) :: rest))) : W p l e R s m args below meth c H locs cells slots Q (F0 m pc ls (.ref (g.2.2 15) :: rest)) :=
  va_get (ci := 0) (v := .int (σ 15 5)) (C := RX0) (T := TX0) (N := 6) C.1 C.2.1 C.2.2.2.2.1 inX0 C.2.2.2.1 C.2.2.2.2.2.1 hP 15 rfl rfl 5 (by decide) (C.2.2.2.2.1 (.fieldLink RX11 125 "JudgedRows$Course" "size" "I") (tb_in 155 (by decide +kernel) (by decide +kernel))) (fun _ h => h) rfl hd kk
theorem pf_X11_125_15 (C : CX g A p s m args meth c cc nL RX11) (hP : va_P g.1 vwCl (wX g σ) H) (hS : va_S A s.heap H locs) {v : Int32} (hd : decode cc pc = .ok (.putfield 125, 3)) (kk : ∀ (H1 : Heap) (locs1 : List Loc), va_P g.1 vwCl (wX g (pt σ 15 5 v)) H1 → va_S A s.heap H1 locs1 → W p l e R s m args below meth c H1 locs1 cells slots Q (F0 m (pc + 3) ls rest)) : W p l e R s m args below meth c H locs cells slots Q (F0 m pc ls (.int v :: .ref (g.2.2 15) :: rest)) :=
  va_put (ci := 0) (v := .int v) (ty := .int) (C := RX0) (T := TX0) (N := 6) C.1 C.2.1 C.2.2.2.2.1 inX0 tyX0 tyX0_ok nmX0 C.2.2.2.1 C.2.2.2.2.2.1 hP C.D hS 15 rfl rfl 5 (by decide) (C.2.2.2.2.1 (.fieldLink RX11 125 "JudgedRows$Course" "size" "I") (tb_in 155 (by decide +kernel) (by decide +kernel))) (fun _ h => h) rfl (by decide +kernel) rfl rfl (Nat.le_of_ble_eq_true rfl) hd (fun H1 locs1 h1 _ h3 => kk H1 locs1 h1 h3)
theorem gf_X6_21_20 (C : CX g A p s m args meth c cc nL RX6) (hP : va_P g.1 vwCl (wX g σ) H) (hd : decode cc pc = .ok (.getfield 21, 3)) (kk : W p l e R s m args below meth c H locs cells slots Q (F0 m (pc + 3) ls (.int (σ 20 0) :: rest))) : W p l e R s m args below meth c H locs cells slots Q (F0 m pc ls (.ref (g.2.2 20) :: rest)) :=
  va_get (ci := 6) (v := .int (σ 20 0)) (C := RX6) (T := TX6) (N := 6) C.1 C.2.1 C.2.2.2.2.1 inX6 C.2.2.2.1 C.2.2.2.2.2.1 hP 20 rfl rfl 0 (by decide) (C.2.2.2.2.1 (.fieldLink RX6 21 "JudgedRows$Rows" "pegs" "I") (tb_in 175 (by decide +kernel) (by decide +kernel))) (fun _ h => h) rfl hd kk
theorem pf_X6_21_20 (C : CX g A p s m args meth c cc nL RX6) (hP : va_P g.1 vwCl (wX g σ) H) (hS : va_S A s.heap H locs) {v : Int32} (hd : decode cc pc = .ok (.putfield 21, 3)) (kk : ∀ (H1 : Heap) (locs1 : List Loc), va_P g.1 vwCl (wX g (pt σ 20 0 v)) H1 → va_S A s.heap H1 locs1 → W p l e R s m args below meth c H1 locs1 cells slots Q (F0 m (pc + 3) ls rest)) : W p l e R s m args below meth c H locs cells slots Q (F0 m pc ls (.int v :: .ref (g.2.2 20) :: rest)) :=
  va_put (ci := 6) (v := .int v) (ty := .int) (C := RX6) (T := TX6) (N := 6) C.1 C.2.1 C.2.2.2.2.1 inX6 tyX6 tyX6_ok nmX6 C.2.2.2.1 C.2.2.2.2.2.1 hP C.D hS 20 rfl rfl 0 (by decide) (C.2.2.2.2.1 (.fieldLink RX6 21 "JudgedRows$Rows" "pegs" "I") (tb_in 175 (by decide +kernel) (by decide +kernel))) (fun _ h => h) rfl (by decide +kernel) rfl rfl (Nat.le_of_ble_eq_true rfl) hd (fun H1 locs1 h1 _ h3 => kk H1 locs1 h1 h3)
theorem gf_X11_168_20 (C : CX g A p s m args meth c cc nL RX11) (hP : va_P g.1 vwCl (wX g σ) H) (hd : decode cc pc = .ok (.getfield 168, 3)) (kk : W p l e R s m args below meth c H locs cells slots Q (F0 m (pc + 3) ls (.int (σ 20 0) :: rest))) : W p l e R s m args below meth c H locs cells slots Q (F0 m pc ls (.ref (g.2.2 20) :: rest)) :=
  va_get (ci := 6) (v := .int (σ 20 0)) (C := RX6) (T := TX6) (N := 6) C.1 C.2.1 C.2.2.2.2.1 inX6 C.2.2.2.1 C.2.2.2.2.2.1 hP 20 rfl rfl 0 (by decide) (C.2.2.2.2.1 (.fieldLink RX11 168 "JudgedRows$Rows" "pegs" "I") (tb_in 176 (by decide +kernel) (by decide +kernel))) (fun _ h => h) rfl hd kk
theorem pf_X11_168_20 (C : CX g A p s m args meth c cc nL RX11) (hP : va_P g.1 vwCl (wX g σ) H) (hS : va_S A s.heap H locs) {v : Int32} (hd : decode cc pc = .ok (.putfield 168, 3)) (kk : ∀ (H1 : Heap) (locs1 : List Loc), va_P g.1 vwCl (wX g (pt σ 20 0 v)) H1 → va_S A s.heap H1 locs1 → W p l e R s m args below meth c H1 locs1 cells slots Q (F0 m (pc + 3) ls rest)) : W p l e R s m args below meth c H locs cells slots Q (F0 m pc ls (.int v :: .ref (g.2.2 20) :: rest)) :=
  va_put (ci := 6) (v := .int v) (ty := .int) (C := RX6) (T := TX6) (N := 6) C.1 C.2.1 C.2.2.2.2.1 inX6 tyX6 tyX6_ok nmX6 C.2.2.2.1 C.2.2.2.2.2.1 hP C.D hS 20 rfl rfl 0 (by decide) (C.2.2.2.2.1 (.fieldLink RX11 168 "JudgedRows$Rows" "pegs" "I") (tb_in 176 (by decide +kernel) (by decide +kernel))) (fun _ h => h) rfl (by decide +kernel) rfl rfl (Nat.le_of_ble_eq_true rfl) hd (fun H1 locs1 h1 _ h3 => kk H1 locs1 h1 h3)
theorem gf_X6_25_20 (C : CX g A p s m args meth c cc nL RX6) (hP : va_P g.1 vwCl (wX g σ) H) (hd : decode cc pc = .ok (.getfield 25, 3)) (kk : W p l e R s m args below meth c H locs cells slots Q (F0 m (pc + 3) ls (.int (σ 20 1) :: rest))) : W p l e R s m args below meth c H locs cells slots Q (F0 m pc ls (.ref (g.2.2 20) :: rest)) :=
  va_get (ci := 6) (v := .int (σ 20 1)) (C := RX6) (T := TX6) (N := 6) C.1 C.2.1 C.2.2.2.2.1 inX6 C.2.2.2.1 C.2.2.2.2.2.1 hP 20 rfl rfl 1 (by decide) (C.2.2.2.2.1 (.fieldLink RX6 25 "JudgedRows$Rows" "colours" "I") (tb_in 177 (by decide +kernel) (by decide +kernel))) (fun _ h => h) rfl hd kk
theorem pf_X6_25_20 (C : CX g A p s m args meth c cc nL RX6) (hP : va_P g.1 vwCl (wX g σ) H) (hS : va_S A s.heap H locs) {v : Int32} (hd : decode cc pc = .ok (.putfield 25, 3)) (kk : ∀ (H1 : Heap) (locs1 : List Loc), va_P g.1 vwCl (wX g (pt σ 20 1 v)) H1 → va_S A s.heap H1 locs1 → W p l e R s m args below meth c H1 locs1 cells slots Q (F0 m (pc + 3) ls rest)) : W p l e R s m args below meth c H locs cells slots Q (F0 m pc ls (.int v :: .ref (g.2.2 20) :: rest)) :=
  va_put (ci := 6) (v := .int v) (ty := .int) (C := RX6) (T := TX6) (N := 6) C.1 C.2.1 C.2.2.2.2.1 inX6 tyX6 tyX6_ok nmX6 C.2.2.2.1 C.2.2.2.2.2.1 hP C.D hS 20 rfl rfl 1 (by decide) (C.2.2.2.2.1 (.fieldLink RX6 25 "JudgedRows$Rows" "colours" "I") (tb_in 177 (by decide +kernel) (by decide +kernel))) (fun _ h => h) rfl (by decide +kernel) rfl rfl (Nat.le_of_ble_eq_true rfl) hd (fun H1 locs1 h1 _ h3 => kk H1 locs1 h1 h3)
theorem gf_X11_263_20 (C : CX g A p s m args meth c cc nL RX11) (hP : va_P g.1 vwCl (wX g σ) H) (hd : decode cc pc = .ok (.getfield 263, 3)) (kk : W p l e R s m args below meth c H locs cells slots Q (F0 m (pc + 3) ls (.int (σ 20 1) :: rest))) : W p l e R s m args below meth c H locs cells slots Q (F0 m pc ls (.ref (g.2.2 20) :: rest)) :=
  va_get (ci := 6) (v := .int (σ 20 1)) (C := RX6) (T := TX6) (N := 6) C.1 C.2.1 C.2.2.2.2.1 inX6 C.2.2.2.1 C.2.2.2.2.2.1 hP 20 rfl rfl 1 (by decide) (C.2.2.2.2.1 (.fieldLink RX11 263 "JudgedRows$Rows" "colours" "I") (tb_in 178 (by decide +kernel) (by decide +kernel))) (fun _ h => h) rfl hd kk
theorem pf_X11_263_20 (C : CX g A p s m args meth c cc nL RX11) (hP : va_P g.1 vwCl (wX g σ) H) (hS : va_S A s.heap H locs) {v : Int32} (hd : decode cc pc = .ok (.putfield 263, 3)) (kk : ∀ (H1 : Heap) (locs1 : List Loc), va_P g.1 vwCl (wX g (pt σ 20 1 v)) H1 → va_S A s.heap H1 locs1 → W p l e R s m args below meth c H1 locs1 cells slots Q (F0 m (pc + 3) ls rest)) : W p l e R s m args below meth c H locs cells slots Q (F0 m pc ls (.int v :: .ref (g.2.2 20) :: rest)) :=
  va_put (ci := 6) (v := .int v) (ty := .int) (C := RX6) (T := TX6) (N := 6) C.1 C.2.1 C.2.2.2.2.1 inX6 tyX6 tyX6_ok nmX6 C.2.2.2.1 C.2.2.2.2.2.1 hP C.D hS 20 rfl rfl 1 (by decide) (C.2.2.2.2.1 (.fieldLink RX11 263 "JudgedRows$Rows" "colours" "I") (tb_in 178 (by decide +kernel) (by decide +kernel))) (fun _ h => h) rfl (by decide +kernel) rfl rfl (Nat.le_of_ble_eq_true rfl) hd (fun H1 locs1 h1 _ h3 => kk H1 locs1 h1 h3)
theorem gf_X5_26_20 (C : CX g A p s m args meth c cc nL RX5) (hP : va_P g.1 vwCl (wX g σ) H) (hd : decode cc pc = .ok (.getfield 26, 3)) (kk : W p l e R s m args below meth c H locs cells slots Q (F0 m (pc + 3) ls (.int (σ 20 2) :: rest))) : W p l e R s m args below meth c H locs cells slots Q (F0 m pc ls (.ref (g.2.2 20) :: rest)) :=
  va_get (ci := 6) (v := .int (σ 20 2)) (C := RX6) (T := TX6) (N := 6) C.1 C.2.1 C.2.2.2.2.1 inX6 C.2.2.2.1 C.2.2.2.2.2.1 hP 20 rfl rfl 2 (by decide) (C.2.2.2.2.1 (.fieldLink RX5 26 "JudgedRows$Rows" "size" "I") (tb_in 179 (by decide +kernel) (by decide +kernel))) (fun _ h => h) rfl hd kk
theorem pf_X5_26_20 (C : CX g A p s m args meth c cc nL RX5) (hP : va_P g.1 vwCl (wX g σ) H) (hS : va_S A s.heap H locs) {v : Int32} (hd : decode cc pc = .ok (.putfield 26, 3)) (kk : ∀ (H1 : Heap) (locs1 : List Loc), va_P g.1 vwCl (wX g (pt σ 20 2 v)) H1 → va_S A s.heap H1 locs1 → W p l e R s m args below meth c H1 locs1 cells slots Q (F0 m (pc + 3) ls rest)) : W p l e R s m args below meth c H locs cells slots Q (F0 m pc ls (.int v :: .ref (g.2.2 20) :: rest)) :=
  va_put (ci := 6) (v := .int v) (ty := .int) (C := RX6) (T := TX6) (N := 6) C.1 C.2.1 C.2.2.2.2.1 inX6 tyX6 tyX6_ok nmX6 C.2.2.2.1 C.2.2.2.2.2.1 hP C.D hS 20 rfl rfl 2 (by decide) (C.2.2.2.2.1 (.fieldLink RX5 26 "JudgedRows$Rows" "size" "I") (tb_in 179 (by decide +kernel) (by decide +kernel))) (fun _ h => h) rfl (by decide +kernel) rfl rfl (Nat.le_of_ble_eq_true rfl) hd (fun H1 locs1 h1 _ h3 => kk H1 locs1 h1 h3)
theorem gf_X6_28_20 (C : CX g A p s m args meth c cc nL RX6) (hP : va_P g.1 vwCl (wX g σ) H) (hd : decode cc pc = .ok (.getfield 28, 3)) (kk : W p l e R s m args below meth c H locs cells slots Q (F0 m (pc + 3) ls (.int (σ 20 2) :: rest))) : W p l e R s m args below meth c H locs cells slots Q (F0 m pc ls (.ref (g.2.2 20) :: rest)) :=
  va_get (ci := 6) (v := .int (σ 20 2)) (C := RX6) (T := TX6) (N := 6) C.1 C.2.1 C.2.2.2.2.1 inX6 C.2.2.2.1 C.2.2.2.2.2.1 hP 20 rfl rfl 2 (by decide) (C.2.2.2.2.1 (.fieldLink RX6 28 "JudgedRows$Rows" "size" "I") (tb_in 180 (by decide +kernel) (by decide +kernel))) (fun _ h => h) rfl hd kk
theorem pf_X6_28_20 (C : CX g A p s m args meth c cc nL RX6) (hP : va_P g.1 vwCl (wX g σ) H) (hS : va_S A s.heap H locs) {v : Int32} (hd : decode cc pc = .ok (.putfield 28, 3)) (kk : ∀ (H1 : Heap) (locs1 : List Loc), va_P g.1 vwCl (wX g (pt σ 20 2 v)) H1 → va_S A s.heap H1 locs1 → W p l e R s m args below meth c H1 locs1 cells slots Q (F0 m (pc + 3) ls rest)) : W p l e R s m args below meth c H locs cells slots Q (F0 m pc ls (.int v :: .ref (g.2.2 20) :: rest)) :=
  va_put (ci := 6) (v := .int v) (ty := .int) (C := RX6) (T := TX6) (N := 6) C.1 C.2.1 C.2.2.2.2.1 inX6 tyX6 tyX6_ok nmX6 C.2.2.2.1 C.2.2.2.2.2.1 hP C.D hS 20 rfl rfl 2 (by decide) (C.2.2.2.2.1 (.fieldLink RX6 28 "JudgedRows$Rows" "size" "I") (tb_in 180 (by decide +kernel) (by decide +kernel))) (fun _ h => h) rfl (by decide +kernel) rfl rfl (Nat.le_of_ble_eq_true rfl) hd (fun H1 locs1 h1 _ h3 => kk H1 locs1 h1 h3)
theorem gf_X4_23_20 (C : CX g A p s m args meth c cc nL RX4) (hP : va_P g.1 vwCl (wX g σ) H) (hd : decode cc pc = .ok (.getfield 23, 3)) (kk : W p l e R s m args below meth c H locs cells slots Q (F0 m (pc + 3) ls (.int (σ 20 2) :: rest))) : W p l e R s m args below meth c H locs cells slots Q (F0 m pc ls (.ref (g.2.2 20) :: rest)) :=
  va_get (ci := 6) (v := .int (σ 20 2)) (C := RX6) (T := TX6) (N := 6) C.1 C.2.1 C.2.2.2.2.1 inX6 C.2.2.2.1 C.2.2.2.2.2.1 hP 20 rfl rfl 2 (by decide) (C.2.2.2.2.1 (.fieldLink RX4 23 "JudgedRows$Rows" "size" "I") (tb_in 181 (by decide +kernel) (by decide +kernel))) (fun _ h => h) rfl hd kk
theorem pf_X4_23_20 (C : CX g A p s m args meth c cc nL RX4) (hP : va_P g.1 vwCl (wX g σ) H) (hS : va_S A s.heap H locs) {v : Int32} (hd : decode cc pc = .ok (.putfield 23, 3)) (kk : ∀ (H1 : Heap) (locs1 : List Loc), va_P g.1 vwCl (wX g (pt σ 20 2 v)) H1 → va_S A s.heap H1 locs1 → W p l e R s m args below meth c H1 locs1 cells slots Q (F0 m (pc + 3) ls rest)) : W p l e R s m args below meth c H locs cells slots Q (F0 m pc ls (.int v :: .ref (g.2.2 20) :: rest)) :=
  va_put (ci := 6) (v := .int v) (ty := .int) (C := RX6) (T := TX6) (N := 6) C.1 C.2.1 C.2.2.2.2.1 inX6 tyX6 tyX6_ok nmX6 C.2.2.2.1 C.2.2.2.2.2.1 hP C.D hS 20 rfl rfl 2 (by decide) (C.2.2.2.2.1 (.fieldLink RX4 23 "JudgedRows$Rows" "size" "I") (tb_in 181 (by decide +kernel) (by decide +kernel))) (fun _ h => h) rfl (by decide +kernel) rfl rfl (Nat.le_of_ble_eq_true rfl) hd (fun H1 locs1 h1 _ h3 => kk H1 locs1 h1 h3)
theorem gf_X9_31_20 (C : CX g A p s m args meth c cc nL RX9) (hP : va_P g.1 vwCl (wX g σ) H) (hd : decode cc pc = .ok (.getfield 31, 3)) (kk : W p l e R s m args below meth c H locs cells slots Q (F0 m (pc + 3) ls (.int (σ 20 2) :: rest))) : W p l e R s m args below meth c H locs cells slots Q (F0 m pc ls (.ref (g.2.2 20) :: rest)) :=
  va_get (ci := 6) (v := .int (σ 20 2)) (C := RX6) (T := TX6) (N := 6) C.1 C.2.1 C.2.2.2.2.1 inX6 C.2.2.2.1 C.2.2.2.2.2.1 hP 20 rfl rfl 2 (by decide) (C.2.2.2.2.1 (.fieldLink RX9 31 "JudgedRows$Rows" "size" "I") (tb_in 182 (by decide +kernel) (by decide +kernel))) (fun _ h => h) rfl hd kk
theorem pf_X9_31_20 (C : CX g A p s m args meth c cc nL RX9) (hP : va_P g.1 vwCl (wX g σ) H) (hS : va_S A s.heap H locs) {v : Int32} (hd : decode cc pc = .ok (.putfield 31, 3)) (kk : ∀ (H1 : Heap) (locs1 : List Loc), va_P g.1 vwCl (wX g (pt σ 20 2 v)) H1 → va_S A s.heap H1 locs1 → W p l e R s m args below meth c H1 locs1 cells slots Q (F0 m (pc + 3) ls rest)) : W p l e R s m args below meth c H locs cells slots Q (F0 m pc ls (.int v :: .ref (g.2.2 20) :: rest)) :=
  va_put (ci := 6) (v := .int v) (ty := .int) (C := RX6) (T := TX6) (N := 6) C.1 C.2.1 C.2.2.2.2.1 inX6 tyX6 tyX6_ok nmX6 C.2.2.2.1 C.2.2.2.2.2.1 hP C.D hS 20 rfl rfl 2 (by decide) (C.2.2.2.2.1 (.fieldLink RX9 31 "JudgedRows$Rows" "size" "I") (tb_in 182 (by decide +kernel) (by decide +kernel))) (fun _ h => h) rfl (by decide +kernel) rfl rfl (Nat.le_of_ble_eq_true rfl) hd (fun H1 locs1 h1 _ h3 => kk H1 locs1 h1 h3)
theorem gf_X11_133_20 (C : CX g A p s m args meth c cc nL RX11) (hP : va_P g.1 vwCl (wX g σ) H) (hd : decode cc pc = .ok (.getfield 133, 3)) (kk : W p l e R s m args below meth c H locs cells slots Q (F0 m (pc + 3) ls (.int (σ 20 2) :: rest))) : W p l e R s m args below meth c H locs cells slots Q (F0 m pc ls (.ref (g.2.2 20) :: rest)) :=
  va_get (ci := 6) (v := .int (σ 20 2)) (C := RX6) (T := TX6) (N := 6) C.1 C.2.1 C.2.2.2.2.1 inX6 C.2.2.2.1 C.2.2.2.2.2.1 hP 20 rfl rfl 2 (by decide) (C.2.2.2.2.1 (.fieldLink RX11 133 "JudgedRows$Rows" "size" "I") (tb_in 183 (by decide +kernel) (by decide +kernel))) (fun _ h => h) rfl hd kk
theorem pf_X11_133_20 (C : CX g A p s m args meth c cc nL RX11) (hP : va_P g.1 vwCl (wX g σ) H) (hS : va_S A s.heap H locs) {v : Int32} (hd : decode cc pc = .ok (.putfield 133, 3)) (kk : ∀ (H1 : Heap) (locs1 : List Loc), va_P g.1 vwCl (wX g (pt σ 20 2 v)) H1 → va_S A s.heap H1 locs1 → W p l e R s m args below meth c H1 locs1 cells slots Q (F0 m (pc + 3) ls rest)) : W p l e R s m args below meth c H locs cells slots Q (F0 m pc ls (.int v :: .ref (g.2.2 20) :: rest)) :=
  va_put (ci := 6) (v := .int v) (ty := .int) (C := RX6) (T := TX6) (N := 6) C.1 C.2.1 C.2.2.2.2.1 inX6 tyX6 tyX6_ok nmX6 C.2.2.2.1 C.2.2.2.2.2.1 hP C.D hS 20 rfl rfl 2 (by decide) (C.2.2.2.2.1 (.fieldLink RX11 133 "JudgedRows$Rows" "size" "I") (tb_in 183 (by decide +kernel) (by decide +kernel))) (fun _ h => h) rfl (by decide +kernel) rfl rfl (Nat.le_of_ble_eq_true rfl) hd (fun H1 locs1 h1 _ h3 => kk H1 locs1 h1 h3)
theorem gf_X6_9_20 (C : CX g A p s m args meth c cc nL RX6) (hP : va_P g.1 vwCl (wX g σ) H) (hd : decode cc pc = .ok (.getfield 9, 3)) (kk : W p l e R s m args below meth c H locs cells slots Q (F0 m (pc + 3) ls (.ref (g.2.2 21) :: rest))) : W p l e R s m args below meth c H locs cells slots Q (F0 m pc ls (.ref (g.2.2 20) :: rest)) :=
  va_get (ci := 6) (v := .ref (g.2.2 21)) (C := RX6) (T := TX6) (N := 6) C.1 C.2.1 C.2.2.2.2.1 inX6 C.2.2.2.1 C.2.2.2.2.2.1 hP 20 rfl rfl 3 (by decide) (C.2.2.2.2.1 (.fieldLink RX6 9 "JudgedRows$Rows" "places" "[I") (tb_in 184 (by decide +kernel) (by decide +kernel))) (fun _ h => h) rfl hd kk
theorem gf_X6_15_20 (C : CX g A p s m args meth c cc nL RX6) (hP : va_P g.1 vwCl (wX g σ) H) (hd : decode cc pc = .ok (.getfield 15, 3)) (kk : W p l e R s m args below meth c H locs cells slots Q (F0 m (pc + 3) ls (.ref (g.2.2 22) :: rest))) : W p l e R s m args below meth c H locs cells slots Q (F0 m pc ls (.ref (g.2.2 20) :: rest)) :=
  va_get (ci := 6) (v := .ref (g.2.2 22)) (C := RX6) (T := TX6) (N := 6) C.1 C.2.1 C.2.2.2.2.1 inX6 C.2.2.2.1 C.2.2.2.2.2.1 hP 20 rfl rfl 4 (by decide) (C.2.2.2.2.1 (.fieldLink RX6 15 "JudgedRows$Rows" "placesFromOtherEnd" "[I") (tb_in 185 (by decide +kernel) (by decide +kernel))) (fun _ h => h) rfl hd kk
theorem gf_X6_18_20 (C : CX g A p s m args meth c cc nL RX6) (hP : va_P g.1 vwCl (wX g σ) H) (hd : decode cc pc = .ok (.getfield 18, 3)) (kk : W p l e R s m args below meth c H locs cells slots Q (F0 m (pc + 3) ls (.ref (g.2.2 23) :: rest))) : W p l e R s m args below meth c H locs cells slots Q (F0 m pc ls (.ref (g.2.2 20) :: rest)) :=
  va_get (ci := 6) (v := .ref (g.2.2 23)) (C := RX6) (T := TX6) (N := 6) C.1 C.2.1 C.2.2.2.2.1 inX6 C.2.2.2.1 C.2.2.2.2.2.1 hP 20 rfl rfl 5 (by decide) (C.2.2.2.2.1 (.fieldLink RX6 18 "JudgedRows$Rows" "heaps" "[I") (tb_in 186 (by decide +kernel) (by decide +kernel))) (fun _ h => h) rfl hd kk
theorem gf_X5_22_24 (C : CX g A p s m args meth c cc nL RX5) (hP : va_P g.1 vwCl (wX g σ) H) (hd : decode cc pc = .ok (.getfield 22, 3)) (kk : W p l e R s m args below meth c H locs cells slots Q (F0 m (pc + 3) ls (.ref (g.2.2 20) :: rest))) : W p l e R s m args below meth c H locs cells slots Q (F0 m pc ls (.ref (g.2.2 24) :: rest)) :=
  va_get (ci := 5) (v := .ref (g.2.2 20)) (C := RX5) (T := TX5) (N := 5) C.1 C.2.1 C.2.2.2.2.1 inX5 C.2.2.2.1 C.2.2.2.2.2.1 hP 24 rfl rfl 0 (by decide) (C.2.2.2.2.1 (.fieldLink RX5 22 "JudgedRows$Pool" "rows" "LJudgedRows$Rows;") (tb_in 206 (by decide +kernel) (by decide +kernel))) (fun _ h => h) rfl hd kk
theorem gf_X5_9_24 (C : CX g A p s m args meth c cc nL RX5) (hP : va_P g.1 vwCl (wX g σ) H) (hd : decode cc pc = .ok (.getfield 9, 3)) (kk : W p l e R s m args below meth c H locs cells slots Q (F0 m (pc + 3) ls (.ref (g.2.2 25) :: rest))) : W p l e R s m args below meth c H locs cells slots Q (F0 m pc ls (.ref (g.2.2 24) :: rest)) :=
  va_get (ci := 5) (v := .ref (g.2.2 25)) (C := RX5) (T := TX5) (N := 5) C.1 C.2.1 C.2.2.2.2.1 inX5 C.2.2.2.1 C.2.2.2.2.2.1 hP 24 rfl rfl 1 (by decide) (C.2.2.2.2.1 (.fieldLink RX5 9 "JudgedRows$Pool" "members" "[I") (tb_in 207 (by decide +kernel) (by decide +kernel))) (fun _ h => h) rfl hd kk
theorem gf_X9_45_24 (C : CX g A p s m args meth c cc nL RX9) (hP : va_P g.1 vwCl (wX g σ) H) (hd : decode cc pc = .ok (.getfield 45, 3)) (kk : W p l e R s m args below meth c H locs cells slots Q (F0 m (pc + 3) ls (.ref (g.2.2 25) :: rest))) : W p l e R s m args below meth c H locs cells slots Q (F0 m pc ls (.ref (g.2.2 24) :: rest)) :=
  va_get (ci := 5) (v := .ref (g.2.2 25)) (C := RX5) (T := TX5) (N := 5) C.1 C.2.1 C.2.2.2.2.1 inX5 C.2.2.2.1 C.2.2.2.2.2.1 hP 24 rfl rfl 1 (by decide) (C.2.2.2.2.1 (.fieldLink RX9 45 "JudgedRows$Pool" "members" "[I") (tb_in 208 (by decide +kernel) (by decide +kernel))) (fun _ h => h) rfl hd kk
theorem gf_X11_196_24 (C : CX g A p s m args meth c cc nL RX11) (hP : va_P g.1 vwCl (wX g σ) H) (hd : decode cc pc = .ok (.getfield 196, 3)) (kk : W p l e R s m args below meth c H locs cells slots Q (F0 m (pc + 3) ls (.ref (g.2.2 25) :: rest))) : W p l e R s m args below meth c H locs cells slots Q (F0 m pc ls (.ref (g.2.2 24) :: rest)) :=
  va_get (ci := 5) (v := .ref (g.2.2 25)) (C := RX5) (T := TX5) (N := 5) C.1 C.2.1 C.2.2.2.2.1 inX5 C.2.2.2.1 C.2.2.2.2.2.1 hP 24 rfl rfl 1 (by decide) (C.2.2.2.2.1 (.fieldLink RX11 196 "JudgedRows$Pool" "members" "[I") (tb_in 209 (by decide +kernel) (by decide +kernel))) (fun _ h => h) rfl hd kk
theorem gf_X5_32_24 (C : CX g A p s m args meth c cc nL RX5) (hP : va_P g.1 vwCl (wX g σ) H) (hd : decode cc pc = .ok (.getfield 32, 3)) (kk : W p l e R s m args below meth c H locs cells slots Q (F0 m (pc + 3) ls (.int (σ 24 2) :: rest))) : W p l e R s m args below meth c H locs cells slots Q (F0 m pc ls (.ref (g.2.2 24) :: rest)) :=
  va_get (ci := 5) (v := .int (σ 24 2)) (C := RX5) (T := TX5) (N := 5) C.1 C.2.1 C.2.2.2.2.1 inX5 C.2.2.2.1 C.2.2.2.2.2.1 hP 24 rfl rfl 2 (by decide) (C.2.2.2.2.1 (.fieldLink RX5 32 "JudgedRows$Pool" "size" "I") (tb_in 210 (by decide +kernel) (by decide +kernel))) (fun _ h => h) rfl hd kk
theorem pf_X5_32_24 (C : CX g A p s m args meth c cc nL RX5) (hP : va_P g.1 vwCl (wX g σ) H) (hS : va_S A s.heap H locs) {v : Int32} (hd : decode cc pc = .ok (.putfield 32, 3)) (kk : ∀ (H1 : Heap) (locs1 : List Loc), va_P g.1 vwCl (wX g (pt σ 24 2 v)) H1 → va_S A s.heap H1 locs1 → W p l e R s m args below meth c H1 locs1 cells slots Q (F0 m (pc + 3) ls rest)) : W p l e R s m args below meth c H locs cells slots Q (F0 m pc ls (.int v :: .ref (g.2.2 24) :: rest)) :=
  va_put (ci := 5) (v := .int v) (ty := .int) (C := RX5) (T := TX5) (N := 5) C.1 C.2.1 C.2.2.2.2.1 inX5 tyX5 tyX5_ok nmX5 C.2.2.2.1 C.2.2.2.2.2.1 hP C.D hS 24 rfl rfl 2 (by decide) (C.2.2.2.2.1 (.fieldLink RX5 32 "JudgedRows$Pool" "size" "I") (tb_in 210 (by decide +kernel) (by decide +kernel))) (fun _ h => h) rfl (by decide +kernel) rfl rfl (Nat.le_of_ble_eq_true rfl) hd (fun H1 locs1 h1 _ h3 => kk H1 locs1 h1 h3)
theorem gf_X9_49_24 (C : CX g A p s m args meth c cc nL RX9) (hP : va_P g.1 vwCl (wX g σ) H) (hd : decode cc pc = .ok (.getfield 49, 3)) (kk : W p l e R s m args below meth c H locs cells slots Q (F0 m (pc + 3) ls (.int (σ 24 2) :: rest))) : W p l e R s m args below meth c H locs cells slots Q (F0 m pc ls (.ref (g.2.2 24) :: rest)) :=
  va_get (ci := 5) (v := .int (σ 24 2)) (C := RX5) (T := TX5) (N := 5) C.1 C.2.1 C.2.2.2.2.1 inX5 C.2.2.2.1 C.2.2.2.2.2.1 hP 24 rfl rfl 2 (by decide) (C.2.2.2.2.1 (.fieldLink RX9 49 "JudgedRows$Pool" "size" "I") (tb_in 211 (by decide +kernel) (by decide +kernel))) (fun _ h => h) rfl hd kk
theorem pf_X9_49_24 (C : CX g A p s m args meth c cc nL RX9) (hP : va_P g.1 vwCl (wX g σ) H) (hS : va_S A s.heap H locs) {v : Int32} (hd : decode cc pc = .ok (.putfield 49, 3)) (kk : ∀ (H1 : Heap) (locs1 : List Loc), va_P g.1 vwCl (wX g (pt σ 24 2 v)) H1 → va_S A s.heap H1 locs1 → W p l e R s m args below meth c H1 locs1 cells slots Q (F0 m (pc + 3) ls rest)) : W p l e R s m args below meth c H locs cells slots Q (F0 m pc ls (.int v :: .ref (g.2.2 24) :: rest)) :=
  va_put (ci := 5) (v := .int v) (ty := .int) (C := RX5) (T := TX5) (N := 5) C.1 C.2.1 C.2.2.2.2.1 inX5 tyX5 tyX5_ok nmX5 C.2.2.2.1 C.2.2.2.2.2.1 hP C.D hS 24 rfl rfl 2 (by decide) (C.2.2.2.2.1 (.fieldLink RX9 49 "JudgedRows$Pool" "size" "I") (tb_in 211 (by decide +kernel) (by decide +kernel))) (fun _ h => h) rfl (by decide +kernel) rfl rfl (Nat.le_of_ble_eq_true rfl) hd (fun H1 locs1 h1 _ h3 => kk H1 locs1 h1 h3)
theorem gf_X11_212_24 (C : CX g A p s m args meth c cc nL RX11) (hP : va_P g.1 vwCl (wX g σ) H) (hd : decode cc pc = .ok (.getfield 212, 3)) (kk : W p l e R s m args below meth c H locs cells slots Q (F0 m (pc + 3) ls (.int (σ 24 2) :: rest))) : W p l e R s m args below meth c H locs cells slots Q (F0 m pc ls (.ref (g.2.2 24) :: rest)) :=
  va_get (ci := 5) (v := .int (σ 24 2)) (C := RX5) (T := TX5) (N := 5) C.1 C.2.1 C.2.2.2.2.1 inX5 C.2.2.2.1 C.2.2.2.2.2.1 hP 24 rfl rfl 2 (by decide) (C.2.2.2.2.1 (.fieldLink RX11 212 "JudgedRows$Pool" "size" "I") (tb_in 212 (by decide +kernel) (by decide +kernel))) (fun _ h => h) rfl hd kk
theorem pf_X11_212_24 (C : CX g A p s m args meth c cc nL RX11) (hP : va_P g.1 vwCl (wX g σ) H) (hS : va_S A s.heap H locs) {v : Int32} (hd : decode cc pc = .ok (.putfield 212, 3)) (kk : ∀ (H1 : Heap) (locs1 : List Loc), va_P g.1 vwCl (wX g (pt σ 24 2 v)) H1 → va_S A s.heap H1 locs1 → W p l e R s m args below meth c H1 locs1 cells slots Q (F0 m (pc + 3) ls rest)) : W p l e R s m args below meth c H locs cells slots Q (F0 m pc ls (.int v :: .ref (g.2.2 24) :: rest)) :=
  va_put (ci := 5) (v := .int v) (ty := .int) (C := RX5) (T := TX5) (N := 5) C.1 C.2.1 C.2.2.2.2.1 inX5 tyX5 tyX5_ok nmX5 C.2.2.2.1 C.2.2.2.2.2.1 hP C.D hS 24 rfl rfl 2 (by decide) (C.2.2.2.2.1 (.fieldLink RX11 212 "JudgedRows$Pool" "size" "I") (tb_in 212 (by decide +kernel) (by decide +kernel))) (fun _ h => h) rfl (by decide +kernel) rfl rfl (Nat.le_of_ble_eq_true rfl) hd (fun H1 locs1 h1 _ h3 => kk H1 locs1 h1 h3)
theorem gf_X5_15_24 (C : CX g A p s m args meth c cc nL RX5) (hP : va_P g.1 vwCl (wX g σ) H) (hd : decode cc pc = .ok (.getfield 15, 3)) (kk : W p l e R s m args below meth c H locs cells slots Q (F0 m (pc + 3) ls (.ref (g.2.2 26) :: rest))) : W p l e R s m args below meth c H locs cells slots Q (F0 m pc ls (.ref (g.2.2 24) :: rest)) :=
  va_get (ci := 5) (v := .ref (g.2.2 26)) (C := RX5) (T := TX5) (N := 5) C.1 C.2.1 C.2.2.2.2.1 inX5 C.2.2.2.1 C.2.2.2.2.2.1 hP 24 rfl rfl 3 (by decide) (C.2.2.2.2.1 (.fieldLink RX5 15 "JudgedRows$Pool" "isMember" "[Z") (tb_in 213 (by decide +kernel) (by decide +kernel))) (fun _ h => h) rfl hd kk
theorem gf_X5_19_24 (C : CX g A p s m args meth c cc nL RX5) (hP : va_P g.1 vwCl (wX g σ) H) (hd : decode cc pc = .ok (.getfield 19, 3)) (kk : W p l e R s m args below meth c H locs cells slots Q (F0 m (pc + 3) ls (.ref (g.2.2 27) :: rest))) : W p l e R s m args below meth c H locs cells slots Q (F0 m pc ls (.ref (g.2.2 24) :: rest)) :=
  va_get (ci := 5) (v := .ref (g.2.2 27)) (C := RX5) (T := TX5) (N := 5) C.1 C.2.1 C.2.2.2.2.1 inX5 C.2.2.2.1 C.2.2.2.2.2.1 hP 24 rfl rfl 4 (by decide) (C.2.2.2.2.1 (.fieldLink RX5 19 "JudgedRows$Pool" "often" "[I") (tb_in 214 (by decide +kernel) (by decide +kernel))) (fun _ h => h) rfl hd kk
theorem gf_X4_15_28 (C : CX g A p s m args meth c cc nL RX4) (hP : va_P g.1 vwCl (wX g σ) H) (hd : decode cc pc = .ok (.getfield 15, 3)) (kk : W p l e R s m args below meth c H locs cells slots Q (F0 m (pc + 3) ls (.ref (g.2.2 20) :: rest))) : W p l e R s m args below meth c H locs cells slots Q (F0 m pc ls (.ref (g.2.2 28) :: rest)) :=
  va_get (ci := 4) (v := .ref (g.2.2 20)) (C := RX4) (T := TX4) (N := 6) C.1 C.2.1 C.2.2.2.2.1 inX4 C.2.2.2.1 C.2.2.2.2.2.1 hP 28 rfl rfl 0 (by decide) (C.2.2.2.2.1 (.fieldLink RX4 15 "JudgedRows$Parting" "rows" "LJudgedRows$Rows;") (tb_in 233 (by decide +kernel) (by decide +kernel))) (fun _ h => h) rfl hd kk
theorem gf_X4_9_28 (C : CX g A p s m args meth c cc nL RX4) (hP : va_P g.1 vwCl (wX g σ) H) (hd : decode cc pc = .ok (.getfield 9, 3)) (kk : W p l e R s m args below meth c H locs cells slots Q (F0 m (pc + 3) ls (.ref (g.2.2 29) :: rest))) : W p l e R s m args below meth c H locs cells slots Q (F0 m pc ls (.ref (g.2.2 28) :: rest)) :=
  va_get (ci := 4) (v := .ref (g.2.2 29)) (C := RX4) (T := TX4) (N := 6) C.1 C.2.1 C.2.2.2.2.1 inX4 C.2.2.2.1 C.2.2.2.2.2.1 hP 28 rfl rfl 1 (by decide) (C.2.2.2.2.1 (.fieldLink RX4 9 "JudgedRows$Parting" "marks" "[I") (tb_in 234 (by decide +kernel) (by decide +kernel))) (fun _ h => h) rfl hd kk
theorem gf_X4_50_28 (C : CX g A p s m args meth c cc nL RX4) (hP : va_P g.1 vwCl (wX g σ) H) (hd : decode cc pc = .ok (.getfield 50, 3)) (kk : W p l e R s m args below meth c H locs cells slots Q (F0 m (pc + 3) ls (.int (σ 28 2) :: rest))) : W p l e R s m args below meth c H locs cells slots Q (F0 m pc ls (.ref (g.2.2 28) :: rest)) :=
  va_get (ci := 4) (v := .int (σ 28 2)) (C := RX4) (T := TX4) (N := 6) C.1 C.2.1 C.2.2.2.2.1 inX4 C.2.2.2.1 C.2.2.2.2.2.1 hP 28 rfl rfl 2 (by decide) (C.2.2.2.2.1 (.fieldLink RX4 50 "JudgedRows$Parting" "trials" "I") (tb_in 235 (by decide +kernel) (by decide +kernel))) (fun _ h => h) rfl hd kk
theorem pf_X4_50_28 (C : CX g A p s m args meth c cc nL RX4) (hP : va_P g.1 vwCl (wX g σ) H) (hS : va_S A s.heap H locs) {v : Int32} (hd : decode cc pc = .ok (.putfield 50, 3)) (kk : ∀ (H1 : Heap) (locs1 : List Loc), va_P g.1 vwCl (wX g (pt σ 28 2 v)) H1 → va_S A s.heap H1 locs1 → W p l e R s m args below meth c H1 locs1 cells slots Q (F0 m (pc + 3) ls rest)) : W p l e R s m args below meth c H locs cells slots Q (F0 m pc ls (.int v :: .ref (g.2.2 28) :: rest)) :=
  va_put (ci := 4) (v := .int v) (ty := .int) (C := RX4) (T := TX4) (N := 6) C.1 C.2.1 C.2.2.2.2.1 inX4 tyX4 tyX4_ok nmX4 C.2.2.2.1 C.2.2.2.2.2.1 hP C.D hS 28 rfl rfl 2 (by decide) (C.2.2.2.2.1 (.fieldLink RX4 50 "JudgedRows$Parting" "trials" "I") (tb_in 235 (by decide +kernel) (by decide +kernel))) (fun _ h => h) rfl (by decide +kernel) rfl rfl (Nat.le_of_ble_eq_true rfl) hd (fun H1 locs1 h1 _ h3 => kk H1 locs1 h1 h3)
theorem gf_X4_37_28 (C : CX g A p s m args meth c cc nL RX4) (hP : va_P g.1 vwCl (wX g σ) H) (hd : decode cc pc = .ok (.getfield 37, 3)) (kk : W p l e R s m args below meth c H locs cells slots Q (F0 m (pc + 3) ls (.int (σ 28 3) :: rest))) : W p l e R s m args below meth c H locs cells slots Q (F0 m pc ls (.ref (g.2.2 28) :: rest)) :=
  va_get (ci := 4) (v := .int (σ 28 3)) (C := RX4) (T := TX4) (N := 6) C.1 C.2.1 C.2.2.2.2.1 inX4 C.2.2.2.1 C.2.2.2.2.2.1 hP 28 rfl rfl 3 (by decide) (C.2.2.2.2.1 (.fieldLink RX4 37 "JudgedRows$Parting" "many" "I") (tb_in 236 (by decide +kernel) (by decide +kernel))) (fun _ h => h) rfl hd kk
theorem pf_X4_37_28 (C : CX g A p s m args meth c cc nL RX4) (hP : va_P g.1 vwCl (wX g σ) H) (hS : va_S A s.heap H locs) {v : Int32} (hd : decode cc pc = .ok (.putfield 37, 3)) (kk : ∀ (H1 : Heap) (locs1 : List Loc), va_P g.1 vwCl (wX g (pt σ 28 3 v)) H1 → va_S A s.heap H1 locs1 → W p l e R s m args below meth c H1 locs1 cells slots Q (F0 m (pc + 3) ls rest)) : W p l e R s m args below meth c H locs cells slots Q (F0 m pc ls (.int v :: .ref (g.2.2 28) :: rest)) :=
  va_put (ci := 4) (v := .int v) (ty := .int) (C := RX4) (T := TX4) (N := 6) C.1 C.2.1 C.2.2.2.2.1 inX4 tyX4 tyX4_ok nmX4 C.2.2.2.1 C.2.2.2.2.2.1 hP C.D hS 28 rfl rfl 3 (by decide) (C.2.2.2.2.1 (.fieldLink RX4 37 "JudgedRows$Parting" "many" "I") (tb_in 236 (by decide +kernel) (by decide +kernel))) (fun _ h => h) rfl (by decide +kernel) rfl rfl (Nat.le_of_ble_eq_true rfl) hd (fun H1 locs1 h1 _ h3 => kk H1 locs1 h1 h3)
theorem gf_X11_238_28 (C : CX g A p s m args meth c cc nL RX11) (hP : va_P g.1 vwCl (wX g σ) H) (hd : decode cc pc = .ok (.getfield 238, 3)) (kk : W p l e R s m args below meth c H locs cells slots Q (F0 m (pc + 3) ls (.int (σ 28 3) :: rest))) : W p l e R s m args below meth c H locs cells slots Q (F0 m pc ls (.ref (g.2.2 28) :: rest)) :=
  va_get (ci := 4) (v := .int (σ 28 3)) (C := RX4) (T := TX4) (N := 6) C.1 C.2.1 C.2.2.2.2.1 inX4 C.2.2.2.1 C.2.2.2.2.2.1 hP 28 rfl rfl 3 (by decide) (C.2.2.2.2.1 (.fieldLink RX11 238 "JudgedRows$Parting" "many" "I") (tb_in 237 (by decide +kernel) (by decide +kernel))) (fun _ h => h) rfl hd kk
theorem pf_X11_238_28 (C : CX g A p s m args meth c cc nL RX11) (hP : va_P g.1 vwCl (wX g σ) H) (hS : va_S A s.heap H locs) {v : Int32} (hd : decode cc pc = .ok (.putfield 238, 3)) (kk : ∀ (H1 : Heap) (locs1 : List Loc), va_P g.1 vwCl (wX g (pt σ 28 3 v)) H1 → va_S A s.heap H1 locs1 → W p l e R s m args below meth c H1 locs1 cells slots Q (F0 m (pc + 3) ls rest)) : W p l e R s m args below meth c H locs cells slots Q (F0 m pc ls (.int v :: .ref (g.2.2 28) :: rest)) :=
  va_put (ci := 4) (v := .int v) (ty := .int) (C := RX4) (T := TX4) (N := 6) C.1 C.2.1 C.2.2.2.2.1 inX4 tyX4 tyX4_ok nmX4 C.2.2.2.1 C.2.2.2.2.2.1 hP C.D hS 28 rfl rfl 3 (by decide) (C.2.2.2.2.1 (.fieldLink RX11 238 "JudgedRows$Parting" "many" "I") (tb_in 237 (by decide +kernel) (by decide +kernel))) (fun _ h => h) rfl (by decide +kernel) rfl rfl (Nat.le_of_ble_eq_true rfl) hd (fun H1 locs1 h1 _ h3 => kk H1 locs1 h1 h3)
theorem gf_X4_40_28 (C : CX g A p s m args meth c cc nL RX4) (hP : va_P g.1 vwCl (wX g σ) H) (hd : decode cc pc = .ok (.getfield 40, 3)) (kk : W p l e R s m args below meth c H locs cells slots Q (F0 m (pc + 3) ls (.int (σ 28 4) :: rest))) : W p l e R s m args below meth c H locs cells slots Q (F0 m pc ls (.ref (g.2.2 28) :: rest)) :=
  va_get (ci := 4) (v := .int (σ 28 4)) (C := RX4) (T := TX4) (N := 6) C.1 C.2.1 C.2.2.2.2.1 inX4 C.2.2.2.1 C.2.2.2.2.2.1 hP 28 rfl rfl 4 (by decide) (C.2.2.2.2.1 (.fieldLink RX4 40 "JudgedRows$Parting" "first" "I") (tb_in 238 (by decide +kernel) (by decide +kernel))) (fun _ h => h) rfl hd kk
theorem pf_X4_40_28 (C : CX g A p s m args meth c cc nL RX4) (hP : va_P g.1 vwCl (wX g σ) H) (hS : va_S A s.heap H locs) {v : Int32} (hd : decode cc pc = .ok (.putfield 40, 3)) (kk : ∀ (H1 : Heap) (locs1 : List Loc), va_P g.1 vwCl (wX g (pt σ 28 4 v)) H1 → va_S A s.heap H1 locs1 → W p l e R s m args below meth c H1 locs1 cells slots Q (F0 m (pc + 3) ls rest)) : W p l e R s m args below meth c H locs cells slots Q (F0 m pc ls (.int v :: .ref (g.2.2 28) :: rest)) :=
  va_put (ci := 4) (v := .int v) (ty := .int) (C := RX4) (T := TX4) (N := 6) C.1 C.2.1 C.2.2.2.2.1 inX4 tyX4 tyX4_ok nmX4 C.2.2.2.1 C.2.2.2.2.2.1 hP C.D hS 28 rfl rfl 4 (by decide) (C.2.2.2.2.1 (.fieldLink RX4 40 "JudgedRows$Parting" "first" "I") (tb_in 238 (by decide +kernel) (by decide +kernel))) (fun _ h => h) rfl (by decide +kernel) rfl rfl (Nat.le_of_ble_eq_true rfl) hd (fun H1 locs1 h1 _ h3 => kk H1 locs1 h1 h3)
theorem gf_X11_241_28 (C : CX g A p s m args meth c cc nL RX11) (hP : va_P g.1 vwCl (wX g σ) H) (hd : decode cc pc = .ok (.getfield 241, 3)) (kk : W p l e R s m args below meth c H locs cells slots Q (F0 m (pc + 3) ls (.int (σ 28 4) :: rest))) : W p l e R s m args below meth c H locs cells slots Q (F0 m pc ls (.ref (g.2.2 28) :: rest)) :=
  va_get (ci := 4) (v := .int (σ 28 4)) (C := RX4) (T := TX4) (N := 6) C.1 C.2.1 C.2.2.2.2.1 inX4 C.2.2.2.1 C.2.2.2.2.2.1 hP 28 rfl rfl 4 (by decide) (C.2.2.2.2.1 (.fieldLink RX11 241 "JudgedRows$Parting" "first" "I") (tb_in 239 (by decide +kernel) (by decide +kernel))) (fun _ h => h) rfl hd kk
theorem pf_X11_241_28 (C : CX g A p s m args meth c cc nL RX11) (hP : va_P g.1 vwCl (wX g σ) H) (hS : va_S A s.heap H locs) {v : Int32} (hd : decode cc pc = .ok (.putfield 241, 3)) (kk : ∀ (H1 : Heap) (locs1 : List Loc), va_P g.1 vwCl (wX g (pt σ 28 4 v)) H1 → va_S A s.heap H1 locs1 → W p l e R s m args below meth c H1 locs1 cells slots Q (F0 m (pc + 3) ls rest)) : W p l e R s m args below meth c H locs cells slots Q (F0 m pc ls (.int v :: .ref (g.2.2 28) :: rest)) :=
  va_put (ci := 4) (v := .int v) (ty := .int) (C := RX4) (T := TX4) (N := 6) C.1 C.2.1 C.2.2.2.2.1 inX4 tyX4 tyX4_ok nmX4 C.2.2.2.1 C.2.2.2.2.2.1 hP C.D hS 28 rfl rfl 4 (by decide) (C.2.2.2.2.1 (.fieldLink RX11 241 "JudgedRows$Parting" "first" "I") (tb_in 239 (by decide +kernel) (by decide +kernel))) (fun _ h => h) rfl (by decide +kernel) rfl rfl (Nat.le_of_ble_eq_true rfl) hd (fun H1 locs1 h1 _ h3 => kk H1 locs1 h1 h3)
theorem gf_X4_43_28 (C : CX g A p s m args meth c cc nL RX4) (hP : va_P g.1 vwCl (wX g σ) H) (hd : decode cc pc = .ok (.getfield 43, 3)) (kk : W p l e R s m args below meth c H locs cells slots Q (F0 m (pc + 3) ls (.int (σ 28 5) :: rest))) : W p l e R s m args below meth c H locs cells slots Q (F0 m pc ls (.ref (g.2.2 28) :: rest)) :=
  va_get (ci := 4) (v := .int (σ 28 5)) (C := RX4) (T := TX4) (N := 6) C.1 C.2.1 C.2.2.2.2.1 inX4 C.2.2.2.1 C.2.2.2.2.2.1 hP 28 rfl rfl 5 (by decide) (C.2.2.2.2.1 (.fieldLink RX4 43 "JudgedRows$Parting" "second" "I") (tb_in 240 (by decide +kernel) (by decide +kernel))) (fun _ h => h) rfl hd kk
theorem pf_X4_43_28 (C : CX g A p s m args meth c cc nL RX4) (hP : va_P g.1 vwCl (wX g σ) H) (hS : va_S A s.heap H locs) {v : Int32} (hd : decode cc pc = .ok (.putfield 43, 3)) (kk : ∀ (H1 : Heap) (locs1 : List Loc), va_P g.1 vwCl (wX g (pt σ 28 5 v)) H1 → va_S A s.heap H1 locs1 → W p l e R s m args below meth c H1 locs1 cells slots Q (F0 m (pc + 3) ls rest)) : W p l e R s m args below meth c H locs cells slots Q (F0 m pc ls (.int v :: .ref (g.2.2 28) :: rest)) :=
  va_put (ci := 4) (v := .int v) (ty := .int) (C := RX4) (T := TX4) (N := 6) C.1 C.2.1 C.2.2.2.2.1 inX4 tyX4 tyX4_ok nmX4 C.2.2.2.1 C.2.2.2.2.2.1 hP C.D hS 28 rfl rfl 5 (by decide) (C.2.2.2.2.1 (.fieldLink RX4 43 "JudgedRows$Parting" "second" "I") (tb_in 240 (by decide +kernel) (by decide +kernel))) (fun _ h => h) rfl (by decide +kernel) rfl rfl (Nat.le_of_ble_eq_true rfl) hd (fun H1 locs1 h1 _ h3 => kk H1 locs1 h1 h3)
theorem gf_X11_244_28 (C : CX g A p s m args meth c cc nL RX11) (hP : va_P g.1 vwCl (wX g σ) H) (hd : decode cc pc = .ok (.getfield 244, 3)) (kk : W p l e R s m args below meth c H locs cells slots Q (F0 m (pc + 3) ls (.int (σ 28 5) :: rest))) : W p l e R s m args below meth c H locs cells slots Q (F0 m pc ls (.ref (g.2.2 28) :: rest)) :=
  va_get (ci := 4) (v := .int (σ 28 5)) (C := RX4) (T := TX4) (N := 6) C.1 C.2.1 C.2.2.2.2.1 inX4 C.2.2.2.1 C.2.2.2.2.2.1 hP 28 rfl rfl 5 (by decide) (C.2.2.2.2.1 (.fieldLink RX11 244 "JudgedRows$Parting" "second" "I") (tb_in 241 (by decide +kernel) (by decide +kernel))) (fun _ h => h) rfl hd kk
theorem pf_X11_244_28 (C : CX g A p s m args meth c cc nL RX11) (hP : va_P g.1 vwCl (wX g σ) H) (hS : va_S A s.heap H locs) {v : Int32} (hd : decode cc pc = .ok (.putfield 244, 3)) (kk : ∀ (H1 : Heap) (locs1 : List Loc), va_P g.1 vwCl (wX g (pt σ 28 5 v)) H1 → va_S A s.heap H1 locs1 → W p l e R s m args below meth c H1 locs1 cells slots Q (F0 m (pc + 3) ls rest)) : W p l e R s m args below meth c H locs cells slots Q (F0 m pc ls (.int v :: .ref (g.2.2 28) :: rest)) :=
  va_put (ci := 4) (v := .int v) (ty := .int) (C := RX4) (T := TX4) (N := 6) C.1 C.2.1 C.2.2.2.2.1 inX4 tyX4 tyX4_ok nmX4 C.2.2.2.1 C.2.2.2.2.2.1 hP C.D hS 28 rfl rfl 5 (by decide) (C.2.2.2.2.1 (.fieldLink RX11 244 "JudgedRows$Parting" "second" "I") (tb_in 241 (by decide +kernel) (by decide +kernel))) (fun _ h => h) rfl (by decide +kernel) rfl rfl (Nat.le_of_ble_eq_true rfl) hd (fun H1 locs1 h1 _ h3 => kk H1 locs1 h1 h3)
theorem gf_X9_7_30 (C : CX g A p s m args meth c cc nL RX9) (hP : va_P g.1 vwCl (wX g σ) H) (hd : decode cc pc = .ok (.getfield 7, 3)) (kk : W p l e R s m args below meth c H locs cells slots Q (F0 m (pc + 3) ls (.ref (g.2.2 20) :: rest))) : W p l e R s m args below meth c H locs cells slots Q (F0 m pc ls (.ref (g.2.2 30) :: rest)) :=
  va_get (ci := 9) (v := .ref (g.2.2 20)) (C := RX9) (T := TX9) (N := 5) C.1 C.2.1 C.2.2.2.2.1 inX9 C.2.2.2.1 C.2.2.2.2.2.1 hP 30 rfl rfl 0 (by decide) (C.2.2.2.2.1 (.fieldLink RX9 7 "JudgedRows$Tries" "rows" "LJudgedRows$Rows;") (tb_in 261 (by decide +kernel) (by decide +kernel))) (fun _ h => h) rfl hd kk
theorem gf_X9_13_30 (C : CX g A p s m args meth c cc nL RX9) (hP : va_P g.1 vwCl (wX g σ) H) (hd : decode cc pc = .ok (.getfield 13, 3)) (kk : W p l e R s m args below meth c H locs cells slots Q (F0 m (pc + 3) ls (.ref (g.2.2 24) :: rest))) : W p l e R s m args below meth c H locs cells slots Q (F0 m pc ls (.ref (g.2.2 30) :: rest)) :=
  va_get (ci := 9) (v := .ref (g.2.2 24)) (C := RX9) (T := TX9) (N := 5) C.1 C.2.1 C.2.2.2.2.1 inX9 C.2.2.2.1 C.2.2.2.2.2.1 hP 30 rfl rfl 1 (by decide) (C.2.2.2.2.1 (.fieldLink RX9 13 "JudgedRows$Tries" "pool" "LJudgedRows$Pool;") (tb_in 262 (by decide +kernel) (by decide +kernel))) (fun _ h => h) rfl hd kk
theorem gf_X9_21_30 (C : CX g A p s m args meth c cc nL RX9) (hP : va_P g.1 vwCl (wX g σ) H) (hd : decode cc pc = .ok (.getfield 21, 3)) (kk : W p l e R s m args below meth c H locs cells slots Q (F0 m (pc + 3) ls (.int (σ 30 2) :: rest))) : W p l e R s m args below meth c H locs cells slots Q (F0 m pc ls (.ref (g.2.2 30) :: rest)) :=
  va_get (ci := 9) (v := .int (σ 30 2)) (C := RX9) (T := TX9) (N := 5) C.1 C.2.1 C.2.2.2.2.1 inX9 C.2.2.2.1 C.2.2.2.2.2.1 hP 30 rfl rfl 2 (by decide) (C.2.2.2.2.1 (.fieldLink RX9 21 "JudgedRows$Tries" "shown" "I") (tb_in 263 (by decide +kernel) (by decide +kernel))) (fun _ h => h) rfl hd kk
theorem pf_X9_21_30 (C : CX g A p s m args meth c cc nL RX9) (hP : va_P g.1 vwCl (wX g σ) H) (hS : va_S A s.heap H locs) {v : Int32} (hd : decode cc pc = .ok (.putfield 21, 3)) (kk : ∀ (H1 : Heap) (locs1 : List Loc), va_P g.1 vwCl (wX g (pt σ 30 2 v)) H1 → va_S A s.heap H1 locs1 → W p l e R s m args below meth c H1 locs1 cells slots Q (F0 m (pc + 3) ls rest)) : W p l e R s m args below meth c H locs cells slots Q (F0 m pc ls (.int v :: .ref (g.2.2 30) :: rest)) :=
  va_put (ci := 9) (v := .int v) (ty := .int) (C := RX9) (T := TX9) (N := 5) C.1 C.2.1 C.2.2.2.2.1 inX9 tyX9 tyX9_ok nmX9 C.2.2.2.1 C.2.2.2.2.2.1 hP C.D hS 30 rfl rfl 2 (by decide) (C.2.2.2.2.1 (.fieldLink RX9 21 "JudgedRows$Tries" "shown" "I") (tb_in 263 (by decide +kernel) (by decide +kernel))) (fun _ h => h) rfl (by decide +kernel) rfl rfl (Nat.le_of_ble_eq_true rfl) hd (fun H1 locs1 h1 _ h3 => kk H1 locs1 h1 h3)
theorem gf_X11_250_30 (C : CX g A p s m args meth c cc nL RX11) (hP : va_P g.1 vwCl (wX g σ) H) (hd : decode cc pc = .ok (.getfield 250, 3)) (kk : W p l e R s m args below meth c H locs cells slots Q (F0 m (pc + 3) ls (.int (σ 30 2) :: rest))) : W p l e R s m args below meth c H locs cells slots Q (F0 m pc ls (.ref (g.2.2 30) :: rest)) :=
  va_get (ci := 9) (v := .int (σ 30 2)) (C := RX9) (T := TX9) (N := 5) C.1 C.2.1 C.2.2.2.2.1 inX9 C.2.2.2.1 C.2.2.2.2.2.1 hP 30 rfl rfl 2 (by decide) (C.2.2.2.2.1 (.fieldLink RX11 250 "JudgedRows$Tries" "shown" "I") (tb_in 264 (by decide +kernel) (by decide +kernel))) (fun _ h => h) rfl hd kk
theorem pf_X11_250_30 (C : CX g A p s m args meth c cc nL RX11) (hP : va_P g.1 vwCl (wX g σ) H) (hS : va_S A s.heap H locs) {v : Int32} (hd : decode cc pc = .ok (.putfield 250, 3)) (kk : ∀ (H1 : Heap) (locs1 : List Loc), va_P g.1 vwCl (wX g (pt σ 30 2 v)) H1 → va_S A s.heap H1 locs1 → W p l e R s m args below meth c H1 locs1 cells slots Q (F0 m (pc + 3) ls rest)) : W p l e R s m args below meth c H locs cells slots Q (F0 m pc ls (.int v :: .ref (g.2.2 30) :: rest)) :=
  va_put (ci := 9) (v := .int v) (ty := .int) (C := RX9) (T := TX9) (N := 5) C.1 C.2.1 C.2.2.2.2.1 inX9 tyX9 tyX9_ok nmX9 C.2.2.2.1 C.2.2.2.2.2.1 hP C.D hS 30 rfl rfl 2 (by decide) (C.2.2.2.2.1 (.fieldLink RX11 250 "JudgedRows$Tries" "shown" "I") (tb_in 264 (by decide +kernel) (by decide +kernel))) (fun _ h => h) rfl (by decide +kernel) rfl rfl (Nat.le_of_ble_eq_true rfl) hd (fun H1 locs1 h1 _ h3 => kk H1 locs1 h1 h3)
theorem gf_X9_24_30 (C : CX g A p s m args meth c cc nL RX9) (hP : va_P g.1 vwCl (wX g σ) H) (hd : decode cc pc = .ok (.getfield 24, 3)) (kk : W p l e R s m args below meth c H locs cells slots Q (F0 m (pc + 3) ls (.int (σ 30 3) :: rest))) : W p l e R s m args below meth c H locs cells slots Q (F0 m pc ls (.ref (g.2.2 30) :: rest)) :=
  va_get (ci := 9) (v := .int (σ 30 3)) (C := RX9) (T := TX9) (N := 5) C.1 C.2.1 C.2.2.2.2.1 inX9 C.2.2.2.1 C.2.2.2.2.2.1 hP 30 rfl rfl 3 (by decide) (C.2.2.2.2.1 (.fieldLink RX9 24 "JudgedRows$Tries" "quick" "I") (tb_in 265 (by decide +kernel) (by decide +kernel))) (fun _ h => h) rfl hd kk
theorem pf_X9_24_30 (C : CX g A p s m args meth c cc nL RX9) (hP : va_P g.1 vwCl (wX g σ) H) (hS : va_S A s.heap H locs) {v : Int32} (hd : decode cc pc = .ok (.putfield 24, 3)) (kk : ∀ (H1 : Heap) (locs1 : List Loc), va_P g.1 vwCl (wX g (pt σ 30 3 v)) H1 → va_S A s.heap H1 locs1 → W p l e R s m args below meth c H1 locs1 cells slots Q (F0 m (pc + 3) ls rest)) : W p l e R s m args below meth c H locs cells slots Q (F0 m pc ls (.int v :: .ref (g.2.2 30) :: rest)) :=
  va_put (ci := 9) (v := .int v) (ty := .int) (C := RX9) (T := TX9) (N := 5) C.1 C.2.1 C.2.2.2.2.1 inX9 tyX9 tyX9_ok nmX9 C.2.2.2.1 C.2.2.2.2.2.1 hP C.D hS 30 rfl rfl 3 (by decide) (C.2.2.2.2.1 (.fieldLink RX9 24 "JudgedRows$Tries" "quick" "I") (tb_in 265 (by decide +kernel) (by decide +kernel))) (fun _ h => h) rfl (by decide +kernel) rfl rfl (Nat.le_of_ble_eq_true rfl) hd (fun H1 locs1 h1 _ h3 => kk H1 locs1 h1 h3)
theorem gf_X11_253_30 (C : CX g A p s m args meth c cc nL RX11) (hP : va_P g.1 vwCl (wX g σ) H) (hd : decode cc pc = .ok (.getfield 253, 3)) (kk : W p l e R s m args below meth c H locs cells slots Q (F0 m (pc + 3) ls (.int (σ 30 3) :: rest))) : W p l e R s m args below meth c H locs cells slots Q (F0 m pc ls (.ref (g.2.2 30) :: rest)) :=
  va_get (ci := 9) (v := .int (σ 30 3)) (C := RX9) (T := TX9) (N := 5) C.1 C.2.1 C.2.2.2.2.1 inX9 C.2.2.2.1 C.2.2.2.2.2.1 hP 30 rfl rfl 3 (by decide) (C.2.2.2.2.1 (.fieldLink RX11 253 "JudgedRows$Tries" "quick" "I") (tb_in 266 (by decide +kernel) (by decide +kernel))) (fun _ h => h) rfl hd kk
theorem pf_X11_253_30 (C : CX g A p s m args meth c cc nL RX11) (hP : va_P g.1 vwCl (wX g σ) H) (hS : va_S A s.heap H locs) {v : Int32} (hd : decode cc pc = .ok (.putfield 253, 3)) (kk : ∀ (H1 : Heap) (locs1 : List Loc), va_P g.1 vwCl (wX g (pt σ 30 3 v)) H1 → va_S A s.heap H1 locs1 → W p l e R s m args below meth c H1 locs1 cells slots Q (F0 m (pc + 3) ls rest)) : W p l e R s m args below meth c H locs cells slots Q (F0 m pc ls (.int v :: .ref (g.2.2 30) :: rest)) :=
  va_put (ci := 9) (v := .int v) (ty := .int) (C := RX9) (T := TX9) (N := 5) C.1 C.2.1 C.2.2.2.2.1 inX9 tyX9 tyX9_ok nmX9 C.2.2.2.1 C.2.2.2.2.2.1 hP C.D hS 30 rfl rfl 3 (by decide) (C.2.2.2.2.1 (.fieldLink RX11 253 "JudgedRows$Tries" "quick" "I") (tb_in 266 (by decide +kernel) (by decide +kernel))) (fun _ h => h) rfl (by decide +kernel) rfl rfl (Nat.le_of_ble_eq_true rfl) hd (fun H1 locs1 h1 _ h3 => kk H1 locs1 h1 h3)
theorem gf_X9_17_30 (C : CX g A p s m args meth c cc nL RX9) (hP : va_P g.1 vwCl (wX g σ) H) (hd : decode cc pc = .ok (.getfield 17, 3)) (kk : W p l e R s m args below meth c H locs cells slots Q (F0 m (pc + 3) ls (.int (σ 30 4) :: rest))) : W p l e R s m args below meth c H locs cells slots Q (F0 m pc ls (.ref (g.2.2 30) :: rest)) :=
  va_get (ci := 9) (v := .int (σ 30 4)) (C := RX9) (T := TX9) (N := 5) C.1 C.2.1 C.2.2.2.2.1 inX9 C.2.2.2.1 C.2.2.2.2.2.1 hP 30 rfl rfl 4 (by decide) (C.2.2.2.2.1 (.fieldLink RX9 17 "JudgedRows$Tries" "seed" "I") (tb_in 267 (by decide +kernel) (by decide +kernel))) (fun _ h => h) rfl hd kk
theorem pf_X9_17_30 (C : CX g A p s m args meth c cc nL RX9) (hP : va_P g.1 vwCl (wX g σ) H) (hS : va_S A s.heap H locs) {v : Int32} (hd : decode cc pc = .ok (.putfield 17, 3)) (kk : ∀ (H1 : Heap) (locs1 : List Loc), va_P g.1 vwCl (wX g (pt σ 30 4 v)) H1 → va_S A s.heap H1 locs1 → W p l e R s m args below meth c H1 locs1 cells slots Q (F0 m (pc + 3) ls rest)) : W p l e R s m args below meth c H locs cells slots Q (F0 m pc ls (.int v :: .ref (g.2.2 30) :: rest)) :=
  va_put (ci := 9) (v := .int v) (ty := .int) (C := RX9) (T := TX9) (N := 5) C.1 C.2.1 C.2.2.2.2.1 inX9 tyX9 tyX9_ok nmX9 C.2.2.2.1 C.2.2.2.2.2.1 hP C.D hS 30 rfl rfl 4 (by decide) (C.2.2.2.2.1 (.fieldLink RX9 17 "JudgedRows$Tries" "seed" "I") (tb_in 267 (by decide +kernel) (by decide +kernel))) (fun _ h => h) rfl (by decide +kernel) rfl rfl (Nat.le_of_ble_eq_true rfl) hd (fun H1 locs1 h1 _ h3 => kk H1 locs1 h1 h3)
theorem gf_X11_256_30 (C : CX g A p s m args meth c cc nL RX11) (hP : va_P g.1 vwCl (wX g σ) H) (hd : decode cc pc = .ok (.getfield 256, 3)) (kk : W p l e R s m args below meth c H locs cells slots Q (F0 m (pc + 3) ls (.int (σ 30 4) :: rest))) : W p l e R s m args below meth c H locs cells slots Q (F0 m pc ls (.ref (g.2.2 30) :: rest)) :=
  va_get (ci := 9) (v := .int (σ 30 4)) (C := RX9) (T := TX9) (N := 5) C.1 C.2.1 C.2.2.2.2.1 inX9 C.2.2.2.1 C.2.2.2.2.2.1 hP 30 rfl rfl 4 (by decide) (C.2.2.2.2.1 (.fieldLink RX11 256 "JudgedRows$Tries" "seed" "I") (tb_in 268 (by decide +kernel) (by decide +kernel))) (fun _ h => h) rfl hd kk
theorem pf_X11_256_30 (C : CX g A p s m args meth c cc nL RX11) (hP : va_P g.1 vwCl (wX g σ) H) (hS : va_S A s.heap H locs) {v : Int32} (hd : decode cc pc = .ok (.putfield 256, 3)) (kk : ∀ (H1 : Heap) (locs1 : List Loc), va_P g.1 vwCl (wX g (pt σ 30 4 v)) H1 → va_S A s.heap H1 locs1 → W p l e R s m args below meth c H1 locs1 cells slots Q (F0 m (pc + 3) ls rest)) : W p l e R s m args below meth c H locs cells slots Q (F0 m pc ls (.int v :: .ref (g.2.2 30) :: rest)) :=
  va_put (ci := 9) (v := .int v) (ty := .int) (C := RX9) (T := TX9) (N := 5) C.1 C.2.1 C.2.2.2.2.1 inX9 tyX9 tyX9_ok nmX9 C.2.2.2.1 C.2.2.2.2.2.1 hP C.D hS 30 rfl rfl 4 (by decide) (C.2.2.2.2.1 (.fieldLink RX11 256 "JudgedRows$Tries" "seed" "I") (tb_in 268 (by decide +kernel) (by decide +kernel))) (fun _ h => h) rfl (by decide +kernel) rfl rfl (Nat.le_of_ble_eq_true rfl) hd (fun H1 locs1 h1 _ h3 => kk H1 locs1 h1 h3)
theorem gf_X11_12_0 (C : CX g A p s m args meth c cc nL RX11) (hP : va_P g.1 vwCl (wX g σ) H) (hd : decode cc pc = .ok (.getfield 12, 3)) (kk : W p l e R s m args below meth c H locs cells slots Q (F0 m (pc + 3) ls (.ref (g.2.2 1) :: rest))) : W p l e R s m args below meth c H locs cells slots Q (F0 m pc ls (.ref (g.2.2 0) :: rest)) :=
  va_get (ci := 11) (v := .ref (g.2.2 1)) (C := RX11) (T := TX11) (N := 15) C.1 C.2.1 C.2.2.2.2.1 inX11 C.2.2.2.1 C.2.2.2.2.2.1 hP 0 rfl rfl 0 (by decide) (C.2.2.2.2.1 (.fieldLink RX11 12 "JudgedRows" "page" "LJudgedRows$Page;") (tb_in 280 (by decide +kernel) (by decide +kernel))) (fun _ h => h) rfl hd kk
theorem gf_X11_31_0 (C : CX g A p s m args meth c cc nL RX11) (hP : va_P g.1 vwCl (wX g σ) H) (hd : decode cc pc = .ok (.getfield 31, 3)) (kk : W p l e R s m args below meth c H locs cells slots Q (F0 m (pc + 3) ls (.ref (g.2.2 3) :: rest))) : W p l e R s m args below meth c H locs cells slots Q (F0 m pc ls (.ref (g.2.2 0) :: rest)) :=
  va_get (ci := 11) (v := .ref (g.2.2 3)) (C := RX11) (T := TX11) (N := 15) C.1 C.2.1 C.2.2.2.2.1 inX11 C.2.2.2.1 C.2.2.2.2.2.1 hP 0 rfl rfl 1 (by decide) (C.2.2.2.2.1 (.fieldLink RX11 31 "JudgedRows" "kinds" "[LJudgedRows$Judge;") (tb_in 281 (by decide +kernel) (by decide +kernel))) (fun _ h => h) rfl hd kk
theorem gf_X11_35_0 (C : CX g A p s m args meth c cc nL RX11) (hP : va_P g.1 vwCl (wX g σ) H) (hd : decode cc pc = .ok (.getfield 35, 3)) (kk : W p l e R s m args below meth c H locs cells slots Q (F0 m (pc + 3) ls (.ref (g.2.2 9) :: rest))) : W p l e R s m args below meth c H locs cells slots Q (F0 m pc ls (.ref (g.2.2 0) :: rest)) :=
  va_get (ci := 11) (v := .ref (g.2.2 9)) (C := RX11) (T := TX11) (N := 15) C.1 C.2.1 C.2.2.2.2.1 inX11 C.2.2.2.1 C.2.2.2.2.2.1 hP 0 rfl rfl 2 (by decide) (C.2.2.2.2.1 (.fieldLink RX11 35 "JudgedRows" "words" "[I") (tb_in 282 (by decide +kernel) (by decide +kernel))) (fun _ h => h) rfl hd kk
theorem gf_X11_42_0 (C : CX g A p s m args meth c cc nL RX11) (hP : va_P g.1 vwCl (wX g σ) H) (hd : decode cc pc = .ok (.getfield 42, 3)) (kk : W p l e R s m args below meth c H locs cells slots Q (F0 m (pc + 3) ls (.ref (g.2.2 10) :: rest))) : W p l e R s m args below meth c H locs cells slots Q (F0 m pc ls (.ref (g.2.2 0) :: rest)) :=
  va_get (ci := 11) (v := .ref (g.2.2 10)) (C := RX11) (T := TX11) (N := 15) C.1 C.2.1 C.2.2.2.2.1 inX11 C.2.2.2.1 C.2.2.2.2.2.1 hP 0 rfl rfl 3 (by decide) (C.2.2.2.2.1 (.fieldLink RX11 42 "JudgedRows" "now" "LJudgedRows$Course;") (tb_in 283 (by decide +kernel) (by decide +kernel))) (fun _ h => h) rfl hd kk
theorem gf_X11_46_0 (C : CX g A p s m args meth c cc nL RX11) (hP : va_P g.1 vwCl (wX g σ) H) (hd : decode cc pc = .ok (.getfield 46, 3)) (kk : W p l e R s m args below meth c H locs cells slots Q (F0 m (pc + 3) ls (.ref (g.2.2 15) :: rest))) : W p l e R s m args below meth c H locs cells slots Q (F0 m pc ls (.ref (g.2.2 0) :: rest)) :=
  va_get (ci := 11) (v := .ref (g.2.2 15)) (C := RX11) (T := TX11) (N := 15) C.1 C.2.1 C.2.2.2.2.1 inX11 C.2.2.2.1 C.2.2.2.2.2.1 hP 0 rfl rfl 4 (by decide) (C.2.2.2.2.1 (.fieldLink RX11 46 "JudgedRows" "kept" "LJudgedRows$Course;") (tb_in 284 (by decide +kernel) (by decide +kernel))) (fun _ h => h) rfl hd kk
theorem gf_X11_57_0 (C : CX g A p s m args meth c cc nL RX11) (hP : va_P g.1 vwCl (wX g σ) H) (hd : decode cc pc = .ok (.getfield 57, 3)) (kk : W p l e R s m args below meth c H locs cells slots Q (F0 m (pc + 3) ls (.ref (g.2.2 20) :: rest))) : W p l e R s m args below meth c H locs cells slots Q (F0 m pc ls (.ref (g.2.2 0) :: rest)) :=
  va_get (ci := 11) (v := .ref (g.2.2 20)) (C := RX11) (T := TX11) (N := 15) C.1 C.2.1 C.2.2.2.2.1 inX11 C.2.2.2.1 C.2.2.2.2.2.1 hP 0 rfl rfl 5 (by decide) (C.2.2.2.2.1 (.fieldLink RX11 57 "JudgedRows" "rows" "LJudgedRows$Rows;") (tb_in 285 (by decide +kernel) (by decide +kernel))) (fun _ h => h) rfl hd kk
theorem gf_X11_61_0 (C : CX g A p s m args meth c cc nL RX11) (hP : va_P g.1 vwCl (wX g σ) H) (hd : decode cc pc = .ok (.getfield 61, 3)) (kk : W p l e R s m args below meth c H locs cells slots Q (F0 m (pc + 3) ls (.ref (g.2.2 24) :: rest))) : W p l e R s m args below meth c H locs cells slots Q (F0 m pc ls (.ref (g.2.2 0) :: rest)) :=
  va_get (ci := 11) (v := .ref (g.2.2 24)) (C := RX11) (T := TX11) (N := 15) C.1 C.2.1 C.2.2.2.2.1 inX11 C.2.2.2.1 C.2.2.2.2.2.1 hP 0 rfl rfl 6 (by decide) (C.2.2.2.2.1 (.fieldLink RX11 61 "JudgedRows" "pool" "LJudgedRows$Pool;") (tb_in 286 (by decide +kernel) (by decide +kernel))) (fun _ h => h) rfl hd kk
theorem gf_X11_68_0 (C : CX g A p s m args meth c cc nL RX11) (hP : va_P g.1 vwCl (wX g σ) H) (hd : decode cc pc = .ok (.getfield 68, 3)) (kk : W p l e R s m args below meth c H locs cells slots Q (F0 m (pc + 3) ls (.ref (g.2.2 28) :: rest))) : W p l e R s m args below meth c H locs cells slots Q (F0 m pc ls (.ref (g.2.2 0) :: rest)) :=
  va_get (ci := 11) (v := .ref (g.2.2 28)) (C := RX11) (T := TX11) (N := 15) C.1 C.2.1 C.2.2.2.2.1 inX11 C.2.2.2.1 C.2.2.2.2.2.1 hP 0 rfl rfl 7 (by decide) (C.2.2.2.2.1 (.fieldLink RX11 68 "JudgedRows" "parting" "LJudgedRows$Parting;") (tb_in 287 (by decide +kernel) (by decide +kernel))) (fun _ h => h) rfl hd kk
theorem gf_X11_77_0 (C : CX g A p s m args meth c cc nL RX11) (hP : va_P g.1 vwCl (wX g σ) H) (hd : decode cc pc = .ok (.getfield 77, 3)) (kk : W p l e R s m args below meth c H locs cells slots Q (F0 m (pc + 3) ls (.ref (g.2.2 30) :: rest))) : W p l e R s m args below meth c H locs cells slots Q (F0 m pc ls (.ref (g.2.2 0) :: rest)) :=
  va_get (ci := 11) (v := .ref (g.2.2 30)) (C := RX11) (T := TX11) (N := 15) C.1 C.2.1 C.2.2.2.2.1 inX11 C.2.2.2.1 C.2.2.2.2.2.1 hP 0 rfl rfl 8 (by decide) (C.2.2.2.2.1 (.fieldLink RX11 77 "JudgedRows" "trial" "LJudgedRows$Tries;") (tb_in 288 (by decide +kernel) (by decide +kernel))) (fun _ h => h) rfl hd kk
theorem gf_X11_110_0 (C : CX g A p s m args meth c cc nL RX11) (hP : va_P g.1 vwCl (wX g σ) H) (hd : decode cc pc = .ok (.getfield 110, 3)) (kk : W p l e R s m args below meth c H locs cells slots Q (F0 m (pc + 3) ls (.int (σ 0 9) :: rest))) : W p l e R s m args below meth c H locs cells slots Q (F0 m pc ls (.ref (g.2.2 0) :: rest)) :=
  va_get (ci := 11) (v := .int (σ 0 9)) (C := RX11) (T := TX11) (N := 15) C.1 C.2.1 C.2.2.2.2.1 inX11 C.2.2.2.1 C.2.2.2.2.2.1 hP 0 rfl rfl 9 (by decide) (C.2.2.2.2.1 (.fieldLink RX11 110 "JudgedRows" "judges" "I") (tb_in 289 (by decide +kernel) (by decide +kernel))) (fun _ h => h) rfl hd kk
theorem pf_X11_110_0 (C : CX g A p s m args meth c cc nL RX11) (hP : va_P g.1 vwCl (wX g σ) H) (hS : va_S A s.heap H locs) {v : Int32} (hd : decode cc pc = .ok (.putfield 110, 3)) (kk : ∀ (H1 : Heap) (locs1 : List Loc), va_P g.1 vwCl (wX g (pt σ 0 9 v)) H1 → va_S A s.heap H1 locs1 → W p l e R s m args below meth c H1 locs1 cells slots Q (F0 m (pc + 3) ls rest)) : W p l e R s m args below meth c H locs cells slots Q (F0 m pc ls (.int v :: .ref (g.2.2 0) :: rest)) :=
  va_put (ci := 11) (v := .int v) (ty := .int) (C := RX11) (T := TX11) (N := 15) C.1 C.2.1 C.2.2.2.2.1 inX11 tyX11 tyX11_ok nmX11 C.2.2.2.1 C.2.2.2.2.2.1 hP C.D hS 0 rfl rfl 9 (by decide) (C.2.2.2.2.1 (.fieldLink RX11 110 "JudgedRows" "judges" "I") (tb_in 289 (by decide +kernel) (by decide +kernel))) (fun _ h => h) rfl (by decide +kernel) rfl rfl (Nat.le_of_ble_eq_true rfl) hd (fun H1 locs1 h1 _ h3 => kk H1 locs1 h1 h3)
theorem gf_X11_126_0 (C : CX g A p s m args meth c cc nL RX11) (hP : va_P g.1 vwCl (wX g σ) H) (hd : decode cc pc = .ok (.getfield 126, 3)) (kk : W p l e R s m args below meth c H locs cells slots Q (F0 m (pc + 3) ls (.int (σ 0 10) :: rest))) : W p l e R s m args below meth c H locs cells slots Q (F0 m pc ls (.ref (g.2.2 0) :: rest)) :=
  va_get (ci := 11) (v := .int (σ 0 10)) (C := RX11) (T := TX11) (N := 15) C.1 C.2.1 C.2.2.2.2.1 inX11 C.2.2.2.1 C.2.2.2.2.2.1 hP 0 rfl rfl 10 (by decide) (C.2.2.2.2.1 (.fieldLink RX11 126 "JudgedRows" "imageStands" "Z") (tb_in 290 (by decide +kernel) (by decide +kernel))) (fun _ h => h) rfl hd kk
theorem pf_X11_126_0 (C : CX g A p s m args meth c cc nL RX11) (hP : va_P g.1 vwCl (wX g σ) H) (hS : va_S A s.heap H locs) {v : Int32} (hz : narrow .boolean (.int v) = .int v) (hzf : fits .boolean (.int v) = true) (hd : decode cc pc = .ok (.putfield 126, 3)) (kk : ∀ (H1 : Heap) (locs1 : List Loc), va_P g.1 vwCl (wX g (pt σ 0 10 v)) H1 → va_S A s.heap H1 locs1 → W p l e R s m args below meth c H1 locs1 cells slots Q (F0 m (pc + 3) ls rest)) : W p l e R s m args below meth c H locs cells slots Q (F0 m pc ls (.int v :: .ref (g.2.2 0) :: rest)) :=
  va_put (ci := 11) (v := .int v) (ty := .boolean) (C := RX11) (T := TX11) (N := 15) C.1 C.2.1 C.2.2.2.2.1 inX11 tyX11 tyX11_ok nmX11 C.2.2.2.1 C.2.2.2.2.2.1 hP C.D hS 0 rfl rfl 10 (by decide) (C.2.2.2.2.1 (.fieldLink RX11 126 "JudgedRows" "imageStands" "Z") (tb_in 290 (by decide +kernel) (by decide +kernel))) (fun _ h => h) rfl (by decide +kernel) hz hzf (Nat.le_of_ble_eq_true rfl) hd (fun H1 locs1 h1 _ h3 => kk H1 locs1 h1 h3)
theorem gf_X11_130_0 (C : CX g A p s m args meth c cc nL RX11) (hP : va_P g.1 vwCl (wX g σ) H) (hd : decode cc pc = .ok (.getfield 130, 3)) (kk : W p l e R s m args below meth c H locs cells slots Q (F0 m (pc + 3) ls (.int (σ 0 11) :: rest))) : W p l e R s m args below meth c H locs cells slots Q (F0 m pc ls (.ref (g.2.2 0) :: rest)) :=
  va_get (ci := 11) (v := .int (σ 0 11)) (C := RX11) (T := TX11) (N := 15) C.1 C.2.1 C.2.2.2.2.1 inX11 C.2.2.2.1 C.2.2.2.2.2.1 hP 0 rfl rfl 11 (by decide) (C.2.2.2.2.1 (.fieldLink RX11 130 "JudgedRows" "gamesRead" "I") (tb_in 291 (by decide +kernel) (by decide +kernel))) (fun _ h => h) rfl hd kk
theorem pf_X11_130_0 (C : CX g A p s m args meth c cc nL RX11) (hP : va_P g.1 vwCl (wX g σ) H) (hS : va_S A s.heap H locs) {v : Int32} (hd : decode cc pc = .ok (.putfield 130, 3)) (kk : ∀ (H1 : Heap) (locs1 : List Loc), va_P g.1 vwCl (wX g (pt σ 0 11 v)) H1 → va_S A s.heap H1 locs1 → W p l e R s m args below meth c H1 locs1 cells slots Q (F0 m (pc + 3) ls rest)) : W p l e R s m args below meth c H locs cells slots Q (F0 m pc ls (.int v :: .ref (g.2.2 0) :: rest)) :=
  va_put (ci := 11) (v := .int v) (ty := .int) (C := RX11) (T := TX11) (N := 15) C.1 C.2.1 C.2.2.2.2.1 inX11 tyX11 tyX11_ok nmX11 C.2.2.2.1 C.2.2.2.2.2.1 hP C.D hS 0 rfl rfl 11 (by decide) (C.2.2.2.2.1 (.fieldLink RX11 130 "JudgedRows" "gamesRead" "I") (tb_in 291 (by decide +kernel) (by decide +kernel))) (fun _ h => h) rfl (by decide +kernel) rfl rfl (Nat.le_of_ble_eq_true rfl) hd (fun H1 locs1 h1 _ h3 => kk H1 locs1 h1 h3)
theorem gf_X11_199_0 (C : CX g A p s m args meth c cc nL RX11) (hP : va_P g.1 vwCl (wX g σ) H) (hd : decode cc pc = .ok (.getfield 199, 3)) (kk : W p l e R s m args below meth c H locs cells slots Q (F0 m (pc + 3) ls (.int (σ 0 12) :: rest))) : W p l e R s m args below meth c H locs cells slots Q (F0 m pc ls (.ref (g.2.2 0) :: rest)) :=
  va_get (ci := 11) (v := .int (σ 0 12)) (C := RX11) (T := TX11) (N := 15) C.1 C.2.1 C.2.2.2.2.1 inX11 C.2.2.2.1 C.2.2.2.2.2.1 hP 0 rfl rfl 12 (by decide) (C.2.2.2.2.1 (.fieldLink RX11 199 "JudgedRows" "bestDone" "I") (tb_in 292 (by decide +kernel) (by decide +kernel))) (fun _ h => h) rfl hd kk
theorem pf_X11_199_0 (C : CX g A p s m args meth c cc nL RX11) (hP : va_P g.1 vwCl (wX g σ) H) (hS : va_S A s.heap H locs) {v : Int32} (hd : decode cc pc = .ok (.putfield 199, 3)) (kk : ∀ (H1 : Heap) (locs1 : List Loc), va_P g.1 vwCl (wX g (pt σ 0 12 v)) H1 → va_S A s.heap H1 locs1 → W p l e R s m args below meth c H1 locs1 cells slots Q (F0 m (pc + 3) ls rest)) : W p l e R s m args below meth c H locs cells slots Q (F0 m pc ls (.int v :: .ref (g.2.2 0) :: rest)) :=
  va_put (ci := 11) (v := .int v) (ty := .int) (C := RX11) (T := TX11) (N := 15) C.1 C.2.1 C.2.2.2.2.1 inX11 tyX11 tyX11_ok nmX11 C.2.2.2.1 C.2.2.2.2.2.1 hP C.D hS 0 rfl rfl 12 (by decide) (C.2.2.2.2.1 (.fieldLink RX11 199 "JudgedRows" "bestDone" "I") (tb_in 292 (by decide +kernel) (by decide +kernel))) (fun _ h => h) rfl (by decide +kernel) rfl rfl (Nat.le_of_ble_eq_true rfl) hd (fun H1 locs1 h1 _ h3 => kk H1 locs1 h1 h3)
theorem gf_X11_216_0 (C : CX g A p s m args meth c cc nL RX11) (hP : va_P g.1 vwCl (wX g σ) H) (hd : decode cc pc = .ok (.getfield 216, 3)) (kk : W p l e R s m args below meth c H locs cells slots Q (F0 m (pc + 3) ls (.int (σ 0 13) :: rest))) : W p l e R s m args below meth c H locs cells slots Q (F0 m pc ls (.ref (g.2.2 0) :: rest)) :=
  va_get (ci := 11) (v := .int (σ 0 13)) (C := RX11) (T := TX11) (N := 15) C.1 C.2.1 C.2.2.2.2.1 inX11 C.2.2.2.1 C.2.2.2.2.2.1 hP 0 rfl rfl 13 (by decide) (C.2.2.2.2.1 (.fieldLink RX11 216 "JudgedRows" "longDone" "I") (tb_in 293 (by decide +kernel) (by decide +kernel))) (fun _ h => h) rfl hd kk
theorem pf_X11_216_0 (C : CX g A p s m args meth c cc nL RX11) (hP : va_P g.1 vwCl (wX g σ) H) (hS : va_S A s.heap H locs) {v : Int32} (hd : decode cc pc = .ok (.putfield 216, 3)) (kk : ∀ (H1 : Heap) (locs1 : List Loc), va_P g.1 vwCl (wX g (pt σ 0 13 v)) H1 → va_S A s.heap H1 locs1 → W p l e R s m args below meth c H1 locs1 cells slots Q (F0 m (pc + 3) ls rest)) : W p l e R s m args below meth c H locs cells slots Q (F0 m pc ls (.int v :: .ref (g.2.2 0) :: rest)) :=
  va_put (ci := 11) (v := .int v) (ty := .int) (C := RX11) (T := TX11) (N := 15) C.1 C.2.1 C.2.2.2.2.1 inX11 tyX11 tyX11_ok nmX11 C.2.2.2.1 C.2.2.2.2.2.1 hP C.D hS 0 rfl rfl 13 (by decide) (C.2.2.2.2.1 (.fieldLink RX11 216 "JudgedRows" "longDone" "I") (tb_in 293 (by decide +kernel) (by decide +kernel))) (fun _ h => h) rfl (by decide +kernel) rfl rfl (Nat.le_of_ble_eq_true rfl) hd (fun H1 locs1 h1 _ h3 => kk H1 locs1 h1 h3)
theorem gf_X11_231_0 (C : CX g A p s m args meth c cc nL RX11) (hP : va_P g.1 vwCl (wX g σ) H) (hd : decode cc pc = .ok (.getfield 231, 3)) (kk : W p l e R s m args below meth c H locs cells slots Q (F0 m (pc + 3) ls (.int (σ 0 14) :: rest))) : W p l e R s m args below meth c H locs cells slots Q (F0 m pc ls (.ref (g.2.2 0) :: rest)) :=
  va_get (ci := 11) (v := .int (σ 0 14)) (C := RX11) (T := TX11) (N := 15) C.1 C.2.1 C.2.2.2.2.1 inX11 C.2.2.2.1 C.2.2.2.2.2.1 hP 0 rfl rfl 14 (by decide) (C.2.2.2.2.1 (.fieldLink RX11 231 "JudgedRows" "partsDone" "I") (tb_in 294 (by decide +kernel) (by decide +kernel))) (fun _ h => h) rfl hd kk
theorem pf_X11_231_0 (C : CX g A p s m args meth c cc nL RX11) (hP : va_P g.1 vwCl (wX g σ) H) (hS : va_S A s.heap H locs) {v : Int32} (hd : decode cc pc = .ok (.putfield 231, 3)) (kk : ∀ (H1 : Heap) (locs1 : List Loc), va_P g.1 vwCl (wX g (pt σ 0 14 v)) H1 → va_S A s.heap H1 locs1 → W p l e R s m args below meth c H1 locs1 cells slots Q (F0 m (pc + 3) ls rest)) : W p l e R s m args below meth c H locs cells slots Q (F0 m pc ls (.int v :: .ref (g.2.2 0) :: rest)) :=
  va_put (ci := 11) (v := .int v) (ty := .int) (C := RX11) (T := TX11) (N := 15) C.1 C.2.1 C.2.2.2.2.1 inX11 tyX11 tyX11_ok nmX11 C.2.2.2.1 C.2.2.2.2.2.1 hP C.D hS 0 rfl rfl 14 (by decide) (C.2.2.2.2.1 (.fieldLink RX11 231 "JudgedRows" "partsDone" "I") (tb_in 294 (by decide +kernel) (by decide +kernel))) (fun _ h => h) rfl (by decide +kernel) rfl rfl (Nat.le_of_ble_eq_true rfl) hd (fun H1 locs1 h1 _ h3 => kk H1 locs1 h1 h3)
theorem gf_X12_7_31 (C : CM g A p s m args meth c cc nL RX12) (hP : va_P g.1 vwCl (wM g h σ) H) (hd : decode cc pc = .ok (.getfield 7, 3)) (kk : W p l e R s m args below meth c H locs cells slots Q (F0 m (pc + 3) ls (.ref (g.2.2 32) :: rest))) : W p l e R s m args below meth c H locs cells slots Q (F0 m pc ls (.ref (g.2.2 31) :: rest)) :=
  va_get (ci := 12) (v := .ref (g.2.2 32)) (C := RX12) (T := TX12) (N := 27) C.1 C.2.1 C.2.2.2.2.1 inX12 C.2.2.2.1 C.2.2.2.2.2.1 hP 0 rfl rfl 0 (by decide) (C.2.2.2.2.1 (.fieldLink RX12 7 "JudgedRowsModel" "page" "[I") (tb_in 780 (by decide +kernel) (by decide +kernel))) (fun _ h => h) rfl hd kk
theorem gf_X12_50_31 (C : CM g A p s m args meth c cc nL RX12) (hP : va_P g.1 vwCl (wM g h σ) H) (hd : decode cc pc = .ok (.getfield 50, 3)) (kk : W p l e R s m args below meth c H locs cells slots Q (F0 m (pc + 3) ls (.int (σ 31 1) :: rest))) : W p l e R s m args below meth c H locs cells slots Q (F0 m pc ls (.ref (g.2.2 31) :: rest)) :=
  va_get (ci := 12) (v := .int (σ 31 1)) (C := RX12) (T := TX12) (N := 27) C.1 C.2.1 C.2.2.2.2.1 inX12 C.2.2.2.1 C.2.2.2.2.2.1 hP 0 rfl rfl 1 (by decide) (C.2.2.2.2.1 (.fieldLink RX12 50 "JudgedRowsModel" "pageMany" "I") (tb_in 781 (by decide +kernel) (by decide +kernel))) (fun _ h => h) rfl hd kk
theorem pf_X12_50_31 (C : CM g A p s m args meth c cc nL RX12) (hP : va_P g.1 vwCl (wM g h σ) H) (hS : va_S A s.heap H locs) {v : Int32} (hd : decode cc pc = .ok (.putfield 50, 3)) (kk : ∀ (H1 : Heap) (locs1 : List Loc), va_P g.1 vwCl (wM g h (pt σ 31 1 v)) H1 → va_S A s.heap H1 locs1 → W p l e R s m args below meth c H1 locs1 cells slots Q (F0 m (pc + 3) ls rest)) : W p l e R s m args below meth c H locs cells slots Q (F0 m pc ls (.int v :: .ref (g.2.2 31) :: rest)) :=
  va_put (ci := 12) (v := .int v) (ty := .int) (C := RX12) (T := TX12) (N := 27) C.1 C.2.1 C.2.2.2.2.1 inX12 tyX12 tyX12_ok nmX12 C.2.2.2.1 C.2.2.2.2.2.1 hP C.D hS 0 rfl rfl 1 (by decide) (C.2.2.2.2.1 (.fieldLink RX12 50 "JudgedRowsModel" "pageMany" "I") (tb_in 781 (by decide +kernel) (by decide +kernel))) (fun _ h => h) rfl (by decide +kernel) rfl rfl (Nat.le_of_ble_eq_true rfl) hd (fun H1 locs1 h1 _ h3 => kk H1 locs1 h1 h3)
theorem gf_X12_53_31 (C : CM g A p s m args meth c cc nL RX12) (hP : va_P g.1 vwCl (wM g h σ) H) (hd : decode cc pc = .ok (.getfield 53, 3)) (kk : W p l e R s m args below meth c H locs cells slots Q (F0 m (pc + 3) ls (.int (σ 31 2) :: rest))) : W p l e R s m args below meth c H locs cells slots Q (F0 m pc ls (.ref (g.2.2 31) :: rest)) :=
  va_get (ci := 12) (v := .int (σ 31 2)) (C := RX12) (T := TX12) (N := 27) C.1 C.2.1 C.2.2.2.2.1 inX12 C.2.2.2.1 C.2.2.2.2.2.1 hP 0 rfl rfl 2 (by decide) (C.2.2.2.2.1 (.fieldLink RX12 53 "JudgedRowsModel" "end" "I") (tb_in 782 (by decide +kernel) (by decide +kernel))) (fun _ h => h) rfl hd kk
theorem pf_X12_53_31 (C : CM g A p s m args meth c cc nL RX12) (hP : va_P g.1 vwCl (wM g h σ) H) (hS : va_S A s.heap H locs) {v : Int32} (hd : decode cc pc = .ok (.putfield 53, 3)) (kk : ∀ (H1 : Heap) (locs1 : List Loc), va_P g.1 vwCl (wM g h (pt σ 31 2 v)) H1 → va_S A s.heap H1 locs1 → W p l e R s m args below meth c H1 locs1 cells slots Q (F0 m (pc + 3) ls rest)) : W p l e R s m args below meth c H locs cells slots Q (F0 m pc ls (.int v :: .ref (g.2.2 31) :: rest)) :=
  va_put (ci := 12) (v := .int v) (ty := .int) (C := RX12) (T := TX12) (N := 27) C.1 C.2.1 C.2.2.2.2.1 inX12 tyX12 tyX12_ok nmX12 C.2.2.2.1 C.2.2.2.2.2.1 hP C.D hS 0 rfl rfl 2 (by decide) (C.2.2.2.2.1 (.fieldLink RX12 53 "JudgedRowsModel" "end" "I") (tb_in 782 (by decide +kernel) (by decide +kernel))) (fun _ h => h) rfl (by decide +kernel) rfl rfl (Nat.le_of_ble_eq_true rfl) hd (fun H1 locs1 h1 _ h3 => kk H1 locs1 h1 h3)
theorem gf_X12_81_31 (C : CM g A p s m args meth c cc nL RX12) (hP : va_P g.1 vwCl (wM g h σ) H) (hd : decode cc pc = .ok (.getfield 81, 3)) (kk : W p l e R s m args below meth c H locs cells slots Q (F0 m (pc + 3) ls (.int (σ 31 3) :: rest))) : W p l e R s m args below meth c H locs cells slots Q (F0 m pc ls (.ref (g.2.2 31) :: rest)) :=
  va_get (ci := 12) (v := .int (σ 31 3)) (C := RX12) (T := TX12) (N := 27) C.1 C.2.1 C.2.2.2.2.1 inX12 C.2.2.2.1 C.2.2.2.2.2.1 hP 0 rfl rfl 3 (by decide) (C.2.2.2.2.1 (.fieldLink RX12 81 "JudgedRowsModel" "pegs" "I") (tb_in 783 (by decide +kernel) (by decide +kernel))) (fun _ h => h) rfl hd kk
theorem pf_X12_81_31 (C : CM g A p s m args meth c cc nL RX12) (hP : va_P g.1 vwCl (wM g h σ) H) (hS : va_S A s.heap H locs) {v : Int32} (hd : decode cc pc = .ok (.putfield 81, 3)) (kk : ∀ (H1 : Heap) (locs1 : List Loc), va_P g.1 vwCl (wM g h (pt σ 31 3 v)) H1 → va_S A s.heap H1 locs1 → W p l e R s m args below meth c H1 locs1 cells slots Q (F0 m (pc + 3) ls rest)) : W p l e R s m args below meth c H locs cells slots Q (F0 m pc ls (.int v :: .ref (g.2.2 31) :: rest)) :=
  va_put (ci := 12) (v := .int v) (ty := .int) (C := RX12) (T := TX12) (N := 27) C.1 C.2.1 C.2.2.2.2.1 inX12 tyX12 tyX12_ok nmX12 C.2.2.2.1 C.2.2.2.2.2.1 hP C.D hS 0 rfl rfl 3 (by decide) (C.2.2.2.2.1 (.fieldLink RX12 81 "JudgedRowsModel" "pegs" "I") (tb_in 783 (by decide +kernel) (by decide +kernel))) (fun _ h => h) rfl (by decide +kernel) rfl rfl (Nat.le_of_ble_eq_true rfl) hd (fun H1 locs1 h1 _ h3 => kk H1 locs1 h1 h3)
theorem gf_X12_84_31 (C : CM g A p s m args meth c cc nL RX12) (hP : va_P g.1 vwCl (wM g h σ) H) (hd : decode cc pc = .ok (.getfield 84, 3)) (kk : W p l e R s m args below meth c H locs cells slots Q (F0 m (pc + 3) ls (.int (σ 31 4) :: rest))) : W p l e R s m args below meth c H locs cells slots Q (F0 m pc ls (.ref (g.2.2 31) :: rest)) :=
  va_get (ci := 12) (v := .int (σ 31 4)) (C := RX12) (T := TX12) (N := 27) C.1 C.2.1 C.2.2.2.2.1 inX12 C.2.2.2.1 C.2.2.2.2.2.1 hP 0 rfl rfl 4 (by decide) (C.2.2.2.2.1 (.fieldLink RX12 84 "JudgedRowsModel" "colours" "I") (tb_in 784 (by decide +kernel) (by decide +kernel))) (fun _ h => h) rfl hd kk
theorem pf_X12_84_31 (C : CM g A p s m args meth c cc nL RX12) (hP : va_P g.1 vwCl (wM g h σ) H) (hS : va_S A s.heap H locs) {v : Int32} (hd : decode cc pc = .ok (.putfield 84, 3)) (kk : ∀ (H1 : Heap) (locs1 : List Loc), va_P g.1 vwCl (wM g h (pt σ 31 4 v)) H1 → va_S A s.heap H1 locs1 → W p l e R s m args below meth c H1 locs1 cells slots Q (F0 m (pc + 3) ls rest)) : W p l e R s m args below meth c H locs cells slots Q (F0 m pc ls (.int v :: .ref (g.2.2 31) :: rest)) :=
  va_put (ci := 12) (v := .int v) (ty := .int) (C := RX12) (T := TX12) (N := 27) C.1 C.2.1 C.2.2.2.2.1 inX12 tyX12 tyX12_ok nmX12 C.2.2.2.1 C.2.2.2.2.2.1 hP C.D hS 0 rfl rfl 4 (by decide) (C.2.2.2.2.1 (.fieldLink RX12 84 "JudgedRowsModel" "colours" "I") (tb_in 784 (by decide +kernel) (by decide +kernel))) (fun _ h => h) rfl (by decide +kernel) rfl rfl (Nat.le_of_ble_eq_true rfl) hd (fun H1 locs1 h1 _ h3 => kk H1 locs1 h1 h3)
theorem gf_X12_90_31 (C : CM g A p s m args meth c cc nL RX12) (hP : va_P g.1 vwCl (wM g h σ) H) (hd : decode cc pc = .ok (.getfield 90, 3)) (kk : W p l e R s m args below meth c H locs cells slots Q (F0 m (pc + 3) ls (.int (σ 31 5) :: rest))) : W p l e R s m args below meth c H locs cells slots Q (F0 m pc ls (.ref (g.2.2 31) :: rest)) :=
  va_get (ci := 12) (v := .int (σ 31 5)) (C := RX12) (T := TX12) (N := 27) C.1 C.2.1 C.2.2.2.2.1 inX12 C.2.2.2.1 C.2.2.2.2.2.1 hP 0 rfl rfl 5 (by decide) (C.2.2.2.2.1 (.fieldLink RX12 90 "JudgedRowsModel" "rows" "I") (tb_in 785 (by decide +kernel) (by decide +kernel))) (fun _ h => h) rfl hd kk
theorem pf_X12_90_31 (C : CM g A p s m args meth c cc nL RX12) (hP : va_P g.1 vwCl (wM g h σ) H) (hS : va_S A s.heap H locs) {v : Int32} (hd : decode cc pc = .ok (.putfield 90, 3)) (kk : ∀ (H1 : Heap) (locs1 : List Loc), va_P g.1 vwCl (wM g h (pt σ 31 5 v)) H1 → va_S A s.heap H1 locs1 → W p l e R s m args below meth c H1 locs1 cells slots Q (F0 m (pc + 3) ls rest)) : W p l e R s m args below meth c H locs cells slots Q (F0 m pc ls (.int v :: .ref (g.2.2 31) :: rest)) :=
  va_put (ci := 12) (v := .int v) (ty := .int) (C := RX12) (T := TX12) (N := 27) C.1 C.2.1 C.2.2.2.2.1 inX12 tyX12 tyX12_ok nmX12 C.2.2.2.1 C.2.2.2.2.2.1 hP C.D hS 0 rfl rfl 5 (by decide) (C.2.2.2.2.1 (.fieldLink RX12 90 "JudgedRowsModel" "rows" "I") (tb_in 785 (by decide +kernel) (by decide +kernel))) (fun _ h => h) rfl (by decide +kernel) rfl rfl (Nat.le_of_ble_eq_true rfl) hd (fun H1 locs1 h1 _ h3 => kk H1 locs1 h1 h3)
theorem gf_X12_87_31 (C : CM g A p s m args meth c cc nL RX12) (hP : va_P g.1 vwCl (wM g h σ) H) (hd : decode cc pc = .ok (.getfield 87, 3)) (kk : W p l e R s m args below meth c H locs cells slots Q (F0 m (pc + 3) ls (.int (σ 31 6) :: rest))) : W p l e R s m args below meth c H locs cells slots Q (F0 m pc ls (.ref (g.2.2 31) :: rest)) :=
  va_get (ci := 12) (v := .int (σ 31 6)) (C := RX12) (T := TX12) (N := 27) C.1 C.2.1 C.2.2.2.2.1 inX12 C.2.2.2.1 C.2.2.2.2.2.1 hP 0 rfl rfl 6 (by decide) (C.2.2.2.2.1 (.fieldLink RX12 87 "JudgedRowsModel" "judges" "I") (tb_in 786 (by decide +kernel) (by decide +kernel))) (fun _ h => h) rfl hd kk
theorem pf_X12_87_31 (C : CM g A p s m args meth c cc nL RX12) (hP : va_P g.1 vwCl (wM g h σ) H) (hS : va_S A s.heap H locs) {v : Int32} (hd : decode cc pc = .ok (.putfield 87, 3)) (kk : ∀ (H1 : Heap) (locs1 : List Loc), va_P g.1 vwCl (wM g h (pt σ 31 6 v)) H1 → va_S A s.heap H1 locs1 → W p l e R s m args below meth c H1 locs1 cells slots Q (F0 m (pc + 3) ls rest)) : W p l e R s m args below meth c H locs cells slots Q (F0 m pc ls (.int v :: .ref (g.2.2 31) :: rest)) :=
  va_put (ci := 12) (v := .int v) (ty := .int) (C := RX12) (T := TX12) (N := 27) C.1 C.2.1 C.2.2.2.2.1 inX12 tyX12 tyX12_ok nmX12 C.2.2.2.1 C.2.2.2.2.2.1 hP C.D hS 0 rfl rfl 6 (by decide) (C.2.2.2.2.1 (.fieldLink RX12 87 "JudgedRowsModel" "judges" "I") (tb_in 786 (by decide +kernel) (by decide +kernel))) (fun _ h => h) rfl (by decide +kernel) rfl rfl (Nat.le_of_ble_eq_true rfl) hd (fun H1 locs1 h1 _ h3 => kk H1 locs1 h1 h3)
theorem gf_X12_41_31 (C : CM g A p s m args meth c cc nL RX12) (hP : va_P g.1 vwCl (wM g h σ) H) (hd : decode cc pc = .ok (.getfield 41, 3)) (kk : W p l e R s m args below meth c H locs cells slots Q (F0 m (pc + 3) ls (.int (σ 31 7) :: rest))) : W p l e R s m args below meth c H locs cells slots Q (F0 m pc ls (.ref (g.2.2 31) :: rest)) :=
  va_get (ci := 12) (v := .int (σ 31 7)) (C := RX12) (T := TX12) (N := 27) C.1 C.2.1 C.2.2.2.2.1 inX12 C.2.2.2.1 C.2.2.2.2.2.1 hP 0 rfl rfl 7 (by decide) (C.2.2.2.2.1 (.fieldLink RX12 41 "JudgedRowsModel" "hidden" "I") (tb_in 787 (by decide +kernel) (by decide +kernel))) (fun _ h => h) rfl hd kk
theorem pf_X12_41_31 (C : CM g A p s m args meth c cc nL RX12) (hP : va_P g.1 vwCl (wM g h σ) H) (hS : va_S A s.heap H locs) {v : Int32} (hd : decode cc pc = .ok (.putfield 41, 3)) (kk : ∀ (H1 : Heap) (locs1 : List Loc), va_P g.1 vwCl (wM g h (pt σ 31 7 v)) H1 → va_S A s.heap H1 locs1 → W p l e R s m args below meth c H1 locs1 cells slots Q (F0 m (pc + 3) ls rest)) : W p l e R s m args below meth c H locs cells slots Q (F0 m pc ls (.int v :: .ref (g.2.2 31) :: rest)) :=
  va_put (ci := 12) (v := .int v) (ty := .int) (C := RX12) (T := TX12) (N := 27) C.1 C.2.1 C.2.2.2.2.1 inX12 tyX12 tyX12_ok nmX12 C.2.2.2.1 C.2.2.2.2.2.1 hP C.D hS 0 rfl rfl 7 (by decide) (C.2.2.2.2.1 (.fieldLink RX12 41 "JudgedRowsModel" "hidden" "I") (tb_in 787 (by decide +kernel) (by decide +kernel))) (fun _ h => h) rfl (by decide +kernel) rfl rfl (Nat.le_of_ble_eq_true rfl) hd (fun H1 locs1 h1 _ h3 => kk H1 locs1 h1 h3)
theorem gf_X12_93_31 (C : CM g A p s m args meth c cc nL RX12) (hP : va_P g.1 vwCl (wM g h σ) H) (hd : decode cc pc = .ok (.getfield 93, 3)) (kk : W p l e R s m args below meth c H locs cells slots Q (F0 m (pc + 3) ls (.int (σ 31 8) :: rest))) : W p l e R s m args below meth c H locs cells slots Q (F0 m pc ls (.ref (g.2.2 31) :: rest)) :=
  va_get (ci := 12) (v := .int (σ 31 8)) (C := RX12) (T := TX12) (N := 27) C.1 C.2.1 C.2.2.2.2.1 inX12 C.2.2.2.1 C.2.2.2.2.2.1 hP 0 rfl rfl 8 (by decide) (C.2.2.2.2.1 (.fieldLink RX12 93 "JudgedRowsModel" "shownMany" "I") (tb_in 788 (by decide +kernel) (by decide +kernel))) (fun _ h => h) rfl hd kk
theorem pf_X12_93_31 (C : CM g A p s m args meth c cc nL RX12) (hP : va_P g.1 vwCl (wM g h σ) H) (hS : va_S A s.heap H locs) {v : Int32} (hd : decode cc pc = .ok (.putfield 93, 3)) (kk : ∀ (H1 : Heap) (locs1 : List Loc), va_P g.1 vwCl (wM g h (pt σ 31 8 v)) H1 → va_S A s.heap H1 locs1 → W p l e R s m args below meth c H1 locs1 cells slots Q (F0 m (pc + 3) ls rest)) : W p l e R s m args below meth c H locs cells slots Q (F0 m pc ls (.int v :: .ref (g.2.2 31) :: rest)) :=
  va_put (ci := 12) (v := .int v) (ty := .int) (C := RX12) (T := TX12) (N := 27) C.1 C.2.1 C.2.2.2.2.1 inX12 tyX12 tyX12_ok nmX12 C.2.2.2.1 C.2.2.2.2.2.1 hP C.D hS 0 rfl rfl 8 (by decide) (C.2.2.2.2.1 (.fieldLink RX12 93 "JudgedRowsModel" "shownMany" "I") (tb_in 788 (by decide +kernel) (by decide +kernel))) (fun _ h => h) rfl (by decide +kernel) rfl rfl (Nat.le_of_ble_eq_true rfl) hd (fun H1 locs1 h1 _ h3 => kk H1 locs1 h1 h3)
theorem gf_X12_96_31 (C : CM g A p s m args meth c cc nL RX12) (hP : va_P g.1 vwCl (wM g h σ) H) (hd : decode cc pc = .ok (.getfield 96, 3)) (kk : W p l e R s m args below meth c H locs cells slots Q (F0 m (pc + 3) ls (.int (σ 31 9) :: rest))) : W p l e R s m args below meth c H locs cells slots Q (F0 m pc ls (.ref (g.2.2 31) :: rest)) :=
  va_get (ci := 12) (v := .int (σ 31 9)) (C := RX12) (T := TX12) (N := 27) C.1 C.2.1 C.2.2.2.2.1 inX12 C.2.2.2.1 C.2.2.2.2.2.1 hP 0 rfl rfl 9 (by decide) (C.2.2.2.2.1 (.fieldLink RX12 96 "JudgedRowsModel" "gamesRead" "I") (tb_in 789 (by decide +kernel) (by decide +kernel))) (fun _ h => h) rfl hd kk
theorem pf_X12_96_31 (C : CM g A p s m args meth c cc nL RX12) (hP : va_P g.1 vwCl (wM g h σ) H) (hS : va_S A s.heap H locs) {v : Int32} (hd : decode cc pc = .ok (.putfield 96, 3)) (kk : ∀ (H1 : Heap) (locs1 : List Loc), va_P g.1 vwCl (wM g h (pt σ 31 9 v)) H1 → va_S A s.heap H1 locs1 → W p l e R s m args below meth c H1 locs1 cells slots Q (F0 m (pc + 3) ls rest)) : W p l e R s m args below meth c H locs cells slots Q (F0 m pc ls (.int v :: .ref (g.2.2 31) :: rest)) :=
  va_put (ci := 12) (v := .int v) (ty := .int) (C := RX12) (T := TX12) (N := 27) C.1 C.2.1 C.2.2.2.2.1 inX12 tyX12 tyX12_ok nmX12 C.2.2.2.1 C.2.2.2.2.2.1 hP C.D hS 0 rfl rfl 9 (by decide) (C.2.2.2.2.1 (.fieldLink RX12 96 "JudgedRowsModel" "gamesRead" "I") (tb_in 789 (by decide +kernel) (by decide +kernel))) (fun _ h => h) rfl (by decide +kernel) rfl rfl (Nat.le_of_ble_eq_true rfl) hd (fun H1 locs1 h1 _ h3 => kk H1 locs1 h1 h3)
theorem gf_X12_13_31 (C : CM g A p s m args meth c cc nL RX12) (hP : va_P g.1 vwCl (wM g h σ) H) (hd : decode cc pc = .ok (.getfield 13, 3)) (kk : W p l e R s m args below meth c H locs cells slots Q (F0 m (pc + 3) ls (.ref (g.2.2 33) :: rest))) : W p l e R s m args below meth c H locs cells slots Q (F0 m pc ls (.ref (g.2.2 31) :: rest)) :=
  va_get (ci := 12) (v := .ref (g.2.2 33)) (C := RX12) (T := TX12) (N := 27) C.1 C.2.1 C.2.2.2.2.1 inX12 C.2.2.2.1 C.2.2.2.2.2.1 hP 0 rfl rfl 10 (by decide) (C.2.2.2.2.1 (.fieldLink RX12 13 "JudgedRowsModel" "kinds" "[I") (tb_in 790 (by decide +kernel) (by decide +kernel))) (fun _ h => h) rfl hd kk
theorem gf_X12_16_31 (C : CM g A p s m args meth c cc nL RX12) (hP : va_P g.1 vwCl (wM g h σ) H) (hd : decode cc pc = .ok (.getfield 16, 3)) (kk : W p l e R s m args below meth c H locs cells slots Q (F0 m (pc + 3) ls (.ref (g.2.2 34) :: rest))) : W p l e R s m args below meth c H locs cells slots Q (F0 m pc ls (.ref (g.2.2 31) :: rest)) :=
  va_get (ci := 12) (v := .ref (g.2.2 34)) (C := RX12) (T := TX12) (N := 27) C.1 C.2.1 C.2.2.2.2.1 inX12 C.2.2.2.1 C.2.2.2.2.2.1 hP 0 rfl rfl 11 (by decide) (C.2.2.2.2.1 (.fieldLink RX12 16 "JudgedRowsModel" "shown" "[I") (tb_in 791 (by decide +kernel) (by decide +kernel))) (fun _ h => h) rfl hd kk
theorem gf_X12_19_31 (C : CM g A p s m args meth c cc nL RX12) (hP : va_P g.1 vwCl (wM g h σ) H) (hd : decode cc pc = .ok (.getfield 19, 3)) (kk : W p l e R s m args below meth c H locs cells slots Q (F0 m (pc + 3) ls (.ref (g.2.2 35) :: rest))) : W p l e R s m args below meth c H locs cells slots Q (F0 m pc ls (.ref (g.2.2 31) :: rest)) :=
  va_get (ci := 12) (v := .ref (g.2.2 35)) (C := RX12) (T := TX12) (N := 27) C.1 C.2.1 C.2.2.2.2.1 inX12 C.2.2.2.1 C.2.2.2.2.2.1 hP 0 rfl rfl 12 (by decide) (C.2.2.2.2.1 (.fieldLink RX12 19 "JudgedRowsModel" "fit" "[I") (tb_in 792 (by decide +kernel) (by decide +kernel))) (fun _ h => h) rfl hd kk
theorem gf_X12_22_31 (C : CM g A p s m args meth c cc nL RX12) (hP : va_P g.1 vwCl (wM g h σ) H) (hd : decode cc pc = .ok (.getfield 22, 3)) (kk : W p l e R s m args below meth c H locs cells slots Q (F0 m (pc + 3) ls (.ref (g.2.2 36) :: rest))) : W p l e R s m args below meth c H locs cells slots Q (F0 m pc ls (.ref (g.2.2 31) :: rest)) :=
  va_get (ci := 12) (v := .ref (g.2.2 36)) (C := RX12) (T := TX12) (N := 27) C.1 C.2.1 C.2.2.2.2.1 inX12 C.2.2.2.1 C.2.2.2.2.2.1 hP 0 rfl rfl 13 (by decide) (C.2.2.2.2.1 (.fieldLink RX12 22 "JudgedRowsModel" "sizes" "[I") (tb_in 793 (by decide +kernel) (by decide +kernel))) (fun _ h => h) rfl hd kk
theorem gf_X12_174_31 (C : CM g A p s m args meth c cc nL RX12) (hP : va_P g.1 vwCl (wM g h σ) H) (hd : decode cc pc = .ok (.getfield 174, 3)) (kk : W p l e R s m args below meth c H locs cells slots Q (F0 m (pc + 3) ls (.int (σ 31 14) :: rest))) : W p l e R s m args below meth c H locs cells slots Q (F0 m pc ls (.ref (g.2.2 31) :: rest)) :=
  va_get (ci := 12) (v := .int (σ 31 14)) (C := RX12) (T := TX12) (N := 27) C.1 C.2.1 C.2.2.2.2.1 inX12 C.2.2.2.1 C.2.2.2.2.2.1 hP 0 rfl rfl 14 (by decide) (C.2.2.2.2.1 (.fieldLink RX12 174 "JudgedRowsModel" "leastWorst" "I") (tb_in 794 (by decide +kernel) (by decide +kernel))) (fun _ h => h) rfl hd kk
theorem pf_X12_174_31 (C : CM g A p s m args meth c cc nL RX12) (hP : va_P g.1 vwCl (wM g h σ) H) (hS : va_S A s.heap H locs) {v : Int32} (hd : decode cc pc = .ok (.putfield 174, 3)) (kk : ∀ (H1 : Heap) (locs1 : List Loc), va_P g.1 vwCl (wM g h (pt σ 31 14 v)) H1 → va_S A s.heap H1 locs1 → W p l e R s m args below meth c H1 locs1 cells slots Q (F0 m (pc + 3) ls rest)) : W p l e R s m args below meth c H locs cells slots Q (F0 m pc ls (.int v :: .ref (g.2.2 31) :: rest)) :=
  va_put (ci := 12) (v := .int v) (ty := .int) (C := RX12) (T := TX12) (N := 27) C.1 C.2.1 C.2.2.2.2.1 inX12 tyX12 tyX12_ok nmX12 C.2.2.2.1 C.2.2.2.2.2.1 hP C.D hS 0 rfl rfl 14 (by decide) (C.2.2.2.2.1 (.fieldLink RX12 174 "JudgedRowsModel" "leastWorst" "I") (tb_in 794 (by decide +kernel) (by decide +kernel))) (fun _ h => h) rfl (by decide +kernel) rfl rfl (Nat.le_of_ble_eq_true rfl) hd (fun H1 locs1 h1 _ h3 => kk H1 locs1 h1 h3)
theorem gf_X12_177_31 (C : CM g A p s m args meth c cc nL RX12) (hP : va_P g.1 vwCl (wM g h σ) H) (hd : decode cc pc = .ok (.getfield 177, 3)) (kk : W p l e R s m args below meth c H locs cells slots Q (F0 m (pc + 3) ls (.int (σ 31 15) :: rest))) : W p l e R s m args below meth c H locs cells slots Q (F0 m pc ls (.ref (g.2.2 31) :: rest)) :=
  va_get (ci := 12) (v := .int (σ 31 15)) (C := RX12) (T := TX12) (N := 27) C.1 C.2.1 C.2.2.2.2.1 inX12 C.2.2.2.1 C.2.2.2.2.2.1 hP 0 rfl rfl 15 (by decide) (C.2.2.2.2.1 (.fieldLink RX12 177 "JudgedRowsModel" "bestDone" "I") (tb_in 795 (by decide +kernel) (by decide +kernel))) (fun _ h => h) rfl hd kk
theorem pf_X12_177_31 (C : CM g A p s m args meth c cc nL RX12) (hP : va_P g.1 vwCl (wM g h σ) H) (hS : va_S A s.heap H locs) {v : Int32} (hd : decode cc pc = .ok (.putfield 177, 3)) (kk : ∀ (H1 : Heap) (locs1 : List Loc), va_P g.1 vwCl (wM g h (pt σ 31 15 v)) H1 → va_S A s.heap H1 locs1 → W p l e R s m args below meth c H1 locs1 cells slots Q (F0 m (pc + 3) ls rest)) : W p l e R s m args below meth c H locs cells slots Q (F0 m pc ls (.int v :: .ref (g.2.2 31) :: rest)) :=
  va_put (ci := 12) (v := .int v) (ty := .int) (C := RX12) (T := TX12) (N := 27) C.1 C.2.1 C.2.2.2.2.1 inX12 tyX12 tyX12_ok nmX12 C.2.2.2.1 C.2.2.2.2.2.1 hP C.D hS 0 rfl rfl 15 (by decide) (C.2.2.2.2.1 (.fieldLink RX12 177 "JudgedRowsModel" "bestDone" "I") (tb_in 795 (by decide +kernel) (by decide +kernel))) (fun _ h => h) rfl (by decide +kernel) rfl rfl (Nat.le_of_ble_eq_true rfl) hd (fun H1 locs1 h1 _ h3 => kk H1 locs1 h1 h3)
theorem gf_X12_186_31 (C : CM g A p s m args meth c cc nL RX12) (hP : va_P g.1 vwCl (wM g h σ) H) (hd : decode cc pc = .ok (.getfield 186, 3)) (kk : W p l e R s m args below meth c H locs cells slots Q (F0 m (pc + 3) ls (.int (σ 31 16) :: rest))) : W p l e R s m args below meth c H locs cells slots Q (F0 m pc ls (.ref (g.2.2 31) :: rest)) :=
  va_get (ci := 12) (v := .int (σ 31 16)) (C := RX12) (T := TX12) (N := 27) C.1 C.2.1 C.2.2.2.2.1 inX12 C.2.2.2.1 C.2.2.2.2.2.1 hP 0 rfl rfl 16 (by decide) (C.2.2.2.2.1 (.fieldLink RX12 186 "JudgedRowsModel" "longDone" "I") (tb_in 796 (by decide +kernel) (by decide +kernel))) (fun _ h => h) rfl hd kk
theorem pf_X12_186_31 (C : CM g A p s m args meth c cc nL RX12) (hP : va_P g.1 vwCl (wM g h σ) H) (hS : va_S A s.heap H locs) {v : Int32} (hd : decode cc pc = .ok (.putfield 186, 3)) (kk : ∀ (H1 : Heap) (locs1 : List Loc), va_P g.1 vwCl (wM g h (pt σ 31 16 v)) H1 → va_S A s.heap H1 locs1 → W p l e R s m args below meth c H1 locs1 cells slots Q (F0 m (pc + 3) ls rest)) : W p l e R s m args below meth c H locs cells slots Q (F0 m pc ls (.int v :: .ref (g.2.2 31) :: rest)) :=
  va_put (ci := 12) (v := .int v) (ty := .int) (C := RX12) (T := TX12) (N := 27) C.1 C.2.1 C.2.2.2.2.1 inX12 tyX12 tyX12_ok nmX12 C.2.2.2.1 C.2.2.2.2.2.1 hP C.D hS 0 rfl rfl 16 (by decide) (C.2.2.2.2.1 (.fieldLink RX12 186 "JudgedRowsModel" "longDone" "I") (tb_in 796 (by decide +kernel) (by decide +kernel))) (fun _ h => h) rfl (by decide +kernel) rfl rfl (Nat.le_of_ble_eq_true rfl) hd (fun H1 locs1 h1 _ h3 => kk H1 locs1 h1 h3)
theorem gf_X12_207_31 (C : CM g A p s m args meth c cc nL RX12) (hP : va_P g.1 vwCl (wM g h σ) H) (hd : decode cc pc = .ok (.getfield 207, 3)) (kk : W p l e R s m args below meth c H locs cells slots Q (F0 m (pc + 3) ls (.int (σ 31 17) :: rest))) : W p l e R s m args below meth c H locs cells slots Q (F0 m pc ls (.ref (g.2.2 31) :: rest)) :=
  va_get (ci := 12) (v := .int (σ 31 17)) (C := RX12) (T := TX12) (N := 27) C.1 C.2.1 C.2.2.2.2.1 inX12 C.2.2.2.1 C.2.2.2.2.2.1 hP 0 rfl rfl 17 (by decide) (C.2.2.2.2.1 (.fieldLink RX12 207 "JudgedRowsModel" "partsDone" "I") (tb_in 797 (by decide +kernel) (by decide +kernel))) (fun _ h => h) rfl hd kk
theorem pf_X12_207_31 (C : CM g A p s m args meth c cc nL RX12) (hP : va_P g.1 vwCl (wM g h σ) H) (hS : va_S A s.heap H locs) {v : Int32} (hd : decode cc pc = .ok (.putfield 207, 3)) (kk : ∀ (H1 : Heap) (locs1 : List Loc), va_P g.1 vwCl (wM g h (pt σ 31 17 v)) H1 → va_S A s.heap H1 locs1 → W p l e R s m args below meth c H1 locs1 cells slots Q (F0 m (pc + 3) ls rest)) : W p l e R s m args below meth c H locs cells slots Q (F0 m pc ls (.int v :: .ref (g.2.2 31) :: rest)) :=
  va_put (ci := 12) (v := .int v) (ty := .int) (C := RX12) (T := TX12) (N := 27) C.1 C.2.1 C.2.2.2.2.1 inX12 tyX12 tyX12_ok nmX12 C.2.2.2.1 C.2.2.2.2.2.1 hP C.D hS 0 rfl rfl 17 (by decide) (C.2.2.2.2.1 (.fieldLink RX12 207 "JudgedRowsModel" "partsDone" "I") (tb_in 797 (by decide +kernel) (by decide +kernel))) (fun _ h => h) rfl (by decide +kernel) rfl rfl (Nat.le_of_ble_eq_true rfl) hd (fun H1 locs1 h1 _ h3 => kk H1 locs1 h1 h3)
theorem gf_X12_25_31 (C : CM g A p s m args meth c cc nL RX12) (hP : va_P g.1 vwCl (wM g h σ) H) (hd : decode cc pc = .ok (.getfield 25, 3)) (kk : W p l e R s m args below meth c H locs cells slots Q (F0 m (pc + 3) ls (.ref (g.2.2 37) :: rest))) : W p l e R s m args below meth c H locs cells slots Q (F0 m pc ls (.ref (g.2.2 31) :: rest)) :=
  va_get (ci := 12) (v := .ref (g.2.2 37)) (C := RX12) (T := TX12) (N := 27) C.1 C.2.1 C.2.2.2.2.1 inX12 C.2.2.2.1 C.2.2.2.2.2.1 hP 0 rfl rfl 18 (by decide) (C.2.2.2.2.1 (.fieldLink RX12 25 "JudgedRowsModel" "table" "[I") (tb_in 798 (by decide +kernel) (by decide +kernel))) (fun _ h => h) rfl hd kk
theorem gf_X12_28_31 (C : CM g A p s m args meth c cc nL RX12) (hP : va_P g.1 vwCl (wM g h σ) H) (hd : decode cc pc = .ok (.getfield 28, 3)) (kk : W p l e R s m args below meth c H locs cells slots Q (F0 m (pc + 3) ls (.ref (g.2.2 38) :: rest))) : W p l e R s m args below meth c H locs cells slots Q (F0 m pc ls (.ref (g.2.2 31) :: rest)) :=
  va_get (ci := 12) (v := .ref (g.2.2 38)) (C := RX12) (T := TX12) (N := 27) C.1 C.2.1 C.2.2.2.2.1 inX12 C.2.2.2.1 C.2.2.2.2.2.1 hP 0 rfl rfl 19 (by decide) (C.2.2.2.2.1 (.fieldLink RX12 28 "JudgedRowsModel" "apart" "[I") (tb_in 799 (by decide +kernel) (by decide +kernel))) (fun _ h => h) rfl hd kk
theorem gf_X12_215_31 (C : CM g A p s m args meth c cc nL RX12) (hP : va_P g.1 vwCl (wM g h σ) H) (hd : decode cc pc = .ok (.getfield 215, 3)) (kk : W p l e R s m args below meth c H locs cells slots Q (F0 m (pc + 3) ls (.int (σ 31 20) :: rest))) : W p l e R s m args below meth c H locs cells slots Q (F0 m pc ls (.ref (g.2.2 31) :: rest)) :=
  va_get (ci := 12) (v := .int (σ 31 20)) (C := RX12) (T := TX12) (N := 27) C.1 C.2.1 C.2.2.2.2.1 inX12 C.2.2.2.1 C.2.2.2.2.2.1 hP 0 rfl rfl 20 (by decide) (C.2.2.2.2.1 (.fieldLink RX12 215 "JudgedRowsModel" "seedNow" "I") (tb_in 800 (by decide +kernel) (by decide +kernel))) (fun _ h => h) rfl hd kk
theorem pf_X12_215_31 (C : CM g A p s m args meth c cc nL RX12) (hP : va_P g.1 vwCl (wM g h σ) H) (hS : va_S A s.heap H locs) {v : Int32} (hd : decode cc pc = .ok (.putfield 215, 3)) (kk : ∀ (H1 : Heap) (locs1 : List Loc), va_P g.1 vwCl (wM g h (pt σ 31 20 v)) H1 → va_S A s.heap H1 locs1 → W p l e R s m args below meth c H1 locs1 cells slots Q (F0 m (pc + 3) ls rest)) : W p l e R s m args below meth c H locs cells slots Q (F0 m pc ls (.int v :: .ref (g.2.2 31) :: rest)) :=
  va_put (ci := 12) (v := .int v) (ty := .int) (C := RX12) (T := TX12) (N := 27) C.1 C.2.1 C.2.2.2.2.1 inX12 tyX12 tyX12_ok nmX12 C.2.2.2.1 C.2.2.2.2.2.1 hP C.D hS 0 rfl rfl 20 (by decide) (C.2.2.2.2.1 (.fieldLink RX12 215 "JudgedRowsModel" "seedNow" "I") (tb_in 800 (by decide +kernel) (by decide +kernel))) (fun _ h => h) rfl (by decide +kernel) rfl rfl (Nat.le_of_ble_eq_true rfl) hd (fun H1 locs1 h1 _ h3 => kk H1 locs1 h1 h3)
theorem gf_X12_37_31 (C : CM g A p s m args meth c cc nL RX12) (hP : va_P g.1 vwCl (wM g h σ) H) (hd : decode cc pc = .ok (.getfield 37, 3)) (kk : W p l e R s m args below meth c H locs cells slots Q (F0 m (pc + 3) ls (.int (σ 31 21) :: rest))) : W p l e R s m args below meth c H locs cells slots Q (F0 m pc ls (.ref (g.2.2 31) :: rest)) :=
  va_get (ci := 12) (v := .int (σ 31 21)) (C := RX12) (T := TX12) (N := 27) C.1 C.2.1 C.2.2.2.2.1 inX12 C.2.2.2.1 C.2.2.2.2.2.1 hP 0 rfl rfl 21 (by decide) (C.2.2.2.2.1 (.fieldLink RX12 37 "JudgedRowsModel" "keptGame" "I") (tb_in 801 (by decide +kernel) (by decide +kernel))) (fun _ h => h) rfl hd kk
theorem pf_X12_37_31 (C : CM g A p s m args meth c cc nL RX12) (hP : va_P g.1 vwCl (wM g h σ) H) (hS : va_S A s.heap H locs) {v : Int32} (hd : decode cc pc = .ok (.putfield 37, 3)) (kk : ∀ (H1 : Heap) (locs1 : List Loc), va_P g.1 vwCl (wM g h (pt σ 31 21 v)) H1 → va_S A s.heap H1 locs1 → W p l e R s m args below meth c H1 locs1 cells slots Q (F0 m (pc + 3) ls rest)) : W p l e R s m args below meth c H locs cells slots Q (F0 m pc ls (.int v :: .ref (g.2.2 31) :: rest)) :=
  va_put (ci := 12) (v := .int v) (ty := .int) (C := RX12) (T := TX12) (N := 27) C.1 C.2.1 C.2.2.2.2.1 inX12 tyX12 tyX12_ok nmX12 C.2.2.2.1 C.2.2.2.2.2.1 hP C.D hS 0 rfl rfl 21 (by decide) (C.2.2.2.2.1 (.fieldLink RX12 37 "JudgedRowsModel" "keptGame" "I") (tb_in 801 (by decide +kernel) (by decide +kernel))) (fun _ h => h) rfl (by decide +kernel) rfl rfl (Nat.le_of_ble_eq_true rfl) hd (fun H1 locs1 h1 _ h3 => kk H1 locs1 h1 h3)
theorem gf_X12_238_31 (C : CM g A p s m args meth c cc nL RX12) (hP : va_P g.1 vwCl (wM g h σ) H) (hd : decode cc pc = .ok (.getfield 238, 3)) (kk : W p l e R s m args below meth c H locs cells slots Q (F0 m (pc + 3) ls (.int (σ 31 22) :: rest))) : W p l e R s m args below meth c H locs cells slots Q (F0 m pc ls (.ref (g.2.2 31) :: rest)) :=
  va_get (ci := 12) (v := .int (σ 31 22)) (C := RX12) (T := TX12) (N := 27) C.1 C.2.1 C.2.2.2.2.1 inX12 C.2.2.2.1 C.2.2.2.2.2.1 hP 0 rfl rfl 22 (by decide) (C.2.2.2.2.1 (.fieldLink RX12 238 "JudgedRowsModel" "keptHidden" "I") (tb_in 802 (by decide +kernel) (by decide +kernel))) (fun _ h => h) rfl hd kk
theorem pf_X12_238_31 (C : CM g A p s m args meth c cc nL RX12) (hP : va_P g.1 vwCl (wM g h σ) H) (hS : va_S A s.heap H locs) {v : Int32} (hd : decode cc pc = .ok (.putfield 238, 3)) (kk : ∀ (H1 : Heap) (locs1 : List Loc), va_P g.1 vwCl (wM g h (pt σ 31 22 v)) H1 → va_S A s.heap H1 locs1 → W p l e R s m args below meth c H1 locs1 cells slots Q (F0 m (pc + 3) ls rest)) : W p l e R s m args below meth c H locs cells slots Q (F0 m pc ls (.int v :: .ref (g.2.2 31) :: rest)) :=
  va_put (ci := 12) (v := .int v) (ty := .int) (C := RX12) (T := TX12) (N := 27) C.1 C.2.1 C.2.2.2.2.1 inX12 tyX12 tyX12_ok nmX12 C.2.2.2.1 C.2.2.2.2.2.1 hP C.D hS 0 rfl rfl 22 (by decide) (C.2.2.2.2.1 (.fieldLink RX12 238 "JudgedRowsModel" "keptHidden" "I") (tb_in 802 (by decide +kernel) (by decide +kernel))) (fun _ h => h) rfl (by decide +kernel) rfl rfl (Nat.le_of_ble_eq_true rfl) hd (fun H1 locs1 h1 _ h3 => kk H1 locs1 h1 h3)
theorem gf_X12_241_31 (C : CM g A p s m args meth c cc nL RX12) (hP : va_P g.1 vwCl (wM g h σ) H) (hd : decode cc pc = .ok (.getfield 241, 3)) (kk : W p l e R s m args below meth c H locs cells slots Q (F0 m (pc + 3) ls (.int (σ 31 23) :: rest))) : W p l e R s m args below meth c H locs cells slots Q (F0 m pc ls (.ref (g.2.2 31) :: rest)) :=
  va_get (ci := 12) (v := .int (σ 31 23)) (C := RX12) (T := TX12) (N := 27) C.1 C.2.1 C.2.2.2.2.1 inX12 C.2.2.2.1 C.2.2.2.2.2.1 hP 0 rfl rfl 23 (by decide) (C.2.2.2.2.1 (.fieldLink RX12 241 "JudgedRowsModel" "keptMany" "I") (tb_in 803 (by decide +kernel) (by decide +kernel))) (fun _ h => h) rfl hd kk
theorem pf_X12_241_31 (C : CM g A p s m args meth c cc nL RX12) (hP : va_P g.1 vwCl (wM g h σ) H) (hS : va_S A s.heap H locs) {v : Int32} (hd : decode cc pc = .ok (.putfield 241, 3)) (kk : ∀ (H1 : Heap) (locs1 : List Loc), va_P g.1 vwCl (wM g h (pt σ 31 23 v)) H1 → va_S A s.heap H1 locs1 → W p l e R s m args below meth c H1 locs1 cells slots Q (F0 m (pc + 3) ls rest)) : W p l e R s m args below meth c H locs cells slots Q (F0 m pc ls (.int v :: .ref (g.2.2 31) :: rest)) :=
  va_put (ci := 12) (v := .int v) (ty := .int) (C := RX12) (T := TX12) (N := 27) C.1 C.2.1 C.2.2.2.2.1 inX12 tyX12 tyX12_ok nmX12 C.2.2.2.1 C.2.2.2.2.2.1 hP C.D hS 0 rfl rfl 23 (by decide) (C.2.2.2.2.1 (.fieldLink RX12 241 "JudgedRowsModel" "keptMany" "I") (tb_in 803 (by decide +kernel) (by decide +kernel))) (fun _ h => h) rfl (by decide +kernel) rfl rfl (Nat.le_of_ble_eq_true rfl) hd (fun H1 locs1 h1 _ h3 => kk H1 locs1 h1 h3)
theorem gf_X12_31_31 (C : CM g A p s m args meth c cc nL RX12) (hP : va_P g.1 vwCl (wM g h σ) H) (hd : decode cc pc = .ok (.getfield 31, 3)) (kk : W p l e R s m args below meth c H locs cells slots Q (F0 m (pc + 3) ls (.ref (g.2.2 39) :: rest))) : W p l e R s m args below meth c H locs cells slots Q (F0 m pc ls (.ref (g.2.2 31) :: rest)) :=
  va_get (ci := 12) (v := .ref (g.2.2 39)) (C := RX12) (T := TX12) (N := 27) C.1 C.2.1 C.2.2.2.2.1 inX12 C.2.2.2.1 C.2.2.2.2.2.1 hP 0 rfl rfl 24 (by decide) (C.2.2.2.2.1 (.fieldLink RX12 31 "JudgedRowsModel" "keptKinds" "[I") (tb_in 804 (by decide +kernel) (by decide +kernel))) (fun _ h => h) rfl hd kk
theorem gf_X12_34_31 (C : CM g A p s m args meth c cc nL RX12) (hP : va_P g.1 vwCl (wM g h σ) H) (hd : decode cc pc = .ok (.getfield 34, 3)) (kk : W p l e R s m args below meth c H locs cells slots Q (F0 m (pc + 3) ls (.ref (g.2.2 40) :: rest))) : W p l e R s m args below meth c H locs cells slots Q (F0 m pc ls (.ref (g.2.2 31) :: rest)) :=
  va_get (ci := 12) (v := .ref (g.2.2 40)) (C := RX12) (T := TX12) (N := 27) C.1 C.2.1 C.2.2.2.2.1 inX12 C.2.2.2.1 C.2.2.2.2.2.1 hP 0 rfl rfl 25 (by decide) (C.2.2.2.2.1 (.fieldLink RX12 34 "JudgedRowsModel" "keptShown" "[I") (tb_in 805 (by decide +kernel) (by decide +kernel))) (fun _ h => h) rfl hd kk
theorem gf_X12_249_31 (C : CM g A p s m args meth c cc nL RX12) (hP : va_P g.1 vwCl (wM g h σ) H) (hd : decode cc pc = .ok (.getfield 249, 3)) (kk : W p l e R s m args below meth c H locs cells slots Q (F0 m (pc + 3) ls (.long h :: rest))) : W p l e R s m args below meth c H locs cells slots Q (F0 m pc ls (.ref (g.2.2 31) :: rest)) :=
  va_get (ci := 12) (v := .long h) (C := RX12) (T := TX12) (N := 27) C.1 C.2.1 C.2.2.2.2.1 inX12 C.2.2.2.1 C.2.2.2.2.2.1 hP 0 rfl rfl 26 (by decide) (C.2.2.2.2.1 (.fieldLink RX12 249 "JudgedRowsModel" "hash" "J") (tb_in 806 (by decide +kernel) (by decide +kernel))) (fun _ h => h) rfl hd kk
theorem pf_X12_249_31 (C : CM g A p s m args meth c cc nL RX12) (hP : va_P g.1 vwCl (wM g h σ) H) (hS : va_S A s.heap H locs) {v : Int64} (hd : decode cc pc = .ok (.putfield 249, 3)) (kk : ∀ (H1 : Heap) (locs1 : List Loc), va_P g.1 vwCl (wM g v σ) H1 → va_S A s.heap H1 locs1 → W p l e R s m args below meth c H1 locs1 cells slots Q (F0 m (pc + 3) ls rest)) : W p l e R s m args below meth c H locs cells slots Q (F0 m pc ls (.long v :: .ref (g.2.2 31) :: rest)) :=
  va_put (ci := 12) (v := .long v) (ty := .long) (C := RX12) (T := TX12) (N := 27) C.1 C.2.1 C.2.2.2.2.1 inX12 tyX12 tyX12_ok nmX12 C.2.2.2.1 C.2.2.2.2.2.1 hP C.D hS 0 rfl rfl 26 (by decide) (C.2.2.2.2.1 (.fieldLink RX12 249 "JudgedRowsModel" "hash" "J") (tb_in 806 (by decide +kernel) (by decide +kernel))) (fun _ h => h) rfl (by decide +kernel) rfl rfl (Nat.le_of_ble_eq_true rfl) hd (fun H1 locs1 h1 _ h3 => kk H1 locs1 h1 h3)
end FLD
end
section
/-! returns and calls over the worlds -/
section CALX
variable {p : Program} {l : Launch} {e : Env} {R : Room} {s : State} {m : MethodId} {args : Array Value} {below : List Frame} {meth : Method} {c : Code} {H : Heap} {locs : List Loc} {cells slots : Nat} {Q : State → Prop} {cc : ByteArray} {nL pc : Nat} {ls : Array Slot} {own : String} {rest : List Value} {g : Gx} {A : Nat → Prop} {σ : St}
theorem ri_X (C : CX g A p s m args meth c cc nL own) {v : Int32} (hr : meth.sig.returnType = some .int) (hP : va_P g.1 vwCl (wX g σ) H) (hS : va_S A s.heap H locs) (hd : decode cc pc = .ok (.ireturn, 1)) : W p l e R s m args below meth c H locs 0 0 (MQ below (QiX g A v σ) args s 0 0 A) (F0 m pc ls [.int v]) :=
  W.iret (v := v) C.1 C.2.1 hr (fun t ht hW => ⟨⟨v, σ, rfl, ⟨rfl, rfl⟩, by rw [ht]; exact hP, va_K.moved hW.alike C.2.2.2.2.2.1⟩, hS.F ht⟩) hS.2.2 hd (hlocks := C.2.2.2.2.2.2.2.2.2.1)
theorem rz_X (C : CX g A p s m args meth c cc nL own) {v : Int32} (hr : meth.sig.returnType = some .boolean) (hz : v = 0 ∨ v = 1) (hP : va_P g.1 vwCl (wX g σ) H) (hS : va_S A s.heap H locs) (hd : decode cc pc = .ok (.ireturn, 1)) : W p l e R s m args below meth c H locs 0 0 (MQ below (QiX g A v σ) args s 0 0 A) (F0 m pc ls [.int v]) :=
  W.zret (v := v) C.1 C.2.1 hr (by rcases hz with rfl | rfl <;> decide) (fun t ht hW => ⟨⟨v, σ, rfl, ⟨rfl, rfl⟩, by rw [ht]; exact hP, va_K.moved hW.alike C.2.2.2.2.2.1⟩, hS.F ht⟩) hS.2.2 hd (hlocks := C.2.2.2.2.2.2.2.2.2.1)
theorem rl_X (C : CX g A p s m args meth c cc nL own) {v : Int64} (hr : meth.sig.returnType = some .long) (hP : va_P g.1 vwCl (wX g σ) H) (hS : va_S A s.heap H locs) (hd : decode cc pc = .ok (.lreturn, 1)) : W p l e R s m args below meth c H locs 0 0 (MQ below (QlX g A v σ) args s 0 0 A) (F0 m pc ls [.long v]) :=
  W.lret (v := v) C.1 C.2.1 hr (fun t ht hW => ⟨⟨v, σ, rfl, ⟨rfl, rfl⟩, by rw [ht]; exact hP, va_K.moved hW.alike C.2.2.2.2.2.1⟩, hS.F ht⟩) hS.2.2 hd (hlocks := C.2.2.2.2.2.2.2.2.2.1)
theorem rv_X (C : CX g A p s m args meth c cc nL own) (hr : meth.sig.returnType = none) (hP : va_P g.1 vwCl (wX g σ) H) (hS : va_S A s.heap H locs) (hd : decode cc pc = .ok (.return_, 1)) : W p l e R s m args below meth c H locs 0 0 (MQ below (QvX g A σ) args s 0 0 A) (F0 m pc ls []) :=
  W.vret C.1 C.2.1 hr (fun t ht hW => ⟨⟨σ, rfl, rfl, by rw [ht]; exact hP, va_K.moved hW.alike C.2.2.2.2.2.1⟩, hS.F ht⟩) hS.2.2 hd (hlocks := C.2.2.2.2.2.2.2.2.2.1)
theorem rr_X (C : CX g A p s m args meth c cc nL own) {k : Nat} {cn : String} (hr : meth.sig.returnType = some (.object cn)) (hP : va_P g.1 vwCl (wX g σ) H) (hS : va_S A s.heap H locs) (hd : decode cc pc = .ok (.areturn, 1)) : W p l e R s m args below meth c H locs 0 0 (MQ below (QrX g A k σ) args s 0 0 A) (F0 m pc ls [.ref (g.2.2 k)]) :=
  W.aret (v := .ref (g.2.2 k)) C.1 C.2.1 hr (Or.inl ⟨_, rfl⟩) (Or.inr ⟨_, rfl⟩) (fun t ht hW => ⟨⟨σ, g.2.2 k, rfl, rfl, rfl, by rw [ht]; exact hP, va_K.moved hW.alike C.2.2.2.2.2.1⟩, hS.F ht⟩) hS.2.2 hd (hlocks := C.2.2.2.2.2.2.2.2.2.1)
theorem kVi_X (C : CX g A p s m args meth c cc nL own) {y : MethodName} {bytes : ByteArray} {maxL index n : Nat} {ret : Option FieldType} {rm : Room} {As st : List Value} {r : Int32} {u : St} {Cn : String} {ci q0 b N : Nat} {Tt : u_T} {fs : List Value} (hM : Met l y (Cond.code y bytes maxL ret :: tb) rm (PcX g (.ref b :: As) σ H.size) (QiX g (AX g H.size) r u) 0 0 (AX g H.size)) (hw : ∀ w ∈ ([.methodLink own index y, .instanceMethod y, .selects Cn y y, .initialized Cn, Cond.code y bytes maxL ret] : List Cond), w ∈ tb) (hrm : rm.cells = 0 ∧ rm.slots = 0) (hR : rm.frames + 1 ≤ R.frames ∧ 8 + (maxL + 11) + rm.locals ≤ R.locals) (hy : y.cls = Cn ∧ y.cls ≠ "java/lang/invoke/MethodHandle" ∧ y.cls ≠ "java/lang/invoke/VarHandle" ∧ (parseMethodDescriptor y.desc).map (fun d => d.parameters.length) = some n) (hcl : vwCl[ci]? = some (Cn, Tt, N)) (hre : (wX g σ)[q0]? = some (b, .inr (ci, fs))) (hn : As.length = n) (hls : ls.size = nL) (hcat : (rest.map fun v => v.category).sum ≤ 8) (hcs : cells ≤ R.cells ∧ slots ≤ R.slots) (hd : decode cc pc = .ok (.invokevirtual index, 3)) (hP : va_P g.1 vwCl (wX g σ) H) (hS : va_S A s.heap H locs) (hst : st = As.reverse ++ .ref b :: rest) (kk : ∀ (H1 : Heap) (locs1 : List Loc), va_P g.1 vwCl (wX g u) H1 → va_S A s.heap H1 locs1 → W p l e R s m args below meth c H1 locs1 cells slots Q (F0 m (pc + 3) ls (.int r :: rest))) : W p l e R s m args below meth c H locs cells slots Q (F0 m pc ls st) := by
  refine va_calli (va_runV (As := As) (rest := rest) (b := b) ⟨C.1, C.2.1, C.2.2.1, C.2.2.2.1, C.2.2.2.2.1⟩ hM (cwV n C.2.2.2.2.1 (tb_sub ?_) rfl hrm.1 hrm.2 hy hR) ⟨blind_X, va_recv C.2.2.2.2.2.1 hP hcl hre, fun U hU hW => C.pre hP hS hU hW⟩ rfl hn hls hst (lv_room hcat) hd hcs) hS (fun q _ h => C.sub hS q h) (C.sub hS) (fun r' u' t H1 locs1 ht hvm hw' hB hz hk hS1 => ?_)
  · intro w h
    rcases List.mem_append.mp h with h | h
    · exact hw w (List.mem_append_left [Cond.code y bytes maxL ret] h)
    · rcases List.mem_cons.mp h with h | h
      · rw [h]; exact hw _ (List.mem_of_getElem? (i := 4) rfl)
      · exact h
  · obtain ⟨rfl, rfl⟩ := hw'
    exact kk H1 locs1 (C.back ht hB) hS1
theorem kUi_X (C : CX g A p s m args meth c cc nL own) {y : MethodName} {bytes : ByteArray} {maxL index n : Nat} {ret : Option FieldType} {rm : Room} {As st : List Value} {r : Int32} {u : St} {Cn owner : String} {x : MethodName} {b0 : ByteArray} {m0 : Nat} {r0 : Option FieldType} {ci q0 b N : Nat} {Tt : u_T} {fs : List Value} (hM : Met l y (Cond.code y bytes maxL ret :: tb) rm (PcX g (.ref b :: As) σ H.size) (QiX g (AX g H.size) r u) 0 0 (AX g H.size)) (hw : ∀ w ∈ ([.methodLink own index x, .sameMethod x.cls owner x.name x.desc, .instanceMethod ⟨owner, x.name, x.desc⟩, .selects Cn x y, .instanceMethod y, .initialized y.cls, Cond.code y bytes maxL ret, Cond.code ⟨owner, x.name, x.desc⟩ b0 m0 r0] : List Cond), w ∈ tb) (hrm : rm.cells = 0 ∧ rm.slots = 0) (hR : rm.frames + 1 ≤ R.frames ∧ 8 + (maxL + 11) + rm.locals ≤ R.locals) (hy : owner ≠ "java/lang/invoke/MethodHandle" ∧ owner ≠ "java/lang/invoke/VarHandle" ∧ (parseMethodDescriptor x.desc).map (fun d => d.parameters.length) = some n) (hcl : vwCl[ci]? = some (Cn, Tt, N)) (hre : (wX g σ)[q0]? = some (b, .inr (ci, fs))) (hn : As.length = n) (hls : ls.size = nL) (hcat : (rest.map fun v => v.category).sum ≤ 8) (hcs : cells ≤ R.cells ∧ slots ≤ R.slots) (hd : decode cc pc = .ok (.invokevirtual index, 3)) (hP : va_P g.1 vwCl (wX g σ) H) (hS : va_S A s.heap H locs) (hst : st = As.reverse ++ .ref b :: rest) (kk : ∀ (H1 : Heap) (locs1 : List Loc), va_P g.1 vwCl (wX g u) H1 → va_S A s.heap H1 locs1 → W p l e R s m args below meth c H1 locs1 cells slots Q (F0 m (pc + 3) ls (.int r :: rest))) : W p l e R s m args below meth c H locs cells slots Q (F0 m pc ls st) := by
  refine va_calli (va_runU (As := As) (rest := rest) (b := b) ⟨C.1, C.2.1, C.2.2.1, C.2.2.2.1, C.2.2.2.2.1⟩ hM (va_cwO n C.2.2.2.2.1 (tb_sub ?_) rfl hrm.1 hrm.2 (hw _ (List.mem_of_getElem? (i := 7) rfl)) hy hR) ⟨blind_X, va_recv C.2.2.2.2.2.1 hP hcl hre, fun U hU hW => C.pre hP hS hU hW⟩ rfl hn hls hst (lv_room hcat) hd hcs) hS (fun q _ h => C.sub hS q h) (C.sub hS) (fun r' u' t H1 locs1 ht hvm hw' hB hz hk hS1 => ?_)
  · intro w h
    rcases List.mem_append.mp h with h | h
    · exact hw w (List.mem_append_left [Cond.code y bytes maxL ret, Cond.code ⟨owner, x.name, x.desc⟩ b0 m0 r0] h)
    · rcases List.mem_cons.mp h with h | h
      · rw [h]; exact hw _ (List.mem_of_getElem? (i := 6) rfl)
      · exact h
  · obtain ⟨rfl, rfl⟩ := hw'
    exact kk H1 locs1 (C.back ht hB) hS1
theorem kSi_X (C : CX g A p s m args meth c cc nL own) {y : MethodName} {bytes : ByteArray} {maxL index n : Nat} {ret : Option FieldType} {rm : Room} {As st : List Value} {r : Int32} {u : St}  (hM : Met l y (Cond.code y bytes maxL ret :: tb) rm (PcX g (As) σ H.size) (QiX g (AX g H.size) r u) 0 0 (AX g H.size)) (hw : ∀ w ∈ ([.methodLink own index y, .static y, .initialized y.cls, Cond.code y bytes maxL ret] : List Cond), w ∈ tb) (hrm : rm.cells = 0 ∧ rm.slots = 0) (hR : rm.frames + 1 ≤ R.frames ∧ 8 + (maxL + 11) + rm.locals ≤ R.locals) (hy : y.cls ≠ "java/lang/invoke/MethodHandle" ∧ y.cls ≠ "java/lang/invoke/VarHandle" ∧ (parseMethodDescriptor y.desc).map (fun d => d.parameters.length) = some n) (hn : As.length = n) (hls : ls.size = nL) (hcat : (rest.map fun v => v.category).sum ≤ 8) (hcs : cells ≤ R.cells ∧ slots ≤ R.slots) (hd : decode cc pc = .ok (.invokestatic index, 3)) (hP : va_P g.1 vwCl (wX g σ) H) (hS : va_S A s.heap H locs) (hst : st = As.reverse ++ rest) (kk : ∀ (H1 : Heap) (locs1 : List Loc), va_P g.1 vwCl (wX g u) H1 → va_S A s.heap H1 locs1 → W p l e R s m args below meth c H1 locs1 cells slots Q (F0 m (pc + 3) ls (.int r :: rest))) : W p l e R s m args below meth c H locs cells slots Q (F0 m pc ls st) := by
  refine va_calli (va_runS (As := As) (rest := rest) ⟨C.1, C.2.1, C.2.2.1, C.2.2.2.1, C.2.2.2.2.1⟩ hM (va_cwS n C.2.2.2.2.1 (tb_sub ?_) rfl hrm.1 hrm.2 hy hR) ⟨blind_X, fun U hU hW => C.pre hP hS hU hW⟩ rfl hn hls hst (lv_room hcat) hd hcs) hS (fun q _ h => C.sub hS q h) (C.sub hS) (fun r' u' t H1 locs1 ht hvm hw' hB hz hk hS1 => ?_)
  · intro w h
    rcases List.mem_append.mp h with h | h
    · exact hw w (List.mem_append_left [Cond.code y bytes maxL ret] h)
    · rcases List.mem_cons.mp h with h | h
      · rw [h]; exact hw _ (List.mem_of_getElem? (i := 3) rfl)
      · exact h
  · obtain ⟨rfl, rfl⟩ := hw'
    exact kk H1 locs1 (C.back ht hB) hS1
theorem kVl_X (C : CX g A p s m args meth c cc nL own) {y : MethodName} {bytes : ByteArray} {maxL index n : Nat} {ret : Option FieldType} {rm : Room} {As st : List Value} {r : Int64} {u : St} {Cn : String} {ci q0 b N : Nat} {Tt : u_T} {fs : List Value} (hM : Met l y (Cond.code y bytes maxL ret :: tb) rm (PcX g (.ref b :: As) σ H.size) (QlX g (AX g H.size) r u) 0 0 (AX g H.size)) (hw : ∀ w ∈ ([.methodLink own index y, .instanceMethod y, .selects Cn y y, .initialized Cn, Cond.code y bytes maxL ret] : List Cond), w ∈ tb) (hrm : rm.cells = 0 ∧ rm.slots = 0) (hR : rm.frames + 1 ≤ R.frames ∧ 8 + (maxL + 11) + rm.locals ≤ R.locals) (hy : y.cls = Cn ∧ y.cls ≠ "java/lang/invoke/MethodHandle" ∧ y.cls ≠ "java/lang/invoke/VarHandle" ∧ (parseMethodDescriptor y.desc).map (fun d => d.parameters.length) = some n) (hcl : vwCl[ci]? = some (Cn, Tt, N)) (hre : (wX g σ)[q0]? = some (b, .inr (ci, fs))) (hn : As.length = n) (hls : ls.size = nL) (hcat : (rest.map fun v => v.category).sum ≤ 8) (hcs : cells ≤ R.cells ∧ slots ≤ R.slots) (hd : decode cc pc = .ok (.invokevirtual index, 3)) (hP : va_P g.1 vwCl (wX g σ) H) (hS : va_S A s.heap H locs) (hst : st = As.reverse ++ .ref b :: rest) (kk : ∀ (H1 : Heap) (locs1 : List Loc), va_P g.1 vwCl (wX g u) H1 → va_S A s.heap H1 locs1 → W p l e R s m args below meth c H1 locs1 cells slots Q (F0 m (pc + 3) ls (.long r :: rest))) : W p l e R s m args below meth c H locs cells slots Q (F0 m pc ls st) := by
  refine va_calll (va_runV (As := As) (rest := rest) (b := b) ⟨C.1, C.2.1, C.2.2.1, C.2.2.2.1, C.2.2.2.2.1⟩ hM (cwV n C.2.2.2.2.1 (tb_sub ?_) rfl hrm.1 hrm.2 hy hR) ⟨blind_X, va_recv C.2.2.2.2.2.1 hP hcl hre, fun U hU hW => C.pre hP hS hU hW⟩ rfl hn hls hst (lv_room hcat) hd hcs) hS (fun q _ h => C.sub hS q h) (C.sub hS) (fun r' u' t H1 locs1 ht hvm hw' hB hz hk hS1 => ?_)
  · intro w h
    rcases List.mem_append.mp h with h | h
    · exact hw w (List.mem_append_left [Cond.code y bytes maxL ret] h)
    · rcases List.mem_cons.mp h with h | h
      · rw [h]; exact hw _ (List.mem_of_getElem? (i := 4) rfl)
      · exact h
  · obtain ⟨rfl, rfl⟩ := hw'
    exact kk H1 locs1 (C.back ht hB) hS1
theorem kSl_X (C : CX g A p s m args meth c cc nL own) {y : MethodName} {bytes : ByteArray} {maxL index n : Nat} {ret : Option FieldType} {rm : Room} {As st : List Value} {r : Int64} {u : St}  (hM : Met l y (Cond.code y bytes maxL ret :: tb) rm (PcX g (As) σ H.size) (QlX g (AX g H.size) r u) 0 0 (AX g H.size)) (hw : ∀ w ∈ ([.methodLink own index y, .static y, .initialized y.cls, Cond.code y bytes maxL ret] : List Cond), w ∈ tb) (hrm : rm.cells = 0 ∧ rm.slots = 0) (hR : rm.frames + 1 ≤ R.frames ∧ 8 + (maxL + 11) + rm.locals ≤ R.locals) (hy : y.cls ≠ "java/lang/invoke/MethodHandle" ∧ y.cls ≠ "java/lang/invoke/VarHandle" ∧ (parseMethodDescriptor y.desc).map (fun d => d.parameters.length) = some n) (hn : As.length = n) (hls : ls.size = nL) (hcat : (rest.map fun v => v.category).sum ≤ 8) (hcs : cells ≤ R.cells ∧ slots ≤ R.slots) (hd : decode cc pc = .ok (.invokestatic index, 3)) (hP : va_P g.1 vwCl (wX g σ) H) (hS : va_S A s.heap H locs) (hst : st = As.reverse ++ rest) (kk : ∀ (H1 : Heap) (locs1 : List Loc), va_P g.1 vwCl (wX g u) H1 → va_S A s.heap H1 locs1 → W p l e R s m args below meth c H1 locs1 cells slots Q (F0 m (pc + 3) ls (.long r :: rest))) : W p l e R s m args below meth c H locs cells slots Q (F0 m pc ls st) := by
  refine va_calll (va_runS (As := As) (rest := rest) ⟨C.1, C.2.1, C.2.2.1, C.2.2.2.1, C.2.2.2.2.1⟩ hM (va_cwS n C.2.2.2.2.1 (tb_sub ?_) rfl hrm.1 hrm.2 hy hR) ⟨blind_X, fun U hU hW => C.pre hP hS hU hW⟩ rfl hn hls hst (lv_room hcat) hd hcs) hS (fun q _ h => C.sub hS q h) (C.sub hS) (fun r' u' t H1 locs1 ht hvm hw' hB hz hk hS1 => ?_)
  · intro w h
    rcases List.mem_append.mp h with h | h
    · exact hw w (List.mem_append_left [Cond.code y bytes maxL ret] h)
    · rcases List.mem_cons.mp h with h | h
      · rw [h]; exact hw _ (List.mem_of_getElem? (i := 3) rfl)
      · exact h
  · obtain ⟨rfl, rfl⟩ := hw'
    exact kk H1 locs1 (C.back ht hB) hS1
theorem kVv_X (C : CX g A p s m args meth c cc nL own) {y : MethodName} {bytes : ByteArray} {maxL index n : Nat} {ret : Option FieldType} {rm : Room} {As st : List Value} {u : St} {Cn : String} {ci q0 b N : Nat} {Tt : u_T} {fs : List Value} (hM : Met l y (Cond.code y bytes maxL ret :: tb) rm (PcX g (.ref b :: As) σ H.size) (QvX g (AX g H.size) u) 0 0 (AX g H.size)) (hw : ∀ w ∈ ([.methodLink own index y, .instanceMethod y, .selects Cn y y, .initialized Cn, Cond.code y bytes maxL ret] : List Cond), w ∈ tb) (hrm : rm.cells = 0 ∧ rm.slots = 0) (hR : rm.frames + 1 ≤ R.frames ∧ 8 + (maxL + 11) + rm.locals ≤ R.locals) (hy : y.cls = Cn ∧ y.cls ≠ "java/lang/invoke/MethodHandle" ∧ y.cls ≠ "java/lang/invoke/VarHandle" ∧ (parseMethodDescriptor y.desc).map (fun d => d.parameters.length) = some n) (hcl : vwCl[ci]? = some (Cn, Tt, N)) (hre : (wX g σ)[q0]? = some (b, .inr (ci, fs))) (hn : As.length = n) (hls : ls.size = nL) (hcat : (rest.map fun v => v.category).sum ≤ 8) (hcs : cells ≤ R.cells ∧ slots ≤ R.slots) (hd : decode cc pc = .ok (.invokevirtual index, 3)) (hP : va_P g.1 vwCl (wX g σ) H) (hS : va_S A s.heap H locs) (hst : st = As.reverse ++ .ref b :: rest) (kk : ∀ (H1 : Heap) (locs1 : List Loc), va_P g.1 vwCl (wX g u) H1 → va_S A s.heap H1 locs1 → W p l e R s m args below meth c H1 locs1 cells slots Q (F0 m (pc + 3) ls (rest))) : W p l e R s m args below meth c H locs cells slots Q (F0 m pc ls st) := by
  refine va_callv (va_runV (As := As) (rest := rest) (b := b) ⟨C.1, C.2.1, C.2.2.1, C.2.2.2.1, C.2.2.2.2.1⟩ hM (cwV n C.2.2.2.2.1 (tb_sub ?_) rfl hrm.1 hrm.2 hy hR) ⟨blind_X, va_recv C.2.2.2.2.2.1 hP hcl hre, fun U hU hW => C.pre hP hS hU hW⟩ rfl hn hls hst (lv_room hcat) hd hcs) hS (fun q _ h => C.sub hS q h) (C.sub hS) (fun u' t H1 locs1 ht hvm hw' hB hz hk hS1 => ?_)
  · intro w h
    rcases List.mem_append.mp h with h | h
    · exact hw w (List.mem_append_left [Cond.code y bytes maxL ret] h)
    · rcases List.mem_cons.mp h with h | h
      · rw [h]; exact hw _ (List.mem_of_getElem? (i := 4) rfl)
      · exact h
  · obtain rfl := hw'
    exact kk H1 locs1 (C.back ht hB) hS1
theorem kSv_X (C : CX g A p s m args meth c cc nL own) {y : MethodName} {bytes : ByteArray} {maxL index n : Nat} {ret : Option FieldType} {rm : Room} {As st : List Value} {u : St}  (hM : Met l y (Cond.code y bytes maxL ret :: tb) rm (PcX g (As) σ H.size) (QvX g (AX g H.size) u) 0 0 (AX g H.size)) (hw : ∀ w ∈ ([.methodLink own index y, .static y, .initialized y.cls, Cond.code y bytes maxL ret] : List Cond), w ∈ tb) (hrm : rm.cells = 0 ∧ rm.slots = 0) (hR : rm.frames + 1 ≤ R.frames ∧ 8 + (maxL + 11) + rm.locals ≤ R.locals) (hy : y.cls ≠ "java/lang/invoke/MethodHandle" ∧ y.cls ≠ "java/lang/invoke/VarHandle" ∧ (parseMethodDescriptor y.desc).map (fun d => d.parameters.length) = some n) (hn : As.length = n) (hls : ls.size = nL) (hcat : (rest.map fun v => v.category).sum ≤ 8) (hcs : cells ≤ R.cells ∧ slots ≤ R.slots) (hd : decode cc pc = .ok (.invokestatic index, 3)) (hP : va_P g.1 vwCl (wX g σ) H) (hS : va_S A s.heap H locs) (hst : st = As.reverse ++ rest) (kk : ∀ (H1 : Heap) (locs1 : List Loc), va_P g.1 vwCl (wX g u) H1 → va_S A s.heap H1 locs1 → W p l e R s m args below meth c H1 locs1 cells slots Q (F0 m (pc + 3) ls (rest))) : W p l e R s m args below meth c H locs cells slots Q (F0 m pc ls st) := by
  refine va_callv (va_runS (As := As) (rest := rest) ⟨C.1, C.2.1, C.2.2.1, C.2.2.2.1, C.2.2.2.2.1⟩ hM (va_cwS n C.2.2.2.2.1 (tb_sub ?_) rfl hrm.1 hrm.2 hy hR) ⟨blind_X, fun U hU hW => C.pre hP hS hU hW⟩ rfl hn hls hst (lv_room hcat) hd hcs) hS (fun q _ h => C.sub hS q h) (C.sub hS) (fun u' t H1 locs1 ht hvm hw' hB hz hk hS1 => ?_)
  · intro w h
    rcases List.mem_append.mp h with h | h
    · exact hw w (List.mem_append_left [Cond.code y bytes maxL ret] h)
    · rcases List.mem_cons.mp h with h | h
      · rw [h]; exact hw _ (List.mem_of_getElem? (i := 3) rfl)
      · exact h
  · obtain rfl := hw'
    exact kk H1 locs1 (C.back ht hB) hS1
theorem kVr_X (C : CX g A p s m args meth c cc nL own) {y : MethodName} {bytes : ByteArray} {maxL index n : Nat} {ret : Option FieldType} {rm : Room} {As st : List Value} {r : Nat} {u : St} {Cn : String} {ci q0 b N : Nat} {Tt : u_T} {fs : List Value} (hM : Met l y (Cond.code y bytes maxL ret :: tb) rm (PcX g (.ref b :: As) σ H.size) (QrX g (AX g H.size) r u) 0 0 (AX g H.size)) (hw : ∀ w ∈ ([.methodLink own index y, .instanceMethod y, .selects Cn y y, .initialized Cn, Cond.code y bytes maxL ret] : List Cond), w ∈ tb) (hrm : rm.cells = 0 ∧ rm.slots = 0) (hR : rm.frames + 1 ≤ R.frames ∧ 8 + (maxL + 11) + rm.locals ≤ R.locals) (hy : y.cls = Cn ∧ y.cls ≠ "java/lang/invoke/MethodHandle" ∧ y.cls ≠ "java/lang/invoke/VarHandle" ∧ (parseMethodDescriptor y.desc).map (fun d => d.parameters.length) = some n) (hcl : vwCl[ci]? = some (Cn, Tt, N)) (hre : (wX g σ)[q0]? = some (b, .inr (ci, fs))) (hn : As.length = n) (hls : ls.size = nL) (hcat : (rest.map fun v => v.category).sum ≤ 8) (hcs : cells ≤ R.cells ∧ slots ≤ R.slots) (hd : decode cc pc = .ok (.invokevirtual index, 3)) (hP : va_P g.1 vwCl (wX g σ) H) (hS : va_S A s.heap H locs) (hst : st = As.reverse ++ .ref b :: rest) (kk : ∀ (H1 : Heap) (locs1 : List Loc), va_P g.1 vwCl (wX g u) H1 → va_S A s.heap H1 locs1 → W p l e R s m args below meth c H1 locs1 cells slots Q (F0 m (pc + 3) ls (.ref (g.2.2 r) :: rest))) : W p l e R s m args below meth c H locs cells slots Q (F0 m pc ls st) := by
  refine va_callr (va_runV (As := As) (rest := rest) (b := b) ⟨C.1, C.2.1, C.2.2.1, C.2.2.2.1, C.2.2.2.2.1⟩ hM (cwV n C.2.2.2.2.1 (tb_sub ?_) rfl hrm.1 hrm.2 hy hR) ⟨blind_X, va_recv C.2.2.2.2.2.1 hP hcl hre, fun U hU hW => C.pre hP hS hU hW⟩ rfl hn hls hst (lv_room hcat) hd hcs) hS (fun q _ h => C.sub hS q h) (C.sub hS) (fun u' a' t H1 locs1 ht hvm hw' hB hz hk hS1 => ?_)
  · intro w h
    rcases List.mem_append.mp h with h | h
    · exact hw w (List.mem_append_left [Cond.code y bytes maxL ret] h)
    · rcases List.mem_cons.mp h with h | h
      · rw [h]; exact hw _ (List.mem_of_getElem? (i := 4) rfl)
      · exact h
  · obtain rfl := hw'
    obtain ⟨rfl, hB⟩ := hB
    exact kk H1 locs1 (C.back ht hB) hS1
end CALX
section CALM
variable {p : Program} {l : Launch} {e : Env} {R : Room} {s : State} {m : MethodId} {args : Array Value} {below : List Frame} {meth : Method} {c : Code} {H : Heap} {locs : List Loc} {cells slots : Nat} {Q : State → Prop} {cc : ByteArray} {nL pc : Nat} {ls : Array Slot} {own : String} {rest : List Value} {g : Gx} {A : Nat → Prop} {σ : St} {h : Int64} {h' : Int64}
theorem ri_M (C : CM g A p s m args meth c cc nL own) {v : Int32} (hr : meth.sig.returnType = some .int) (hP : va_P g.1 vwCl (wM g h σ) H) (hS : va_S A s.heap H locs) (hd : decode cc pc = .ok (.ireturn, 1)) : W p l e R s m args below meth c H locs 0 0 (MQ below (QiM g h A v σ) args s 0 0 A) (F0 m pc ls [.int v]) :=
  W.iret (v := v) C.1 C.2.1 hr (fun t ht hW => ⟨⟨v, σ, rfl, ⟨rfl, rfl⟩, by rw [ht]; exact hP, va_K.moved hW.alike C.2.2.2.2.2.1⟩, hS.F ht⟩) hS.2.2 hd (hlocks := C.2.2.2.2.2.2.2.2.2)
theorem rz_M (C : CM g A p s m args meth c cc nL own) {v : Int32} (hr : meth.sig.returnType = some .boolean) (hz : v = 0 ∨ v = 1) (hP : va_P g.1 vwCl (wM g h σ) H) (hS : va_S A s.heap H locs) (hd : decode cc pc = .ok (.ireturn, 1)) : W p l e R s m args below meth c H locs 0 0 (MQ below (QiM g h A v σ) args s 0 0 A) (F0 m pc ls [.int v]) :=
  W.zret (v := v) C.1 C.2.1 hr (by rcases hz with rfl | rfl <;> decide) (fun t ht hW => ⟨⟨v, σ, rfl, ⟨rfl, rfl⟩, by rw [ht]; exact hP, va_K.moved hW.alike C.2.2.2.2.2.1⟩, hS.F ht⟩) hS.2.2 hd (hlocks := C.2.2.2.2.2.2.2.2.2)
theorem rl_M (C : CM g A p s m args meth c cc nL own) {v : Int64} (hr : meth.sig.returnType = some .long) (hP : va_P g.1 vwCl (wM g h σ) H) (hS : va_S A s.heap H locs) (hd : decode cc pc = .ok (.lreturn, 1)) : W p l e R s m args below meth c H locs 0 0 (MQ below (QlM g h A v σ) args s 0 0 A) (F0 m pc ls [.long v]) :=
  W.lret (v := v) C.1 C.2.1 hr (fun t ht hW => ⟨⟨v, σ, rfl, ⟨rfl, rfl⟩, by rw [ht]; exact hP, va_K.moved hW.alike C.2.2.2.2.2.1⟩, hS.F ht⟩) hS.2.2 hd (hlocks := C.2.2.2.2.2.2.2.2.2)
theorem rv_M (C : CM g A p s m args meth c cc nL own) (hr : meth.sig.returnType = none) (hP : va_P g.1 vwCl (wM g h σ) H) (hS : va_S A s.heap H locs) (hd : decode cc pc = .ok (.return_, 1)) : W p l e R s m args below meth c H locs 0 0 (MQ below (QvM g h A σ) args s 0 0 A) (F0 m pc ls []) :=
  W.vret C.1 C.2.1 hr (fun t ht hW => ⟨⟨σ, rfl, rfl, by rw [ht]; exact hP, va_K.moved hW.alike C.2.2.2.2.2.1⟩, hS.F ht⟩) hS.2.2 hd (hlocks := C.2.2.2.2.2.2.2.2.2)
theorem kVi_M (C : CM g A p s m args meth c cc nL own) {y : MethodName} {bytes : ByteArray} {maxL index n : Nat} {ret : Option FieldType} {rm : Room} {As st : List Value} {r : Int32} {u : St} {Cn : String} {ci q0 b N : Nat} {Tt : u_T} {fs : List Value} (hM : Met l y (Cond.code y bytes maxL ret :: tb) rm (PcM g h (.ref b :: As) σ H.size) (QiM g h' (AM g H.size) r u) 0 0 (AM g H.size)) (hw : ∀ w ∈ ([.methodLink own index y, .instanceMethod y, .selects Cn y y, .initialized Cn, Cond.code y bytes maxL ret] : List Cond), w ∈ tb) (hrm : rm.cells = 0 ∧ rm.slots = 0) (hR : rm.frames + 1 ≤ R.frames ∧ 8 + (maxL + 11) + rm.locals ≤ R.locals) (hy : y.cls = Cn ∧ y.cls ≠ "java/lang/invoke/MethodHandle" ∧ y.cls ≠ "java/lang/invoke/VarHandle" ∧ (parseMethodDescriptor y.desc).map (fun d => d.parameters.length) = some n) (hcl : vwCl[ci]? = some (Cn, Tt, N)) (hre : (wM g h σ)[q0]? = some (b, .inr (ci, fs))) (hn : As.length = n) (hls : ls.size = nL) (hcat : (rest.map fun v => v.category).sum ≤ 8) (hcs : cells ≤ R.cells ∧ slots ≤ R.slots) (hd : decode cc pc = .ok (.invokevirtual index, 3)) (hP : va_P g.1 vwCl (wM g h σ) H) (hS : va_S A s.heap H locs) (hst : st = As.reverse ++ .ref b :: rest) (kk : ∀ (H1 : Heap) (locs1 : List Loc), va_P g.1 vwCl (wM g h' u) H1 → va_S A s.heap H1 locs1 → W p l e R s m args below meth c H1 locs1 cells slots Q (F0 m (pc + 3) ls (.int r :: rest))) : W p l e R s m args below meth c H locs cells slots Q (F0 m pc ls st) := by
  refine va_calli (va_runV (As := As) (rest := rest) (b := b) ⟨C.1, C.2.1, C.2.2.1, C.2.2.2.1, C.2.2.2.2.1⟩ hM (cwV n C.2.2.2.2.1 (tb_sub ?_) rfl hrm.1 hrm.2 hy hR) ⟨blind_M, va_recv C.2.2.2.2.2.1 hP hcl hre, fun U hU hW => C.pre hP hS hU hW⟩ rfl hn hls hst (lv_room hcat) hd hcs) hS (fun q _ h => C.sub hS q h) (C.sub hS) (fun r' u' t H1 locs1 ht hvm hw' hB hz hk hS1 => ?_)
  · intro w h
    rcases List.mem_append.mp h with h | h
    · exact hw w (List.mem_append_left [Cond.code y bytes maxL ret] h)
    · rcases List.mem_cons.mp h with h | h
      · rw [h]; exact hw _ (List.mem_of_getElem? (i := 4) rfl)
      · exact h
  · obtain ⟨rfl, rfl⟩ := hw'
    exact kk H1 locs1 (C.back ht hB) hS1
theorem kSi_M (C : CM g A p s m args meth c cc nL own) {y : MethodName} {bytes : ByteArray} {maxL index n : Nat} {ret : Option FieldType} {rm : Room} {As st : List Value} {r : Int32} {u : St}  (hM : Met l y (Cond.code y bytes maxL ret :: tb) rm (PcM g h (As) σ H.size) (QiM g h' (AM g H.size) r u) 0 0 (AM g H.size)) (hw : ∀ w ∈ ([.methodLink own index y, .static y, .initialized y.cls, Cond.code y bytes maxL ret] : List Cond), w ∈ tb) (hrm : rm.cells = 0 ∧ rm.slots = 0) (hR : rm.frames + 1 ≤ R.frames ∧ 8 + (maxL + 11) + rm.locals ≤ R.locals) (hy : y.cls ≠ "java/lang/invoke/MethodHandle" ∧ y.cls ≠ "java/lang/invoke/VarHandle" ∧ (parseMethodDescriptor y.desc).map (fun d => d.parameters.length) = some n) (hn : As.length = n) (hls : ls.size = nL) (hcat : (rest.map fun v => v.category).sum ≤ 8) (hcs : cells ≤ R.cells ∧ slots ≤ R.slots) (hd : decode cc pc = .ok (.invokestatic index, 3)) (hP : va_P g.1 vwCl (wM g h σ) H) (hS : va_S A s.heap H locs) (hst : st = As.reverse ++ rest) (kk : ∀ (H1 : Heap) (locs1 : List Loc), va_P g.1 vwCl (wM g h' u) H1 → va_S A s.heap H1 locs1 → W p l e R s m args below meth c H1 locs1 cells slots Q (F0 m (pc + 3) ls (.int r :: rest))) : W p l e R s m args below meth c H locs cells slots Q (F0 m pc ls st) := by
  refine va_calli (va_runS (As := As) (rest := rest) ⟨C.1, C.2.1, C.2.2.1, C.2.2.2.1, C.2.2.2.2.1⟩ hM (va_cwS n C.2.2.2.2.1 (tb_sub ?_) rfl hrm.1 hrm.2 hy hR) ⟨blind_M, fun U hU hW => C.pre hP hS hU hW⟩ rfl hn hls hst (lv_room hcat) hd hcs) hS (fun q _ h => C.sub hS q h) (C.sub hS) (fun r' u' t H1 locs1 ht hvm hw' hB hz hk hS1 => ?_)
  · intro w h
    rcases List.mem_append.mp h with h | h
    · exact hw w (List.mem_append_left [Cond.code y bytes maxL ret] h)
    · rcases List.mem_cons.mp h with h | h
      · rw [h]; exact hw _ (List.mem_of_getElem? (i := 3) rfl)
      · exact h
  · obtain ⟨rfl, rfl⟩ := hw'
    exact kk H1 locs1 (C.back ht hB) hS1
theorem kVl_M (C : CM g A p s m args meth c cc nL own) {y : MethodName} {bytes : ByteArray} {maxL index n : Nat} {ret : Option FieldType} {rm : Room} {As st : List Value} {r : Int64} {u : St} {Cn : String} {ci q0 b N : Nat} {Tt : u_T} {fs : List Value} (hM : Met l y (Cond.code y bytes maxL ret :: tb) rm (PcM g h (.ref b :: As) σ H.size) (QlM g h' (AM g H.size) r u) 0 0 (AM g H.size)) (hw : ∀ w ∈ ([.methodLink own index y, .instanceMethod y, .selects Cn y y, .initialized Cn, Cond.code y bytes maxL ret] : List Cond), w ∈ tb) (hrm : rm.cells = 0 ∧ rm.slots = 0) (hR : rm.frames + 1 ≤ R.frames ∧ 8 + (maxL + 11) + rm.locals ≤ R.locals) (hy : y.cls = Cn ∧ y.cls ≠ "java/lang/invoke/MethodHandle" ∧ y.cls ≠ "java/lang/invoke/VarHandle" ∧ (parseMethodDescriptor y.desc).map (fun d => d.parameters.length) = some n) (hcl : vwCl[ci]? = some (Cn, Tt, N)) (hre : (wM g h σ)[q0]? = some (b, .inr (ci, fs))) (hn : As.length = n) (hls : ls.size = nL) (hcat : (rest.map fun v => v.category).sum ≤ 8) (hcs : cells ≤ R.cells ∧ slots ≤ R.slots) (hd : decode cc pc = .ok (.invokevirtual index, 3)) (hP : va_P g.1 vwCl (wM g h σ) H) (hS : va_S A s.heap H locs) (hst : st = As.reverse ++ .ref b :: rest) (kk : ∀ (H1 : Heap) (locs1 : List Loc), va_P g.1 vwCl (wM g h' u) H1 → va_S A s.heap H1 locs1 → W p l e R s m args below meth c H1 locs1 cells slots Q (F0 m (pc + 3) ls (.long r :: rest))) : W p l e R s m args below meth c H locs cells slots Q (F0 m pc ls st) := by
  refine va_calll (va_runV (As := As) (rest := rest) (b := b) ⟨C.1, C.2.1, C.2.2.1, C.2.2.2.1, C.2.2.2.2.1⟩ hM (cwV n C.2.2.2.2.1 (tb_sub ?_) rfl hrm.1 hrm.2 hy hR) ⟨blind_M, va_recv C.2.2.2.2.2.1 hP hcl hre, fun U hU hW => C.pre hP hS hU hW⟩ rfl hn hls hst (lv_room hcat) hd hcs) hS (fun q _ h => C.sub hS q h) (C.sub hS) (fun r' u' t H1 locs1 ht hvm hw' hB hz hk hS1 => ?_)
  · intro w h
    rcases List.mem_append.mp h with h | h
    · exact hw w (List.mem_append_left [Cond.code y bytes maxL ret] h)
    · rcases List.mem_cons.mp h with h | h
      · rw [h]; exact hw _ (List.mem_of_getElem? (i := 4) rfl)
      · exact h
  · obtain ⟨rfl, rfl⟩ := hw'
    exact kk H1 locs1 (C.back ht hB) hS1
theorem kSl_M (C : CM g A p s m args meth c cc nL own) {y : MethodName} {bytes : ByteArray} {maxL index n : Nat} {ret : Option FieldType} {rm : Room} {As st : List Value} {r : Int64} {u : St}  (hM : Met l y (Cond.code y bytes maxL ret :: tb) rm (PcM g h (As) σ H.size) (QlM g h' (AM g H.size) r u) 0 0 (AM g H.size)) (hw : ∀ w ∈ ([.methodLink own index y, .static y, .initialized y.cls, Cond.code y bytes maxL ret] : List Cond), w ∈ tb) (hrm : rm.cells = 0 ∧ rm.slots = 0) (hR : rm.frames + 1 ≤ R.frames ∧ 8 + (maxL + 11) + rm.locals ≤ R.locals) (hy : y.cls ≠ "java/lang/invoke/MethodHandle" ∧ y.cls ≠ "java/lang/invoke/VarHandle" ∧ (parseMethodDescriptor y.desc).map (fun d => d.parameters.length) = some n) (hn : As.length = n) (hls : ls.size = nL) (hcat : (rest.map fun v => v.category).sum ≤ 8) (hcs : cells ≤ R.cells ∧ slots ≤ R.slots) (hd : decode cc pc = .ok (.invokestatic index, 3)) (hP : va_P g.1 vwCl (wM g h σ) H) (hS : va_S A s.heap H locs) (hst : st = As.reverse ++ rest) (kk : ∀ (H1 : Heap) (locs1 : List Loc), va_P g.1 vwCl (wM g h' u) H1 → va_S A s.heap H1 locs1 → W p l e R s m args below meth c H1 locs1 cells slots Q (F0 m (pc + 3) ls (.long r :: rest))) : W p l e R s m args below meth c H locs cells slots Q (F0 m pc ls st) := by
  refine va_calll (va_runS (As := As) (rest := rest) ⟨C.1, C.2.1, C.2.2.1, C.2.2.2.1, C.2.2.2.2.1⟩ hM (va_cwS n C.2.2.2.2.1 (tb_sub ?_) rfl hrm.1 hrm.2 hy hR) ⟨blind_M, fun U hU hW => C.pre hP hS hU hW⟩ rfl hn hls hst (lv_room hcat) hd hcs) hS (fun q _ h => C.sub hS q h) (C.sub hS) (fun r' u' t H1 locs1 ht hvm hw' hB hz hk hS1 => ?_)
  · intro w h
    rcases List.mem_append.mp h with h | h
    · exact hw w (List.mem_append_left [Cond.code y bytes maxL ret] h)
    · rcases List.mem_cons.mp h with h | h
      · rw [h]; exact hw _ (List.mem_of_getElem? (i := 3) rfl)
      · exact h
  · obtain ⟨rfl, rfl⟩ := hw'
    exact kk H1 locs1 (C.back ht hB) hS1
theorem kVv_M (C : CM g A p s m args meth c cc nL own) {y : MethodName} {bytes : ByteArray} {maxL index n : Nat} {ret : Option FieldType} {rm : Room} {As st : List Value} {u : St} {Cn : String} {ci q0 b N : Nat} {Tt : u_T} {fs : List Value} (hM : Met l y (Cond.code y bytes maxL ret :: tb) rm (PcM g h (.ref b :: As) σ H.size) (QvM g h' (AM g H.size) u) 0 0 (AM g H.size)) (hw : ∀ w ∈ ([.methodLink own index y, .instanceMethod y, .selects Cn y y, .initialized Cn, Cond.code y bytes maxL ret] : List Cond), w ∈ tb) (hrm : rm.cells = 0 ∧ rm.slots = 0) (hR : rm.frames + 1 ≤ R.frames ∧ 8 + (maxL + 11) + rm.locals ≤ R.locals) (hy : y.cls = Cn ∧ y.cls ≠ "java/lang/invoke/MethodHandle" ∧ y.cls ≠ "java/lang/invoke/VarHandle" ∧ (parseMethodDescriptor y.desc).map (fun d => d.parameters.length) = some n) (hcl : vwCl[ci]? = some (Cn, Tt, N)) (hre : (wM g h σ)[q0]? = some (b, .inr (ci, fs))) (hn : As.length = n) (hls : ls.size = nL) (hcat : (rest.map fun v => v.category).sum ≤ 8) (hcs : cells ≤ R.cells ∧ slots ≤ R.slots) (hd : decode cc pc = .ok (.invokevirtual index, 3)) (hP : va_P g.1 vwCl (wM g h σ) H) (hS : va_S A s.heap H locs) (hst : st = As.reverse ++ .ref b :: rest) (kk : ∀ (H1 : Heap) (locs1 : List Loc), va_P g.1 vwCl (wM g h' u) H1 → va_S A s.heap H1 locs1 → W p l e R s m args below meth c H1 locs1 cells slots Q (F0 m (pc + 3) ls (rest))) : W p l e R s m args below meth c H locs cells slots Q (F0 m pc ls st) := by
  refine va_callv (va_runV (As := As) (rest := rest) (b := b) ⟨C.1, C.2.1, C.2.2.1, C.2.2.2.1, C.2.2.2.2.1⟩ hM (cwV n C.2.2.2.2.1 (tb_sub ?_) rfl hrm.1 hrm.2 hy hR) ⟨blind_M, va_recv C.2.2.2.2.2.1 hP hcl hre, fun U hU hW => C.pre hP hS hU hW⟩ rfl hn hls hst (lv_room hcat) hd hcs) hS (fun q _ h => C.sub hS q h) (C.sub hS) (fun u' t H1 locs1 ht hvm hw' hB hz hk hS1 => ?_)
  · intro w h
    rcases List.mem_append.mp h with h | h
    · exact hw w (List.mem_append_left [Cond.code y bytes maxL ret] h)
    · rcases List.mem_cons.mp h with h | h
      · rw [h]; exact hw _ (List.mem_of_getElem? (i := 4) rfl)
      · exact h
  · obtain rfl := hw'
    exact kk H1 locs1 (C.back ht hB) hS1
theorem kSv_M (C : CM g A p s m args meth c cc nL own) {y : MethodName} {bytes : ByteArray} {maxL index n : Nat} {ret : Option FieldType} {rm : Room} {As st : List Value} {u : St}  (hM : Met l y (Cond.code y bytes maxL ret :: tb) rm (PcM g h (As) σ H.size) (QvM g h' (AM g H.size) u) 0 0 (AM g H.size)) (hw : ∀ w ∈ ([.methodLink own index y, .static y, .initialized y.cls, Cond.code y bytes maxL ret] : List Cond), w ∈ tb) (hrm : rm.cells = 0 ∧ rm.slots = 0) (hR : rm.frames + 1 ≤ R.frames ∧ 8 + (maxL + 11) + rm.locals ≤ R.locals) (hy : y.cls ≠ "java/lang/invoke/MethodHandle" ∧ y.cls ≠ "java/lang/invoke/VarHandle" ∧ (parseMethodDescriptor y.desc).map (fun d => d.parameters.length) = some n) (hn : As.length = n) (hls : ls.size = nL) (hcat : (rest.map fun v => v.category).sum ≤ 8) (hcs : cells ≤ R.cells ∧ slots ≤ R.slots) (hd : decode cc pc = .ok (.invokestatic index, 3)) (hP : va_P g.1 vwCl (wM g h σ) H) (hS : va_S A s.heap H locs) (hst : st = As.reverse ++ rest) (kk : ∀ (H1 : Heap) (locs1 : List Loc), va_P g.1 vwCl (wM g h' u) H1 → va_S A s.heap H1 locs1 → W p l e R s m args below meth c H1 locs1 cells slots Q (F0 m (pc + 3) ls (rest))) : W p l e R s m args below meth c H locs cells slots Q (F0 m pc ls st) := by
  refine va_callv (va_runS (As := As) (rest := rest) ⟨C.1, C.2.1, C.2.2.1, C.2.2.2.1, C.2.2.2.2.1⟩ hM (va_cwS n C.2.2.2.2.1 (tb_sub ?_) rfl hrm.1 hrm.2 hy hR) ⟨blind_M, fun U hU hW => C.pre hP hS hU hW⟩ rfl hn hls hst (lv_room hcat) hd hcs) hS (fun q _ h => C.sub hS q h) (C.sub hS) (fun u' t H1 locs1 ht hvm hw' hB hz hk hS1 => ?_)
  · intro w h
    rcases List.mem_append.mp h with h | h
    · exact hw w (List.mem_append_left [Cond.code y bytes maxL ret] h)
    · rcases List.mem_cons.mp h with h | h
      · rw [h]; exact hw _ (List.mem_of_getElem? (i := 3) rfl)
      · exact h
  · obtain rfl := hw'
    exact kk H1 locs1 (C.back ht hB) hS1
end CALM
end
section
/-! rows of one place each -/
section SPE
variable {p : Program} {l : Launch} {e : Env} {R : Room} {s : State} {m : MethodId} {args : Array Value} {below : List Frame} {meth : Method} {c : Code} {H : Heap} {locs : List Loc} {cells slots : Nat} {Q : State → Prop} {cc : ByteArray} {nL pc : Nat} {ls : Array Slot} {own : String} {rest : List Value} {g : Gx} {A : Nat → Prop} {σ : St} {h : Int64}
theorem w_rd {x y : Int32} (h : x = y) (k : W p l e R s m args below meth c H locs cells slots Q (F0 m pc ls (.int y :: rest))) : W p l e R s m args below meth c H locs cells slots Q (F0 m pc ls (.int x :: rest)) := h ▸ k
theorem wH {H' : Heap} {f : JFrame} (h : H = H') (k : W p l e R s m args below meth c H locs cells slots Q f) : W p l e R s m args below meth c H' locs cells slots Q f := h ▸ k
theorem wL {locs' : List Loc} {f : JFrame} (h : locs = locs') (k : W p l e R s m args below meth c H locs cells slots Q f) : W p l e R s m args below meth c H locs' cells slots Q f := h ▸ k
theorem aj_X (C : CX g A p s m args meth c cc nL own) (hP : va_P g.1 vwCl (wX g σ) H) {i : Int32} (hin : vp_in i 5) (hd : decode cc pc = .ok (.aaload, 1)) (kk : W p l e R s m args below meth c H locs cells slots Q (F0 m (pc + 1) ls (.ref (g.2.2 (4 + i.toNatClampNeg)) :: rest))) : W p l e R s m args below meth c H locs cells slots Q (F0 m pc ls (.int i :: .ref (g.2.2 3) :: rest)) :=
  va_aldq C.1 C.2.1 C.2.2.2.2.2.1 hP 3 2 rfl rfl hin hd kk
theorem mx_X (C : CX g A p s m args meth c cc nL own) {index : Nat} {x y : Int32} (hw : ∀ w ∈ ([.methodLink own index Lib.Math.max.name, .static Lib.Math.max.name, .initialized "java/lang/Math", Cond.code Lib.Math.max.name Lib.Math.max.code 2 (some .int)] : List Cond), w ∈ tb) (hls : ls.size = nL) (hf : 1 ≤ R.frames) (hlo : (rest.map fun v => v.category).sum + 13 ≤ R.locals) (hcs : cells ≤ R.cells ∧ slots ≤ R.slots) (hd : decode cc pc = .ok (.invokestatic index, 3)) (kk : W p l e R s m args below meth c H locs cells slots Q (F0 m (pc + 3) ls (.int (if x < y then y else x) :: rest))) : W p l e R s m args below meth c H locs cells slots Q (F0 m pc ls (.int y :: .int x :: rest)) :=
  va_mmax C.1 C.2.1 (C.2.2.1.trans hls.symm) C.2.2.2.1 (C.2.2.2.2.1 _ (hw _ (List.mem_of_getElem? (i := 0) rfl))) (C.2.2.2.2.1 _ (hw _ (List.mem_of_getElem? (i := 1) rfl))) (C.2.2.2.2.1 _ (hw _ (List.mem_of_getElem? (i := 2) rfl))) (C.2.2.2.2.1 _ (hw _ (List.mem_of_getElem? (i := 3) rfl))) hf hlo hcs.1 hcs.2 hd kk
theorem cp_X (C : CX g A p s m args meth c cc nL own) {index : Nat} {n : Int32} {n0 k0 k1 : Nat} (hw : ∀ w ∈ ([.methodLink own index arraycopyName, .native arraycopyName, .static arraycopyName, .initialized "java/lang/System"] : List Cond), w ∈ tb) (hP : va_P g.1 vwCl (wX g σ) H) (hS : va_S A s.heap H locs) (q0 q1 : Nat) (ha0 : (wX g σ)[q0]? = some (g.2.2 k0, .inl (g.2.1 0, n0, .inl (σ k0)))) (ha1 : (wX g σ)[q1]? = some (g.2.2 k1, .inl (g.2.1 0, n0, .inl (σ k1)))) (hn : ¬ n < 0) (hn0 : n.toNatClampNeg = n0) (hls : ls.size = nL) (hf : 1 ≤ R.frames) (hlo : (rest.map fun v => v.category).sum + (nativeFrameWords "java/lang/System" "arraycopy" 5 + 11) ≤ R.locals) (hd : decode cc pc = .ok (.invokestatic index, 3)) (he : (wX g σ).set q1 (g.2.2 k1, .inl (g.2.1 0, n0, .inl (va_cpy (σ k0) (σ k1) 0 0 n0))) = wX g (pa σ k1 (va_cpy (σ k0) (σ k1) 0 0 n0)))
    (kk : ∀ (H1 : Heap) (locs1 : List Loc), va_P g.1 vwCl (wX g (pa σ k1 (va_cpy (σ k0) (σ k1) 0 0 n0))) H1 → va_S A s.heap H1 locs1 → W p l e R s m args below meth c H1 locs1 cells slots Q (F0 m (pc + 3) ls rest)) : W p l e R s m args below meth c H locs cells slots Q (F0 m pc ls (.int n :: .int (0 : Int32) :: .ref (g.2.2 k1) :: .int (0 : Int32) :: .ref (g.2.2 k0) :: rest)) := by
  have z : (0 : Int32).toNatClampNeg = 0 := by decide
  refine va_copyi (ty := .int) C.1 C.2.1 (C.2.2.1.trans hls.symm) C.2.2.2.1 (C.2.2.2.2.1 _ (hw _ (List.mem_of_getElem? (i := 0) rfl))) (C.2.2.2.2.1 _ (hw _ (List.mem_of_getElem? (i := 1) rfl))) (C.2.2.2.2.1 _ (hw _ (List.mem_of_getElem? (i := 2) rfl))) (C.2.2.2.2.1 _ (hw _ (List.mem_of_getElem? (i := 3) rfl))) C.2.2.2.2.2.1 hP C.D hS q0 q1 0 0 ha0 ha1 rfl rfl rfl (by decide) (by decide) hn (by rw [z, hn0]; omega) (by rw [z, hn0]; omega) (fun i _ => rfl) hf hlo hd (fun H1 locs1 h1 _ h3 => kk H1 locs1 ?_ h3)
  rw [z, hn0, he] at h1
  exact h1
theorem st_2 {i : Nat} {x : Int32} : (wX g σ).set 2 (g.2.2 2, .inl (g.2.1 0, 12, .inl (upd (σ 2) i x))) = wX g (pt σ 2 i x) := rfl
theorem st_9 {i : Nat} {x : Int32} : (wX g σ).set 9 (g.2.2 9, .inl (g.2.1 0, 5, .inl (upd (σ 9) i x))) = wX g (pt σ 9 i x) := rfl
theorem st_11 {i : Nat} {x : Int32} : (wX g σ).set 11 (g.2.2 11, .inl (g.2.1 0, 3, .inl (upd (σ 11) i x))) = wX g (pt σ 11 i x) := rfl
theorem st_12 {i : Nat} {x : Int32} : (wX g σ).set 12 (g.2.2 12, .inl (g.2.1 0, 12, .inl (upd (σ 12) i x))) = wX g (pt σ 12 i x) := rfl
theorem st_13 {i : Nat} {x : Int32} : (wX g σ).set 13 (g.2.2 13, .inl (g.2.1 0, 12, .inl (upd (σ 13) i x))) = wX g (pt σ 13 i x) := rfl
theorem st_14 {i : Nat} {x : Int32} : (wX g σ).set 14 (g.2.2 14, .inl (g.2.1 0, 12, .inl (upd (σ 14) i x))) = wX g (pt σ 14 i x) := rfl
theorem st_16 {i : Nat} {x : Int32} : (wX g σ).set 16 (g.2.2 16, .inl (g.2.1 0, 3, .inl (upd (σ 16) i x))) = wX g (pt σ 16 i x) := rfl
theorem st_17 {i : Nat} {x : Int32} : (wX g σ).set 17 (g.2.2 17, .inl (g.2.1 0, 12, .inl (upd (σ 17) i x))) = wX g (pt σ 17 i x) := rfl
theorem st_18 {i : Nat} {x : Int32} : (wX g σ).set 18 (g.2.2 18, .inl (g.2.1 0, 12, .inl (upd (σ 18) i x))) = wX g (pt σ 18 i x) := rfl
theorem st_19 {i : Nat} {x : Int32} : (wX g σ).set 19 (g.2.2 19, .inl (g.2.1 0, 12, .inl (upd (σ 19) i x))) = wX g (pt σ 19 i x) := rfl
theorem st_21 {i : Nat} {x : Int32} : (wX g σ).set 21 (g.2.2 21, .inl (g.2.1 0, 216, .inl (upd (σ 21) i x))) = wX g (pt σ 21 i x) := rfl
theorem st_22 {i : Nat} {x : Int32} : (wX g σ).set 22 (g.2.2 22, .inl (g.2.1 0, 216, .inl (upd (σ 22) i x))) = wX g (pt σ 22 i x) := rfl
theorem st_23 {i : Nat} {x : Int32} : (wX g σ).set 23 (g.2.2 23, .inl (g.2.1 0, 216, .inl (upd (σ 23) i x))) = wX g (pt σ 23 i x) := rfl
theorem st_25 {i : Nat} {x : Int32} : (wX g σ).set 25 (g.2.2 25, .inl (g.2.1 0, 216, .inl (upd (σ 25) i x))) = wX g (pt σ 25 i x) := rfl
theorem st_26 {i : Nat} {x : Int32} : (wX g σ).set 26 (g.2.2 26, .inl (g.2.1 1, 216, .inl (upd (σ 26) i x))) = wX g (pt σ 26 i x) := rfl
theorem st_27 {i : Nat} {x : Int32} : (wX g σ).set 27 (g.2.2 27, .inl (g.2.1 0, 31, .inl (upd (σ 27) i x))) = wX g (pt σ 27 i x) := rfl
theorem st_29 {i : Nat} {x : Int32} : (wX g σ).set 29 (g.2.2 29, .inl (g.2.1 0, 961, .inl (upd (σ 29) i x))) = wX g (pt σ 29 i x) := rfl
theorem st_32 {i : Nat} {x : Int32} : (wM g h σ).set 1 (g.2.2 32, .inl (g.2.1 0, 12, .inl (upd (σ 32) i x))) = wM g h (pt σ 32 i x) := rfl
theorem st_33 {i : Nat} {x : Int32} : (wM g h σ).set 2 (g.2.2 33, .inl (g.2.1 0, 3, .inl (upd (σ 33) i x))) = wM g h (pt σ 33 i x) := rfl
theorem st_34 {i : Nat} {x : Int32} : (wM g h σ).set 3 (g.2.2 34, .inl (g.2.1 0, 36, .inl (upd (σ 34) i x))) = wM g h (pt σ 34 i x) := rfl
theorem st_35 {i : Nat} {x : Int32} : (wM g h σ).set 4 (g.2.2 35, .inl (g.2.1 0, 216, .inl (upd (σ 35) i x))) = wM g h (pt σ 35 i x) := rfl
theorem st_36 {i : Nat} {x : Int32} : (wM g h σ).set 5 (g.2.2 36, .inl (g.2.1 0, 41, .inl (upd (σ 36) i x))) = wM g h (pt σ 36 i x) := rfl
theorem st_37 {i : Nat} {x : Int32} : (wM g h σ).set 6 (g.2.2 37, .inl (g.2.1 0, 4096, .inl (upd (σ 37) i x))) = wM g h (pt σ 37 i x) := rfl
theorem st_38 {i : Nat} {x : Int32} : (wM g h σ).set 7 (g.2.2 38, .inl (g.2.1 0, 4096, .inl (upd (σ 38) i x))) = wM g h (pt σ 38 i x) := rfl
theorem st_39 {i : Nat} {x : Int32} : (wM g h σ).set 8 (g.2.2 39, .inl (g.2.1 0, 3, .inl (upd (σ 39) i x))) = wM g h (pt σ 39 i x) := rfl
theorem st_40 {i : Nat} {x : Int32} : (wM g h σ).set 9 (g.2.2 40, .inl (g.2.1 0, 36, .inl (upd (σ 40) i x))) = wM g h (pt σ 40 i x) := rfl
theorem io_1 (C : CX g A p s m args meth c cc nL RX11) {k : Nat} (hk : k < 5) (hP : va_P g.1 vwCl (wX g σ) H) (hd : decode cc pc = .ok (.instanceof 19, 3)) (kk : W p l e R s m args below meth c H locs cells slots Q (F0 m (pc + 3) ls (.int (inK 1 k) :: rest))) : W p l e R s m args below meth c H locs cells slots Q (F0 m pc ls (.ref (g.2.2 (4 + k)) :: rest)) := by
  have hl := C.2.2.2.2.1 (.classLink RX11 19 RX7) (tb_in 110 (by decide +kernel) (by decide +kernel))
  rcases (show k = 0 ∨ k = 1 ∨ k = 2 ∨ k = 3 ∨ k = 4 by omega) with rfl | rfl | rfl | rfl | rfl
  · exact va_instNo C.1 C.2.1 C.2.2.2.1 hl (C.2.2.2.2.2.2.2.2.2.2.2.2.2.2 (RX2, RX7) (by decide +kernel)) (va_recv C.2.2.2.2.2.1 hP (ci := 2) (q0 := 4) rfl rfl) hd kk
  · exact va_instE C.1 C.2.1 C.2.2.2.1 hl (va_recv C.2.2.2.2.2.1 hP (ci := 7) (q0 := 5) rfl rfl) hd kk
  · exact va_instNo C.1 C.2.1 C.2.2.2.1 hl (C.2.2.2.2.2.2.2.2.2.2.2.2.2.2 (RX8, RX7) (by decide +kernel)) (va_recv C.2.2.2.2.2.1 hP (ci := 8) (q0 := 6) rfl rfl) hd kk
  · exact va_instNo C.1 C.2.1 C.2.2.2.1 hl (C.2.2.2.2.2.2.2.2.2.2.2.2.2.2 (RX10, RX7) (by decide +kernel)) (va_recv C.2.2.2.2.2.1 hP (ci := 10) (q0 := 7) rfl rfl) hd kk
  · exact va_instY C.1 C.2.1 C.2.2.2.1 hl C.2.2.2.2.2.2.2.2.2.2.2.2.2.1 (va_recv C.2.2.2.2.2.1 hP (ci := 1) (q0 := 8) rfl rfl) hd kk
theorem io_2 (C : CX g A p s m args meth c cc nL RX11) {k : Nat} (hk : k < 5) (hP : va_P g.1 vwCl (wX g σ) H) (hd : decode cc pc = .ok (.instanceof 22, 3)) (kk : W p l e R s m args below meth c H locs cells slots Q (F0 m (pc + 3) ls (.int (inK 2 k) :: rest))) : W p l e R s m args below meth c H locs cells slots Q (F0 m pc ls (.ref (g.2.2 (4 + k)) :: rest)) := by
  have hl := C.2.2.2.2.1 (.classLink RX11 22 RX8) (tb_in 117 (by decide +kernel) (by decide +kernel))
  rcases (show k = 0 ∨ k = 1 ∨ k = 2 ∨ k = 3 ∨ k = 4 by omega) with rfl | rfl | rfl | rfl | rfl
  · exact va_instNo C.1 C.2.1 C.2.2.2.1 hl (C.2.2.2.2.2.2.2.2.2.2.2.2.2.2 (RX2, RX8) (by decide +kernel)) (va_recv C.2.2.2.2.2.1 hP (ci := 2) (q0 := 4) rfl rfl) hd kk
  · exact va_instNo C.1 C.2.1 C.2.2.2.1 hl (C.2.2.2.2.2.2.2.2.2.2.2.2.2.2 (RX7, RX8) (by decide +kernel)) (va_recv C.2.2.2.2.2.1 hP (ci := 7) (q0 := 5) rfl rfl) hd kk
  · exact va_instE C.1 C.2.1 C.2.2.2.1 hl (va_recv C.2.2.2.2.2.1 hP (ci := 8) (q0 := 6) rfl rfl) hd kk
  · exact va_instNo C.1 C.2.1 C.2.2.2.1 hl (C.2.2.2.2.2.2.2.2.2.2.2.2.2.2 (RX10, RX8) (by decide +kernel)) (va_recv C.2.2.2.2.2.1 hP (ci := 10) (q0 := 7) rfl rfl) hd kk
  · exact va_instNo C.1 C.2.1 C.2.2.2.1 hl (C.2.2.2.2.2.2.2.2.2.2.2.2.2.2 (RX1, RX8) (by decide +kernel)) (va_recv C.2.2.2.2.2.1 hP (ci := 1) (q0 := 8) rfl rfl) hd kk
theorem io_3 (C : CX g A p s m args meth c cc nL RX11) {k : Nat} (hk : k < 5) (hP : va_P g.1 vwCl (wX g σ) H) (hd : decode cc pc = .ok (.instanceof 25, 3)) (kk : W p l e R s m args below meth c H locs cells slots Q (F0 m (pc + 3) ls (.int (inK 3 k) :: rest))) : W p l e R s m args below meth c H locs cells slots Q (F0 m pc ls (.ref (g.2.2 (4 + k)) :: rest)) := by
  have hl := C.2.2.2.2.1 (.classLink RX11 25 RX10) (tb_in 124 (by decide +kernel) (by decide +kernel))
  rcases (show k = 0 ∨ k = 1 ∨ k = 2 ∨ k = 3 ∨ k = 4 by omega) with rfl | rfl | rfl | rfl | rfl
  · exact va_instNo C.1 C.2.1 C.2.2.2.1 hl (C.2.2.2.2.2.2.2.2.2.2.2.2.2.2 (RX2, RX10) (by decide +kernel)) (va_recv C.2.2.2.2.2.1 hP (ci := 2) (q0 := 4) rfl rfl) hd kk
  · exact va_instNo C.1 C.2.1 C.2.2.2.1 hl (C.2.2.2.2.2.2.2.2.2.2.2.2.2.2 (RX7, RX10) (by decide +kernel)) (va_recv C.2.2.2.2.2.1 hP (ci := 7) (q0 := 5) rfl rfl) hd kk
  · exact va_instNo C.1 C.2.1 C.2.2.2.1 hl (C.2.2.2.2.2.2.2.2.2.2.2.2.2.2 (RX8, RX10) (by decide +kernel)) (va_recv C.2.2.2.2.2.1 hP (ci := 8) (q0 := 6) rfl rfl) hd kk
  · exact va_instE C.1 C.2.1 C.2.2.2.1 hl (va_recv C.2.2.2.2.2.1 hP (ci := 10) (q0 := 7) rfl rfl) hd kk
  · exact va_instNo C.1 C.2.1 C.2.2.2.1 hl (C.2.2.2.2.2.2.2.2.2.2.2.2.2.2 (RX1, RX10) (by decide +kernel)) (va_recv C.2.2.2.2.2.1 hP (ci := 1) (q0 := 8) rfl rfl) hd kk
theorem io_4 (C : CX g A p s m args meth c cc nL RX11) {k : Nat} (hk : k < 5) (hP : va_P g.1 vwCl (wX g σ) H) (hd : decode cc pc = .ok (.instanceof 28, 3)) (kk : W p l e R s m args below meth c H locs cells slots Q (F0 m (pc + 3) ls (.int (inK 4 k) :: rest))) : W p l e R s m args below meth c H locs cells slots Q (F0 m pc ls (.ref (g.2.2 (4 + k)) :: rest)) := by
  have hl := C.2.2.2.2.1 (.classLink RX11 28 RX1) (tb_in 131 (by decide +kernel) (by decide +kernel))
  rcases (show k = 0 ∨ k = 1 ∨ k = 2 ∨ k = 3 ∨ k = 4 by omega) with rfl | rfl | rfl | rfl | rfl
  · exact va_instNo C.1 C.2.1 C.2.2.2.1 hl (C.2.2.2.2.2.2.2.2.2.2.2.2.2.2 (RX2, RX1) (by decide +kernel)) (va_recv C.2.2.2.2.2.1 hP (ci := 2) (q0 := 4) rfl rfl) hd kk
  · exact va_instNo C.1 C.2.1 C.2.2.2.1 hl (C.2.2.2.2.2.2.2.2.2.2.2.2.2.2 (RX7, RX1) (by decide +kernel)) (va_recv C.2.2.2.2.2.1 hP (ci := 7) (q0 := 5) rfl rfl) hd kk
  · exact va_instNo C.1 C.2.1 C.2.2.2.1 hl (C.2.2.2.2.2.2.2.2.2.2.2.2.2.2 (RX8, RX1) (by decide +kernel)) (va_recv C.2.2.2.2.2.1 hP (ci := 8) (q0 := 6) rfl rfl) hd kk
  · exact va_instNo C.1 C.2.1 C.2.2.2.1 hl (C.2.2.2.2.2.2.2.2.2.2.2.2.2.2 (RX10, RX1) (by decide +kernel)) (va_recv C.2.2.2.2.2.1 hP (ci := 10) (q0 := 7) rfl rfl) hd kk
  · exact va_instE C.1 C.2.1 C.2.2.2.1 hl (va_recv C.2.2.2.2.2.1 hP (ci := 1) (q0 := 8) rfl rfl) hd kk
end SPE
end
section
theorem kw_X0_28 : ∀ w ∈ ([.methodLink RX0 28 arraycopyName, .native arraycopyName, .static arraycopyName, .initialized "java/lang/System"] : List Cond), w ∈ tb := List.forall_mem_cons.mpr ⟨tb_in 748 (by decide +kernel) (by decide +kernel), List.forall_mem_cons.mpr ⟨tb_in 750 (by decide +kernel) (by decide +kernel), List.forall_mem_cons.mpr ⟨tb_in 749 (by decide +kernel) (by decide +kernel), List.forall_mem_cons.mpr ⟨tb_in 77 (by decide +kernel) (by decide +kernel), fun _ h => absurd h List.not_mem_nil⟩⟩⟩⟩
theorem ks_J6_bitCount_0f7a4 : yJ6_bitCount_0f7a4.cls ≠ "java/lang/invoke/MethodHandle" ∧ yJ6_bitCount_0f7a4.cls ≠ "java/lang/invoke/VarHandle" ∧ (parseMethodDescriptor yJ6_bitCount_0f7a4.desc).map (fun d => d.parameters.length) = some 1 := by decide +kernel
theorem kw_X6_42 : ∀ w ∈ ([.methodLink RX6 42 yJ6_bitCount_0f7a4, .static yJ6_bitCount_0f7a4, .initialized yJ6_bitCount_0f7a4.cls, Cond.code yJ6_bitCount_0f7a4 cJ6_bitCount_0f7a4 1 (some .int)] : List Cond), w ∈ tb := List.forall_mem_cons.mpr ⟨tb_in 519 (by decide +kernel) (by decide +kernel), List.forall_mem_cons.mpr ⟨tb_in 520 (by decide +kernel) (by decide +kernel), List.forall_mem_cons.mpr ⟨tb_in 76 (by decide +kernel) (by decide +kernel), List.forall_mem_cons.mpr ⟨tb_in 521 (by decide +kernel) (by decide +kernel), fun _ h => absurd h List.not_mem_nil⟩⟩⟩⟩
theorem kv_X6_rightFromOtherEnd : yX6_rightFromOtherEnd.cls = RX6 ∧ yX6_rightFromOtherEnd.cls ≠ "java/lang/invoke/MethodHandle" ∧ yX6_rightFromOtherEnd.cls ≠ "java/lang/invoke/VarHandle" ∧ (parseMethodDescriptor yX6_rightFromOtherEnd.desc).map (fun d => d.parameters.length) = some 2 := by decide +kernel
theorem kw_X10_7 : ∀ w ∈ ([.methodLink RX10 7 yX6_rightFromOtherEnd, .instanceMethod yX6_rightFromOtherEnd, .selects RX6 yX6_rightFromOtherEnd yX6_rightFromOtherEnd, .initialized RX6, Cond.code yX6_rightFromOtherEnd cX6_rightFromOtherEnd 3 (some .int)] : List Cond), w ∈ tb := List.forall_mem_cons.mpr ⟨tb_in 539 (by decide +kernel) (by decide +kernel), List.forall_mem_cons.mpr ⟨tb_in 540 (by decide +kernel) (by decide +kernel), List.forall_mem_cons.mpr ⟨tb_in 541 (by decide +kernel) (by decide +kernel), List.forall_mem_cons.mpr ⟨tb_in 65 (by decide +kernel) (by decide +kernel), List.forall_mem_cons.mpr ⟨tb_in 542 (by decide +kernel) (by decide +kernel), fun _ h => absurd h List.not_mem_nil⟩⟩⟩⟩⟩
theorem kv_X6_alike : yX6_alike.cls = RX6 ∧ yX6_alike.cls ≠ "java/lang/invoke/MethodHandle" ∧ yX6_alike.cls ≠ "java/lang/invoke/VarHandle" ∧ (parseMethodDescriptor yX6_alike.desc).map (fun d => d.parameters.length) = some 2 := by decide +kernel
theorem kw_X10_13 : ∀ w ∈ ([.methodLink RX10 13 yX6_alike, .instanceMethod yX6_alike, .selects RX6 yX6_alike yX6_alike, .initialized RX6, Cond.code yX6_alike cX6_alike 3 (some .int)] : List Cond), w ∈ tb := List.forall_mem_cons.mpr ⟨tb_in 543 (by decide +kernel) (by decide +kernel), List.forall_mem_cons.mpr ⟨tb_in 516 (by decide +kernel) (by decide +kernel), List.forall_mem_cons.mpr ⟨tb_in 517 (by decide +kernel) (by decide +kernel), List.forall_mem_cons.mpr ⟨tb_in 65 (by decide +kernel) (by decide +kernel), List.forall_mem_cons.mpr ⟨tb_in 518 (by decide +kernel) (by decide +kernel), fun _ h => absurd h List.not_mem_nil⟩⟩⟩⟩⟩
theorem kv_X11_isJudge : yX11_isJudge.cls = RX11 ∧ yX11_isJudge.cls ≠ "java/lang/invoke/MethodHandle" ∧ yX11_isJudge.cls ≠ "java/lang/invoke/VarHandle" ∧ (parseMethodDescriptor yX11_isJudge.desc).map (fun d => d.parameters.length) = some 1 := by decide +kernel
theorem kw_X11_134 : ∀ w ∈ ([.methodLink RX11 134 yX11_isJudge, .instanceMethod yX11_isJudge, .selects RX11 yX11_isJudge yX11_isJudge, .initialized RX11, Cond.code yX11_isJudge cX11_isJudge 2 (some .boolean)] : List Cond), w ∈ tb := List.forall_mem_cons.mpr ⟨tb_in 492 (by decide +kernel) (by decide +kernel), List.forall_mem_cons.mpr ⟨tb_in 494 (by decide +kernel) (by decide +kernel), List.forall_mem_cons.mpr ⟨tb_in 3 (by decide +kernel) (by decide +kernel), List.forall_mem_cons.mpr ⟨tb_in 57 (by decide +kernel) (by decide +kernel), List.forall_mem_cons.mpr ⟨tb_in 495 (by decide +kernel) (by decide +kernel), fun _ h => absurd h List.not_mem_nil⟩⟩⟩⟩⟩
theorem ks_X11_isKind : yX11_isKind.cls ≠ "java/lang/invoke/MethodHandle" ∧ yX11_isKind.cls ≠ "java/lang/invoke/VarHandle" ∧ (parseMethodDescriptor yX11_isKind.desc).map (fun d => d.parameters.length) = some 1 := by decide +kernel
theorem kw_X11_155 : ∀ w ∈ ([.methodLink RX11 155 yX11_isKind, .static yX11_isKind, .initialized yX11_isKind.cls, Cond.code yX11_isKind cX11_isKind 1 (some .boolean)] : List Cond), w ∈ tb := List.forall_mem_cons.mpr ⟨tb_in 578 (by decide +kernel) (by decide +kernel), List.forall_mem_cons.mpr ⟨tb_in 579 (by decide +kernel) (by decide +kernel), List.forall_mem_cons.mpr ⟨tb_in 57 (by decide +kernel) (by decide +kernel), List.forall_mem_cons.mpr ⟨tb_in 580 (by decide +kernel) (by decide +kernel), fun _ h => absurd h List.not_mem_nil⟩⟩⟩⟩
theorem kv_X11_judgeAt : yX11_judgeAt.cls = RX11 ∧ yX11_judgeAt.cls ≠ "java/lang/invoke/MethodHandle" ∧ yX11_judgeAt.cls ≠ "java/lang/invoke/VarHandle" ∧ (parseMethodDescriptor yX11_judgeAt.desc).map (fun d => d.parameters.length) = some 1 := by decide +kernel
theorem kw_X11_147 : ∀ w ∈ ([.methodLink RX11 147 yX11_judgeAt, .instanceMethod yX11_judgeAt, .selects RX11 yX11_judgeAt yX11_judgeAt, .initialized RX11, Cond.code yX11_judgeAt cX11_judgeAt 2 (some (.object "JudgedRows$Judge"))] : List Cond), w ∈ tb := List.forall_mem_cons.mpr ⟨tb_in 561 (by decide +kernel) (by decide +kernel), List.forall_mem_cons.mpr ⟨tb_in 563 (by decide +kernel) (by decide +kernel), List.forall_mem_cons.mpr ⟨tb_in 8 (by decide +kernel) (by decide +kernel), List.forall_mem_cons.mpr ⟨tb_in 57 (by decide +kernel) (by decide +kernel), List.forall_mem_cons.mpr ⟨tb_in 564 (by decide +kernel) (by decide +kernel), fun _ h => absurd h List.not_mem_nil⟩⟩⟩⟩⟩
theorem ks_X11_isOf : yX11_isOf.cls ≠ "java/lang/invoke/MethodHandle" ∧ yX11_isOf.cls ≠ "java/lang/invoke/VarHandle" ∧ (parseMethodDescriptor yX11_isOf.desc).map (fun d => d.parameters.length) = some 2 := by decide +kernel
theorem kw_X11_158 : ∀ w ∈ ([.methodLink RX11 158 yX11_isOf, .static yX11_isOf, .initialized yX11_isOf.cls, Cond.code yX11_isOf cX11_isOf 2 (some .boolean)] : List Cond), w ∈ tb := List.forall_mem_cons.mpr ⟨tb_in 581 (by decide +kernel) (by decide +kernel), List.forall_mem_cons.mpr ⟨tb_in 582 (by decide +kernel) (by decide +kernel), List.forall_mem_cons.mpr ⟨tb_in 57 (by decide +kernel) (by decide +kernel), List.forall_mem_cons.mpr ⟨tb_in 583 (by decide +kernel) (by decide +kernel), fun _ h => absurd h List.not_mem_nil⟩⟩⟩⟩
theorem kv_X6_right : yX6_right.cls = RX6 ∧ yX6_right.cls ≠ "java/lang/invoke/MethodHandle" ∧ yX6_right.cls ≠ "java/lang/invoke/VarHandle" ∧ (parseMethodDescriptor yX6_right.desc).map (fun d => d.parameters.length) = some 2 := by decide +kernel
theorem kw_X2_7 : ∀ w ∈ ([.methodLink RX2 7 yX6_right, .instanceMethod yX6_right, .selects RX6 yX6_right yX6_right, .initialized RX6, Cond.code yX6_right cX6_right 3 (some .int)] : List Cond), w ∈ tb := List.forall_mem_cons.mpr ⟨tb_in 549 (by decide +kernel) (by decide +kernel), List.forall_mem_cons.mpr ⟨tb_in 533 (by decide +kernel) (by decide +kernel), List.forall_mem_cons.mpr ⟨tb_in 534 (by decide +kernel) (by decide +kernel), List.forall_mem_cons.mpr ⟨tb_in 65 (by decide +kernel) (by decide +kernel), List.forall_mem_cons.mpr ⟨tb_in 535 (by decide +kernel) (by decide +kernel), fun _ h => absurd h List.not_mem_nil⟩⟩⟩⟩⟩
theorem kw_X2_13 : ∀ w ∈ ([.methodLink RX2 13 yX6_alike, .instanceMethod yX6_alike, .selects RX6 yX6_alike yX6_alike, .initialized RX6, Cond.code yX6_alike cX6_alike 3 (some .int)] : List Cond), w ∈ tb := List.forall_mem_cons.mpr ⟨tb_in 550 (by decide +kernel) (by decide +kernel), List.forall_mem_cons.mpr ⟨tb_in 516 (by decide +kernel) (by decide +kernel), List.forall_mem_cons.mpr ⟨tb_in 517 (by decide +kernel) (by decide +kernel), List.forall_mem_cons.mpr ⟨tb_in 65 (by decide +kernel) (by decide +kernel), List.forall_mem_cons.mpr ⟨tb_in 518 (by decide +kernel) (by decide +kernel), fun _ h => absurd h List.not_mem_nil⟩⟩⟩⟩⟩
theorem ks_X2_plainWord : yX2_plainWord.cls ≠ "java/lang/invoke/MethodHandle" ∧ yX2_plainWord.cls ≠ "java/lang/invoke/VarHandle" ∧ (parseMethodDescriptor yX2_plainWord.desc).map (fun d => d.parameters.length) = some 2 := by decide +kernel
theorem kw_X2_16 : ∀ w ∈ ([.methodLink RX2 16 yX2_plainWord, .static yX2_plainWord, .initialized yX2_plainWord.cls, Cond.code yX2_plainWord cX2_plainWord 2 (some .int)] : List Cond), w ∈ tb := List.forall_mem_cons.mpr ⟨tb_in 551 (by decide +kernel) (by decide +kernel), List.forall_mem_cons.mpr ⟨tb_in 546 (by decide +kernel) (by decide +kernel), List.forall_mem_cons.mpr ⟨tb_in 59 (by decide +kernel) (by decide +kernel), List.forall_mem_cons.mpr ⟨tb_in 547 (by decide +kernel) (by decide +kernel), fun _ h => absurd h List.not_mem_nil⟩⟩⟩⟩
theorem kw_X7_7 : ∀ w ∈ ([.methodLink RX7 7 yX6_alike, .instanceMethod yX6_alike, .selects RX6 yX6_alike yX6_alike, .initialized RX6, Cond.code yX6_alike cX6_alike 3 (some .int)] : List Cond), w ∈ tb := List.forall_mem_cons.mpr ⟨tb_in 528 (by decide +kernel) (by decide +kernel), List.forall_mem_cons.mpr ⟨tb_in 516 (by decide +kernel) (by decide +kernel), List.forall_mem_cons.mpr ⟨tb_in 517 (by decide +kernel) (by decide +kernel), List.forall_mem_cons.mpr ⟨tb_in 65 (by decide +kernel) (by decide +kernel), List.forall_mem_cons.mpr ⟨tb_in 518 (by decide +kernel) (by decide +kernel), fun _ h => absurd h List.not_mem_nil⟩⟩⟩⟩⟩
theorem kw_X8_7 : ∀ w ∈ ([.methodLink RX8 7 yX6_right, .instanceMethod yX6_right, .selects RX6 yX6_right yX6_right, .initialized RX6, Cond.code yX6_right cX6_right 3 (some .int)] : List Cond), w ∈ tb := List.forall_mem_cons.mpr ⟨tb_in 532 (by decide +kernel) (by decide +kernel), List.forall_mem_cons.mpr ⟨tb_in 533 (by decide +kernel) (by decide +kernel), List.forall_mem_cons.mpr ⟨tb_in 534 (by decide +kernel) (by decide +kernel), List.forall_mem_cons.mpr ⟨tb_in 65 (by decide +kernel) (by decide +kernel), List.forall_mem_cons.mpr ⟨tb_in 535 (by decide +kernel) (by decide +kernel), fun _ h => absurd h List.not_mem_nil⟩⟩⟩⟩⟩
theorem kw_X1_7 : ∀ w ∈ ([.methodLink RX1 7 yX6_alike, .instanceMethod yX6_alike, .selects RX6 yX6_alike yX6_alike, .initialized RX6, Cond.code yX6_alike cX6_alike 3 (some .int)] : List Cond), w ∈ tb := List.forall_mem_cons.mpr ⟨tb_in 515 (by decide +kernel) (by decide +kernel), List.forall_mem_cons.mpr ⟨tb_in 516 (by decide +kernel) (by decide +kernel), List.forall_mem_cons.mpr ⟨tb_in 517 (by decide +kernel) (by decide +kernel), List.forall_mem_cons.mpr ⟨tb_in 65 (by decide +kernel) (by decide +kernel), List.forall_mem_cons.mpr ⟨tb_in 518 (by decide +kernel) (by decide +kernel), fun _ h => absurd h List.not_mem_nil⟩⟩⟩⟩⟩
theorem kw_X5_33_X2 : ∀ w ∈ ([.methodLink RX5 33 yX2_word, .instanceMethod yX2_word, .selects RX2 yX2_word yX2_word, .initialized RX2, Cond.code yX2_word cX2_word 4 (some .int)] : List Cond), w ∈ tb := List.forall_mem_cons.mpr ⟨tb_in 629 (by decide +kernel) (by decide +kernel), List.forall_mem_cons.mpr ⟨tb_in 509 (by decide +kernel) (by decide +kernel), List.forall_mem_cons.mpr ⟨tb_in 510 (by decide +kernel) (by decide +kernel), List.forall_mem_cons.mpr ⟨tb_in 59 (by decide +kernel) (by decide +kernel), List.forall_mem_cons.mpr ⟨tb_in 548 (by decide +kernel) (by decide +kernel), fun _ h => absurd h List.not_mem_nil⟩⟩⟩⟩⟩
theorem kw_X5_33_X7 : ∀ w ∈ ([.methodLink RX5 33 yX2_word, .sameMethod yX2_word.cls RX2 yX2_word.name yX2_word.desc, .instanceMethod ⟨RX2, yX2_word.name, yX2_word.desc⟩, .selects RX7 yX2_word yX7_word, .instanceMethod yX7_word, .initialized yX7_word.cls, Cond.code yX7_word cX7_word 4 (some .int), Cond.code ⟨RX2, yX2_word.name, yX2_word.desc⟩ cX2_word 4 (some .int)] : List Cond), w ∈ tb := List.forall_mem_cons.mpr ⟨tb_in 629 (by decide +kernel) (by decide +kernel), List.forall_mem_cons.mpr ⟨tb_in 511 (by decide +kernel) (by decide +kernel), List.forall_mem_cons.mpr ⟨tb_in 509 (by decide +kernel) (by decide +kernel), List.forall_mem_cons.mpr ⟨tb_in 525 (by decide +kernel) (by decide +kernel), List.forall_mem_cons.mpr ⟨tb_in 526 (by decide +kernel) (by decide +kernel), List.forall_mem_cons.mpr ⟨tb_in 60 (by decide +kernel) (by decide +kernel), List.forall_mem_cons.mpr ⟨tb_in 527 (by decide +kernel) (by decide +kernel), List.forall_mem_cons.mpr ⟨tb_in 548 (by decide +kernel) (by decide +kernel), fun _ h => absurd h List.not_mem_nil⟩⟩⟩⟩⟩⟩⟩⟩
theorem kw_X5_33_X8 : ∀ w ∈ ([.methodLink RX5 33 yX2_word, .sameMethod yX2_word.cls RX2 yX2_word.name yX2_word.desc, .instanceMethod ⟨RX2, yX2_word.name, yX2_word.desc⟩, .selects RX8 yX2_word yX8_word, .instanceMethod yX8_word, .initialized yX8_word.cls, Cond.code yX8_word cX8_word 4 (some .int), Cond.code ⟨RX2, yX2_word.name, yX2_word.desc⟩ cX2_word 4 (some .int)] : List Cond), w ∈ tb := List.forall_mem_cons.mpr ⟨tb_in 629 (by decide +kernel) (by decide +kernel), List.forall_mem_cons.mpr ⟨tb_in 511 (by decide +kernel) (by decide +kernel), List.forall_mem_cons.mpr ⟨tb_in 509 (by decide +kernel) (by decide +kernel), List.forall_mem_cons.mpr ⟨tb_in 529 (by decide +kernel) (by decide +kernel), List.forall_mem_cons.mpr ⟨tb_in 530 (by decide +kernel) (by decide +kernel), List.forall_mem_cons.mpr ⟨tb_in 61 (by decide +kernel) (by decide +kernel), List.forall_mem_cons.mpr ⟨tb_in 531 (by decide +kernel) (by decide +kernel), List.forall_mem_cons.mpr ⟨tb_in 548 (by decide +kernel) (by decide +kernel), fun _ h => absurd h List.not_mem_nil⟩⟩⟩⟩⟩⟩⟩⟩
theorem kw_X5_33_X10 : ∀ w ∈ ([.methodLink RX5 33 yX2_word, .sameMethod yX2_word.cls RX2 yX2_word.name yX2_word.desc, .instanceMethod ⟨RX2, yX2_word.name, yX2_word.desc⟩, .selects RX10 yX2_word yX10_word, .instanceMethod yX10_word, .initialized yX10_word.cls, Cond.code yX10_word cX10_word 4 (some .int), Cond.code ⟨RX2, yX2_word.name, yX2_word.desc⟩ cX2_word 4 (some .int)] : List Cond), w ∈ tb := List.forall_mem_cons.mpr ⟨tb_in 629 (by decide +kernel) (by decide +kernel), List.forall_mem_cons.mpr ⟨tb_in 511 (by decide +kernel) (by decide +kernel), List.forall_mem_cons.mpr ⟨tb_in 509 (by decide +kernel) (by decide +kernel), List.forall_mem_cons.mpr ⟨tb_in 536 (by decide +kernel) (by decide +kernel), List.forall_mem_cons.mpr ⟨tb_in 537 (by decide +kernel) (by decide +kernel), List.forall_mem_cons.mpr ⟨tb_in 62 (by decide +kernel) (by decide +kernel), List.forall_mem_cons.mpr ⟨tb_in 538 (by decide +kernel) (by decide +kernel), List.forall_mem_cons.mpr ⟨tb_in 548 (by decide +kernel) (by decide +kernel), fun _ h => absurd h List.not_mem_nil⟩⟩⟩⟩⟩⟩⟩⟩
theorem kw_X5_33_X1 : ∀ w ∈ ([.methodLink RX5 33 yX2_word, .sameMethod yX2_word.cls RX2 yX2_word.name yX2_word.desc, .instanceMethod ⟨RX2, yX2_word.name, yX2_word.desc⟩, .selects RX1 yX2_word yX1_word, .instanceMethod yX1_word, .initialized yX1_word.cls, Cond.code yX1_word cX1_word 4 (some .int), Cond.code ⟨RX2, yX2_word.name, yX2_word.desc⟩ cX2_word 4 (some .int)] : List Cond), w ∈ tb := List.forall_mem_cons.mpr ⟨tb_in 629 (by decide +kernel) (by decide +kernel), List.forall_mem_cons.mpr ⟨tb_in 511 (by decide +kernel) (by decide +kernel), List.forall_mem_cons.mpr ⟨tb_in 509 (by decide +kernel) (by decide +kernel), List.forall_mem_cons.mpr ⟨tb_in 512 (by decide +kernel) (by decide +kernel), List.forall_mem_cons.mpr ⟨tb_in 513 (by decide +kernel) (by decide +kernel), List.forall_mem_cons.mpr ⟨tb_in 63 (by decide +kernel) (by decide +kernel), List.forall_mem_cons.mpr ⟨tb_in 514 (by decide +kernel) (by decide +kernel), List.forall_mem_cons.mpr ⟨tb_in 548 (by decide +kernel) (by decide +kernel), fun _ h => absurd h List.not_mem_nil⟩⟩⟩⟩⟩⟩⟩⟩
theorem kv_X5_fill : yX5_fill.cls = RX5 ∧ yX5_fill.cls ≠ "java/lang/invoke/MethodHandle" ∧ yX5_fill.cls ≠ "java/lang/invoke/VarHandle" ∧ (parseMethodDescriptor yX5_fill.desc).map (fun d => d.parameters.length) = some 0 := by decide +kernel
theorem kw_X11_219 : ∀ w ∈ ([.methodLink RX11 219 yX5_fill, .instanceMethod yX5_fill, .selects RX5 yX5_fill yX5_fill, .initialized RX5, Cond.code yX5_fill cX5_fill 2 (none)] : List Cond), w ∈ tb := List.forall_mem_cons.mpr ⟨tb_in 621 (by decide +kernel) (by decide +kernel), List.forall_mem_cons.mpr ⟨tb_in 622 (by decide +kernel) (by decide +kernel), List.forall_mem_cons.mpr ⟨tb_in 623 (by decide +kernel) (by decide +kernel), List.forall_mem_cons.mpr ⟨tb_in 66 (by decide +kernel) (by decide +kernel), List.forall_mem_cons.mpr ⟨tb_in 624 (by decide +kernel) (by decide +kernel), fun _ h => absurd h List.not_mem_nil⟩⟩⟩⟩⟩
theorem kv_X5_keep : yX5_keep.cls = RX5 ∧ yX5_keep.cls ≠ "java/lang/invoke/MethodHandle" ∧ yX5_keep.cls ≠ "java/lang/invoke/VarHandle" ∧ (parseMethodDescriptor yX5_keep.desc).map (fun d => d.parameters.length) = some 3 := by decide +kernel
theorem kw_X11_227 : ∀ w ∈ ([.methodLink RX11 227 yX5_keep, .instanceMethod yX5_keep, .selects RX5 yX5_keep yX5_keep, .initialized RX5, Cond.code yX5_keep cX5_keep 7 (none)] : List Cond), w ∈ tb := List.forall_mem_cons.mpr ⟨tb_in 625 (by decide +kernel) (by decide +kernel), List.forall_mem_cons.mpr ⟨tb_in 626 (by decide +kernel) (by decide +kernel), List.forall_mem_cons.mpr ⟨tb_in 627 (by decide +kernel) (by decide +kernel), List.forall_mem_cons.mpr ⟨tb_in 66 (by decide +kernel) (by decide +kernel), List.forall_mem_cons.mpr ⟨tb_in 628 (by decide +kernel) (by decide +kernel), fun _ h => absurd h List.not_mem_nil⟩⟩⟩⟩⟩
theorem kv_X5_tally : yX5_tally.cls = RX5 ∧ yX5_tally.cls ≠ "java/lang/invoke/MethodHandle" ∧ yX5_tally.cls ≠ "java/lang/invoke/VarHandle" ∧ (parseMethodDescriptor yX5_tally.desc).map (fun d => d.parameters.length) = some 2 := by decide +kernel
theorem kw_X5_43 : ∀ w ∈ ([.methodLink RX5 43 yX5_tally, .instanceMethod yX5_tally, .selects RX5 yX5_tally yX5_tally, .initialized RX5, Cond.code yX5_tally cX5_tally 5 (none)] : List Cond), w ∈ tb := List.forall_mem_cons.mpr ⟨tb_in 670 (by decide +kernel) (by decide +kernel), List.forall_mem_cons.mpr ⟨tb_in 672 (by decide +kernel) (by decide +kernel), List.forall_mem_cons.mpr ⟨tb_in 13 (by decide +kernel) (by decide +kernel), List.forall_mem_cons.mpr ⟨tb_in 66 (by decide +kernel) (by decide +kernel), List.forall_mem_cons.mpr ⟨tb_in 673 (by decide +kernel) (by decide +kernel), fun _ h => absurd h List.not_mem_nil⟩⟩⟩⟩⟩
theorem kw_X5_47 : ∀ w ∈ ([.methodLink RX5 47 Lib.Math.max.name, .static Lib.Math.max.name, .initialized "java/lang/Math", Cond.code Lib.Math.max.name Lib.Math.max.code 2 (some .int)] : List Cond), w ∈ tb := List.forall_mem_cons.mpr ⟨tb_in 674 (by decide +kernel) (by decide +kernel), List.forall_mem_cons.mpr ⟨tb_in 392 (by decide +kernel) (by decide +kernel), List.forall_mem_cons.mpr ⟨tb_in 72 (by decide +kernel) (by decide +kernel), List.forall_mem_cons.mpr ⟨tb_in 393 (by decide +kernel) (by decide +kernel), fun _ h => absurd h List.not_mem_nil⟩⟩⟩⟩
theorem kv_X5_worst : yX5_worst.cls = RX5 ∧ yX5_worst.cls ≠ "java/lang/invoke/MethodHandle" ∧ yX5_worst.cls ≠ "java/lang/invoke/VarHandle" ∧ (parseMethodDescriptor yX5_worst.desc).map (fun d => d.parameters.length) = some 2 := by decide +kernel
theorem kw_X5_39 : ∀ w ∈ ([.methodLink RX5 39 yX5_worst, .instanceMethod yX5_worst, .selects RX5 yX5_worst yX5_worst, .initialized RX5, Cond.code yX5_worst cX5_worst 8 (some .int)] : List Cond), w ∈ tb := List.forall_mem_cons.mpr ⟨tb_in 666 (by decide +kernel) (by decide +kernel), List.forall_mem_cons.mpr ⟨tb_in 667 (by decide +kernel) (by decide +kernel), List.forall_mem_cons.mpr ⟨tb_in 668 (by decide +kernel) (by decide +kernel), List.forall_mem_cons.mpr ⟨tb_in 66 (by decide +kernel) (by decide +kernel), List.forall_mem_cons.mpr ⟨tb_in 669 (by decide +kernel) (by decide +kernel), fun _ h => absurd h List.not_mem_nil⟩⟩⟩⟩⟩
theorem kv_X11_gatherFitting : yX11_gatherFitting.cls = RX11 ∧ yX11_gatherFitting.cls ≠ "java/lang/invoke/MethodHandle" ∧ yX11_gatherFitting.cls ≠ "java/lang/invoke/VarHandle" ∧ (parseMethodDescriptor yX11_gatherFitting.desc).map (fun d => d.parameters.length) = some 0 := by decide +kernel
theorem kw_X11_190 : ∀ w ∈ ([.methodLink RX11 190 yX11_gatherFitting, .instanceMethod yX11_gatherFitting, .selects RX11 yX11_gatherFitting yX11_gatherFitting, .initialized RX11, Cond.code yX11_gatherFitting cX11_gatherFitting 2 (some .int)] : List Cond), w ∈ tb := List.forall_mem_cons.mpr ⟨tb_in 617 (by decide +kernel) (by decide +kernel), List.forall_mem_cons.mpr ⟨tb_in 619 (by decide +kernel) (by decide +kernel), List.forall_mem_cons.mpr ⟨tb_in 11 (by decide +kernel) (by decide +kernel), List.forall_mem_cons.mpr ⟨tb_in 57 (by decide +kernel) (by decide +kernel), List.forall_mem_cons.mpr ⟨tb_in 620 (by decide +kernel) (by decide +kernel), fun _ h => absurd h List.not_mem_nil⟩⟩⟩⟩⟩
theorem kv_X5_bestRow : yX5_bestRow.cls = RX5 ∧ yX5_bestRow.cls ≠ "java/lang/invoke/MethodHandle" ∧ yX5_bestRow.cls ≠ "java/lang/invoke/VarHandle" ∧ (parseMethodDescriptor yX5_bestRow.desc).map (fun d => d.parameters.length) = some 1 := by decide +kernel
theorem kw_X11_202 : ∀ w ∈ ([.methodLink RX11 202 yX5_bestRow, .instanceMethod yX5_bestRow, .selects RX5 yX5_bestRow yX5_bestRow, .initialized RX5, Cond.code yX5_bestRow cX5_bestRow 6 (some .int)] : List Cond), w ∈ tb := List.forall_mem_cons.mpr ⟨tb_in 662 (by decide +kernel) (by decide +kernel), List.forall_mem_cons.mpr ⟨tb_in 663 (by decide +kernel) (by decide +kernel), List.forall_mem_cons.mpr ⟨tb_in 664 (by decide +kernel) (by decide +kernel), List.forall_mem_cons.mpr ⟨tb_in 66 (by decide +kernel) (by decide +kernel), List.forall_mem_cons.mpr ⟨tb_in 665 (by decide +kernel) (by decide +kernel), fun _ h => absurd h List.not_mem_nil⟩⟩⟩⟩⟩
theorem kw_X11_205 : ∀ w ∈ ([.methodLink RX11 205 yX5_worst, .instanceMethod yX5_worst, .selects RX5 yX5_worst yX5_worst, .initialized RX5, Cond.code yX5_worst cX5_worst 8 (some .int)] : List Cond), w ∈ tb := List.forall_mem_cons.mpr ⟨tb_in 675 (by decide +kernel) (by decide +kernel), List.forall_mem_cons.mpr ⟨tb_in 667 (by decide +kernel) (by decide +kernel), List.forall_mem_cons.mpr ⟨tb_in 668 (by decide +kernel) (by decide +kernel), List.forall_mem_cons.mpr ⟨tb_in 66 (by decide +kernel) (by decide +kernel), List.forall_mem_cons.mpr ⟨tb_in 669 (by decide +kernel) (by decide +kernel), fun _ h => absurd h List.not_mem_nil⟩⟩⟩⟩⟩
theorem kw_X11_222 : ∀ w ∈ ([.methodLink RX11 222 Lib.Math.max.name, .static Lib.Math.max.name, .initialized "java/lang/Math", Cond.code Lib.Math.max.name Lib.Math.max.code 2 (some .int)] : List Cond), w ∈ tb := List.forall_mem_cons.mpr ⟨tb_in 560 (by decide +kernel) (by decide +kernel), List.forall_mem_cons.mpr ⟨tb_in 392 (by decide +kernel) (by decide +kernel), List.forall_mem_cons.mpr ⟨tb_in 72 (by decide +kernel) (by decide +kernel), List.forall_mem_cons.mpr ⟨tb_in 393 (by decide +kernel) (by decide +kernel), fun _ h => absurd h List.not_mem_nil⟩⟩⟩⟩
theorem kw_X11_174_X2 : ∀ w ∈ ([.methodLink RX11 174 yX2_word, .instanceMethod yX2_word, .selects RX2 yX2_word yX2_word, .initialized RX2, Cond.code yX2_word cX2_word 4 (some .int)] : List Cond), w ∈ tb := List.forall_mem_cons.mpr ⟨tb_in 508 (by decide +kernel) (by decide +kernel), List.forall_mem_cons.mpr ⟨tb_in 509 (by decide +kernel) (by decide +kernel), List.forall_mem_cons.mpr ⟨tb_in 510 (by decide +kernel) (by decide +kernel), List.forall_mem_cons.mpr ⟨tb_in 59 (by decide +kernel) (by decide +kernel), List.forall_mem_cons.mpr ⟨tb_in 548 (by decide +kernel) (by decide +kernel), fun _ h => absurd h List.not_mem_nil⟩⟩⟩⟩⟩
theorem kw_X11_174_X7 : ∀ w ∈ ([.methodLink RX11 174 yX2_word, .sameMethod yX2_word.cls RX2 yX2_word.name yX2_word.desc, .instanceMethod ⟨RX2, yX2_word.name, yX2_word.desc⟩, .selects RX7 yX2_word yX7_word, .instanceMethod yX7_word, .initialized yX7_word.cls, Cond.code yX7_word cX7_word 4 (some .int), Cond.code ⟨RX2, yX2_word.name, yX2_word.desc⟩ cX2_word 4 (some .int)] : List Cond), w ∈ tb := List.forall_mem_cons.mpr ⟨tb_in 508 (by decide +kernel) (by decide +kernel), List.forall_mem_cons.mpr ⟨tb_in 511 (by decide +kernel) (by decide +kernel), List.forall_mem_cons.mpr ⟨tb_in 509 (by decide +kernel) (by decide +kernel), List.forall_mem_cons.mpr ⟨tb_in 525 (by decide +kernel) (by decide +kernel), List.forall_mem_cons.mpr ⟨tb_in 526 (by decide +kernel) (by decide +kernel), List.forall_mem_cons.mpr ⟨tb_in 60 (by decide +kernel) (by decide +kernel), List.forall_mem_cons.mpr ⟨tb_in 527 (by decide +kernel) (by decide +kernel), List.forall_mem_cons.mpr ⟨tb_in 548 (by decide +kernel) (by decide +kernel), fun _ h => absurd h List.not_mem_nil⟩⟩⟩⟩⟩⟩⟩⟩
theorem kw_X11_174_X8 : ∀ w ∈ ([.methodLink RX11 174 yX2_word, .sameMethod yX2_word.cls RX2 yX2_word.name yX2_word.desc, .instanceMethod ⟨RX2, yX2_word.name, yX2_word.desc⟩, .selects RX8 yX2_word yX8_word, .instanceMethod yX8_word, .initialized yX8_word.cls, Cond.code yX8_word cX8_word 4 (some .int), Cond.code ⟨RX2, yX2_word.name, yX2_word.desc⟩ cX2_word 4 (some .int)] : List Cond), w ∈ tb := List.forall_mem_cons.mpr ⟨tb_in 508 (by decide +kernel) (by decide +kernel), List.forall_mem_cons.mpr ⟨tb_in 511 (by decide +kernel) (by decide +kernel), List.forall_mem_cons.mpr ⟨tb_in 509 (by decide +kernel) (by decide +kernel), List.forall_mem_cons.mpr ⟨tb_in 529 (by decide +kernel) (by decide +kernel), List.forall_mem_cons.mpr ⟨tb_in 530 (by decide +kernel) (by decide +kernel), List.forall_mem_cons.mpr ⟨tb_in 61 (by decide +kernel) (by decide +kernel), List.forall_mem_cons.mpr ⟨tb_in 531 (by decide +kernel) (by decide +kernel), List.forall_mem_cons.mpr ⟨tb_in 548 (by decide +kernel) (by decide +kernel), fun _ h => absurd h List.not_mem_nil⟩⟩⟩⟩⟩⟩⟩⟩
theorem kw_X11_174_X10 : ∀ w ∈ ([.methodLink RX11 174 yX2_word, .sameMethod yX2_word.cls RX2 yX2_word.name yX2_word.desc, .instanceMethod ⟨RX2, yX2_word.name, yX2_word.desc⟩, .selects RX10 yX2_word yX10_word, .instanceMethod yX10_word, .initialized yX10_word.cls, Cond.code yX10_word cX10_word 4 (some .int), Cond.code ⟨RX2, yX2_word.name, yX2_word.desc⟩ cX2_word 4 (some .int)] : List Cond), w ∈ tb := List.forall_mem_cons.mpr ⟨tb_in 508 (by decide +kernel) (by decide +kernel), List.forall_mem_cons.mpr ⟨tb_in 511 (by decide +kernel) (by decide +kernel), List.forall_mem_cons.mpr ⟨tb_in 509 (by decide +kernel) (by decide +kernel), List.forall_mem_cons.mpr ⟨tb_in 536 (by decide +kernel) (by decide +kernel), List.forall_mem_cons.mpr ⟨tb_in 537 (by decide +kernel) (by decide +kernel), List.forall_mem_cons.mpr ⟨tb_in 62 (by decide +kernel) (by decide +kernel), List.forall_mem_cons.mpr ⟨tb_in 538 (by decide +kernel) (by decide +kernel), List.forall_mem_cons.mpr ⟨tb_in 548 (by decide +kernel) (by decide +kernel), fun _ h => absurd h List.not_mem_nil⟩⟩⟩⟩⟩⟩⟩⟩
theorem kw_X11_174_X1 : ∀ w ∈ ([.methodLink RX11 174 yX2_word, .sameMethod yX2_word.cls RX2 yX2_word.name yX2_word.desc, .instanceMethod ⟨RX2, yX2_word.name, yX2_word.desc⟩, .selects RX1 yX2_word yX1_word, .instanceMethod yX1_word, .initialized yX1_word.cls, Cond.code yX1_word cX1_word 4 (some .int), Cond.code ⟨RX2, yX2_word.name, yX2_word.desc⟩ cX2_word 4 (some .int)] : List Cond), w ∈ tb := List.forall_mem_cons.mpr ⟨tb_in 508 (by decide +kernel) (by decide +kernel), List.forall_mem_cons.mpr ⟨tb_in 511 (by decide +kernel) (by decide +kernel), List.forall_mem_cons.mpr ⟨tb_in 509 (by decide +kernel) (by decide +kernel), List.forall_mem_cons.mpr ⟨tb_in 512 (by decide +kernel) (by decide +kernel), List.forall_mem_cons.mpr ⟨tb_in 513 (by decide +kernel) (by decide +kernel), List.forall_mem_cons.mpr ⟨tb_in 63 (by decide +kernel) (by decide +kernel), List.forall_mem_cons.mpr ⟨tb_in 514 (by decide +kernel) (by decide +kernel), List.forall_mem_cons.mpr ⟨tb_in 548 (by decide +kernel) (by decide +kernel), fun _ h => absurd h List.not_mem_nil⟩⟩⟩⟩⟩⟩⟩⟩
theorem kv_X11_isGameOn : yX11_isGameOn.cls = RX11 ∧ yX11_isGameOn.cls ≠ "java/lang/invoke/MethodHandle" ∧ yX11_isGameOn.cls ≠ "java/lang/invoke/VarHandle" ∧ (parseMethodDescriptor yX11_isGameOn.desc).map (fun d => d.parameters.length) = some 0 := by decide +kernel
theorem kw_X11_193 : ∀ w ∈ ([.methodLink RX11 193 yX11_isGameOn, .instanceMethod yX11_isGameOn, .selects RX11 yX11_isGameOn yX11_isGameOn, .initialized RX11, Cond.code yX11_isGameOn cX11_isGameOn 1 (some .boolean)] : List Cond), w ∈ tb := List.forall_mem_cons.mpr ⟨tb_in 650 (by decide +kernel) (by decide +kernel), List.forall_mem_cons.mpr ⟨tb_in 652 (by decide +kernel) (by decide +kernel), List.forall_mem_cons.mpr ⟨tb_in 12 (by decide +kernel) (by decide +kernel), List.forall_mem_cons.mpr ⟨tb_in 57 (by decide +kernel) (by decide +kernel), List.forall_mem_cons.mpr ⟨tb_in 653 (by decide +kernel) (by decide +kernel), fun _ h => absurd h List.not_mem_nil⟩⟩⟩⟩⟩
theorem kw_X6_52_X2 : ∀ w ∈ ([.methodLink RX6 52 yX2_word, .instanceMethod yX2_word, .selects RX2 yX2_word yX2_word, .initialized RX2, Cond.code yX2_word cX2_word 4 (some .int)] : List Cond), w ∈ tb := List.forall_mem_cons.mpr ⟨tb_in 573 (by decide +kernel) (by decide +kernel), List.forall_mem_cons.mpr ⟨tb_in 509 (by decide +kernel) (by decide +kernel), List.forall_mem_cons.mpr ⟨tb_in 510 (by decide +kernel) (by decide +kernel), List.forall_mem_cons.mpr ⟨tb_in 59 (by decide +kernel) (by decide +kernel), List.forall_mem_cons.mpr ⟨tb_in 548 (by decide +kernel) (by decide +kernel), fun _ h => absurd h List.not_mem_nil⟩⟩⟩⟩⟩
theorem kw_X6_52_X7 : ∀ w ∈ ([.methodLink RX6 52 yX2_word, .sameMethod yX2_word.cls RX2 yX2_word.name yX2_word.desc, .instanceMethod ⟨RX2, yX2_word.name, yX2_word.desc⟩, .selects RX7 yX2_word yX7_word, .instanceMethod yX7_word, .initialized yX7_word.cls, Cond.code yX7_word cX7_word 4 (some .int), Cond.code ⟨RX2, yX2_word.name, yX2_word.desc⟩ cX2_word 4 (some .int)] : List Cond), w ∈ tb := List.forall_mem_cons.mpr ⟨tb_in 573 (by decide +kernel) (by decide +kernel), List.forall_mem_cons.mpr ⟨tb_in 511 (by decide +kernel) (by decide +kernel), List.forall_mem_cons.mpr ⟨tb_in 509 (by decide +kernel) (by decide +kernel), List.forall_mem_cons.mpr ⟨tb_in 525 (by decide +kernel) (by decide +kernel), List.forall_mem_cons.mpr ⟨tb_in 526 (by decide +kernel) (by decide +kernel), List.forall_mem_cons.mpr ⟨tb_in 60 (by decide +kernel) (by decide +kernel), List.forall_mem_cons.mpr ⟨tb_in 527 (by decide +kernel) (by decide +kernel), List.forall_mem_cons.mpr ⟨tb_in 548 (by decide +kernel) (by decide +kernel), fun _ h => absurd h List.not_mem_nil⟩⟩⟩⟩⟩⟩⟩⟩
theorem kw_X6_52_X8 : ∀ w ∈ ([.methodLink RX6 52 yX2_word, .sameMethod yX2_word.cls RX2 yX2_word.name yX2_word.desc, .instanceMethod ⟨RX2, yX2_word.name, yX2_word.desc⟩, .selects RX8 yX2_word yX8_word, .instanceMethod yX8_word, .initialized yX8_word.cls, Cond.code yX8_word cX8_word 4 (some .int), Cond.code ⟨RX2, yX2_word.name, yX2_word.desc⟩ cX2_word 4 (some .int)] : List Cond), w ∈ tb := List.forall_mem_cons.mpr ⟨tb_in 573 (by decide +kernel) (by decide +kernel), List.forall_mem_cons.mpr ⟨tb_in 511 (by decide +kernel) (by decide +kernel), List.forall_mem_cons.mpr ⟨tb_in 509 (by decide +kernel) (by decide +kernel), List.forall_mem_cons.mpr ⟨tb_in 529 (by decide +kernel) (by decide +kernel), List.forall_mem_cons.mpr ⟨tb_in 530 (by decide +kernel) (by decide +kernel), List.forall_mem_cons.mpr ⟨tb_in 61 (by decide +kernel) (by decide +kernel), List.forall_mem_cons.mpr ⟨tb_in 531 (by decide +kernel) (by decide +kernel), List.forall_mem_cons.mpr ⟨tb_in 548 (by decide +kernel) (by decide +kernel), fun _ h => absurd h List.not_mem_nil⟩⟩⟩⟩⟩⟩⟩⟩
theorem kw_X6_52_X10 : ∀ w ∈ ([.methodLink RX6 52 yX2_word, .sameMethod yX2_word.cls RX2 yX2_word.name yX2_word.desc, .instanceMethod ⟨RX2, yX2_word.name, yX2_word.desc⟩, .selects RX10 yX2_word yX10_word, .instanceMethod yX10_word, .initialized yX10_word.cls, Cond.code yX10_word cX10_word 4 (some .int), Cond.code ⟨RX2, yX2_word.name, yX2_word.desc⟩ cX2_word 4 (some .int)] : List Cond), w ∈ tb := List.forall_mem_cons.mpr ⟨tb_in 573 (by decide +kernel) (by decide +kernel), List.forall_mem_cons.mpr ⟨tb_in 511 (by decide +kernel) (by decide +kernel), List.forall_mem_cons.mpr ⟨tb_in 509 (by decide +kernel) (by decide +kernel), List.forall_mem_cons.mpr ⟨tb_in 536 (by decide +kernel) (by decide +kernel), List.forall_mem_cons.mpr ⟨tb_in 537 (by decide +kernel) (by decide +kernel), List.forall_mem_cons.mpr ⟨tb_in 62 (by decide +kernel) (by decide +kernel), List.forall_mem_cons.mpr ⟨tb_in 538 (by decide +kernel) (by decide +kernel), List.forall_mem_cons.mpr ⟨tb_in 548 (by decide +kernel) (by decide +kernel), fun _ h => absurd h List.not_mem_nil⟩⟩⟩⟩⟩⟩⟩⟩
theorem kw_X6_52_X1 : ∀ w ∈ ([.methodLink RX6 52 yX2_word, .sameMethod yX2_word.cls RX2 yX2_word.name yX2_word.desc, .instanceMethod ⟨RX2, yX2_word.name, yX2_word.desc⟩, .selects RX1 yX2_word yX1_word, .instanceMethod yX1_word, .initialized yX1_word.cls, Cond.code yX1_word cX1_word 4 (some .int), Cond.code ⟨RX2, yX2_word.name, yX2_word.desc⟩ cX2_word 4 (some .int)] : List Cond), w ∈ tb := List.forall_mem_cons.mpr ⟨tb_in 573 (by decide +kernel) (by decide +kernel), List.forall_mem_cons.mpr ⟨tb_in 511 (by decide +kernel) (by decide +kernel), List.forall_mem_cons.mpr ⟨tb_in 509 (by decide +kernel) (by decide +kernel), List.forall_mem_cons.mpr ⟨tb_in 512 (by decide +kernel) (by decide +kernel), List.forall_mem_cons.mpr ⟨tb_in 513 (by decide +kernel) (by decide +kernel), List.forall_mem_cons.mpr ⟨tb_in 63 (by decide +kernel) (by decide +kernel), List.forall_mem_cons.mpr ⟨tb_in 514 (by decide +kernel) (by decide +kernel), List.forall_mem_cons.mpr ⟨tb_in 548 (by decide +kernel) (by decide +kernel), fun _ h => absurd h List.not_mem_nil⟩⟩⟩⟩⟩⟩⟩⟩
theorem kv_X6_areTwins : yX6_areTwins.cls = RX6 ∧ yX6_areTwins.cls ≠ "java/lang/invoke/MethodHandle" ∧ yX6_areTwins.cls ≠ "java/lang/invoke/VarHandle" ∧ (parseMethodDescriptor yX6_areTwins.desc).map (fun d => d.parameters.length) = some 3 := by decide +kernel
theorem kw_X6_48 : ∀ w ∈ ([.methodLink RX6 48 yX6_areTwins, .instanceMethod yX6_areTwins, .selects RX6 yX6_areTwins yX6_areTwins, .initialized RX6, Cond.code yX6_areTwins cX6_areTwins 6 (some .boolean)] : List Cond), w ∈ tb := List.forall_mem_cons.mpr ⟨tb_in 569 (by decide +kernel) (by decide +kernel), List.forall_mem_cons.mpr ⟨tb_in 570 (by decide +kernel) (by decide +kernel), List.forall_mem_cons.mpr ⟨tb_in 571 (by decide +kernel) (by decide +kernel), List.forall_mem_cons.mpr ⟨tb_in 65 (by decide +kernel) (by decide +kernel), List.forall_mem_cons.mpr ⟨tb_in 572 (by decide +kernel) (by decide +kernel), fun _ h => absurd h List.not_mem_nil⟩⟩⟩⟩⟩
theorem kv_X11_couldBe : yX11_couldBe.cls = RX11 ∧ yX11_couldBe.cls ≠ "java/lang/invoke/MethodHandle" ∧ yX11_couldBe.cls ≠ "java/lang/invoke/VarHandle" ∧ (parseMethodDescriptor yX11_couldBe.desc).map (fun d => d.parameters.length) = some 2 := by decide +kernel
theorem kw_X11_295 : ∀ w ∈ ([.methodLink RX11 295 yX11_couldBe, .instanceMethod yX11_couldBe, .selects RX11 yX11_couldBe yX11_couldBe, .initialized RX11, Cond.code yX11_couldBe cX11_couldBe 4 (some .boolean)] : List Cond), w ∈ tb := List.forall_mem_cons.mpr ⟨tb_in 504 (by decide +kernel) (by decide +kernel), List.forall_mem_cons.mpr ⟨tb_in 506 (by decide +kernel) (by decide +kernel), List.forall_mem_cons.mpr ⟨tb_in 5 (by decide +kernel) (by decide +kernel), List.forall_mem_cons.mpr ⟨tb_in 57 (by decide +kernel) (by decide +kernel), List.forall_mem_cons.mpr ⟨tb_in 507 (by decide +kernel) (by decide +kernel), fun _ h => absurd h List.not_mem_nil⟩⟩⟩⟩⟩
theorem kv_X11_worstSorts : yX11_worstSorts.cls = RX11 ∧ yX11_worstSorts.cls ≠ "java/lang/invoke/MethodHandle" ∧ yX11_worstSorts.cls ≠ "java/lang/invoke/VarHandle" ∧ (parseMethodDescriptor yX11_worstSorts.desc).map (fun d => d.parameters.length) = some 2 := by decide +kernel
theorem kw_X11_299 : ∀ w ∈ ([.methodLink RX11 299 yX11_worstSorts, .instanceMethod yX11_worstSorts, .selects RX11 yX11_worstSorts yX11_worstSorts, .initialized RX11, Cond.code yX11_worstSorts cX11_worstSorts 7 (some .int)] : List Cond), w ∈ tb := List.forall_mem_cons.mpr ⟨tb_in 556 (by decide +kernel) (by decide +kernel), List.forall_mem_cons.mpr ⟨tb_in 558 (by decide +kernel) (by decide +kernel), List.forall_mem_cons.mpr ⟨tb_in 7 (by decide +kernel) (by decide +kernel), List.forall_mem_cons.mpr ⟨tb_in 57 (by decide +kernel) (by decide +kernel), List.forall_mem_cons.mpr ⟨tb_in 559 (by decide +kernel) (by decide +kernel), fun _ h => absurd h List.not_mem_nil⟩⟩⟩⟩⟩
theorem kv_X6_twins : yX6_twins.cls = RX6 ∧ yX6_twins.cls ≠ "java/lang/invoke/MethodHandle" ∧ yX6_twins.cls ≠ "java/lang/invoke/VarHandle" ∧ (parseMethodDescriptor yX6_twins.desc).map (fun d => d.parameters.length) = some 1 := by decide +kernel
theorem kw_X11_151 : ∀ w ∈ ([.methodLink RX11 151 yX6_twins, .instanceMethod yX6_twins, .selects RX6 yX6_twins yX6_twins, .initialized RX6, Cond.code yX6_twins cX6_twins 4 (some .int)] : List Cond), w ∈ tb := List.forall_mem_cons.mpr ⟨tb_in 565 (by decide +kernel) (by decide +kernel), List.forall_mem_cons.mpr ⟨tb_in 566 (by decide +kernel) (by decide +kernel), List.forall_mem_cons.mpr ⟨tb_in 567 (by decide +kernel) (by decide +kernel), List.forall_mem_cons.mpr ⟨tb_in 65 (by decide +kernel) (by decide +kernel), List.forall_mem_cons.mpr ⟨tb_in 568 (by decide +kernel) (by decide +kernel), fun _ h => absurd h List.not_mem_nil⟩⟩⟩⟩⟩
theorem kv_X11_sorts : yX11_sorts.cls = RX11 ∧ yX11_sorts.cls ≠ "java/lang/invoke/MethodHandle" ∧ yX11_sorts.cls ≠ "java/lang/invoke/VarHandle" ∧ (parseMethodDescriptor yX11_sorts.desc).map (fun d => d.parameters.length) = some 1 := by decide +kernel
theorem kw_X11_141 : ∀ w ∈ ([.methodLink RX11 141 yX11_sorts, .instanceMethod yX11_sorts, .selects RX11 yX11_sorts yX11_sorts, .initialized RX11, Cond.code yX11_sorts cX11_sorts 4 (some .int)] : List Cond), w ∈ tb := List.forall_mem_cons.mpr ⟨tb_in 500 (by decide +kernel) (by decide +kernel), List.forall_mem_cons.mpr ⟨tb_in 502 (by decide +kernel) (by decide +kernel), List.forall_mem_cons.mpr ⟨tb_in 4 (by decide +kernel) (by decide +kernel), List.forall_mem_cons.mpr ⟨tb_in 57 (by decide +kernel) (by decide +kernel), List.forall_mem_cons.mpr ⟨tb_in 503 (by decide +kernel) (by decide +kernel), fun _ h => absurd h List.not_mem_nil⟩⟩⟩⟩⟩
theorem kv_X11_testFor : yX11_testFor.cls = RX11 ∧ yX11_testFor.cls ≠ "java/lang/invoke/MethodHandle" ∧ yX11_testFor.cls ≠ "java/lang/invoke/VarHandle" ∧ (parseMethodDescriptor yX11_testFor.desc).map (fun d => d.parameters.length) = some 1 := by decide +kernel
theorem kw_X11_144 : ∀ w ∈ ([.methodLink RX11 144 yX11_testFor, .instanceMethod yX11_testFor, .selects RX11 yX11_testFor yX11_testFor, .initialized RX11, Cond.code yX11_testFor cX11_testFor 6 (some .int)] : List Cond), w ∈ tb := List.forall_mem_cons.mpr ⟨tb_in 552 (by decide +kernel) (by decide +kernel), List.forall_mem_cons.mpr ⟨tb_in 554 (by decide +kernel) (by decide +kernel), List.forall_mem_cons.mpr ⟨tb_in 6 (by decide +kernel) (by decide +kernel), List.forall_mem_cons.mpr ⟨tb_in 57 (by decide +kernel) (by decide +kernel), List.forall_mem_cons.mpr ⟨tb_in 555 (by decide +kernel) (by decide +kernel), fun _ h => absurd h List.not_mem_nil⟩⟩⟩⟩⟩
theorem kv_X0_shownTo : yX0_shownTo.cls = RX0 ∧ yX0_shownTo.cls ≠ "java/lang/invoke/MethodHandle" ∧ yX0_shownTo.cls ≠ "java/lang/invoke/VarHandle" ∧ (parseMethodDescriptor yX0_shownTo.desc).map (fun d => d.parameters.length) = some 1 := by decide +kernel
theorem kw_X11_138 : ∀ w ∈ ([.methodLink RX11 138 yX0_shownTo, .instanceMethod yX0_shownTo, .selects RX0 yX0_shownTo yX0_shownTo, .initialized RX0, Cond.code yX0_shownTo cX0_shownTo 4 (some .int)] : List Cond), w ∈ tb := List.forall_mem_cons.mpr ⟨tb_in 496 (by decide +kernel) (by decide +kernel), List.forall_mem_cons.mpr ⟨tb_in 497 (by decide +kernel) (by decide +kernel), List.forall_mem_cons.mpr ⟨tb_in 498 (by decide +kernel) (by decide +kernel), List.forall_mem_cons.mpr ⟨tb_in 64 (by decide +kernel) (by decide +kernel), List.forall_mem_cons.mpr ⟨tb_in 499 (by decide +kernel) (by decide +kernel), fun _ h => absurd h List.not_mem_nil⟩⟩⟩⟩⟩
theorem kv_X11_isRow : yX11_isRow.cls = RX11 ∧ yX11_isRow.cls ≠ "java/lang/invoke/MethodHandle" ∧ yX11_isRow.cls ≠ "java/lang/invoke/VarHandle" ∧ (parseMethodDescriptor yX11_isRow.desc).map (fun d => d.parameters.length) = some 1 := by decide +kernel
theorem kw_X11_162 : ∀ w ∈ ([.methodLink RX11 162 yX11_isRow, .instanceMethod yX11_isRow, .selects RX11 yX11_isRow yX11_isRow, .initialized RX11, Cond.code yX11_isRow cX11_isRow 2 (some .boolean)] : List Cond), w ∈ tb := List.forall_mem_cons.mpr ⟨tb_in 588 (by decide +kernel) (by decide +kernel), List.forall_mem_cons.mpr ⟨tb_in 590 (by decide +kernel) (by decide +kernel), List.forall_mem_cons.mpr ⟨tb_in 9 (by decide +kernel) (by decide +kernel), List.forall_mem_cons.mpr ⟨tb_in 57 (by decide +kernel) (by decide +kernel), List.forall_mem_cons.mpr ⟨tb_in 591 (by decide +kernel) (by decide +kernel), fun _ h => absurd h List.not_mem_nil⟩⟩⟩⟩⟩
theorem kv_X5_squares : yX5_squares.cls = RX5 ∧ yX5_squares.cls ≠ "java/lang/invoke/MethodHandle" ∧ yX5_squares.cls ≠ "java/lang/invoke/VarHandle" ∧ (parseMethodDescriptor yX5_squares.desc).map (fun d => d.parameters.length) = some 2 := by decide +kernel
theorem kw_X11_209 : ∀ w ∈ ([.methodLink RX11 209 yX5_squares, .instanceMethod yX5_squares, .selects RX5 yX5_squares yX5_squares, .initialized RX5, Cond.code yX5_squares cX5_squares 8 (some .int)] : List Cond), w ∈ tb := List.forall_mem_cons.mpr ⟨tb_in 680 (by decide +kernel) (by decide +kernel), List.forall_mem_cons.mpr ⟨tb_in 681 (by decide +kernel) (by decide +kernel), List.forall_mem_cons.mpr ⟨tb_in 682 (by decide +kernel) (by decide +kernel), List.forall_mem_cons.mpr ⟨tb_in 66 (by decide +kernel) (by decide +kernel), List.forall_mem_cons.mpr ⟨tb_in 683 (by decide +kernel) (by decide +kernel), fun _ h => absurd h List.not_mem_nil⟩⟩⟩⟩⟩
theorem ks_X11_commonDivisor : yX11_commonDivisor.cls ≠ "java/lang/invoke/MethodHandle" ∧ yX11_commonDivisor.cls ≠ "java/lang/invoke/VarHandle" ∧ (parseMethodDescriptor yX11_commonDivisor.desc).map (fun d => d.parameters.length) = some 2 := by decide +kernel
theorem kw_X11_213 : ∀ w ∈ ([.methodLink RX11 213 yX11_commonDivisor, .static yX11_commonDivisor, .initialized yX11_commonDivisor.cls, Cond.code yX11_commonDivisor cX11_commonDivisor 6 (some .int)] : List Cond), w ∈ tb := List.forall_mem_cons.mpr ⟨tb_in 684 (by decide +kernel) (by decide +kernel), List.forall_mem_cons.mpr ⟨tb_in 685 (by decide +kernel) (by decide +kernel), List.forall_mem_cons.mpr ⟨tb_in 57 (by decide +kernel) (by decide +kernel), List.forall_mem_cons.mpr ⟨tb_in 686 (by decide +kernel) (by decide +kernel), fun _ h => absurd h List.not_mem_nil⟩⟩⟩⟩
theorem kv_X11_judge : yX11_judge.cls = RX11 ∧ yX11_judge.cls ≠ "java/lang/invoke/MethodHandle" ∧ yX11_judge.cls ≠ "java/lang/invoke/VarHandle" ∧ (parseMethodDescriptor yX11_judge.desc).map (fun d => d.parameters.length) = some 2 := by decide +kernel
theorem kw_X11_267 : ∀ w ∈ ([.methodLink RX11 267 yX11_judge, .instanceMethod yX11_judge, .selects RX11 yX11_judge yX11_judge, .initialized RX11, Cond.code yX11_judge cX11_judge 3 (some .int)] : List Cond), w ∈ tb := List.forall_mem_cons.mpr ⟨tb_in 764 (by decide +kernel) (by decide +kernel), List.forall_mem_cons.mpr ⟨tb_in 489 (by decide +kernel) (by decide +kernel), List.forall_mem_cons.mpr ⟨tb_in 490 (by decide +kernel) (by decide +kernel), List.forall_mem_cons.mpr ⟨tb_in 57 (by decide +kernel) (by decide +kernel), List.forall_mem_cons.mpr ⟨tb_in 491 (by decide +kernel) (by decide +kernel), fun _ h => absurd h List.not_mem_nil⟩⟩⟩⟩⟩
theorem ks_X11_with : yX11_with.cls ≠ "java/lang/invoke/MethodHandle" ∧ yX11_with.cls ≠ "java/lang/invoke/VarHandle" ∧ (parseMethodDescriptor yX11_with.desc).map (fun d => d.parameters.length) = some 2 := by decide +kernel
theorem kw_X11_270 : ∀ w ∈ ([.methodLink RX11 270 yX11_with, .static yX11_with, .initialized yX11_with.cls, Cond.code yX11_with cX11_with 3 (some .long)] : List Cond), w ∈ tb := List.forall_mem_cons.mpr ⟨tb_in 765 (by decide +kernel) (by decide +kernel), List.forall_mem_cons.mpr ⟨tb_in 766 (by decide +kernel) (by decide +kernel), List.forall_mem_cons.mpr ⟨tb_in 57 (by decide +kernel) (by decide +kernel), List.forall_mem_cons.mpr ⟨tb_in 767 (by decide +kernel) (by decide +kernel), fun _ h => absurd h List.not_mem_nil⟩⟩⟩⟩
theorem kv_X11_rest : yX11_rest.cls = RX11 ∧ yX11_rest.cls ≠ "java/lang/invoke/MethodHandle" ∧ yX11_rest.cls ≠ "java/lang/invoke/VarHandle" ∧ (parseMethodDescriptor yX11_rest.desc).map (fun d => d.parameters.length) = some 3 := by decide +kernel
theorem kw_X11_274 : ∀ w ∈ ([.methodLink RX11 274 yX11_rest, .instanceMethod yX11_rest, .selects RX11 yX11_rest yX11_rest, .initialized RX11, Cond.code yX11_rest cX11_rest 6 (some .int)] : List Cond), w ∈ tb := List.forall_mem_cons.mpr ⟨tb_in 769 (by decide +kernel) (by decide +kernel), List.forall_mem_cons.mpr ⟨tb_in 677 (by decide +kernel) (by decide +kernel), List.forall_mem_cons.mpr ⟨tb_in 678 (by decide +kernel) (by decide +kernel), List.forall_mem_cons.mpr ⟨tb_in 57 (by decide +kernel) (by decide +kernel), List.forall_mem_cons.mpr ⟨tb_in 679 (by decide +kernel) (by decide +kernel), fun _ h => absurd h List.not_mem_nil⟩⟩⟩⟩⟩
theorem kv_X11_seen : yX11_seen.cls = RX11 ∧ yX11_seen.cls ≠ "java/lang/invoke/MethodHandle" ∧ yX11_seen.cls ≠ "java/lang/invoke/VarHandle" ∧ (parseMethodDescriptor yX11_seen.desc).map (fun d => d.parameters.length) = some 2 := by decide +kernel
theorem kw_X11_278 : ∀ w ∈ ([.methodLink RX11 278 yX11_seen, .instanceMethod yX11_seen, .selects RX11 yX11_seen yX11_seen, .initialized RX11, Cond.code yX11_seen cX11_seen 3 (some .int)] : List Cond), w ∈ tb := List.forall_mem_cons.mpr ⟨tb_in 770 (by decide +kernel) (by decide +kernel), List.forall_mem_cons.mpr ⟨tb_in 602 (by decide +kernel) (by decide +kernel), List.forall_mem_cons.mpr ⟨tb_in 603 (by decide +kernel) (by decide +kernel), List.forall_mem_cons.mpr ⟨tb_in 57 (by decide +kernel) (by decide +kernel), List.forall_mem_cons.mpr ⟨tb_in 604 (by decide +kernel) (by decide +kernel), fun _ h => absurd h List.not_mem_nil⟩⟩⟩⟩⟩
theorem kv_X11_left : yX11_left.cls = RX11 ∧ yX11_left.cls ≠ "java/lang/invoke/MethodHandle" ∧ yX11_left.cls ≠ "java/lang/invoke/VarHandle" ∧ (parseMethodDescriptor yX11_left.desc).map (fun d => d.parameters.length) = some 0 := by decide +kernel
theorem kw_X11_281 : ∀ w ∈ ([.methodLink RX11 281 yX11_left, .instanceMethod yX11_left, .selects RX11 yX11_left yX11_left, .initialized RX11, Cond.code yX11_left cX11_left 1 (some .int)] : List Cond), w ∈ tb := List.forall_mem_cons.mpr ⟨tb_in 771 (by decide +kernel) (by decide +kernel), List.forall_mem_cons.mpr ⟨tb_in 647 (by decide +kernel) (by decide +kernel), List.forall_mem_cons.mpr ⟨tb_in 648 (by decide +kernel) (by decide +kernel), List.forall_mem_cons.mpr ⟨tb_in 57 (by decide +kernel) (by decide +kernel), List.forall_mem_cons.mpr ⟨tb_in 649 (by decide +kernel) (by decide +kernel), fun _ h => absurd h List.not_mem_nil⟩⟩⟩⟩⟩
theorem kv_X11_fits : yX11_fits.cls = RX11 ∧ yX11_fits.cls ≠ "java/lang/invoke/MethodHandle" ∧ yX11_fits.cls ≠ "java/lang/invoke/VarHandle" ∧ (parseMethodDescriptor yX11_fits.desc).map (fun d => d.parameters.length) = some 1 := by decide +kernel
theorem kw_X11_284 : ∀ w ∈ ([.methodLink RX11 284 yX11_fits, .instanceMethod yX11_fits, .selects RX11 yX11_fits yX11_fits, .initialized RX11, Cond.code yX11_fits cX11_fits 2 (some .int)] : List Cond), w ∈ tb := List.forall_mem_cons.mpr ⟨tb_in 772 (by decide +kernel) (by decide +kernel), List.forall_mem_cons.mpr ⟨tb_in 655 (by decide +kernel) (by decide +kernel), List.forall_mem_cons.mpr ⟨tb_in 656 (by decide +kernel) (by decide +kernel), List.forall_mem_cons.mpr ⟨tb_in 57 (by decide +kernel) (by decide +kernel), List.forall_mem_cons.mpr ⟨tb_in 657 (by decide +kernel) (by decide +kernel), fun _ h => absurd h List.not_mem_nil⟩⟩⟩⟩⟩
theorem kv_X11_count : yX11_count.cls = RX11 ∧ yX11_count.cls ≠ "java/lang/invoke/MethodHandle" ∧ yX11_count.cls ≠ "java/lang/invoke/VarHandle" ∧ (parseMethodDescriptor yX11_count.desc).map (fun d => d.parameters.length) = some 1 := by decide +kernel
theorem kw_X11_290 : ∀ w ∈ ([.methodLink RX11 290 yX11_count, .instanceMethod yX11_count, .selects RX11 yX11_count yX11_count, .initialized RX11, Cond.code yX11_count cX11_count 2 (some .int)] : List Cond), w ∈ tb := List.forall_mem_cons.mpr ⟨tb_in 773 (by decide +kernel) (by decide +kernel), List.forall_mem_cons.mpr ⟨tb_in 756 (by decide +kernel) (by decide +kernel), List.forall_mem_cons.mpr ⟨tb_in 757 (by decide +kernel) (by decide +kernel), List.forall_mem_cons.mpr ⟨tb_in 57 (by decide +kernel) (by decide +kernel), List.forall_mem_cons.mpr ⟨tb_in 758 (by decide +kernel) (by decide +kernel), fun _ h => absurd h List.not_mem_nil⟩⟩⟩⟩⟩
theorem kv_X3_kindsEnd : yX3_kindsEnd.cls = RX3 ∧ yX3_kindsEnd.cls ≠ "java/lang/invoke/MethodHandle" ∧ yX3_kindsEnd.cls ≠ "java/lang/invoke/VarHandle" ∧ (parseMethodDescriptor yX3_kindsEnd.desc).map (fun d => d.parameters.length) = some 1 := by decide +kernel
theorem kw_X3_23 : ∀ w ∈ ([.methodLink RX3 23 yX3_kindsEnd, .instanceMethod yX3_kindsEnd, .selects RX3 yX3_kindsEnd yX3_kindsEnd, .initialized RX3, Cond.code yX3_kindsEnd cX3_kindsEnd 3 (some .int)] : List Cond), w ∈ tb := List.forall_mem_cons.mpr ⟨tb_in 350 (by decide +kernel) (by decide +kernel), List.forall_mem_cons.mpr ⟨tb_in 352 (by decide +kernel) (by decide +kernel), List.forall_mem_cons.mpr ⟨tb_in 1 (by decide +kernel) (by decide +kernel), List.forall_mem_cons.mpr ⟨tb_in 58 (by decide +kernel) (by decide +kernel), List.forall_mem_cons.mpr ⟨tb_in 353 (by decide +kernel) (by decide +kernel), fun _ h => absurd h List.not_mem_nil⟩⟩⟩⟩⟩
theorem kv_X3_pegs : yX3_pegs.cls = RX3 ∧ yX3_pegs.cls ≠ "java/lang/invoke/MethodHandle" ∧ yX3_pegs.cls ≠ "java/lang/invoke/VarHandle" ∧ (parseMethodDescriptor yX3_pegs.desc).map (fun d => d.parameters.length) = some 0 := by decide +kernel
theorem kw_X3_27 : ∀ w ∈ ([.methodLink RX3 27 yX3_pegs, .instanceMethod yX3_pegs, .selects RX3 yX3_pegs yX3_pegs, .initialized RX3, Cond.code yX3_pegs cX3_pegs 1 (some .int)] : List Cond), w ∈ tb := List.forall_mem_cons.mpr ⟨tb_in 354 (by decide +kernel) (by decide +kernel), List.forall_mem_cons.mpr ⟨tb_in 355 (by decide +kernel) (by decide +kernel), List.forall_mem_cons.mpr ⟨tb_in 356 (by decide +kernel) (by decide +kernel), List.forall_mem_cons.mpr ⟨tb_in 58 (by decide +kernel) (by decide +kernel), List.forall_mem_cons.mpr ⟨tb_in 357 (by decide +kernel) (by decide +kernel), fun _ h => absurd h List.not_mem_nil⟩⟩⟩⟩⟩
theorem kv_X3_colours : yX3_colours.cls = RX3 ∧ yX3_colours.cls ≠ "java/lang/invoke/MethodHandle" ∧ yX3_colours.cls ≠ "java/lang/invoke/VarHandle" ∧ (parseMethodDescriptor yX3_colours.desc).map (fun d => d.parameters.length) = some 0 := by decide +kernel
theorem kw_X3_34 : ∀ w ∈ ([.methodLink RX3 34 yX3_colours, .instanceMethod yX3_colours, .selects RX3 yX3_colours yX3_colours, .initialized RX3, Cond.code yX3_colours cX3_colours 1 (some .int)] : List Cond), w ∈ tb := List.forall_mem_cons.mpr ⟨tb_in 358 (by decide +kernel) (by decide +kernel), List.forall_mem_cons.mpr ⟨tb_in 359 (by decide +kernel) (by decide +kernel), List.forall_mem_cons.mpr ⟨tb_in 360 (by decide +kernel) (by decide +kernel), List.forall_mem_cons.mpr ⟨tb_in 58 (by decide +kernel) (by decide +kernel), List.forall_mem_cons.mpr ⟨tb_in 361 (by decide +kernel) (by decide +kernel), fun _ h => absurd h List.not_mem_nil⟩⟩⟩⟩⟩
theorem kv_X3_mayStand : yX3_mayStand.cls = RX3 ∧ yX3_mayStand.cls ≠ "java/lang/invoke/MethodHandle" ∧ yX3_mayStand.cls ≠ "java/lang/invoke/VarHandle" ∧ (parseMethodDescriptor yX3_mayStand.desc).map (fun d => d.parameters.length) = some 1 := by decide +kernel
theorem kw_X3_19 : ∀ w ∈ ([.methodLink RX3 19 yX3_mayStand, .instanceMethod yX3_mayStand, .selects RX3 yX3_mayStand yX3_mayStand, .initialized RX3, Cond.code yX3_mayStand cX3_mayStand 4 (some .boolean)] : List Cond), w ∈ tb := List.forall_mem_cons.mpr ⟨tb_in 346 (by decide +kernel) (by decide +kernel), List.forall_mem_cons.mpr ⟨tb_in 348 (by decide +kernel) (by decide +kernel), List.forall_mem_cons.mpr ⟨tb_in 0 (by decide +kernel) (by decide +kernel), List.forall_mem_cons.mpr ⟨tb_in 58 (by decide +kernel) (by decide +kernel), List.forall_mem_cons.mpr ⟨tb_in 349 (by decide +kernel) (by decide +kernel), fun _ h => absurd h List.not_mem_nil⟩⟩⟩⟩⟩
theorem kv_X3_firstFault : yX3_firstFault.cls = RX3 ∧ yX3_firstFault.cls ≠ "java/lang/invoke/MethodHandle" ∧ yX3_firstFault.cls ≠ "java/lang/invoke/VarHandle" ∧ (parseMethodDescriptor yX3_firstFault.desc).map (fun d => d.parameters.length) = some 0 := by decide +kernel
theorem kw_X11_89 : ∀ w ∈ ([.methodLink RX11 89 yX3_firstFault, .instanceMethod yX3_firstFault, .selects RX3 yX3_firstFault yX3_firstFault, .initialized RX3, Cond.code yX3_firstFault cX3_firstFault 2 (some .int)] : List Cond), w ∈ tb := List.forall_mem_cons.mpr ⟨tb_in 342 (by decide +kernel) (by decide +kernel), List.forall_mem_cons.mpr ⟨tb_in 343 (by decide +kernel) (by decide +kernel), List.forall_mem_cons.mpr ⟨tb_in 344 (by decide +kernel) (by decide +kernel), List.forall_mem_cons.mpr ⟨tb_in 58 (by decide +kernel) (by decide +kernel), List.forall_mem_cons.mpr ⟨tb_in 345 (by decide +kernel) (by decide +kernel), fun _ h => absurd h List.not_mem_nil⟩⟩⟩⟩⟩
theorem kw_X3_31 : ∀ w ∈ ([.methodLink RX3 31 yX3_firstFault, .instanceMethod yX3_firstFault, .selects RX3 yX3_firstFault yX3_firstFault, .initialized RX3, Cond.code yX3_firstFault cX3_firstFault 2 (some .int)] : List Cond), w ∈ tb := List.forall_mem_cons.mpr ⟨tb_in 458 (by decide +kernel) (by decide +kernel), List.forall_mem_cons.mpr ⟨tb_in 343 (by decide +kernel) (by decide +kernel), List.forall_mem_cons.mpr ⟨tb_in 344 (by decide +kernel) (by decide +kernel), List.forall_mem_cons.mpr ⟨tb_in 58 (by decide +kernel) (by decide +kernel), List.forall_mem_cons.mpr ⟨tb_in 345 (by decide +kernel) (by decide +kernel), fun _ h => absurd h List.not_mem_nil⟩⟩⟩⟩⟩
theorem kv_X6_colour : yX6_colour.cls = RX6 ∧ yX6_colour.cls ≠ "java/lang/invoke/MethodHandle" ∧ yX6_colour.cls ≠ "java/lang/invoke/VarHandle" ∧ (parseMethodDescriptor yX6_colour.desc).map (fun d => d.parameters.length) = some 2 := by decide +kernel
theorem kw_X6_35 : ∀ w ∈ ([.methodLink RX6 35 yX6_colour, .instanceMethod yX6_colour, .selects RX6 yX6_colour yX6_colour, .initialized RX6, Cond.code yX6_colour cX6_colour 5 (some .int)] : List Cond), w ∈ tb := List.forall_mem_cons.mpr ⟨tb_in 469 (by decide +kernel) (by decide +kernel), List.forall_mem_cons.mpr ⟨tb_in 470 (by decide +kernel) (by decide +kernel), List.forall_mem_cons.mpr ⟨tb_in 471 (by decide +kernel) (by decide +kernel), List.forall_mem_cons.mpr ⟨tb_in 65 (by decide +kernel) (by decide +kernel), List.forall_mem_cons.mpr ⟨tb_in 472 (by decide +kernel) (by decide +kernel), fun _ h => absurd h List.not_mem_nil⟩⟩⟩⟩⟩
theorem ks_X6_withOneMore : yX6_withOneMore.cls ≠ "java/lang/invoke/MethodHandle" ∧ yX6_withOneMore.cls ≠ "java/lang/invoke/VarHandle" ∧ (parseMethodDescriptor yX6_withOneMore.desc).map (fun d => d.parameters.length) = some 2 := by decide +kernel
theorem kw_X6_39 : ∀ w ∈ ([.methodLink RX6 39 yX6_withOneMore, .static yX6_withOneMore, .initialized yX6_withOneMore.cls, Cond.code yX6_withOneMore cX6_withOneMore 4 (some .int)] : List Cond), w ∈ tb := List.forall_mem_cons.mpr ⟨tb_in 473 (by decide +kernel) (by decide +kernel), List.forall_mem_cons.mpr ⟨tb_in 474 (by decide +kernel) (by decide +kernel), List.forall_mem_cons.mpr ⟨tb_in 65 (by decide +kernel) (by decide +kernel), List.forall_mem_cons.mpr ⟨tb_in 475 (by decide +kernel) (by decide +kernel), fun _ h => absurd h List.not_mem_nil⟩⟩⟩⟩
theorem kv_X6_layRow : yX6_layRow.cls = RX6 ∧ yX6_layRow.cls ≠ "java/lang/invoke/MethodHandle" ∧ yX6_layRow.cls ≠ "java/lang/invoke/VarHandle" ∧ (parseMethodDescriptor yX6_layRow.desc).map (fun d => d.parameters.length) = some 1 := by decide +kernel
theorem kw_X6_31 : ∀ w ∈ ([.methodLink RX6 31 yX6_layRow, .instanceMethod yX6_layRow, .selects RX6 yX6_layRow yX6_layRow, .initialized RX6, Cond.code yX6_layRow cX6_layRow 7 (none)] : List Cond), w ∈ tb := List.forall_mem_cons.mpr ⟨tb_in 465 (by decide +kernel) (by decide +kernel), List.forall_mem_cons.mpr ⟨tb_in 467 (by decide +kernel) (by decide +kernel), List.forall_mem_cons.mpr ⟨tb_in 2 (by decide +kernel) (by decide +kernel), List.forall_mem_cons.mpr ⟨tb_in 65 (by decide +kernel) (by decide +kernel), List.forall_mem_cons.mpr ⟨tb_in 468 (by decide +kernel) (by decide +kernel), fun _ h => absurd h List.not_mem_nil⟩⟩⟩⟩⟩
theorem kv_X3_isGame : yX3_isGame.cls = RX3 ∧ yX3_isGame.cls ≠ "java/lang/invoke/MethodHandle" ∧ yX3_isGame.cls ≠ "java/lang/invoke/VarHandle" ∧ (parseMethodDescriptor yX3_isGame.desc).map (fun d => d.parameters.length) = some 0 := by decide +kernel
theorem kw_X11_93 : ∀ w ∈ ([.methodLink RX11 93 yX3_isGame, .instanceMethod yX3_isGame, .selects RX3 yX3_isGame yX3_isGame, .initialized RX3, Cond.code yX3_isGame cX3_isGame 2 (some .boolean)] : List Cond), w ∈ tb := List.forall_mem_cons.mpr ⟨tb_in 454 (by decide +kernel) (by decide +kernel), List.forall_mem_cons.mpr ⟨tb_in 455 (by decide +kernel) (by decide +kernel), List.forall_mem_cons.mpr ⟨tb_in 456 (by decide +kernel) (by decide +kernel), List.forall_mem_cons.mpr ⟨tb_in 58 (by decide +kernel) (by decide +kernel), List.forall_mem_cons.mpr ⟨tb_in 457 (by decide +kernel) (by decide +kernel), fun _ h => absurd h List.not_mem_nil⟩⟩⟩⟩⟩
theorem kw_X11_97 : ∀ w ∈ ([.methodLink RX11 97 yX3_pegs, .instanceMethod yX3_pegs, .selects RX3 yX3_pegs yX3_pegs, .initialized RX3, Cond.code yX3_pegs cX3_pegs 1 (some .int)] : List Cond), w ∈ tb := List.forall_mem_cons.mpr ⟨tb_in 459 (by decide +kernel) (by decide +kernel), List.forall_mem_cons.mpr ⟨tb_in 355 (by decide +kernel) (by decide +kernel), List.forall_mem_cons.mpr ⟨tb_in 356 (by decide +kernel) (by decide +kernel), List.forall_mem_cons.mpr ⟨tb_in 58 (by decide +kernel) (by decide +kernel), List.forall_mem_cons.mpr ⟨tb_in 357 (by decide +kernel) (by decide +kernel), fun _ h => absurd h List.not_mem_nil⟩⟩⟩⟩⟩
theorem kw_X11_100 : ∀ w ∈ ([.methodLink RX11 100 yX3_colours, .instanceMethod yX3_colours, .selects RX3 yX3_colours yX3_colours, .initialized RX3, Cond.code yX3_colours cX3_colours 1 (some .int)] : List Cond), w ∈ tb := List.forall_mem_cons.mpr ⟨tb_in 460 (by decide +kernel) (by decide +kernel), List.forall_mem_cons.mpr ⟨tb_in 359 (by decide +kernel) (by decide +kernel), List.forall_mem_cons.mpr ⟨tb_in 360 (by decide +kernel) (by decide +kernel), List.forall_mem_cons.mpr ⟨tb_in 58 (by decide +kernel) (by decide +kernel), List.forall_mem_cons.mpr ⟨tb_in 361 (by decide +kernel) (by decide +kernel), fun _ h => absurd h List.not_mem_nil⟩⟩⟩⟩⟩
theorem kv_X6_lay : yX6_lay.cls = RX6 ∧ yX6_lay.cls ≠ "java/lang/invoke/MethodHandle" ∧ yX6_lay.cls ≠ "java/lang/invoke/VarHandle" ∧ (parseMethodDescriptor yX6_lay.desc).map (fun d => d.parameters.length) = some 2 := by decide +kernel
theorem kw_X11_103 : ∀ w ∈ ([.methodLink RX11 103 yX6_lay, .instanceMethod yX6_lay, .selects RX6 yX6_lay yX6_lay, .initialized RX6, Cond.code yX6_lay cX6_lay 4 (none)] : List Cond), w ∈ tb := List.forall_mem_cons.mpr ⟨tb_in 461 (by decide +kernel) (by decide +kernel), List.forall_mem_cons.mpr ⟨tb_in 462 (by decide +kernel) (by decide +kernel), List.forall_mem_cons.mpr ⟨tb_in 463 (by decide +kernel) (by decide +kernel), List.forall_mem_cons.mpr ⟨tb_in 65 (by decide +kernel) (by decide +kernel), List.forall_mem_cons.mpr ⟨tb_in 464 (by decide +kernel) (by decide +kernel), fun _ h => absurd h List.not_mem_nil⟩⟩⟩⟩⟩
theorem kv_X3_judgesWritten : yX3_judgesWritten.cls = RX3 ∧ yX3_judgesWritten.cls ≠ "java/lang/invoke/MethodHandle" ∧ yX3_judgesWritten.cls ≠ "java/lang/invoke/VarHandle" ∧ (parseMethodDescriptor yX3_judgesWritten.desc).map (fun d => d.parameters.length) = some 0 := by decide +kernel
theorem kw_X11_107 : ∀ w ∈ ([.methodLink RX11 107 yX3_judgesWritten, .instanceMethod yX3_judgesWritten, .selects RX3 yX3_judgesWritten yX3_judgesWritten, .initialized RX3, Cond.code yX3_judgesWritten cX3_judgesWritten 1 (some .int)] : List Cond), w ∈ tb := List.forall_mem_cons.mpr ⟨tb_in 476 (by decide +kernel) (by decide +kernel), List.forall_mem_cons.mpr ⟨tb_in 477 (by decide +kernel) (by decide +kernel), List.forall_mem_cons.mpr ⟨tb_in 478 (by decide +kernel) (by decide +kernel), List.forall_mem_cons.mpr ⟨tb_in 58 (by decide +kernel) (by decide +kernel), List.forall_mem_cons.mpr ⟨tb_in 479 (by decide +kernel) (by decide +kernel), fun _ h => absurd h List.not_mem_nil⟩⟩⟩⟩⟩
theorem kv_X3_kindWritten : yX3_kindWritten.cls = RX3 ∧ yX3_kindWritten.cls ≠ "java/lang/invoke/MethodHandle" ∧ yX3_kindWritten.cls ≠ "java/lang/invoke/VarHandle" ∧ (parseMethodDescriptor yX3_kindWritten.desc).map (fun d => d.parameters.length) = some 1 := by decide +kernel
theorem kw_X11_115 : ∀ w ∈ ([.methodLink RX11 115 yX3_kindWritten, .instanceMethod yX3_kindWritten, .selects RX3 yX3_kindWritten yX3_kindWritten, .initialized RX3, Cond.code yX3_kindWritten cX3_kindWritten 2 (some .int)] : List Cond), w ∈ tb := List.forall_mem_cons.mpr ⟨tb_in 480 (by decide +kernel) (by decide +kernel), List.forall_mem_cons.mpr ⟨tb_in 481 (by decide +kernel) (by decide +kernel), List.forall_mem_cons.mpr ⟨tb_in 482 (by decide +kernel) (by decide +kernel), List.forall_mem_cons.mpr ⟨tb_in 58 (by decide +kernel) (by decide +kernel), List.forall_mem_cons.mpr ⟨tb_in 483 (by decide +kernel) (by decide +kernel), fun _ h => absurd h List.not_mem_nil⟩⟩⟩⟩⟩
theorem kv_X3_rowWritten : yX3_rowWritten.cls = RX3 ∧ yX3_rowWritten.cls ≠ "java/lang/invoke/MethodHandle" ∧ yX3_rowWritten.cls ≠ "java/lang/invoke/VarHandle" ∧ (parseMethodDescriptor yX3_rowWritten.desc).map (fun d => d.parameters.length) = some 0 := by decide +kernel
theorem kw_X11_119 : ∀ w ∈ ([.methodLink RX11 119 yX3_rowWritten, .instanceMethod yX3_rowWritten, .selects RX3 yX3_rowWritten yX3_rowWritten, .initialized RX3, Cond.code yX3_rowWritten cX3_rowWritten 3 (some .int)] : List Cond), w ∈ tb := List.forall_mem_cons.mpr ⟨tb_in 484 (by decide +kernel) (by decide +kernel), List.forall_mem_cons.mpr ⟨tb_in 485 (by decide +kernel) (by decide +kernel), List.forall_mem_cons.mpr ⟨tb_in 486 (by decide +kernel) (by decide +kernel), List.forall_mem_cons.mpr ⟨tb_in 58 (by decide +kernel) (by decide +kernel), List.forall_mem_cons.mpr ⟨tb_in 487 (by decide +kernel) (by decide +kernel), fun _ h => absurd h List.not_mem_nil⟩⟩⟩⟩⟩
theorem kv_X0_take : yX0_take.cls = RX0 ∧ yX0_take.cls ≠ "java/lang/invoke/MethodHandle" ∧ yX0_take.cls ≠ "java/lang/invoke/VarHandle" ∧ (parseMethodDescriptor yX0_take.desc).map (fun d => d.parameters.length) = some 1 := by decide +kernel
theorem kw_X11_259 : ∀ w ∈ ([.methodLink RX11 259 yX0_take, .instanceMethod yX0_take, .selects RX0 yX0_take yX0_take, .initialized RX0, Cond.code yX0_take cX0_take 2 (none)] : List Cond), w ∈ tb := List.forall_mem_cons.mpr ⟨tb_in 744 (by decide +kernel) (by decide +kernel), List.forall_mem_cons.mpr ⟨tb_in 745 (by decide +kernel) (by decide +kernel), List.forall_mem_cons.mpr ⟨tb_in 746 (by decide +kernel) (by decide +kernel), List.forall_mem_cons.mpr ⟨tb_in 64 (by decide +kernel) (by decide +kernel), List.forall_mem_cons.mpr ⟨tb_in 747 (by decide +kernel) (by decide +kernel), fun _ h => absurd h List.not_mem_nil⟩⟩⟩⟩⟩
theorem kv_X3_append : yX3_append.cls = RX3 ∧ yX3_append.cls ≠ "java/lang/invoke/MethodHandle" ∧ yX3_append.cls ≠ "java/lang/invoke/VarHandle" ∧ (parseMethodDescriptor yX3_append.desc).map (fun d => d.parameters.length) = some 1 := by decide +kernel
theorem kw_X11_85 : ∀ w ∈ ([.methodLink RX11 85 yX3_append, .instanceMethod yX3_append, .selects RX3 yX3_append yX3_append, .initialized RX3, Cond.code yX3_append cX3_append 2 (none)] : List Cond), w ∈ tb := List.forall_mem_cons.mpr ⟨tb_in 330 (by decide +kernel) (by decide +kernel), List.forall_mem_cons.mpr ⟨tb_in 331 (by decide +kernel) (by decide +kernel), List.forall_mem_cons.mpr ⟨tb_in 332 (by decide +kernel) (by decide +kernel), List.forall_mem_cons.mpr ⟨tb_in 58 (by decide +kernel) (by decide +kernel), List.forall_mem_cons.mpr ⟨tb_in 333 (by decide +kernel) (by decide +kernel), fun _ h => absurd h List.not_mem_nil⟩⟩⟩⟩⟩
theorem kv_X0_append : yX0_append.cls = RX0 ∧ yX0_append.cls ≠ "java/lang/invoke/MethodHandle" ∧ yX0_append.cls ≠ "java/lang/invoke/VarHandle" ∧ (parseMethodDescriptor yX0_append.desc).map (fun d => d.parameters.length) = some 3 := by decide +kernel
theorem kw_X11_187 : ∀ w ∈ ([.methodLink RX11 187 yX0_append, .instanceMethod yX0_append, .selects RX0 yX0_append yX0_append, .initialized RX0, Cond.code yX0_append cX0_append 4 (none)] : List Cond), w ∈ tb := List.forall_mem_cons.mpr ⟨tb_in 609 (by decide +kernel) (by decide +kernel), List.forall_mem_cons.mpr ⟨tb_in 610 (by decide +kernel) (by decide +kernel), List.forall_mem_cons.mpr ⟨tb_in 611 (by decide +kernel) (by decide +kernel), List.forall_mem_cons.mpr ⟨tb_in 64 (by decide +kernel) (by decide +kernel), List.forall_mem_cons.mpr ⟨tb_in 612 (by decide +kernel) (by decide +kernel), fun _ h => absurd h List.not_mem_nil⟩⟩⟩⟩⟩
theorem kw_X4_46 : ∀ w ∈ ([.methodLink RX4 46 yX6_areTwins, .instanceMethod yX6_areTwins, .selects RX6 yX6_areTwins yX6_areTwins, .initialized RX6, Cond.code yX6_areTwins cX6_areTwins 6 (some .boolean)] : List Cond), w ∈ tb := List.forall_mem_cons.mpr ⟨tb_in 703 (by decide +kernel) (by decide +kernel), List.forall_mem_cons.mpr ⟨tb_in 570 (by decide +kernel) (by decide +kernel), List.forall_mem_cons.mpr ⟨tb_in 571 (by decide +kernel) (by decide +kernel), List.forall_mem_cons.mpr ⟨tb_in 65 (by decide +kernel) (by decide +kernel), List.forall_mem_cons.mpr ⟨tb_in 572 (by decide +kernel) (by decide +kernel), fun _ h => absurd h List.not_mem_nil⟩⟩⟩⟩⟩
theorem kw_X4_53_X2 : ∀ w ∈ ([.methodLink RX4 53 yX2_word, .instanceMethod yX2_word, .selects RX2 yX2_word yX2_word, .initialized RX2, Cond.code yX2_word cX2_word 4 (some .int)] : List Cond), w ∈ tb := List.forall_mem_cons.mpr ⟨tb_in 708 (by decide +kernel) (by decide +kernel), List.forall_mem_cons.mpr ⟨tb_in 509 (by decide +kernel) (by decide +kernel), List.forall_mem_cons.mpr ⟨tb_in 510 (by decide +kernel) (by decide +kernel), List.forall_mem_cons.mpr ⟨tb_in 59 (by decide +kernel) (by decide +kernel), List.forall_mem_cons.mpr ⟨tb_in 548 (by decide +kernel) (by decide +kernel), fun _ h => absurd h List.not_mem_nil⟩⟩⟩⟩⟩
theorem kw_X4_53_X7 : ∀ w ∈ ([.methodLink RX4 53 yX2_word, .sameMethod yX2_word.cls RX2 yX2_word.name yX2_word.desc, .instanceMethod ⟨RX2, yX2_word.name, yX2_word.desc⟩, .selects RX7 yX2_word yX7_word, .instanceMethod yX7_word, .initialized yX7_word.cls, Cond.code yX7_word cX7_word 4 (some .int), Cond.code ⟨RX2, yX2_word.name, yX2_word.desc⟩ cX2_word 4 (some .int)] : List Cond), w ∈ tb := List.forall_mem_cons.mpr ⟨tb_in 708 (by decide +kernel) (by decide +kernel), List.forall_mem_cons.mpr ⟨tb_in 511 (by decide +kernel) (by decide +kernel), List.forall_mem_cons.mpr ⟨tb_in 509 (by decide +kernel) (by decide +kernel), List.forall_mem_cons.mpr ⟨tb_in 525 (by decide +kernel) (by decide +kernel), List.forall_mem_cons.mpr ⟨tb_in 526 (by decide +kernel) (by decide +kernel), List.forall_mem_cons.mpr ⟨tb_in 60 (by decide +kernel) (by decide +kernel), List.forall_mem_cons.mpr ⟨tb_in 527 (by decide +kernel) (by decide +kernel), List.forall_mem_cons.mpr ⟨tb_in 548 (by decide +kernel) (by decide +kernel), fun _ h => absurd h List.not_mem_nil⟩⟩⟩⟩⟩⟩⟩⟩
theorem kw_X4_53_X8 : ∀ w ∈ ([.methodLink RX4 53 yX2_word, .sameMethod yX2_word.cls RX2 yX2_word.name yX2_word.desc, .instanceMethod ⟨RX2, yX2_word.name, yX2_word.desc⟩, .selects RX8 yX2_word yX8_word, .instanceMethod yX8_word, .initialized yX8_word.cls, Cond.code yX8_word cX8_word 4 (some .int), Cond.code ⟨RX2, yX2_word.name, yX2_word.desc⟩ cX2_word 4 (some .int)] : List Cond), w ∈ tb := List.forall_mem_cons.mpr ⟨tb_in 708 (by decide +kernel) (by decide +kernel), List.forall_mem_cons.mpr ⟨tb_in 511 (by decide +kernel) (by decide +kernel), List.forall_mem_cons.mpr ⟨tb_in 509 (by decide +kernel) (by decide +kernel), List.forall_mem_cons.mpr ⟨tb_in 529 (by decide +kernel) (by decide +kernel), List.forall_mem_cons.mpr ⟨tb_in 530 (by decide +kernel) (by decide +kernel), List.forall_mem_cons.mpr ⟨tb_in 61 (by decide +kernel) (by decide +kernel), List.forall_mem_cons.mpr ⟨tb_in 531 (by decide +kernel) (by decide +kernel), List.forall_mem_cons.mpr ⟨tb_in 548 (by decide +kernel) (by decide +kernel), fun _ h => absurd h List.not_mem_nil⟩⟩⟩⟩⟩⟩⟩⟩
theorem kw_X4_53_X10 : ∀ w ∈ ([.methodLink RX4 53 yX2_word, .sameMethod yX2_word.cls RX2 yX2_word.name yX2_word.desc, .instanceMethod ⟨RX2, yX2_word.name, yX2_word.desc⟩, .selects RX10 yX2_word yX10_word, .instanceMethod yX10_word, .initialized yX10_word.cls, Cond.code yX10_word cX10_word 4 (some .int), Cond.code ⟨RX2, yX2_word.name, yX2_word.desc⟩ cX2_word 4 (some .int)] : List Cond), w ∈ tb := List.forall_mem_cons.mpr ⟨tb_in 708 (by decide +kernel) (by decide +kernel), List.forall_mem_cons.mpr ⟨tb_in 511 (by decide +kernel) (by decide +kernel), List.forall_mem_cons.mpr ⟨tb_in 509 (by decide +kernel) (by decide +kernel), List.forall_mem_cons.mpr ⟨tb_in 536 (by decide +kernel) (by decide +kernel), List.forall_mem_cons.mpr ⟨tb_in 537 (by decide +kernel) (by decide +kernel), List.forall_mem_cons.mpr ⟨tb_in 62 (by decide +kernel) (by decide +kernel), List.forall_mem_cons.mpr ⟨tb_in 538 (by decide +kernel) (by decide +kernel), List.forall_mem_cons.mpr ⟨tb_in 548 (by decide +kernel) (by decide +kernel), fun _ h => absurd h List.not_mem_nil⟩⟩⟩⟩⟩⟩⟩⟩
theorem kw_X4_53_X1 : ∀ w ∈ ([.methodLink RX4 53 yX2_word, .sameMethod yX2_word.cls RX2 yX2_word.name yX2_word.desc, .instanceMethod ⟨RX2, yX2_word.name, yX2_word.desc⟩, .selects RX1 yX2_word yX1_word, .instanceMethod yX1_word, .initialized yX1_word.cls, Cond.code yX1_word cX1_word 4 (some .int), Cond.code ⟨RX2, yX2_word.name, yX2_word.desc⟩ cX2_word 4 (some .int)] : List Cond), w ∈ tb := List.forall_mem_cons.mpr ⟨tb_in 708 (by decide +kernel) (by decide +kernel), List.forall_mem_cons.mpr ⟨tb_in 511 (by decide +kernel) (by decide +kernel), List.forall_mem_cons.mpr ⟨tb_in 509 (by decide +kernel) (by decide +kernel), List.forall_mem_cons.mpr ⟨tb_in 512 (by decide +kernel) (by decide +kernel), List.forall_mem_cons.mpr ⟨tb_in 513 (by decide +kernel) (by decide +kernel), List.forall_mem_cons.mpr ⟨tb_in 63 (by decide +kernel) (by decide +kernel), List.forall_mem_cons.mpr ⟨tb_in 514 (by decide +kernel) (by decide +kernel), List.forall_mem_cons.mpr ⟨tb_in 548 (by decide +kernel) (by decide +kernel), fun _ h => absurd h List.not_mem_nil⟩⟩⟩⟩⟩⟩⟩⟩
theorem kv_X4_sortsOfRows : yX4_sortsOfRows.cls = RX4 ∧ yX4_sortsOfRows.cls ≠ "java/lang/invoke/MethodHandle" ∧ yX4_sortsOfRows.cls ≠ "java/lang/invoke/VarHandle" ∧ (parseMethodDescriptor yX4_sortsOfRows.desc).map (fun d => d.parameters.length) = some 1 := by decide +kernel
theorem kw_X4_19 : ∀ w ∈ ([.methodLink RX4 19 yX4_sortsOfRows, .instanceMethod yX4_sortsOfRows, .selects RX4 yX4_sortsOfRows yX4_sortsOfRows, .initialized RX4, Cond.code yX4_sortsOfRows cX4_sortsOfRows 6 (some .int)] : List Cond), w ∈ tb := List.forall_mem_cons.mpr ⟨tb_in 699 (by decide +kernel) (by decide +kernel), List.forall_mem_cons.mpr ⟨tb_in 701 (by decide +kernel) (by decide +kernel), List.forall_mem_cons.mpr ⟨tb_in 14 (by decide +kernel) (by decide +kernel), List.forall_mem_cons.mpr ⟨tb_in 67 (by decide +kernel) (by decide +kernel), List.forall_mem_cons.mpr ⟨tb_in 702 (by decide +kernel) (by decide +kernel), fun _ h => absurd h List.not_mem_nil⟩⟩⟩⟩⟩
theorem kv_X4_partsBy : yX4_partsBy.cls = RX4 ∧ yX4_partsBy.cls ≠ "java/lang/invoke/MethodHandle" ∧ yX4_partsBy.cls ≠ "java/lang/invoke/VarHandle" ∧ (parseMethodDescriptor yX4_partsBy.desc).map (fun d => d.parameters.length) = some 3 := by decide +kernel
theorem kw_X4_29 : ∀ w ∈ ([.methodLink RX4 29 yX4_partsBy, .instanceMethod yX4_partsBy, .selects RX4 yX4_partsBy yX4_partsBy, .initialized RX4, Cond.code yX4_partsBy cX4_partsBy 7 (some .int)] : List Cond), w ∈ tb := List.forall_mem_cons.mpr ⟨tb_in 704 (by decide +kernel) (by decide +kernel), List.forall_mem_cons.mpr ⟨tb_in 706 (by decide +kernel) (by decide +kernel), List.forall_mem_cons.mpr ⟨tb_in 15 (by decide +kernel) (by decide +kernel), List.forall_mem_cons.mpr ⟨tb_in 67 (by decide +kernel) (by decide +kernel), List.forall_mem_cons.mpr ⟨tb_in 707 (by decide +kernel) (by decide +kernel), fun _ h => absurd h List.not_mem_nil⟩⟩⟩⟩⟩
theorem kv_X4_answer : yX4_answer.cls = RX4 ∧ yX4_answer.cls ≠ "java/lang/invoke/MethodHandle" ∧ yX4_answer.cls ≠ "java/lang/invoke/VarHandle" ∧ (parseMethodDescriptor yX4_answer.desc).map (fun d => d.parameters.length) = some 3 := by decide +kernel
theorem kw_X4_33 : ∀ w ∈ ([.methodLink RX4 33 yX4_answer, .instanceMethod yX4_answer, .selects RX4 yX4_answer yX4_answer, .initialized RX4, Cond.code yX4_answer cX4_answer 4 (none)] : List Cond), w ∈ tb := List.forall_mem_cons.mpr ⟨tb_in 709 (by decide +kernel) (by decide +kernel), List.forall_mem_cons.mpr ⟨tb_in 711 (by decide +kernel) (by decide +kernel), List.forall_mem_cons.mpr ⟨tb_in 16 (by decide +kernel) (by decide +kernel), List.forall_mem_cons.mpr ⟨tb_in 67 (by decide +kernel) (by decide +kernel), List.forall_mem_cons.mpr ⟨tb_in 712 (by decide +kernel) (by decide +kernel), fun _ h => absurd h List.not_mem_nil⟩⟩⟩⟩⟩
theorem kv_X4_find : yX4_find.cls = RX4 ∧ yX4_find.cls ≠ "java/lang/invoke/MethodHandle" ∧ yX4_find.cls ≠ "java/lang/invoke/VarHandle" ∧ (parseMethodDescriptor yX4_find.desc).map (fun d => d.parameters.length) = some 1 := by decide +kernel
theorem kw_X11_234 : ∀ w ∈ ([.methodLink RX11 234 yX4_find, .instanceMethod yX4_find, .selects RX4 yX4_find yX4_find, .initialized RX4, Cond.code yX4_find cX4_find 5 (none)] : List Cond), w ∈ tb := List.forall_mem_cons.mpr ⟨tb_in 695 (by decide +kernel) (by decide +kernel), List.forall_mem_cons.mpr ⟨tb_in 696 (by decide +kernel) (by decide +kernel), List.forall_mem_cons.mpr ⟨tb_in 697 (by decide +kernel) (by decide +kernel), List.forall_mem_cons.mpr ⟨tb_in 67 (by decide +kernel) (by decide +kernel), List.forall_mem_cons.mpr ⟨tb_in 698 (by decide +kernel) (by decide +kernel), fun _ h => absurd h List.not_mem_nil⟩⟩⟩⟩⟩
theorem kv_X11_fitting : yX11_fitting.cls = RX11 ∧ yX11_fitting.cls ≠ "java/lang/invoke/MethodHandle" ∧ yX11_fitting.cls ≠ "java/lang/invoke/VarHandle" ∧ (parseMethodDescriptor yX11_fitting.desc).map (fun d => d.parameters.length) = some 1 := by decide +kernel
theorem kw_X11_165 : ∀ w ∈ ([.methodLink RX11 165 yX11_fitting, .instanceMethod yX11_fitting, .selects RX11 yX11_fitting yX11_fitting, .initialized RX11, Cond.code yX11_fitting cX11_fitting 4 (some .boolean)] : List Cond), w ∈ tb := List.forall_mem_cons.mpr ⟨tb_in 592 (by decide +kernel) (by decide +kernel), List.forall_mem_cons.mpr ⟨tb_in 594 (by decide +kernel) (by decide +kernel), List.forall_mem_cons.mpr ⟨tb_in 10 (by decide +kernel) (by decide +kernel), List.forall_mem_cons.mpr ⟨tb_in 57 (by decide +kernel) (by decide +kernel), List.forall_mem_cons.mpr ⟨tb_in 595 (by decide +kernel) (by decide +kernel), fun _ h => absurd h List.not_mem_nil⟩⟩⟩⟩⟩
theorem kw_X11_170 : ∀ w ∈ ([.methodLink RX11 170 yX6_colour, .instanceMethod yX6_colour, .selects RX6 yX6_colour yX6_colour, .initialized RX6, Cond.code yX6_colour cX6_colour 5 (some .int)] : List Cond), w ∈ tb := List.forall_mem_cons.mpr ⟨tb_in 596 (by decide +kernel) (by decide +kernel), List.forall_mem_cons.mpr ⟨tb_in 470 (by decide +kernel) (by decide +kernel), List.forall_mem_cons.mpr ⟨tb_in 471 (by decide +kernel) (by decide +kernel), List.forall_mem_cons.mpr ⟨tb_in 65 (by decide +kernel) (by decide +kernel), List.forall_mem_cons.mpr ⟨tb_in 472 (by decide +kernel) (by decide +kernel), fun _ h => absurd h List.not_mem_nil⟩⟩⟩⟩⟩
theorem kv_X9_draw : yX9_draw.cls = RX9 ∧ yX9_draw.cls ≠ "java/lang/invoke/MethodHandle" ∧ yX9_draw.cls ≠ "java/lang/invoke/VarHandle" ∧ (parseMethodDescriptor yX9_draw.desc).map (fun d => d.parameters.length) = some 1 := by decide +kernel
theorem kw_X9_36 : ∀ w ∈ ([.methodLink RX9 36 yX9_draw, .instanceMethod yX9_draw, .selects RX9 yX9_draw yX9_draw, .initialized RX9, Cond.code yX9_draw cX9_draw 2 (some .int)] : List Cond), w ∈ tb := List.forall_mem_cons.mpr ⟨tb_in 725 (by decide +kernel) (by decide +kernel), List.forall_mem_cons.mpr ⟨tb_in 727 (by decide +kernel) (by decide +kernel), List.forall_mem_cons.mpr ⟨tb_in 18 (by decide +kernel) (by decide +kernel), List.forall_mem_cons.mpr ⟨tb_in 68 (by decide +kernel) (by decide +kernel), List.forall_mem_cons.mpr ⟨tb_in 728 (by decide +kernel) (by decide +kernel), fun _ h => absurd h List.not_mem_nil⟩⟩⟩⟩⟩
theorem kw_X9_40 : ∀ w ∈ ([.methodLink RX9 40 yX5_fill, .instanceMethod yX5_fill, .selects RX5 yX5_fill yX5_fill, .initialized RX5, Cond.code yX5_fill cX5_fill 2 (none)] : List Cond), w ∈ tb := List.forall_mem_cons.mpr ⟨tb_in 733 (by decide +kernel) (by decide +kernel), List.forall_mem_cons.mpr ⟨tb_in 622 (by decide +kernel) (by decide +kernel), List.forall_mem_cons.mpr ⟨tb_in 623 (by decide +kernel) (by decide +kernel), List.forall_mem_cons.mpr ⟨tb_in 66 (by decide +kernel) (by decide +kernel), List.forall_mem_cons.mpr ⟨tb_in 624 (by decide +kernel) (by decide +kernel), fun _ h => absurd h List.not_mem_nil⟩⟩⟩⟩⟩
theorem kw_X9_50_X2 : ∀ w ∈ ([.methodLink RX9 50 yX2_word, .instanceMethod yX2_word, .selects RX2 yX2_word yX2_word, .initialized RX2, Cond.code yX2_word cX2_word 4 (some .int)] : List Cond), w ∈ tb := List.forall_mem_cons.mpr ⟨tb_in 734 (by decide +kernel) (by decide +kernel), List.forall_mem_cons.mpr ⟨tb_in 509 (by decide +kernel) (by decide +kernel), List.forall_mem_cons.mpr ⟨tb_in 510 (by decide +kernel) (by decide +kernel), List.forall_mem_cons.mpr ⟨tb_in 59 (by decide +kernel) (by decide +kernel), List.forall_mem_cons.mpr ⟨tb_in 548 (by decide +kernel) (by decide +kernel), fun _ h => absurd h List.not_mem_nil⟩⟩⟩⟩⟩
theorem kw_X9_50_X7 : ∀ w ∈ ([.methodLink RX9 50 yX2_word, .sameMethod yX2_word.cls RX2 yX2_word.name yX2_word.desc, .instanceMethod ⟨RX2, yX2_word.name, yX2_word.desc⟩, .selects RX7 yX2_word yX7_word, .instanceMethod yX7_word, .initialized yX7_word.cls, Cond.code yX7_word cX7_word 4 (some .int), Cond.code ⟨RX2, yX2_word.name, yX2_word.desc⟩ cX2_word 4 (some .int)] : List Cond), w ∈ tb := List.forall_mem_cons.mpr ⟨tb_in 734 (by decide +kernel) (by decide +kernel), List.forall_mem_cons.mpr ⟨tb_in 511 (by decide +kernel) (by decide +kernel), List.forall_mem_cons.mpr ⟨tb_in 509 (by decide +kernel) (by decide +kernel), List.forall_mem_cons.mpr ⟨tb_in 525 (by decide +kernel) (by decide +kernel), List.forall_mem_cons.mpr ⟨tb_in 526 (by decide +kernel) (by decide +kernel), List.forall_mem_cons.mpr ⟨tb_in 60 (by decide +kernel) (by decide +kernel), List.forall_mem_cons.mpr ⟨tb_in 527 (by decide +kernel) (by decide +kernel), List.forall_mem_cons.mpr ⟨tb_in 548 (by decide +kernel) (by decide +kernel), fun _ h => absurd h List.not_mem_nil⟩⟩⟩⟩⟩⟩⟩⟩
theorem kw_X9_50_X8 : ∀ w ∈ ([.methodLink RX9 50 yX2_word, .sameMethod yX2_word.cls RX2 yX2_word.name yX2_word.desc, .instanceMethod ⟨RX2, yX2_word.name, yX2_word.desc⟩, .selects RX8 yX2_word yX8_word, .instanceMethod yX8_word, .initialized yX8_word.cls, Cond.code yX8_word cX8_word 4 (some .int), Cond.code ⟨RX2, yX2_word.name, yX2_word.desc⟩ cX2_word 4 (some .int)] : List Cond), w ∈ tb := List.forall_mem_cons.mpr ⟨tb_in 734 (by decide +kernel) (by decide +kernel), List.forall_mem_cons.mpr ⟨tb_in 511 (by decide +kernel) (by decide +kernel), List.forall_mem_cons.mpr ⟨tb_in 509 (by decide +kernel) (by decide +kernel), List.forall_mem_cons.mpr ⟨tb_in 529 (by decide +kernel) (by decide +kernel), List.forall_mem_cons.mpr ⟨tb_in 530 (by decide +kernel) (by decide +kernel), List.forall_mem_cons.mpr ⟨tb_in 61 (by decide +kernel) (by decide +kernel), List.forall_mem_cons.mpr ⟨tb_in 531 (by decide +kernel) (by decide +kernel), List.forall_mem_cons.mpr ⟨tb_in 548 (by decide +kernel) (by decide +kernel), fun _ h => absurd h List.not_mem_nil⟩⟩⟩⟩⟩⟩⟩⟩
theorem kw_X9_50_X10 : ∀ w ∈ ([.methodLink RX9 50 yX2_word, .sameMethod yX2_word.cls RX2 yX2_word.name yX2_word.desc, .instanceMethod ⟨RX2, yX2_word.name, yX2_word.desc⟩, .selects RX10 yX2_word yX10_word, .instanceMethod yX10_word, .initialized yX10_word.cls, Cond.code yX10_word cX10_word 4 (some .int), Cond.code ⟨RX2, yX2_word.name, yX2_word.desc⟩ cX2_word 4 (some .int)] : List Cond), w ∈ tb := List.forall_mem_cons.mpr ⟨tb_in 734 (by decide +kernel) (by decide +kernel), List.forall_mem_cons.mpr ⟨tb_in 511 (by decide +kernel) (by decide +kernel), List.forall_mem_cons.mpr ⟨tb_in 509 (by decide +kernel) (by decide +kernel), List.forall_mem_cons.mpr ⟨tb_in 536 (by decide +kernel) (by decide +kernel), List.forall_mem_cons.mpr ⟨tb_in 537 (by decide +kernel) (by decide +kernel), List.forall_mem_cons.mpr ⟨tb_in 62 (by decide +kernel) (by decide +kernel), List.forall_mem_cons.mpr ⟨tb_in 538 (by decide +kernel) (by decide +kernel), List.forall_mem_cons.mpr ⟨tb_in 548 (by decide +kernel) (by decide +kernel), fun _ h => absurd h List.not_mem_nil⟩⟩⟩⟩⟩⟩⟩⟩
theorem kw_X9_50_X1 : ∀ w ∈ ([.methodLink RX9 50 yX2_word, .sameMethod yX2_word.cls RX2 yX2_word.name yX2_word.desc, .instanceMethod ⟨RX2, yX2_word.name, yX2_word.desc⟩, .selects RX1 yX2_word yX1_word, .instanceMethod yX1_word, .initialized yX1_word.cls, Cond.code yX1_word cX1_word 4 (some .int), Cond.code ⟨RX2, yX2_word.name, yX2_word.desc⟩ cX2_word 4 (some .int)] : List Cond), w ∈ tb := List.forall_mem_cons.mpr ⟨tb_in 734 (by decide +kernel) (by decide +kernel), List.forall_mem_cons.mpr ⟨tb_in 511 (by decide +kernel) (by decide +kernel), List.forall_mem_cons.mpr ⟨tb_in 509 (by decide +kernel) (by decide +kernel), List.forall_mem_cons.mpr ⟨tb_in 512 (by decide +kernel) (by decide +kernel), List.forall_mem_cons.mpr ⟨tb_in 513 (by decide +kernel) (by decide +kernel), List.forall_mem_cons.mpr ⟨tb_in 63 (by decide +kernel) (by decide +kernel), List.forall_mem_cons.mpr ⟨tb_in 514 (by decide +kernel) (by decide +kernel), List.forall_mem_cons.mpr ⟨tb_in 548 (by decide +kernel) (by decide +kernel), fun _ h => absurd h List.not_mem_nil⟩⟩⟩⟩⟩⟩⟩⟩
theorem kw_X9_56 : ∀ w ∈ ([.methodLink RX9 56 yX5_keep, .instanceMethod yX5_keep, .selects RX5 yX5_keep yX5_keep, .initialized RX5, Cond.code yX5_keep cX5_keep 7 (none)] : List Cond), w ∈ tb := List.forall_mem_cons.mpr ⟨tb_in 735 (by decide +kernel) (by decide +kernel), List.forall_mem_cons.mpr ⟨tb_in 626 (by decide +kernel) (by decide +kernel), List.forall_mem_cons.mpr ⟨tb_in 627 (by decide +kernel) (by decide +kernel), List.forall_mem_cons.mpr ⟨tb_in 66 (by decide +kernel) (by decide +kernel), List.forall_mem_cons.mpr ⟨tb_in 628 (by decide +kernel) (by decide +kernel), fun _ h => absurd h List.not_mem_nil⟩⟩⟩⟩⟩
theorem kv_X5_drop : yX5_drop.cls = RX5 ∧ yX5_drop.cls ≠ "java/lang/invoke/MethodHandle" ∧ yX5_drop.cls ≠ "java/lang/invoke/VarHandle" ∧ (parseMethodDescriptor yX5_drop.desc).map (fun d => d.parameters.length) = some 1 := by decide +kernel
theorem kw_X9_60 : ∀ w ∈ ([.methodLink RX9 60 yX5_drop, .instanceMethod yX5_drop, .selects RX5 yX5_drop yX5_drop, .initialized RX5, Cond.code yX5_drop cX5_drop 4 (none)] : List Cond), w ∈ tb := List.forall_mem_cons.mpr ⟨tb_in 736 (by decide +kernel) (by decide +kernel), List.forall_mem_cons.mpr ⟨tb_in 737 (by decide +kernel) (by decide +kernel), List.forall_mem_cons.mpr ⟨tb_in 738 (by decide +kernel) (by decide +kernel), List.forall_mem_cons.mpr ⟨tb_in 66 (by decide +kernel) (by decide +kernel), List.forall_mem_cons.mpr ⟨tb_in 739 (by decide +kernel) (by decide +kernel), fun _ h => absurd h List.not_mem_nil⟩⟩⟩⟩⟩
theorem kv_X9_playOne : yX9_playOne.cls = RX9 ∧ yX9_playOne.cls ≠ "java/lang/invoke/MethodHandle" ∧ yX9_playOne.cls ≠ "java/lang/invoke/VarHandle" ∧ (parseMethodDescriptor yX9_playOne.desc).map (fun d => d.parameters.length) = some 1 := by decide +kernel
theorem kw_X9_27 : ∀ w ∈ ([.methodLink RX9 27 yX9_playOne, .instanceMethod yX9_playOne, .selects RX9 yX9_playOne yX9_playOne, .initialized RX9, Cond.code yX9_playOne cX9_playOne 5 (some .int)] : List Cond), w ∈ tb := List.forall_mem_cons.mpr ⟨tb_in 721 (by decide +kernel) (by decide +kernel), List.forall_mem_cons.mpr ⟨tb_in 723 (by decide +kernel) (by decide +kernel), List.forall_mem_cons.mpr ⟨tb_in 17 (by decide +kernel) (by decide +kernel), List.forall_mem_cons.mpr ⟨tb_in 68 (by decide +kernel) (by decide +kernel), List.forall_mem_cons.mpr ⟨tb_in 724 (by decide +kernel) (by decide +kernel), fun _ h => absurd h List.not_mem_nil⟩⟩⟩⟩⟩
theorem kv_X9_play : yX9_play.cls = RX9 ∧ yX9_play.cls ≠ "java/lang/invoke/MethodHandle" ∧ yX9_play.cls ≠ "java/lang/invoke/VarHandle" ∧ (parseMethodDescriptor yX9_play.desc).map (fun d => d.parameters.length) = some 3 := by decide +kernel
theorem kw_X11_247 : ∀ w ∈ ([.methodLink RX11 247 yX9_play, .instanceMethod yX9_play, .selects RX9 yX9_play yX9_play, .initialized RX9, Cond.code yX9_play cX9_play 6 (none)] : List Cond), w ∈ tb := List.forall_mem_cons.mpr ⟨tb_in 717 (by decide +kernel) (by decide +kernel), List.forall_mem_cons.mpr ⟨tb_in 718 (by decide +kernel) (by decide +kernel), List.forall_mem_cons.mpr ⟨tb_in 719 (by decide +kernel) (by decide +kernel), List.forall_mem_cons.mpr ⟨tb_in 68 (by decide +kernel) (by decide +kernel), List.forall_mem_cons.mpr ⟨tb_in 720 (by decide +kernel) (by decide +kernel), fun _ h => absurd h List.not_mem_nil⟩⟩⟩⟩⟩
theorem kv_X12_peg : yX12_peg.cls = RX12 ∧ yX12_peg.cls ≠ "java/lang/invoke/MethodHandle" ∧ yX12_peg.cls ≠ "java/lang/invoke/VarHandle" ∧ (parseMethodDescriptor yX12_peg.desc).map (fun d => d.parameters.length) = some 2 := by decide +kernel
theorem kw_X12_99 : ∀ w ∈ ([.methodLink RX12 99 yX12_peg, .instanceMethod yX12_peg, .selects RX12 yX12_peg yX12_peg, .initialized RX12, Cond.code yX12_peg cX12_peg 5 (some .int)] : List Cond), w ∈ tb := List.forall_mem_cons.mpr ⟨tb_in 922 (by decide +kernel) (by decide +kernel), List.forall_mem_cons.mpr ⟨tb_in 924 (by decide +kernel) (by decide +kernel), List.forall_mem_cons.mpr ⟨tb_in 26 (by decide +kernel) (by decide +kernel), List.forall_mem_cons.mpr ⟨tb_in 69 (by decide +kernel) (by decide +kernel), List.forall_mem_cons.mpr ⟨tb_in 925 (by decide +kernel) (by decide +kernel), fun _ h => absurd h List.not_mem_nil⟩⟩⟩⟩⟩
theorem ks_X12_in : yX12_in.cls ≠ "java/lang/invoke/MethodHandle" ∧ yX12_in.cls ≠ "java/lang/invoke/VarHandle" ∧ (parseMethodDescriptor yX12_in.desc).map (fun d => d.parameters.length) = some 3 := by decide +kernel
theorem kw_X12_46 : ∀ w ∈ ([.methodLink RX12 46 yX12_in, .static yX12_in, .initialized yX12_in.cls, Cond.code yX12_in cX12_in 6 (some .boolean)] : List Cond), w ∈ tb := List.forall_mem_cons.mpr ⟨tb_in 867 (by decide +kernel) (by decide +kernel), List.forall_mem_cons.mpr ⟨tb_in 868 (by decide +kernel) (by decide +kernel), List.forall_mem_cons.mpr ⟨tb_in 69 (by decide +kernel) (by decide +kernel), List.forall_mem_cons.mpr ⟨tb_in 869 (by decide +kernel) (by decide +kernel), fun _ h => absurd h List.not_mem_nil⟩⟩⟩⟩
theorem kv_X12_isJudge : yX12_isJudge.cls = RX12 ∧ yX12_isJudge.cls ≠ "java/lang/invoke/MethodHandle" ∧ yX12_isJudge.cls ≠ "java/lang/invoke/VarHandle" ∧ (parseMethodDescriptor yX12_isJudge.desc).map (fun d => d.parameters.length) = some 1 := by decide +kernel
theorem kw_X12_110 : ∀ w ∈ ([.methodLink RX12 110 yX12_isJudge, .instanceMethod yX12_isJudge, .selects RX12 yX12_isJudge yX12_isJudge, .initialized RX12, Cond.code yX12_isJudge cX12_isJudge 2 (some .boolean)] : List Cond), w ∈ tb := List.forall_mem_cons.mpr ⟨tb_in 906 (by decide +kernel) (by decide +kernel), List.forall_mem_cons.mpr ⟨tb_in 908 (by decide +kernel) (by decide +kernel), List.forall_mem_cons.mpr ⟨tb_in 22 (by decide +kernel) (by decide +kernel), List.forall_mem_cons.mpr ⟨tb_in 69 (by decide +kernel) (by decide +kernel), List.forall_mem_cons.mpr ⟨tb_in 909 (by decide +kernel) (by decide +kernel), fun _ h => absurd h List.not_mem_nil⟩⟩⟩⟩⟩
theorem kv_X12_right : yX12_right.cls = RX12 ∧ yX12_right.cls ≠ "java/lang/invoke/MethodHandle" ∧ yX12_right.cls ≠ "java/lang/invoke/VarHandle" ∧ (parseMethodDescriptor yX12_right.desc).map (fun d => d.parameters.length) = some 3 := by decide +kernel
theorem kw_X12_103 : ∀ w ∈ ([.methodLink RX12 103 yX12_right, .instanceMethod yX12_right, .selects RX12 yX12_right yX12_right, .initialized RX12, Cond.code yX12_right cX12_right 6 (some .int)] : List Cond), w ∈ tb := List.forall_mem_cons.mpr ⟨tb_in 918 (by decide +kernel) (by decide +kernel), List.forall_mem_cons.mpr ⟨tb_in 920 (by decide +kernel) (by decide +kernel), List.forall_mem_cons.mpr ⟨tb_in 25 (by decide +kernel) (by decide +kernel), List.forall_mem_cons.mpr ⟨tb_in 69 (by decide +kernel) (by decide +kernel), List.forall_mem_cons.mpr ⟨tb_in 921 (by decide +kernel) (by decide +kernel), fun _ h => absurd h List.not_mem_nil⟩⟩⟩⟩⟩
theorem kv_X12_alike : yX12_alike.cls = RX12 ∧ yX12_alike.cls ≠ "java/lang/invoke/MethodHandle" ∧ yX12_alike.cls ≠ "java/lang/invoke/VarHandle" ∧ (parseMethodDescriptor yX12_alike.desc).map (fun d => d.parameters.length) = some 2 := by decide +kernel
theorem kw_X12_107 : ∀ w ∈ ([.methodLink RX12 107 yX12_alike, .instanceMethod yX12_alike, .selects RX12 yX12_alike yX12_alike, .initialized RX12, Cond.code yX12_alike cX12_alike 8 (some .int)] : List Cond), w ∈ tb := List.forall_mem_cons.mpr ⟨tb_in 926 (by decide +kernel) (by decide +kernel), List.forall_mem_cons.mpr ⟨tb_in 928 (by decide +kernel) (by decide +kernel), List.forall_mem_cons.mpr ⟨tb_in 27 (by decide +kernel) (by decide +kernel), List.forall_mem_cons.mpr ⟨tb_in 69 (by decide +kernel) (by decide +kernel), List.forall_mem_cons.mpr ⟨tb_in 929 (by decide +kernel) (by decide +kernel), fun _ h => absurd h List.not_mem_nil⟩⟩⟩⟩⟩
theorem kv_X12_tellsBy : yX12_tellsBy.cls = RX12 ∧ yX12_tellsBy.cls ≠ "java/lang/invoke/MethodHandle" ∧ yX12_tellsBy.cls ≠ "java/lang/invoke/VarHandle" ∧ (parseMethodDescriptor yX12_tellsBy.desc).map (fun d => d.parameters.length) = some 3 := by decide +kernel
theorem kw_X12_116 : ∀ w ∈ ([.methodLink RX12 116 yX12_tellsBy, .instanceMethod yX12_tellsBy, .selects RX12 yX12_tellsBy yX12_tellsBy, .initialized RX12, Cond.code yX12_tellsBy cX12_tellsBy 5 (some .int)] : List Cond), w ∈ tb := List.forall_mem_cons.mpr ⟨tb_in 914 (by decide +kernel) (by decide +kernel), List.forall_mem_cons.mpr ⟨tb_in 916 (by decide +kernel) (by decide +kernel), List.forall_mem_cons.mpr ⟨tb_in 24 (by decide +kernel) (by decide +kernel), List.forall_mem_cons.mpr ⟨tb_in 69 (by decide +kernel) (by decide +kernel), List.forall_mem_cons.mpr ⟨tb_in 917 (by decide +kernel) (by decide +kernel), fun _ h => absurd h List.not_mem_nil⟩⟩⟩⟩⟩
theorem kv_X12_isFit : yX12_isFit.cls = RX12 ∧ yX12_isFit.cls ≠ "java/lang/invoke/MethodHandle" ∧ yX12_isFit.cls ≠ "java/lang/invoke/VarHandle" ∧ (parseMethodDescriptor yX12_isFit.desc).map (fun d => d.parameters.length) = some 1 := by decide +kernel
theorem kw_X12_120 : ∀ w ∈ ([.methodLink RX12 120 yX12_isFit, .instanceMethod yX12_isFit, .selects RX12 yX12_isFit yX12_isFit, .initialized RX12, Cond.code yX12_isFit cX12_isFit 4 (some .boolean)] : List Cond), w ∈ tb := List.forall_mem_cons.mpr ⟨tb_in 946 (by decide +kernel) (by decide +kernel), List.forall_mem_cons.mpr ⟨tb_in 948 (by decide +kernel) (by decide +kernel), List.forall_mem_cons.mpr ⟨tb_in 31 (by decide +kernel) (by decide +kernel), List.forall_mem_cons.mpr ⟨tb_in 69 (by decide +kernel) (by decide +kernel), List.forall_mem_cons.mpr ⟨tb_in 949 (by decide +kernel) (by decide +kernel), fun _ h => absurd h List.not_mem_nil⟩⟩⟩⟩⟩
theorem kv_X12_fitMany : yX12_fitMany.cls = RX12 ∧ yX12_fitMany.cls ≠ "java/lang/invoke/MethodHandle" ∧ yX12_fitMany.cls ≠ "java/lang/invoke/VarHandle" ∧ (parseMethodDescriptor yX12_fitMany.desc).map (fun d => d.parameters.length) = some 0 := by decide +kernel
theorem kw_X12_126 : ∀ w ∈ ([.methodLink RX12 126 yX12_fitMany, .instanceMethod yX12_fitMany, .selects RX12 yX12_fitMany yX12_fitMany, .initialized RX12, Cond.code yX12_fitMany cX12_fitMany 3 (some .int)] : List Cond), w ∈ tb := List.forall_mem_cons.mpr ⟨tb_in 950 (by decide +kernel) (by decide +kernel), List.forall_mem_cons.mpr ⟨tb_in 952 (by decide +kernel) (by decide +kernel), List.forall_mem_cons.mpr ⟨tb_in 32 (by decide +kernel) (by decide +kernel), List.forall_mem_cons.mpr ⟨tb_in 69 (by decide +kernel) (by decide +kernel), List.forall_mem_cons.mpr ⟨tb_in 953 (by decide +kernel) (by decide +kernel), fun _ h => absurd h List.not_mem_nil⟩⟩⟩⟩⟩
theorem kv_X12_laySizes : yX12_laySizes.cls = RX12 ∧ yX12_laySizes.cls ≠ "java/lang/invoke/MethodHandle" ∧ yX12_laySizes.cls ≠ "java/lang/invoke/VarHandle" ∧ (parseMethodDescriptor yX12_laySizes.desc).map (fun d => d.parameters.length) = some 2 := by decide +kernel
theorem kw_X12_167 : ∀ w ∈ ([.methodLink RX12 167 yX12_laySizes, .instanceMethod yX12_laySizes, .selects RX12 yX12_laySizes yX12_laySizes, .initialized RX12, Cond.code yX12_laySizes cX12_laySizes 4 (none)] : List Cond), w ∈ tb := List.forall_mem_cons.mpr ⟨tb_in 1045 (by decide +kernel) (by decide +kernel), List.forall_mem_cons.mpr ⟨tb_in 1047 (by decide +kernel) (by decide +kernel), List.forall_mem_cons.mpr ⟨tb_in 43 (by decide +kernel) (by decide +kernel), List.forall_mem_cons.mpr ⟨tb_in 69 (by decide +kernel) (by decide +kernel), List.forall_mem_cons.mpr ⟨tb_in 1048 (by decide +kernel) (by decide +kernel), fun _ h => absurd h List.not_mem_nil⟩⟩⟩⟩⟩
theorem kv_X12_greatest : yX12_greatest.cls = RX12 ∧ yX12_greatest.cls ≠ "java/lang/invoke/MethodHandle" ∧ yX12_greatest.cls ≠ "java/lang/invoke/VarHandle" ∧ (parseMethodDescriptor yX12_greatest.desc).map (fun d => d.parameters.length) = some 0 := by decide +kernel
theorem kw_X12_171 : ∀ w ∈ ([.methodLink RX12 171 yX12_greatest, .instanceMethod yX12_greatest, .selects RX12 yX12_greatest yX12_greatest, .initialized RX12, Cond.code yX12_greatest cX12_greatest 3 (some .int)] : List Cond), w ∈ tb := List.forall_mem_cons.mpr ⟨tb_in 1049 (by decide +kernel) (by decide +kernel), List.forall_mem_cons.mpr ⟨tb_in 1051 (by decide +kernel) (by decide +kernel), List.forall_mem_cons.mpr ⟨tb_in 44 (by decide +kernel) (by decide +kernel), List.forall_mem_cons.mpr ⟨tb_in 69 (by decide +kernel) (by decide +kernel), List.forall_mem_cons.mpr ⟨tb_in 1052 (by decide +kernel) (by decide +kernel), fun _ h => absurd h List.not_mem_nil⟩⟩⟩⟩⟩
theorem kv_X12_layFit : yX12_layFit.cls = RX12 ∧ yX12_layFit.cls ≠ "java/lang/invoke/MethodHandle" ∧ yX12_layFit.cls ≠ "java/lang/invoke/VarHandle" ∧ (parseMethodDescriptor yX12_layFit.desc).map (fun d => d.parameters.length) = some 0 := by decide +kernel
theorem kw_X12_123 : ∀ w ∈ ([.methodLink RX12 123 yX12_layFit, .instanceMethod yX12_layFit, .selects RX12 yX12_layFit yX12_layFit, .initialized RX12, Cond.code yX12_layFit cX12_layFit 2 (none)] : List Cond), w ∈ tb := List.forall_mem_cons.mpr ⟨tb_in 942 (by decide +kernel) (by decide +kernel), List.forall_mem_cons.mpr ⟨tb_in 944 (by decide +kernel) (by decide +kernel), List.forall_mem_cons.mpr ⟨tb_in 30 (by decide +kernel) (by decide +kernel), List.forall_mem_cons.mpr ⟨tb_in 69 (by decide +kernel) (by decide +kernel), List.forall_mem_cons.mpr ⟨tb_in 945 (by decide +kernel) (by decide +kernel), fun _ h => absurd h List.not_mem_nil⟩⟩⟩⟩⟩
theorem kv_X12_bestBy : yX12_bestBy.cls = RX12 ∧ yX12_bestBy.cls ≠ "java/lang/invoke/MethodHandle" ∧ yX12_bestBy.cls ≠ "java/lang/invoke/VarHandle" ∧ (parseMethodDescriptor yX12_bestBy.desc).map (fun d => d.parameters.length) = some 1 := by decide +kernel
theorem kw_X12_180 : ∀ w ∈ ([.methodLink RX12 180 yX12_bestBy, .instanceMethod yX12_bestBy, .selects RX12 yX12_bestBy yX12_bestBy, .initialized RX12, Cond.code yX12_bestBy cX12_bestBy 6 (some .int)] : List Cond), w ∈ tb := List.forall_mem_cons.mpr ⟨tb_in 1041 (by decide +kernel) (by decide +kernel), List.forall_mem_cons.mpr ⟨tb_in 1043 (by decide +kernel) (by decide +kernel), List.forall_mem_cons.mpr ⟨tb_in 42 (by decide +kernel) (by decide +kernel), List.forall_mem_cons.mpr ⟨tb_in 69 (by decide +kernel) (by decide +kernel), List.forall_mem_cons.mpr ⟨tb_in 1044 (by decide +kernel) (by decide +kernel), fun _ h => absurd h List.not_mem_nil⟩⟩⟩⟩⟩
theorem kv_X12_countOf : yX12_countOf.cls = RX12 ∧ yX12_countOf.cls ≠ "java/lang/invoke/MethodHandle" ∧ yX12_countOf.cls ≠ "java/lang/invoke/VarHandle" ∧ (parseMethodDescriptor yX12_countOf.desc).map (fun d => d.parameters.length) = some 1 := by decide +kernel
theorem kw_X12_244 : ∀ w ∈ ([.methodLink RX12 244 yX12_countOf, .instanceMethod yX12_countOf, .selects RX12 yX12_countOf yX12_countOf, .initialized RX12, Cond.code yX12_countOf cX12_countOf 2 (some .int)] : List Cond), w ∈ tb := List.forall_mem_cons.mpr ⟨tb_in 1125 (by decide +kernel) (by decide +kernel), List.forall_mem_cons.mpr ⟨tb_in 1127 (by decide +kernel) (by decide +kernel), List.forall_mem_cons.mpr ⟨tb_in 54 (by decide +kernel) (by decide +kernel), List.forall_mem_cons.mpr ⟨tb_in 69 (by decide +kernel) (by decide +kernel), List.forall_mem_cons.mpr ⟨tb_in 1128 (by decide +kernel) (by decide +kernel), fun _ h => absurd h List.not_mem_nil⟩⟩⟩⟩⟩
theorem kv_X12_isTwin : yX12_isTwin.cls = RX12 ∧ yX12_isTwin.cls ≠ "java/lang/invoke/MethodHandle" ∧ yX12_isTwin.cls ≠ "java/lang/invoke/VarHandle" ∧ (parseMethodDescriptor yX12_isTwin.desc).map (fun d => d.parameters.length) = some 3 := by decide +kernel
theorem kw_X12_192 : ∀ w ∈ ([.methodLink RX12 192 yX12_isTwin, .instanceMethod yX12_isTwin, .selects RX12 yX12_isTwin yX12_isTwin, .initialized RX12, Cond.code yX12_isTwin cX12_isTwin 5 (some .boolean)] : List Cond), w ∈ tb := List.forall_mem_cons.mpr ⟨tb_in 986 (by decide +kernel) (by decide +kernel), List.forall_mem_cons.mpr ⟨tb_in 988 (by decide +kernel) (by decide +kernel), List.forall_mem_cons.mpr ⟨tb_in 39 (by decide +kernel) (by decide +kernel), List.forall_mem_cons.mpr ⟨tb_in 69 (by decide +kernel) (by decide +kernel), List.forall_mem_cons.mpr ⟨tb_in 989 (by decide +kernel) (by decide +kernel), fun _ h => absurd h List.not_mem_nil⟩⟩⟩⟩⟩
theorem kv_X12_sortsOf : yX12_sortsOf.cls = RX12 ∧ yX12_sortsOf.cls ≠ "java/lang/invoke/MethodHandle" ∧ yX12_sortsOf.cls ≠ "java/lang/invoke/VarHandle" ∧ (parseMethodDescriptor yX12_sortsOf.desc).map (fun d => d.parameters.length) = some 1 := by decide +kernel
theorem kw_X12_142 : ∀ w ∈ ([.methodLink RX12 142 yX12_sortsOf, .instanceMethod yX12_sortsOf, .selects RX12 yX12_sortsOf yX12_sortsOf, .initialized RX12, Cond.code yX12_sortsOf cX12_sortsOf 6 (some .int)] : List Cond), w ∈ tb := List.forall_mem_cons.mpr ⟨tb_in 974 (by decide +kernel) (by decide +kernel), List.forall_mem_cons.mpr ⟨tb_in 976 (by decide +kernel) (by decide +kernel), List.forall_mem_cons.mpr ⟨tb_in 36 (by decide +kernel) (by decide +kernel), List.forall_mem_cons.mpr ⟨tb_in 69 (by decide +kernel) (by decide +kernel), List.forall_mem_cons.mpr ⟨tb_in 977 (by decide +kernel) (by decide +kernel), fun _ h => absurd h List.not_mem_nil⟩⟩⟩⟩⟩
theorem kv_X12_twinsOf : yX12_twinsOf.cls = RX12 ∧ yX12_twinsOf.cls ≠ "java/lang/invoke/MethodHandle" ∧ yX12_twinsOf.cls ≠ "java/lang/invoke/VarHandle" ∧ (parseMethodDescriptor yX12_twinsOf.desc).map (fun d => d.parameters.length) = some 1 := by decide +kernel
theorem kw_X12_148 : ∀ w ∈ ([.methodLink RX12 148 yX12_twinsOf, .instanceMethod yX12_twinsOf, .selects RX12 yX12_twinsOf yX12_twinsOf, .initialized RX12, Cond.code yX12_twinsOf cX12_twinsOf 4 (some .int)] : List Cond), w ∈ tb := List.forall_mem_cons.mpr ⟨tb_in 982 (by decide +kernel) (by decide +kernel), List.forall_mem_cons.mpr ⟨tb_in 984 (by decide +kernel) (by decide +kernel), List.forall_mem_cons.mpr ⟨tb_in 38 (by decide +kernel) (by decide +kernel), List.forall_mem_cons.mpr ⟨tb_in 69 (by decide +kernel) (by decide +kernel), List.forall_mem_cons.mpr ⟨tb_in 985 (by decide +kernel) (by decide +kernel), fun _ h => absurd h List.not_mem_nil⟩⟩⟩⟩⟩
theorem kv_X12_testOf : yX12_testOf.cls = RX12 ∧ yX12_testOf.cls ≠ "java/lang/invoke/MethodHandle" ∧ yX12_testOf.cls ≠ "java/lang/invoke/VarHandle" ∧ (parseMethodDescriptor yX12_testOf.desc).map (fun d => d.parameters.length) = some 1 := by decide +kernel
theorem kw_X12_145 : ∀ w ∈ ([.methodLink RX12 145 yX12_testOf, .instanceMethod yX12_testOf, .selects RX12 yX12_testOf yX12_testOf, .initialized RX12, Cond.code yX12_testOf cX12_testOf 10 (some .int)] : List Cond), w ∈ tb := List.forall_mem_cons.mpr ⟨tb_in 978 (by decide +kernel) (by decide +kernel), List.forall_mem_cons.mpr ⟨tb_in 980 (by decide +kernel) (by decide +kernel), List.forall_mem_cons.mpr ⟨tb_in 37 (by decide +kernel) (by decide +kernel), List.forall_mem_cons.mpr ⟨tb_in 69 (by decide +kernel) (by decide +kernel), List.forall_mem_cons.mpr ⟨tb_in 981 (by decide +kernel) (by decide +kernel), fun _ h => absurd h List.not_mem_nil⟩⟩⟩⟩⟩
theorem kv_X12_toJudge : yX12_toJudge.cls = RX12 ∧ yX12_toJudge.cls ≠ "java/lang/invoke/MethodHandle" ∧ yX12_toJudge.cls ≠ "java/lang/invoke/VarHandle" ∧ (parseMethodDescriptor yX12_toJudge.desc).map (fun d => d.parameters.length) = some 1 := by decide +kernel
theorem kw_X12_139 : ∀ w ∈ ([.methodLink RX12 139 yX12_toJudge, .instanceMethod yX12_toJudge, .selects RX12 yX12_toJudge yX12_toJudge, .initialized RX12, Cond.code yX12_toJudge cX12_toJudge 4 (some .int)] : List Cond), w ∈ tb := List.forall_mem_cons.mpr ⟨tb_in 970 (by decide +kernel) (by decide +kernel), List.forall_mem_cons.mpr ⟨tb_in 972 (by decide +kernel) (by decide +kernel), List.forall_mem_cons.mpr ⟨tb_in 35 (by decide +kernel) (by decide +kernel), List.forall_mem_cons.mpr ⟨tb_in 69 (by decide +kernel) (by decide +kernel), List.forall_mem_cons.mpr ⟨tb_in 973 (by decide +kernel) (by decide +kernel), fun _ h => absurd h List.not_mem_nil⟩⟩⟩⟩⟩
theorem kv_X12_tellJudge : yX12_tellJudge.cls = RX12 ∧ yX12_tellJudge.cls ≠ "java/lang/invoke/MethodHandle" ∧ yX12_tellJudge.cls ≠ "java/lang/invoke/VarHandle" ∧ (parseMethodDescriptor yX12_tellJudge.desc).map (fun d => d.parameters.length) = some 2 := by decide +kernel
theorem kw_X12_151 : ∀ w ∈ ([.methodLink RX12 151 yX12_tellJudge, .instanceMethod yX12_tellJudge, .selects RX12 yX12_tellJudge yX12_tellJudge, .initialized RX12, Cond.code yX12_tellJudge cX12_tellJudge 3 (some .int)] : List Cond), w ∈ tb := List.forall_mem_cons.mpr ⟨tb_in 966 (by decide +kernel) (by decide +kernel), List.forall_mem_cons.mpr ⟨tb_in 968 (by decide +kernel) (by decide +kernel), List.forall_mem_cons.mpr ⟨tb_in 34 (by decide +kernel) (by decide +kernel), List.forall_mem_cons.mpr ⟨tb_in 69 (by decide +kernel) (by decide +kernel), List.forall_mem_cons.mpr ⟨tb_in 969 (by decide +kernel) (by decide +kernel), fun _ h => absurd h List.not_mem_nil⟩⟩⟩⟩⟩
theorem kv_X12_say : yX12_say.cls = RX12 ∧ yX12_say.cls ≠ "java/lang/invoke/MethodHandle" ∧ yX12_say.cls ≠ "java/lang/invoke/VarHandle" ∧ (parseMethodDescriptor yX12_say.desc).map (fun d => d.parameters.length) = some 1 := by decide +kernel
theorem kw_X12_255 : ∀ w ∈ ([.methodLink RX12 255 yX12_say, .instanceMethod yX12_say, .selects RX12 yX12_say yX12_say, .initialized RX12, Cond.code yX12_say cX12_say 3 (none)] : List Cond), w ∈ tb := List.forall_mem_cons.mpr ⟨tb_in 1134 (by decide +kernel) (by decide +kernel), List.forall_mem_cons.mpr ⟨tb_in 1136 (by decide +kernel) (by decide +kernel), List.forall_mem_cons.mpr ⟨tb_in 55 (by decide +kernel) (by decide +kernel), List.forall_mem_cons.mpr ⟨tb_in 69 (by decide +kernel) (by decide +kernel), List.forall_mem_cons.mpr ⟨tb_in 1137 (by decide +kernel) (by decide +kernel), fun _ h => absurd h List.not_mem_nil⟩⟩⟩⟩⟩
theorem kv_X12_restOf : yX12_restOf.cls = RX12 ∧ yX12_restOf.cls ≠ "java/lang/invoke/MethodHandle" ∧ yX12_restOf.cls ≠ "java/lang/invoke/VarHandle" ∧ (parseMethodDescriptor yX12_restOf.desc).map (fun d => d.parameters.length) = some 3 := by decide +kernel
theorem kw_X12_183 : ∀ w ∈ ([.methodLink RX12 183 yX12_restOf, .instanceMethod yX12_restOf, .selects RX12 yX12_restOf yX12_restOf, .initialized RX12, Cond.code yX12_restOf cX12_restOf 8 (some .int)] : List Cond), w ∈ tb := List.forall_mem_cons.mpr ⟨tb_in 1057 (by decide +kernel) (by decide +kernel), List.forall_mem_cons.mpr ⟨tb_in 1059 (by decide +kernel) (by decide +kernel), List.forall_mem_cons.mpr ⟨tb_in 45 (by decide +kernel) (by decide +kernel), List.forall_mem_cons.mpr ⟨tb_in 69 (by decide +kernel) (by decide +kernel), List.forall_mem_cons.mpr ⟨tb_in 1060 (by decide +kernel) (by decide +kernel), fun _ h => absurd h List.not_mem_nil⟩⟩⟩⟩⟩
theorem kv_X12_lacks : yX12_lacks.cls = RX12 ∧ yX12_lacks.cls ≠ "java/lang/invoke/MethodHandle" ∧ yX12_lacks.cls ≠ "java/lang/invoke/VarHandle" ∧ (parseMethodDescriptor yX12_lacks.desc).map (fun d => d.parameters.length) = some 0 := by decide +kernel
theorem kw_X12_129 : ∀ w ∈ ([.methodLink RX12 129 yX12_lacks, .instanceMethod yX12_lacks, .selects RX12 yX12_lacks yX12_lacks, .initialized RX12, Cond.code yX12_lacks cX12_lacks 1 (some .boolean)] : List Cond), w ∈ tb := List.forall_mem_cons.mpr ⟨tb_in 934 (by decide +kernel) (by decide +kernel), List.forall_mem_cons.mpr ⟨tb_in 936 (by decide +kernel) (by decide +kernel), List.forall_mem_cons.mpr ⟨tb_in 28 (by decide +kernel) (by decide +kernel), List.forall_mem_cons.mpr ⟨tb_in 69 (by decide +kernel) (by decide +kernel), List.forall_mem_cons.mpr ⟨tb_in 937 (by decide +kernel) (by decide +kernel), fun _ h => absurd h List.not_mem_nil⟩⟩⟩⟩⟩
theorem kv_X12_leftOf : yX12_leftOf.cls = RX12 ∧ yX12_leftOf.cls ≠ "java/lang/invoke/MethodHandle" ∧ yX12_leftOf.cls ≠ "java/lang/invoke/VarHandle" ∧ (parseMethodDescriptor yX12_leftOf.desc).map (fun d => d.parameters.length) = some 0 := by decide +kernel
theorem kw_X12_133 : ∀ w ∈ ([.methodLink RX12 133 yX12_leftOf, .instanceMethod yX12_leftOf, .selects RX12 yX12_leftOf yX12_leftOf, .initialized RX12, Cond.code yX12_leftOf cX12_leftOf 1 (some .int)] : List Cond), w ∈ tb := List.forall_mem_cons.mpr ⟨tb_in 938 (by decide +kernel) (by decide +kernel), List.forall_mem_cons.mpr ⟨tb_in 940 (by decide +kernel) (by decide +kernel), List.forall_mem_cons.mpr ⟨tb_in 29 (by decide +kernel) (by decide +kernel), List.forall_mem_cons.mpr ⟨tb_in 69 (by decide +kernel) (by decide +kernel), List.forall_mem_cons.mpr ⟨tb_in 941 (by decide +kernel) (by decide +kernel), fun _ h => absurd h List.not_mem_nil⟩⟩⟩⟩⟩
theorem kv_X12_fitsOf : yX12_fitsOf.cls = RX12 ∧ yX12_fitsOf.cls ≠ "java/lang/invoke/MethodHandle" ∧ yX12_fitsOf.cls ≠ "java/lang/invoke/VarHandle" ∧ (parseMethodDescriptor yX12_fitsOf.desc).map (fun d => d.parameters.length) = some 1 := by decide +kernel
theorem kw_X12_136 : ∀ w ∈ ([.methodLink RX12 136 yX12_fitsOf, .instanceMethod yX12_fitsOf, .selects RX12 yX12_fitsOf yX12_fitsOf, .initialized RX12, Cond.code yX12_fitsOf cX12_fitsOf 4 (some .int)] : List Cond), w ∈ tb := List.forall_mem_cons.mpr ⟨tb_in 958 (by decide +kernel) (by decide +kernel), List.forall_mem_cons.mpr ⟨tb_in 960 (by decide +kernel) (by decide +kernel), List.forall_mem_cons.mpr ⟨tb_in 33 (by decide +kernel) (by decide +kernel), List.forall_mem_cons.mpr ⟨tb_in 69 (by decide +kernel) (by decide +kernel), List.forall_mem_cons.mpr ⟨tb_in 961 (by decide +kernel) (by decide +kernel), fun _ h => absurd h List.not_mem_nil⟩⟩⟩⟩⟩
theorem ks_X12_kindBy : yX12_kindBy.cls ≠ "java/lang/invoke/MethodHandle" ∧ yX12_kindBy.cls ≠ "java/lang/invoke/VarHandle" ∧ (parseMethodDescriptor yX12_kindBy.desc).map (fun d => d.parameters.length) = some 1 := by decide +kernel
theorem kw_X12_56 : ∀ w ∈ ([.methodLink RX12 56 yX12_kindBy, .static yX12_kindBy, .initialized yX12_kindBy.cls, Cond.code yX12_kindBy cX12_kindBy 1 (some .int)] : List Cond), w ∈ tb := List.forall_mem_cons.mpr ⟨tb_in 894 (by decide +kernel) (by decide +kernel), List.forall_mem_cons.mpr ⟨tb_in 895 (by decide +kernel) (by decide +kernel), List.forall_mem_cons.mpr ⟨tb_in 69 (by decide +kernel) (by decide +kernel), List.forall_mem_cons.mpr ⟨tb_in 896 (by decide +kernel) (by decide +kernel), fun _ h => absurd h List.not_mem_nil⟩⟩⟩⟩
theorem kv_X12_isJudgeLetter : yX12_isJudgeLetter.cls = RX12 ∧ yX12_isJudgeLetter.cls ≠ "java/lang/invoke/MethodHandle" ∧ yX12_isJudgeLetter.cls ≠ "java/lang/invoke/VarHandle" ∧ (parseMethodDescriptor yX12_isJudgeLetter.desc).map (fun d => d.parameters.length) = some 1 := by decide +kernel
theorem kw_X12_68 : ∀ w ∈ ([.methodLink RX12 68 yX12_isJudgeLetter, .instanceMethod yX12_isJudgeLetter, .selects RX12 yX12_isJudgeLetter yX12_isJudgeLetter, .initialized RX12, Cond.code yX12_isJudgeLetter cX12_isJudgeLetter 3 (some .boolean)] : List Cond), w ∈ tb := List.forall_mem_cons.mpr ⟨tb_in 890 (by decide +kernel) (by decide +kernel), List.forall_mem_cons.mpr ⟨tb_in 892 (by decide +kernel) (by decide +kernel), List.forall_mem_cons.mpr ⟨tb_in 21 (by decide +kernel) (by decide +kernel), List.forall_mem_cons.mpr ⟨tb_in 69 (by decide +kernel) (by decide +kernel), List.forall_mem_cons.mpr ⟨tb_in 893 (by decide +kernel) (by decide +kernel), fun _ h => absurd h List.not_mem_nil⟩⟩⟩⟩⟩
theorem kv_X12_isGood : yX12_isGood.cls = RX12 ∧ yX12_isGood.cls ≠ "java/lang/invoke/MethodHandle" ∧ yX12_isGood.cls ≠ "java/lang/invoke/VarHandle" ∧ (parseMethodDescriptor yX12_isGood.desc).map (fun d => d.parameters.length) = some 1 := by decide +kernel
theorem kw_X12_74 : ∀ w ∈ ([.methodLink RX12 74 yX12_isGood, .instanceMethod yX12_isGood, .selects RX12 yX12_isGood yX12_isGood, .initialized RX12, Cond.code yX12_isGood cX12_isGood 3 (some .boolean)] : List Cond), w ∈ tb := List.forall_mem_cons.mpr ⟨tb_in 882 (by decide +kernel) (by decide +kernel), List.forall_mem_cons.mpr ⟨tb_in 884 (by decide +kernel) (by decide +kernel), List.forall_mem_cons.mpr ⟨tb_in 20 (by decide +kernel) (by decide +kernel), List.forall_mem_cons.mpr ⟨tb_in 69 (by decide +kernel) (by decide +kernel), List.forall_mem_cons.mpr ⟨tb_in 885 (by decide +kernel) (by decide +kernel), fun _ h => absurd h List.not_mem_nil⟩⟩⟩⟩⟩
theorem kv_X12_faultOf : yX12_faultOf.cls = RX12 ∧ yX12_faultOf.cls ≠ "java/lang/invoke/MethodHandle" ∧ yX12_faultOf.cls ≠ "java/lang/invoke/VarHandle" ∧ (parseMethodDescriptor yX12_faultOf.desc).map (fun d => d.parameters.length) = some 0 := by decide +kernel
theorem kw_X12_77 : ∀ w ∈ ([.methodLink RX12 77 yX12_faultOf, .instanceMethod yX12_faultOf, .selects RX12 yX12_faultOf yX12_faultOf, .initialized RX12, Cond.code yX12_faultOf cX12_faultOf 2 (some .int)] : List Cond), w ∈ tb := List.forall_mem_cons.mpr ⟨tb_in 878 (by decide +kernel) (by decide +kernel), List.forall_mem_cons.mpr ⟨tb_in 880 (by decide +kernel) (by decide +kernel), List.forall_mem_cons.mpr ⟨tb_in 19 (by decide +kernel) (by decide +kernel), List.forall_mem_cons.mpr ⟨tb_in 69 (by decide +kernel) (by decide +kernel), List.forall_mem_cons.mpr ⟨tb_in 881 (by decide +kernel) (by decide +kernel), fun _ h => absurd h List.not_mem_nil⟩⟩⟩⟩⟩
theorem kv_X12_isRow : yX12_isRow.cls = RX12 ∧ yX12_isRow.cls ≠ "java/lang/invoke/MethodHandle" ∧ yX12_isRow.cls ≠ "java/lang/invoke/VarHandle" ∧ (parseMethodDescriptor yX12_isRow.desc).map (fun d => d.parameters.length) = some 1 := by decide +kernel
theorem kw_X12_113 : ∀ w ∈ ([.methodLink RX12 113 yX12_isRow, .instanceMethod yX12_isRow, .selects RX12 yX12_isRow yX12_isRow, .initialized RX12, Cond.code yX12_isRow cX12_isRow 2 (some .boolean)] : List Cond), w ∈ tb := List.forall_mem_cons.mpr ⟨tb_in 910 (by decide +kernel) (by decide +kernel), List.forall_mem_cons.mpr ⟨tb_in 912 (by decide +kernel) (by decide +kernel), List.forall_mem_cons.mpr ⟨tb_in 23 (by decide +kernel) (by decide +kernel), List.forall_mem_cons.mpr ⟨tb_in 69 (by decide +kernel) (by decide +kernel), List.forall_mem_cons.mpr ⟨tb_in 913 (by decide +kernel) (by decide +kernel), fun _ h => absurd h List.not_mem_nil⟩⟩⟩⟩⟩
theorem kv_X12_longOf : yX12_longOf.cls = RX12 ∧ yX12_longOf.cls ≠ "java/lang/invoke/MethodHandle" ∧ yX12_longOf.cls ≠ "java/lang/invoke/VarHandle" ∧ (parseMethodDescriptor yX12_longOf.desc).map (fun d => d.parameters.length) = some 2 := by decide +kernel
theorem kw_X12_189 : ∀ w ∈ ([.methodLink RX12 189 yX12_longOf, .instanceMethod yX12_longOf, .selects RX12 yX12_longOf yX12_longOf, .initialized RX12, Cond.code yX12_longOf cX12_longOf 7 (some .int)] : List Cond), w ∈ tb := List.forall_mem_cons.mpr ⟨tb_in 1065 (by decide +kernel) (by decide +kernel), List.forall_mem_cons.mpr ⟨tb_in 1067 (by decide +kernel) (by decide +kernel), List.forall_mem_cons.mpr ⟨tb_in 46 (by decide +kernel) (by decide +kernel), List.forall_mem_cons.mpr ⟨tb_in 69 (by decide +kernel) (by decide +kernel), List.forall_mem_cons.mpr ⟨tb_in 1068 (by decide +kernel) (by decide +kernel), fun _ h => absurd h List.not_mem_nil⟩⟩⟩⟩⟩
theorem ks_X12_copy : yX12_copy.cls ≠ "java/lang/invoke/MethodHandle" ∧ yX12_copy.cls ≠ "java/lang/invoke/VarHandle" ∧ (parseMethodDescriptor yX12_copy.desc).map (fun d => d.parameters.length) = some 2 := by decide +kernel
theorem kw_X12_234 : ∀ w ∈ ([.methodLink RX12 234 yX12_copy, .static yX12_copy, .initialized yX12_copy.cls, Cond.code yX12_copy cX12_copy 3 (none)] : List Cond), w ∈ tb := List.forall_mem_cons.mpr ⟨tb_in 1114 (by decide +kernel) (by decide +kernel), List.forall_mem_cons.mpr ⟨tb_in 1115 (by decide +kernel) (by decide +kernel), List.forall_mem_cons.mpr ⟨tb_in 69 (by decide +kernel) (by decide +kernel), List.forall_mem_cons.mpr ⟨tb_in 1116 (by decide +kernel) (by decide +kernel), fun _ h => absurd h List.not_mem_nil⟩⟩⟩⟩
theorem kv_X12_keep : yX12_keep.cls = RX12 ∧ yX12_keep.cls ≠ "java/lang/invoke/MethodHandle" ∧ yX12_keep.cls ≠ "java/lang/invoke/VarHandle" ∧ (parseMethodDescriptor yX12_keep.desc).map (fun d => d.parameters.length) = some 3 := by decide +kernel
theorem kw_X12_161 : ∀ w ∈ ([.methodLink RX12 161 yX12_keep, .instanceMethod yX12_keep, .selects RX12 yX12_keep yX12_keep, .initialized RX12, Cond.code yX12_keep cX12_keep 4 (none)] : List Cond), w ∈ tb := List.forall_mem_cons.mpr ⟨tb_in 1012 (by decide +kernel) (by decide +kernel), List.forall_mem_cons.mpr ⟨tb_in 1014 (by decide +kernel) (by decide +kernel), List.forall_mem_cons.mpr ⟨tb_in 41 (by decide +kernel) (by decide +kernel), List.forall_mem_cons.mpr ⟨tb_in 69 (by decide +kernel) (by decide +kernel), List.forall_mem_cons.mpr ⟨tb_in 1015 (by decide +kernel) (by decide +kernel), fun _ h => absurd h List.not_mem_nil⟩⟩⟩⟩⟩
theorem kv_X12_layTable : yX12_layTable.cls = RX12 ∧ yX12_layTable.cls ≠ "java/lang/invoke/MethodHandle" ∧ yX12_layTable.cls ≠ "java/lang/invoke/VarHandle" ∧ (parseMethodDescriptor yX12_layTable.desc).map (fun d => d.parameters.length) = some 1 := by decide +kernel
theorem kw_X12_196 : ∀ w ∈ ([.methodLink RX12 196 yX12_layTable, .instanceMethod yX12_layTable, .selects RX12 yX12_layTable yX12_layTable, .initialized RX12, Cond.code yX12_layTable cX12_layTable 6 (none)] : List Cond), w ∈ tb := List.forall_mem_cons.mpr ⟨tb_in 1077 (by decide +kernel) (by decide +kernel), List.forall_mem_cons.mpr ⟨tb_in 1079 (by decide +kernel) (by decide +kernel), List.forall_mem_cons.mpr ⟨tb_in 48 (by decide +kernel) (by decide +kernel), List.forall_mem_cons.mpr ⟨tb_in 69 (by decide +kernel) (by decide +kernel), List.forall_mem_cons.mpr ⟨tb_in 1080 (by decide +kernel) (by decide +kernel), fun _ h => absurd h List.not_mem_nil⟩⟩⟩⟩⟩
theorem kv_X12_apartMany : yX12_apartMany.cls = RX12 ∧ yX12_apartMany.cls ≠ "java/lang/invoke/MethodHandle" ∧ yX12_apartMany.cls ≠ "java/lang/invoke/VarHandle" ∧ (parseMethodDescriptor yX12_apartMany.desc).map (fun d => d.parameters.length) = some 0 := by decide +kernel
theorem kw_X12_200 : ∀ w ∈ ([.methodLink RX12 200 yX12_apartMany, .instanceMethod yX12_apartMany, .selects RX12 yX12_apartMany yX12_apartMany, .initialized RX12, Cond.code yX12_apartMany cX12_apartMany 3 (some .int)] : List Cond), w ∈ tb := List.forall_mem_cons.mpr ⟨tb_in 1081 (by decide +kernel) (by decide +kernel), List.forall_mem_cons.mpr ⟨tb_in 1083 (by decide +kernel) (by decide +kernel), List.forall_mem_cons.mpr ⟨tb_in 49 (by decide +kernel) (by decide +kernel), List.forall_mem_cons.mpr ⟨tb_in 69 (by decide +kernel) (by decide +kernel), List.forall_mem_cons.mpr ⟨tb_in 1084 (by decide +kernel) (by decide +kernel), fun _ h => absurd h List.not_mem_nil⟩⟩⟩⟩⟩
theorem kv_X12_isEnough : yX12_isEnough.cls = RX12 ∧ yX12_isEnough.cls ≠ "java/lang/invoke/MethodHandle" ∧ yX12_isEnough.cls ≠ "java/lang/invoke/VarHandle" ∧ (parseMethodDescriptor yX12_isEnough.desc).map (fun d => d.parameters.length) = some 2 := by decide +kernel
theorem kw_X12_203 : ∀ w ∈ ([.methodLink RX12 203 yX12_isEnough, .instanceMethod yX12_isEnough, .selects RX12 yX12_isEnough yX12_isEnough, .initialized RX12, Cond.code yX12_isEnough cX12_isEnough 6 (some .boolean)] : List Cond), w ∈ tb := List.forall_mem_cons.mpr ⟨tb_in 1085 (by decide +kernel) (by decide +kernel), List.forall_mem_cons.mpr ⟨tb_in 1087 (by decide +kernel) (by decide +kernel), List.forall_mem_cons.mpr ⟨tb_in 50 (by decide +kernel) (by decide +kernel), List.forall_mem_cons.mpr ⟨tb_in 69 (by decide +kernel) (by decide +kernel), List.forall_mem_cons.mpr ⟨tb_in 1088 (by decide +kernel) (by decide +kernel), fun _ h => absurd h List.not_mem_nil⟩⟩⟩⟩⟩
theorem kv_X12_partsOf : yX12_partsOf.cls = RX12 ∧ yX12_partsOf.cls ≠ "java/lang/invoke/MethodHandle" ∧ yX12_partsOf.cls ≠ "java/lang/invoke/VarHandle" ∧ (parseMethodDescriptor yX12_partsOf.desc).map (fun d => d.parameters.length) = some 2 := by decide +kernel
theorem kw_X12_210 : ∀ w ∈ ([.methodLink RX12 210 yX12_partsOf, .instanceMethod yX12_partsOf, .selects RX12 yX12_partsOf yX12_partsOf, .initialized RX12, Cond.code yX12_partsOf cX12_partsOf 5 (some .int)] : List Cond), w ∈ tb := List.forall_mem_cons.mpr ⟨tb_in 1073 (by decide +kernel) (by decide +kernel), List.forall_mem_cons.mpr ⟨tb_in 1075 (by decide +kernel) (by decide +kernel), List.forall_mem_cons.mpr ⟨tb_in 47 (by decide +kernel) (by decide +kernel), List.forall_mem_cons.mpr ⟨tb_in 69 (by decide +kernel) (by decide +kernel), List.forall_mem_cons.mpr ⟨tb_in 1076 (by decide +kernel) (by decide +kernel), fun _ h => absurd h List.not_mem_nil⟩⟩⟩⟩⟩
theorem kv_X12_tellRow : yX12_tellRow.cls = RX12 ∧ yX12_tellRow.cls ≠ "java/lang/invoke/MethodHandle" ∧ yX12_tellRow.cls ≠ "java/lang/invoke/VarHandle" ∧ (parseMethodDescriptor yX12_tellRow.desc).map (fun d => d.parameters.length) = some 2 := by decide +kernel
theorem kw_X12_156 : ∀ w ∈ ([.methodLink RX12 156 yX12_tellRow, .instanceMethod yX12_tellRow, .selects RX12 yX12_tellRow yX12_tellRow, .initialized RX12, Cond.code yX12_tellRow cX12_tellRow 3 (some .int)] : List Cond), w ∈ tb := List.forall_mem_cons.mpr ⟨tb_in 999 (by decide +kernel) (by decide +kernel), List.forall_mem_cons.mpr ⟨tb_in 1001 (by decide +kernel) (by decide +kernel), List.forall_mem_cons.mpr ⟨tb_in 40 (by decide +kernel) (by decide +kernel), List.forall_mem_cons.mpr ⟨tb_in 69 (by decide +kernel) (by decide +kernel), List.forall_mem_cons.mpr ⟨tb_in 1002 (by decide +kernel) (by decide +kernel), fun _ h => absurd h List.not_mem_nil⟩⟩⟩⟩⟩
theorem kv_X12_draw : yX12_draw.cls = RX12 ∧ yX12_draw.cls ≠ "java/lang/invoke/MethodHandle" ∧ yX12_draw.cls ≠ "java/lang/invoke/VarHandle" ∧ (parseMethodDescriptor yX12_draw.desc).map (fun d => d.parameters.length) = some 1 := by decide +kernel
theorem kw_X12_223 : ∀ w ∈ ([.methodLink RX12 223 yX12_draw, .instanceMethod yX12_draw, .selects RX12 yX12_draw yX12_draw, .initialized RX12, Cond.code yX12_draw cX12_draw 2 (some .int)] : List Cond), w ∈ tb := List.forall_mem_cons.mpr ⟨tb_in 1098 (by decide +kernel) (by decide +kernel), List.forall_mem_cons.mpr ⟨tb_in 1100 (by decide +kernel) (by decide +kernel), List.forall_mem_cons.mpr ⟨tb_in 52 (by decide +kernel) (by decide +kernel), List.forall_mem_cons.mpr ⟨tb_in 69 (by decide +kernel) (by decide +kernel), List.forall_mem_cons.mpr ⟨tb_in 1101 (by decide +kernel) (by decide +kernel), fun _ h => absurd h List.not_mem_nil⟩⟩⟩⟩⟩
theorem kv_X12_soManieth : yX12_soManieth.cls = RX12 ∧ yX12_soManieth.cls ≠ "java/lang/invoke/MethodHandle" ∧ yX12_soManieth.cls ≠ "java/lang/invoke/VarHandle" ∧ (parseMethodDescriptor yX12_soManieth.desc).map (fun d => d.parameters.length) = some 1 := by decide +kernel
theorem kw_X12_226 : ∀ w ∈ ([.methodLink RX12 226 yX12_soManieth, .instanceMethod yX12_soManieth, .selects RX12 yX12_soManieth yX12_soManieth, .initialized RX12, Cond.code yX12_soManieth cX12_soManieth 4 (some .int)] : List Cond), w ∈ tb := List.forall_mem_cons.mpr ⟨tb_in 1106 (by decide +kernel) (by decide +kernel), List.forall_mem_cons.mpr ⟨tb_in 1108 (by decide +kernel) (by decide +kernel), List.forall_mem_cons.mpr ⟨tb_in 53 (by decide +kernel) (by decide +kernel), List.forall_mem_cons.mpr ⟨tb_in 69 (by decide +kernel) (by decide +kernel), List.forall_mem_cons.mpr ⟨tb_in 1109 (by decide +kernel) (by decide +kernel), fun _ h => absurd h List.not_mem_nil⟩⟩⟩⟩⟩
theorem kv_X12_tryOne : yX12_tryOne.cls = RX12 ∧ yX12_tryOne.cls ≠ "java/lang/invoke/MethodHandle" ∧ yX12_tryOne.cls ≠ "java/lang/invoke/VarHandle" ∧ (parseMethodDescriptor yX12_tryOne.desc).map (fun d => d.parameters.length) = some 1 := by decide +kernel
theorem kw_X12_231 : ∀ w ∈ ([.methodLink RX12 231 yX12_tryOne, .instanceMethod yX12_tryOne, .selects RX12 yX12_tryOne yX12_tryOne, .initialized RX12, Cond.code yX12_tryOne cX12_tryOne 7 (some .int)] : List Cond), w ∈ tb := List.forall_mem_cons.mpr ⟨tb_in 1094 (by decide +kernel) (by decide +kernel), List.forall_mem_cons.mpr ⟨tb_in 1096 (by decide +kernel) (by decide +kernel), List.forall_mem_cons.mpr ⟨tb_in 51 (by decide +kernel) (by decide +kernel), List.forall_mem_cons.mpr ⟨tb_in 69 (by decide +kernel) (by decide +kernel), List.forall_mem_cons.mpr ⟨tb_in 1097 (by decide +kernel) (by decide +kernel), fun _ h => absurd h List.not_mem_nil⟩⟩⟩⟩⟩
theorem kv_X2_word : yX2_word.cls = RX2 ∧ yX2_word.cls ≠ "java/lang/invoke/MethodHandle" ∧ yX2_word.cls ≠ "java/lang/invoke/VarHandle" ∧ (parseMethodDescriptor yX2_word.desc).map (fun d => d.parameters.length) = some 3 := by decide +kernel
theorem ku_word : RX2 ≠ "java/lang/invoke/MethodHandle" ∧ RX2 ≠ "java/lang/invoke/VarHandle" ∧ (parseMethodDescriptor yX2_word.desc).map (fun d => d.parameters.length) = some 3 := by decide +kernel
end
section
/-! a static method that the named class inherits -/
theorem ps_cold {Q : Unit → Pre} {E : CtlPost} {e : Env} {d : Bool} {acts : List Action} {s s₀ : State} {f : JFrame} {index ci n c : Nat} {m : MethodId} {dk ck : Class} {cf : ClassFile} {name desc : String} {via : Bool} (hs : s.topJava?.isSome) (hp : e.platform.polymorphicOnlyByInvokevirtual = true)
    (hW : s₀.WarmedH s.vm) (hE : s₀.MethodEntryUp e s.vm f.method.cls index c m ci) (h1 : s₀.vm.classes[f.method.cls]? = some dk) (h2 : dk.cf = some cf)
    (h3 : cf.constantPool[index]? = some (if via then .interfaceMethodref ci n else .methodref ci n)) (h4 : cf.constantPool.nameAndType? n = some (name, desc))
    (hck : s₀.vm.classes[c]? = some ck) (hnone : (ck.methods.any fun x => x.name == name && !x.isStatic && signaturePolymorphic ck x) = false) :
    wp (invokestatic.sem index) Q E e d acts (s.setTop f) ↔ wp (invokestatic.sem index) Q E e d acts ((s.setVm (s.vm.calledUp f.method.cls ci index c m)).setTop f) := by
  obtain ⟨hgc, hrc, hW₁, hgm⟩ := hE.classFirst
  obtain ⟨k₀, hk₀, he₀⟩ := hW.alike.2.2 _ _ h1
  obtain ⟨k₂, hk₂, he₂⟩ := hE.warmed.alike.2.2 _ _ h1
  obtain ⟨c₁, hc₁, hec₁⟩ := hW₁.alike.2.2 _ _ hck
  obtain ⟨c₂, hc₂, hec₂⟩ := hE.warmed.alike.2.2 _ _ hck
  have hb₀ := memberRef_ask_via (e := e) hk₀ (by rw [he₀]; exact h2) h3 h4
  have hb₂ := memberRef_ask_via (e := e) hk₂ (by rw [he₂]; exact h2) h3 h4
  have hn₁ : (c₁.methods.any fun x => x.name == name && !x.isStatic && signaturePolymorphic c₁ x) = false := by rw [hec₁]; exact hnone
  have hn₂ : (c₂.methods.any fun x => x.name == name && !x.isStatic && signaturePolymorphic c₂ x) = false := by rw [hec₂]; exact hnone
  have hs₁ : (s.setVm (s.vm.noted f.method.cls ci (.cls c))).topJava?.isSome := hs
  have hs₂ : (s.setVm (s.vm.calledUp f.method.cls ci index c m)).topJava?.isSome := hs
  have hL : ∀ {Q' : ClassId → Pre} {d' : Bool} {acts' : List Action}, wp (Jvm.resolveClassAt ci) Q' E e d' acts' (s.setTop f) ↔ Q' c d' acts' ((s.setVm (s.vm.noted f.method.cls ci (.cls c))).setTop f) :=
    W.resolveClassAt_links (t := s.setTop f) (State.method?_setTop f hs) hgc
  have hM : ∀ {Q' : MethodId → Pre} {d' : Bool} {acts' : List Action}, wp (Jvm.resolveMethodAt index) Q' E e d' acts' ((s.setVm (s.vm.noted f.method.cls ci (.cls c))).setTop f) ↔ Q' m d' acts' ((s.setVm (s.vm.calledUp f.method.cls ci index c m)).setTop f) :=
    W.resolveMethodAt_links (t := (s.setVm (s.vm.noted f.method.cls ci (.cls c))).setTop f) (State.method?_setTop f hs₁) hgm
  simp [invokestatic.sem, hp, Seam.memberRefOf, State.method?_setTop f hs, State.method?_setTop f hs₂, hb₀, hb₂, hL, W.resolveClassAt_ready (s := (s.setVm (s.vm.calledUp f.method.cls ci index c m)).setTop f) (State.method?_setTop f hs₂) hE.classReady,
    hc₁, hc₂, hn₁, hn₂, hM, W.resolveMethodAt_ready (s := (s.setVm (s.vm.calledUp f.method.cls ci index c m)).setTop f) (State.method?_setTop f hs₂) hE.ready, -Array.any_eq_true]
section PST
variable {p : Program} {l : Launch} {e : Env} {R : Room} {s : State} {m : MethodId} {args : Array Value} {below : List Frame} {meth : Method} {c : Code} {T : State} {locs : List Loc} {cells slots : Nat}
theorem ps_static (X : Stand p l e R s m args below meth c T locs cells slots) (hexec : p.tables.exec = Jvm.exec)
    {own owner : String} {index : Nat} {x : MethodName} (hown : s.vm.findClass own = some m.cls) (hlink : (Cond.methodLink own index x).before args s = true)
    (hsame : (Cond.sameMethod x.cls owner x.name x.desc).before args s = true) (hx : x.cls ≠ "java/lang/invoke/MethodHandle" ∧ x.cls ≠ "java/lang/invoke/VarHandle") (howner : owner ≠ "java/lang/invoke/MethodHandle" ∧ owner ≠ "java/lang/invoke/VarHandle")
    {m' : MethodId} {meth' : Method} {k' : Class} (hn : s.methodNamed? ⟨owner, x.name, x.desc⟩ = some m') (hm' : s.vm.method? m' = some meth') (hstatic : meth'.isStatic = true)
    (hk' : s.vm.classes[m'.cls]? = some k') (hinit : k'.init = .initialized)
    {g : JFrame} (hg : g.method = m) {argsL rest : List Value} (hlen : argsL.length = meth'.sig.parameters.length) (hstack : g.stack = argsL.reverse ++ rest)
    (hdg : decode c.code g.pc = .ok (.invokestatic index, 3)) :
    ∃ vm', Stand p l e R s m args below meth c (T.setVm vm') locs cells slots ∧
      ∀ target, (∀ acts, Steps p.tables e below (doInvoke e ((T.setVm vm').setTop { g with stack := rest }) acts m' argsL.toArray).1 target) → Steps p.tables e below (T.setTop g) target := by
  have hpl : e.platform.magicAccessors = ({} : Platform).magicAccessors := by rw [X.admits.platform]
  have hpv : e.platform.polymorphicOnlyByInvokevirtual = true := by rw [X.admits.platform]
  obtain ⟨cn, ck, r1, hcn, hck, hni, hf, hn1⟩ := Cond.sameMethod_found hsame
  cases hn.symm.trans hn1
  obtain ⟨ci, hl, hright⟩ := Cond.methodLink_specUp hown hcn hck hni hf hlink e.platform hpl (by rw [X.admits.platform])
  have hE : s.MethodEntryUp e T.vm m.cls index cn m' ci := State.methodEntryUp X.warmed hl hright
  obtain ⟨kx, hkx, hnx⟩ := className_of_methodNamed hn
  cases hk'.symm.trans hkx
  obtain ⟨kc, hkc, hnc⟩ := Vm.findClass_spec hcn
  cases hck.symm.trans hkc
  obtain ⟨dk, cfile, nt, mname, mdesc, _, _, _, hd, hcf, hcp, hnt, -⟩ := hl.here
  have alike := hE.warmed.alike
  obtain ⟨dk₂, hdk₂, hed₂⟩ := alike.2.2 _ _ hd
  obtain ⟨k₂, hk₂, he₂⟩ := alike.2.2 _ _ hk'
  obtain ⟨ck₂, hck₂, hec₂⟩ := alike.2.2 _ _ hck
  have hnp : ∀ y : Method, signaturePolymorphic ck y = false := signaturePolymorphic_of_name (by rw [hnc]; exact hx)
  have hnq : ∀ y : Method, signaturePolymorphic k' y = false := signaturePolymorphic_of_name (by rw [hnx]; exact howner)
  have hnone : (ck.methods.any fun y => y.name == mname && !y.isStatic && signaturePolymorphic ck y) = false := by simp [hnp]
  have hnone₂ : (ck₂.methods.any fun y => y.name == mname && !y.isStatic && signaturePolymorphic ck₂ y) = false := by rw [hec₂]; exact hnone
  refine ⟨T.vm.calledUp m.cls ci index cn m', X.noted hE.warmed, fun target hrest => ?_⟩
  subst hg
  jvm_step X.here [hexec, hdg, ps_cold (via := false) (e := e) (s := T) (s₀ := s) (f := g) X.here.top hpv X.warmed hE hd hcf hcp hnt hck hnone,
    invokestatic.wp_ready (e := e) (s := T.setVm (T.vm.calledUp g.method.cls ci index cn m')) (k := k₂) (meth := meth') (m := m') (args := argsL) (rest := rest) (f := g)
      X.here.top ⟨ci, mname, mdesc, false, cn, ck₂, memberRef_ask_via (via := false) (e := e) hdk₂ (by rw [hed₂]; exact hcf) hcp hnt, hE.classReady, hck₂, hnone₂⟩ hE.ready hk₂
      (by show (T.vm.calledUp g.method.cls ci index cn m').method? m' = some meth'; rw [alike.method?]; exact hm') (by rw [he₂]; exact hnq meth') hstatic (by rw [he₂]; exact hinit) hlen hstack]
  exact fun acts => hrest _
theorem ps_call (X : Stand p l e R s m args below meth c T locs cells slots) (hexec : p.tables.exec = Jvm.exec) {own : String} {index : Nat} {x y : MethodName} {bytes : ByteArray} {maxL : Nat} {ret : Option FieldType}
    (hown : s.vm.findClass own = some m.cls) (hlink : (Cond.methodLink own index x).before args s = true) (hsame : (Cond.sameMethod x.cls y.cls x.name x.desc).before args s = true) (hxy : y = ⟨y.cls, x.name, x.desc⟩) (hstat : (Cond.static y).before args s = true) (hinit : (Cond.initialized y.cls).before args s = true)
    (hcode : (Cond.code y bytes maxL ret).before args s = true) (hx : x.cls ≠ "java/lang/invoke/MethodHandle" ∧ x.cls ≠ "java/lang/invoke/VarHandle") (hy : y.cls ≠ "java/lang/invoke/MethodHandle" ∧ y.cls ≠ "java/lang/invoke/VarHandle")
    {W : Nat} {Pre : Pt → Array Value → Prop} {Post : Pt → Array Value → Option Value → Pt → Prop} (hK : Back l R p e below s args y 3 W Pre Post)
    {g : JFrame} (hg : g.method = m) (hsize : g.locals.size = c.maxLocals) {argsL rest : List Value} (hlen : ∀ sig, parseMethodDescriptor y.desc = some sig → argsL.length = sig.parameters.length)
    (hstack : g.stack = argsL.reverse ++ rest) (hW : 2 * g.monitorRoom + (rest.map fun v => v.category).sum ≤ W) (hdg : decode c.code g.pc = .ok (.invokestatic index, 3))
    (hpre : ∀ vm₁, s.WarmedH vm₁ → Pre ⟨T.setVm vm₁, locs, cells, slots⟩ argsL.toArray) :
    ∃ (v : Option Value) (vm₁ : Vm) (B : Pt), s.WarmedH vm₁ ∧ Stand p l e R s m args below meth c B.U B.locs B.cells B.slots ∧ Post ⟨T.setVm vm₁, locs, cells, slots⟩ argsL.toArray v B ∧
      ∀ target, Steps p.tables e below (B.U.setTop { g with pc := g.pc + 3, stack := v.toList ++ rest }) target → Steps p.tables e below (T.setTop g) target := by
  obtain ⟨mk, hnamed⟩ := Cond.code_named hcode
  obtain ⟨methM, cM, hmethM, -, -, -, -, -, -, hsigM⟩ := Cond.code_spec hnamed hcode
  have hstatic : methM.isStatic = true := Cond.static_spec hnamed hmethM hstat
  obtain ⟨kP, hkP, -⟩ := className_of_methodNamed hnamed
  have hinitP : kP.init = .initialized := Cond.initialized_spec (findClass_of_methodNamed hnamed) hkP hinit
  obtain ⟨vm₁, X₁, hstep₁⟩ := ps_static X hexec hown hlink hsame hx hy (by rw [← hxy]; exact hnamed) hmethM hstatic hkP hinitP (g := g) hg (argsL := argsL) (rest := rest) (hlen _ hsigM) hstack hdg
  obtain ⟨v, B, X', hpost, hsteps⟩ := hK m meth c ⟨T.setVm vm₁, locs, cells, slots⟩ { g with stack := rest } (.invokestatic index) mk argsL.toArray X₁ hg hsize hdg hW (X₁.named hnamed) (hpre vm₁ X₁.warmed)
  exact ⟨v, vm₁, B, X₁.warmed, X', hpost, fun target h => hstep₁ _ fun acts => by rw [doInvoke_state]; exact hsteps.trans h⟩
end PST
section PSW
variable {p : Program} {l : Launch} {e : Env} {R : Room} {s : State} {m : MethodId} {args : Array Value} {below : List Frame} {meth : Method} {c : Code} {H : Heap} {locs : List Loc} {cells slots : Nat} {Q : State → Prop} {cc : ByteArray} {nL pc : Nat} {ls : Array Slot} {rest : List Value} {g : Gx} {A : Nat → Prop} {σ : St}
def xPW : MethodName := ⟨RX10, "plainWord", "(II)I"⟩
theorem kPW_X10 (C : CX g A p s m args meth c cc nL RX10) {rm : Room} {x y r : Int32} {u : St} (hM : Met l yX2_plainWord (Cond.code yX2_plainWord cX2_plainWord 2 (some .int) :: tb) rm (PcX g [.int x, .int y] σ H.size) (QiX g (AX g H.size) r u) 0 0 (AX g H.size)) (hrm : rm.cells = 0 ∧ rm.slots = 0) (hR : rm.frames + 1 ≤ R.frames ∧ 8 + (2 + 11) + rm.locals ≤ R.locals) (hls : ls.size = nL) (hcat : (rest.map fun v => v.category).sum ≤ 8) (hcs : cells ≤ R.cells ∧ slots ≤ R.slots) (hd : decode cc pc = .ok (.invokestatic 16, 3)) (hP : va_P g.1 vwCl (wX g σ) H) (hS : va_S A s.heap H locs) (kk : ∀ (H1 : Heap) (locs1 : List Loc), va_P g.1 vwCl (wX g u) H1 → va_S A s.heap H1 locs1 → W p l e R s m args below meth c H1 locs1 cells slots Q (F0 m (pc + 3) ls (.int r :: rest))) : W p l e R s m args below meth c H locs cells slots Q (F0 m pc ls (.int y :: .int x :: rest)) := by
  have hts := C.2.2.2.2.1
  have w1 : Cond.methodLink RX10 16 xPW ∈ tb := tb_in 544 (by decide +kernel) (by decide +kernel)
  have w2 : Cond.sameMethod xPW.cls yX2_plainWord.cls xPW.name xPW.desc ∈ tb := tb_in 545 (by decide +kernel) (by decide +kernel)
  have w3 : Cond.static yX2_plainWord ∈ tb := tb_in 546 (by decide +kernel) (by decide +kernel)
  have w4 : Cond.code yX2_plainWord cX2_plainWord 2 (some .int) ∈ tb := tb_in 547 (by decide +kernel) (by decide +kernel)
  have w5 : Cond.initialized yX2_plainWord.cls ∈ tb := tb_in 59 (by decide +kernel) (by decide +kernel)
  have hn : (parseMethodDescriptor yX2_plainWord.desc).map (fun d => d.parameters.length) = some 2 := by decide +kernel
  have hG : GoodIn tb (Cond.code yX2_plainWord cX2_plainWord 2 (some .int) :: tb) := tb_sub (fun w h => by
    rcases List.mem_cons.mp h with h | h
    · rw [h]; exact w4
    · exact h)
  have cb : CallB R s args RX2 16 yX2_plainWord cX2_plainWord 2 (some .int) (Cond.code yX2_plainWord cX2_plainWord 2 (some .int) :: tb) rm 0 0 2 := callB_of 2 hts hG rfl hrm.1 hrm.2 (hts _ w5) (hts (.methodLink RX2 16 yX2_plainWord) (tb_in 551 (by decide +kernel) (by decide +kernel))) ⟨by decide +kernel, by decide +kernel, hn⟩ hR
  have hK : Back l R p e below s args yX2_plainWord 3 8 (PreOf R 0 0 (PcX g [.int x, .int y] σ H.size)) (PostOf (QiX g (AX g H.size) r u) 0 0 (AX g H.size)) := callBack cb hM blind_X
  have hrun : va_Run p l e R s m args below meth c H locs cells slots 0 0 (F0 m pc ls (.int y :: .int x :: rest)) rest (QiX g (AX g H.size) r u ([.int x, .int y] : List Value).toArray) (AX g H.size) := by
    intro T hT X
    obtain ⟨v, vm₁, ⟨U', l2, c2, s2⟩, hW₁, X', ⟨g', mk, t, L, e1, e2, hq, h1, hL, h2, h3⟩, st⟩ := ps_call X C.1 (x := xPW) (y := yX2_plainWord) (bytes := cX2_plainWord) (maxL := 2) (ret := some .int) C.2.2.2.1 (hts _ w1) (hts _ w2) rfl (hts _ w3) (hts _ w5) (hts _ w4) ⟨by decide +kernel, by decide +kernel⟩ ⟨by decide +kernel, by decide +kernel⟩ hK (g := F0 m pc ls (.int y :: .int x :: rest)) rfl (hls.trans C.2.2.1.symm) (argsL := [.int x, .int y]) (rest := rest) (fun sig h => by rw [h] at hn; exact (Option.some.inj hn).symm) rfl (lv_room hcat) (by rw [C.2.1]; exact hd)
      (fun vm₁ hW₁ => ⟨hcs.1, hcs.2, C.pre hP hS hT hW₁⟩)
    dsimp only [Pt.U, Pt.locs, Pt.cells, Pt.slots] at X' e1 e2 h1 h2 h3 st
    subst h1; subst h2; subst h3
    exact ⟨v, (T.setVm vm₁).calling g' mk ([.int x, .int y] : List Value).toArray, t, U', L, hT, X', hL, e1, e2, hq, st⟩
  refine va_calli hrun hS (fun q _ h => C.sub hS q h) (C.sub hS) (fun r' u' t H1 locs1 ht hvm hw' hB hz hk hS1 => ?_)
  obtain ⟨rfl, rfl⟩ := hw'
  exact kk H1 locs1 (C.back ht hB) hS1
end PSW
end
