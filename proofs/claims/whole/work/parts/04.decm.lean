theorem dX12_init_0 : decode cX12_init 0 = .ok (.aload_n 0, 1) := by decide +kernel
theorem dX12_init_1 : decode cX12_init 1 = .ok (.invokespecial 1, 3) := by decide +kernel
theorem dX12_init_4 : decode cX12_init 4 = .ok (.aload_n 0, 1) := by decide +kernel
theorem dX12_init_5 : decode cX12_init 5 = .ok (.bipush 12, 2) := by decide +kernel
theorem dX12_init_7 : decode cX12_init 7 = .ok (.newarray .int, 2) := by decide +kernel
theorem dX12_init_9 : decode cX12_init 9 = .ok (.putfield 7, 3) := by decide +kernel
theorem dX12_init_12 : decode cX12_init 12 = .ok (.aload_n 0, 1) := by decide +kernel
theorem dX12_init_13 : decode cX12_init 13 = .ok (.iconst 3, 1) := by decide +kernel
theorem dX12_init_14 : decode cX12_init 14 = .ok (.newarray .int, 2) := by decide +kernel
theorem dX12_init_16 : decode cX12_init 16 = .ok (.putfield 13, 3) := by decide +kernel
theorem dX12_init_19 : decode cX12_init 19 = .ok (.aload_n 0, 1) := by decide +kernel
theorem dX12_init_20 : decode cX12_init 20 = .ok (.bipush 36, 2) := by decide +kernel
theorem dX12_init_22 : decode cX12_init 22 = .ok (.newarray .int, 2) := by decide +kernel
theorem dX12_init_24 : decode cX12_init 24 = .ok (.putfield 16, 3) := by decide +kernel
theorem dX12_init_27 : decode cX12_init 27 = .ok (.aload_n 0, 1) := by decide +kernel
theorem dX12_init_28 : decode cX12_init 28 = .ok (.sipush 216, 3) := by decide +kernel
theorem dX12_init_31 : decode cX12_init 31 = .ok (.newarray .int, 2) := by decide +kernel
theorem dX12_init_33 : decode cX12_init 33 = .ok (.putfield 19, 3) := by decide +kernel
theorem dX12_init_36 : decode cX12_init 36 = .ok (.aload_n 0, 1) := by decide +kernel
theorem dX12_init_37 : decode cX12_init 37 = .ok (.bipush 41, 2) := by decide +kernel
theorem dX12_init_39 : decode cX12_init 39 = .ok (.newarray .int, 2) := by decide +kernel
theorem dX12_init_41 : decode cX12_init 41 = .ok (.putfield 22, 3) := by decide +kernel
theorem dX12_init_44 : decode cX12_init 44 = .ok (.aload_n 0, 1) := by decide +kernel
theorem dX12_init_45 : decode cX12_init 45 = .ok (.sipush 4096, 3) := by decide +kernel
theorem dX12_init_48 : decode cX12_init 48 = .ok (.newarray .int, 2) := by decide +kernel
theorem dX12_init_50 : decode cX12_init 50 = .ok (.putfield 25, 3) := by decide +kernel
theorem dX12_init_53 : decode cX12_init 53 = .ok (.aload_n 0, 1) := by decide +kernel
theorem dX12_init_54 : decode cX12_init 54 = .ok (.sipush 4096, 3) := by decide +kernel
theorem dX12_init_57 : decode cX12_init 57 = .ok (.newarray .int, 2) := by decide +kernel
theorem dX12_init_59 : decode cX12_init 59 = .ok (.putfield 28, 3) := by decide +kernel
theorem dX12_init_62 : decode cX12_init 62 = .ok (.aload_n 0, 1) := by decide +kernel
theorem dX12_init_63 : decode cX12_init 63 = .ok (.iconst 3, 1) := by decide +kernel
theorem dX12_init_64 : decode cX12_init 64 = .ok (.newarray .int, 2) := by decide +kernel
theorem dX12_init_66 : decode cX12_init 66 = .ok (.putfield 31, 3) := by decide +kernel
theorem dX12_init_69 : decode cX12_init 69 = .ok (.aload_n 0, 1) := by decide +kernel
theorem dX12_init_70 : decode cX12_init 70 = .ok (.bipush 36, 2) := by decide +kernel
theorem dX12_init_72 : decode cX12_init 72 = .ok (.newarray .int, 2) := by decide +kernel
theorem dX12_init_74 : decode cX12_init 74 = .ok (.putfield 34, 3) := by decide +kernel
theorem dX12_init_77 : decode cX12_init 77 = .ok (.aload_n 0, 1) := by decide +kernel
theorem dX12_init_78 : decode cX12_init 78 = .ok (.iconst (-1), 1) := by decide +kernel
theorem dX12_init_79 : decode cX12_init 79 = .ok (.putfield 37, 3) := by decide +kernel
theorem dX12_init_82 : decode cX12_init 82 = .ok (.aload_n 0, 1) := by decide +kernel
theorem dX12_init_83 : decode cX12_init 83 = .ok (.iconst (-1), 1) := by decide +kernel
theorem dX12_init_84 : decode cX12_init 84 = .ok (.putfield 41, 3) := by decide +kernel
theorem dX12_init_87 : decode cX12_init 87 = .ok (.return_, 1) := by decide +kernel
theorem dX12_in_0 : decode cX12_in 0 = .ok (.lload_n 0, 1) := by decide +kernel
theorem dX12_in_1 : decode cX12_in 1 = .ok (.lload_n 2, 1) := by decide +kernel
theorem dX12_in_2 : decode cX12_in 2 = .ok (.lcmp, 1) := by decide +kernel
theorem dX12_in_3 : decode cX12_in 3 = .ok (.ifCond .lt 14, 3) := by decide +kernel
theorem dX12_in_6 : decode cX12_in 6 = .ok (.lload_n 0, 1) := by decide +kernel
theorem dX12_in_7 : decode cX12_in 7 = .ok (.lload 4, 2) := by decide +kernel
theorem dX12_in_9 : decode cX12_in 9 = .ok (.lcmp, 1) := by decide +kernel
theorem dX12_in_10 : decode cX12_in 10 = .ok (.ifCond .gt 7, 3) := by decide +kernel
theorem dX12_in_13 : decode cX12_in 13 = .ok (.iconst 1, 1) := by decide +kernel
theorem dX12_in_14 : decode cX12_in 14 = .ok (.goto 4, 3) := by decide +kernel
theorem dX12_in_17 : decode cX12_in 17 = .ok (.iconst 0, 1) := by decide +kernel
theorem dX12_in_18 : decode cX12_in 18 = .ok (.ireturn, 1) := by decide +kernel
theorem dX12_copy_0 : decode cX12_copy 0 = .ok (.iconst 0, 1) := by decide +kernel
theorem dX12_copy_1 : decode cX12_copy 1 = .ok (.istore_n 2, 1) := by decide +kernel
theorem dX12_copy_2 : decode cX12_copy 2 = .ok (.iload_n 2, 1) := by decide +kernel
theorem dX12_copy_3 : decode cX12_copy 3 = .ok (.aload_n 0, 1) := by decide +kernel
theorem dX12_copy_4 : decode cX12_copy 4 = .ok (.arraylength, 1) := by decide +kernel
theorem dX12_copy_5 : decode cX12_copy 5 = .ok (.if_icmp .ge 15, 3) := by decide +kernel
theorem dX12_copy_8 : decode cX12_copy 8 = .ok (.aload_n 1, 1) := by decide +kernel
theorem dX12_copy_9 : decode cX12_copy 9 = .ok (.iload_n 2, 1) := by decide +kernel
theorem dX12_copy_10 : decode cX12_copy 10 = .ok (.aload_n 0, 1) := by decide +kernel
theorem dX12_copy_11 : decode cX12_copy 11 = .ok (.iload_n 2, 1) := by decide +kernel
theorem dX12_copy_12 : decode cX12_copy 12 = .ok (.iaload, 1) := by decide +kernel
theorem dX12_copy_13 : decode cX12_copy 13 = .ok (.iastore, 1) := by decide +kernel
theorem dX12_copy_14 : decode cX12_copy 14 = .ok (.iinc 2 1, 3) := by decide +kernel
theorem dX12_copy_17 : decode cX12_copy 17 = .ok (.goto (-15), 3) := by decide +kernel
theorem dX12_copy_20 : decode cX12_copy 20 = .ok (.return_, 1) := by decide +kernel
theorem dX12_letter_0 : decode cX12_letter 0 = .ok (.iload_n 1, 1) := by decide +kernel
theorem dX12_letter_1 : decode cX12_letter 1 = .ok (.i2l, 1) := by decide +kernel
theorem dX12_letter_2 : decode cX12_letter 2 = .ok (.lconst 1, 1) := by decide +kernel
theorem dX12_letter_3 : decode cX12_letter 3 = .ok (.ldc2_w 44, 3) := by decide +kernel
theorem dX12_letter_6 : decode cX12_letter 6 = .ok (.invokestatic 46, 3) := by decide +kernel
theorem dX12_letter_9 : decode cX12_letter 9 = .ok (.ifCond .ne 6, 3) := by decide +kernel
theorem dX12_letter_12 : decode cX12_letter 12 = .ok (.bipush (-102), 2) := by decide +kernel
theorem dX12_letter_14 : decode cX12_letter 14 = .ok (.ireturn, 1) := by decide +kernel
theorem dX12_letter_15 : decode cX12_letter 15 = .ok (.aload_n 0, 1) := by decide +kernel
theorem dX12_letter_16 : decode cX12_letter 16 = .ok (.getfield 50, 3) := by decide +kernel
theorem dX12_letter_19 : decode cX12_letter 19 = .ok (.bipush 12, 2) := by decide +kernel
theorem dX12_letter_21 : decode cX12_letter 21 = .ok (.if_icmp .ne 6, 3) := by decide +kernel
theorem dX12_letter_24 : decode cX12_letter 24 = .ok (.bipush (-104), 2) := by decide +kernel
theorem dX12_letter_26 : decode cX12_letter 26 = .ok (.ireturn, 1) := by decide +kernel
theorem dX12_letter_27 : decode cX12_letter 27 = .ok (.aload_n 0, 1) := by decide +kernel
theorem dX12_letter_28 : decode cX12_letter 28 = .ok (.getfield 7, 3) := by decide +kernel
theorem dX12_letter_31 : decode cX12_letter 31 = .ok (.aload_n 0, 1) := by decide +kernel
theorem dX12_letter_32 : decode cX12_letter 32 = .ok (.getfield 50, 3) := by decide +kernel
theorem dX12_letter_35 : decode cX12_letter 35 = .ok (.iload_n 1, 1) := by decide +kernel
theorem dX12_letter_36 : decode cX12_letter 36 = .ok (.iastore, 1) := by decide +kernel
theorem dX12_letter_37 : decode cX12_letter 37 = .ok (.aload_n 0, 1) := by decide +kernel
theorem dX12_letter_38 : decode cX12_letter 38 = .ok (.dup, 1) := by decide +kernel
theorem dX12_letter_39 : decode cX12_letter 39 = .ok (.getfield 50, 3) := by decide +kernel
theorem dX12_letter_42 : decode cX12_letter 42 = .ok (.iconst 1, 1) := by decide +kernel
theorem dX12_letter_43 : decode cX12_letter 43 = .ok (.iadd, 1) := by decide +kernel
theorem dX12_letter_44 : decode cX12_letter 44 = .ok (.putfield 50, 3) := by decide +kernel
theorem dX12_letter_47 : decode cX12_letter 47 = .ok (.aload_n 0, 1) := by decide +kernel
theorem dX12_letter_48 : decode cX12_letter 48 = .ok (.getfield 50, 3) := by decide +kernel
theorem dX12_letter_51 : decode cX12_letter 51 = .ok (.ireturn, 1) := by decide +kernel
theorem dX12_blank_0 : decode cX12_blank 0 = .ok (.aload_n 0, 1) := by decide +kernel
theorem dX12_blank_1 : decode cX12_blank 1 = .ok (.getfield 50, 3) := by decide +kernel
theorem dX12_blank_4 : decode cX12_blank 4 = .ok (.istore_n 1, 1) := by decide +kernel
theorem dX12_blank_5 : decode cX12_blank 5 = .ok (.aload_n 0, 1) := by decide +kernel
theorem dX12_blank_6 : decode cX12_blank 6 = .ok (.iconst 0, 1) := by decide +kernel
theorem dX12_blank_7 : decode cX12_blank 7 = .ok (.putfield 50, 3) := by decide +kernel
theorem dX12_blank_10 : decode cX12_blank 10 = .ok (.iload_n 1, 1) := by decide +kernel
theorem dX12_blank_11 : decode cX12_blank 11 = .ok (.ireturn, 1) := by decide +kernel
theorem dX12_kindBy_0 : decode cX12_kindBy 0 = .ok (.iload_n 0, 1) := by decide +kernel
theorem dX12_kindBy_1 : decode cX12_kindBy 1 = .ok (.lookupswitch 61 #[(99, 59), (106, 51), (115, 53), (116, 55), (119, 57)], 51) := by decide +kernel
theorem dX12_kindBy_52 : decode cX12_kindBy 52 = .ok (.iconst 0, 1) := by decide +kernel
theorem dX12_kindBy_53 : decode cX12_kindBy 53 = .ok (.ireturn, 1) := by decide +kernel
theorem dX12_kindBy_54 : decode cX12_kindBy 54 = .ok (.iconst 1, 1) := by decide +kernel
theorem dX12_kindBy_55 : decode cX12_kindBy 55 = .ok (.ireturn, 1) := by decide +kernel
theorem dX12_kindBy_56 : decode cX12_kindBy 56 = .ok (.iconst 2, 1) := by decide +kernel
theorem dX12_kindBy_57 : decode cX12_kindBy 57 = .ok (.ireturn, 1) := by decide +kernel
theorem dX12_kindBy_58 : decode cX12_kindBy 58 = .ok (.iconst 3, 1) := by decide +kernel
theorem dX12_kindBy_59 : decode cX12_kindBy 59 = .ok (.ireturn, 1) := by decide +kernel
theorem dX12_kindBy_60 : decode cX12_kindBy 60 = .ok (.iconst 4, 1) := by decide +kernel
theorem dX12_kindBy_61 : decode cX12_kindBy 61 = .ok (.ireturn, 1) := by decide +kernel
theorem dX12_kindBy_62 : decode cX12_kindBy 62 = .ok (.iconst (-1), 1) := by decide +kernel
theorem dX12_kindBy_63 : decode cX12_kindBy 63 = .ok (.ireturn, 1) := by decide +kernel
theorem dX12_isJudgeLetter_0 : decode cX12_isJudgeLetter 0 = .ok (.aload_n 0, 1) := by decide +kernel
theorem dX12_isJudgeLetter_1 : decode cX12_isJudgeLetter 1 = .ok (.getfield 7, 3) := by decide +kernel
theorem dX12_isJudgeLetter_4 : decode cX12_isJudgeLetter 4 = .ok (.iload_n 1, 1) := by decide +kernel
theorem dX12_isJudgeLetter_5 : decode cX12_isJudgeLetter 5 = .ok (.iaload, 1) := by decide +kernel
theorem dX12_isJudgeLetter_6 : decode cX12_isJudgeLetter 6 = .ok (.istore_n 2, 1) := by decide +kernel
theorem dX12_isJudgeLetter_7 : decode cX12_isJudgeLetter 7 = .ok (.iload_n 2, 1) := by decide +kernel
theorem dX12_isJudgeLetter_8 : decode cX12_isJudgeLetter 8 = .ok (.bipush 59, 2) := by decide +kernel
theorem dX12_isJudgeLetter_10 : decode cX12_isJudgeLetter 10 = .ok (.if_icmp .ne 15, 3) := by decide +kernel
theorem dX12_isJudgeLetter_13 : decode cX12_isJudgeLetter 13 = .ok (.iload_n 1, 1) := by decide +kernel
theorem dX12_isJudgeLetter_14 : decode cX12_isJudgeLetter 14 = .ok (.iconst 3, 1) := by decide +kernel
theorem dX12_isJudgeLetter_15 : decode cX12_isJudgeLetter 15 = .ok (.if_icmp .le 10, 3) := by decide +kernel
theorem dX12_isJudgeLetter_18 : decode cX12_isJudgeLetter 18 = .ok (.aload_n 0, 1) := by decide +kernel
theorem dX12_isJudgeLetter_19 : decode cX12_isJudgeLetter 19 = .ok (.iload_n 1, 1) := by decide +kernel
theorem dX12_isJudgeLetter_20 : decode cX12_isJudgeLetter 20 = .ok (.putfield 53, 3) := by decide +kernel
theorem dX12_isJudgeLetter_23 : decode cX12_isJudgeLetter 23 = .ok (.iconst 1, 1) := by decide +kernel
theorem dX12_isJudgeLetter_24 : decode cX12_isJudgeLetter 24 = .ok (.ireturn, 1) := by decide +kernel
theorem dX12_isJudgeLetter_25 : decode cX12_isJudgeLetter 25 = .ok (.iload_n 2, 1) := by decide +kernel
theorem dX12_isJudgeLetter_26 : decode cX12_isJudgeLetter 26 = .ok (.invokestatic 56, 3) := by decide +kernel
theorem dX12_isJudgeLetter_29 : decode cX12_isJudgeLetter 29 = .ok (.iconst (-1), 1) := by decide +kernel
theorem dX12_isJudgeLetter_30 : decode cX12_isJudgeLetter 30 = .ok (.if_icmp .eq 13, 3) := by decide +kernel
theorem dX12_isJudgeLetter_33 : decode cX12_isJudgeLetter 33 = .ok (.iload_n 1, 1) := by decide +kernel
theorem dX12_isJudgeLetter_34 : decode cX12_isJudgeLetter 34 = .ok (.bipush 6, 2) := by decide +kernel
theorem dX12_isJudgeLetter_36 : decode cX12_isJudgeLetter 36 = .ok (.if_icmp .ge 7, 3) := by decide +kernel
theorem dX12_isJudgeLetter_39 : decode cX12_isJudgeLetter 39 = .ok (.iconst 1, 1) := by decide +kernel
theorem dX12_isJudgeLetter_40 : decode cX12_isJudgeLetter 40 = .ok (.goto 4, 3) := by decide +kernel
theorem dX12_isJudgeLetter_43 : decode cX12_isJudgeLetter 43 = .ok (.iconst 0, 1) := by decide +kernel
theorem dX12_isJudgeLetter_44 : decode cX12_isJudgeLetter 44 = .ok (.ireturn, 1) := by decide +kernel
theorem dX12_isGood_0 : decode cX12_isGood 0 = .ok (.aload_n 0, 1) := by decide +kernel
theorem dX12_isGood_1 : decode cX12_isGood 1 = .ok (.getfield 7, 3) := by decide +kernel
theorem dX12_isGood_4 : decode cX12_isGood 4 = .ok (.iload_n 1, 1) := by decide +kernel
theorem dX12_isGood_5 : decode cX12_isGood 5 = .ok (.iaload, 1) := by decide +kernel
theorem dX12_isGood_6 : decode cX12_isGood 6 = .ok (.istore_n 2, 1) := by decide +kernel
theorem dX12_isGood_7 : decode cX12_isGood 7 = .ok (.iload_n 1, 1) := by decide +kernel
theorem dX12_isGood_8 : decode cX12_isGood 8 = .ok (.tableswitch 64 0 2 #[28, 40, 52], 28) := by decide +kernel
theorem dX12_isGood_36 : decode cX12_isGood 36 = .ok (.iload_n 2, 1) := by decide +kernel
theorem dX12_isGood_37 : decode cX12_isGood 37 = .ok (.i2l, 1) := by decide +kernel
theorem dX12_isGood_38 : decode cX12_isGood 38 = .ok (.ldc2_w 60, 3) := by decide +kernel
theorem dX12_isGood_41 : decode cX12_isGood 41 = .ok (.ldc2_w 62, 3) := by decide +kernel
theorem dX12_isGood_44 : decode cX12_isGood 44 = .ok (.invokestatic 46, 3) := by decide +kernel
theorem dX12_isGood_47 : decode cX12_isGood 47 = .ok (.ireturn, 1) := by decide +kernel
theorem dX12_isGood_48 : decode cX12_isGood 48 = .ok (.iload_n 2, 1) := by decide +kernel
theorem dX12_isGood_49 : decode cX12_isGood 49 = .ok (.i2l, 1) := by decide +kernel
theorem dX12_isGood_50 : decode cX12_isGood 50 = .ok (.ldc2_w 64, 3) := by decide +kernel
theorem dX12_isGood_53 : decode cX12_isGood 53 = .ok (.ldc2_w 66, 3) := by decide +kernel
theorem dX12_isGood_56 : decode cX12_isGood 56 = .ok (.invokestatic 46, 3) := by decide +kernel
theorem dX12_isGood_59 : decode cX12_isGood 59 = .ok (.ireturn, 1) := by decide +kernel
theorem dX12_isGood_60 : decode cX12_isGood 60 = .ok (.iload_n 2, 1) := by decide +kernel
theorem dX12_isGood_61 : decode cX12_isGood 61 = .ok (.bipush 59, 2) := by decide +kernel
theorem dX12_isGood_63 : decode cX12_isGood 63 = .ok (.if_icmp .ne 7, 3) := by decide +kernel
theorem dX12_isGood_66 : decode cX12_isGood 66 = .ok (.iconst 1, 1) := by decide +kernel
theorem dX12_isGood_67 : decode cX12_isGood 67 = .ok (.goto 4, 3) := by decide +kernel
theorem dX12_isGood_70 : decode cX12_isGood 70 = .ok (.iconst 0, 1) := by decide +kernel
theorem dX12_isGood_71 : decode cX12_isGood 71 = .ok (.ireturn, 1) := by decide +kernel
theorem dX12_isGood_72 : decode cX12_isGood 72 = .ok (.aload_n 0, 1) := by decide +kernel
theorem dX12_isGood_73 : decode cX12_isGood 73 = .ok (.getfield 53, 3) := by decide +kernel
theorem dX12_isGood_76 : decode cX12_isGood 76 = .ok (.ifCond .ne 9, 3) := by decide +kernel
theorem dX12_isGood_79 : decode cX12_isGood 79 = .ok (.aload_n 0, 1) := by decide +kernel
theorem dX12_isGood_80 : decode cX12_isGood 80 = .ok (.iload_n 1, 1) := by decide +kernel
theorem dX12_isGood_81 : decode cX12_isGood 81 = .ok (.invokevirtual 68, 3) := by decide +kernel
theorem dX12_isGood_84 : decode cX12_isGood 84 = .ok (.ireturn, 1) := by decide +kernel
theorem dX12_isGood_85 : decode cX12_isGood 85 = .ok (.iload_n 1, 1) := by decide +kernel
theorem dX12_isGood_86 : decode cX12_isGood 86 = .ok (.aload_n 0, 1) := by decide +kernel
theorem dX12_isGood_87 : decode cX12_isGood 87 = .ok (.getfield 53, 3) := by decide +kernel
theorem dX12_isGood_90 : decode cX12_isGood 90 = .ok (.isub, 1) := by decide +kernel
theorem dX12_isGood_91 : decode cX12_isGood 91 = .ok (.aload_n 0, 1) := by decide +kernel
theorem dX12_isGood_92 : decode cX12_isGood 92 = .ok (.getfield 7, 3) := by decide +kernel
theorem dX12_isGood_95 : decode cX12_isGood 95 = .ok (.iconst 0, 1) := by decide +kernel
theorem dX12_isGood_96 : decode cX12_isGood 96 = .ok (.iaload, 1) := by decide +kernel
theorem dX12_isGood_97 : decode cX12_isGood 97 = .ok (.bipush 48, 2) := by decide +kernel
theorem dX12_isGood_99 : decode cX12_isGood 99 = .ok (.isub, 1) := by decide +kernel
theorem dX12_isGood_100 : decode cX12_isGood 100 = .ok (.if_icmp .gt 31, 3) := by decide +kernel
theorem dX12_isGood_103 : decode cX12_isGood 103 = .ok (.iload_n 2, 1) := by decide +kernel
theorem dX12_isGood_104 : decode cX12_isGood 104 = .ok (.i2l, 1) := by decide +kernel
theorem dX12_isGood_105 : decode cX12_isGood 105 = .ok (.ldc2_w 72, 3) := by decide +kernel
theorem dX12_isGood_108 : decode cX12_isGood 108 = .ok (.bipush 97, 2) := by decide +kernel
theorem dX12_isGood_110 : decode cX12_isGood 110 = .ok (.aload_n 0, 1) := by decide +kernel
theorem dX12_isGood_111 : decode cX12_isGood 111 = .ok (.getfield 7, 3) := by decide +kernel
theorem dX12_isGood_114 : decode cX12_isGood 114 = .ok (.iconst 1, 1) := by decide +kernel
theorem dX12_isGood_115 : decode cX12_isGood 115 = .ok (.iaload, 1) := by decide +kernel
theorem dX12_isGood_116 : decode cX12_isGood 116 = .ok (.iadd, 1) := by decide +kernel
theorem dX12_isGood_117 : decode cX12_isGood 117 = .ok (.bipush 49, 2) := by decide +kernel
theorem dX12_isGood_119 : decode cX12_isGood 119 = .ok (.isub, 1) := by decide +kernel
theorem dX12_isGood_120 : decode cX12_isGood 120 = .ok (.i2l, 1) := by decide +kernel
theorem dX12_isGood_121 : decode cX12_isGood 121 = .ok (.invokestatic 46, 3) := by decide +kernel
theorem dX12_isGood_124 : decode cX12_isGood 124 = .ok (.ifCond .eq 7, 3) := by decide +kernel
theorem dX12_isGood_127 : decode cX12_isGood 127 = .ok (.iconst 1, 1) := by decide +kernel
theorem dX12_isGood_128 : decode cX12_isGood 128 = .ok (.goto 4, 3) := by decide +kernel
theorem dX12_isGood_131 : decode cX12_isGood 131 = .ok (.iconst 0, 1) := by decide +kernel
theorem dX12_isGood_132 : decode cX12_isGood 132 = .ok (.ireturn, 1) := by decide +kernel
theorem dX12_faultOf_0 : decode cX12_faultOf 0 = .ok (.aload_n 0, 1) := by decide +kernel
theorem dX12_faultOf_1 : decode cX12_faultOf 1 = .ok (.iconst 0, 1) := by decide +kernel
theorem dX12_faultOf_2 : decode cX12_faultOf 2 = .ok (.putfield 53, 3) := by decide +kernel
theorem dX12_faultOf_5 : decode cX12_faultOf 5 = .ok (.iconst 0, 1) := by decide +kernel
theorem dX12_faultOf_6 : decode cX12_faultOf 6 = .ok (.istore_n 1, 1) := by decide +kernel
theorem dX12_faultOf_7 : decode cX12_faultOf 7 = .ok (.iload_n 1, 1) := by decide +kernel
theorem dX12_faultOf_8 : decode cX12_faultOf 8 = .ok (.aload_n 0, 1) := by decide +kernel
theorem dX12_faultOf_9 : decode cX12_faultOf 9 = .ok (.getfield 50, 3) := by decide +kernel
theorem dX12_faultOf_12 : decode cX12_faultOf 12 = .ok (.if_icmp .ge 17, 3) := by decide +kernel
theorem dX12_faultOf_15 : decode cX12_faultOf 15 = .ok (.aload_n 0, 1) := by decide +kernel
theorem dX12_faultOf_16 : decode cX12_faultOf 16 = .ok (.iload_n 1, 1) := by decide +kernel
theorem dX12_faultOf_17 : decode cX12_faultOf 17 = .ok (.invokevirtual 74, 3) := by decide +kernel
theorem dX12_faultOf_20 : decode cX12_faultOf 20 = .ok (.ifCond .eq 9, 3) := by decide +kernel
theorem dX12_faultOf_23 : decode cX12_faultOf 23 = .ok (.iinc 1 1, 3) := by decide +kernel
theorem dX12_faultOf_26 : decode cX12_faultOf 26 = .ok (.goto (-19), 3) := by decide +kernel
theorem dX12_faultOf_29 : decode cX12_faultOf 29 = .ok (.iload_n 1, 1) := by decide +kernel
theorem dX12_faultOf_30 : decode cX12_faultOf 30 = .ok (.ireturn, 1) := by decide +kernel
theorem dX12_fault_0 : decode cX12_fault 0 = .ok (.aload_n 0, 1) := by decide +kernel
theorem dX12_fault_1 : decode cX12_fault 1 = .ok (.invokevirtual 77, 3) := by decide +kernel
theorem dX12_fault_4 : decode cX12_fault 4 = .ok (.ireturn, 1) := by decide +kernel
theorem dX12_game_0 : decode cX12_game 0 = .ok (.aload_n 0, 1) := by decide +kernel
theorem dX12_game_1 : decode cX12_game 1 = .ok (.invokevirtual 77, 3) := by decide +kernel
theorem dX12_game_4 : decode cX12_game 4 = .ok (.aload_n 0, 1) := by decide +kernel
theorem dX12_game_5 : decode cX12_game 5 = .ok (.getfield 50, 3) := by decide +kernel
theorem dX12_game_8 : decode cX12_game 8 = .ok (.if_icmp .lt 33, 3) := by decide +kernel
theorem dX12_game_11 : decode cX12_game 11 = .ok (.aload_n 0, 1) := by decide +kernel
theorem dX12_game_12 : decode cX12_game 12 = .ok (.getfield 53, 3) := by decide +kernel
theorem dX12_game_15 : decode cX12_game 15 = .ok (.ifCond .eq 26, 3) := by decide +kernel
theorem dX12_game_18 : decode cX12_game 18 = .ok (.aload_n 0, 1) := by decide +kernel
theorem dX12_game_19 : decode cX12_game 19 = .ok (.getfield 50, 3) := by decide +kernel
theorem dX12_game_22 : decode cX12_game 22 = .ok (.aload_n 0, 1) := by decide +kernel
theorem dX12_game_23 : decode cX12_game 23 = .ok (.getfield 53, 3) := by decide +kernel
theorem dX12_game_26 : decode cX12_game 26 = .ok (.isub, 1) := by decide +kernel
theorem dX12_game_27 : decode cX12_game 27 = .ok (.iconst 1, 1) := by decide +kernel
theorem dX12_game_28 : decode cX12_game 28 = .ok (.isub, 1) := by decide +kernel
theorem dX12_game_29 : decode cX12_game 29 = .ok (.aload_n 0, 1) := by decide +kernel
theorem dX12_game_30 : decode cX12_game 30 = .ok (.getfield 7, 3) := by decide +kernel
theorem dX12_game_33 : decode cX12_game 33 = .ok (.iconst 0, 1) := by decide +kernel
theorem dX12_game_34 : decode cX12_game 34 = .ok (.iaload, 1) := by decide +kernel
theorem dX12_game_35 : decode cX12_game 35 = .ok (.bipush 48, 2) := by decide +kernel
theorem dX12_game_37 : decode cX12_game 37 = .ok (.isub, 1) := by decide +kernel
theorem dX12_game_38 : decode cX12_game 38 = .ok (.if_icmp .eq 6, 3) := by decide +kernel
theorem dX12_game_41 : decode cX12_game 41 = .ok (.bipush (-103), 2) := by decide +kernel
theorem dX12_game_43 : decode cX12_game 43 = .ok (.ireturn, 1) := by decide +kernel
theorem dX12_game_44 : decode cX12_game 44 = .ok (.aload_n 0, 1) := by decide +kernel
theorem dX12_game_45 : decode cX12_game 45 = .ok (.aload_n 0, 1) := by decide +kernel
theorem dX12_game_46 : decode cX12_game 46 = .ok (.getfield 7, 3) := by decide +kernel
theorem dX12_game_49 : decode cX12_game 49 = .ok (.iconst 0, 1) := by decide +kernel
theorem dX12_game_50 : decode cX12_game 50 = .ok (.iaload, 1) := by decide +kernel
theorem dX12_game_51 : decode cX12_game 51 = .ok (.bipush 48, 2) := by decide +kernel
theorem dX12_game_53 : decode cX12_game 53 = .ok (.isub, 1) := by decide +kernel
theorem dX12_game_54 : decode cX12_game 54 = .ok (.putfield 81, 3) := by decide +kernel
theorem dX12_game_57 : decode cX12_game 57 = .ok (.aload_n 0, 1) := by decide +kernel
theorem dX12_game_58 : decode cX12_game 58 = .ok (.aload_n 0, 1) := by decide +kernel
theorem dX12_game_59 : decode cX12_game 59 = .ok (.getfield 7, 3) := by decide +kernel
theorem dX12_game_62 : decode cX12_game 62 = .ok (.iconst 1, 1) := by decide +kernel
theorem dX12_game_63 : decode cX12_game 63 = .ok (.iaload, 1) := by decide +kernel
theorem dX12_game_64 : decode cX12_game 64 = .ok (.bipush 48, 2) := by decide +kernel
theorem dX12_game_66 : decode cX12_game 66 = .ok (.isub, 1) := by decide +kernel
theorem dX12_game_67 : decode cX12_game 67 = .ok (.putfield 84, 3) := by decide +kernel
theorem dX12_game_70 : decode cX12_game 70 = .ok (.aload_n 0, 1) := by decide +kernel
theorem dX12_game_71 : decode cX12_game 71 = .ok (.aload_n 0, 1) := by decide +kernel
theorem dX12_game_72 : decode cX12_game 72 = .ok (.getfield 53, 3) := by decide +kernel
theorem dX12_game_75 : decode cX12_game 75 = .ok (.iconst 3, 1) := by decide +kernel
theorem dX12_game_76 : decode cX12_game 76 = .ok (.isub, 1) := by decide +kernel
theorem dX12_game_77 : decode cX12_game 77 = .ok (.putfield 87, 3) := by decide +kernel
theorem dX12_game_80 : decode cX12_game 80 = .ok (.aload_n 0, 1) := by decide +kernel
theorem dX12_game_81 : decode cX12_game 81 = .ok (.iconst 1, 1) := by decide +kernel
theorem dX12_game_82 : decode cX12_game 82 = .ok (.putfield 90, 3) := by decide +kernel
theorem dX12_game_85 : decode cX12_game 85 = .ok (.aload_n 0, 1) := by decide +kernel
theorem dX12_game_86 : decode cX12_game 86 = .ok (.iconst 0, 1) := by decide +kernel
theorem dX12_game_87 : decode cX12_game 87 = .ok (.putfield 41, 3) := by decide +kernel
theorem dX12_game_90 : decode cX12_game 90 = .ok (.iconst 0, 1) := by decide +kernel
theorem dX12_game_91 : decode cX12_game 91 = .ok (.istore_n 1, 1) := by decide +kernel
theorem dX12_game_92 : decode cX12_game 92 = .ok (.iload_n 1, 1) := by decide +kernel
theorem dX12_game_93 : decode cX12_game 93 = .ok (.aload_n 0, 1) := by decide +kernel
theorem dX12_game_94 : decode cX12_game 94 = .ok (.getfield 81, 3) := by decide +kernel
theorem dX12_game_97 : decode cX12_game 97 = .ok (.if_icmp .ge 52, 3) := by decide +kernel
theorem dX12_game_100 : decode cX12_game 100 = .ok (.aload_n 0, 1) := by decide +kernel
theorem dX12_game_101 : decode cX12_game 101 = .ok (.dup, 1) := by decide +kernel
theorem dX12_game_102 : decode cX12_game 102 = .ok (.getfield 90, 3) := by decide +kernel
theorem dX12_game_105 : decode cX12_game 105 = .ok (.aload_n 0, 1) := by decide +kernel
theorem dX12_game_106 : decode cX12_game 106 = .ok (.getfield 84, 3) := by decide +kernel
theorem dX12_game_109 : decode cX12_game 109 = .ok (.imul, 1) := by decide +kernel
theorem dX12_game_110 : decode cX12_game 110 = .ok (.putfield 90, 3) := by decide +kernel
theorem dX12_game_113 : decode cX12_game 113 = .ok (.aload_n 0, 1) := by decide +kernel
theorem dX12_game_114 : decode cX12_game 114 = .ok (.aload_n 0, 1) := by decide +kernel
theorem dX12_game_115 : decode cX12_game 115 = .ok (.getfield 41, 3) := by decide +kernel
theorem dX12_game_118 : decode cX12_game 118 = .ok (.aload_n 0, 1) := by decide +kernel
theorem dX12_game_119 : decode cX12_game 119 = .ok (.getfield 84, 3) := by decide +kernel
theorem dX12_game_122 : decode cX12_game 122 = .ok (.imul, 1) := by decide +kernel
theorem dX12_game_123 : decode cX12_game 123 = .ok (.aload_n 0, 1) := by decide +kernel
theorem dX12_game_124 : decode cX12_game 124 = .ok (.getfield 7, 3) := by decide +kernel
theorem dX12_game_127 : decode cX12_game 127 = .ok (.aload_n 0, 1) := by decide +kernel
theorem dX12_game_128 : decode cX12_game 128 = .ok (.getfield 53, 3) := by decide +kernel
theorem dX12_game_131 : decode cX12_game 131 = .ok (.iconst 1, 1) := by decide +kernel
theorem dX12_game_132 : decode cX12_game 132 = .ok (.iadd, 1) := by decide +kernel
theorem dX12_game_133 : decode cX12_game 133 = .ok (.iload_n 1, 1) := by decide +kernel
theorem dX12_game_134 : decode cX12_game 134 = .ok (.iadd, 1) := by decide +kernel
theorem dX12_game_135 : decode cX12_game 135 = .ok (.iaload, 1) := by decide +kernel
theorem dX12_game_136 : decode cX12_game 136 = .ok (.iadd, 1) := by decide +kernel
theorem dX12_game_137 : decode cX12_game 137 = .ok (.bipush 97, 2) := by decide +kernel
theorem dX12_game_139 : decode cX12_game 139 = .ok (.isub, 1) := by decide +kernel
theorem dX12_game_140 : decode cX12_game 140 = .ok (.putfield 41, 3) := by decide +kernel
theorem dX12_game_143 : decode cX12_game 143 = .ok (.iinc 1 1, 3) := by decide +kernel
theorem dX12_game_146 : decode cX12_game 146 = .ok (.goto (-54), 3) := by decide +kernel
theorem dX12_game_149 : decode cX12_game 149 = .ok (.iconst 0, 1) := by decide +kernel
theorem dX12_game_150 : decode cX12_game 150 = .ok (.istore_n 1, 1) := by decide +kernel
theorem dX12_game_151 : decode cX12_game 151 = .ok (.iload_n 1, 1) := by decide +kernel
theorem dX12_game_152 : decode cX12_game 152 = .ok (.aload_n 0, 1) := by decide +kernel
theorem dX12_game_153 : decode cX12_game 153 = .ok (.getfield 87, 3) := by decide +kernel
theorem dX12_game_156 : decode cX12_game 156 = .ok (.if_icmp .ge 26, 3) := by decide +kernel
theorem dX12_game_159 : decode cX12_game 159 = .ok (.aload_n 0, 1) := by decide +kernel
theorem dX12_game_160 : decode cX12_game 160 = .ok (.getfield 13, 3) := by decide +kernel
theorem dX12_game_163 : decode cX12_game 163 = .ok (.iload_n 1, 1) := by decide +kernel
theorem dX12_game_164 : decode cX12_game 164 = .ok (.aload_n 0, 1) := by decide +kernel
theorem dX12_game_165 : decode cX12_game 165 = .ok (.getfield 7, 3) := by decide +kernel
theorem dX12_game_168 : decode cX12_game 168 = .ok (.iconst 3, 1) := by decide +kernel
theorem dX12_game_169 : decode cX12_game 169 = .ok (.iload_n 1, 1) := by decide +kernel
theorem dX12_game_170 : decode cX12_game 170 = .ok (.iadd, 1) := by decide +kernel
theorem dX12_game_171 : decode cX12_game 171 = .ok (.iaload, 1) := by decide +kernel
theorem dX12_game_172 : decode cX12_game 172 = .ok (.invokestatic 56, 3) := by decide +kernel
theorem dX12_game_175 : decode cX12_game 175 = .ok (.iastore, 1) := by decide +kernel
theorem dX12_game_176 : decode cX12_game 176 = .ok (.iinc 1 1, 3) := by decide +kernel
theorem dX12_game_179 : decode cX12_game 179 = .ok (.goto (-28), 3) := by decide +kernel
theorem dX12_game_182 : decode cX12_game 182 = .ok (.aload_n 0, 1) := by decide +kernel
theorem dX12_game_183 : decode cX12_game 183 = .ok (.iconst 0, 1) := by decide +kernel
theorem dX12_game_184 : decode cX12_game 184 = .ok (.putfield 93, 3) := by decide +kernel
theorem dX12_game_187 : decode cX12_game 187 = .ok (.aload_n 0, 1) := by decide +kernel
theorem dX12_game_188 : decode cX12_game 188 = .ok (.dup, 1) := by decide +kernel
theorem dX12_game_189 : decode cX12_game 189 = .ok (.getfield 96, 3) := by decide +kernel
theorem dX12_game_192 : decode cX12_game 192 = .ok (.iconst 1, 1) := by decide +kernel
theorem dX12_game_193 : decode cX12_game 193 = .ok (.iadd, 1) := by decide +kernel
theorem dX12_game_194 : decode cX12_game 194 = .ok (.putfield 96, 3) := by decide +kernel
theorem dX12_game_197 : decode cX12_game 197 = .ok (.aload_n 0, 1) := by decide +kernel
theorem dX12_game_198 : decode cX12_game 198 = .ok (.iconst 0, 1) := by decide +kernel
theorem dX12_game_199 : decode cX12_game 199 = .ok (.putfield 50, 3) := by decide +kernel
theorem dX12_game_202 : decode cX12_game 202 = .ok (.aload_n 0, 1) := by decide +kernel
theorem dX12_game_203 : decode cX12_game 203 = .ok (.getfield 90, 3) := by decide +kernel
theorem dX12_game_206 : decode cX12_game 206 = .ok (.ireturn, 1) := by decide +kernel
theorem dX12_lacks_0 : decode cX12_lacks 0 = .ok (.aload_n 0, 1) := by decide +kernel
theorem dX12_lacks_1 : decode cX12_lacks 1 = .ok (.getfield 90, 3) := by decide +kernel
theorem dX12_lacks_4 : decode cX12_lacks 4 = .ok (.ifCond .ne 7, 3) := by decide +kernel
theorem dX12_lacks_7 : decode cX12_lacks 7 = .ok (.iconst 1, 1) := by decide +kernel
theorem dX12_lacks_8 : decode cX12_lacks 8 = .ok (.goto 4, 3) := by decide +kernel
theorem dX12_lacks_11 : decode cX12_lacks 11 = .ok (.iconst 0, 1) := by decide +kernel
theorem dX12_lacks_12 : decode cX12_lacks 12 = .ok (.ireturn, 1) := by decide +kernel
theorem dX12_isRow_0 : decode cX12_isRow 0 = .ok (.iload_n 1, 1) := by decide +kernel
theorem dX12_isRow_1 : decode cX12_isRow 1 = .ok (.i2l, 1) := by decide +kernel
theorem dX12_isRow_2 : decode cX12_isRow 2 = .ok (.lconst 0, 1) := by decide +kernel
theorem dX12_isRow_3 : decode cX12_isRow 3 = .ok (.aload_n 0, 1) := by decide +kernel
theorem dX12_isRow_4 : decode cX12_isRow 4 = .ok (.getfield 90, 3) := by decide +kernel
theorem dX12_isRow_7 : decode cX12_isRow 7 = .ok (.iconst 1, 1) := by decide +kernel
theorem dX12_isRow_8 : decode cX12_isRow 8 = .ok (.isub, 1) := by decide +kernel
theorem dX12_isRow_9 : decode cX12_isRow 9 = .ok (.i2l, 1) := by decide +kernel
theorem dX12_isRow_10 : decode cX12_isRow 10 = .ok (.invokestatic 46, 3) := by decide +kernel
theorem dX12_isRow_13 : decode cX12_isRow 13 = .ok (.ireturn, 1) := by decide +kernel
theorem dX12_isJudge_0 : decode cX12_isJudge 0 = .ok (.iload_n 1, 1) := by decide +kernel
theorem dX12_isJudge_1 : decode cX12_isJudge 1 = .ok (.i2l, 1) := by decide +kernel
theorem dX12_isJudge_2 : decode cX12_isJudge 2 = .ok (.lconst 0, 1) := by decide +kernel
theorem dX12_isJudge_3 : decode cX12_isJudge 3 = .ok (.aload_n 0, 1) := by decide +kernel
theorem dX12_isJudge_4 : decode cX12_isJudge 4 = .ok (.getfield 87, 3) := by decide +kernel
theorem dX12_isJudge_7 : decode cX12_isJudge 7 = .ok (.iconst 1, 1) := by decide +kernel
theorem dX12_isJudge_8 : decode cX12_isJudge 8 = .ok (.isub, 1) := by decide +kernel
theorem dX12_isJudge_9 : decode cX12_isJudge 9 = .ok (.i2l, 1) := by decide +kernel
theorem dX12_isJudge_10 : decode cX12_isJudge 10 = .ok (.invokestatic 46, 3) := by decide +kernel
theorem dX12_isJudge_13 : decode cX12_isJudge 13 = .ok (.ireturn, 1) := by decide +kernel
theorem dX12_peg_0 : decode cX12_peg 0 = .ok (.iload_n 1, 1) := by decide +kernel
theorem dX12_peg_1 : decode cX12_peg 1 = .ok (.istore_n 3, 1) := by decide +kernel
theorem dX12_peg_2 : decode cX12_peg 2 = .ok (.iload_n 2, 1) := by decide +kernel
theorem dX12_peg_3 : decode cX12_peg 3 = .ok (.iconst 1, 1) := by decide +kernel
theorem dX12_peg_4 : decode cX12_peg 4 = .ok (.iadd, 1) := by decide +kernel
theorem dX12_peg_5 : decode cX12_peg 5 = .ok (.istore 4, 2) := by decide +kernel
theorem dX12_peg_7 : decode cX12_peg 7 = .ok (.iload 4, 2) := by decide +kernel
theorem dX12_peg_9 : decode cX12_peg 9 = .ok (.aload_n 0, 1) := by decide +kernel
theorem dX12_peg_10 : decode cX12_peg 10 = .ok (.getfield 81, 3) := by decide +kernel
theorem dX12_peg_13 : decode cX12_peg 13 = .ok (.if_icmp .ge 16, 3) := by decide +kernel
theorem dX12_peg_16 : decode cX12_peg 16 = .ok (.iload_n 3, 1) := by decide +kernel
theorem dX12_peg_17 : decode cX12_peg 17 = .ok (.aload_n 0, 1) := by decide +kernel
theorem dX12_peg_18 : decode cX12_peg 18 = .ok (.getfield 84, 3) := by decide +kernel
theorem dX12_peg_21 : decode cX12_peg 21 = .ok (.idiv, 1) := by decide +kernel
theorem dX12_peg_22 : decode cX12_peg 22 = .ok (.istore_n 3, 1) := by decide +kernel
theorem dX12_peg_23 : decode cX12_peg 23 = .ok (.iinc 4 1, 3) := by decide +kernel
theorem dX12_peg_26 : decode cX12_peg 26 = .ok (.goto (-19), 3) := by decide +kernel
theorem dX12_peg_29 : decode cX12_peg 29 = .ok (.iload_n 3, 1) := by decide +kernel
theorem dX12_peg_30 : decode cX12_peg 30 = .ok (.aload_n 0, 1) := by decide +kernel
theorem dX12_peg_31 : decode cX12_peg 31 = .ok (.getfield 84, 3) := by decide +kernel
theorem dX12_peg_34 : decode cX12_peg 34 = .ok (.irem, 1) := by decide +kernel
theorem dX12_peg_35 : decode cX12_peg 35 = .ok (.ireturn, 1) := by decide +kernel
theorem dX12_right_0 : decode cX12_right 0 = .ok (.iconst 0, 1) := by decide +kernel
theorem dX12_right_1 : decode cX12_right 1 = .ok (.istore 4, 2) := by decide +kernel
theorem dX12_right_3 : decode cX12_right 3 = .ok (.iconst 0, 1) := by decide +kernel
theorem dX12_right_4 : decode cX12_right 4 = .ok (.istore 5, 2) := by decide +kernel
theorem dX12_right_6 : decode cX12_right 6 = .ok (.iload 5, 2) := by decide +kernel
theorem dX12_right_8 : decode cX12_right 8 = .ok (.aload_n 0, 1) := by decide +kernel
theorem dX12_right_9 : decode cX12_right 9 = .ok (.getfield 81, 3) := by decide +kernel
theorem dX12_right_12 : decode cX12_right 12 = .ok (.if_icmp .ge 52, 3) := by decide +kernel
theorem dX12_right_15 : decode cX12_right 15 = .ok (.iload 4, 2) := by decide +kernel
theorem dX12_right_17 : decode cX12_right 17 = .ok (.aload_n 0, 1) := by decide +kernel
theorem dX12_right_18 : decode cX12_right 18 = .ok (.iload_n 1, 1) := by decide +kernel
theorem dX12_right_19 : decode cX12_right 19 = .ok (.iload_n 3, 1) := by decide +kernel
theorem dX12_right_20 : decode cX12_right 20 = .ok (.ifCond .eq 15, 3) := by decide +kernel
theorem dX12_right_23 : decode cX12_right 23 = .ok (.aload_n 0, 1) := by decide +kernel
theorem dX12_right_24 : decode cX12_right 24 = .ok (.getfield 81, 3) := by decide +kernel
theorem dX12_right_27 : decode cX12_right 27 = .ok (.iconst 1, 1) := by decide +kernel
theorem dX12_right_28 : decode cX12_right 28 = .ok (.isub, 1) := by decide +kernel
theorem dX12_right_29 : decode cX12_right 29 = .ok (.iload 5, 2) := by decide +kernel
theorem dX12_right_31 : decode cX12_right 31 = .ok (.isub, 1) := by decide +kernel
theorem dX12_right_32 : decode cX12_right 32 = .ok (.goto 5, 3) := by decide +kernel
theorem dX12_right_35 : decode cX12_right 35 = .ok (.iload 5, 2) := by decide +kernel
theorem dX12_right_37 : decode cX12_right 37 = .ok (.invokevirtual 99, 3) := by decide +kernel
theorem dX12_right_40 : decode cX12_right 40 = .ok (.aload_n 0, 1) := by decide +kernel
theorem dX12_right_41 : decode cX12_right 41 = .ok (.iload_n 2, 1) := by decide +kernel
theorem dX12_right_42 : decode cX12_right 42 = .ok (.iload 5, 2) := by decide +kernel
theorem dX12_right_44 : decode cX12_right 44 = .ok (.invokevirtual 99, 3) := by decide +kernel
theorem dX12_right_47 : decode cX12_right 47 = .ok (.if_icmp .ne 7, 3) := by decide +kernel
theorem dX12_right_50 : decode cX12_right 50 = .ok (.iconst 1, 1) := by decide +kernel
theorem dX12_right_51 : decode cX12_right 51 = .ok (.goto 4, 3) := by decide +kernel
theorem dX12_right_54 : decode cX12_right 54 = .ok (.iconst 0, 1) := by decide +kernel
theorem dX12_right_55 : decode cX12_right 55 = .ok (.iadd, 1) := by decide +kernel
theorem dX12_right_56 : decode cX12_right 56 = .ok (.istore 4, 2) := by decide +kernel
theorem dX12_right_58 : decode cX12_right 58 = .ok (.iinc 5 1, 3) := by decide +kernel
theorem dX12_right_61 : decode cX12_right 61 = .ok (.goto (-55), 3) := by decide +kernel
theorem dX12_right_64 : decode cX12_right 64 = .ok (.iload 4, 2) := by decide +kernel
theorem dX12_right_66 : decode cX12_right 66 = .ok (.ireturn, 1) := by decide +kernel
theorem dX12_alike_0 : decode cX12_alike 0 = .ok (.iconst 0, 1) := by decide +kernel
theorem dX12_alike_1 : decode cX12_alike 1 = .ok (.istore_n 3, 1) := by decide +kernel
theorem dX12_alike_2 : decode cX12_alike 2 = .ok (.iconst 0, 1) := by decide +kernel
theorem dX12_alike_3 : decode cX12_alike 3 = .ok (.istore 4, 2) := by decide +kernel
theorem dX12_alike_5 : decode cX12_alike 5 = .ok (.iload 4, 2) := by decide +kernel
theorem dX12_alike_7 : decode cX12_alike 7 = .ok (.aload_n 0, 1) := by decide +kernel
theorem dX12_alike_8 : decode cX12_alike 8 = .ok (.getfield 84, 3) := by decide +kernel
theorem dX12_alike_11 : decode cX12_alike 11 = .ok (.if_icmp .ge 94, 3) := by decide +kernel
theorem dX12_alike_14 : decode cX12_alike 14 = .ok (.iconst 0, 1) := by decide +kernel
theorem dX12_alike_15 : decode cX12_alike 15 = .ok (.istore 5, 2) := by decide +kernel
theorem dX12_alike_17 : decode cX12_alike 17 = .ok (.iconst 0, 1) := by decide +kernel
theorem dX12_alike_18 : decode cX12_alike 18 = .ok (.istore 6, 2) := by decide +kernel
theorem dX12_alike_20 : decode cX12_alike 20 = .ok (.iconst 0, 1) := by decide +kernel
theorem dX12_alike_21 : decode cX12_alike 21 = .ok (.istore 7, 2) := by decide +kernel
theorem dX12_alike_23 : decode cX12_alike 23 = .ok (.iload 7, 2) := by decide +kernel
theorem dX12_alike_25 : decode cX12_alike 25 = .ok (.aload_n 0, 1) := by decide +kernel
theorem dX12_alike_26 : decode cX12_alike 26 = .ok (.getfield 81, 3) := by decide +kernel
theorem dX12_alike_29 : decode cX12_alike 29 = .ok (.if_icmp .ge 53, 3) := by decide +kernel
theorem dX12_alike_32 : decode cX12_alike 32 = .ok (.iload 5, 2) := by decide +kernel
theorem dX12_alike_34 : decode cX12_alike 34 = .ok (.aload_n 0, 1) := by decide +kernel
theorem dX12_alike_35 : decode cX12_alike 35 = .ok (.iload_n 1, 1) := by decide +kernel
theorem dX12_alike_36 : decode cX12_alike 36 = .ok (.iload 7, 2) := by decide +kernel
theorem dX12_alike_38 : decode cX12_alike 38 = .ok (.invokevirtual 99, 3) := by decide +kernel
theorem dX12_alike_41 : decode cX12_alike 41 = .ok (.iload 4, 2) := by decide +kernel
theorem dX12_alike_43 : decode cX12_alike 43 = .ok (.if_icmp .ne 7, 3) := by decide +kernel
theorem dX12_alike_46 : decode cX12_alike 46 = .ok (.iconst 1, 1) := by decide +kernel
theorem dX12_alike_47 : decode cX12_alike 47 = .ok (.goto 4, 3) := by decide +kernel
theorem dX12_alike_50 : decode cX12_alike 50 = .ok (.iconst 0, 1) := by decide +kernel
theorem dX12_alike_51 : decode cX12_alike 51 = .ok (.iadd, 1) := by decide +kernel
theorem dX12_alike_52 : decode cX12_alike 52 = .ok (.istore 5, 2) := by decide +kernel
theorem dX12_alike_54 : decode cX12_alike 54 = .ok (.iload 6, 2) := by decide +kernel
theorem dX12_alike_56 : decode cX12_alike 56 = .ok (.aload_n 0, 1) := by decide +kernel
theorem dX12_alike_57 : decode cX12_alike 57 = .ok (.iload_n 2, 1) := by decide +kernel
theorem dX12_alike_58 : decode cX12_alike 58 = .ok (.iload 7, 2) := by decide +kernel
theorem dX12_alike_60 : decode cX12_alike 60 = .ok (.invokevirtual 99, 3) := by decide +kernel
theorem dX12_alike_63 : decode cX12_alike 63 = .ok (.iload 4, 2) := by decide +kernel
theorem dX12_alike_65 : decode cX12_alike 65 = .ok (.if_icmp .ne 7, 3) := by decide +kernel
theorem dX12_alike_68 : decode cX12_alike 68 = .ok (.iconst 1, 1) := by decide +kernel
theorem dX12_alike_69 : decode cX12_alike 69 = .ok (.goto 4, 3) := by decide +kernel
theorem dX12_alike_72 : decode cX12_alike 72 = .ok (.iconst 0, 1) := by decide +kernel
theorem dX12_alike_73 : decode cX12_alike 73 = .ok (.iadd, 1) := by decide +kernel
theorem dX12_alike_74 : decode cX12_alike 74 = .ok (.istore 6, 2) := by decide +kernel
theorem dX12_alike_76 : decode cX12_alike 76 = .ok (.iinc 7 1, 3) := by decide +kernel
theorem dX12_alike_79 : decode cX12_alike 79 = .ok (.goto (-56), 3) := by decide +kernel
theorem dX12_alike_82 : decode cX12_alike 82 = .ok (.iload_n 3, 1) := by decide +kernel
theorem dX12_alike_83 : decode cX12_alike 83 = .ok (.iload 5, 2) := by decide +kernel
theorem dX12_alike_85 : decode cX12_alike 85 = .ok (.iload 6, 2) := by decide +kernel
theorem dX12_alike_87 : decode cX12_alike 87 = .ok (.if_icmp .ge 8, 3) := by decide +kernel
theorem dX12_alike_90 : decode cX12_alike 90 = .ok (.iload 5, 2) := by decide +kernel
theorem dX12_alike_92 : decode cX12_alike 92 = .ok (.goto 5, 3) := by decide +kernel
theorem dX12_alike_95 : decode cX12_alike 95 = .ok (.iload 6, 2) := by decide +kernel
theorem dX12_alike_97 : decode cX12_alike 97 = .ok (.iadd, 1) := by decide +kernel
theorem dX12_alike_98 : decode cX12_alike 98 = .ok (.istore_n 3, 1) := by decide +kernel
theorem dX12_alike_99 : decode cX12_alike 99 = .ok (.iinc 4 1, 3) := by decide +kernel
theorem dX12_alike_102 : decode cX12_alike 102 = .ok (.goto (-97), 3) := by decide +kernel
theorem dX12_alike_105 : decode cX12_alike 105 = .ok (.iload_n 3, 1) := by decide +kernel
theorem dX12_alike_106 : decode cX12_alike 106 = .ok (.ireturn, 1) := by decide +kernel
theorem dX12_tellsBy_0 : decode cX12_tellsBy 0 = .ok (.aload_n 0, 1) := by decide +kernel
theorem dX12_tellsBy_1 : decode cX12_tellsBy 1 = .ok (.iload_n 2, 1) := by decide +kernel
theorem dX12_tellsBy_2 : decode cX12_tellsBy 2 = .ok (.iload_n 3, 1) := by decide +kernel
theorem dX12_tellsBy_3 : decode cX12_tellsBy 3 = .ok (.iload_n 1, 1) := by decide +kernel
theorem dX12_tellsBy_4 : decode cX12_tellsBy 4 = .ok (.iconst 3, 1) := by decide +kernel
theorem dX12_tellsBy_5 : decode cX12_tellsBy 5 = .ok (.if_icmp .ne 7, 3) := by decide +kernel
theorem dX12_tellsBy_8 : decode cX12_tellsBy 8 = .ok (.iconst 1, 1) := by decide +kernel
theorem dX12_tellsBy_9 : decode cX12_tellsBy 9 = .ok (.goto 4, 3) := by decide +kernel
theorem dX12_tellsBy_12 : decode cX12_tellsBy 12 = .ok (.iconst 0, 1) := by decide +kernel
theorem dX12_tellsBy_13 : decode cX12_tellsBy 13 = .ok (.invokevirtual 103, 3) := by decide +kernel
theorem dX12_tellsBy_16 : decode cX12_tellsBy 16 = .ok (.istore 4, 2) := by decide +kernel
theorem dX12_tellsBy_18 : decode cX12_tellsBy 18 = .ok (.iload_n 1, 1) := by decide +kernel
theorem dX12_tellsBy_19 : decode cX12_tellsBy 19 = .ok (.tableswitch 48 1 4 #[29, 36, 48, 39], 29) := by decide +kernel
theorem dX12_tellsBy_48 : decode cX12_tellsBy 48 = .ok (.aload_n 0, 1) := by decide +kernel
theorem dX12_tellsBy_49 : decode cX12_tellsBy 49 = .ok (.iload_n 2, 1) := by decide +kernel
theorem dX12_tellsBy_50 : decode cX12_tellsBy 50 = .ok (.iload_n 3, 1) := by decide +kernel
theorem dX12_tellsBy_51 : decode cX12_tellsBy 51 = .ok (.invokevirtual 107, 3) := by decide +kernel
theorem dX12_tellsBy_54 : decode cX12_tellsBy 54 = .ok (.ireturn, 1) := by decide +kernel
theorem dX12_tellsBy_55 : decode cX12_tellsBy 55 = .ok (.iload 4, 2) := by decide +kernel
theorem dX12_tellsBy_57 : decode cX12_tellsBy 57 = .ok (.ireturn, 1) := by decide +kernel
theorem dX12_tellsBy_58 : decode cX12_tellsBy 58 = .ok (.aload_n 0, 1) := by decide +kernel
theorem dX12_tellsBy_59 : decode cX12_tellsBy 59 = .ok (.iload_n 2, 1) := by decide +kernel
theorem dX12_tellsBy_60 : decode cX12_tellsBy 60 = .ok (.iload_n 3, 1) := by decide +kernel
theorem dX12_tellsBy_61 : decode cX12_tellsBy 61 = .ok (.invokevirtual 107, 3) := by decide +kernel
theorem dX12_tellsBy_64 : decode cX12_tellsBy 64 = .ok (.iconst 2, 1) := by decide +kernel
theorem dX12_tellsBy_65 : decode cX12_tellsBy 65 = .ok (.irem, 1) := by decide +kernel
theorem dX12_tellsBy_66 : decode cX12_tellsBy 66 = .ok (.ireturn, 1) := by decide +kernel
theorem dX12_tellsBy_67 : decode cX12_tellsBy 67 = .ok (.bipush 9, 2) := by decide +kernel
theorem dX12_tellsBy_69 : decode cX12_tellsBy 69 = .ok (.iload 4, 2) := by decide +kernel
theorem dX12_tellsBy_71 : decode cX12_tellsBy 71 = .ok (.imul, 1) := by decide +kernel
theorem dX12_tellsBy_72 : decode cX12_tellsBy 72 = .ok (.aload_n 0, 1) := by decide +kernel
theorem dX12_tellsBy_73 : decode cX12_tellsBy 73 = .ok (.iload_n 2, 1) := by decide +kernel
theorem dX12_tellsBy_74 : decode cX12_tellsBy 74 = .ok (.iload_n 3, 1) := by decide +kernel
theorem dX12_tellsBy_75 : decode cX12_tellsBy 75 = .ok (.invokevirtual 107, 3) := by decide +kernel
theorem dX12_tellsBy_78 : decode cX12_tellsBy 78 = .ok (.iadd, 1) := by decide +kernel
theorem dX12_tellsBy_79 : decode cX12_tellsBy 79 = .ok (.ireturn, 1) := by decide +kernel
theorem dX12_tells_0 : decode cX12_tells 0 = .ok (.aload_n 0, 1) := by decide +kernel
theorem dX12_tells_1 : decode cX12_tells 1 = .ok (.iload_n 1, 1) := by decide +kernel
theorem dX12_tells_2 : decode cX12_tells 2 = .ok (.invokevirtual 110, 3) := by decide +kernel
theorem dX12_tells_5 : decode cX12_tells 5 = .ok (.ifCond .eq 34, 3) := by decide +kernel
theorem dX12_tells_8 : decode cX12_tells 8 = .ok (.aload_n 0, 1) := by decide +kernel
theorem dX12_tells_9 : decode cX12_tells 9 = .ok (.iload_n 2, 1) := by decide +kernel
theorem dX12_tells_10 : decode cX12_tells 10 = .ok (.invokevirtual 113, 3) := by decide +kernel
theorem dX12_tells_13 : decode cX12_tells 13 = .ok (.ifCond .eq 26, 3) := by decide +kernel
theorem dX12_tells_16 : decode cX12_tells 16 = .ok (.aload_n 0, 1) := by decide +kernel
theorem dX12_tells_17 : decode cX12_tells 17 = .ok (.iload_n 3, 1) := by decide +kernel
theorem dX12_tells_18 : decode cX12_tells 18 = .ok (.invokevirtual 113, 3) := by decide +kernel
theorem dX12_tells_21 : decode cX12_tells 21 = .ok (.ifCond .eq 18, 3) := by decide +kernel
theorem dX12_tells_24 : decode cX12_tells 24 = .ok (.aload_n 0, 1) := by decide +kernel
theorem dX12_tells_25 : decode cX12_tells 25 = .ok (.aload_n 0, 1) := by decide +kernel
theorem dX12_tells_26 : decode cX12_tells 26 = .ok (.getfield 13, 3) := by decide +kernel
theorem dX12_tells_29 : decode cX12_tells 29 = .ok (.iload_n 1, 1) := by decide +kernel
theorem dX12_tells_30 : decode cX12_tells 30 = .ok (.iaload, 1) := by decide +kernel
theorem dX12_tells_31 : decode cX12_tells 31 = .ok (.iload_n 2, 1) := by decide +kernel
theorem dX12_tells_32 : decode cX12_tells 32 = .ok (.iload_n 3, 1) := by decide +kernel
theorem dX12_tells_33 : decode cX12_tells 33 = .ok (.invokevirtual 116, 3) := by decide +kernel
theorem dX12_tells_36 : decode cX12_tells 36 = .ok (.goto 5, 3) := by decide +kernel
theorem dX12_tells_39 : decode cX12_tells 39 = .ok (.bipush (-101), 2) := by decide +kernel
theorem dX12_tells_41 : decode cX12_tells 41 = .ok (.ireturn, 1) := by decide +kernel
theorem dX12_isFit_0 : decode cX12_isFit 0 = .ok (.iconst 1, 1) := by decide +kernel
theorem dX12_isFit_1 : decode cX12_isFit 1 = .ok (.istore_n 2, 1) := by decide +kernel
theorem dX12_isFit_2 : decode cX12_isFit 2 = .ok (.iconst 0, 1) := by decide +kernel
theorem dX12_isFit_3 : decode cX12_isFit 3 = .ok (.istore_n 3, 1) := by decide +kernel
theorem dX12_isFit_4 : decode cX12_isFit 4 = .ok (.iload_n 3, 1) := by decide +kernel
theorem dX12_isFit_5 : decode cX12_isFit 5 = .ok (.iconst 3, 1) := by decide +kernel
theorem dX12_isFit_6 : decode cX12_isFit 6 = .ok (.aload_n 0, 1) := by decide +kernel
theorem dX12_isFit_7 : decode cX12_isFit 7 = .ok (.getfield 93, 3) := by decide +kernel
theorem dX12_isFit_10 : decode cX12_isFit 10 = .ok (.imul, 1) := by decide +kernel
theorem dX12_isFit_11 : decode cX12_isFit 11 = .ok (.if_icmp .ge 54, 3) := by decide +kernel
theorem dX12_isFit_14 : decode cX12_isFit 14 = .ok (.iload_n 2, 1) := by decide +kernel
theorem dX12_isFit_15 : decode cX12_isFit 15 = .ok (.ifCond .eq 42, 3) := by decide +kernel
theorem dX12_isFit_18 : decode cX12_isFit 18 = .ok (.aload_n 0, 1) := by decide +kernel
theorem dX12_isFit_19 : decode cX12_isFit 19 = .ok (.aload_n 0, 1) := by decide +kernel
theorem dX12_isFit_20 : decode cX12_isFit 20 = .ok (.getfield 13, 3) := by decide +kernel
theorem dX12_isFit_23 : decode cX12_isFit 23 = .ok (.aload_n 0, 1) := by decide +kernel
theorem dX12_isFit_24 : decode cX12_isFit 24 = .ok (.getfield 16, 3) := by decide +kernel
theorem dX12_isFit_27 : decode cX12_isFit 27 = .ok (.iload_n 3, 1) := by decide +kernel
theorem dX12_isFit_28 : decode cX12_isFit 28 = .ok (.iconst 1, 1) := by decide +kernel
theorem dX12_isFit_29 : decode cX12_isFit 29 = .ok (.iadd, 1) := by decide +kernel
theorem dX12_isFit_30 : decode cX12_isFit 30 = .ok (.iaload, 1) := by decide +kernel
theorem dX12_isFit_31 : decode cX12_isFit 31 = .ok (.iaload, 1) := by decide +kernel
theorem dX12_isFit_32 : decode cX12_isFit 32 = .ok (.aload_n 0, 1) := by decide +kernel
theorem dX12_isFit_33 : decode cX12_isFit 33 = .ok (.getfield 16, 3) := by decide +kernel
theorem dX12_isFit_36 : decode cX12_isFit 36 = .ok (.iload_n 3, 1) := by decide +kernel
theorem dX12_isFit_37 : decode cX12_isFit 37 = .ok (.iaload, 1) := by decide +kernel
theorem dX12_isFit_38 : decode cX12_isFit 38 = .ok (.iload_n 1, 1) := by decide +kernel
theorem dX12_isFit_39 : decode cX12_isFit 39 = .ok (.invokevirtual 116, 3) := by decide +kernel
theorem dX12_isFit_42 : decode cX12_isFit 42 = .ok (.aload_n 0, 1) := by decide +kernel
theorem dX12_isFit_43 : decode cX12_isFit 43 = .ok (.getfield 16, 3) := by decide +kernel
theorem dX12_isFit_46 : decode cX12_isFit 46 = .ok (.iload_n 3, 1) := by decide +kernel
theorem dX12_isFit_47 : decode cX12_isFit 47 = .ok (.iconst 2, 1) := by decide +kernel
theorem dX12_isFit_48 : decode cX12_isFit 48 = .ok (.iadd, 1) := by decide +kernel
theorem dX12_isFit_49 : decode cX12_isFit 49 = .ok (.iaload, 1) := by decide +kernel
theorem dX12_isFit_50 : decode cX12_isFit 50 = .ok (.if_icmp .ne 7, 3) := by decide +kernel
theorem dX12_isFit_53 : decode cX12_isFit 53 = .ok (.iconst 1, 1) := by decide +kernel
theorem dX12_isFit_54 : decode cX12_isFit 54 = .ok (.goto 4, 3) := by decide +kernel
theorem dX12_isFit_57 : decode cX12_isFit 57 = .ok (.iconst 0, 1) := by decide +kernel
theorem dX12_isFit_58 : decode cX12_isFit 58 = .ok (.istore_n 2, 1) := by decide +kernel
theorem dX12_isFit_59 : decode cX12_isFit 59 = .ok (.iinc 3 3, 3) := by decide +kernel
theorem dX12_isFit_62 : decode cX12_isFit 62 = .ok (.goto (-58), 3) := by decide +kernel
theorem dX12_isFit_65 : decode cX12_isFit 65 = .ok (.iload_n 2, 1) := by decide +kernel
theorem dX12_isFit_66 : decode cX12_isFit 66 = .ok (.ireturn, 1) := by decide +kernel
theorem dX12_layFit_0 : decode cX12_layFit 0 = .ok (.iconst 0, 1) := by decide +kernel
theorem dX12_layFit_1 : decode cX12_layFit 1 = .ok (.istore_n 1, 1) := by decide +kernel
theorem dX12_layFit_2 : decode cX12_layFit 2 = .ok (.iload_n 1, 1) := by decide +kernel
theorem dX12_layFit_3 : decode cX12_layFit 3 = .ok (.aload_n 0, 1) := by decide +kernel
theorem dX12_layFit_4 : decode cX12_layFit 4 = .ok (.getfield 90, 3) := by decide +kernel
theorem dX12_layFit_7 : decode cX12_layFit 7 = .ok (.if_icmp .ge 28, 3) := by decide +kernel
theorem dX12_layFit_10 : decode cX12_layFit 10 = .ok (.aload_n 0, 1) := by decide +kernel
theorem dX12_layFit_11 : decode cX12_layFit 11 = .ok (.getfield 19, 3) := by decide +kernel
theorem dX12_layFit_14 : decode cX12_layFit 14 = .ok (.iload_n 1, 1) := by decide +kernel
theorem dX12_layFit_15 : decode cX12_layFit 15 = .ok (.aload_n 0, 1) := by decide +kernel
theorem dX12_layFit_16 : decode cX12_layFit 16 = .ok (.iload_n 1, 1) := by decide +kernel
theorem dX12_layFit_17 : decode cX12_layFit 17 = .ok (.invokevirtual 120, 3) := by decide +kernel
theorem dX12_layFit_20 : decode cX12_layFit 20 = .ok (.ifCond .eq 7, 3) := by decide +kernel
theorem dX12_layFit_23 : decode cX12_layFit 23 = .ok (.iconst 1, 1) := by decide +kernel
theorem dX12_layFit_24 : decode cX12_layFit 24 = .ok (.goto 4, 3) := by decide +kernel
theorem dX12_layFit_27 : decode cX12_layFit 27 = .ok (.iconst 0, 1) := by decide +kernel
theorem dX12_layFit_28 : decode cX12_layFit 28 = .ok (.iastore, 1) := by decide +kernel
theorem dX12_layFit_29 : decode cX12_layFit 29 = .ok (.iinc 1 1, 3) := by decide +kernel
theorem dX12_layFit_32 : decode cX12_layFit 32 = .ok (.goto (-30), 3) := by decide +kernel
theorem dX12_layFit_35 : decode cX12_layFit 35 = .ok (.return_, 1) := by decide +kernel
theorem dX12_fitMany_0 : decode cX12_fitMany 0 = .ok (.iconst 0, 1) := by decide +kernel
theorem dX12_fitMany_1 : decode cX12_fitMany 1 = .ok (.istore_n 1, 1) := by decide +kernel
theorem dX12_fitMany_2 : decode cX12_fitMany 2 = .ok (.iconst 0, 1) := by decide +kernel
theorem dX12_fitMany_3 : decode cX12_fitMany 3 = .ok (.istore_n 2, 1) := by decide +kernel
theorem dX12_fitMany_4 : decode cX12_fitMany 4 = .ok (.iload_n 2, 1) := by decide +kernel
theorem dX12_fitMany_5 : decode cX12_fitMany 5 = .ok (.aload_n 0, 1) := by decide +kernel
theorem dX12_fitMany_6 : decode cX12_fitMany 6 = .ok (.getfield 90, 3) := by decide +kernel
theorem dX12_fitMany_9 : decode cX12_fitMany 9 = .ok (.if_icmp .ge 18, 3) := by decide +kernel
theorem dX12_fitMany_12 : decode cX12_fitMany 12 = .ok (.iload_n 1, 1) := by decide +kernel
theorem dX12_fitMany_13 : decode cX12_fitMany 13 = .ok (.aload_n 0, 1) := by decide +kernel
theorem dX12_fitMany_14 : decode cX12_fitMany 14 = .ok (.getfield 19, 3) := by decide +kernel
theorem dX12_fitMany_17 : decode cX12_fitMany 17 = .ok (.iload_n 2, 1) := by decide +kernel
theorem dX12_fitMany_18 : decode cX12_fitMany 18 = .ok (.iaload, 1) := by decide +kernel
theorem dX12_fitMany_19 : decode cX12_fitMany 19 = .ok (.iadd, 1) := by decide +kernel
theorem dX12_fitMany_20 : decode cX12_fitMany 20 = .ok (.istore_n 1, 1) := by decide +kernel
theorem dX12_fitMany_21 : decode cX12_fitMany 21 = .ok (.iinc 2 1, 3) := by decide +kernel
theorem dX12_fitMany_24 : decode cX12_fitMany 24 = .ok (.goto (-20), 3) := by decide +kernel
theorem dX12_fitMany_27 : decode cX12_fitMany 27 = .ok (.iload_n 1, 1) := by decide +kernel
theorem dX12_fitMany_28 : decode cX12_fitMany 28 = .ok (.ireturn, 1) := by decide +kernel
theorem dX12_leftOf_0 : decode cX12_leftOf 0 = .ok (.aload_n 0, 1) := by decide +kernel
theorem dX12_leftOf_1 : decode cX12_leftOf 1 = .ok (.invokevirtual 123, 3) := by decide +kernel
theorem dX12_leftOf_4 : decode cX12_leftOf 4 = .ok (.aload_n 0, 1) := by decide +kernel
theorem dX12_leftOf_5 : decode cX12_leftOf 5 = .ok (.invokevirtual 126, 3) := by decide +kernel
theorem dX12_leftOf_8 : decode cX12_leftOf 8 = .ok (.ireturn, 1) := by decide +kernel
theorem dX12_left_0 : decode cX12_left 0 = .ok (.aload_n 0, 1) := by decide +kernel
theorem dX12_left_1 : decode cX12_left 1 = .ok (.invokevirtual 129, 3) := by decide +kernel
theorem dX12_left_4 : decode cX12_left 4 = .ok (.ifCond .eq 8, 3) := by decide +kernel
theorem dX12_left_7 : decode cX12_left 7 = .ok (.bipush (-103), 2) := by decide +kernel
theorem dX12_left_9 : decode cX12_left 9 = .ok (.goto 7, 3) := by decide +kernel
theorem dX12_left_12 : decode cX12_left 12 = .ok (.aload_n 0, 1) := by decide +kernel
theorem dX12_left_13 : decode cX12_left 13 = .ok (.invokevirtual 133, 3) := by decide +kernel
theorem dX12_left_16 : decode cX12_left 16 = .ok (.ireturn, 1) := by decide +kernel
theorem dX12_fitsOf_0 : decode cX12_fitsOf 0 = .ok (.aload_n 0, 1) := by decide +kernel
theorem dX12_fitsOf_1 : decode cX12_fitsOf 1 = .ok (.invokevirtual 123, 3) := by decide +kernel
theorem dX12_fitsOf_4 : decode cX12_fitsOf 4 = .ok (.iload_n 1, 1) := by decide +kernel
theorem dX12_fitsOf_5 : decode cX12_fitsOf 5 = .ok (.istore_n 2, 1) := by decide +kernel
theorem dX12_fitsOf_6 : decode cX12_fitsOf 6 = .ok (.iconst 0, 1) := by decide +kernel
theorem dX12_fitsOf_7 : decode cX12_fitsOf 7 = .ok (.istore_n 3, 1) := by decide +kernel
theorem dX12_fitsOf_8 : decode cX12_fitsOf 8 = .ok (.iload_n 3, 1) := by decide +kernel
theorem dX12_fitsOf_9 : decode cX12_fitsOf 9 = .ok (.aload_n 0, 1) := by decide +kernel
theorem dX12_fitsOf_10 : decode cX12_fitsOf 10 = .ok (.getfield 90, 3) := by decide +kernel
theorem dX12_fitsOf_13 : decode cX12_fitsOf 13 = .ok (.if_icmp .ge 34, 3) := by decide +kernel
theorem dX12_fitsOf_16 : decode cX12_fitsOf 16 = .ok (.aload_n 0, 1) := by decide +kernel
theorem dX12_fitsOf_17 : decode cX12_fitsOf 17 = .ok (.getfield 19, 3) := by decide +kernel
theorem dX12_fitsOf_20 : decode cX12_fitsOf 20 = .ok (.iload_n 3, 1) := by decide +kernel
theorem dX12_fitsOf_21 : decode cX12_fitsOf 21 = .ok (.iaload, 1) := by decide +kernel
theorem dX12_fitsOf_22 : decode cX12_fitsOf 22 = .ok (.iconst 1, 1) := by decide +kernel
theorem dX12_fitsOf_23 : decode cX12_fitsOf 23 = .ok (.if_icmp .ne 9, 3) := by decide +kernel
theorem dX12_fitsOf_26 : decode cX12_fitsOf 26 = .ok (.iload_n 2, 1) := by decide +kernel
theorem dX12_fitsOf_27 : decode cX12_fitsOf 27 = .ok (.ifCond .ne 5, 3) := by decide +kernel
theorem dX12_fitsOf_30 : decode cX12_fitsOf 30 = .ok (.iload_n 3, 1) := by decide +kernel
theorem dX12_fitsOf_31 : decode cX12_fitsOf 31 = .ok (.ireturn, 1) := by decide +kernel
theorem dX12_fitsOf_32 : decode cX12_fitsOf 32 = .ok (.iload_n 2, 1) := by decide +kernel
theorem dX12_fitsOf_33 : decode cX12_fitsOf 33 = .ok (.aload_n 0, 1) := by decide +kernel
theorem dX12_fitsOf_34 : decode cX12_fitsOf 34 = .ok (.getfield 19, 3) := by decide +kernel
theorem dX12_fitsOf_37 : decode cX12_fitsOf 37 = .ok (.iload_n 3, 1) := by decide +kernel
theorem dX12_fitsOf_38 : decode cX12_fitsOf 38 = .ok (.iaload, 1) := by decide +kernel
theorem dX12_fitsOf_39 : decode cX12_fitsOf 39 = .ok (.isub, 1) := by decide +kernel
theorem dX12_fitsOf_40 : decode cX12_fitsOf 40 = .ok (.istore_n 2, 1) := by decide +kernel
theorem dX12_fitsOf_41 : decode cX12_fitsOf 41 = .ok (.iinc 3 1, 3) := by decide +kernel
theorem dX12_fitsOf_44 : decode cX12_fitsOf 44 = .ok (.goto (-36), 3) := by decide +kernel
theorem dX12_fitsOf_47 : decode cX12_fitsOf 47 = .ok (.iconst (-1), 1) := by decide +kernel
theorem dX12_fitsOf_48 : decode cX12_fitsOf 48 = .ok (.ireturn, 1) := by decide +kernel
theorem dX12_fits_0 : decode cX12_fits 0 = .ok (.iload_n 1, 1) := by decide +kernel
theorem dX12_fits_1 : decode cX12_fits 1 = .ok (.ifCond .ge 6, 3) := by decide +kernel
theorem dX12_fits_4 : decode cX12_fits 4 = .ok (.bipush (-102), 2) := by decide +kernel
theorem dX12_fits_6 : decode cX12_fits 6 = .ok (.ireturn, 1) := by decide +kernel
theorem dX12_fits_7 : decode cX12_fits 7 = .ok (.aload_n 0, 1) := by decide +kernel
theorem dX12_fits_8 : decode cX12_fits 8 = .ok (.invokevirtual 129, 3) := by decide +kernel
theorem dX12_fits_11 : decode cX12_fits 11 = .ok (.ifCond .eq 8, 3) := by decide +kernel
theorem dX12_fits_14 : decode cX12_fits 14 = .ok (.bipush (-103), 2) := by decide +kernel
theorem dX12_fits_16 : decode cX12_fits 16 = .ok (.goto 8, 3) := by decide +kernel
theorem dX12_fits_19 : decode cX12_fits 19 = .ok (.aload_n 0, 1) := by decide +kernel
theorem dX12_fits_20 : decode cX12_fits 20 = .ok (.iload_n 1, 1) := by decide +kernel
theorem dX12_fits_21 : decode cX12_fits 21 = .ok (.invokevirtual 136, 3) := by decide +kernel
theorem dX12_fits_24 : decode cX12_fits 24 = .ok (.ireturn, 1) := by decide +kernel
theorem dX12_toJudge_0 : decode cX12_toJudge 0 = .ok (.iconst 0, 1) := by decide +kernel
theorem dX12_toJudge_1 : decode cX12_toJudge 1 = .ok (.istore_n 2, 1) := by decide +kernel
theorem dX12_toJudge_2 : decode cX12_toJudge 2 = .ok (.iconst 0, 1) := by decide +kernel
theorem dX12_toJudge_3 : decode cX12_toJudge 3 = .ok (.istore_n 3, 1) := by decide +kernel
theorem dX12_toJudge_4 : decode cX12_toJudge 4 = .ok (.iload_n 3, 1) := by decide +kernel
theorem dX12_toJudge_5 : decode cX12_toJudge 5 = .ok (.aload_n 0, 1) := by decide +kernel
theorem dX12_toJudge_6 : decode cX12_toJudge 6 = .ok (.getfield 93, 3) := by decide +kernel
theorem dX12_toJudge_9 : decode cX12_toJudge 9 = .ok (.if_icmp .ge 31, 3) := by decide +kernel
theorem dX12_toJudge_12 : decode cX12_toJudge 12 = .ok (.iload_n 2, 1) := by decide +kernel
theorem dX12_toJudge_13 : decode cX12_toJudge 13 = .ok (.aload_n 0, 1) := by decide +kernel
theorem dX12_toJudge_14 : decode cX12_toJudge 14 = .ok (.getfield 16, 3) := by decide +kernel
theorem dX12_toJudge_17 : decode cX12_toJudge 17 = .ok (.iconst 3, 1) := by decide +kernel
theorem dX12_toJudge_18 : decode cX12_toJudge 18 = .ok (.iload_n 3, 1) := by decide +kernel
theorem dX12_toJudge_19 : decode cX12_toJudge 19 = .ok (.imul, 1) := by decide +kernel
theorem dX12_toJudge_20 : decode cX12_toJudge 20 = .ok (.iconst 1, 1) := by decide +kernel
theorem dX12_toJudge_21 : decode cX12_toJudge 21 = .ok (.iadd, 1) := by decide +kernel
theorem dX12_toJudge_22 : decode cX12_toJudge 22 = .ok (.iaload, 1) := by decide +kernel
theorem dX12_toJudge_23 : decode cX12_toJudge 23 = .ok (.iload_n 1, 1) := by decide +kernel
theorem dX12_toJudge_24 : decode cX12_toJudge 24 = .ok (.if_icmp .ne 7, 3) := by decide +kernel
theorem dX12_toJudge_27 : decode cX12_toJudge 27 = .ok (.iconst 1, 1) := by decide +kernel
theorem dX12_toJudge_28 : decode cX12_toJudge 28 = .ok (.goto 4, 3) := by decide +kernel
theorem dX12_toJudge_31 : decode cX12_toJudge 31 = .ok (.iconst 0, 1) := by decide +kernel
theorem dX12_toJudge_32 : decode cX12_toJudge 32 = .ok (.iadd, 1) := by decide +kernel
theorem dX12_toJudge_33 : decode cX12_toJudge 33 = .ok (.istore_n 2, 1) := by decide +kernel
theorem dX12_toJudge_34 : decode cX12_toJudge 34 = .ok (.iinc 3 1, 3) := by decide +kernel
theorem dX12_toJudge_37 : decode cX12_toJudge 37 = .ok (.goto (-33), 3) := by decide +kernel
theorem dX12_toJudge_40 : decode cX12_toJudge 40 = .ok (.iload_n 2, 1) := by decide +kernel
theorem dX12_toJudge_41 : decode cX12_toJudge 41 = .ok (.ireturn, 1) := by decide +kernel
theorem dX12_tellJudge_0 : decode cX12_tellJudge 0 = .ok (.iload_n 2, 1) := by decide +kernel
theorem dX12_tellJudge_1 : decode cX12_tellJudge 1 = .ok (.tableswitch 66 0 4 #[35, 42, 48, 54, 60], 35) := by decide +kernel
theorem dX12_tellJudge_36 : decode cX12_tellJudge 36 = .ok (.aload_n 0, 1) := by decide +kernel
theorem dX12_tellJudge_37 : decode cX12_tellJudge 37 = .ok (.getfield 13, 3) := by decide +kernel
theorem dX12_tellJudge_40 : decode cX12_tellJudge 40 = .ok (.iload_n 1, 1) := by decide +kernel
theorem dX12_tellJudge_41 : decode cX12_tellJudge 41 = .ok (.iaload, 1) := by decide +kernel
theorem dX12_tellJudge_42 : decode cX12_tellJudge 42 = .ok (.ireturn, 1) := by decide +kernel
theorem dX12_tellJudge_43 : decode cX12_tellJudge 43 = .ok (.aload_n 0, 1) := by decide +kernel
theorem dX12_tellJudge_44 : decode cX12_tellJudge 44 = .ok (.iload_n 1, 1) := by decide +kernel
theorem dX12_tellJudge_45 : decode cX12_tellJudge 45 = .ok (.invokevirtual 139, 3) := by decide +kernel
theorem dX12_tellJudge_48 : decode cX12_tellJudge 48 = .ok (.ireturn, 1) := by decide +kernel
theorem dX12_tellJudge_49 : decode cX12_tellJudge 49 = .ok (.aload_n 0, 1) := by decide +kernel
theorem dX12_tellJudge_50 : decode cX12_tellJudge 50 = .ok (.iload_n 1, 1) := by decide +kernel
theorem dX12_tellJudge_51 : decode cX12_tellJudge 51 = .ok (.invokevirtual 142, 3) := by decide +kernel
theorem dX12_tellJudge_54 : decode cX12_tellJudge 54 = .ok (.ireturn, 1) := by decide +kernel
theorem dX12_tellJudge_55 : decode cX12_tellJudge 55 = .ok (.aload_n 0, 1) := by decide +kernel
theorem dX12_tellJudge_56 : decode cX12_tellJudge 56 = .ok (.iload_n 1, 1) := by decide +kernel
theorem dX12_tellJudge_57 : decode cX12_tellJudge 57 = .ok (.invokevirtual 145, 3) := by decide +kernel
theorem dX12_tellJudge_60 : decode cX12_tellJudge 60 = .ok (.ireturn, 1) := by decide +kernel
theorem dX12_tellJudge_61 : decode cX12_tellJudge 61 = .ok (.aload_n 0, 1) := by decide +kernel
theorem dX12_tellJudge_62 : decode cX12_tellJudge 62 = .ok (.iload_n 1, 1) := by decide +kernel
theorem dX12_tellJudge_63 : decode cX12_tellJudge 63 = .ok (.invokevirtual 148, 3) := by decide +kernel
theorem dX12_tellJudge_66 : decode cX12_tellJudge 66 = .ok (.ireturn, 1) := by decide +kernel
theorem dX12_tellJudge_67 : decode cX12_tellJudge 67 = .ok (.bipush (-102), 2) := by decide +kernel
theorem dX12_tellJudge_69 : decode cX12_tellJudge 69 = .ok (.ireturn, 1) := by decide +kernel
theorem dX12_judge_0 : decode cX12_judge 0 = .ok (.aload_n 0, 1) := by decide +kernel
theorem dX12_judge_1 : decode cX12_judge 1 = .ok (.iload_n 1, 1) := by decide +kernel
theorem dX12_judge_2 : decode cX12_judge 2 = .ok (.invokevirtual 110, 3) := by decide +kernel
theorem dX12_judge_5 : decode cX12_judge 5 = .ok (.ifCond .eq 12, 3) := by decide +kernel
theorem dX12_judge_8 : decode cX12_judge 8 = .ok (.aload_n 0, 1) := by decide +kernel
theorem dX12_judge_9 : decode cX12_judge 9 = .ok (.iload_n 1, 1) := by decide +kernel
theorem dX12_judge_10 : decode cX12_judge 10 = .ok (.iload_n 2, 1) := by decide +kernel
theorem dX12_judge_11 : decode cX12_judge 11 = .ok (.invokevirtual 151, 3) := by decide +kernel
theorem dX12_judge_14 : decode cX12_judge 14 = .ok (.goto 5, 3) := by decide +kernel
theorem dX12_judge_17 : decode cX12_judge 17 = .ok (.bipush (-101), 2) := by decide +kernel
theorem dX12_judge_19 : decode cX12_judge 19 = .ok (.ireturn, 1) := by decide +kernel
theorem dX12_as_0 : decode cX12_as 0 = .ok (.aload_n 0, 1) := by decide +kernel
theorem dX12_as_1 : decode cX12_as 1 = .ok (.iload_n 1, 1) := by decide +kernel
theorem dX12_as_2 : decode cX12_as 2 = .ok (.invokevirtual 110, 3) := by decide +kernel
theorem dX12_as_5 : decode cX12_as 5 = .ok (.ifCond .ne 6, 3) := by decide +kernel
theorem dX12_as_8 : decode cX12_as 8 = .ok (.bipush (-101), 2) := by decide +kernel
theorem dX12_as_10 : decode cX12_as 10 = .ok (.ireturn, 1) := by decide +kernel
theorem dX12_as_11 : decode cX12_as 11 = .ok (.iload_n 2, 1) := by decide +kernel
theorem dX12_as_12 : decode cX12_as 12 = .ok (.i2l, 1) := by decide +kernel
theorem dX12_as_13 : decode cX12_as 13 = .ok (.lconst 0, 1) := by decide +kernel
theorem dX12_as_14 : decode cX12_as 14 = .ok (.ldc2_w 154, 3) := by decide +kernel
theorem dX12_as_17 : decode cX12_as 17 = .ok (.invokestatic 46, 3) := by decide +kernel
theorem dX12_as_20 : decode cX12_as 20 = .ok (.ifCond .ne 6, 3) := by decide +kernel
theorem dX12_as_23 : decode cX12_as 23 = .ok (.bipush (-102), 2) := by decide +kernel
theorem dX12_as_25 : decode cX12_as 25 = .ok (.ireturn, 1) := by decide +kernel
theorem dX12_as_26 : decode cX12_as 26 = .ok (.iload_n 2, 1) := by decide +kernel
theorem dX12_as_27 : decode cX12_as 27 = .ok (.ifCond .eq 28, 3) := by decide +kernel
theorem dX12_as_30 : decode cX12_as 30 = .ok (.iload_n 2, 1) := by decide +kernel
theorem dX12_as_31 : decode cX12_as 31 = .ok (.aload_n 0, 1) := by decide +kernel
theorem dX12_as_32 : decode cX12_as 32 = .ok (.getfield 13, 3) := by decide +kernel
theorem dX12_as_35 : decode cX12_as 35 = .ok (.iload_n 1, 1) := by decide +kernel
theorem dX12_as_36 : decode cX12_as 36 = .ok (.iaload, 1) := by decide +kernel
theorem dX12_as_37 : decode cX12_as 37 = .ok (.if_icmp .eq 18, 3) := by decide +kernel
theorem dX12_as_40 : decode cX12_as 40 = .ok (.iload_n 2, 1) := by decide +kernel
theorem dX12_as_41 : decode cX12_as 41 = .ok (.iconst 1, 1) := by decide +kernel
theorem dX12_as_42 : decode cX12_as 42 = .ok (.if_icmp .ne 17, 3) := by decide +kernel
theorem dX12_as_45 : decode cX12_as 45 = .ok (.aload_n 0, 1) := by decide +kernel
theorem dX12_as_46 : decode cX12_as 46 = .ok (.getfield 13, 3) := by decide +kernel
theorem dX12_as_49 : decode cX12_as 49 = .ok (.iload_n 1, 1) := by decide +kernel
theorem dX12_as_50 : decode cX12_as 50 = .ok (.iaload, 1) := by decide +kernel
theorem dX12_as_51 : decode cX12_as 51 = .ok (.iconst 4, 1) := by decide +kernel
theorem dX12_as_52 : decode cX12_as 52 = .ok (.if_icmp .ne 7, 3) := by decide +kernel
theorem dX12_as_55 : decode cX12_as 55 = .ok (.iconst 1, 1) := by decide +kernel
theorem dX12_as_56 : decode cX12_as 56 = .ok (.goto 4, 3) := by decide +kernel
theorem dX12_as_59 : decode cX12_as 59 = .ok (.iconst 0, 1) := by decide +kernel
theorem dX12_as_60 : decode cX12_as 60 = .ok (.istore_n 3, 1) := by decide +kernel
theorem dX12_as_61 : decode cX12_as 61 = .ok (.iload_n 3, 1) := by decide +kernel
theorem dX12_as_62 : decode cX12_as 62 = .ok (.ifCond .eq 7, 3) := by decide +kernel
theorem dX12_as_65 : decode cX12_as 65 = .ok (.iload_n 1, 1) := by decide +kernel
theorem dX12_as_66 : decode cX12_as 66 = .ok (.goto 4, 3) := by decide +kernel
theorem dX12_as_69 : decode cX12_as 69 = .ok (.iconst (-1), 1) := by decide +kernel
theorem dX12_as_70 : decode cX12_as 70 = .ok (.ireturn, 1) := by decide +kernel
theorem dX12_tellRow_0 : decode cX12_tellRow 0 = .ok (.iload_n 2, 1) := by decide +kernel
theorem dX12_tellRow_1 : decode cX12_tellRow 1 = .ok (.tableswitch 86 0 4 #[35, 49, 49, 49, 72], 35) := by decide +kernel
theorem dX12_tellRow_36 : decode cX12_tellRow 36 = .ok (.aload_n 0, 1) := by decide +kernel
theorem dX12_tellRow_37 : decode cX12_tellRow 37 = .ok (.iload_n 1, 1) := by decide +kernel
theorem dX12_tellRow_38 : decode cX12_tellRow 38 = .ok (.invokevirtual 120, 3) := by decide +kernel
theorem dX12_tellRow_41 : decode cX12_tellRow 41 = .ok (.ifCond .eq 7, 3) := by decide +kernel
theorem dX12_tellRow_44 : decode cX12_tellRow 44 = .ok (.iconst 1, 1) := by decide +kernel
theorem dX12_tellRow_45 : decode cX12_tellRow 45 = .ok (.goto 4, 3) := by decide +kernel
theorem dX12_tellRow_48 : decode cX12_tellRow 48 = .ok (.iconst 0, 1) := by decide +kernel
theorem dX12_tellRow_49 : decode cX12_tellRow 49 = .ok (.ireturn, 1) := by decide +kernel
theorem dX12_tellRow_50 : decode cX12_tellRow 50 = .ok (.iload_n 2, 1) := by decide +kernel
theorem dX12_tellRow_51 : decode cX12_tellRow 51 = .ok (.iconst 1, 1) := by decide +kernel
theorem dX12_tellRow_52 : decode cX12_tellRow 52 = .ok (.isub, 1) := by decide +kernel
theorem dX12_tellRow_53 : decode cX12_tellRow 53 = .ok (.aload_n 0, 1) := by decide +kernel
theorem dX12_tellRow_54 : decode cX12_tellRow 54 = .ok (.getfield 81, 3) := by decide +kernel
theorem dX12_tellRow_57 : decode cX12_tellRow 57 = .ok (.if_icmp .ge 14, 3) := by decide +kernel
theorem dX12_tellRow_60 : decode cX12_tellRow 60 = .ok (.aload_n 0, 1) := by decide +kernel
theorem dX12_tellRow_61 : decode cX12_tellRow 61 = .ok (.iload_n 1, 1) := by decide +kernel
theorem dX12_tellRow_62 : decode cX12_tellRow 62 = .ok (.iload_n 2, 1) := by decide +kernel
theorem dX12_tellRow_63 : decode cX12_tellRow 63 = .ok (.iconst 1, 1) := by decide +kernel
theorem dX12_tellRow_64 : decode cX12_tellRow 64 = .ok (.isub, 1) := by decide +kernel
theorem dX12_tellRow_65 : decode cX12_tellRow 65 = .ok (.invokevirtual 99, 3) := by decide +kernel
theorem dX12_tellRow_68 : decode cX12_tellRow 68 = .ok (.goto 4, 3) := by decide +kernel
theorem dX12_tellRow_71 : decode cX12_tellRow 71 = .ok (.iconst (-1), 1) := by decide +kernel
theorem dX12_tellRow_72 : decode cX12_tellRow 72 = .ok (.ireturn, 1) := by decide +kernel
theorem dX12_tellRow_73 : decode cX12_tellRow 73 = .ok (.iload_n 1, 1) := by decide +kernel
theorem dX12_tellRow_74 : decode cX12_tellRow 74 = .ok (.aload_n 0, 1) := by decide +kernel
theorem dX12_tellRow_75 : decode cX12_tellRow 75 = .ok (.getfield 41, 3) := by decide +kernel
theorem dX12_tellRow_78 : decode cX12_tellRow 78 = .ok (.if_icmp .ne 7, 3) := by decide +kernel
theorem dX12_tellRow_81 : decode cX12_tellRow 81 = .ok (.iconst 1, 1) := by decide +kernel
theorem dX12_tellRow_82 : decode cX12_tellRow 82 = .ok (.goto 4, 3) := by decide +kernel
theorem dX12_tellRow_85 : decode cX12_tellRow 85 = .ok (.iconst 0, 1) := by decide +kernel
theorem dX12_tellRow_86 : decode cX12_tellRow 86 = .ok (.ireturn, 1) := by decide +kernel
theorem dX12_tellRow_87 : decode cX12_tellRow 87 = .ok (.bipush (-102), 2) := by decide +kernel
theorem dX12_tellRow_89 : decode cX12_tellRow 89 = .ok (.ireturn, 1) := by decide +kernel
theorem dX12_row_0 : decode cX12_row 0 = .ok (.aload_n 0, 1) := by decide +kernel
theorem dX12_row_1 : decode cX12_row 1 = .ok (.iload_n 1, 1) := by decide +kernel
theorem dX12_row_2 : decode cX12_row 2 = .ok (.invokevirtual 113, 3) := by decide +kernel
theorem dX12_row_5 : decode cX12_row 5 = .ok (.ifCond .eq 12, 3) := by decide +kernel
theorem dX12_row_8 : decode cX12_row 8 = .ok (.aload_n 0, 1) := by decide +kernel
theorem dX12_row_9 : decode cX12_row 9 = .ok (.iload_n 1, 1) := by decide +kernel
theorem dX12_row_10 : decode cX12_row 10 = .ok (.iload_n 2, 1) := by decide +kernel
theorem dX12_row_11 : decode cX12_row 11 = .ok (.invokevirtual 156, 3) := by decide +kernel
theorem dX12_row_14 : decode cX12_row 14 = .ok (.goto 5, 3) := by decide +kernel
theorem dX12_row_17 : decode cX12_row 17 = .ok (.bipush (-101), 2) := by decide +kernel
theorem dX12_row_19 : decode cX12_row 19 = .ok (.ireturn, 1) := by decide +kernel
theorem dX12_seen_0 : decode cX12_seen 0 = .ok (.iload_n 1, 1) := by decide +kernel
theorem dX12_seen_1 : decode cX12_seen 1 = .ok (.i2l, 1) := by decide +kernel
theorem dX12_seen_2 : decode cX12_seen 2 = .ok (.lconst 0, 1) := by decide +kernel
theorem dX12_seen_3 : decode cX12_seen 3 = .ok (.aload_n 0, 1) := by decide +kernel
theorem dX12_seen_4 : decode cX12_seen 4 = .ok (.getfield 93, 3) := by decide +kernel
theorem dX12_seen_7 : decode cX12_seen 7 = .ok (.iconst 1, 1) := by decide +kernel
theorem dX12_seen_8 : decode cX12_seen 8 = .ok (.isub, 1) := by decide +kernel
theorem dX12_seen_9 : decode cX12_seen 9 = .ok (.i2l, 1) := by decide +kernel
theorem dX12_seen_10 : decode cX12_seen 10 = .ok (.invokestatic 46, 3) := by decide +kernel
theorem dX12_seen_13 : decode cX12_seen 13 = .ok (.ifCond .ne 6, 3) := by decide +kernel
theorem dX12_seen_16 : decode cX12_seen 16 = .ok (.bipush (-101), 2) := by decide +kernel
theorem dX12_seen_18 : decode cX12_seen 18 = .ok (.ireturn, 1) := by decide +kernel
theorem dX12_seen_19 : decode cX12_seen 19 = .ok (.iload_n 2, 1) := by decide +kernel
theorem dX12_seen_20 : decode cX12_seen 20 = .ok (.i2l, 1) := by decide +kernel
theorem dX12_seen_21 : decode cX12_seen 21 = .ok (.lconst 0, 1) := by decide +kernel
theorem dX12_seen_22 : decode cX12_seen 22 = .ok (.ldc2_w 159, 3) := by decide +kernel
theorem dX12_seen_25 : decode cX12_seen 25 = .ok (.invokestatic 46, 3) := by decide +kernel
theorem dX12_seen_28 : decode cX12_seen 28 = .ok (.ifCond .eq 16, 3) := by decide +kernel
theorem dX12_seen_31 : decode cX12_seen 31 = .ok (.aload_n 0, 1) := by decide +kernel
theorem dX12_seen_32 : decode cX12_seen 32 = .ok (.getfield 16, 3) := by decide +kernel
theorem dX12_seen_35 : decode cX12_seen 35 = .ok (.iconst 3, 1) := by decide +kernel
theorem dX12_seen_36 : decode cX12_seen 36 = .ok (.iload_n 1, 1) := by decide +kernel
theorem dX12_seen_37 : decode cX12_seen 37 = .ok (.imul, 1) := by decide +kernel
theorem dX12_seen_38 : decode cX12_seen 38 = .ok (.iload_n 2, 1) := by decide +kernel
theorem dX12_seen_39 : decode cX12_seen 39 = .ok (.iadd, 1) := by decide +kernel
theorem dX12_seen_40 : decode cX12_seen 40 = .ok (.iaload, 1) := by decide +kernel
theorem dX12_seen_41 : decode cX12_seen 41 = .ok (.goto 5, 3) := by decide +kernel
theorem dX12_seen_44 : decode cX12_seen 44 = .ok (.bipush (-102), 2) := by decide +kernel
theorem dX12_seen_46 : decode cX12_seen 46 = .ok (.ireturn, 1) := by decide +kernel
theorem dX12_keep_0 : decode cX12_keep 0 = .ok (.aload_n 0, 1) := by decide +kernel
theorem dX12_keep_1 : decode cX12_keep 1 = .ok (.getfield 16, 3) := by decide +kernel
theorem dX12_keep_4 : decode cX12_keep 4 = .ok (.iconst 3, 1) := by decide +kernel
theorem dX12_keep_5 : decode cX12_keep 5 = .ok (.aload_n 0, 1) := by decide +kernel
theorem dX12_keep_6 : decode cX12_keep 6 = .ok (.getfield 93, 3) := by decide +kernel
theorem dX12_keep_9 : decode cX12_keep 9 = .ok (.imul, 1) := by decide +kernel
theorem dX12_keep_10 : decode cX12_keep 10 = .ok (.iload_n 1, 1) := by decide +kernel
theorem dX12_keep_11 : decode cX12_keep 11 = .ok (.iastore, 1) := by decide +kernel
theorem dX12_keep_12 : decode cX12_keep 12 = .ok (.aload_n 0, 1) := by decide +kernel
theorem dX12_keep_13 : decode cX12_keep 13 = .ok (.getfield 16, 3) := by decide +kernel
theorem dX12_keep_16 : decode cX12_keep 16 = .ok (.iconst 3, 1) := by decide +kernel
theorem dX12_keep_17 : decode cX12_keep 17 = .ok (.aload_n 0, 1) := by decide +kernel
theorem dX12_keep_18 : decode cX12_keep 18 = .ok (.getfield 93, 3) := by decide +kernel
theorem dX12_keep_21 : decode cX12_keep 21 = .ok (.imul, 1) := by decide +kernel
theorem dX12_keep_22 : decode cX12_keep 22 = .ok (.iconst 1, 1) := by decide +kernel
theorem dX12_keep_23 : decode cX12_keep 23 = .ok (.iadd, 1) := by decide +kernel
theorem dX12_keep_24 : decode cX12_keep 24 = .ok (.iload_n 2, 1) := by decide +kernel
theorem dX12_keep_25 : decode cX12_keep 25 = .ok (.iastore, 1) := by decide +kernel
theorem dX12_keep_26 : decode cX12_keep 26 = .ok (.aload_n 0, 1) := by decide +kernel
theorem dX12_keep_27 : decode cX12_keep 27 = .ok (.getfield 16, 3) := by decide +kernel
theorem dX12_keep_30 : decode cX12_keep 30 = .ok (.iconst 3, 1) := by decide +kernel
theorem dX12_keep_31 : decode cX12_keep 31 = .ok (.aload_n 0, 1) := by decide +kernel
theorem dX12_keep_32 : decode cX12_keep 32 = .ok (.getfield 93, 3) := by decide +kernel
theorem dX12_keep_35 : decode cX12_keep 35 = .ok (.imul, 1) := by decide +kernel
theorem dX12_keep_36 : decode cX12_keep 36 = .ok (.iconst 2, 1) := by decide +kernel
theorem dX12_keep_37 : decode cX12_keep 37 = .ok (.iadd, 1) := by decide +kernel
theorem dX12_keep_38 : decode cX12_keep 38 = .ok (.iload_n 3, 1) := by decide +kernel
theorem dX12_keep_39 : decode cX12_keep 39 = .ok (.iastore, 1) := by decide +kernel
theorem dX12_keep_40 : decode cX12_keep 40 = .ok (.aload_n 0, 1) := by decide +kernel
theorem dX12_keep_41 : decode cX12_keep 41 = .ok (.dup, 1) := by decide +kernel
theorem dX12_keep_42 : decode cX12_keep 42 = .ok (.getfield 93, 3) := by decide +kernel
theorem dX12_keep_45 : decode cX12_keep 45 = .ok (.iconst 1, 1) := by decide +kernel
theorem dX12_keep_46 : decode cX12_keep 46 = .ok (.iadd, 1) := by decide +kernel
theorem dX12_keep_47 : decode cX12_keep 47 = .ok (.putfield 93, 3) := by decide +kernel
theorem dX12_keep_50 : decode cX12_keep 50 = .ok (.return_, 1) := by decide +kernel
theorem dX12_show_0 : decode cX12_show 0 = .ok (.aload_n 0, 1) := by decide +kernel
theorem dX12_show_1 : decode cX12_show 1 = .ok (.iload_n 1, 1) := by decide +kernel
theorem dX12_show_2 : decode cX12_show 2 = .ok (.invokevirtual 113, 3) := by decide +kernel
theorem dX12_show_5 : decode cX12_show 5 = .ok (.ifCond .eq 11, 3) := by decide +kernel
theorem dX12_show_8 : decode cX12_show 8 = .ok (.aload_n 0, 1) := by decide +kernel
theorem dX12_show_9 : decode cX12_show 9 = .ok (.iload_n 2, 1) := by decide +kernel
theorem dX12_show_10 : decode cX12_show 10 = .ok (.invokevirtual 110, 3) := by decide +kernel
theorem dX12_show_13 : decode cX12_show 13 = .ok (.ifCond .ne 6, 3) := by decide +kernel
theorem dX12_show_16 : decode cX12_show 16 = .ok (.bipush (-101), 2) := by decide +kernel
theorem dX12_show_18 : decode cX12_show 18 = .ok (.ireturn, 1) := by decide +kernel
theorem dX12_show_19 : decode cX12_show 19 = .ok (.aload_n 0, 1) := by decide +kernel
theorem dX12_show_20 : decode cX12_show 20 = .ok (.getfield 93, 3) := by decide +kernel
theorem dX12_show_23 : decode cX12_show 23 = .ok (.bipush 12, 2) := by decide +kernel
theorem dX12_show_25 : decode cX12_show 25 = .ok (.if_icmp .ne 6, 3) := by decide +kernel
theorem dX12_show_28 : decode cX12_show 28 = .ok (.bipush (-104), 2) := by decide +kernel
theorem dX12_show_30 : decode cX12_show 30 = .ok (.ireturn, 1) := by decide +kernel
theorem dX12_show_31 : decode cX12_show 31 = .ok (.aload_n 0, 1) := by decide +kernel
theorem dX12_show_32 : decode cX12_show 32 = .ok (.aload_n 0, 1) := by decide +kernel
theorem dX12_show_33 : decode cX12_show 33 = .ok (.getfield 13, 3) := by decide +kernel
theorem dX12_show_36 : decode cX12_show 36 = .ok (.iload_n 2, 1) := by decide +kernel
theorem dX12_show_37 : decode cX12_show 37 = .ok (.iaload, 1) := by decide +kernel
theorem dX12_show_38 : decode cX12_show 38 = .ok (.iload_n 1, 1) := by decide +kernel
theorem dX12_show_39 : decode cX12_show 39 = .ok (.aload_n 0, 1) := by decide +kernel
theorem dX12_show_40 : decode cX12_show 40 = .ok (.getfield 41, 3) := by decide +kernel
theorem dX12_show_43 : decode cX12_show 43 = .ok (.invokevirtual 116, 3) := by decide +kernel
theorem dX12_show_46 : decode cX12_show 46 = .ok (.istore_n 3, 1) := by decide +kernel
theorem dX12_show_47 : decode cX12_show 47 = .ok (.aload_n 0, 1) := by decide +kernel
theorem dX12_show_48 : decode cX12_show 48 = .ok (.iload_n 1, 1) := by decide +kernel
theorem dX12_show_49 : decode cX12_show 49 = .ok (.iload_n 2, 1) := by decide +kernel
theorem dX12_show_50 : decode cX12_show 50 = .ok (.iload_n 3, 1) := by decide +kernel
theorem dX12_show_51 : decode cX12_show 51 = .ok (.invokevirtual 161, 3) := by decide +kernel
theorem dX12_show_54 : decode cX12_show 54 = .ok (.iload_n 3, 1) := by decide +kernel
theorem dX12_show_55 : decode cX12_show 55 = .ok (.ireturn, 1) := by decide +kernel
theorem dX12_note_0 : decode cX12_note 0 = .ok (.aload_n 0, 1) := by decide +kernel
theorem dX12_note_1 : decode cX12_note 1 = .ok (.iload_n 1, 1) := by decide +kernel
theorem dX12_note_2 : decode cX12_note 2 = .ok (.invokevirtual 113, 3) := by decide +kernel
theorem dX12_note_5 : decode cX12_note 5 = .ok (.ifCond .eq 11, 3) := by decide +kernel
theorem dX12_note_8 : decode cX12_note 8 = .ok (.aload_n 0, 1) := by decide +kernel
theorem dX12_note_9 : decode cX12_note 9 = .ok (.iload_n 2, 1) := by decide +kernel
theorem dX12_note_10 : decode cX12_note 10 = .ok (.invokevirtual 110, 3) := by decide +kernel
theorem dX12_note_13 : decode cX12_note 13 = .ok (.ifCond .ne 6, 3) := by decide +kernel
theorem dX12_note_16 : decode cX12_note 16 = .ok (.bipush (-101), 2) := by decide +kernel
theorem dX12_note_18 : decode cX12_note 18 = .ok (.ireturn, 1) := by decide +kernel
theorem dX12_note_19 : decode cX12_note 19 = .ok (.iload_n 3, 1) := by decide +kernel
theorem dX12_note_20 : decode cX12_note 20 = .ok (.i2l, 1) := by decide +kernel
theorem dX12_note_21 : decode cX12_note 21 = .ok (.lconst 0, 1) := by decide +kernel
theorem dX12_note_22 : decode cX12_note 22 = .ok (.ldc2_w 165, 3) := by decide +kernel
theorem dX12_note_25 : decode cX12_note 25 = .ok (.invokestatic 46, 3) := by decide +kernel
theorem dX12_note_28 : decode cX12_note 28 = .ok (.ifCond .ne 6, 3) := by decide +kernel
theorem dX12_note_31 : decode cX12_note 31 = .ok (.bipush (-102), 2) := by decide +kernel
theorem dX12_note_33 : decode cX12_note 33 = .ok (.ireturn, 1) := by decide +kernel
theorem dX12_note_34 : decode cX12_note 34 = .ok (.aload_n 0, 1) := by decide +kernel
theorem dX12_note_35 : decode cX12_note 35 = .ok (.getfield 93, 3) := by decide +kernel
theorem dX12_note_38 : decode cX12_note 38 = .ok (.bipush 12, 2) := by decide +kernel
theorem dX12_note_40 : decode cX12_note 40 = .ok (.if_icmp .ne 6, 3) := by decide +kernel
theorem dX12_note_43 : decode cX12_note 43 = .ok (.bipush (-104), 2) := by decide +kernel
theorem dX12_note_45 : decode cX12_note 45 = .ok (.ireturn, 1) := by decide +kernel
theorem dX12_note_46 : decode cX12_note 46 = .ok (.aload_n 0, 1) := by decide +kernel
theorem dX12_note_47 : decode cX12_note 47 = .ok (.iload_n 1, 1) := by decide +kernel
theorem dX12_note_48 : decode cX12_note 48 = .ok (.iload_n 2, 1) := by decide +kernel
theorem dX12_note_49 : decode cX12_note 49 = .ok (.iload_n 3, 1) := by decide +kernel
theorem dX12_note_50 : decode cX12_note 50 = .ok (.invokevirtual 161, 3) := by decide +kernel
theorem dX12_note_53 : decode cX12_note 53 = .ok (.aload_n 0, 1) := by decide +kernel
theorem dX12_note_54 : decode cX12_note 54 = .ok (.invokevirtual 133, 3) := by decide +kernel
theorem dX12_note_57 : decode cX12_note 57 = .ok (.ireturn, 1) := by decide +kernel
theorem dX12_strike_0 : decode cX12_strike 0 = .ok (.aload_n 0, 1) := by decide +kernel
theorem dX12_strike_1 : decode cX12_strike 1 = .ok (.getfield 93, 3) := by decide +kernel
theorem dX12_strike_4 : decode cX12_strike 4 = .ok (.ifCond .ne 6, 3) := by decide +kernel
theorem dX12_strike_7 : decode cX12_strike 7 = .ok (.bipush (-103), 2) := by decide +kernel
theorem dX12_strike_9 : decode cX12_strike 9 = .ok (.ireturn, 1) := by decide +kernel
theorem dX12_strike_10 : decode cX12_strike 10 = .ok (.aload_n 0, 1) := by decide +kernel
theorem dX12_strike_11 : decode cX12_strike 11 = .ok (.dup, 1) := by decide +kernel
theorem dX12_strike_12 : decode cX12_strike 12 = .ok (.getfield 93, 3) := by decide +kernel
theorem dX12_strike_15 : decode cX12_strike 15 = .ok (.iconst 1, 1) := by decide +kernel
theorem dX12_strike_16 : decode cX12_strike 16 = .ok (.isub, 1) := by decide +kernel
theorem dX12_strike_17 : decode cX12_strike 17 = .ok (.putfield 93, 3) := by decide +kernel
theorem dX12_strike_20 : decode cX12_strike 20 = .ok (.aload_n 0, 1) := by decide +kernel
theorem dX12_strike_21 : decode cX12_strike 21 = .ok (.getfield 93, 3) := by decide +kernel
theorem dX12_strike_24 : decode cX12_strike 24 = .ok (.ireturn, 1) := by decide +kernel
theorem dX12_forget_0 : decode cX12_forget 0 = .ok (.aload_n 0, 1) := by decide +kernel
theorem dX12_forget_1 : decode cX12_forget 1 = .ok (.getfield 93, 3) := by decide +kernel
theorem dX12_forget_4 : decode cX12_forget 4 = .ok (.istore_n 1, 1) := by decide +kernel
theorem dX12_forget_5 : decode cX12_forget 5 = .ok (.aload_n 0, 1) := by decide +kernel
theorem dX12_forget_6 : decode cX12_forget 6 = .ok (.iconst 0, 1) := by decide +kernel
theorem dX12_forget_7 : decode cX12_forget 7 = .ok (.putfield 93, 3) := by decide +kernel
theorem dX12_forget_10 : decode cX12_forget 10 = .ok (.iload_n 1, 1) := by decide +kernel
theorem dX12_forget_11 : decode cX12_forget 11 = .ok (.ireturn, 1) := by decide +kernel
theorem dX12_hide_0 : decode cX12_hide 0 = .ok (.aload_n 0, 1) := by decide +kernel
theorem dX12_hide_1 : decode cX12_hide 1 = .ok (.iload_n 1, 1) := by decide +kernel
theorem dX12_hide_2 : decode cX12_hide 2 = .ok (.invokevirtual 113, 3) := by decide +kernel
theorem dX12_hide_5 : decode cX12_hide 5 = .ok (.ifCond .ne 6, 3) := by decide +kernel
theorem dX12_hide_8 : decode cX12_hide 8 = .ok (.bipush (-101), 2) := by decide +kernel
theorem dX12_hide_10 : decode cX12_hide 10 = .ok (.ireturn, 1) := by decide +kernel
theorem dX12_hide_11 : decode cX12_hide 11 = .ok (.aload_n 0, 1) := by decide +kernel
theorem dX12_hide_12 : decode cX12_hide 12 = .ok (.getfield 41, 3) := by decide +kernel
theorem dX12_hide_15 : decode cX12_hide 15 = .ok (.istore_n 2, 1) := by decide +kernel
theorem dX12_hide_16 : decode cX12_hide 16 = .ok (.aload_n 0, 1) := by decide +kernel
theorem dX12_hide_17 : decode cX12_hide 17 = .ok (.iload_n 1, 1) := by decide +kernel
theorem dX12_hide_18 : decode cX12_hide 18 = .ok (.putfield 41, 3) := by decide +kernel
theorem dX12_hide_21 : decode cX12_hide 21 = .ok (.iload_n 2, 1) := by decide +kernel
theorem dX12_hide_22 : decode cX12_hide 22 = .ok (.ireturn, 1) := by decide +kernel
theorem dX12_swap_0 : decode cX12_swap 0 = .ok (.aload_n 0, 1) := by decide +kernel
theorem dX12_swap_1 : decode cX12_swap 1 = .ok (.iload_n 1, 1) := by decide +kernel
theorem dX12_swap_2 : decode cX12_swap 2 = .ok (.invokevirtual 110, 3) := by decide +kernel
theorem dX12_swap_5 : decode cX12_swap 5 = .ok (.ifCond .ne 6, 3) := by decide +kernel
theorem dX12_swap_8 : decode cX12_swap 8 = .ok (.bipush (-101), 2) := by decide +kernel
theorem dX12_swap_10 : decode cX12_swap 10 = .ok (.ireturn, 1) := by decide +kernel
theorem dX12_swap_11 : decode cX12_swap 11 = .ok (.iload_n 2, 1) := by decide +kernel
theorem dX12_swap_12 : decode cX12_swap 12 = .ok (.i2l, 1) := by decide +kernel
theorem dX12_swap_13 : decode cX12_swap 13 = .ok (.lconst 0, 1) := by decide +kernel
theorem dX12_swap_14 : decode cX12_swap 14 = .ok (.ldc2_w 154, 3) := by decide +kernel
theorem dX12_swap_17 : decode cX12_swap 17 = .ok (.invokestatic 46, 3) := by decide +kernel
theorem dX12_swap_20 : decode cX12_swap 20 = .ok (.ifCond .ne 6, 3) := by decide +kernel
theorem dX12_swap_23 : decode cX12_swap 23 = .ok (.bipush (-102), 2) := by decide +kernel
theorem dX12_swap_25 : decode cX12_swap 25 = .ok (.ireturn, 1) := by decide +kernel
theorem dX12_swap_26 : decode cX12_swap 26 = .ok (.aload_n 0, 1) := by decide +kernel
theorem dX12_swap_27 : decode cX12_swap 27 = .ok (.getfield 13, 3) := by decide +kernel
theorem dX12_swap_30 : decode cX12_swap 30 = .ok (.iload_n 1, 1) := by decide +kernel
theorem dX12_swap_31 : decode cX12_swap 31 = .ok (.iaload, 1) := by decide +kernel
theorem dX12_swap_32 : decode cX12_swap 32 = .ok (.istore_n 3, 1) := by decide +kernel
theorem dX12_swap_33 : decode cX12_swap 33 = .ok (.aload_n 0, 1) := by decide +kernel
theorem dX12_swap_34 : decode cX12_swap 34 = .ok (.getfield 13, 3) := by decide +kernel
theorem dX12_swap_37 : decode cX12_swap 37 = .ok (.iload_n 1, 1) := by decide +kernel
theorem dX12_swap_38 : decode cX12_swap 38 = .ok (.iload_n 2, 1) := by decide +kernel
theorem dX12_swap_39 : decode cX12_swap 39 = .ok (.iastore, 1) := by decide +kernel
theorem dX12_swap_40 : decode cX12_swap 40 = .ok (.iload_n 3, 1) := by decide +kernel
theorem dX12_swap_41 : decode cX12_swap 41 = .ok (.ireturn, 1) := by decide +kernel
theorem dX12_laySizes_0 : decode cX12_laySizes 0 = .ok (.iconst 0, 1) := by decide +kernel
theorem dX12_laySizes_1 : decode cX12_laySizes 1 = .ok (.istore_n 3, 1) := by decide +kernel
theorem dX12_laySizes_2 : decode cX12_laySizes 2 = .ok (.iload_n 3, 1) := by decide +kernel
theorem dX12_laySizes_3 : decode cX12_laySizes 3 = .ok (.bipush 41, 2) := by decide +kernel
theorem dX12_laySizes_5 : decode cX12_laySizes 5 = .ok (.if_icmp .ge 16, 3) := by decide +kernel
theorem dX12_laySizes_8 : decode cX12_laySizes 8 = .ok (.aload_n 0, 1) := by decide +kernel
theorem dX12_laySizes_9 : decode cX12_laySizes 9 = .ok (.getfield 22, 3) := by decide +kernel
theorem dX12_laySizes_12 : decode cX12_laySizes 12 = .ok (.iload_n 3, 1) := by decide +kernel
theorem dX12_laySizes_13 : decode cX12_laySizes 13 = .ok (.iconst 0, 1) := by decide +kernel
theorem dX12_laySizes_14 : decode cX12_laySizes 14 = .ok (.iastore, 1) := by decide +kernel
theorem dX12_laySizes_15 : decode cX12_laySizes 15 = .ok (.iinc 3 1, 3) := by decide +kernel
theorem dX12_laySizes_18 : decode cX12_laySizes 18 = .ok (.goto (-16), 3) := by decide +kernel
theorem dX12_laySizes_21 : decode cX12_laySizes 21 = .ok (.iconst 0, 1) := by decide +kernel
theorem dX12_laySizes_22 : decode cX12_laySizes 22 = .ok (.istore_n 3, 1) := by decide +kernel
theorem dX12_laySizes_23 : decode cX12_laySizes 23 = .ok (.iload_n 3, 1) := by decide +kernel
theorem dX12_laySizes_24 : decode cX12_laySizes 24 = .ok (.aload_n 0, 1) := by decide +kernel
theorem dX12_laySizes_25 : decode cX12_laySizes 25 = .ok (.getfield 90, 3) := by decide +kernel
theorem dX12_laySizes_28 : decode cX12_laySizes 28 = .ok (.if_icmp .ge 35, 3) := by decide +kernel
theorem dX12_laySizes_31 : decode cX12_laySizes 31 = .ok (.aload_n 0, 1) := by decide +kernel
theorem dX12_laySizes_32 : decode cX12_laySizes 32 = .ok (.getfield 19, 3) := by decide +kernel
theorem dX12_laySizes_35 : decode cX12_laySizes 35 = .ok (.iload_n 3, 1) := by decide +kernel
theorem dX12_laySizes_36 : decode cX12_laySizes 36 = .ok (.iaload, 1) := by decide +kernel
theorem dX12_laySizes_37 : decode cX12_laySizes 37 = .ok (.iconst 1, 1) := by decide +kernel
theorem dX12_laySizes_38 : decode cX12_laySizes 38 = .ok (.if_icmp .ne 19, 3) := by decide +kernel
theorem dX12_laySizes_41 : decode cX12_laySizes 41 = .ok (.aload_n 0, 1) := by decide +kernel
theorem dX12_laySizes_42 : decode cX12_laySizes 42 = .ok (.getfield 22, 3) := by decide +kernel
theorem dX12_laySizes_45 : decode cX12_laySizes 45 = .ok (.aload_n 0, 1) := by decide +kernel
theorem dX12_laySizes_46 : decode cX12_laySizes 46 = .ok (.iload_n 1, 1) := by decide +kernel
theorem dX12_laySizes_47 : decode cX12_laySizes 47 = .ok (.iload_n 2, 1) := by decide +kernel
theorem dX12_laySizes_48 : decode cX12_laySizes 48 = .ok (.iload_n 3, 1) := by decide +kernel
theorem dX12_laySizes_49 : decode cX12_laySizes 49 = .ok (.invokevirtual 116, 3) := by decide +kernel
theorem dX12_laySizes_52 : decode cX12_laySizes 52 = .ok (.dup2, 1) := by decide +kernel
theorem dX12_laySizes_53 : decode cX12_laySizes 53 = .ok (.iaload, 1) := by decide +kernel
theorem dX12_laySizes_54 : decode cX12_laySizes 54 = .ok (.iconst 1, 1) := by decide +kernel
theorem dX12_laySizes_55 : decode cX12_laySizes 55 = .ok (.iadd, 1) := by decide +kernel
theorem dX12_laySizes_56 : decode cX12_laySizes 56 = .ok (.iastore, 1) := by decide +kernel
theorem dX12_laySizes_57 : decode cX12_laySizes 57 = .ok (.iinc 3 1, 3) := by decide +kernel
theorem dX12_laySizes_60 : decode cX12_laySizes 60 = .ok (.goto (-37), 3) := by decide +kernel
theorem dX12_laySizes_63 : decode cX12_laySizes 63 = .ok (.return_, 1) := by decide +kernel
theorem dX12_greatest_0 : decode cX12_greatest 0 = .ok (.iconst 0, 1) := by decide +kernel
theorem dX12_greatest_1 : decode cX12_greatest 1 = .ok (.istore_n 1, 1) := by decide +kernel
theorem dX12_greatest_2 : decode cX12_greatest 2 = .ok (.iconst 0, 1) := by decide +kernel
theorem dX12_greatest_3 : decode cX12_greatest 3 = .ok (.istore_n 2, 1) := by decide +kernel
theorem dX12_greatest_4 : decode cX12_greatest 4 = .ok (.iload_n 2, 1) := by decide +kernel
theorem dX12_greatest_5 : decode cX12_greatest 5 = .ok (.bipush 41, 2) := by decide +kernel
theorem dX12_greatest_7 : decode cX12_greatest 7 = .ok (.if_icmp .ge 30, 3) := by decide +kernel
theorem dX12_greatest_10 : decode cX12_greatest 10 = .ok (.aload_n 0, 1) := by decide +kernel
theorem dX12_greatest_11 : decode cX12_greatest 11 = .ok (.getfield 22, 3) := by decide +kernel
theorem dX12_greatest_14 : decode cX12_greatest 14 = .ok (.iload_n 2, 1) := by decide +kernel
theorem dX12_greatest_15 : decode cX12_greatest 15 = .ok (.iaload, 1) := by decide +kernel
theorem dX12_greatest_16 : decode cX12_greatest 16 = .ok (.iload_n 1, 1) := by decide +kernel
theorem dX12_greatest_17 : decode cX12_greatest 17 = .ok (.if_icmp .le 12, 3) := by decide +kernel
theorem dX12_greatest_20 : decode cX12_greatest 20 = .ok (.aload_n 0, 1) := by decide +kernel
theorem dX12_greatest_21 : decode cX12_greatest 21 = .ok (.getfield 22, 3) := by decide +kernel
theorem dX12_greatest_24 : decode cX12_greatest 24 = .ok (.iload_n 2, 1) := by decide +kernel
theorem dX12_greatest_25 : decode cX12_greatest 25 = .ok (.iaload, 1) := by decide +kernel
theorem dX12_greatest_26 : decode cX12_greatest 26 = .ok (.goto 4, 3) := by decide +kernel
theorem dX12_greatest_29 : decode cX12_greatest 29 = .ok (.iload_n 1, 1) := by decide +kernel
theorem dX12_greatest_30 : decode cX12_greatest 30 = .ok (.istore_n 1, 1) := by decide +kernel
theorem dX12_greatest_31 : decode cX12_greatest 31 = .ok (.iinc 2 1, 3) := by decide +kernel
theorem dX12_greatest_34 : decode cX12_greatest 34 = .ok (.goto (-30), 3) := by decide +kernel
theorem dX12_greatest_37 : decode cX12_greatest 37 = .ok (.iload_n 1, 1) := by decide +kernel
theorem dX12_greatest_38 : decode cX12_greatest 38 = .ok (.ireturn, 1) := by decide +kernel
theorem dX12_bestBy_0 : decode cX12_bestBy 0 = .ok (.iconst (-1), 1) := by decide +kernel
theorem dX12_bestBy_1 : decode cX12_bestBy 1 = .ok (.istore_n 2, 1) := by decide +kernel
theorem dX12_bestBy_2 : decode cX12_bestBy 2 = .ok (.sipush 1000, 3) := by decide +kernel
theorem dX12_bestBy_5 : decode cX12_bestBy 5 = .ok (.istore_n 3, 1) := by decide +kernel
theorem dX12_bestBy_6 : decode cX12_bestBy 6 = .ok (.iconst 0, 1) := by decide +kernel
theorem dX12_bestBy_7 : decode cX12_bestBy 7 = .ok (.istore 4, 2) := by decide +kernel
theorem dX12_bestBy_9 : decode cX12_bestBy 9 = .ok (.iload 4, 2) := by decide +kernel
theorem dX12_bestBy_11 : decode cX12_bestBy 11 = .ok (.aload_n 0, 1) := by decide +kernel
theorem dX12_bestBy_12 : decode cX12_bestBy 12 = .ok (.getfield 90, 3) := by decide +kernel
theorem dX12_bestBy_15 : decode cX12_bestBy 15 = .ok (.if_icmp .ge 67, 3) := by decide +kernel
theorem dX12_bestBy_18 : decode cX12_bestBy 18 = .ok (.aload_n 0, 1) := by decide +kernel
theorem dX12_bestBy_19 : decode cX12_bestBy 19 = .ok (.invokevirtual 126, 3) := by decide +kernel
theorem dX12_bestBy_22 : decode cX12_bestBy 22 = .ok (.ifCond .le 60, 3) := by decide +kernel
theorem dX12_bestBy_25 : decode cX12_bestBy 25 = .ok (.aload_n 0, 1) := by decide +kernel
theorem dX12_bestBy_26 : decode cX12_bestBy 26 = .ok (.iload_n 1, 1) := by decide +kernel
theorem dX12_bestBy_27 : decode cX12_bestBy 27 = .ok (.iload 4, 2) := by decide +kernel
theorem dX12_bestBy_29 : decode cX12_bestBy 29 = .ok (.invokevirtual 167, 3) := by decide +kernel
theorem dX12_bestBy_32 : decode cX12_bestBy 32 = .ok (.iconst 2, 1) := by decide +kernel
theorem dX12_bestBy_33 : decode cX12_bestBy 33 = .ok (.aload_n 0, 1) := by decide +kernel
theorem dX12_bestBy_34 : decode cX12_bestBy 34 = .ok (.invokevirtual 171, 3) := by decide +kernel
theorem dX12_bestBy_37 : decode cX12_bestBy 37 = .ok (.imul, 1) := by decide +kernel
theorem dX12_bestBy_38 : decode cX12_bestBy 38 = .ok (.iconst 1, 1) := by decide +kernel
theorem dX12_bestBy_39 : decode cX12_bestBy 39 = .ok (.iadd, 1) := by decide +kernel
theorem dX12_bestBy_40 : decode cX12_bestBy 40 = .ok (.aload_n 0, 1) := by decide +kernel
theorem dX12_bestBy_41 : decode cX12_bestBy 41 = .ok (.getfield 19, 3) := by decide +kernel
theorem dX12_bestBy_44 : decode cX12_bestBy 44 = .ok (.iload 4, 2) := by decide +kernel
theorem dX12_bestBy_46 : decode cX12_bestBy 46 = .ok (.iaload, 1) := by decide +kernel
theorem dX12_bestBy_47 : decode cX12_bestBy 47 = .ok (.isub, 1) := by decide +kernel
theorem dX12_bestBy_48 : decode cX12_bestBy 48 = .ok (.istore 5, 2) := by decide +kernel
theorem dX12_bestBy_50 : decode cX12_bestBy 50 = .ok (.iload 5, 2) := by decide +kernel
theorem dX12_bestBy_52 : decode cX12_bestBy 52 = .ok (.iload_n 3, 1) := by decide +kernel
theorem dX12_bestBy_53 : decode cX12_bestBy 53 = .ok (.if_icmp .ge 8, 3) := by decide +kernel
theorem dX12_bestBy_56 : decode cX12_bestBy 56 = .ok (.iload 4, 2) := by decide +kernel
theorem dX12_bestBy_58 : decode cX12_bestBy 58 = .ok (.goto 4, 3) := by decide +kernel
theorem dX12_bestBy_61 : decode cX12_bestBy 61 = .ok (.iload_n 2, 1) := by decide +kernel
theorem dX12_bestBy_62 : decode cX12_bestBy 62 = .ok (.istore_n 2, 1) := by decide +kernel
theorem dX12_bestBy_63 : decode cX12_bestBy 63 = .ok (.iload 5, 2) := by decide +kernel
theorem dX12_bestBy_65 : decode cX12_bestBy 65 = .ok (.iload_n 3, 1) := by decide +kernel
theorem dX12_bestBy_66 : decode cX12_bestBy 66 = .ok (.if_icmp .ge 8, 3) := by decide +kernel
theorem dX12_bestBy_69 : decode cX12_bestBy 69 = .ok (.iload 5, 2) := by decide +kernel
theorem dX12_bestBy_71 : decode cX12_bestBy 71 = .ok (.goto 4, 3) := by decide +kernel
theorem dX12_bestBy_74 : decode cX12_bestBy 74 = .ok (.iload_n 3, 1) := by decide +kernel
theorem dX12_bestBy_75 : decode cX12_bestBy 75 = .ok (.istore_n 3, 1) := by decide +kernel
theorem dX12_bestBy_76 : decode cX12_bestBy 76 = .ok (.iinc 4 1, 3) := by decide +kernel
theorem dX12_bestBy_79 : decode cX12_bestBy 79 = .ok (.goto (-70), 3) := by decide +kernel
theorem dX12_bestBy_82 : decode cX12_bestBy 82 = .ok (.aload_n 0, 1) := by decide +kernel
theorem dX12_bestBy_83 : decode cX12_bestBy 83 = .ok (.iload_n 2, 1) := by decide +kernel
theorem dX12_bestBy_84 : decode cX12_bestBy 84 = .ok (.iconst (-1), 1) := by decide +kernel
theorem dX12_bestBy_85 : decode cX12_bestBy 85 = .ok (.if_icmp .ne 7, 3) := by decide +kernel
theorem dX12_bestBy_88 : decode cX12_bestBy 88 = .ok (.iconst 0, 1) := by decide +kernel
theorem dX12_bestBy_89 : decode cX12_bestBy 89 = .ok (.goto 6, 3) := by decide +kernel
theorem dX12_bestBy_92 : decode cX12_bestBy 92 = .ok (.iload_n 3, 1) := by decide +kernel
theorem dX12_bestBy_93 : decode cX12_bestBy 93 = .ok (.iconst 2, 1) := by decide +kernel
theorem dX12_bestBy_94 : decode cX12_bestBy 94 = .ok (.idiv, 1) := by decide +kernel
theorem dX12_bestBy_95 : decode cX12_bestBy 95 = .ok (.putfield 174, 3) := by decide +kernel
theorem dX12_bestBy_98 : decode cX12_bestBy 98 = .ok (.iload_n 2, 1) := by decide +kernel
theorem dX12_bestBy_99 : decode cX12_bestBy 99 = .ok (.ireturn, 1) := by decide +kernel
theorem dX12_best_0 : decode cX12_best 0 = .ok (.aload_n 0, 1) := by decide +kernel
theorem dX12_best_1 : decode cX12_best 1 = .ok (.iload_n 1, 1) := by decide +kernel
theorem dX12_best_2 : decode cX12_best 2 = .ok (.invokevirtual 110, 3) := by decide +kernel
theorem dX12_best_5 : decode cX12_best 5 = .ok (.ifCond .ne 6, 3) := by decide +kernel
theorem dX12_best_8 : decode cX12_best 8 = .ok (.bipush (-101), 2) := by decide +kernel
theorem dX12_best_10 : decode cX12_best 10 = .ok (.ireturn, 1) := by decide +kernel
theorem dX12_best_11 : decode cX12_best 11 = .ok (.iload_n 2, 1) := by decide +kernel
theorem dX12_best_12 : decode cX12_best 12 = .ok (.i2l, 1) := by decide +kernel
theorem dX12_best_13 : decode cX12_best 13 = .ok (.lconst 0, 1) := by decide +kernel
theorem dX12_best_14 : decode cX12_best 14 = .ok (.lconst 1, 1) := by decide +kernel
theorem dX12_best_15 : decode cX12_best 15 = .ok (.invokestatic 46, 3) := by decide +kernel
theorem dX12_best_18 : decode cX12_best 18 = .ok (.ifCond .ne 6, 3) := by decide +kernel
theorem dX12_best_21 : decode cX12_best 21 = .ok (.bipush (-102), 2) := by decide +kernel
theorem dX12_best_23 : decode cX12_best 23 = .ok (.ireturn, 1) := by decide +kernel
theorem dX12_best_24 : decode cX12_best 24 = .ok (.aload_n 0, 1) := by decide +kernel
theorem dX12_best_25 : decode cX12_best 25 = .ok (.getfield 177, 3) := by decide +kernel
theorem dX12_best_28 : decode cX12_best 28 = .ok (.bipush 24, 2) := by decide +kernel
theorem dX12_best_30 : decode cX12_best 30 = .ok (.if_icmp .ne 6, 3) := by decide +kernel
theorem dX12_best_33 : decode cX12_best 33 = .ok (.bipush (-103), 2) := by decide +kernel
theorem dX12_best_35 : decode cX12_best 35 = .ok (.ireturn, 1) := by decide +kernel
theorem dX12_best_36 : decode cX12_best 36 = .ok (.aload_n 0, 1) := by decide +kernel
theorem dX12_best_37 : decode cX12_best 37 = .ok (.dup, 1) := by decide +kernel
theorem dX12_best_38 : decode cX12_best 38 = .ok (.getfield 177, 3) := by decide +kernel
theorem dX12_best_41 : decode cX12_best 41 = .ok (.iconst 1, 1) := by decide +kernel
theorem dX12_best_42 : decode cX12_best 42 = .ok (.iadd, 1) := by decide +kernel
theorem dX12_best_43 : decode cX12_best 43 = .ok (.putfield 177, 3) := by decide +kernel
theorem dX12_best_46 : decode cX12_best 46 = .ok (.aload_n 0, 1) := by decide +kernel
theorem dX12_best_47 : decode cX12_best 47 = .ok (.invokevirtual 123, 3) := by decide +kernel
theorem dX12_best_50 : decode cX12_best 50 = .ok (.aload_n 0, 1) := by decide +kernel
theorem dX12_best_51 : decode cX12_best 51 = .ok (.aload_n 0, 1) := by decide +kernel
theorem dX12_best_52 : decode cX12_best 52 = .ok (.getfield 13, 3) := by decide +kernel
theorem dX12_best_55 : decode cX12_best 55 = .ok (.iload_n 1, 1) := by decide +kernel
theorem dX12_best_56 : decode cX12_best 56 = .ok (.iaload, 1) := by decide +kernel
theorem dX12_best_57 : decode cX12_best 57 = .ok (.invokevirtual 180, 3) := by decide +kernel
theorem dX12_best_60 : decode cX12_best 60 = .ok (.istore_n 3, 1) := by decide +kernel
theorem dX12_best_61 : decode cX12_best 61 = .ok (.iload_n 2, 1) := by decide +kernel
theorem dX12_best_62 : decode cX12_best 62 = .ok (.ifCond .ne 7, 3) := by decide +kernel
theorem dX12_best_65 : decode cX12_best 65 = .ok (.iload_n 3, 1) := by decide +kernel
theorem dX12_best_66 : decode cX12_best 66 = .ok (.goto 7, 3) := by decide +kernel
theorem dX12_best_69 : decode cX12_best 69 = .ok (.aload_n 0, 1) := by decide +kernel
theorem dX12_best_70 : decode cX12_best 70 = .ok (.getfield 174, 3) := by decide +kernel
theorem dX12_best_73 : decode cX12_best 73 = .ok (.ireturn, 1) := by decide +kernel
theorem dX12_restOf_0 : decode cX12_restOf 0 = .ok (.aload_n 0, 1) := by decide +kernel
theorem dX12_restOf_1 : decode cX12_restOf 1 = .ok (.invokevirtual 123, 3) := by decide +kernel
theorem dX12_restOf_4 : decode cX12_restOf 4 = .ok (.aload_n 0, 1) := by decide +kernel
theorem dX12_restOf_5 : decode cX12_restOf 5 = .ok (.aload_n 0, 1) := by decide +kernel
theorem dX12_restOf_6 : decode cX12_restOf 6 = .ok (.getfield 13, 3) := by decide +kernel
theorem dX12_restOf_9 : decode cX12_restOf 9 = .ok (.iload_n 2, 1) := by decide +kernel
theorem dX12_restOf_10 : decode cX12_restOf 10 = .ok (.iaload, 1) := by decide +kernel
theorem dX12_restOf_11 : decode cX12_restOf 11 = .ok (.iload_n 1, 1) := by decide +kernel
theorem dX12_restOf_12 : decode cX12_restOf 12 = .ok (.invokevirtual 167, 3) := by decide +kernel
theorem dX12_restOf_15 : decode cX12_restOf 15 = .ok (.iconst 0, 1) := by decide +kernel
theorem dX12_restOf_16 : decode cX12_restOf 16 = .ok (.istore 4, 2) := by decide +kernel
theorem dX12_restOf_18 : decode cX12_restOf 18 = .ok (.iconst 0, 1) := by decide +kernel
theorem dX12_restOf_19 : decode cX12_restOf 19 = .ok (.istore 5, 2) := by decide +kernel
theorem dX12_restOf_21 : decode cX12_restOf 21 = .ok (.iload 5, 2) := by decide +kernel
theorem dX12_restOf_23 : decode cX12_restOf 23 = .ok (.bipush 41, 2) := by decide +kernel
theorem dX12_restOf_25 : decode cX12_restOf 25 = .ok (.if_icmp .ge 29, 3) := by decide +kernel
theorem dX12_restOf_28 : decode cX12_restOf 28 = .ok (.iload 4, 2) := by decide +kernel
theorem dX12_restOf_30 : decode cX12_restOf 30 = .ok (.aload_n 0, 1) := by decide +kernel
theorem dX12_restOf_31 : decode cX12_restOf 31 = .ok (.getfield 22, 3) := by decide +kernel
theorem dX12_restOf_34 : decode cX12_restOf 34 = .ok (.iload 5, 2) := by decide +kernel
theorem dX12_restOf_36 : decode cX12_restOf 36 = .ok (.iaload, 1) := by decide +kernel
theorem dX12_restOf_37 : decode cX12_restOf 37 = .ok (.aload_n 0, 1) := by decide +kernel
theorem dX12_restOf_38 : decode cX12_restOf 38 = .ok (.getfield 22, 3) := by decide +kernel
theorem dX12_restOf_41 : decode cX12_restOf 41 = .ok (.iload 5, 2) := by decide +kernel
theorem dX12_restOf_43 : decode cX12_restOf 43 = .ok (.iaload, 1) := by decide +kernel
theorem dX12_restOf_44 : decode cX12_restOf 44 = .ok (.imul, 1) := by decide +kernel
theorem dX12_restOf_45 : decode cX12_restOf 45 = .ok (.iadd, 1) := by decide +kernel
theorem dX12_restOf_46 : decode cX12_restOf 46 = .ok (.istore 4, 2) := by decide +kernel
theorem dX12_restOf_48 : decode cX12_restOf 48 = .ok (.iinc 5 1, 3) := by decide +kernel
theorem dX12_restOf_51 : decode cX12_restOf 51 = .ok (.goto (-30), 3) := by decide +kernel
theorem dX12_restOf_54 : decode cX12_restOf 54 = .ok (.iload 4, 2) := by decide +kernel
theorem dX12_restOf_56 : decode cX12_restOf 56 = .ok (.ifCond .ne 5, 3) := by decide +kernel
theorem dX12_restOf_59 : decode cX12_restOf 59 = .ok (.iload_n 3, 1) := by decide +kernel
theorem dX12_restOf_60 : decode cX12_restOf 60 = .ok (.ireturn, 1) := by decide +kernel
theorem dX12_restOf_61 : decode cX12_restOf 61 = .ok (.aload_n 0, 1) := by decide +kernel
theorem dX12_restOf_62 : decode cX12_restOf 62 = .ok (.invokevirtual 126, 3) := by decide +kernel
theorem dX12_restOf_65 : decode cX12_restOf 65 = .ok (.istore 5, 2) := by decide +kernel
theorem dX12_restOf_67 : decode cX12_restOf 67 = .ok (.iload 4, 2) := by decide +kernel
theorem dX12_restOf_69 : decode cX12_restOf 69 = .ok (.istore 6, 2) := by decide +kernel
theorem dX12_restOf_71 : decode cX12_restOf 71 = .ok (.iload 6, 2) := by decide +kernel
theorem dX12_restOf_73 : decode cX12_restOf 73 = .ok (.ifCond .le 21, 3) := by decide +kernel
theorem dX12_restOf_76 : decode cX12_restOf 76 = .ok (.iload 5, 2) := by decide +kernel
theorem dX12_restOf_78 : decode cX12_restOf 78 = .ok (.iload 6, 2) := by decide +kernel
theorem dX12_restOf_80 : decode cX12_restOf 80 = .ok (.irem, 1) := by decide +kernel
theorem dX12_restOf_81 : decode cX12_restOf 81 = .ok (.istore 7, 2) := by decide +kernel
theorem dX12_restOf_83 : decode cX12_restOf 83 = .ok (.iload 6, 2) := by decide +kernel
theorem dX12_restOf_85 : decode cX12_restOf 85 = .ok (.istore 5, 2) := by decide +kernel
theorem dX12_restOf_87 : decode cX12_restOf 87 = .ok (.iload 7, 2) := by decide +kernel
theorem dX12_restOf_89 : decode cX12_restOf 89 = .ok (.istore 6, 2) := by decide +kernel
theorem dX12_restOf_91 : decode cX12_restOf 91 = .ok (.goto (-20), 3) := by decide +kernel
theorem dX12_restOf_94 : decode cX12_restOf 94 = .ok (.iload_n 3, 1) := by decide +kernel
theorem dX12_restOf_95 : decode cX12_restOf 95 = .ok (.ifCond .ne 11, 3) := by decide +kernel
theorem dX12_restOf_98 : decode cX12_restOf 98 = .ok (.iload 4, 2) := by decide +kernel
theorem dX12_restOf_100 : decode cX12_restOf 100 = .ok (.iload 5, 2) := by decide +kernel
theorem dX12_restOf_102 : decode cX12_restOf 102 = .ok (.idiv, 1) := by decide +kernel
theorem dX12_restOf_103 : decode cX12_restOf 103 = .ok (.goto 10, 3) := by decide +kernel
theorem dX12_restOf_106 : decode cX12_restOf 106 = .ok (.aload_n 0, 1) := by decide +kernel
theorem dX12_restOf_107 : decode cX12_restOf 107 = .ok (.invokevirtual 126, 3) := by decide +kernel
theorem dX12_restOf_110 : decode cX12_restOf 110 = .ok (.iload 5, 2) := by decide +kernel
theorem dX12_restOf_112 : decode cX12_restOf 112 = .ok (.idiv, 1) := by decide +kernel
theorem dX12_restOf_113 : decode cX12_restOf 113 = .ok (.ireturn, 1) := by decide +kernel
theorem dX12_rest_0 : decode cX12_rest 0 = .ok (.aload_n 0, 1) := by decide +kernel
theorem dX12_rest_1 : decode cX12_rest 1 = .ok (.iload_n 1, 1) := by decide +kernel
theorem dX12_rest_2 : decode cX12_rest 2 = .ok (.invokevirtual 113, 3) := by decide +kernel
theorem dX12_rest_5 : decode cX12_rest 5 = .ok (.ifCond .eq 11, 3) := by decide +kernel
theorem dX12_rest_8 : decode cX12_rest 8 = .ok (.aload_n 0, 1) := by decide +kernel
theorem dX12_rest_9 : decode cX12_rest 9 = .ok (.iload_n 2, 1) := by decide +kernel
theorem dX12_rest_10 : decode cX12_rest 10 = .ok (.invokevirtual 110, 3) := by decide +kernel
theorem dX12_rest_13 : decode cX12_rest 13 = .ok (.ifCond .ne 6, 3) := by decide +kernel
theorem dX12_rest_16 : decode cX12_rest 16 = .ok (.bipush (-101), 2) := by decide +kernel
theorem dX12_rest_18 : decode cX12_rest 18 = .ok (.ireturn, 1) := by decide +kernel
theorem dX12_rest_19 : decode cX12_rest 19 = .ok (.iload_n 3, 1) := by decide +kernel
theorem dX12_rest_20 : decode cX12_rest 20 = .ok (.i2l, 1) := by decide +kernel
theorem dX12_rest_21 : decode cX12_rest 21 = .ok (.lconst 0, 1) := by decide +kernel
theorem dX12_rest_22 : decode cX12_rest 22 = .ok (.lconst 1, 1) := by decide +kernel
theorem dX12_rest_23 : decode cX12_rest 23 = .ok (.invokestatic 46, 3) := by decide +kernel
theorem dX12_rest_26 : decode cX12_rest 26 = .ok (.ifCond .eq 13, 3) := by decide +kernel
theorem dX12_rest_29 : decode cX12_rest 29 = .ok (.aload_n 0, 1) := by decide +kernel
theorem dX12_rest_30 : decode cX12_rest 30 = .ok (.iload_n 1, 1) := by decide +kernel
theorem dX12_rest_31 : decode cX12_rest 31 = .ok (.iload_n 2, 1) := by decide +kernel
theorem dX12_rest_32 : decode cX12_rest 32 = .ok (.iload_n 3, 1) := by decide +kernel
theorem dX12_rest_33 : decode cX12_rest 33 = .ok (.invokevirtual 183, 3) := by decide +kernel
theorem dX12_rest_36 : decode cX12_rest 36 = .ok (.goto 5, 3) := by decide +kernel
theorem dX12_rest_39 : decode cX12_rest 39 = .ok (.bipush (-102), 2) := by decide +kernel
theorem dX12_rest_41 : decode cX12_rest 41 = .ok (.ireturn, 1) := by decide +kernel
theorem dX12_longOf_0 : decode cX12_longOf 0 = .ok (.iconst 0, 1) := by decide +kernel
theorem dX12_longOf_1 : decode cX12_longOf 1 = .ok (.istore_n 3, 1) := by decide +kernel
theorem dX12_longOf_2 : decode cX12_longOf 2 = .ok (.iload_n 3, 1) := by decide +kernel
theorem dX12_longOf_3 : decode cX12_longOf 3 = .ok (.aload_n 0, 1) := by decide +kernel
theorem dX12_longOf_4 : decode cX12_longOf 4 = .ok (.getfield 90, 3) := by decide +kernel
theorem dX12_longOf_7 : decode cX12_longOf 7 = .ok (.if_icmp .ge 16, 3) := by decide +kernel
theorem dX12_longOf_10 : decode cX12_longOf 10 = .ok (.aload_n 0, 1) := by decide +kernel
theorem dX12_longOf_11 : decode cX12_longOf 11 = .ok (.getfield 19, 3) := by decide +kernel
theorem dX12_longOf_14 : decode cX12_longOf 14 = .ok (.iload_n 3, 1) := by decide +kernel
theorem dX12_longOf_15 : decode cX12_longOf 15 = .ok (.iconst 1, 1) := by decide +kernel
theorem dX12_longOf_16 : decode cX12_longOf 16 = .ok (.iastore, 1) := by decide +kernel
theorem dX12_longOf_17 : decode cX12_longOf 17 = .ok (.iinc 3 1, 3) := by decide +kernel
theorem dX12_longOf_20 : decode cX12_longOf 20 = .ok (.goto (-18), 3) := by decide +kernel
theorem dX12_longOf_23 : decode cX12_longOf 23 = .ok (.iconst 1, 1) := by decide +kernel
theorem dX12_longOf_24 : decode cX12_longOf 24 = .ok (.istore_n 3, 1) := by decide +kernel
theorem dX12_longOf_25 : decode cX12_longOf 25 = .ok (.iload_n 3, 1) := by decide +kernel
theorem dX12_longOf_26 : decode cX12_longOf 26 = .ok (.bipush 9, 2) := by decide +kernel
theorem dX12_longOf_28 : decode cX12_longOf 28 = .ok (.if_icmp .ge 91, 3) := by decide +kernel
theorem dX12_longOf_31 : decode cX12_longOf 31 = .ok (.aload_n 0, 1) := by decide +kernel
theorem dX12_longOf_32 : decode cX12_longOf 32 = .ok (.iload_n 1, 1) := by decide +kernel
theorem dX12_longOf_33 : decode cX12_longOf 33 = .ok (.invokevirtual 180, 3) := by decide +kernel
theorem dX12_longOf_36 : decode cX12_longOf 36 = .ok (.istore 4, 2) := by decide +kernel
theorem dX12_longOf_38 : decode cX12_longOf 38 = .ok (.aload_n 0, 1) := by decide +kernel
theorem dX12_longOf_39 : decode cX12_longOf 39 = .ok (.iload_n 1, 1) := by decide +kernel
theorem dX12_longOf_40 : decode cX12_longOf 40 = .ok (.iload 4, 2) := by decide +kernel
theorem dX12_longOf_42 : decode cX12_longOf 42 = .ok (.iload_n 2, 1) := by decide +kernel
theorem dX12_longOf_43 : decode cX12_longOf 43 = .ok (.invokevirtual 116, 3) := by decide +kernel
theorem dX12_longOf_46 : decode cX12_longOf 46 = .ok (.istore 5, 2) := by decide +kernel
theorem dX12_longOf_48 : decode cX12_longOf 48 = .ok (.iconst 0, 1) := by decide +kernel
theorem dX12_longOf_49 : decode cX12_longOf 49 = .ok (.istore 6, 2) := by decide +kernel
theorem dX12_longOf_51 : decode cX12_longOf 51 = .ok (.iload 6, 2) := by decide +kernel
theorem dX12_longOf_53 : decode cX12_longOf 53 = .ok (.aload_n 0, 1) := by decide +kernel
theorem dX12_longOf_54 : decode cX12_longOf 54 = .ok (.getfield 90, 3) := by decide +kernel
theorem dX12_longOf_57 : decode cX12_longOf 57 = .ok (.if_icmp .ge 46, 3) := by decide +kernel
theorem dX12_longOf_60 : decode cX12_longOf 60 = .ok (.aload_n 0, 1) := by decide +kernel
theorem dX12_longOf_61 : decode cX12_longOf 61 = .ok (.getfield 19, 3) := by decide +kernel
theorem dX12_longOf_64 : decode cX12_longOf 64 = .ok (.iload 6, 2) := by decide +kernel
theorem dX12_longOf_66 : decode cX12_longOf 66 = .ok (.aload_n 0, 1) := by decide +kernel
theorem dX12_longOf_67 : decode cX12_longOf 67 = .ok (.getfield 19, 3) := by decide +kernel
theorem dX12_longOf_70 : decode cX12_longOf 70 = .ok (.iload 6, 2) := by decide +kernel
theorem dX12_longOf_72 : decode cX12_longOf 72 = .ok (.iaload, 1) := by decide +kernel
theorem dX12_longOf_73 : decode cX12_longOf 73 = .ok (.iconst 1, 1) := by decide +kernel
theorem dX12_longOf_74 : decode cX12_longOf 74 = .ok (.if_icmp .ne 21, 3) := by decide +kernel
theorem dX12_longOf_77 : decode cX12_longOf 77 = .ok (.aload_n 0, 1) := by decide +kernel
theorem dX12_longOf_78 : decode cX12_longOf 78 = .ok (.iload_n 1, 1) := by decide +kernel
theorem dX12_longOf_79 : decode cX12_longOf 79 = .ok (.iload 4, 2) := by decide +kernel
theorem dX12_longOf_81 : decode cX12_longOf 81 = .ok (.iload 6, 2) := by decide +kernel
theorem dX12_longOf_83 : decode cX12_longOf 83 = .ok (.invokevirtual 116, 3) := by decide +kernel
theorem dX12_longOf_86 : decode cX12_longOf 86 = .ok (.iload 5, 2) := by decide +kernel
theorem dX12_longOf_88 : decode cX12_longOf 88 = .ok (.if_icmp .ne 7, 3) := by decide +kernel
theorem dX12_longOf_91 : decode cX12_longOf 91 = .ok (.iconst 1, 1) := by decide +kernel
theorem dX12_longOf_92 : decode cX12_longOf 92 = .ok (.goto 4, 3) := by decide +kernel
theorem dX12_longOf_95 : decode cX12_longOf 95 = .ok (.iconst 0, 1) := by decide +kernel
theorem dX12_longOf_96 : decode cX12_longOf 96 = .ok (.iastore, 1) := by decide +kernel
theorem dX12_longOf_97 : decode cX12_longOf 97 = .ok (.iinc 6 1, 3) := by decide +kernel
theorem dX12_longOf_100 : decode cX12_longOf 100 = .ok (.goto (-49), 3) := by decide +kernel
theorem dX12_longOf_103 : decode cX12_longOf 103 = .ok (.aload_n 0, 1) := by decide +kernel
theorem dX12_longOf_104 : decode cX12_longOf 104 = .ok (.invokevirtual 126, 3) := by decide +kernel
theorem dX12_longOf_107 : decode cX12_longOf 107 = .ok (.iconst 1, 1) := by decide +kernel
theorem dX12_longOf_108 : decode cX12_longOf 108 = .ok (.if_icmp .ne 5, 3) := by decide +kernel
theorem dX12_longOf_111 : decode cX12_longOf 111 = .ok (.iload_n 3, 1) := by decide +kernel
theorem dX12_longOf_112 : decode cX12_longOf 112 = .ok (.ireturn, 1) := by decide +kernel
theorem dX12_longOf_113 : decode cX12_longOf 113 = .ok (.iinc 3 1, 3) := by decide +kernel
theorem dX12_longOf_116 : decode cX12_longOf 116 = .ok (.goto (-91), 3) := by decide +kernel
theorem dX12_longOf_119 : decode cX12_longOf 119 = .ok (.iconst (-1), 1) := by decide +kernel
theorem dX12_longOf_120 : decode cX12_longOf 120 = .ok (.ireturn, 1) := by decide +kernel
theorem dX12_howLong_0 : decode cX12_howLong 0 = .ok (.aload_n 0, 1) := by decide +kernel
theorem dX12_howLong_1 : decode cX12_howLong 1 = .ok (.iload_n 1, 1) := by decide +kernel
theorem dX12_howLong_2 : decode cX12_howLong 2 = .ok (.invokevirtual 110, 3) := by decide +kernel
theorem dX12_howLong_5 : decode cX12_howLong 5 = .ok (.ifCond .eq 11, 3) := by decide +kernel
theorem dX12_howLong_8 : decode cX12_howLong 8 = .ok (.aload_n 0, 1) := by decide +kernel
theorem dX12_howLong_9 : decode cX12_howLong 9 = .ok (.iload_n 2, 1) := by decide +kernel
theorem dX12_howLong_10 : decode cX12_howLong 10 = .ok (.invokevirtual 113, 3) := by decide +kernel
theorem dX12_howLong_13 : decode cX12_howLong 13 = .ok (.ifCond .ne 6, 3) := by decide +kernel
theorem dX12_howLong_16 : decode cX12_howLong 16 = .ok (.bipush (-101), 2) := by decide +kernel
theorem dX12_howLong_18 : decode cX12_howLong 18 = .ok (.ireturn, 1) := by decide +kernel
theorem dX12_howLong_19 : decode cX12_howLong 19 = .ok (.aload_n 0, 1) := by decide +kernel
theorem dX12_howLong_20 : decode cX12_howLong 20 = .ok (.getfield 186, 3) := by decide +kernel
theorem dX12_howLong_23 : decode cX12_howLong 23 = .ok (.bipush 6, 2) := by decide +kernel
theorem dX12_howLong_25 : decode cX12_howLong 25 = .ok (.if_icmp .ne 6, 3) := by decide +kernel
theorem dX12_howLong_28 : decode cX12_howLong 28 = .ok (.bipush (-103), 2) := by decide +kernel
theorem dX12_howLong_30 : decode cX12_howLong 30 = .ok (.ireturn, 1) := by decide +kernel
theorem dX12_howLong_31 : decode cX12_howLong 31 = .ok (.aload_n 0, 1) := by decide +kernel
theorem dX12_howLong_32 : decode cX12_howLong 32 = .ok (.dup, 1) := by decide +kernel
theorem dX12_howLong_33 : decode cX12_howLong 33 = .ok (.getfield 186, 3) := by decide +kernel
theorem dX12_howLong_36 : decode cX12_howLong 36 = .ok (.iconst 1, 1) := by decide +kernel
theorem dX12_howLong_37 : decode cX12_howLong 37 = .ok (.iadd, 1) := by decide +kernel
theorem dX12_howLong_38 : decode cX12_howLong 38 = .ok (.putfield 186, 3) := by decide +kernel
theorem dX12_howLong_41 : decode cX12_howLong 41 = .ok (.aload_n 0, 1) := by decide +kernel
theorem dX12_howLong_42 : decode cX12_howLong 42 = .ok (.aload_n 0, 1) := by decide +kernel
theorem dX12_howLong_43 : decode cX12_howLong 43 = .ok (.getfield 13, 3) := by decide +kernel
theorem dX12_howLong_46 : decode cX12_howLong 46 = .ok (.iload_n 1, 1) := by decide +kernel
theorem dX12_howLong_47 : decode cX12_howLong 47 = .ok (.iaload, 1) := by decide +kernel
theorem dX12_howLong_48 : decode cX12_howLong 48 = .ok (.iload_n 2, 1) := by decide +kernel
theorem dX12_howLong_49 : decode cX12_howLong 49 = .ok (.invokevirtual 189, 3) := by decide +kernel
theorem dX12_howLong_52 : decode cX12_howLong 52 = .ok (.ireturn, 1) := by decide +kernel
theorem dX12_isTwin_0 : decode cX12_isTwin 0 = .ok (.iconst 0, 1) := by decide +kernel
theorem dX12_isTwin_1 : decode cX12_isTwin 1 = .ok (.istore 4, 2) := by decide +kernel
theorem dX12_isTwin_3 : decode cX12_isTwin 3 = .ok (.iload 4, 2) := by decide +kernel
theorem dX12_isTwin_5 : decode cX12_isTwin 5 = .ok (.aload_n 0, 1) := by decide +kernel
theorem dX12_isTwin_6 : decode cX12_isTwin 6 = .ok (.getfield 90, 3) := by decide +kernel
theorem dX12_isTwin_9 : decode cX12_isTwin 9 = .ok (.if_icmp .ge 30, 3) := by decide +kernel
theorem dX12_isTwin_12 : decode cX12_isTwin 12 = .ok (.aload_n 0, 1) := by decide +kernel
theorem dX12_isTwin_13 : decode cX12_isTwin 13 = .ok (.iload_n 1, 1) := by decide +kernel
theorem dX12_isTwin_14 : decode cX12_isTwin 14 = .ok (.iload 4, 2) := by decide +kernel
theorem dX12_isTwin_16 : decode cX12_isTwin 16 = .ok (.iload_n 2, 1) := by decide +kernel
theorem dX12_isTwin_17 : decode cX12_isTwin 17 = .ok (.invokevirtual 116, 3) := by decide +kernel
theorem dX12_isTwin_20 : decode cX12_isTwin 20 = .ok (.aload_n 0, 1) := by decide +kernel
theorem dX12_isTwin_21 : decode cX12_isTwin 21 = .ok (.iload_n 1, 1) := by decide +kernel
theorem dX12_isTwin_22 : decode cX12_isTwin 22 = .ok (.iload 4, 2) := by decide +kernel
theorem dX12_isTwin_24 : decode cX12_isTwin 24 = .ok (.iload_n 3, 1) := by decide +kernel
theorem dX12_isTwin_25 : decode cX12_isTwin 25 = .ok (.invokevirtual 116, 3) := by decide +kernel
theorem dX12_isTwin_28 : decode cX12_isTwin 28 = .ok (.if_icmp .eq 5, 3) := by decide +kernel
theorem dX12_isTwin_31 : decode cX12_isTwin 31 = .ok (.iconst 0, 1) := by decide +kernel
theorem dX12_isTwin_32 : decode cX12_isTwin 32 = .ok (.ireturn, 1) := by decide +kernel
theorem dX12_isTwin_33 : decode cX12_isTwin 33 = .ok (.iinc 4 1, 3) := by decide +kernel
theorem dX12_isTwin_36 : decode cX12_isTwin 36 = .ok (.goto (-33), 3) := by decide +kernel
theorem dX12_isTwin_39 : decode cX12_isTwin 39 = .ok (.iconst 1, 1) := by decide +kernel
theorem dX12_isTwin_40 : decode cX12_isTwin 40 = .ok (.ireturn, 1) := by decide +kernel
theorem dX12_twinsOf_0 : decode cX12_twinsOf 0 = .ok (.iconst 0, 1) := by decide +kernel
theorem dX12_twinsOf_1 : decode cX12_twinsOf 1 = .ok (.istore_n 2, 1) := by decide +kernel
theorem dX12_twinsOf_2 : decode cX12_twinsOf 2 = .ok (.iload_n 2, 1) := by decide +kernel
theorem dX12_twinsOf_3 : decode cX12_twinsOf 3 = .ok (.aload_n 0, 1) := by decide +kernel
theorem dX12_twinsOf_4 : decode cX12_twinsOf 4 = .ok (.getfield 90, 3) := by decide +kernel
theorem dX12_twinsOf_7 : decode cX12_twinsOf 7 = .ok (.if_icmp .ge 50, 3) := by decide +kernel
theorem dX12_twinsOf_10 : decode cX12_twinsOf 10 = .ok (.iload_n 2, 1) := by decide +kernel
theorem dX12_twinsOf_11 : decode cX12_twinsOf 11 = .ok (.iconst 1, 1) := by decide +kernel
theorem dX12_twinsOf_12 : decode cX12_twinsOf 12 = .ok (.iadd, 1) := by decide +kernel
theorem dX12_twinsOf_13 : decode cX12_twinsOf 13 = .ok (.istore_n 3, 1) := by decide +kernel
theorem dX12_twinsOf_14 : decode cX12_twinsOf 14 = .ok (.iload_n 3, 1) := by decide +kernel
theorem dX12_twinsOf_15 : decode cX12_twinsOf 15 = .ok (.aload_n 0, 1) := by decide +kernel
theorem dX12_twinsOf_16 : decode cX12_twinsOf 16 = .ok (.getfield 90, 3) := by decide +kernel
theorem dX12_twinsOf_19 : decode cX12_twinsOf 19 = .ok (.if_icmp .ge 32, 3) := by decide +kernel
theorem dX12_twinsOf_22 : decode cX12_twinsOf 22 = .ok (.aload_n 0, 1) := by decide +kernel
theorem dX12_twinsOf_23 : decode cX12_twinsOf 23 = .ok (.aload_n 0, 1) := by decide +kernel
theorem dX12_twinsOf_24 : decode cX12_twinsOf 24 = .ok (.getfield 13, 3) := by decide +kernel
theorem dX12_twinsOf_27 : decode cX12_twinsOf 27 = .ok (.iload_n 1, 1) := by decide +kernel
theorem dX12_twinsOf_28 : decode cX12_twinsOf 28 = .ok (.iaload, 1) := by decide +kernel
theorem dX12_twinsOf_29 : decode cX12_twinsOf 29 = .ok (.iload_n 2, 1) := by decide +kernel
theorem dX12_twinsOf_30 : decode cX12_twinsOf 30 = .ok (.iload_n 3, 1) := by decide +kernel
theorem dX12_twinsOf_31 : decode cX12_twinsOf 31 = .ok (.invokevirtual 192, 3) := by decide +kernel
theorem dX12_twinsOf_34 : decode cX12_twinsOf 34 = .ok (.ifCond .eq 11, 3) := by decide +kernel
theorem dX12_twinsOf_37 : decode cX12_twinsOf 37 = .ok (.sipush 1000, 3) := by decide +kernel
theorem dX12_twinsOf_40 : decode cX12_twinsOf 40 = .ok (.iload_n 2, 1) := by decide +kernel
theorem dX12_twinsOf_41 : decode cX12_twinsOf 41 = .ok (.imul, 1) := by decide +kernel
theorem dX12_twinsOf_42 : decode cX12_twinsOf 42 = .ok (.iload_n 3, 1) := by decide +kernel
theorem dX12_twinsOf_43 : decode cX12_twinsOf 43 = .ok (.iadd, 1) := by decide +kernel
theorem dX12_twinsOf_44 : decode cX12_twinsOf 44 = .ok (.ireturn, 1) := by decide +kernel
theorem dX12_twinsOf_45 : decode cX12_twinsOf 45 = .ok (.iinc 3 1, 3) := by decide +kernel
theorem dX12_twinsOf_48 : decode cX12_twinsOf 48 = .ok (.goto (-34), 3) := by decide +kernel
theorem dX12_twinsOf_51 : decode cX12_twinsOf 51 = .ok (.iinc 2 1, 3) := by decide +kernel
theorem dX12_twinsOf_54 : decode cX12_twinsOf 54 = .ok (.goto (-52), 3) := by decide +kernel
theorem dX12_twinsOf_57 : decode cX12_twinsOf 57 = .ok (.iconst (-1), 1) := by decide +kernel
theorem dX12_twinsOf_58 : decode cX12_twinsOf 58 = .ok (.ireturn, 1) := by decide +kernel
theorem dX12_layTable_0 : decode cX12_layTable 0 = .ok (.iconst 0, 1) := by decide +kernel
theorem dX12_layTable_1 : decode cX12_layTable 1 = .ok (.istore_n 2, 1) := by decide +kernel
theorem dX12_layTable_2 : decode cX12_layTable 2 = .ok (.iload_n 2, 1) := by decide +kernel
theorem dX12_layTable_3 : decode cX12_layTable 3 = .ok (.sipush 4096, 3) := by decide +kernel
theorem dX12_layTable_6 : decode cX12_layTable 6 = .ok (.if_icmp .ge 100, 3) := by decide +kernel
theorem dX12_layTable_9 : decode cX12_layTable 9 = .ok (.iload_n 2, 1) := by decide +kernel
theorem dX12_layTable_10 : decode cX12_layTable 10 = .ok (.bipush 64, 2) := by decide +kernel
theorem dX12_layTable_12 : decode cX12_layTable 12 = .ok (.idiv, 1) := by decide +kernel
theorem dX12_layTable_13 : decode cX12_layTable 13 = .ok (.istore_n 3, 1) := by decide +kernel
theorem dX12_layTable_14 : decode cX12_layTable 14 = .ok (.iload_n 2, 1) := by decide +kernel
theorem dX12_layTable_15 : decode cX12_layTable 15 = .ok (.bipush 64, 2) := by decide +kernel
theorem dX12_layTable_17 : decode cX12_layTable 17 = .ok (.irem, 1) := by decide +kernel
theorem dX12_layTable_18 : decode cX12_layTable 18 = .ok (.istore 4, 2) := by decide +kernel
theorem dX12_layTable_20 : decode cX12_layTable 20 = .ok (.iload_n 3, 1) := by decide +kernel
theorem dX12_layTable_21 : decode cX12_layTable 21 = .ok (.aload_n 0, 1) := by decide +kernel
theorem dX12_layTable_22 : decode cX12_layTable 22 = .ok (.getfield 90, 3) := by decide +kernel
theorem dX12_layTable_25 : decode cX12_layTable 25 = .ok (.if_icmp .ge 16, 3) := by decide +kernel
theorem dX12_layTable_28 : decode cX12_layTable 28 = .ok (.iload 4, 2) := by decide +kernel
theorem dX12_layTable_30 : decode cX12_layTable 30 = .ok (.aload_n 0, 1) := by decide +kernel
theorem dX12_layTable_31 : decode cX12_layTable 31 = .ok (.getfield 90, 3) := by decide +kernel
theorem dX12_layTable_34 : decode cX12_layTable 34 = .ok (.if_icmp .ge 7, 3) := by decide +kernel
theorem dX12_layTable_37 : decode cX12_layTable 37 = .ok (.iconst 1, 1) := by decide +kernel
theorem dX12_layTable_38 : decode cX12_layTable 38 = .ok (.goto 4, 3) := by decide +kernel
theorem dX12_layTable_41 : decode cX12_layTable 41 = .ok (.iconst 0, 1) := by decide +kernel
theorem dX12_layTable_42 : decode cX12_layTable 42 = .ok (.istore 5, 2) := by decide +kernel
theorem dX12_layTable_44 : decode cX12_layTable 44 = .ok (.aload_n 0, 1) := by decide +kernel
theorem dX12_layTable_45 : decode cX12_layTable 45 = .ok (.getfield 25, 3) := by decide +kernel
theorem dX12_layTable_48 : decode cX12_layTable 48 = .ok (.iload_n 2, 1) := by decide +kernel
theorem dX12_layTable_49 : decode cX12_layTable 49 = .ok (.iload 5, 2) := by decide +kernel
theorem dX12_layTable_51 : decode cX12_layTable 51 = .ok (.ifCond .eq 14, 3) := by decide +kernel
theorem dX12_layTable_54 : decode cX12_layTable 54 = .ok (.aload_n 0, 1) := by decide +kernel
theorem dX12_layTable_55 : decode cX12_layTable 55 = .ok (.iload_n 1, 1) := by decide +kernel
theorem dX12_layTable_56 : decode cX12_layTable 56 = .ok (.iload_n 3, 1) := by decide +kernel
theorem dX12_layTable_57 : decode cX12_layTable 57 = .ok (.iload 4, 2) := by decide +kernel
theorem dX12_layTable_59 : decode cX12_layTable 59 = .ok (.invokevirtual 116, 3) := by decide +kernel
theorem dX12_layTable_62 : decode cX12_layTable 62 = .ok (.goto 4, 3) := by decide +kernel
theorem dX12_layTable_65 : decode cX12_layTable 65 = .ok (.iconst 0, 1) := by decide +kernel
theorem dX12_layTable_66 : decode cX12_layTable 66 = .ok (.iastore, 1) := by decide +kernel
theorem dX12_layTable_67 : decode cX12_layTable 67 = .ok (.aload_n 0, 1) := by decide +kernel
theorem dX12_layTable_68 : decode cX12_layTable 68 = .ok (.getfield 28, 3) := by decide +kernel
theorem dX12_layTable_71 : decode cX12_layTable 71 = .ok (.iload_n 2, 1) := by decide +kernel
theorem dX12_layTable_72 : decode cX12_layTable 72 = .ok (.iload 5, 2) := by decide +kernel
theorem dX12_layTable_74 : decode cX12_layTable 74 = .ok (.ifCond .eq 24, 3) := by decide +kernel
theorem dX12_layTable_77 : decode cX12_layTable 77 = .ok (.iload_n 3, 1) := by decide +kernel
theorem dX12_layTable_78 : decode cX12_layTable 78 = .ok (.iload 4, 2) := by decide +kernel
theorem dX12_layTable_80 : decode cX12_layTable 80 = .ok (.if_icmp .ge 18, 3) := by decide +kernel
theorem dX12_layTable_83 : decode cX12_layTable 83 = .ok (.aload_n 0, 1) := by decide +kernel
theorem dX12_layTable_84 : decode cX12_layTable 84 = .ok (.iload_n 1, 1) := by decide +kernel
theorem dX12_layTable_85 : decode cX12_layTable 85 = .ok (.iload_n 3, 1) := by decide +kernel
theorem dX12_layTable_86 : decode cX12_layTable 86 = .ok (.iload 4, 2) := by decide +kernel
theorem dX12_layTable_88 : decode cX12_layTable 88 = .ok (.invokevirtual 192, 3) := by decide +kernel
theorem dX12_layTable_91 : decode cX12_layTable 91 = .ok (.ifCond .ne 7, 3) := by decide +kernel
theorem dX12_layTable_94 : decode cX12_layTable 94 = .ok (.iconst 1, 1) := by decide +kernel
theorem dX12_layTable_95 : decode cX12_layTable 95 = .ok (.goto 4, 3) := by decide +kernel
theorem dX12_layTable_98 : decode cX12_layTable 98 = .ok (.iconst 0, 1) := by decide +kernel
theorem dX12_layTable_99 : decode cX12_layTable 99 = .ok (.iastore, 1) := by decide +kernel
theorem dX12_layTable_100 : decode cX12_layTable 100 = .ok (.iinc 2 1, 3) := by decide +kernel
theorem dX12_layTable_103 : decode cX12_layTable 103 = .ok (.goto (-101), 3) := by decide +kernel
theorem dX12_layTable_106 : decode cX12_layTable 106 = .ok (.return_, 1) := by decide +kernel
theorem dX12_isEnough_0 : decode cX12_isEnough 0 = .ok (.iconst 0, 1) := by decide +kernel
theorem dX12_isEnough_1 : decode cX12_isEnough 1 = .ok (.istore_n 3, 1) := by decide +kernel
theorem dX12_isEnough_2 : decode cX12_isEnough 2 = .ok (.iload_n 3, 1) := by decide +kernel
theorem dX12_isEnough_3 : decode cX12_isEnough 3 = .ok (.aload_n 0, 1) := by decide +kernel
theorem dX12_isEnough_4 : decode cX12_isEnough 4 = .ok (.getfield 90, 3) := by decide +kernel
theorem dX12_isEnough_7 : decode cX12_isEnough 7 = .ok (.if_icmp .ge 111, 3) := by decide +kernel
theorem dX12_isEnough_10 : decode cX12_isEnough 10 = .ok (.iload_n 3, 1) := by decide +kernel
theorem dX12_isEnough_11 : decode cX12_isEnough 11 = .ok (.iconst 1, 1) := by decide +kernel
theorem dX12_isEnough_12 : decode cX12_isEnough 12 = .ok (.iadd, 1) := by decide +kernel
theorem dX12_isEnough_13 : decode cX12_isEnough 13 = .ok (.istore 4, 2) := by decide +kernel
theorem dX12_isEnough_15 : decode cX12_isEnough 15 = .ok (.iload 4, 2) := by decide +kernel
theorem dX12_isEnough_17 : decode cX12_isEnough 17 = .ok (.aload_n 0, 1) := by decide +kernel
theorem dX12_isEnough_18 : decode cX12_isEnough 18 = .ok (.getfield 90, 3) := by decide +kernel
theorem dX12_isEnough_21 : decode cX12_isEnough 21 = .ok (.if_icmp .ge 91, 3) := by decide +kernel
theorem dX12_isEnough_24 : decode cX12_isEnough 24 = .ok (.aload_n 0, 1) := by decide +kernel
theorem dX12_isEnough_25 : decode cX12_isEnough 25 = .ok (.getfield 25, 3) := by decide +kernel
theorem dX12_isEnough_28 : decode cX12_isEnough 28 = .ok (.bipush 64, 2) := by decide +kernel
theorem dX12_isEnough_30 : decode cX12_isEnough 30 = .ok (.iload_n 1, 1) := by decide +kernel
theorem dX12_isEnough_31 : decode cX12_isEnough 31 = .ok (.imul, 1) := by decide +kernel
theorem dX12_isEnough_32 : decode cX12_isEnough 32 = .ok (.iload_n 3, 1) := by decide +kernel
theorem dX12_isEnough_33 : decode cX12_isEnough 33 = .ok (.iadd, 1) := by decide +kernel
theorem dX12_isEnough_34 : decode cX12_isEnough 34 = .ok (.iaload, 1) := by decide +kernel
theorem dX12_isEnough_35 : decode cX12_isEnough 35 = .ok (.aload_n 0, 1) := by decide +kernel
theorem dX12_isEnough_36 : decode cX12_isEnough 36 = .ok (.getfield 25, 3) := by decide +kernel
theorem dX12_isEnough_39 : decode cX12_isEnough 39 = .ok (.bipush 64, 2) := by decide +kernel
theorem dX12_isEnough_41 : decode cX12_isEnough 41 = .ok (.iload_n 1, 1) := by decide +kernel
theorem dX12_isEnough_42 : decode cX12_isEnough 42 = .ok (.imul, 1) := by decide +kernel
theorem dX12_isEnough_43 : decode cX12_isEnough 43 = .ok (.iload 4, 2) := by decide +kernel
theorem dX12_isEnough_45 : decode cX12_isEnough 45 = .ok (.iadd, 1) := by decide +kernel
theorem dX12_isEnough_46 : decode cX12_isEnough 46 = .ok (.iaload, 1) := by decide +kernel
theorem dX12_isEnough_47 : decode cX12_isEnough 47 = .ok (.if_icmp .ne 33, 3) := by decide +kernel
theorem dX12_isEnough_50 : decode cX12_isEnough 50 = .ok (.aload_n 0, 1) := by decide +kernel
theorem dX12_isEnough_51 : decode cX12_isEnough 51 = .ok (.getfield 25, 3) := by decide +kernel
theorem dX12_isEnough_54 : decode cX12_isEnough 54 = .ok (.bipush 64, 2) := by decide +kernel
theorem dX12_isEnough_56 : decode cX12_isEnough 56 = .ok (.iload_n 2, 1) := by decide +kernel
theorem dX12_isEnough_57 : decode cX12_isEnough 57 = .ok (.imul, 1) := by decide +kernel
theorem dX12_isEnough_58 : decode cX12_isEnough 58 = .ok (.iload_n 3, 1) := by decide +kernel
theorem dX12_isEnough_59 : decode cX12_isEnough 59 = .ok (.iadd, 1) := by decide +kernel
theorem dX12_isEnough_60 : decode cX12_isEnough 60 = .ok (.iaload, 1) := by decide +kernel
theorem dX12_isEnough_61 : decode cX12_isEnough 61 = .ok (.aload_n 0, 1) := by decide +kernel
theorem dX12_isEnough_62 : decode cX12_isEnough 62 = .ok (.getfield 25, 3) := by decide +kernel
theorem dX12_isEnough_65 : decode cX12_isEnough 65 = .ok (.bipush 64, 2) := by decide +kernel
theorem dX12_isEnough_67 : decode cX12_isEnough 67 = .ok (.iload_n 2, 1) := by decide +kernel
theorem dX12_isEnough_68 : decode cX12_isEnough 68 = .ok (.imul, 1) := by decide +kernel
theorem dX12_isEnough_69 : decode cX12_isEnough 69 = .ok (.iload 4, 2) := by decide +kernel
theorem dX12_isEnough_71 : decode cX12_isEnough 71 = .ok (.iadd, 1) := by decide +kernel
theorem dX12_isEnough_72 : decode cX12_isEnough 72 = .ok (.iaload, 1) := by decide +kernel
theorem dX12_isEnough_73 : decode cX12_isEnough 73 = .ok (.if_icmp .ne 7, 3) := by decide +kernel
theorem dX12_isEnough_76 : decode cX12_isEnough 76 = .ok (.iconst 1, 1) := by decide +kernel
theorem dX12_isEnough_77 : decode cX12_isEnough 77 = .ok (.goto 4, 3) := by decide +kernel
theorem dX12_isEnough_80 : decode cX12_isEnough 80 = .ok (.iconst 0, 1) := by decide +kernel
theorem dX12_isEnough_81 : decode cX12_isEnough 81 = .ok (.istore 5, 2) := by decide +kernel
theorem dX12_isEnough_83 : decode cX12_isEnough 83 = .ok (.iload 5, 2) := by decide +kernel
theorem dX12_isEnough_85 : decode cX12_isEnough 85 = .ok (.ifCond .eq 21, 3) := by decide +kernel
theorem dX12_isEnough_88 : decode cX12_isEnough 88 = .ok (.aload_n 0, 1) := by decide +kernel
theorem dX12_isEnough_89 : decode cX12_isEnough 89 = .ok (.getfield 28, 3) := by decide +kernel
theorem dX12_isEnough_92 : decode cX12_isEnough 92 = .ok (.bipush 64, 2) := by decide +kernel
theorem dX12_isEnough_94 : decode cX12_isEnough 94 = .ok (.iload_n 3, 1) := by decide +kernel
theorem dX12_isEnough_95 : decode cX12_isEnough 95 = .ok (.imul, 1) := by decide +kernel
theorem dX12_isEnough_96 : decode cX12_isEnough 96 = .ok (.iload 4, 2) := by decide +kernel
theorem dX12_isEnough_98 : decode cX12_isEnough 98 = .ok (.iadd, 1) := by decide +kernel
theorem dX12_isEnough_99 : decode cX12_isEnough 99 = .ok (.iaload, 1) := by decide +kernel
theorem dX12_isEnough_100 : decode cX12_isEnough 100 = .ok (.iconst 1, 1) := by decide +kernel
theorem dX12_isEnough_101 : decode cX12_isEnough 101 = .ok (.if_icmp .ne 5, 3) := by decide +kernel
theorem dX12_isEnough_104 : decode cX12_isEnough 104 = .ok (.iconst 0, 1) := by decide +kernel
theorem dX12_isEnough_105 : decode cX12_isEnough 105 = .ok (.ireturn, 1) := by decide +kernel
theorem dX12_isEnough_106 : decode cX12_isEnough 106 = .ok (.iinc 4 1, 3) := by decide +kernel
theorem dX12_isEnough_109 : decode cX12_isEnough 109 = .ok (.goto (-94), 3) := by decide +kernel
theorem dX12_isEnough_112 : decode cX12_isEnough 112 = .ok (.iinc 3 1, 3) := by decide +kernel
theorem dX12_isEnough_115 : decode cX12_isEnough 115 = .ok (.goto (-113), 3) := by decide +kernel
theorem dX12_isEnough_118 : decode cX12_isEnough 118 = .ok (.iconst 1, 1) := by decide +kernel
theorem dX12_isEnough_119 : decode cX12_isEnough 119 = .ok (.ireturn, 1) := by decide +kernel
theorem dX12_apartMany_0 : decode cX12_apartMany 0 = .ok (.iconst 0, 1) := by decide +kernel
theorem dX12_apartMany_1 : decode cX12_apartMany 1 = .ok (.istore_n 1, 1) := by decide +kernel
theorem dX12_apartMany_2 : decode cX12_apartMany 2 = .ok (.iconst 0, 1) := by decide +kernel
theorem dX12_apartMany_3 : decode cX12_apartMany 3 = .ok (.istore_n 2, 1) := by decide +kernel
theorem dX12_apartMany_4 : decode cX12_apartMany 4 = .ok (.iload_n 2, 1) := by decide +kernel
theorem dX12_apartMany_5 : decode cX12_apartMany 5 = .ok (.sipush 4096, 3) := by decide +kernel
theorem dX12_apartMany_8 : decode cX12_apartMany 8 = .ok (.if_icmp .ge 18, 3) := by decide +kernel
theorem dX12_apartMany_11 : decode cX12_apartMany 11 = .ok (.iload_n 1, 1) := by decide +kernel
theorem dX12_apartMany_12 : decode cX12_apartMany 12 = .ok (.aload_n 0, 1) := by decide +kernel
theorem dX12_apartMany_13 : decode cX12_apartMany 13 = .ok (.getfield 28, 3) := by decide +kernel
theorem dX12_apartMany_16 : decode cX12_apartMany 16 = .ok (.iload_n 2, 1) := by decide +kernel
theorem dX12_apartMany_17 : decode cX12_apartMany 17 = .ok (.iaload, 1) := by decide +kernel
theorem dX12_apartMany_18 : decode cX12_apartMany 18 = .ok (.iadd, 1) := by decide +kernel
theorem dX12_apartMany_19 : decode cX12_apartMany 19 = .ok (.istore_n 1, 1) := by decide +kernel
theorem dX12_apartMany_20 : decode cX12_apartMany 20 = .ok (.iinc 2 1, 3) := by decide +kernel
theorem dX12_apartMany_23 : decode cX12_apartMany 23 = .ok (.goto (-19), 3) := by decide +kernel
theorem dX12_apartMany_26 : decode cX12_apartMany 26 = .ok (.iload_n 1, 1) := by decide +kernel
theorem dX12_apartMany_27 : decode cX12_apartMany 27 = .ok (.ireturn, 1) := by decide +kernel
theorem dX12_partsOf_0 : decode cX12_partsOf 0 = .ok (.aload_n 0, 1) := by decide +kernel
theorem dX12_partsOf_1 : decode cX12_partsOf 1 = .ok (.iload_n 1, 1) := by decide +kernel
theorem dX12_partsOf_2 : decode cX12_partsOf 2 = .ok (.invokevirtual 196, 3) := by decide +kernel
theorem dX12_partsOf_5 : decode cX12_partsOf 5 = .ok (.aload_n 0, 1) := by decide +kernel
theorem dX12_partsOf_6 : decode cX12_partsOf 6 = .ok (.invokevirtual 200, 3) := by decide +kernel
theorem dX12_partsOf_9 : decode cX12_partsOf 9 = .ok (.ifCond .ne 13, 3) := by decide +kernel
theorem dX12_partsOf_12 : decode cX12_partsOf 12 = .ok (.iload_n 2, 1) := by decide +kernel
theorem dX12_partsOf_13 : decode cX12_partsOf 13 = .ok (.ifCond .ne 7, 3) := by decide +kernel
theorem dX12_partsOf_16 : decode cX12_partsOf 16 = .ok (.iconst 0, 1) := by decide +kernel
theorem dX12_partsOf_17 : decode cX12_partsOf 17 = .ok (.goto 4, 3) := by decide +kernel
theorem dX12_partsOf_20 : decode cX12_partsOf 20 = .ok (.iconst (-1), 1) := by decide +kernel
theorem dX12_partsOf_21 : decode cX12_partsOf 21 = .ok (.ireturn, 1) := by decide +kernel
theorem dX12_partsOf_22 : decode cX12_partsOf 22 = .ok (.iconst 0, 1) := by decide +kernel
theorem dX12_partsOf_23 : decode cX12_partsOf 23 = .ok (.istore_n 3, 1) := by decide +kernel
theorem dX12_partsOf_24 : decode cX12_partsOf 24 = .ok (.iload_n 3, 1) := by decide +kernel
theorem dX12_partsOf_25 : decode cX12_partsOf 25 = .ok (.aload_n 0, 1) := by decide +kernel
theorem dX12_partsOf_26 : decode cX12_partsOf 26 = .ok (.getfield 90, 3) := by decide +kernel
theorem dX12_partsOf_29 : decode cX12_partsOf 29 = .ok (.if_icmp .ge 37, 3) := by decide +kernel
theorem dX12_partsOf_32 : decode cX12_partsOf 32 = .ok (.aload_n 0, 1) := by decide +kernel
theorem dX12_partsOf_33 : decode cX12_partsOf 33 = .ok (.iload_n 3, 1) := by decide +kernel
theorem dX12_partsOf_34 : decode cX12_partsOf 34 = .ok (.iload_n 3, 1) := by decide +kernel
theorem dX12_partsOf_35 : decode cX12_partsOf 35 = .ok (.invokevirtual 203, 3) := by decide +kernel
theorem dX12_partsOf_38 : decode cX12_partsOf 38 = .ok (.ifCond .eq 22, 3) := by decide +kernel
theorem dX12_partsOf_41 : decode cX12_partsOf 41 = .ok (.iload_n 2, 1) := by decide +kernel
theorem dX12_partsOf_42 : decode cX12_partsOf 42 = .ok (.ifCond .ne 7, 3) := by decide +kernel
theorem dX12_partsOf_45 : decode cX12_partsOf 45 = .ok (.iconst 1, 1) := by decide +kernel
theorem dX12_partsOf_46 : decode cX12_partsOf 46 = .ok (.goto 13, 3) := by decide +kernel
theorem dX12_partsOf_49 : decode cX12_partsOf 49 = .ok (.iload_n 2, 1) := by decide +kernel
theorem dX12_partsOf_50 : decode cX12_partsOf 50 = .ok (.iconst 1, 1) := by decide +kernel
theorem dX12_partsOf_51 : decode cX12_partsOf 51 = .ok (.if_icmp .ne 7, 3) := by decide +kernel
theorem dX12_partsOf_54 : decode cX12_partsOf 54 = .ok (.iload_n 3, 1) := by decide +kernel
theorem dX12_partsOf_55 : decode cX12_partsOf 55 = .ok (.goto 4, 3) := by decide +kernel
theorem dX12_partsOf_58 : decode cX12_partsOf 58 = .ok (.iconst (-1), 1) := by decide +kernel
theorem dX12_partsOf_59 : decode cX12_partsOf 59 = .ok (.ireturn, 1) := by decide +kernel
theorem dX12_partsOf_60 : decode cX12_partsOf 60 = .ok (.iinc 3 1, 3) := by decide +kernel
theorem dX12_partsOf_63 : decode cX12_partsOf 63 = .ok (.goto (-39), 3) := by decide +kernel
theorem dX12_partsOf_66 : decode cX12_partsOf 66 = .ok (.iconst 0, 1) := by decide +kernel
theorem dX12_partsOf_67 : decode cX12_partsOf 67 = .ok (.istore_n 3, 1) := by decide +kernel
theorem dX12_partsOf_68 : decode cX12_partsOf 68 = .ok (.iload_n 3, 1) := by decide +kernel
theorem dX12_partsOf_69 : decode cX12_partsOf 69 = .ok (.aload_n 0, 1) := by decide +kernel
theorem dX12_partsOf_70 : decode cX12_partsOf 70 = .ok (.getfield 90, 3) := by decide +kernel
theorem dX12_partsOf_73 : decode cX12_partsOf 73 = .ok (.if_icmp .ge 59, 3) := by decide +kernel
theorem dX12_partsOf_76 : decode cX12_partsOf 76 = .ok (.iload_n 3, 1) := by decide +kernel
theorem dX12_partsOf_77 : decode cX12_partsOf 77 = .ok (.iconst 1, 1) := by decide +kernel
theorem dX12_partsOf_78 : decode cX12_partsOf 78 = .ok (.iadd, 1) := by decide +kernel
theorem dX12_partsOf_79 : decode cX12_partsOf 79 = .ok (.istore 4, 2) := by decide +kernel
theorem dX12_partsOf_81 : decode cX12_partsOf 81 = .ok (.iload 4, 2) := by decide +kernel
theorem dX12_partsOf_83 : decode cX12_partsOf 83 = .ok (.aload_n 0, 1) := by decide +kernel
theorem dX12_partsOf_84 : decode cX12_partsOf 84 = .ok (.getfield 90, 3) := by decide +kernel
theorem dX12_partsOf_87 : decode cX12_partsOf 87 = .ok (.if_icmp .ge 39, 3) := by decide +kernel
theorem dX12_partsOf_90 : decode cX12_partsOf 90 = .ok (.aload_n 0, 1) := by decide +kernel
theorem dX12_partsOf_91 : decode cX12_partsOf 91 = .ok (.iload_n 3, 1) := by decide +kernel
theorem dX12_partsOf_92 : decode cX12_partsOf 92 = .ok (.iload 4, 2) := by decide +kernel
theorem dX12_partsOf_94 : decode cX12_partsOf 94 = .ok (.invokevirtual 203, 3) := by decide +kernel
theorem dX12_partsOf_97 : decode cX12_partsOf 97 = .ok (.ifCond .eq 23, 3) := by decide +kernel
theorem dX12_partsOf_100 : decode cX12_partsOf 100 = .ok (.iload_n 2, 1) := by decide +kernel
theorem dX12_partsOf_101 : decode cX12_partsOf 101 = .ok (.ifCond .ne 7, 3) := by decide +kernel
theorem dX12_partsOf_104 : decode cX12_partsOf 104 = .ok (.iconst 2, 1) := by decide +kernel
theorem dX12_partsOf_105 : decode cX12_partsOf 105 = .ok (.goto 14, 3) := by decide +kernel
theorem dX12_partsOf_108 : decode cX12_partsOf 108 = .ok (.iload_n 2, 1) := by decide +kernel
theorem dX12_partsOf_109 : decode cX12_partsOf 109 = .ok (.iconst 1, 1) := by decide +kernel
theorem dX12_partsOf_110 : decode cX12_partsOf 110 = .ok (.if_icmp .ne 7, 3) := by decide +kernel
theorem dX12_partsOf_113 : decode cX12_partsOf 113 = .ok (.iload_n 3, 1) := by decide +kernel
theorem dX12_partsOf_114 : decode cX12_partsOf 114 = .ok (.goto 5, 3) := by decide +kernel
theorem dX12_partsOf_117 : decode cX12_partsOf 117 = .ok (.iload 4, 2) := by decide +kernel
theorem dX12_partsOf_119 : decode cX12_partsOf 119 = .ok (.ireturn, 1) := by decide +kernel
theorem dX12_partsOf_120 : decode cX12_partsOf 120 = .ok (.iinc 4 1, 3) := by decide +kernel
theorem dX12_partsOf_123 : decode cX12_partsOf 123 = .ok (.goto (-42), 3) := by decide +kernel
theorem dX12_partsOf_126 : decode cX12_partsOf 126 = .ok (.iinc 3 1, 3) := by decide +kernel
theorem dX12_partsOf_129 : decode cX12_partsOf 129 = .ok (.goto (-61), 3) := by decide +kernel
theorem dX12_partsOf_132 : decode cX12_partsOf 132 = .ok (.iconst (-1), 1) := by decide +kernel
theorem dX12_partsOf_133 : decode cX12_partsOf 133 = .ok (.ireturn, 1) := by decide +kernel
theorem dX12_parts_0 : decode cX12_parts 0 = .ok (.aload_n 0, 1) := by decide +kernel
theorem dX12_parts_1 : decode cX12_parts 1 = .ok (.iload_n 1, 1) := by decide +kernel
theorem dX12_parts_2 : decode cX12_parts 2 = .ok (.invokevirtual 110, 3) := by decide +kernel
theorem dX12_parts_5 : decode cX12_parts 5 = .ok (.ifCond .ne 6, 3) := by decide +kernel
theorem dX12_parts_8 : decode cX12_parts 8 = .ok (.bipush (-101), 2) := by decide +kernel
theorem dX12_parts_10 : decode cX12_parts 10 = .ok (.ireturn, 1) := by decide +kernel
theorem dX12_parts_11 : decode cX12_parts 11 = .ok (.iload_n 2, 1) := by decide +kernel
theorem dX12_parts_12 : decode cX12_parts 12 = .ok (.i2l, 1) := by decide +kernel
theorem dX12_parts_13 : decode cX12_parts 13 = .ok (.lconst 0, 1) := by decide +kernel
theorem dX12_parts_14 : decode cX12_parts 14 = .ok (.ldc2_w 159, 3) := by decide +kernel
theorem dX12_parts_17 : decode cX12_parts 17 = .ok (.invokestatic 46, 3) := by decide +kernel
theorem dX12_parts_20 : decode cX12_parts 20 = .ok (.ifCond .ne 6, 3) := by decide +kernel
theorem dX12_parts_23 : decode cX12_parts 23 = .ok (.bipush (-102), 2) := by decide +kernel
theorem dX12_parts_25 : decode cX12_parts 25 = .ok (.ireturn, 1) := by decide +kernel
theorem dX12_parts_26 : decode cX12_parts 26 = .ok (.aload_n 0, 1) := by decide +kernel
theorem dX12_parts_27 : decode cX12_parts 27 = .ok (.getfield 90, 3) := by decide +kernel
theorem dX12_parts_30 : decode cX12_parts 30 = .ok (.bipush 64, 2) := by decide +kernel
theorem dX12_parts_32 : decode cX12_parts 32 = .ok (.if_icmp .gt 12, 3) := by decide +kernel
theorem dX12_parts_35 : decode cX12_parts 35 = .ok (.aload_n 0, 1) := by decide +kernel
theorem dX12_parts_36 : decode cX12_parts 36 = .ok (.getfield 207, 3) := by decide +kernel
theorem dX12_parts_39 : decode cX12_parts 39 = .ok (.bipush 9, 2) := by decide +kernel
theorem dX12_parts_41 : decode cX12_parts 41 = .ok (.if_icmp .ne 6, 3) := by decide +kernel
theorem dX12_parts_44 : decode cX12_parts 44 = .ok (.bipush (-103), 2) := by decide +kernel
theorem dX12_parts_46 : decode cX12_parts 46 = .ok (.ireturn, 1) := by decide +kernel
theorem dX12_parts_47 : decode cX12_parts 47 = .ok (.aload_n 0, 1) := by decide +kernel
theorem dX12_parts_48 : decode cX12_parts 48 = .ok (.dup, 1) := by decide +kernel
theorem dX12_parts_49 : decode cX12_parts 49 = .ok (.getfield 207, 3) := by decide +kernel
theorem dX12_parts_52 : decode cX12_parts 52 = .ok (.iconst 1, 1) := by decide +kernel
theorem dX12_parts_53 : decode cX12_parts 53 = .ok (.iadd, 1) := by decide +kernel
theorem dX12_parts_54 : decode cX12_parts 54 = .ok (.putfield 207, 3) := by decide +kernel
theorem dX12_parts_57 : decode cX12_parts 57 = .ok (.aload_n 0, 1) := by decide +kernel
theorem dX12_parts_58 : decode cX12_parts 58 = .ok (.aload_n 0, 1) := by decide +kernel
theorem dX12_parts_59 : decode cX12_parts 59 = .ok (.getfield 13, 3) := by decide +kernel
theorem dX12_parts_62 : decode cX12_parts 62 = .ok (.iload_n 1, 1) := by decide +kernel
theorem dX12_parts_63 : decode cX12_parts 63 = .ok (.iaload, 1) := by decide +kernel
theorem dX12_parts_64 : decode cX12_parts 64 = .ok (.iload_n 2, 1) := by decide +kernel
theorem dX12_parts_65 : decode cX12_parts 65 = .ok (.invokevirtual 210, 3) := by decide +kernel
theorem dX12_parts_68 : decode cX12_parts 68 = .ok (.ireturn, 1) := by decide +kernel
theorem dX12_sortsOf_0 : decode cX12_sortsOf 0 = .ok (.iconst 0, 1) := by decide +kernel
theorem dX12_sortsOf_1 : decode cX12_sortsOf 1 = .ok (.istore_n 2, 1) := by decide +kernel
theorem dX12_sortsOf_2 : decode cX12_sortsOf 2 = .ok (.iconst 0, 1) := by decide +kernel
theorem dX12_sortsOf_3 : decode cX12_sortsOf 3 = .ok (.istore_n 3, 1) := by decide +kernel
theorem dX12_sortsOf_4 : decode cX12_sortsOf 4 = .ok (.iload_n 3, 1) := by decide +kernel
theorem dX12_sortsOf_5 : decode cX12_sortsOf 5 = .ok (.iconst 5, 1) := by decide +kernel
theorem dX12_sortsOf_6 : decode cX12_sortsOf 6 = .ok (.if_icmp .ge 100, 3) := by decide +kernel
theorem dX12_sortsOf_9 : decode cX12_sortsOf 9 = .ok (.iconst 1, 1) := by decide +kernel
theorem dX12_sortsOf_10 : decode cX12_sortsOf 10 = .ok (.istore 4, 2) := by decide +kernel
theorem dX12_sortsOf_12 : decode cX12_sortsOf 12 = .ok (.iconst 0, 1) := by decide +kernel
theorem dX12_sortsOf_13 : decode cX12_sortsOf 13 = .ok (.istore 5, 2) := by decide +kernel
theorem dX12_sortsOf_15 : decode cX12_sortsOf 15 = .ok (.iload 5, 2) := by decide +kernel
theorem dX12_sortsOf_17 : decode cX12_sortsOf 17 = .ok (.iconst 3, 1) := by decide +kernel
theorem dX12_sortsOf_18 : decode cX12_sortsOf 18 = .ok (.aload_n 0, 1) := by decide +kernel
theorem dX12_sortsOf_19 : decode cX12_sortsOf 19 = .ok (.getfield 93, 3) := by decide +kernel
theorem dX12_sortsOf_22 : decode cX12_sortsOf 22 = .ok (.imul, 1) := by decide +kernel
theorem dX12_sortsOf_23 : decode cX12_sortsOf 23 = .ok (.if_icmp .ge 62, 3) := by decide +kernel
theorem dX12_sortsOf_26 : decode cX12_sortsOf 26 = .ok (.iload 4, 2) := by decide +kernel
theorem dX12_sortsOf_28 : decode cX12_sortsOf 28 = .ok (.ifCond .eq 48, 3) := by decide +kernel
theorem dX12_sortsOf_31 : decode cX12_sortsOf 31 = .ok (.aload_n 0, 1) := by decide +kernel
theorem dX12_sortsOf_32 : decode cX12_sortsOf 32 = .ok (.getfield 16, 3) := by decide +kernel
theorem dX12_sortsOf_35 : decode cX12_sortsOf 35 = .ok (.iload 5, 2) := by decide +kernel
theorem dX12_sortsOf_37 : decode cX12_sortsOf 37 = .ok (.iconst 1, 1) := by decide +kernel
theorem dX12_sortsOf_38 : decode cX12_sortsOf 38 = .ok (.iadd, 1) := by decide +kernel
theorem dX12_sortsOf_39 : decode cX12_sortsOf 39 = .ok (.iaload, 1) := by decide +kernel
theorem dX12_sortsOf_40 : decode cX12_sortsOf 40 = .ok (.iload_n 1, 1) := by decide +kernel
theorem dX12_sortsOf_41 : decode cX12_sortsOf 41 = .ok (.if_icmp .ne 31, 3) := by decide +kernel
theorem dX12_sortsOf_44 : decode cX12_sortsOf 44 = .ok (.aload_n 0, 1) := by decide +kernel
theorem dX12_sortsOf_45 : decode cX12_sortsOf 45 = .ok (.iload_n 3, 1) := by decide +kernel
theorem dX12_sortsOf_46 : decode cX12_sortsOf 46 = .ok (.aload_n 0, 1) := by decide +kernel
theorem dX12_sortsOf_47 : decode cX12_sortsOf 47 = .ok (.getfield 16, 3) := by decide +kernel
theorem dX12_sortsOf_50 : decode cX12_sortsOf 50 = .ok (.iload 5, 2) := by decide +kernel
theorem dX12_sortsOf_52 : decode cX12_sortsOf 52 = .ok (.iaload, 1) := by decide +kernel
theorem dX12_sortsOf_53 : decode cX12_sortsOf 53 = .ok (.aload_n 0, 1) := by decide +kernel
theorem dX12_sortsOf_54 : decode cX12_sortsOf 54 = .ok (.getfield 41, 3) := by decide +kernel
theorem dX12_sortsOf_57 : decode cX12_sortsOf 57 = .ok (.invokevirtual 116, 3) := by decide +kernel
theorem dX12_sortsOf_60 : decode cX12_sortsOf 60 = .ok (.aload_n 0, 1) := by decide +kernel
theorem dX12_sortsOf_61 : decode cX12_sortsOf 61 = .ok (.getfield 16, 3) := by decide +kernel
theorem dX12_sortsOf_64 : decode cX12_sortsOf 64 = .ok (.iload 5, 2) := by decide +kernel
theorem dX12_sortsOf_66 : decode cX12_sortsOf 66 = .ok (.iconst 2, 1) := by decide +kernel
theorem dX12_sortsOf_67 : decode cX12_sortsOf 67 = .ok (.iadd, 1) := by decide +kernel
theorem dX12_sortsOf_68 : decode cX12_sortsOf 68 = .ok (.iaload, 1) := by decide +kernel
theorem dX12_sortsOf_69 : decode cX12_sortsOf 69 = .ok (.if_icmp .ne 7, 3) := by decide +kernel
theorem dX12_sortsOf_72 : decode cX12_sortsOf 72 = .ok (.iconst 1, 1) := by decide +kernel
theorem dX12_sortsOf_73 : decode cX12_sortsOf 73 = .ok (.goto 4, 3) := by decide +kernel
theorem dX12_sortsOf_76 : decode cX12_sortsOf 76 = .ok (.iconst 0, 1) := by decide +kernel
theorem dX12_sortsOf_77 : decode cX12_sortsOf 77 = .ok (.istore 4, 2) := by decide +kernel
theorem dX12_sortsOf_79 : decode cX12_sortsOf 79 = .ok (.iinc 5 3, 3) := by decide +kernel
theorem dX12_sortsOf_82 : decode cX12_sortsOf 82 = .ok (.goto (-67), 3) := by decide +kernel
theorem dX12_sortsOf_85 : decode cX12_sortsOf 85 = .ok (.iload_n 2, 1) := by decide +kernel
theorem dX12_sortsOf_86 : decode cX12_sortsOf 86 = .ok (.iload 4, 2) := by decide +kernel
theorem dX12_sortsOf_88 : decode cX12_sortsOf 88 = .ok (.ifCond .eq 9, 3) := by decide +kernel
theorem dX12_sortsOf_91 : decode cX12_sortsOf 91 = .ok (.iconst 1, 1) := by decide +kernel
theorem dX12_sortsOf_92 : decode cX12_sortsOf 92 = .ok (.iload_n 3, 1) := by decide +kernel
theorem dX12_sortsOf_93 : decode cX12_sortsOf 93 = .ok (.ishl, 1) := by decide +kernel
theorem dX12_sortsOf_94 : decode cX12_sortsOf 94 = .ok (.goto 4, 3) := by decide +kernel
theorem dX12_sortsOf_97 : decode cX12_sortsOf 97 = .ok (.iconst 0, 1) := by decide +kernel
theorem dX12_sortsOf_98 : decode cX12_sortsOf 98 = .ok (.ior, 1) := by decide +kernel
theorem dX12_sortsOf_99 : decode cX12_sortsOf 99 = .ok (.istore_n 2, 1) := by decide +kernel
theorem dX12_sortsOf_100 : decode cX12_sortsOf 100 = .ok (.iinc 3 1, 3) := by decide +kernel
theorem dX12_sortsOf_103 : decode cX12_sortsOf 103 = .ok (.goto (-99), 3) := by decide +kernel
theorem dX12_sortsOf_106 : decode cX12_sortsOf 106 = .ok (.iload_n 2, 1) := by decide +kernel
theorem dX12_sortsOf_107 : decode cX12_sortsOf 107 = .ok (.ireturn, 1) := by decide +kernel
theorem dX12_testOf_0 : decode cX12_testOf 0 = .ok (.aload_n 0, 1) := by decide +kernel
theorem dX12_testOf_1 : decode cX12_testOf 1 = .ok (.iload_n 1, 1) := by decide +kernel
theorem dX12_testOf_2 : decode cX12_testOf 2 = .ok (.invokevirtual 142, 3) := by decide +kernel
theorem dX12_testOf_5 : decode cX12_testOf 5 = .ok (.istore_n 2, 1) := by decide +kernel
theorem dX12_testOf_6 : decode cX12_testOf 6 = .ok (.iconst (-1), 1) := by decide +kernel
theorem dX12_testOf_7 : decode cX12_testOf 7 = .ok (.istore_n 3, 1) := by decide +kernel
theorem dX12_testOf_8 : decode cX12_testOf 8 = .ok (.bipush 6, 2) := by decide +kernel
theorem dX12_testOf_10 : decode cX12_testOf 10 = .ok (.istore 4, 2) := by decide +kernel
theorem dX12_testOf_12 : decode cX12_testOf 12 = .ok (.iconst 0, 1) := by decide +kernel
theorem dX12_testOf_13 : decode cX12_testOf 13 = .ok (.istore 5, 2) := by decide +kernel
theorem dX12_testOf_15 : decode cX12_testOf 15 = .ok (.iload 5, 2) := by decide +kernel
theorem dX12_testOf_17 : decode cX12_testOf 17 = .ok (.aload_n 0, 1) := by decide +kernel
theorem dX12_testOf_18 : decode cX12_testOf 18 = .ok (.getfield 90, 3) := by decide +kernel
theorem dX12_testOf_21 : decode cX12_testOf 21 = .ok (.if_icmp .ge 147, 3) := by decide +kernel
theorem dX12_testOf_24 : decode cX12_testOf 24 = .ok (.iload_n 2, 1) := by decide +kernel
theorem dX12_testOf_25 : decode cX12_testOf 25 = .ok (.ifCond .eq 143, 3) := by decide +kernel
theorem dX12_testOf_28 : decode cX12_testOf 28 = .ok (.iconst 0, 1) := by decide +kernel
theorem dX12_testOf_29 : decode cX12_testOf 29 = .ok (.istore 6, 2) := by decide +kernel
theorem dX12_testOf_31 : decode cX12_testOf 31 = .ok (.iconst 0, 1) := by decide +kernel
theorem dX12_testOf_32 : decode cX12_testOf 32 = .ok (.istore 7, 2) := by decide +kernel
theorem dX12_testOf_34 : decode cX12_testOf 34 = .ok (.iload 7, 2) := by decide +kernel
theorem dX12_testOf_36 : decode cX12_testOf 36 = .ok (.iconst 5, 1) := by decide +kernel
theorem dX12_testOf_37 : decode cX12_testOf 37 = .ok (.if_icmp .ge 95, 3) := by decide +kernel
theorem dX12_testOf_40 : decode cX12_testOf 40 = .ok (.iconst 0, 1) := by decide +kernel
theorem dX12_testOf_41 : decode cX12_testOf 41 = .ok (.istore 8, 2) := by decide +kernel
theorem dX12_testOf_43 : decode cX12_testOf 43 = .ok (.iconst 0, 1) := by decide +kernel
theorem dX12_testOf_44 : decode cX12_testOf 44 = .ok (.istore 9, 2) := by decide +kernel
theorem dX12_testOf_46 : decode cX12_testOf 46 = .ok (.iload 9, 2) := by decide +kernel
theorem dX12_testOf_48 : decode cX12_testOf 48 = .ok (.iconst 5, 1) := by decide +kernel
theorem dX12_testOf_49 : decode cX12_testOf 49 = .ok (.if_icmp .ge 51, 3) := by decide +kernel
theorem dX12_testOf_52 : decode cX12_testOf 52 = .ok (.iload 8, 2) := by decide +kernel
theorem dX12_testOf_54 : decode cX12_testOf 54 = .ok (.aload_n 0, 1) := by decide +kernel
theorem dX12_testOf_55 : decode cX12_testOf 55 = .ok (.iload 9, 2) := by decide +kernel
theorem dX12_testOf_57 : decode cX12_testOf 57 = .ok (.iload 5, 2) := by decide +kernel
theorem dX12_testOf_59 : decode cX12_testOf 59 = .ok (.aload_n 0, 1) := by decide +kernel
theorem dX12_testOf_60 : decode cX12_testOf 60 = .ok (.getfield 41, 3) := by decide +kernel
theorem dX12_testOf_63 : decode cX12_testOf 63 = .ok (.invokevirtual 116, 3) := by decide +kernel
theorem dX12_testOf_66 : decode cX12_testOf 66 = .ok (.aload_n 0, 1) := by decide +kernel
theorem dX12_testOf_67 : decode cX12_testOf 67 = .ok (.iload 7, 2) := by decide +kernel
theorem dX12_testOf_69 : decode cX12_testOf 69 = .ok (.iload 5, 2) := by decide +kernel
theorem dX12_testOf_71 : decode cX12_testOf 71 = .ok (.aload_n 0, 1) := by decide +kernel
theorem dX12_testOf_72 : decode cX12_testOf 72 = .ok (.getfield 41, 3) := by decide +kernel
theorem dX12_testOf_75 : decode cX12_testOf 75 = .ok (.invokevirtual 116, 3) := by decide +kernel
theorem dX12_testOf_78 : decode cX12_testOf 78 = .ok (.if_icmp .ne 12, 3) := by decide +kernel
theorem dX12_testOf_81 : decode cX12_testOf 81 = .ok (.iload_n 2, 1) := by decide +kernel
theorem dX12_testOf_82 : decode cX12_testOf 82 = .ok (.iload 9, 2) := by decide +kernel
theorem dX12_testOf_84 : decode cX12_testOf 84 = .ok (.ishr, 1) := by decide +kernel
theorem dX12_testOf_85 : decode cX12_testOf 85 = .ok (.iconst 1, 1) := by decide +kernel
theorem dX12_testOf_86 : decode cX12_testOf 86 = .ok (.iand, 1) := by decide +kernel
theorem dX12_testOf_87 : decode cX12_testOf 87 = .ok (.goto 4, 3) := by decide +kernel
theorem dX12_testOf_90 : decode cX12_testOf 90 = .ok (.iconst 0, 1) := by decide +kernel
theorem dX12_testOf_91 : decode cX12_testOf 91 = .ok (.iadd, 1) := by decide +kernel
theorem dX12_testOf_92 : decode cX12_testOf 92 = .ok (.istore 8, 2) := by decide +kernel
theorem dX12_testOf_94 : decode cX12_testOf 94 = .ok (.iinc 9 1, 3) := by decide +kernel
theorem dX12_testOf_97 : decode cX12_testOf 97 = .ok (.goto (-51), 3) := by decide +kernel
theorem dX12_testOf_100 : decode cX12_testOf 100 = .ok (.iload_n 2, 1) := by decide +kernel
theorem dX12_testOf_101 : decode cX12_testOf 101 = .ok (.iload 7, 2) := by decide +kernel
theorem dX12_testOf_103 : decode cX12_testOf 103 = .ok (.ishr, 1) := by decide +kernel
theorem dX12_testOf_104 : decode cX12_testOf 104 = .ok (.iconst 1, 1) := by decide +kernel
theorem dX12_testOf_105 : decode cX12_testOf 105 = .ok (.iand, 1) := by decide +kernel
theorem dX12_testOf_106 : decode cX12_testOf 106 = .ok (.iconst 1, 1) := by decide +kernel
theorem dX12_testOf_107 : decode cX12_testOf 107 = .ok (.if_icmp .ne 15, 3) := by decide +kernel
theorem dX12_testOf_110 : decode cX12_testOf 110 = .ok (.iload 8, 2) := by decide +kernel
theorem dX12_testOf_112 : decode cX12_testOf 112 = .ok (.iload 6, 2) := by decide +kernel
theorem dX12_testOf_114 : decode cX12_testOf 114 = .ok (.if_icmp .le 8, 3) := by decide +kernel
theorem dX12_testOf_117 : decode cX12_testOf 117 = .ok (.iload 8, 2) := by decide +kernel
theorem dX12_testOf_119 : decode cX12_testOf 119 = .ok (.goto 5, 3) := by decide +kernel
theorem dX12_testOf_122 : decode cX12_testOf 122 = .ok (.iload 6, 2) := by decide +kernel
theorem dX12_testOf_124 : decode cX12_testOf 124 = .ok (.istore 6, 2) := by decide +kernel
theorem dX12_testOf_126 : decode cX12_testOf 126 = .ok (.iinc 7 1, 3) := by decide +kernel
theorem dX12_testOf_129 : decode cX12_testOf 129 = .ok (.goto (-95), 3) := by decide +kernel
theorem dX12_testOf_132 : decode cX12_testOf 132 = .ok (.iload 6, 2) := by decide +kernel
theorem dX12_testOf_134 : decode cX12_testOf 134 = .ok (.iload 4, 2) := by decide +kernel
theorem dX12_testOf_136 : decode cX12_testOf 136 = .ok (.if_icmp .ge 8, 3) := by decide +kernel
theorem dX12_testOf_139 : decode cX12_testOf 139 = .ok (.iload 5, 2) := by decide +kernel
theorem dX12_testOf_141 : decode cX12_testOf 141 = .ok (.goto 4, 3) := by decide +kernel
theorem dX12_testOf_144 : decode cX12_testOf 144 = .ok (.iload_n 3, 1) := by decide +kernel
theorem dX12_testOf_145 : decode cX12_testOf 145 = .ok (.istore_n 3, 1) := by decide +kernel
theorem dX12_testOf_146 : decode cX12_testOf 146 = .ok (.iload 6, 2) := by decide +kernel
theorem dX12_testOf_148 : decode cX12_testOf 148 = .ok (.iload 4, 2) := by decide +kernel
theorem dX12_testOf_150 : decode cX12_testOf 150 = .ok (.if_icmp .ge 8, 3) := by decide +kernel
theorem dX12_testOf_153 : decode cX12_testOf 153 = .ok (.iload 6, 2) := by decide +kernel
theorem dX12_testOf_155 : decode cX12_testOf 155 = .ok (.goto 5, 3) := by decide +kernel
theorem dX12_testOf_158 : decode cX12_testOf 158 = .ok (.iload 4, 2) := by decide +kernel
theorem dX12_testOf_160 : decode cX12_testOf 160 = .ok (.istore 4, 2) := by decide +kernel
theorem dX12_testOf_162 : decode cX12_testOf 162 = .ok (.iinc 5 1, 3) := by decide +kernel
theorem dX12_testOf_165 : decode cX12_testOf 165 = .ok (.goto (-150), 3) := by decide +kernel
theorem dX12_testOf_168 : decode cX12_testOf 168 = .ok (.iload_n 3, 1) := by decide +kernel
theorem dX12_testOf_169 : decode cX12_testOf 169 = .ok (.ireturn, 1) := by decide +kernel
theorem dX12_draw_0 : decode cX12_draw 0 = .ok (.aload_n 0, 1) := by decide +kernel
theorem dX12_draw_1 : decode cX12_draw 1 = .ok (.ldc2_w 213, 3) := by decide +kernel
theorem dX12_draw_4 : decode cX12_draw 4 = .ok (.aload_n 0, 1) := by decide +kernel
theorem dX12_draw_5 : decode cX12_draw 5 = .ok (.getfield 215, 3) := by decide +kernel
theorem dX12_draw_8 : decode cX12_draw 8 = .ok (.i2l, 1) := by decide +kernel
theorem dX12_draw_9 : decode cX12_draw 9 = .ok (.lmul, 1) := by decide +kernel
theorem dX12_draw_10 : decode cX12_draw 10 = .ok (.ldc2_w 218, 3) := by decide +kernel
theorem dX12_draw_13 : decode cX12_draw 13 = .ok (.ladd, 1) := by decide +kernel
theorem dX12_draw_14 : decode cX12_draw 14 = .ok (.ldc2_w 220, 3) := by decide +kernel
theorem dX12_draw_17 : decode cX12_draw 17 = .ok (.land, 1) := by decide +kernel
theorem dX12_draw_18 : decode cX12_draw 18 = .ok (.l2i, 1) := by decide +kernel
theorem dX12_draw_19 : decode cX12_draw 19 = .ok (.putfield 215, 3) := by decide +kernel
theorem dX12_draw_22 : decode cX12_draw 22 = .ok (.aload_n 0, 1) := by decide +kernel
theorem dX12_draw_23 : decode cX12_draw 23 = .ok (.getfield 215, 3) := by decide +kernel
theorem dX12_draw_26 : decode cX12_draw 26 = .ok (.ldc 222, 2) := by decide +kernel
theorem dX12_draw_28 : decode cX12_draw 28 = .ok (.idiv, 1) := by decide +kernel
theorem dX12_draw_29 : decode cX12_draw 29 = .ok (.iload_n 1, 1) := by decide +kernel
theorem dX12_draw_30 : decode cX12_draw 30 = .ok (.irem, 1) := by decide +kernel
theorem dX12_draw_31 : decode cX12_draw 31 = .ok (.ireturn, 1) := by decide +kernel
theorem dX12_soManieth_0 : decode cX12_soManieth 0 = .ok (.iload_n 1, 1) := by decide +kernel
theorem dX12_soManieth_1 : decode cX12_soManieth 1 = .ok (.istore_n 2, 1) := by decide +kernel
theorem dX12_soManieth_2 : decode cX12_soManieth 2 = .ok (.iconst 0, 1) := by decide +kernel
theorem dX12_soManieth_3 : decode cX12_soManieth 3 = .ok (.istore_n 3, 1) := by decide +kernel
theorem dX12_soManieth_4 : decode cX12_soManieth 4 = .ok (.aload_n 0, 1) := by decide +kernel
theorem dX12_soManieth_5 : decode cX12_soManieth 5 = .ok (.getfield 19, 3) := by decide +kernel
theorem dX12_soManieth_8 : decode cX12_soManieth 8 = .ok (.iload_n 3, 1) := by decide +kernel
theorem dX12_soManieth_9 : decode cX12_soManieth 9 = .ok (.iaload, 1) := by decide +kernel
theorem dX12_soManieth_10 : decode cX12_soManieth 10 = .ok (.ifCond .eq 7, 3) := by decide +kernel
theorem dX12_soManieth_13 : decode cX12_soManieth 13 = .ok (.iload_n 2, 1) := by decide +kernel
theorem dX12_soManieth_14 : decode cX12_soManieth 14 = .ok (.ifCond .le 18, 3) := by decide +kernel
theorem dX12_soManieth_17 : decode cX12_soManieth 17 = .ok (.iload_n 2, 1) := by decide +kernel
theorem dX12_soManieth_18 : decode cX12_soManieth 18 = .ok (.aload_n 0, 1) := by decide +kernel
theorem dX12_soManieth_19 : decode cX12_soManieth 19 = .ok (.getfield 19, 3) := by decide +kernel
theorem dX12_soManieth_22 : decode cX12_soManieth 22 = .ok (.iload_n 3, 1) := by decide +kernel
theorem dX12_soManieth_23 : decode cX12_soManieth 23 = .ok (.iaload, 1) := by decide +kernel
theorem dX12_soManieth_24 : decode cX12_soManieth 24 = .ok (.isub, 1) := by decide +kernel
theorem dX12_soManieth_25 : decode cX12_soManieth 25 = .ok (.istore_n 2, 1) := by decide +kernel
theorem dX12_soManieth_26 : decode cX12_soManieth 26 = .ok (.iinc 3 1, 3) := by decide +kernel
theorem dX12_soManieth_29 : decode cX12_soManieth 29 = .ok (.goto (-25), 3) := by decide +kernel
theorem dX12_soManieth_32 : decode cX12_soManieth 32 = .ok (.iload_n 3, 1) := by decide +kernel
theorem dX12_soManieth_33 : decode cX12_soManieth 33 = .ok (.ireturn, 1) := by decide +kernel
theorem dX12_tryOne_0 : decode cX12_tryOne 0 = .ok (.aload_n 0, 1) := by decide +kernel
theorem dX12_tryOne_1 : decode cX12_tryOne 1 = .ok (.aload_n 0, 1) := by decide +kernel
theorem dX12_tryOne_2 : decode cX12_tryOne 2 = .ok (.getfield 90, 3) := by decide +kernel
theorem dX12_tryOne_5 : decode cX12_tryOne 5 = .ok (.invokevirtual 223, 3) := by decide +kernel
theorem dX12_tryOne_8 : decode cX12_tryOne 8 = .ok (.istore_n 2, 1) := by decide +kernel
theorem dX12_tryOne_9 : decode cX12_tryOne 9 = .ok (.iconst 0, 1) := by decide +kernel
theorem dX12_tryOne_10 : decode cX12_tryOne 10 = .ok (.istore_n 3, 1) := by decide +kernel
theorem dX12_tryOne_11 : decode cX12_tryOne 11 = .ok (.iload_n 3, 1) := by decide +kernel
theorem dX12_tryOne_12 : decode cX12_tryOne 12 = .ok (.aload_n 0, 1) := by decide +kernel
theorem dX12_tryOne_13 : decode cX12_tryOne 13 = .ok (.getfield 90, 3) := by decide +kernel
theorem dX12_tryOne_16 : decode cX12_tryOne 16 = .ok (.if_icmp .ge 16, 3) := by decide +kernel
theorem dX12_tryOne_19 : decode cX12_tryOne 19 = .ok (.aload_n 0, 1) := by decide +kernel
theorem dX12_tryOne_20 : decode cX12_tryOne 20 = .ok (.getfield 19, 3) := by decide +kernel
theorem dX12_tryOne_23 : decode cX12_tryOne 23 = .ok (.iload_n 3, 1) := by decide +kernel
theorem dX12_tryOne_24 : decode cX12_tryOne 24 = .ok (.iconst 1, 1) := by decide +kernel
theorem dX12_tryOne_25 : decode cX12_tryOne 25 = .ok (.iastore, 1) := by decide +kernel
theorem dX12_tryOne_26 : decode cX12_tryOne 26 = .ok (.iinc 3 1, 3) := by decide +kernel
theorem dX12_tryOne_29 : decode cX12_tryOne 29 = .ok (.goto (-18), 3) := by decide +kernel
theorem dX12_tryOne_32 : decode cX12_tryOne 32 = .ok (.iconst 0, 1) := by decide +kernel
theorem dX12_tryOne_33 : decode cX12_tryOne 33 = .ok (.istore_n 3, 1) := by decide +kernel
theorem dX12_tryOne_34 : decode cX12_tryOne 34 = .ok (.iconst (-1), 1) := by decide +kernel
theorem dX12_tryOne_35 : decode cX12_tryOne 35 = .ok (.istore 4, 2) := by decide +kernel
theorem dX12_tryOne_37 : decode cX12_tryOne 37 = .ok (.iload 4, 2) := by decide +kernel
theorem dX12_tryOne_39 : decode cX12_tryOne 39 = .ok (.iload_n 2, 1) := by decide +kernel
theorem dX12_tryOne_40 : decode cX12_tryOne 40 = .ok (.if_icmp .eq 95, 3) := by decide +kernel
theorem dX12_tryOne_43 : decode cX12_tryOne 43 = .ok (.aload_n 0, 1) := by decide +kernel
theorem dX12_tryOne_44 : decode cX12_tryOne 44 = .ok (.aload_n 0, 1) := by decide +kernel
theorem dX12_tryOne_45 : decode cX12_tryOne 45 = .ok (.aload_n 0, 1) := by decide +kernel
theorem dX12_tryOne_46 : decode cX12_tryOne 46 = .ok (.invokevirtual 126, 3) := by decide +kernel
theorem dX12_tryOne_49 : decode cX12_tryOne 49 = .ok (.invokevirtual 223, 3) := by decide +kernel
theorem dX12_tryOne_52 : decode cX12_tryOne 52 = .ok (.invokevirtual 226, 3) := by decide +kernel
theorem dX12_tryOne_55 : decode cX12_tryOne 55 = .ok (.istore 4, 2) := by decide +kernel
theorem dX12_tryOne_57 : decode cX12_tryOne 57 = .ok (.iinc 3 1, 3) := by decide +kernel
theorem dX12_tryOne_60 : decode cX12_tryOne 60 = .ok (.aload_n 0, 1) := by decide +kernel
theorem dX12_tryOne_61 : decode cX12_tryOne 61 = .ok (.iload_n 1, 1) := by decide +kernel
theorem dX12_tryOne_62 : decode cX12_tryOne 62 = .ok (.iload 4, 2) := by decide +kernel
theorem dX12_tryOne_64 : decode cX12_tryOne 64 = .ok (.iload_n 2, 1) := by decide +kernel
theorem dX12_tryOne_65 : decode cX12_tryOne 65 = .ok (.invokevirtual 116, 3) := by decide +kernel
theorem dX12_tryOne_68 : decode cX12_tryOne 68 = .ok (.istore 5, 2) := by decide +kernel
theorem dX12_tryOne_70 : decode cX12_tryOne 70 = .ok (.iconst 0, 1) := by decide +kernel
theorem dX12_tryOne_71 : decode cX12_tryOne 71 = .ok (.istore 6, 2) := by decide +kernel
theorem dX12_tryOne_73 : decode cX12_tryOne 73 = .ok (.iload 6, 2) := by decide +kernel
theorem dX12_tryOne_75 : decode cX12_tryOne 75 = .ok (.aload_n 0, 1) := by decide +kernel
theorem dX12_tryOne_76 : decode cX12_tryOne 76 = .ok (.getfield 90, 3) := by decide +kernel
theorem dX12_tryOne_79 : decode cX12_tryOne 79 = .ok (.if_icmp .ge 53, 3) := by decide +kernel
theorem dX12_tryOne_82 : decode cX12_tryOne 82 = .ok (.aload_n 0, 1) := by decide +kernel
theorem dX12_tryOne_83 : decode cX12_tryOne 83 = .ok (.getfield 19, 3) := by decide +kernel
theorem dX12_tryOne_86 : decode cX12_tryOne 86 = .ok (.iload 6, 2) := by decide +kernel
theorem dX12_tryOne_88 : decode cX12_tryOne 88 = .ok (.aload_n 0, 1) := by decide +kernel
theorem dX12_tryOne_89 : decode cX12_tryOne 89 = .ok (.getfield 19, 3) := by decide +kernel
theorem dX12_tryOne_92 : decode cX12_tryOne 92 = .ok (.iload 6, 2) := by decide +kernel
theorem dX12_tryOne_94 : decode cX12_tryOne 94 = .ok (.iaload, 1) := by decide +kernel
theorem dX12_tryOne_95 : decode cX12_tryOne 95 = .ok (.iconst 1, 1) := by decide +kernel
theorem dX12_tryOne_96 : decode cX12_tryOne 96 = .ok (.if_icmp .ne 28, 3) := by decide +kernel
theorem dX12_tryOne_99 : decode cX12_tryOne 99 = .ok (.iload 6, 2) := by decide +kernel
theorem dX12_tryOne_101 : decode cX12_tryOne 101 = .ok (.iload 4, 2) := by decide +kernel
theorem dX12_tryOne_103 : decode cX12_tryOne 103 = .ok (.if_icmp .eq 21, 3) := by decide +kernel
theorem dX12_tryOne_106 : decode cX12_tryOne 106 = .ok (.aload_n 0, 1) := by decide +kernel
theorem dX12_tryOne_107 : decode cX12_tryOne 107 = .ok (.iload_n 1, 1) := by decide +kernel
theorem dX12_tryOne_108 : decode cX12_tryOne 108 = .ok (.iload 4, 2) := by decide +kernel
theorem dX12_tryOne_110 : decode cX12_tryOne 110 = .ok (.iload 6, 2) := by decide +kernel
theorem dX12_tryOne_112 : decode cX12_tryOne 112 = .ok (.invokevirtual 116, 3) := by decide +kernel
theorem dX12_tryOne_115 : decode cX12_tryOne 115 = .ok (.iload 5, 2) := by decide +kernel
theorem dX12_tryOne_117 : decode cX12_tryOne 117 = .ok (.if_icmp .ne 7, 3) := by decide +kernel
theorem dX12_tryOne_120 : decode cX12_tryOne 120 = .ok (.iconst 1, 1) := by decide +kernel
theorem dX12_tryOne_121 : decode cX12_tryOne 121 = .ok (.goto 4, 3) := by decide +kernel
theorem dX12_tryOne_124 : decode cX12_tryOne 124 = .ok (.iconst 0, 1) := by decide +kernel
theorem dX12_tryOne_125 : decode cX12_tryOne 125 = .ok (.iastore, 1) := by decide +kernel
theorem dX12_tryOne_126 : decode cX12_tryOne 126 = .ok (.iinc 6 1, 3) := by decide +kernel
theorem dX12_tryOne_129 : decode cX12_tryOne 129 = .ok (.goto (-56), 3) := by decide +kernel
theorem dX12_tryOne_132 : decode cX12_tryOne 132 = .ok (.goto (-95), 3) := by decide +kernel
theorem dX12_tryOne_135 : decode cX12_tryOne 135 = .ok (.iload_n 3, 1) := by decide +kernel
theorem dX12_tryOne_136 : decode cX12_tryOne 136 = .ok (.ireturn, 1) := by decide +kernel
theorem dX12_tries_0 : decode cX12_tries 0 = .ok (.aload_n 0, 1) := by decide +kernel
theorem dX12_tries_1 : decode cX12_tries 1 = .ok (.iload_n 1, 1) := by decide +kernel
theorem dX12_tries_2 : decode cX12_tries 2 = .ok (.invokevirtual 110, 3) := by decide +kernel
theorem dX12_tries_5 : decode cX12_tries 5 = .ok (.ifCond .ne 6, 3) := by decide +kernel
theorem dX12_tries_8 : decode cX12_tries 8 = .ok (.bipush (-101), 2) := by decide +kernel
theorem dX12_tries_10 : decode cX12_tries 10 = .ok (.ireturn, 1) := by decide +kernel
theorem dX12_tries_11 : decode cX12_tries 11 = .ok (.iload_n 2, 1) := by decide +kernel
theorem dX12_tries_12 : decode cX12_tries 12 = .ok (.i2l, 1) := by decide +kernel
theorem dX12_tries_13 : decode cX12_tries 13 = .ok (.lconst 1, 1) := by decide +kernel
theorem dX12_tries_14 : decode cX12_tries 14 = .ok (.ldc2_w 229, 3) := by decide +kernel
theorem dX12_tries_17 : decode cX12_tries 17 = .ok (.invokestatic 46, 3) := by decide +kernel
theorem dX12_tries_20 : decode cX12_tries 20 = .ok (.ifCond .eq 20, 3) := by decide +kernel
theorem dX12_tries_23 : decode cX12_tries 23 = .ok (.iload_n 3, 1) := by decide +kernel
theorem dX12_tries_24 : decode cX12_tries 24 = .ok (.ifCond .lt 16, 3) := by decide +kernel
theorem dX12_tries_27 : decode cX12_tries 27 = .ok (.iload 4, 2) := by decide +kernel
theorem dX12_tries_29 : decode cX12_tries 29 = .ok (.i2l, 1) := by decide +kernel
theorem dX12_tries_30 : decode cX12_tries 30 = .ok (.lconst 0, 1) := by decide +kernel
theorem dX12_tries_31 : decode cX12_tries 31 = .ok (.ldc2_w 159, 3) := by decide +kernel
theorem dX12_tries_34 : decode cX12_tries 34 = .ok (.invokestatic 46, 3) := by decide +kernel
theorem dX12_tries_37 : decode cX12_tries 37 = .ok (.ifCond .ne 6, 3) := by decide +kernel
theorem dX12_tries_40 : decode cX12_tries 40 = .ok (.bipush (-102), 2) := by decide +kernel
theorem dX12_tries_42 : decode cX12_tries 42 = .ok (.ireturn, 1) := by decide +kernel
theorem dX12_tries_43 : decode cX12_tries 43 = .ok (.aload_n 0, 1) := by decide +kernel
theorem dX12_tries_44 : decode cX12_tries 44 = .ok (.iload_n 3, 1) := by decide +kernel
theorem dX12_tries_45 : decode cX12_tries 45 = .ok (.putfield 215, 3) := by decide +kernel
theorem dX12_tries_48 : decode cX12_tries 48 = .ok (.iconst 0, 1) := by decide +kernel
theorem dX12_tries_49 : decode cX12_tries 49 = .ok (.istore 5, 2) := by decide +kernel
theorem dX12_tries_51 : decode cX12_tries 51 = .ok (.iconst 0, 1) := by decide +kernel
theorem dX12_tries_52 : decode cX12_tries 52 = .ok (.istore 6, 2) := by decide +kernel
theorem dX12_tries_54 : decode cX12_tries 54 = .ok (.iconst 0, 1) := by decide +kernel
theorem dX12_tries_55 : decode cX12_tries 55 = .ok (.istore 7, 2) := by decide +kernel
theorem dX12_tries_57 : decode cX12_tries 57 = .ok (.iload 7, 2) := by decide +kernel
theorem dX12_tries_59 : decode cX12_tries 59 = .ok (.iload_n 2, 1) := by decide +kernel
theorem dX12_tries_60 : decode cX12_tries 60 = .ok (.if_icmp .ge 44, 3) := by decide +kernel
theorem dX12_tries_63 : decode cX12_tries 63 = .ok (.aload_n 0, 1) := by decide +kernel
theorem dX12_tries_64 : decode cX12_tries 64 = .ok (.aload_n 0, 1) := by decide +kernel
theorem dX12_tries_65 : decode cX12_tries 65 = .ok (.getfield 13, 3) := by decide +kernel
theorem dX12_tries_68 : decode cX12_tries 68 = .ok (.iload_n 1, 1) := by decide +kernel
theorem dX12_tries_69 : decode cX12_tries 69 = .ok (.iaload, 1) := by decide +kernel
theorem dX12_tries_70 : decode cX12_tries 70 = .ok (.invokevirtual 231, 3) := by decide +kernel
theorem dX12_tries_73 : decode cX12_tries 73 = .ok (.istore 8, 2) := by decide +kernel
theorem dX12_tries_75 : decode cX12_tries 75 = .ok (.iload 5, 2) := by decide +kernel
theorem dX12_tries_77 : decode cX12_tries 77 = .ok (.iload 8, 2) := by decide +kernel
theorem dX12_tries_79 : decode cX12_tries 79 = .ok (.iadd, 1) := by decide +kernel
theorem dX12_tries_80 : decode cX12_tries 80 = .ok (.istore 5, 2) := by decide +kernel
theorem dX12_tries_82 : decode cX12_tries 82 = .ok (.iload 6, 2) := by decide +kernel
theorem dX12_tries_84 : decode cX12_tries 84 = .ok (.iload 8, 2) := by decide +kernel
theorem dX12_tries_86 : decode cX12_tries 86 = .ok (.iconst 4, 1) := by decide +kernel
theorem dX12_tries_87 : decode cX12_tries 87 = .ok (.if_icmp .ge 7, 3) := by decide +kernel
theorem dX12_tries_90 : decode cX12_tries 90 = .ok (.iconst 1, 1) := by decide +kernel
theorem dX12_tries_91 : decode cX12_tries 91 = .ok (.goto 4, 3) := by decide +kernel
theorem dX12_tries_94 : decode cX12_tries 94 = .ok (.iconst 0, 1) := by decide +kernel
theorem dX12_tries_95 : decode cX12_tries 95 = .ok (.iadd, 1) := by decide +kernel
theorem dX12_tries_96 : decode cX12_tries 96 = .ok (.istore 6, 2) := by decide +kernel
theorem dX12_tries_98 : decode cX12_tries 98 = .ok (.iinc 7 1, 3) := by decide +kernel
theorem dX12_tries_101 : decode cX12_tries 101 = .ok (.goto (-44), 3) := by decide +kernel
theorem dX12_tries_104 : decode cX12_tries 104 = .ok (.iload 4, 2) := by decide +kernel
theorem dX12_tries_106 : decode cX12_tries 106 = .ok (.ifCond .ne 8, 3) := by decide +kernel
theorem dX12_tries_109 : decode cX12_tries 109 = .ok (.iload 5, 2) := by decide +kernel
theorem dX12_tries_111 : decode cX12_tries 111 = .ok (.goto 18, 3) := by decide +kernel
theorem dX12_tries_114 : decode cX12_tries 114 = .ok (.iload 4, 2) := by decide +kernel
theorem dX12_tries_116 : decode cX12_tries 116 = .ok (.iconst 1, 1) := by decide +kernel
theorem dX12_tries_117 : decode cX12_tries 117 = .ok (.if_icmp .ne 8, 3) := by decide +kernel
theorem dX12_tries_120 : decode cX12_tries 120 = .ok (.iload 6, 2) := by decide +kernel
theorem dX12_tries_122 : decode cX12_tries 122 = .ok (.goto 7, 3) := by decide +kernel
theorem dX12_tries_125 : decode cX12_tries 125 = .ok (.aload_n 0, 1) := by decide +kernel
theorem dX12_tries_126 : decode cX12_tries 126 = .ok (.getfield 215, 3) := by decide +kernel
theorem dX12_tries_129 : decode cX12_tries 129 = .ok (.ireturn, 1) := by decide +kernel
theorem dX12_image_0 : decode cX12_image 0 = .ok (.aload_n 0, 1) := by decide +kernel
theorem dX12_image_1 : decode cX12_image 1 = .ok (.invokevirtual 129, 3) := by decide +kernel
theorem dX12_image_4 : decode cX12_image 4 = .ok (.ifCond .eq 6, 3) := by decide +kernel
theorem dX12_image_7 : decode cX12_image 7 = .ok (.bipush (-103), 2) := by decide +kernel
theorem dX12_image_9 : decode cX12_image 9 = .ok (.ireturn, 1) := by decide +kernel
theorem dX12_image_10 : decode cX12_image 10 = .ok (.aload_n 0, 1) := by decide +kernel
theorem dX12_image_11 : decode cX12_image 11 = .ok (.getfield 13, 3) := by decide +kernel
theorem dX12_image_14 : decode cX12_image 14 = .ok (.aload_n 0, 1) := by decide +kernel
theorem dX12_image_15 : decode cX12_image 15 = .ok (.getfield 31, 3) := by decide +kernel
theorem dX12_image_18 : decode cX12_image 18 = .ok (.invokestatic 234, 3) := by decide +kernel
theorem dX12_image_21 : decode cX12_image 21 = .ok (.aload_n 0, 1) := by decide +kernel
theorem dX12_image_22 : decode cX12_image 22 = .ok (.getfield 16, 3) := by decide +kernel
theorem dX12_image_25 : decode cX12_image 25 = .ok (.aload_n 0, 1) := by decide +kernel
theorem dX12_image_26 : decode cX12_image 26 = .ok (.getfield 34, 3) := by decide +kernel
theorem dX12_image_29 : decode cX12_image 29 = .ok (.invokestatic 234, 3) := by decide +kernel
theorem dX12_image_32 : decode cX12_image 32 = .ok (.aload_n 0, 1) := by decide +kernel
theorem dX12_image_33 : decode cX12_image 33 = .ok (.aload_n 0, 1) := by decide +kernel
theorem dX12_image_34 : decode cX12_image 34 = .ok (.getfield 41, 3) := by decide +kernel
theorem dX12_image_37 : decode cX12_image 37 = .ok (.putfield 238, 3) := by decide +kernel
theorem dX12_image_40 : decode cX12_image 40 = .ok (.aload_n 0, 1) := by decide +kernel
theorem dX12_image_41 : decode cX12_image 41 = .ok (.aload_n 0, 1) := by decide +kernel
theorem dX12_image_42 : decode cX12_image 42 = .ok (.getfield 93, 3) := by decide +kernel
theorem dX12_image_45 : decode cX12_image 45 = .ok (.putfield 241, 3) := by decide +kernel
theorem dX12_image_48 : decode cX12_image 48 = .ok (.aload_n 0, 1) := by decide +kernel
theorem dX12_image_49 : decode cX12_image 49 = .ok (.aload_n 0, 1) := by decide +kernel
theorem dX12_image_50 : decode cX12_image 50 = .ok (.getfield 96, 3) := by decide +kernel
theorem dX12_image_53 : decode cX12_image 53 = .ok (.putfield 37, 3) := by decide +kernel
theorem dX12_image_56 : decode cX12_image 56 = .ok (.aload_n 0, 1) := by decide +kernel
theorem dX12_image_57 : decode cX12_image 57 = .ok (.getfield 93, 3) := by decide +kernel
theorem dX12_image_60 : decode cX12_image 60 = .ok (.ireturn, 1) := by decide +kernel
theorem dX12_restore_0 : decode cX12_restore 0 = .ok (.aload_n 0, 1) := by decide +kernel
theorem dX12_restore_1 : decode cX12_restore 1 = .ok (.getfield 37, 3) := by decide +kernel
theorem dX12_restore_4 : decode cX12_restore 4 = .ok (.aload_n 0, 1) := by decide +kernel
theorem dX12_restore_5 : decode cX12_restore 5 = .ok (.getfield 96, 3) := by decide +kernel
theorem dX12_restore_8 : decode cX12_restore 8 = .ok (.if_icmp .eq 6, 3) := by decide +kernel
theorem dX12_restore_11 : decode cX12_restore 11 = .ok (.bipush (-103), 2) := by decide +kernel
theorem dX12_restore_13 : decode cX12_restore 13 = .ok (.ireturn, 1) := by decide +kernel
theorem dX12_restore_14 : decode cX12_restore 14 = .ok (.aload_n 0, 1) := by decide +kernel
theorem dX12_restore_15 : decode cX12_restore 15 = .ok (.getfield 31, 3) := by decide +kernel
theorem dX12_restore_18 : decode cX12_restore 18 = .ok (.aload_n 0, 1) := by decide +kernel
theorem dX12_restore_19 : decode cX12_restore 19 = .ok (.getfield 13, 3) := by decide +kernel
theorem dX12_restore_22 : decode cX12_restore 22 = .ok (.invokestatic 234, 3) := by decide +kernel
theorem dX12_restore_25 : decode cX12_restore 25 = .ok (.aload_n 0, 1) := by decide +kernel
theorem dX12_restore_26 : decode cX12_restore 26 = .ok (.getfield 34, 3) := by decide +kernel
theorem dX12_restore_29 : decode cX12_restore 29 = .ok (.aload_n 0, 1) := by decide +kernel
theorem dX12_restore_30 : decode cX12_restore 30 = .ok (.getfield 16, 3) := by decide +kernel
theorem dX12_restore_33 : decode cX12_restore 33 = .ok (.invokestatic 234, 3) := by decide +kernel
theorem dX12_restore_36 : decode cX12_restore 36 = .ok (.aload_n 0, 1) := by decide +kernel
theorem dX12_restore_37 : decode cX12_restore 37 = .ok (.aload_n 0, 1) := by decide +kernel
theorem dX12_restore_38 : decode cX12_restore 38 = .ok (.getfield 238, 3) := by decide +kernel
theorem dX12_restore_41 : decode cX12_restore 41 = .ok (.putfield 41, 3) := by decide +kernel
theorem dX12_restore_44 : decode cX12_restore 44 = .ok (.aload_n 0, 1) := by decide +kernel
theorem dX12_restore_45 : decode cX12_restore 45 = .ok (.aload_n 0, 1) := by decide +kernel
theorem dX12_restore_46 : decode cX12_restore 46 = .ok (.getfield 241, 3) := by decide +kernel
theorem dX12_restore_49 : decode cX12_restore 49 = .ok (.putfield 93, 3) := by decide +kernel
theorem dX12_restore_52 : decode cX12_restore 52 = .ok (.aload_n 0, 1) := by decide +kernel
theorem dX12_restore_53 : decode cX12_restore 53 = .ok (.getfield 93, 3) := by decide +kernel
theorem dX12_restore_56 : decode cX12_restore 56 = .ok (.ireturn, 1) := by decide +kernel
theorem dX12_countOf_0 : decode cX12_countOf 0 = .ok (.iload_n 1, 1) := by decide +kernel
theorem dX12_countOf_1 : decode cX12_countOf 1 = .ok (.tableswitch 114 0 10 #[59, 64, 69, 74, 79, 84, 89, 94, 99, 104, 109], 59) := by decide +kernel
theorem dX12_countOf_60 : decode cX12_countOf 60 = .ok (.aload_n 0, 1) := by decide +kernel
theorem dX12_countOf_61 : decode cX12_countOf 61 = .ok (.getfield 81, 3) := by decide +kernel
theorem dX12_countOf_64 : decode cX12_countOf 64 = .ok (.ireturn, 1) := by decide +kernel
theorem dX12_countOf_65 : decode cX12_countOf 65 = .ok (.aload_n 0, 1) := by decide +kernel
theorem dX12_countOf_66 : decode cX12_countOf 66 = .ok (.getfield 84, 3) := by decide +kernel
theorem dX12_countOf_69 : decode cX12_countOf 69 = .ok (.ireturn, 1) := by decide +kernel
theorem dX12_countOf_70 : decode cX12_countOf 70 = .ok (.aload_n 0, 1) := by decide +kernel
theorem dX12_countOf_71 : decode cX12_countOf 71 = .ok (.getfield 90, 3) := by decide +kernel
theorem dX12_countOf_74 : decode cX12_countOf 74 = .ok (.ireturn, 1) := by decide +kernel
theorem dX12_countOf_75 : decode cX12_countOf 75 = .ok (.aload_n 0, 1) := by decide +kernel
theorem dX12_countOf_76 : decode cX12_countOf 76 = .ok (.getfield 87, 3) := by decide +kernel
theorem dX12_countOf_79 : decode cX12_countOf 79 = .ok (.ireturn, 1) := by decide +kernel
theorem dX12_countOf_80 : decode cX12_countOf 80 = .ok (.aload_n 0, 1) := by decide +kernel
theorem dX12_countOf_81 : decode cX12_countOf 81 = .ok (.getfield 93, 3) := by decide +kernel
theorem dX12_countOf_84 : decode cX12_countOf 84 = .ok (.ireturn, 1) := by decide +kernel
theorem dX12_countOf_85 : decode cX12_countOf 85 = .ok (.aload_n 0, 1) := by decide +kernel
theorem dX12_countOf_86 : decode cX12_countOf 86 = .ok (.getfield 41, 3) := by decide +kernel
theorem dX12_countOf_89 : decode cX12_countOf 89 = .ok (.ireturn, 1) := by decide +kernel
theorem dX12_countOf_90 : decode cX12_countOf 90 = .ok (.aload_n 0, 1) := by decide +kernel
theorem dX12_countOf_91 : decode cX12_countOf 91 = .ok (.getfield 50, 3) := by decide +kernel
theorem dX12_countOf_94 : decode cX12_countOf 94 = .ok (.ireturn, 1) := by decide +kernel
theorem dX12_countOf_95 : decode cX12_countOf 95 = .ok (.aload_n 0, 1) := by decide +kernel
theorem dX12_countOf_96 : decode cX12_countOf 96 = .ok (.getfield 96, 3) := by decide +kernel
theorem dX12_countOf_99 : decode cX12_countOf 99 = .ok (.ireturn, 1) := by decide +kernel
theorem dX12_countOf_100 : decode cX12_countOf 100 = .ok (.aload_n 0, 1) := by decide +kernel
theorem dX12_countOf_101 : decode cX12_countOf 101 = .ok (.getfield 177, 3) := by decide +kernel
theorem dX12_countOf_104 : decode cX12_countOf 104 = .ok (.ireturn, 1) := by decide +kernel
theorem dX12_countOf_105 : decode cX12_countOf 105 = .ok (.aload_n 0, 1) := by decide +kernel
theorem dX12_countOf_106 : decode cX12_countOf 106 = .ok (.getfield 186, 3) := by decide +kernel
theorem dX12_countOf_109 : decode cX12_countOf 109 = .ok (.ireturn, 1) := by decide +kernel
theorem dX12_countOf_110 : decode cX12_countOf 110 = .ok (.aload_n 0, 1) := by decide +kernel
theorem dX12_countOf_111 : decode cX12_countOf 111 = .ok (.getfield 207, 3) := by decide +kernel
theorem dX12_countOf_114 : decode cX12_countOf 114 = .ok (.ireturn, 1) := by decide +kernel
theorem dX12_countOf_115 : decode cX12_countOf 115 = .ok (.bipush (-102), 2) := by decide +kernel
theorem dX12_countOf_117 : decode cX12_countOf 117 = .ok (.ireturn, 1) := by decide +kernel
theorem dX12_count_0 : decode cX12_count 0 = .ok (.aload_n 0, 1) := by decide +kernel
theorem dX12_count_1 : decode cX12_count 1 = .ok (.iload_n 1, 1) := by decide +kernel
theorem dX12_count_2 : decode cX12_count 2 = .ok (.invokevirtual 244, 3) := by decide +kernel
theorem dX12_count_5 : decode cX12_count 5 = .ok (.ireturn, 1) := by decide +kernel
theorem dX12_say_0 : decode cX12_say 0 = .ok (.aload_n 0, 1) := by decide +kernel
theorem dX12_say_1 : decode cX12_say 1 = .ok (.ldc2_w 247, 3) := by decide +kernel
theorem dX12_say_4 : decode cX12_say 4 = .ok (.aload_n 0, 1) := by decide +kernel
theorem dX12_say_5 : decode cX12_say 5 = .ok (.getfield 249, 3) := by decide +kernel
theorem dX12_say_8 : decode cX12_say 8 = .ok (.lmul, 1) := by decide +kernel
theorem dX12_say_9 : decode cX12_say 9 = .ok (.lload_n 1, 1) := by decide +kernel
theorem dX12_say_10 : decode cX12_say 10 = .ok (.ladd, 1) := by decide +kernel
theorem dX12_say_11 : decode cX12_say 11 = .ok (.putfield 249, 3) := by decide +kernel
theorem dX12_say_14 : decode cX12_say 14 = .ok (.return_, 1) := by decide +kernel
theorem dX12_digest_0 : decode cX12_digest 0 = .ok (.aload_n 0, 1) := by decide +kernel
theorem dX12_digest_1 : decode cX12_digest 1 = .ok (.ldc2_w 253, 3) := by decide +kernel
theorem dX12_digest_4 : decode cX12_digest 4 = .ok (.putfield 249, 3) := by decide +kernel
theorem dX12_digest_7 : decode cX12_digest 7 = .ok (.iconst 0, 1) := by decide +kernel
theorem dX12_digest_8 : decode cX12_digest 8 = .ok (.istore_n 1, 1) := by decide +kernel
theorem dX12_digest_9 : decode cX12_digest 9 = .ok (.iload_n 1, 1) := by decide +kernel
theorem dX12_digest_10 : decode cX12_digest 10 = .ok (.aload_n 0, 1) := by decide +kernel
theorem dX12_digest_11 : decode cX12_digest 11 = .ok (.getfield 87, 3) := by decide +kernel
theorem dX12_digest_14 : decode cX12_digest 14 = .ok (.if_icmp .ge 57, 3) := by decide +kernel
theorem dX12_digest_17 : decode cX12_digest 17 = .ok (.iconst 0, 1) := by decide +kernel
theorem dX12_digest_18 : decode cX12_digest 18 = .ok (.istore_n 2, 1) := by decide +kernel
theorem dX12_digest_19 : decode cX12_digest 19 = .ok (.iload_n 2, 1) := by decide +kernel
theorem dX12_digest_20 : decode cX12_digest 20 = .ok (.iconst 4, 1) := by decide +kernel
theorem dX12_digest_21 : decode cX12_digest 21 = .ok (.if_icmp .ge 20, 3) := by decide +kernel
theorem dX12_digest_24 : decode cX12_digest 24 = .ok (.aload_n 0, 1) := by decide +kernel
theorem dX12_digest_25 : decode cX12_digest 25 = .ok (.aload_n 0, 1) := by decide +kernel
theorem dX12_digest_26 : decode cX12_digest 26 = .ok (.iload_n 1, 1) := by decide +kernel
theorem dX12_digest_27 : decode cX12_digest 27 = .ok (.iload_n 2, 1) := by decide +kernel
theorem dX12_digest_28 : decode cX12_digest 28 = .ok (.invokevirtual 151, 3) := by decide +kernel
theorem dX12_digest_31 : decode cX12_digest 31 = .ok (.i2l, 1) := by decide +kernel
theorem dX12_digest_32 : decode cX12_digest 32 = .ok (.invokevirtual 255, 3) := by decide +kernel
theorem dX12_digest_35 : decode cX12_digest 35 = .ok (.iinc 2 1, 3) := by decide +kernel
theorem dX12_digest_38 : decode cX12_digest 38 = .ok (.goto (-19), 3) := by decide +kernel
theorem dX12_digest_41 : decode cX12_digest 41 = .ok (.aload_n 0, 1) := by decide +kernel
theorem dX12_digest_42 : decode cX12_digest 42 = .ok (.aload_n 0, 1) := by decide +kernel
theorem dX12_digest_43 : decode cX12_digest 43 = .ok (.iconst 0, 1) := by decide +kernel
theorem dX12_digest_44 : decode cX12_digest 44 = .ok (.iload_n 1, 1) := by decide +kernel
theorem dX12_digest_45 : decode cX12_digest 45 = .ok (.iconst 0, 1) := by decide +kernel
theorem dX12_digest_46 : decode cX12_digest 46 = .ok (.invokevirtual 183, 3) := by decide +kernel
theorem dX12_digest_49 : decode cX12_digest 49 = .ok (.i2l, 1) := by decide +kernel
theorem dX12_digest_50 : decode cX12_digest 50 = .ok (.invokevirtual 255, 3) := by decide +kernel
theorem dX12_digest_53 : decode cX12_digest 53 = .ok (.aload_n 0, 1) := by decide +kernel
theorem dX12_digest_54 : decode cX12_digest 54 = .ok (.aload_n 0, 1) := by decide +kernel
theorem dX12_digest_55 : decode cX12_digest 55 = .ok (.iconst 0, 1) := by decide +kernel
theorem dX12_digest_56 : decode cX12_digest 56 = .ok (.iload_n 1, 1) := by decide +kernel
theorem dX12_digest_57 : decode cX12_digest 57 = .ok (.iconst 1, 1) := by decide +kernel
theorem dX12_digest_58 : decode cX12_digest 58 = .ok (.invokevirtual 183, 3) := by decide +kernel
theorem dX12_digest_61 : decode cX12_digest 61 = .ok (.i2l, 1) := by decide +kernel
theorem dX12_digest_62 : decode cX12_digest 62 = .ok (.invokevirtual 255, 3) := by decide +kernel
theorem dX12_digest_65 : decode cX12_digest 65 = .ok (.iinc 1 1, 3) := by decide +kernel
theorem dX12_digest_68 : decode cX12_digest 68 = .ok (.goto (-59), 3) := by decide +kernel
theorem dX12_digest_71 : decode cX12_digest 71 = .ok (.iconst 0, 1) := by decide +kernel
theorem dX12_digest_72 : decode cX12_digest 72 = .ok (.istore_n 1, 1) := by decide +kernel
theorem dX12_digest_73 : decode cX12_digest 73 = .ok (.iload_n 1, 1) := by decide +kernel
theorem dX12_digest_74 : decode cX12_digest 74 = .ok (.iconst 3, 1) := by decide +kernel
theorem dX12_digest_75 : decode cX12_digest 75 = .ok (.aload_n 0, 1) := by decide +kernel
theorem dX12_digest_76 : decode cX12_digest 76 = .ok (.getfield 93, 3) := by decide +kernel
theorem dX12_digest_79 : decode cX12_digest 79 = .ok (.imul, 1) := by decide +kernel
theorem dX12_digest_80 : decode cX12_digest 80 = .ok (.if_icmp .ge 20, 3) := by decide +kernel
theorem dX12_digest_83 : decode cX12_digest 83 = .ok (.aload_n 0, 1) := by decide +kernel
theorem dX12_digest_84 : decode cX12_digest 84 = .ok (.aload_n 0, 1) := by decide +kernel
theorem dX12_digest_85 : decode cX12_digest 85 = .ok (.getfield 16, 3) := by decide +kernel
theorem dX12_digest_88 : decode cX12_digest 88 = .ok (.iload_n 1, 1) := by decide +kernel
theorem dX12_digest_89 : decode cX12_digest 89 = .ok (.iaload, 1) := by decide +kernel
theorem dX12_digest_90 : decode cX12_digest 90 = .ok (.i2l, 1) := by decide +kernel
theorem dX12_digest_91 : decode cX12_digest 91 = .ok (.invokevirtual 255, 3) := by decide +kernel
theorem dX12_digest_94 : decode cX12_digest 94 = .ok (.iinc 1 1, 3) := by decide +kernel
theorem dX12_digest_97 : decode cX12_digest 97 = .ok (.goto (-24), 3) := by decide +kernel
theorem dX12_digest_100 : decode cX12_digest 100 = .ok (.aload_n 0, 1) := by decide +kernel
theorem dX12_digest_101 : decode cX12_digest 101 = .ok (.invokevirtual 129, 3) := by decide +kernel
theorem dX12_digest_104 : decode cX12_digest 104 = .ok (.ifCond .ne 22, 3) := by decide +kernel
theorem dX12_digest_107 : decode cX12_digest 107 = .ok (.aload_n 0, 1) := by decide +kernel
theorem dX12_digest_108 : decode cX12_digest 108 = .ok (.aload_n 0, 1) := by decide +kernel
theorem dX12_digest_109 : decode cX12_digest 109 = .ok (.invokevirtual 133, 3) := by decide +kernel
theorem dX12_digest_112 : decode cX12_digest 112 = .ok (.i2l, 1) := by decide +kernel
theorem dX12_digest_113 : decode cX12_digest 113 = .ok (.invokevirtual 255, 3) := by decide +kernel
theorem dX12_digest_116 : decode cX12_digest 116 = .ok (.aload_n 0, 1) := by decide +kernel
theorem dX12_digest_117 : decode cX12_digest 117 = .ok (.aload_n 0, 1) := by decide +kernel
theorem dX12_digest_118 : decode cX12_digest 118 = .ok (.iconst 0, 1) := by decide +kernel
theorem dX12_digest_119 : decode cX12_digest 119 = .ok (.invokevirtual 136, 3) := by decide +kernel
theorem dX12_digest_122 : decode cX12_digest 122 = .ok (.i2l, 1) := by decide +kernel
theorem dX12_digest_123 : decode cX12_digest 123 = .ok (.invokevirtual 255, 3) := by decide +kernel
theorem dX12_digest_126 : decode cX12_digest 126 = .ok (.iconst 0, 1) := by decide +kernel
theorem dX12_digest_127 : decode cX12_digest 127 = .ok (.istore_n 1, 1) := by decide +kernel
theorem dX12_digest_128 : decode cX12_digest 128 = .ok (.iload_n 1, 1) := by decide +kernel
theorem dX12_digest_129 : decode cX12_digest 129 = .ok (.aload_n 0, 1) := by decide +kernel
theorem dX12_digest_130 : decode cX12_digest 130 = .ok (.getfield 50, 3) := by decide +kernel
theorem dX12_digest_133 : decode cX12_digest 133 = .ok (.if_icmp .ge 20, 3) := by decide +kernel
theorem dX12_digest_136 : decode cX12_digest 136 = .ok (.aload_n 0, 1) := by decide +kernel
theorem dX12_digest_137 : decode cX12_digest 137 = .ok (.aload_n 0, 1) := by decide +kernel
theorem dX12_digest_138 : decode cX12_digest 138 = .ok (.getfield 7, 3) := by decide +kernel
theorem dX12_digest_141 : decode cX12_digest 141 = .ok (.iload_n 1, 1) := by decide +kernel
theorem dX12_digest_142 : decode cX12_digest 142 = .ok (.iaload, 1) := by decide +kernel
theorem dX12_digest_143 : decode cX12_digest 143 = .ok (.i2l, 1) := by decide +kernel
theorem dX12_digest_144 : decode cX12_digest 144 = .ok (.invokevirtual 255, 3) := by decide +kernel
theorem dX12_digest_147 : decode cX12_digest 147 = .ok (.iinc 1 1, 3) := by decide +kernel
theorem dX12_digest_150 : decode cX12_digest 150 = .ok (.goto (-22), 3) := by decide +kernel
theorem dX12_digest_153 : decode cX12_digest 153 = .ok (.iconst 0, 1) := by decide +kernel
theorem dX12_digest_154 : decode cX12_digest 154 = .ok (.istore_n 1, 1) := by decide +kernel
theorem dX12_digest_155 : decode cX12_digest 155 = .ok (.iload_n 1, 1) := by decide +kernel
theorem dX12_digest_156 : decode cX12_digest 156 = .ok (.bipush 11, 2) := by decide +kernel
theorem dX12_digest_158 : decode cX12_digest 158 = .ok (.if_icmp .ge 19, 3) := by decide +kernel
theorem dX12_digest_161 : decode cX12_digest 161 = .ok (.aload_n 0, 1) := by decide +kernel
theorem dX12_digest_162 : decode cX12_digest 162 = .ok (.aload_n 0, 1) := by decide +kernel
theorem dX12_digest_163 : decode cX12_digest 163 = .ok (.iload_n 1, 1) := by decide +kernel
theorem dX12_digest_164 : decode cX12_digest 164 = .ok (.invokevirtual 244, 3) := by decide +kernel
theorem dX12_digest_167 : decode cX12_digest 167 = .ok (.i2l, 1) := by decide +kernel
theorem dX12_digest_168 : decode cX12_digest 168 = .ok (.invokevirtual 255, 3) := by decide +kernel
theorem dX12_digest_171 : decode cX12_digest 171 = .ok (.iinc 1 1, 3) := by decide +kernel
theorem dX12_digest_174 : decode cX12_digest 174 = .ok (.goto (-19), 3) := by decide +kernel
theorem dX12_digest_177 : decode cX12_digest 177 = .ok (.aload_n 0, 1) := by decide +kernel
theorem dX12_digest_178 : decode cX12_digest 178 = .ok (.getfield 249, 3) := by decide +kernel
theorem dX12_digest_181 : decode cX12_digest 181 = .ok (.lreturn, 1) := by decide +kernel
