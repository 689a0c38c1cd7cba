theorem dX11_init_0 : decode cX11_init 0 = .ok (.aload_n 0, 1) := by decide +kernel
theorem dX11_init_1 : decode cX11_init 1 = .ok (.invokespecial 3, 3) := by decide +kernel
theorem dX11_init_4 : decode cX11_init 4 = .ok (.aload_n 0, 1) := by decide +kernel
theorem dX11_init_5 : decode cX11_init 5 = .ok (.new 9, 3) := by decide +kernel
theorem dX11_init_8 : decode cX11_init 8 = .ok (.dup, 1) := by decide +kernel
theorem dX11_init_9 : decode cX11_init 9 = .ok (.invokespecial 11, 3) := by decide +kernel
theorem dX11_init_12 : decode cX11_init 12 = .ok (.putfield 12, 3) := by decide +kernel
theorem dX11_init_15 : decode cX11_init 15 = .ok (.aload_n 0, 1) := by decide +kernel
theorem dX11_init_16 : decode cX11_init 16 = .ok (.iconst 5, 1) := by decide +kernel
theorem dX11_init_17 : decode cX11_init 17 = .ok (.anewarray 16, 3) := by decide +kernel
theorem dX11_init_20 : decode cX11_init 20 = .ok (.dup, 1) := by decide +kernel
theorem dX11_init_21 : decode cX11_init 21 = .ok (.iconst 0, 1) := by decide +kernel
theorem dX11_init_22 : decode cX11_init 22 = .ok (.new 16, 3) := by decide +kernel
theorem dX11_init_25 : decode cX11_init 25 = .ok (.dup, 1) := by decide +kernel
theorem dX11_init_26 : decode cX11_init 26 = .ok (.invokespecial 18, 3) := by decide +kernel
theorem dX11_init_29 : decode cX11_init 29 = .ok (.aastore, 1) := by decide +kernel
theorem dX11_init_30 : decode cX11_init 30 = .ok (.dup, 1) := by decide +kernel
theorem dX11_init_31 : decode cX11_init 31 = .ok (.iconst 1, 1) := by decide +kernel
theorem dX11_init_32 : decode cX11_init 32 = .ok (.new 19, 3) := by decide +kernel
theorem dX11_init_35 : decode cX11_init 35 = .ok (.dup, 1) := by decide +kernel
theorem dX11_init_36 : decode cX11_init 36 = .ok (.invokespecial 21, 3) := by decide +kernel
theorem dX11_init_39 : decode cX11_init 39 = .ok (.aastore, 1) := by decide +kernel
theorem dX11_init_40 : decode cX11_init 40 = .ok (.dup, 1) := by decide +kernel
theorem dX11_init_41 : decode cX11_init 41 = .ok (.iconst 2, 1) := by decide +kernel
theorem dX11_init_42 : decode cX11_init 42 = .ok (.new 22, 3) := by decide +kernel
theorem dX11_init_45 : decode cX11_init 45 = .ok (.dup, 1) := by decide +kernel
theorem dX11_init_46 : decode cX11_init 46 = .ok (.invokespecial 24, 3) := by decide +kernel
theorem dX11_init_49 : decode cX11_init 49 = .ok (.aastore, 1) := by decide +kernel
theorem dX11_init_50 : decode cX11_init 50 = .ok (.dup, 1) := by decide +kernel
theorem dX11_init_51 : decode cX11_init 51 = .ok (.iconst 3, 1) := by decide +kernel
theorem dX11_init_52 : decode cX11_init 52 = .ok (.new 25, 3) := by decide +kernel
theorem dX11_init_55 : decode cX11_init 55 = .ok (.dup, 1) := by decide +kernel
theorem dX11_init_56 : decode cX11_init 56 = .ok (.invokespecial 27, 3) := by decide +kernel
theorem dX11_init_59 : decode cX11_init 59 = .ok (.aastore, 1) := by decide +kernel
theorem dX11_init_60 : decode cX11_init 60 = .ok (.dup, 1) := by decide +kernel
theorem dX11_init_61 : decode cX11_init 61 = .ok (.iconst 4, 1) := by decide +kernel
theorem dX11_init_62 : decode cX11_init 62 = .ok (.new 28, 3) := by decide +kernel
theorem dX11_init_65 : decode cX11_init 65 = .ok (.dup, 1) := by decide +kernel
theorem dX11_init_66 : decode cX11_init 66 = .ok (.invokespecial 30, 3) := by decide +kernel
theorem dX11_init_69 : decode cX11_init 69 = .ok (.aastore, 1) := by decide +kernel
theorem dX11_init_70 : decode cX11_init 70 = .ok (.putfield 31, 3) := by decide +kernel
theorem dX11_init_73 : decode cX11_init 73 = .ok (.aload_n 0, 1) := by decide +kernel
theorem dX11_init_74 : decode cX11_init 74 = .ok (.iconst 5, 1) := by decide +kernel
theorem dX11_init_75 : decode cX11_init 75 = .ok (.newarray .int, 2) := by decide +kernel
theorem dX11_init_77 : decode cX11_init 77 = .ok (.putfield 35, 3) := by decide +kernel
theorem dX11_init_80 : decode cX11_init 80 = .ok (.aload_n 0, 1) := by decide +kernel
theorem dX11_init_81 : decode cX11_init 81 = .ok (.new 39, 3) := by decide +kernel
theorem dX11_init_84 : decode cX11_init 84 = .ok (.dup, 1) := by decide +kernel
theorem dX11_init_85 : decode cX11_init 85 = .ok (.invokespecial 41, 3) := by decide +kernel
theorem dX11_init_88 : decode cX11_init 88 = .ok (.putfield 42, 3) := by decide +kernel
theorem dX11_init_91 : decode cX11_init 91 = .ok (.aload_n 0, 1) := by decide +kernel
theorem dX11_init_92 : decode cX11_init 92 = .ok (.new 39, 3) := by decide +kernel
theorem dX11_init_95 : decode cX11_init 95 = .ok (.dup, 1) := by decide +kernel
theorem dX11_init_96 : decode cX11_init 96 = .ok (.invokespecial 41, 3) := by decide +kernel
theorem dX11_init_99 : decode cX11_init 99 = .ok (.putfield 46, 3) := by decide +kernel
theorem dX11_init_102 : decode cX11_init 102 = .ok (.new 49, 3) := by decide +kernel
theorem dX11_init_105 : decode cX11_init 105 = .ok (.dup, 1) := by decide +kernel
theorem dX11_init_106 : decode cX11_init 106 = .ok (.invokespecial 51, 3) := by decide +kernel
theorem dX11_init_109 : decode cX11_init 109 = .ok (.astore_n 1, 1) := by decide +kernel
theorem dX11_init_110 : decode cX11_init 110 = .ok (.new 52, 3) := by decide +kernel
theorem dX11_init_113 : decode cX11_init 113 = .ok (.dup, 1) := by decide +kernel
theorem dX11_init_114 : decode cX11_init 114 = .ok (.aload_n 1, 1) := by decide +kernel
theorem dX11_init_115 : decode cX11_init 115 = .ok (.invokespecial 54, 3) := by decide +kernel
theorem dX11_init_118 : decode cX11_init 118 = .ok (.astore_n 2, 1) := by decide +kernel
theorem dX11_init_119 : decode cX11_init 119 = .ok (.aload_n 0, 1) := by decide +kernel
theorem dX11_init_120 : decode cX11_init 120 = .ok (.aload_n 1, 1) := by decide +kernel
theorem dX11_init_121 : decode cX11_init 121 = .ok (.putfield 57, 3) := by decide +kernel
theorem dX11_init_124 : decode cX11_init 124 = .ok (.aload_n 0, 1) := by decide +kernel
theorem dX11_init_125 : decode cX11_init 125 = .ok (.aload_n 2, 1) := by decide +kernel
theorem dX11_init_126 : decode cX11_init 126 = .ok (.putfield 61, 3) := by decide +kernel
theorem dX11_init_129 : decode cX11_init 129 = .ok (.aload_n 0, 1) := by decide +kernel
theorem dX11_init_130 : decode cX11_init 130 = .ok (.new 65, 3) := by decide +kernel
theorem dX11_init_133 : decode cX11_init 133 = .ok (.dup, 1) := by decide +kernel
theorem dX11_init_134 : decode cX11_init 134 = .ok (.aload_n 1, 1) := by decide +kernel
theorem dX11_init_135 : decode cX11_init 135 = .ok (.invokespecial 67, 3) := by decide +kernel
theorem dX11_init_138 : decode cX11_init 138 = .ok (.putfield 68, 3) := by decide +kernel
theorem dX11_init_141 : decode cX11_init 141 = .ok (.aload_n 0, 1) := by decide +kernel
theorem dX11_init_142 : decode cX11_init 142 = .ok (.new 72, 3) := by decide +kernel
theorem dX11_init_145 : decode cX11_init 145 = .ok (.dup, 1) := by decide +kernel
theorem dX11_init_146 : decode cX11_init 146 = .ok (.aload_n 1, 1) := by decide +kernel
theorem dX11_init_147 : decode cX11_init 147 = .ok (.aload_n 2, 1) := by decide +kernel
theorem dX11_init_148 : decode cX11_init 148 = .ok (.invokespecial 74, 3) := by decide +kernel
theorem dX11_init_151 : decode cX11_init 151 = .ok (.putfield 77, 3) := by decide +kernel
theorem dX11_init_154 : decode cX11_init 154 = .ok (.return_, 1) := by decide +kernel
theorem dX11_letter_0 : decode cX11_letter 0 = .ok (.iload_n 1, 1) := by decide +kernel
theorem dX11_letter_1 : decode cX11_letter 1 = .ok (.iconst 1, 1) := by decide +kernel
theorem dX11_letter_2 : decode cX11_letter 2 = .ok (.if_icmp .lt 9, 3) := by decide +kernel
theorem dX11_letter_5 : decode cX11_letter 5 = .ok (.iload_n 1, 1) := by decide +kernel
theorem dX11_letter_6 : decode cX11_letter 6 = .ok (.bipush 126, 2) := by decide +kernel
theorem dX11_letter_8 : decode cX11_letter 8 = .ok (.if_icmp .le 6, 3) := by decide +kernel
theorem dX11_letter_11 : decode cX11_letter 11 = .ok (.bipush (-102), 2) := by decide +kernel
theorem dX11_letter_13 : decode cX11_letter 13 = .ok (.ireturn, 1) := by decide +kernel
theorem dX11_letter_14 : decode cX11_letter 14 = .ok (.aload_n 0, 1) := by decide +kernel
theorem dX11_letter_15 : decode cX11_letter 15 = .ok (.getfield 12, 3) := by decide +kernel
theorem dX11_letter_18 : decode cX11_letter 18 = .ok (.getfield 81, 3) := by decide +kernel
theorem dX11_letter_21 : decode cX11_letter 21 = .ok (.bipush 12, 2) := by decide +kernel
theorem dX11_letter_23 : decode cX11_letter 23 = .ok (.if_icmp .lt 6, 3) := by decide +kernel
theorem dX11_letter_26 : decode cX11_letter 26 = .ok (.bipush (-104), 2) := by decide +kernel
theorem dX11_letter_28 : decode cX11_letter 28 = .ok (.ireturn, 1) := by decide +kernel
theorem dX11_letter_29 : decode cX11_letter 29 = .ok (.aload_n 0, 1) := by decide +kernel
theorem dX11_letter_30 : decode cX11_letter 30 = .ok (.getfield 12, 3) := by decide +kernel
theorem dX11_letter_33 : decode cX11_letter 33 = .ok (.iload_n 1, 1) := by decide +kernel
theorem dX11_letter_34 : decode cX11_letter 34 = .ok (.invokevirtual 85, 3) := by decide +kernel
theorem dX11_letter_37 : decode cX11_letter 37 = .ok (.aload_n 0, 1) := by decide +kernel
theorem dX11_letter_38 : decode cX11_letter 38 = .ok (.getfield 12, 3) := by decide +kernel
theorem dX11_letter_41 : decode cX11_letter 41 = .ok (.getfield 81, 3) := by decide +kernel
theorem dX11_letter_44 : decode cX11_letter 44 = .ok (.ireturn, 1) := by decide +kernel
theorem dX11_blank_0 : decode cX11_blank 0 = .ok (.aload_n 0, 1) := by decide +kernel
theorem dX11_blank_1 : decode cX11_blank 1 = .ok (.getfield 12, 3) := by decide +kernel
theorem dX11_blank_4 : decode cX11_blank 4 = .ok (.getfield 81, 3) := by decide +kernel
theorem dX11_blank_7 : decode cX11_blank 7 = .ok (.istore_n 1, 1) := by decide +kernel
theorem dX11_blank_8 : decode cX11_blank 8 = .ok (.aload_n 0, 1) := by decide +kernel
theorem dX11_blank_9 : decode cX11_blank 9 = .ok (.getfield 12, 3) := by decide +kernel
theorem dX11_blank_12 : decode cX11_blank 12 = .ok (.iconst 0, 1) := by decide +kernel
theorem dX11_blank_13 : decode cX11_blank 13 = .ok (.putfield 81, 3) := by decide +kernel
theorem dX11_blank_16 : decode cX11_blank 16 = .ok (.iload_n 1, 1) := by decide +kernel
theorem dX11_blank_17 : decode cX11_blank 17 = .ok (.ireturn, 1) := by decide +kernel
theorem dX11_fault_0 : decode cX11_fault 0 = .ok (.aload_n 0, 1) := by decide +kernel
theorem dX11_fault_1 : decode cX11_fault 1 = .ok (.getfield 12, 3) := by decide +kernel
theorem dX11_fault_4 : decode cX11_fault 4 = .ok (.invokevirtual 89, 3) := by decide +kernel
theorem dX11_fault_7 : decode cX11_fault 7 = .ok (.ireturn, 1) := by decide +kernel
theorem dX11_game_0 : decode cX11_game 0 = .ok (.aload_n 0, 1) := by decide +kernel
theorem dX11_game_1 : decode cX11_game 1 = .ok (.getfield 12, 3) := by decide +kernel
theorem dX11_game_4 : decode cX11_game 4 = .ok (.invokevirtual 93, 3) := by decide +kernel
theorem dX11_game_7 : decode cX11_game 7 = .ok (.ifCond .ne 6, 3) := by decide +kernel
theorem dX11_game_10 : decode cX11_game 10 = .ok (.bipush (-103), 2) := by decide +kernel
theorem dX11_game_12 : decode cX11_game 12 = .ok (.ireturn, 1) := by decide +kernel
theorem dX11_game_13 : decode cX11_game 13 = .ok (.aload_n 0, 1) := by decide +kernel
theorem dX11_game_14 : decode cX11_game 14 = .ok (.getfield 57, 3) := by decide +kernel
theorem dX11_game_17 : decode cX11_game 17 = .ok (.aload_n 0, 1) := by decide +kernel
theorem dX11_game_18 : decode cX11_game 18 = .ok (.getfield 12, 3) := by decide +kernel
theorem dX11_game_21 : decode cX11_game 21 = .ok (.invokevirtual 97, 3) := by decide +kernel
theorem dX11_game_24 : decode cX11_game 24 = .ok (.aload_n 0, 1) := by decide +kernel
theorem dX11_game_25 : decode cX11_game 25 = .ok (.getfield 12, 3) := by decide +kernel
theorem dX11_game_28 : decode cX11_game 28 = .ok (.invokevirtual 100, 3) := by decide +kernel
theorem dX11_game_31 : decode cX11_game 31 = .ok (.invokevirtual 103, 3) := by decide +kernel
theorem dX11_game_34 : decode cX11_game 34 = .ok (.aload_n 0, 1) := by decide +kernel
theorem dX11_game_35 : decode cX11_game 35 = .ok (.aload_n 0, 1) := by decide +kernel
theorem dX11_game_36 : decode cX11_game 36 = .ok (.getfield 12, 3) := by decide +kernel
theorem dX11_game_39 : decode cX11_game 39 = .ok (.invokevirtual 107, 3) := by decide +kernel
theorem dX11_game_42 : decode cX11_game 42 = .ok (.putfield 110, 3) := by decide +kernel
theorem dX11_game_45 : decode cX11_game 45 = .ok (.iconst 0, 1) := by decide +kernel
theorem dX11_game_46 : decode cX11_game 46 = .ok (.istore_n 1, 1) := by decide +kernel
theorem dX11_game_47 : decode cX11_game 47 = .ok (.iload_n 1, 1) := by decide +kernel
theorem dX11_game_48 : decode cX11_game 48 = .ok (.aload_n 0, 1) := by decide +kernel
theorem dX11_game_49 : decode cX11_game 49 = .ok (.getfield 110, 3) := by decide +kernel
theorem dX11_game_52 : decode cX11_game 52 = .ok (.if_icmp .ge 26, 3) := by decide +kernel
theorem dX11_game_55 : decode cX11_game 55 = .ok (.aload_n 0, 1) := by decide +kernel
theorem dX11_game_56 : decode cX11_game 56 = .ok (.getfield 42, 3) := by decide +kernel
theorem dX11_game_59 : decode cX11_game 59 = .ok (.getfield 113, 3) := by decide +kernel
theorem dX11_game_62 : decode cX11_game 62 = .ok (.iload_n 1, 1) := by decide +kernel
theorem dX11_game_63 : decode cX11_game 63 = .ok (.aload_n 0, 1) := by decide +kernel
theorem dX11_game_64 : decode cX11_game 64 = .ok (.getfield 12, 3) := by decide +kernel
theorem dX11_game_67 : decode cX11_game 67 = .ok (.iload_n 1, 1) := by decide +kernel
theorem dX11_game_68 : decode cX11_game 68 = .ok (.invokevirtual 115, 3) := by decide +kernel
theorem dX11_game_71 : decode cX11_game 71 = .ok (.iastore, 1) := by decide +kernel
theorem dX11_game_72 : decode cX11_game 72 = .ok (.iinc 1 1, 3) := by decide +kernel
theorem dX11_game_75 : decode cX11_game 75 = .ok (.goto (-28), 3) := by decide +kernel
theorem dX11_game_78 : decode cX11_game 78 = .ok (.aload_n 0, 1) := by decide +kernel
theorem dX11_game_79 : decode cX11_game 79 = .ok (.getfield 42, 3) := by decide +kernel
theorem dX11_game_82 : decode cX11_game 82 = .ok (.aload_n 0, 1) := by decide +kernel
theorem dX11_game_83 : decode cX11_game 83 = .ok (.getfield 12, 3) := by decide +kernel
theorem dX11_game_86 : decode cX11_game 86 = .ok (.invokevirtual 119, 3) := by decide +kernel
theorem dX11_game_89 : decode cX11_game 89 = .ok (.putfield 122, 3) := by decide +kernel
theorem dX11_game_92 : decode cX11_game 92 = .ok (.aload_n 0, 1) := by decide +kernel
theorem dX11_game_93 : decode cX11_game 93 = .ok (.getfield 42, 3) := by decide +kernel
theorem dX11_game_96 : decode cX11_game 96 = .ok (.iconst 0, 1) := by decide +kernel
theorem dX11_game_97 : decode cX11_game 97 = .ok (.putfield 125, 3) := by decide +kernel
theorem dX11_game_100 : decode cX11_game 100 = .ok (.aload_n 0, 1) := by decide +kernel
theorem dX11_game_101 : decode cX11_game 101 = .ok (.iconst 0, 1) := by decide +kernel
theorem dX11_game_102 : decode cX11_game 102 = .ok (.putfield 126, 3) := by decide +kernel
theorem dX11_game_105 : decode cX11_game 105 = .ok (.aload_n 0, 1) := by decide +kernel
theorem dX11_game_106 : decode cX11_game 106 = .ok (.dup, 1) := by decide +kernel
theorem dX11_game_107 : decode cX11_game 107 = .ok (.getfield 130, 3) := by decide +kernel
theorem dX11_game_110 : decode cX11_game 110 = .ok (.iconst 1, 1) := by decide +kernel
theorem dX11_game_111 : decode cX11_game 111 = .ok (.iadd, 1) := by decide +kernel
theorem dX11_game_112 : decode cX11_game 112 = .ok (.putfield 130, 3) := by decide +kernel
theorem dX11_game_115 : decode cX11_game 115 = .ok (.aload_n 0, 1) := by decide +kernel
theorem dX11_game_116 : decode cX11_game 116 = .ok (.getfield 12, 3) := by decide +kernel
theorem dX11_game_119 : decode cX11_game 119 = .ok (.iconst 0, 1) := by decide +kernel
theorem dX11_game_120 : decode cX11_game 120 = .ok (.putfield 81, 3) := by decide +kernel
theorem dX11_game_123 : decode cX11_game 123 = .ok (.aload_n 0, 1) := by decide +kernel
theorem dX11_game_124 : decode cX11_game 124 = .ok (.getfield 57, 3) := by decide +kernel
theorem dX11_game_127 : decode cX11_game 127 = .ok (.getfield 133, 3) := by decide +kernel
theorem dX11_game_130 : decode cX11_game 130 = .ok (.ireturn, 1) := by decide +kernel
theorem dX11_judge_0 : decode cX11_judge 0 = .ok (.aload_n 0, 1) := by decide +kernel
theorem dX11_judge_1 : decode cX11_judge 1 = .ok (.iload_n 1, 1) := by decide +kernel
theorem dX11_judge_2 : decode cX11_judge 2 = .ok (.invokevirtual 134, 3) := by decide +kernel
theorem dX11_judge_5 : decode cX11_judge 5 = .ok (.ifCond .ne 6, 3) := by decide +kernel
theorem dX11_judge_8 : decode cX11_judge 8 = .ok (.bipush (-101), 2) := by decide +kernel
theorem dX11_judge_10 : decode cX11_judge 10 = .ok (.ireturn, 1) := by decide +kernel
theorem dX11_judge_11 : decode cX11_judge 11 = .ok (.iload_n 2, 1) := by decide +kernel
theorem dX11_judge_12 : decode cX11_judge 12 = .ok (.tableswitch 84 0 4 #[36, 46, 55, 61, 71], 36) := by decide +kernel
theorem dX11_judge_48 : decode cX11_judge 48 = .ok (.aload_n 0, 1) := by decide +kernel
theorem dX11_judge_49 : decode cX11_judge 49 = .ok (.getfield 42, 3) := by decide +kernel
theorem dX11_judge_52 : decode cX11_judge 52 = .ok (.getfield 113, 3) := by decide +kernel
theorem dX11_judge_55 : decode cX11_judge 55 = .ok (.iload_n 1, 1) := by decide +kernel
theorem dX11_judge_56 : decode cX11_judge 56 = .ok (.iaload, 1) := by decide +kernel
theorem dX11_judge_57 : decode cX11_judge 57 = .ok (.ireturn, 1) := by decide +kernel
theorem dX11_judge_58 : decode cX11_judge 58 = .ok (.aload_n 0, 1) := by decide +kernel
theorem dX11_judge_59 : decode cX11_judge 59 = .ok (.getfield 42, 3) := by decide +kernel
theorem dX11_judge_62 : decode cX11_judge 62 = .ok (.iload_n 1, 1) := by decide +kernel
theorem dX11_judge_63 : decode cX11_judge 63 = .ok (.invokevirtual 138, 3) := by decide +kernel
theorem dX11_judge_66 : decode cX11_judge 66 = .ok (.ireturn, 1) := by decide +kernel
theorem dX11_judge_67 : decode cX11_judge 67 = .ok (.aload_n 0, 1) := by decide +kernel
theorem dX11_judge_68 : decode cX11_judge 68 = .ok (.iload_n 1, 1) := by decide +kernel
theorem dX11_judge_69 : decode cX11_judge 69 = .ok (.invokevirtual 141, 3) := by decide +kernel
theorem dX11_judge_72 : decode cX11_judge 72 = .ok (.ireturn, 1) := by decide +kernel
theorem dX11_judge_73 : decode cX11_judge 73 = .ok (.aload_n 0, 1) := by decide +kernel
theorem dX11_judge_74 : decode cX11_judge 74 = .ok (.aload_n 0, 1) := by decide +kernel
theorem dX11_judge_75 : decode cX11_judge 75 = .ok (.iload_n 1, 1) := by decide +kernel
theorem dX11_judge_76 : decode cX11_judge 76 = .ok (.invokevirtual 141, 3) := by decide +kernel
theorem dX11_judge_79 : decode cX11_judge 79 = .ok (.invokevirtual 144, 3) := by decide +kernel
theorem dX11_judge_82 : decode cX11_judge 82 = .ok (.ireturn, 1) := by decide +kernel
theorem dX11_judge_83 : decode cX11_judge 83 = .ok (.aload_n 0, 1) := by decide +kernel
theorem dX11_judge_84 : decode cX11_judge 84 = .ok (.getfield 57, 3) := by decide +kernel
theorem dX11_judge_87 : decode cX11_judge 87 = .ok (.aload_n 0, 1) := by decide +kernel
theorem dX11_judge_88 : decode cX11_judge 88 = .ok (.iload_n 1, 1) := by decide +kernel
theorem dX11_judge_89 : decode cX11_judge 89 = .ok (.invokevirtual 147, 3) := by decide +kernel
theorem dX11_judge_92 : decode cX11_judge 92 = .ok (.invokevirtual 151, 3) := by decide +kernel
theorem dX11_judge_95 : decode cX11_judge 95 = .ok (.ireturn, 1) := by decide +kernel
theorem dX11_judge_96 : decode cX11_judge 96 = .ok (.bipush (-102), 2) := by decide +kernel
theorem dX11_judge_98 : decode cX11_judge 98 = .ok (.ireturn, 1) := by decide +kernel
theorem dX11_as_0 : decode cX11_as 0 = .ok (.aload_n 0, 1) := by decide +kernel
theorem dX11_as_1 : decode cX11_as 1 = .ok (.iload_n 1, 1) := by decide +kernel
theorem dX11_as_2 : decode cX11_as 2 = .ok (.invokevirtual 134, 3) := by decide +kernel
theorem dX11_as_5 : decode cX11_as 5 = .ok (.ifCond .ne 6, 3) := by decide +kernel
theorem dX11_as_8 : decode cX11_as 8 = .ok (.bipush (-101), 2) := by decide +kernel
theorem dX11_as_10 : decode cX11_as 10 = .ok (.ireturn, 1) := by decide +kernel
theorem dX11_as_11 : decode cX11_as 11 = .ok (.iload_n 2, 1) := by decide +kernel
theorem dX11_as_12 : decode cX11_as 12 = .ok (.invokestatic 155, 3) := by decide +kernel
theorem dX11_as_15 : decode cX11_as 15 = .ok (.ifCond .ne 6, 3) := by decide +kernel
theorem dX11_as_18 : decode cX11_as 18 = .ok (.bipush (-102), 2) := by decide +kernel
theorem dX11_as_20 : decode cX11_as 20 = .ok (.ireturn, 1) := by decide +kernel
theorem dX11_as_21 : decode cX11_as 21 = .ok (.aload_n 0, 1) := by decide +kernel
theorem dX11_as_22 : decode cX11_as 22 = .ok (.iload_n 1, 1) := by decide +kernel
theorem dX11_as_23 : decode cX11_as 23 = .ok (.invokevirtual 147, 3) := by decide +kernel
theorem dX11_as_26 : decode cX11_as 26 = .ok (.iload_n 2, 1) := by decide +kernel
theorem dX11_as_27 : decode cX11_as 27 = .ok (.invokestatic 158, 3) := by decide +kernel
theorem dX11_as_30 : decode cX11_as 30 = .ok (.ifCond .eq 7, 3) := by decide +kernel
theorem dX11_as_33 : decode cX11_as 33 = .ok (.iload_n 1, 1) := by decide +kernel
theorem dX11_as_34 : decode cX11_as 34 = .ok (.goto 4, 3) := by decide +kernel
theorem dX11_as_37 : decode cX11_as 37 = .ok (.iconst (-1), 1) := by decide +kernel
theorem dX11_as_38 : decode cX11_as 38 = .ok (.ireturn, 1) := by decide +kernel
theorem dX11_row_0 : decode cX11_row 0 = .ok (.aload_n 0, 1) := by decide +kernel
theorem dX11_row_1 : decode cX11_row 1 = .ok (.iload_n 1, 1) := by decide +kernel
theorem dX11_row_2 : decode cX11_row 2 = .ok (.invokevirtual 162, 3) := by decide +kernel
theorem dX11_row_5 : decode cX11_row 5 = .ok (.ifCond .ne 6, 3) := by decide +kernel
theorem dX11_row_8 : decode cX11_row 8 = .ok (.bipush (-101), 2) := by decide +kernel
theorem dX11_row_10 : decode cX11_row 10 = .ok (.ireturn, 1) := by decide +kernel
theorem dX11_row_11 : decode cX11_row 11 = .ok (.iload_n 2, 1) := by decide +kernel
theorem dX11_row_12 : decode cX11_row 12 = .ok (.ifCond .lt 8, 3) := by decide +kernel
theorem dX11_row_15 : decode cX11_row 15 = .ok (.iload_n 2, 1) := by decide +kernel
theorem dX11_row_16 : decode cX11_row 16 = .ok (.iconst 4, 1) := by decide +kernel
theorem dX11_row_17 : decode cX11_row 17 = .ok (.if_icmp .le 6, 3) := by decide +kernel
theorem dX11_row_20 : decode cX11_row 20 = .ok (.bipush (-102), 2) := by decide +kernel
theorem dX11_row_22 : decode cX11_row 22 = .ok (.ireturn, 1) := by decide +kernel
theorem dX11_row_23 : decode cX11_row 23 = .ok (.iload_n 2, 1) := by decide +kernel
theorem dX11_row_24 : decode cX11_row 24 = .ok (.ifCond .ne 17, 3) := by decide +kernel
theorem dX11_row_27 : decode cX11_row 27 = .ok (.aload_n 0, 1) := by decide +kernel
theorem dX11_row_28 : decode cX11_row 28 = .ok (.iload_n 1, 1) := by decide +kernel
theorem dX11_row_29 : decode cX11_row 29 = .ok (.invokevirtual 165, 3) := by decide +kernel
theorem dX11_row_32 : decode cX11_row 32 = .ok (.ifCond .eq 7, 3) := by decide +kernel
theorem dX11_row_35 : decode cX11_row 35 = .ok (.iconst 1, 1) := by decide +kernel
theorem dX11_row_36 : decode cX11_row 36 = .ok (.goto 4, 3) := by decide +kernel
theorem dX11_row_39 : decode cX11_row 39 = .ok (.iconst 0, 1) := by decide +kernel
theorem dX11_row_40 : decode cX11_row 40 = .ok (.ireturn, 1) := by decide +kernel
theorem dX11_row_41 : decode cX11_row 41 = .ok (.iload_n 2, 1) := by decide +kernel
theorem dX11_row_42 : decode cX11_row 42 = .ok (.iconst 3, 1) := by decide +kernel
theorem dX11_row_43 : decode cX11_row 43 = .ok (.if_icmp .le 20, 3) := by decide +kernel
theorem dX11_row_46 : decode cX11_row 46 = .ok (.iload_n 1, 1) := by decide +kernel
theorem dX11_row_47 : decode cX11_row 47 = .ok (.aload_n 0, 1) := by decide +kernel
theorem dX11_row_48 : decode cX11_row 48 = .ok (.getfield 42, 3) := by decide +kernel
theorem dX11_row_51 : decode cX11_row 51 = .ok (.getfield 122, 3) := by decide +kernel
theorem dX11_row_54 : decode cX11_row 54 = .ok (.if_icmp .ne 7, 3) := by decide +kernel
theorem dX11_row_57 : decode cX11_row 57 = .ok (.iconst 1, 1) := by decide +kernel
theorem dX11_row_58 : decode cX11_row 58 = .ok (.goto 4, 3) := by decide +kernel
theorem dX11_row_61 : decode cX11_row 61 = .ok (.iconst 0, 1) := by decide +kernel
theorem dX11_row_62 : decode cX11_row 62 = .ok (.ireturn, 1) := by decide +kernel
theorem dX11_row_63 : decode cX11_row 63 = .ok (.iload_n 2, 1) := by decide +kernel
theorem dX11_row_64 : decode cX11_row 64 = .ok (.aload_n 0, 1) := by decide +kernel
theorem dX11_row_65 : decode cX11_row 65 = .ok (.getfield 57, 3) := by decide +kernel
theorem dX11_row_68 : decode cX11_row 68 = .ok (.getfield 168, 3) := by decide +kernel
theorem dX11_row_71 : decode cX11_row 71 = .ok (.if_icmp .gt 17, 3) := by decide +kernel
theorem dX11_row_74 : decode cX11_row 74 = .ok (.aload_n 0, 1) := by decide +kernel
theorem dX11_row_75 : decode cX11_row 75 = .ok (.getfield 57, 3) := by decide +kernel
theorem dX11_row_78 : decode cX11_row 78 = .ok (.iload_n 1, 1) := by decide +kernel
theorem dX11_row_79 : decode cX11_row 79 = .ok (.iload_n 2, 1) := by decide +kernel
theorem dX11_row_80 : decode cX11_row 80 = .ok (.iconst 1, 1) := by decide +kernel
theorem dX11_row_81 : decode cX11_row 81 = .ok (.isub, 1) := by decide +kernel
theorem dX11_row_82 : decode cX11_row 82 = .ok (.invokevirtual 170, 3) := by decide +kernel
theorem dX11_row_85 : decode cX11_row 85 = .ok (.goto 4, 3) := by decide +kernel
theorem dX11_row_88 : decode cX11_row 88 = .ok (.iconst (-1), 1) := by decide +kernel
theorem dX11_row_89 : decode cX11_row 89 = .ok (.ireturn, 1) := by decide +kernel
theorem dX11_tells_0 : decode cX11_tells 0 = .ok (.aload_n 0, 1) := by decide +kernel
theorem dX11_tells_1 : decode cX11_tells 1 = .ok (.iload_n 1, 1) := by decide +kernel
theorem dX11_tells_2 : decode cX11_tells 2 = .ok (.invokevirtual 134, 3) := by decide +kernel
theorem dX11_tells_5 : decode cX11_tells 5 = .ok (.ifCond .eq 19, 3) := by decide +kernel
theorem dX11_tells_8 : decode cX11_tells 8 = .ok (.aload_n 0, 1) := by decide +kernel
theorem dX11_tells_9 : decode cX11_tells 9 = .ok (.iload_n 2, 1) := by decide +kernel
theorem dX11_tells_10 : decode cX11_tells 10 = .ok (.invokevirtual 162, 3) := by decide +kernel
theorem dX11_tells_13 : decode cX11_tells 13 = .ok (.ifCond .eq 11, 3) := by decide +kernel
theorem dX11_tells_16 : decode cX11_tells 16 = .ok (.aload_n 0, 1) := by decide +kernel
theorem dX11_tells_17 : decode cX11_tells 17 = .ok (.iload_n 3, 1) := by decide +kernel
theorem dX11_tells_18 : decode cX11_tells 18 = .ok (.invokevirtual 162, 3) := by decide +kernel
theorem dX11_tells_21 : decode cX11_tells 21 = .ok (.ifCond .ne 6, 3) := by decide +kernel
theorem dX11_tells_24 : decode cX11_tells 24 = .ok (.bipush (-101), 2) := by decide +kernel
theorem dX11_tells_26 : decode cX11_tells 26 = .ok (.ireturn, 1) := by decide +kernel
theorem dX11_tells_27 : decode cX11_tells 27 = .ok (.aload_n 0, 1) := by decide +kernel
theorem dX11_tells_28 : decode cX11_tells 28 = .ok (.iload_n 1, 1) := by decide +kernel
theorem dX11_tells_29 : decode cX11_tells 29 = .ok (.invokevirtual 147, 3) := by decide +kernel
theorem dX11_tells_32 : decode cX11_tells 32 = .ok (.aload_n 0, 1) := by decide +kernel
theorem dX11_tells_33 : decode cX11_tells 33 = .ok (.getfield 57, 3) := by decide +kernel
theorem dX11_tells_36 : decode cX11_tells 36 = .ok (.iload_n 2, 1) := by decide +kernel
theorem dX11_tells_37 : decode cX11_tells 37 = .ok (.iload_n 3, 1) := by decide +kernel
theorem dX11_tells_38 : decode cX11_tells 38 = .ok (.invokevirtual 174, 3) := by decide +kernel
theorem dX11_tells_41 : decode cX11_tells 41 = .ok (.ireturn, 1) := by decide +kernel
theorem dX11_seen_0 : decode cX11_seen 0 = .ok (.iload_n 1, 1) := by decide +kernel
theorem dX11_seen_1 : decode cX11_seen 1 = .ok (.ifCond .lt 14, 3) := by decide +kernel
theorem dX11_seen_4 : decode cX11_seen 4 = .ok (.iload_n 1, 1) := by decide +kernel
theorem dX11_seen_5 : decode cX11_seen 5 = .ok (.aload_n 0, 1) := by decide +kernel
theorem dX11_seen_6 : decode cX11_seen 6 = .ok (.getfield 42, 3) := by decide +kernel
theorem dX11_seen_9 : decode cX11_seen 9 = .ok (.getfield 125, 3) := by decide +kernel
theorem dX11_seen_12 : decode cX11_seen 12 = .ok (.if_icmp .lt 6, 3) := by decide +kernel
theorem dX11_seen_15 : decode cX11_seen 15 = .ok (.bipush (-101), 2) := by decide +kernel
theorem dX11_seen_17 : decode cX11_seen 17 = .ok (.ireturn, 1) := by decide +kernel
theorem dX11_seen_18 : decode cX11_seen 18 = .ok (.iload_n 2, 1) := by decide +kernel
theorem dX11_seen_19 : decode cX11_seen 19 = .ok (.tableswitch 55 0 2 #[25, 35, 45], 25) := by decide +kernel
theorem dX11_seen_44 : decode cX11_seen 44 = .ok (.aload_n 0, 1) := by decide +kernel
theorem dX11_seen_45 : decode cX11_seen 45 = .ok (.getfield 42, 3) := by decide +kernel
theorem dX11_seen_48 : decode cX11_seen 48 = .ok (.getfield 178, 3) := by decide +kernel
theorem dX11_seen_51 : decode cX11_seen 51 = .ok (.iload_n 1, 1) := by decide +kernel
theorem dX11_seen_52 : decode cX11_seen 52 = .ok (.iaload, 1) := by decide +kernel
theorem dX11_seen_53 : decode cX11_seen 53 = .ok (.ireturn, 1) := by decide +kernel
theorem dX11_seen_54 : decode cX11_seen 54 = .ok (.aload_n 0, 1) := by decide +kernel
theorem dX11_seen_55 : decode cX11_seen 55 = .ok (.getfield 42, 3) := by decide +kernel
theorem dX11_seen_58 : decode cX11_seen 58 = .ok (.getfield 181, 3) := by decide +kernel
theorem dX11_seen_61 : decode cX11_seen 61 = .ok (.iload_n 1, 1) := by decide +kernel
theorem dX11_seen_62 : decode cX11_seen 62 = .ok (.iaload, 1) := by decide +kernel
theorem dX11_seen_63 : decode cX11_seen 63 = .ok (.ireturn, 1) := by decide +kernel
theorem dX11_seen_64 : decode cX11_seen 64 = .ok (.aload_n 0, 1) := by decide +kernel
theorem dX11_seen_65 : decode cX11_seen 65 = .ok (.getfield 42, 3) := by decide +kernel
theorem dX11_seen_68 : decode cX11_seen 68 = .ok (.getfield 184, 3) := by decide +kernel
theorem dX11_seen_71 : decode cX11_seen 71 = .ok (.iload_n 1, 1) := by decide +kernel
theorem dX11_seen_72 : decode cX11_seen 72 = .ok (.iaload, 1) := by decide +kernel
theorem dX11_seen_73 : decode cX11_seen 73 = .ok (.ireturn, 1) := by decide +kernel
theorem dX11_seen_74 : decode cX11_seen 74 = .ok (.bipush (-102), 2) := by decide +kernel
theorem dX11_seen_76 : decode cX11_seen 76 = .ok (.ireturn, 1) := by decide +kernel
theorem dX11_show_0 : decode cX11_show 0 = .ok (.aload_n 0, 1) := by decide +kernel
theorem dX11_show_1 : decode cX11_show 1 = .ok (.iload_n 1, 1) := by decide +kernel
theorem dX11_show_2 : decode cX11_show 2 = .ok (.invokevirtual 162, 3) := by decide +kernel
theorem dX11_show_5 : decode cX11_show 5 = .ok (.ifCond .eq 11, 3) := by decide +kernel
theorem dX11_show_8 : decode cX11_show 8 = .ok (.aload_n 0, 1) := by decide +kernel
theorem dX11_show_9 : decode cX11_show 9 = .ok (.iload_n 2, 1) := by decide +kernel
theorem dX11_show_10 : decode cX11_show 10 = .ok (.invokevirtual 134, 3) := by decide +kernel
theorem dX11_show_13 : decode cX11_show 13 = .ok (.ifCond .ne 6, 3) := by decide +kernel
theorem dX11_show_16 : decode cX11_show 16 = .ok (.bipush (-101), 2) := by decide +kernel
theorem dX11_show_18 : decode cX11_show 18 = .ok (.ireturn, 1) := by decide +kernel
theorem dX11_show_19 : decode cX11_show 19 = .ok (.aload_n 0, 1) := by decide +kernel
theorem dX11_show_20 : decode cX11_show 20 = .ok (.getfield 42, 3) := by decide +kernel
theorem dX11_show_23 : decode cX11_show 23 = .ok (.getfield 125, 3) := by decide +kernel
theorem dX11_show_26 : decode cX11_show 26 = .ok (.bipush 12, 2) := by decide +kernel
theorem dX11_show_28 : decode cX11_show 28 = .ok (.if_icmp .lt 6, 3) := by decide +kernel
theorem dX11_show_31 : decode cX11_show 31 = .ok (.bipush (-104), 2) := by decide +kernel
theorem dX11_show_33 : decode cX11_show 33 = .ok (.ireturn, 1) := by decide +kernel
theorem dX11_show_34 : decode cX11_show 34 = .ok (.aload_n 0, 1) := by decide +kernel
theorem dX11_show_35 : decode cX11_show 35 = .ok (.iload_n 2, 1) := by decide +kernel
theorem dX11_show_36 : decode cX11_show 36 = .ok (.invokevirtual 147, 3) := by decide +kernel
theorem dX11_show_39 : decode cX11_show 39 = .ok (.aload_n 0, 1) := by decide +kernel
theorem dX11_show_40 : decode cX11_show 40 = .ok (.getfield 57, 3) := by decide +kernel
theorem dX11_show_43 : decode cX11_show 43 = .ok (.iload_n 1, 1) := by decide +kernel
theorem dX11_show_44 : decode cX11_show 44 = .ok (.aload_n 0, 1) := by decide +kernel
theorem dX11_show_45 : decode cX11_show 45 = .ok (.getfield 42, 3) := by decide +kernel
theorem dX11_show_48 : decode cX11_show 48 = .ok (.getfield 122, 3) := by decide +kernel
theorem dX11_show_51 : decode cX11_show 51 = .ok (.invokevirtual 174, 3) := by decide +kernel
theorem dX11_show_54 : decode cX11_show 54 = .ok (.istore_n 3, 1) := by decide +kernel
theorem dX11_show_55 : decode cX11_show 55 = .ok (.aload_n 0, 1) := by decide +kernel
theorem dX11_show_56 : decode cX11_show 56 = .ok (.getfield 42, 3) := by decide +kernel
theorem dX11_show_59 : decode cX11_show 59 = .ok (.iload_n 1, 1) := by decide +kernel
theorem dX11_show_60 : decode cX11_show 60 = .ok (.iload_n 2, 1) := by decide +kernel
theorem dX11_show_61 : decode cX11_show 61 = .ok (.iload_n 3, 1) := by decide +kernel
theorem dX11_show_62 : decode cX11_show 62 = .ok (.invokevirtual 187, 3) := by decide +kernel
theorem dX11_show_65 : decode cX11_show 65 = .ok (.iload_n 3, 1) := by decide +kernel
theorem dX11_show_66 : decode cX11_show 66 = .ok (.ireturn, 1) := by decide +kernel
theorem dX11_note_0 : decode cX11_note 0 = .ok (.aload_n 0, 1) := by decide +kernel
theorem dX11_note_1 : decode cX11_note 1 = .ok (.iload_n 1, 1) := by decide +kernel
theorem dX11_note_2 : decode cX11_note 2 = .ok (.invokevirtual 162, 3) := by decide +kernel
theorem dX11_note_5 : decode cX11_note 5 = .ok (.ifCond .eq 11, 3) := by decide +kernel
theorem dX11_note_8 : decode cX11_note 8 = .ok (.aload_n 0, 1) := by decide +kernel
theorem dX11_note_9 : decode cX11_note 9 = .ok (.iload_n 2, 1) := by decide +kernel
theorem dX11_note_10 : decode cX11_note 10 = .ok (.invokevirtual 134, 3) := by decide +kernel
theorem dX11_note_13 : decode cX11_note 13 = .ok (.ifCond .ne 6, 3) := by decide +kernel
theorem dX11_note_16 : decode cX11_note 16 = .ok (.bipush (-101), 2) := by decide +kernel
theorem dX11_note_18 : decode cX11_note 18 = .ok (.ireturn, 1) := by decide +kernel
theorem dX11_note_19 : decode cX11_note 19 = .ok (.iload_n 3, 1) := by decide +kernel
theorem dX11_note_20 : decode cX11_note 20 = .ok (.ifCond .lt 9, 3) := by decide +kernel
theorem dX11_note_23 : decode cX11_note 23 = .ok (.iload_n 3, 1) := by decide +kernel
theorem dX11_note_24 : decode cX11_note 24 = .ok (.bipush 40, 2) := by decide +kernel
theorem dX11_note_26 : decode cX11_note 26 = .ok (.if_icmp .le 6, 3) := by decide +kernel
theorem dX11_note_29 : decode cX11_note 29 = .ok (.bipush (-102), 2) := by decide +kernel
theorem dX11_note_31 : decode cX11_note 31 = .ok (.ireturn, 1) := by decide +kernel
theorem dX11_note_32 : decode cX11_note 32 = .ok (.aload_n 0, 1) := by decide +kernel
theorem dX11_note_33 : decode cX11_note 33 = .ok (.getfield 42, 3) := by decide +kernel
theorem dX11_note_36 : decode cX11_note 36 = .ok (.getfield 125, 3) := by decide +kernel
theorem dX11_note_39 : decode cX11_note 39 = .ok (.bipush 12, 2) := by decide +kernel
theorem dX11_note_41 : decode cX11_note 41 = .ok (.if_icmp .lt 6, 3) := by decide +kernel
theorem dX11_note_44 : decode cX11_note 44 = .ok (.bipush (-104), 2) := by decide +kernel
theorem dX11_note_46 : decode cX11_note 46 = .ok (.ireturn, 1) := by decide +kernel
theorem dX11_note_47 : decode cX11_note 47 = .ok (.aload_n 0, 1) := by decide +kernel
theorem dX11_note_48 : decode cX11_note 48 = .ok (.getfield 42, 3) := by decide +kernel
theorem dX11_note_51 : decode cX11_note 51 = .ok (.iload_n 1, 1) := by decide +kernel
theorem dX11_note_52 : decode cX11_note 52 = .ok (.iload_n 2, 1) := by decide +kernel
theorem dX11_note_53 : decode cX11_note 53 = .ok (.iload_n 3, 1) := by decide +kernel
theorem dX11_note_54 : decode cX11_note 54 = .ok (.invokevirtual 187, 3) := by decide +kernel
theorem dX11_note_57 : decode cX11_note 57 = .ok (.aload_n 0, 1) := by decide +kernel
theorem dX11_note_58 : decode cX11_note 58 = .ok (.invokevirtual 190, 3) := by decide +kernel
theorem dX11_note_61 : decode cX11_note 61 = .ok (.ireturn, 1) := by decide +kernel
theorem dX11_strike_0 : decode cX11_strike 0 = .ok (.aload_n 0, 1) := by decide +kernel
theorem dX11_strike_1 : decode cX11_strike 1 = .ok (.getfield 42, 3) := by decide +kernel
theorem dX11_strike_4 : decode cX11_strike 4 = .ok (.getfield 125, 3) := by decide +kernel
theorem dX11_strike_7 : decode cX11_strike 7 = .ok (.ifCond .ne 6, 3) := by decide +kernel
theorem dX11_strike_10 : decode cX11_strike 10 = .ok (.bipush (-103), 2) := by decide +kernel
theorem dX11_strike_12 : decode cX11_strike 12 = .ok (.ireturn, 1) := by decide +kernel
theorem dX11_strike_13 : decode cX11_strike 13 = .ok (.aload_n 0, 1) := by decide +kernel
theorem dX11_strike_14 : decode cX11_strike 14 = .ok (.getfield 42, 3) := by decide +kernel
theorem dX11_strike_17 : decode cX11_strike 17 = .ok (.dup, 1) := by decide +kernel
theorem dX11_strike_18 : decode cX11_strike 18 = .ok (.getfield 125, 3) := by decide +kernel
theorem dX11_strike_21 : decode cX11_strike 21 = .ok (.iconst 1, 1) := by decide +kernel
theorem dX11_strike_22 : decode cX11_strike 22 = .ok (.isub, 1) := by decide +kernel
theorem dX11_strike_23 : decode cX11_strike 23 = .ok (.putfield 125, 3) := by decide +kernel
theorem dX11_strike_26 : decode cX11_strike 26 = .ok (.aload_n 0, 1) := by decide +kernel
theorem dX11_strike_27 : decode cX11_strike 27 = .ok (.getfield 42, 3) := by decide +kernel
theorem dX11_strike_30 : decode cX11_strike 30 = .ok (.getfield 125, 3) := by decide +kernel
theorem dX11_strike_33 : decode cX11_strike 33 = .ok (.ireturn, 1) := by decide +kernel
theorem dX11_forget_0 : decode cX11_forget 0 = .ok (.aload_n 0, 1) := by decide +kernel
theorem dX11_forget_1 : decode cX11_forget 1 = .ok (.getfield 42, 3) := by decide +kernel
theorem dX11_forget_4 : decode cX11_forget 4 = .ok (.getfield 125, 3) := by decide +kernel
theorem dX11_forget_7 : decode cX11_forget 7 = .ok (.istore_n 1, 1) := by decide +kernel
theorem dX11_forget_8 : decode cX11_forget 8 = .ok (.aload_n 0, 1) := by decide +kernel
theorem dX11_forget_9 : decode cX11_forget 9 = .ok (.getfield 42, 3) := by decide +kernel
theorem dX11_forget_12 : decode cX11_forget 12 = .ok (.iconst 0, 1) := by decide +kernel
theorem dX11_forget_13 : decode cX11_forget 13 = .ok (.putfield 125, 3) := by decide +kernel
theorem dX11_forget_16 : decode cX11_forget 16 = .ok (.iload_n 1, 1) := by decide +kernel
theorem dX11_forget_17 : decode cX11_forget 17 = .ok (.ireturn, 1) := by decide +kernel
theorem dX11_hide_0 : decode cX11_hide 0 = .ok (.aload_n 0, 1) := by decide +kernel
theorem dX11_hide_1 : decode cX11_hide 1 = .ok (.iload_n 1, 1) := by decide +kernel
theorem dX11_hide_2 : decode cX11_hide 2 = .ok (.invokevirtual 162, 3) := by decide +kernel
theorem dX11_hide_5 : decode cX11_hide 5 = .ok (.ifCond .ne 6, 3) := by decide +kernel
theorem dX11_hide_8 : decode cX11_hide 8 = .ok (.bipush (-101), 2) := by decide +kernel
theorem dX11_hide_10 : decode cX11_hide 10 = .ok (.ireturn, 1) := by decide +kernel
theorem dX11_hide_11 : decode cX11_hide 11 = .ok (.aload_n 0, 1) := by decide +kernel
theorem dX11_hide_12 : decode cX11_hide 12 = .ok (.getfield 42, 3) := by decide +kernel
theorem dX11_hide_15 : decode cX11_hide 15 = .ok (.getfield 122, 3) := by decide +kernel
theorem dX11_hide_18 : decode cX11_hide 18 = .ok (.istore_n 2, 1) := by decide +kernel
theorem dX11_hide_19 : decode cX11_hide 19 = .ok (.aload_n 0, 1) := by decide +kernel
theorem dX11_hide_20 : decode cX11_hide 20 = .ok (.getfield 42, 3) := by decide +kernel
theorem dX11_hide_23 : decode cX11_hide 23 = .ok (.iload_n 1, 1) := by decide +kernel
theorem dX11_hide_24 : decode cX11_hide 24 = .ok (.putfield 122, 3) := by decide +kernel
theorem dX11_hide_27 : decode cX11_hide 27 = .ok (.iload_n 2, 1) := by decide +kernel
theorem dX11_hide_28 : decode cX11_hide 28 = .ok (.ireturn, 1) := by decide +kernel
theorem dX11_swap_0 : decode cX11_swap 0 = .ok (.aload_n 0, 1) := by decide +kernel
theorem dX11_swap_1 : decode cX11_swap 1 = .ok (.iload_n 1, 1) := by decide +kernel
theorem dX11_swap_2 : decode cX11_swap 2 = .ok (.invokevirtual 134, 3) := by decide +kernel
theorem dX11_swap_5 : decode cX11_swap 5 = .ok (.ifCond .ne 6, 3) := by decide +kernel
theorem dX11_swap_8 : decode cX11_swap 8 = .ok (.bipush (-101), 2) := by decide +kernel
theorem dX11_swap_10 : decode cX11_swap 10 = .ok (.ireturn, 1) := by decide +kernel
theorem dX11_swap_11 : decode cX11_swap 11 = .ok (.iload_n 2, 1) := by decide +kernel
theorem dX11_swap_12 : decode cX11_swap 12 = .ok (.invokestatic 155, 3) := by decide +kernel
theorem dX11_swap_15 : decode cX11_swap 15 = .ok (.ifCond .ne 6, 3) := by decide +kernel
theorem dX11_swap_18 : decode cX11_swap 18 = .ok (.bipush (-102), 2) := by decide +kernel
theorem dX11_swap_20 : decode cX11_swap 20 = .ok (.ireturn, 1) := by decide +kernel
theorem dX11_swap_21 : decode cX11_swap 21 = .ok (.aload_n 0, 1) := by decide +kernel
theorem dX11_swap_22 : decode cX11_swap 22 = .ok (.getfield 42, 3) := by decide +kernel
theorem dX11_swap_25 : decode cX11_swap 25 = .ok (.getfield 113, 3) := by decide +kernel
theorem dX11_swap_28 : decode cX11_swap 28 = .ok (.iload_n 1, 1) := by decide +kernel
theorem dX11_swap_29 : decode cX11_swap 29 = .ok (.iaload, 1) := by decide +kernel
theorem dX11_swap_30 : decode cX11_swap 30 = .ok (.istore_n 3, 1) := by decide +kernel
theorem dX11_swap_31 : decode cX11_swap 31 = .ok (.aload_n 0, 1) := by decide +kernel
theorem dX11_swap_32 : decode cX11_swap 32 = .ok (.getfield 42, 3) := by decide +kernel
theorem dX11_swap_35 : decode cX11_swap 35 = .ok (.getfield 113, 3) := by decide +kernel
theorem dX11_swap_38 : decode cX11_swap 38 = .ok (.iload_n 1, 1) := by decide +kernel
theorem dX11_swap_39 : decode cX11_swap 39 = .ok (.iload_n 2, 1) := by decide +kernel
theorem dX11_swap_40 : decode cX11_swap 40 = .ok (.iastore, 1) := by decide +kernel
theorem dX11_swap_41 : decode cX11_swap 41 = .ok (.iload_n 3, 1) := by decide +kernel
theorem dX11_swap_42 : decode cX11_swap 42 = .ok (.ireturn, 1) := by decide +kernel
theorem dX11_left_0 : decode cX11_left 0 = .ok (.aload_n 0, 1) := by decide +kernel
theorem dX11_left_1 : decode cX11_left 1 = .ok (.invokevirtual 193, 3) := by decide +kernel
theorem dX11_left_4 : decode cX11_left 4 = .ok (.ifCond .eq 10, 3) := by decide +kernel
theorem dX11_left_7 : decode cX11_left 7 = .ok (.aload_n 0, 1) := by decide +kernel
theorem dX11_left_8 : decode cX11_left 8 = .ok (.invokevirtual 190, 3) := by decide +kernel
theorem dX11_left_11 : decode cX11_left 11 = .ok (.goto 5, 3) := by decide +kernel
theorem dX11_left_14 : decode cX11_left 14 = .ok (.bipush (-103), 2) := by decide +kernel
theorem dX11_left_16 : decode cX11_left 16 = .ok (.ireturn, 1) := by decide +kernel
theorem dX11_fits_0 : decode cX11_fits 0 = .ok (.iload_n 1, 1) := by decide +kernel
theorem dX11_fits_1 : decode cX11_fits 1 = .ok (.ifCond .ge 6, 3) := by decide +kernel
theorem dX11_fits_4 : decode cX11_fits 4 = .ok (.bipush (-102), 2) := by decide +kernel
theorem dX11_fits_6 : decode cX11_fits 6 = .ok (.ireturn, 1) := by decide +kernel
theorem dX11_fits_7 : decode cX11_fits 7 = .ok (.aload_n 0, 1) := by decide +kernel
theorem dX11_fits_8 : decode cX11_fits 8 = .ok (.invokevirtual 193, 3) := by decide +kernel
theorem dX11_fits_11 : decode cX11_fits 11 = .ok (.ifCond .ne 6, 3) := by decide +kernel
theorem dX11_fits_14 : decode cX11_fits 14 = .ok (.bipush (-103), 2) := by decide +kernel
theorem dX11_fits_16 : decode cX11_fits 16 = .ok (.ireturn, 1) := by decide +kernel
theorem dX11_fits_17 : decode cX11_fits 17 = .ok (.iload_n 1, 1) := by decide +kernel
theorem dX11_fits_18 : decode cX11_fits 18 = .ok (.aload_n 0, 1) := by decide +kernel
theorem dX11_fits_19 : decode cX11_fits 19 = .ok (.invokevirtual 190, 3) := by decide +kernel
theorem dX11_fits_22 : decode cX11_fits 22 = .ok (.if_icmp .ge 15, 3) := by decide +kernel
theorem dX11_fits_25 : decode cX11_fits 25 = .ok (.aload_n 0, 1) := by decide +kernel
theorem dX11_fits_26 : decode cX11_fits 26 = .ok (.getfield 61, 3) := by decide +kernel
theorem dX11_fits_29 : decode cX11_fits 29 = .ok (.getfield 196, 3) := by decide +kernel
theorem dX11_fits_32 : decode cX11_fits 32 = .ok (.iload_n 1, 1) := by decide +kernel
theorem dX11_fits_33 : decode cX11_fits 33 = .ok (.iaload, 1) := by decide +kernel
theorem dX11_fits_34 : decode cX11_fits 34 = .ok (.goto 4, 3) := by decide +kernel
theorem dX11_fits_37 : decode cX11_fits 37 = .ok (.iconst (-1), 1) := by decide +kernel
theorem dX11_fits_38 : decode cX11_fits 38 = .ok (.ireturn, 1) := by decide +kernel
theorem dX11_best_0 : decode cX11_best 0 = .ok (.aload_n 0, 1) := by decide +kernel
theorem dX11_best_1 : decode cX11_best 1 = .ok (.iload_n 1, 1) := by decide +kernel
theorem dX11_best_2 : decode cX11_best 2 = .ok (.invokevirtual 134, 3) := by decide +kernel
theorem dX11_best_5 : decode cX11_best 5 = .ok (.ifCond .ne 6, 3) := by decide +kernel
theorem dX11_best_8 : decode cX11_best 8 = .ok (.bipush (-101), 2) := by decide +kernel
theorem dX11_best_10 : decode cX11_best 10 = .ok (.ireturn, 1) := by decide +kernel
theorem dX11_best_11 : decode cX11_best 11 = .ok (.iload_n 2, 1) := by decide +kernel
theorem dX11_best_12 : decode cX11_best 12 = .ok (.ifCond .lt 8, 3) := by decide +kernel
theorem dX11_best_15 : decode cX11_best 15 = .ok (.iload_n 2, 1) := by decide +kernel
theorem dX11_best_16 : decode cX11_best 16 = .ok (.iconst 1, 1) := by decide +kernel
theorem dX11_best_17 : decode cX11_best 17 = .ok (.if_icmp .le 6, 3) := by decide +kernel
theorem dX11_best_20 : decode cX11_best 20 = .ok (.bipush (-102), 2) := by decide +kernel
theorem dX11_best_22 : decode cX11_best 22 = .ok (.ireturn, 1) := by decide +kernel
theorem dX11_best_23 : decode cX11_best 23 = .ok (.aload_n 0, 1) := by decide +kernel
theorem dX11_best_24 : decode cX11_best 24 = .ok (.getfield 199, 3) := by decide +kernel
theorem dX11_best_27 : decode cX11_best 27 = .ok (.bipush 24, 2) := by decide +kernel
theorem dX11_best_29 : decode cX11_best 29 = .ok (.if_icmp .lt 6, 3) := by decide +kernel
theorem dX11_best_32 : decode cX11_best 32 = .ok (.bipush (-103), 2) := by decide +kernel
theorem dX11_best_34 : decode cX11_best 34 = .ok (.ireturn, 1) := by decide +kernel
theorem dX11_best_35 : decode cX11_best 35 = .ok (.aload_n 0, 1) := by decide +kernel
theorem dX11_best_36 : decode cX11_best 36 = .ok (.dup, 1) := by decide +kernel
theorem dX11_best_37 : decode cX11_best 37 = .ok (.getfield 199, 3) := by decide +kernel
theorem dX11_best_40 : decode cX11_best 40 = .ok (.iconst 1, 1) := by decide +kernel
theorem dX11_best_41 : decode cX11_best 41 = .ok (.iadd, 1) := by decide +kernel
theorem dX11_best_42 : decode cX11_best 42 = .ok (.putfield 199, 3) := by decide +kernel
theorem dX11_best_45 : decode cX11_best 45 = .ok (.aload_n 0, 1) := by decide +kernel
theorem dX11_best_46 : decode cX11_best 46 = .ok (.invokevirtual 190, 3) := by decide +kernel
theorem dX11_best_49 : decode cX11_best 49 = .ok (.pop, 1) := by decide +kernel
theorem dX11_best_50 : decode cX11_best 50 = .ok (.aload_n 0, 1) := by decide +kernel
theorem dX11_best_51 : decode cX11_best 51 = .ok (.getfield 61, 3) := by decide +kernel
theorem dX11_best_54 : decode cX11_best 54 = .ok (.aload_n 0, 1) := by decide +kernel
theorem dX11_best_55 : decode cX11_best 55 = .ok (.iload_n 1, 1) := by decide +kernel
theorem dX11_best_56 : decode cX11_best 56 = .ok (.invokevirtual 147, 3) := by decide +kernel
theorem dX11_best_59 : decode cX11_best 59 = .ok (.invokevirtual 202, 3) := by decide +kernel
theorem dX11_best_62 : decode cX11_best 62 = .ok (.istore_n 3, 1) := by decide +kernel
theorem dX11_best_63 : decode cX11_best 63 = .ok (.iload_n 2, 1) := by decide +kernel
theorem dX11_best_64 : decode cX11_best 64 = .ok (.ifCond .ne 5, 3) := by decide +kernel
theorem dX11_best_67 : decode cX11_best 67 = .ok (.iload_n 3, 1) := by decide +kernel
theorem dX11_best_68 : decode cX11_best 68 = .ok (.ireturn, 1) := by decide +kernel
theorem dX11_best_69 : decode cX11_best 69 = .ok (.iload_n 3, 1) := by decide +kernel
theorem dX11_best_70 : decode cX11_best 70 = .ok (.iconst (-1), 1) := by decide +kernel
theorem dX11_best_71 : decode cX11_best 71 = .ok (.if_icmp .ne 7, 3) := by decide +kernel
theorem dX11_best_74 : decode cX11_best 74 = .ok (.iconst 0, 1) := by decide +kernel
theorem dX11_best_75 : decode cX11_best 75 = .ok (.goto 16, 3) := by decide +kernel
theorem dX11_best_78 : decode cX11_best 78 = .ok (.aload_n 0, 1) := by decide +kernel
theorem dX11_best_79 : decode cX11_best 79 = .ok (.getfield 61, 3) := by decide +kernel
theorem dX11_best_82 : decode cX11_best 82 = .ok (.aload_n 0, 1) := by decide +kernel
theorem dX11_best_83 : decode cX11_best 83 = .ok (.iload_n 1, 1) := by decide +kernel
theorem dX11_best_84 : decode cX11_best 84 = .ok (.invokevirtual 147, 3) := by decide +kernel
theorem dX11_best_87 : decode cX11_best 87 = .ok (.iload_n 3, 1) := by decide +kernel
theorem dX11_best_88 : decode cX11_best 88 = .ok (.invokevirtual 205, 3) := by decide +kernel
theorem dX11_best_91 : decode cX11_best 91 = .ok (.ireturn, 1) := by decide +kernel
theorem dX11_rest_0 : decode cX11_rest 0 = .ok (.aload_n 0, 1) := by decide +kernel
theorem dX11_rest_1 : decode cX11_rest 1 = .ok (.iload_n 1, 1) := by decide +kernel
theorem dX11_rest_2 : decode cX11_rest 2 = .ok (.invokevirtual 162, 3) := by decide +kernel
theorem dX11_rest_5 : decode cX11_rest 5 = .ok (.ifCond .eq 11, 3) := by decide +kernel
theorem dX11_rest_8 : decode cX11_rest 8 = .ok (.aload_n 0, 1) := by decide +kernel
theorem dX11_rest_9 : decode cX11_rest 9 = .ok (.iload_n 2, 1) := by decide +kernel
theorem dX11_rest_10 : decode cX11_rest 10 = .ok (.invokevirtual 134, 3) := by decide +kernel
theorem dX11_rest_13 : decode cX11_rest 13 = .ok (.ifCond .ne 6, 3) := by decide +kernel
theorem dX11_rest_16 : decode cX11_rest 16 = .ok (.bipush (-101), 2) := by decide +kernel
theorem dX11_rest_18 : decode cX11_rest 18 = .ok (.ireturn, 1) := by decide +kernel
theorem dX11_rest_19 : decode cX11_rest 19 = .ok (.iload_n 3, 1) := by decide +kernel
theorem dX11_rest_20 : decode cX11_rest 20 = .ok (.ifCond .lt 8, 3) := by decide +kernel
theorem dX11_rest_23 : decode cX11_rest 23 = .ok (.iload_n 3, 1) := by decide +kernel
theorem dX11_rest_24 : decode cX11_rest 24 = .ok (.iconst 1, 1) := by decide +kernel
theorem dX11_rest_25 : decode cX11_rest 25 = .ok (.if_icmp .le 6, 3) := by decide +kernel
theorem dX11_rest_28 : decode cX11_rest 28 = .ok (.bipush (-102), 2) := by decide +kernel
theorem dX11_rest_30 : decode cX11_rest 30 = .ok (.ireturn, 1) := by decide +kernel
theorem dX11_rest_31 : decode cX11_rest 31 = .ok (.aload_n 0, 1) := by decide +kernel
theorem dX11_rest_32 : decode cX11_rest 32 = .ok (.invokevirtual 190, 3) := by decide +kernel
theorem dX11_rest_35 : decode cX11_rest 35 = .ok (.ifCond .ne 5, 3) := by decide +kernel
theorem dX11_rest_38 : decode cX11_rest 38 = .ok (.iload_n 3, 1) := by decide +kernel
theorem dX11_rest_39 : decode cX11_rest 39 = .ok (.ireturn, 1) := by decide +kernel
theorem dX11_rest_40 : decode cX11_rest 40 = .ok (.aload_n 0, 1) := by decide +kernel
theorem dX11_rest_41 : decode cX11_rest 41 = .ok (.getfield 61, 3) := by decide +kernel
theorem dX11_rest_44 : decode cX11_rest 44 = .ok (.aload_n 0, 1) := by decide +kernel
theorem dX11_rest_45 : decode cX11_rest 45 = .ok (.iload_n 2, 1) := by decide +kernel
theorem dX11_rest_46 : decode cX11_rest 46 = .ok (.invokevirtual 147, 3) := by decide +kernel
theorem dX11_rest_49 : decode cX11_rest 49 = .ok (.iload_n 1, 1) := by decide +kernel
theorem dX11_rest_50 : decode cX11_rest 50 = .ok (.invokevirtual 209, 3) := by decide +kernel
theorem dX11_rest_53 : decode cX11_rest 53 = .ok (.istore 4, 2) := by decide +kernel
theorem dX11_rest_55 : decode cX11_rest 55 = .ok (.iload 4, 2) := by decide +kernel
theorem dX11_rest_57 : decode cX11_rest 57 = .ok (.aload_n 0, 1) := by decide +kernel
theorem dX11_rest_58 : decode cX11_rest 58 = .ok (.getfield 61, 3) := by decide +kernel
theorem dX11_rest_61 : decode cX11_rest 61 = .ok (.getfield 212, 3) := by decide +kernel
theorem dX11_rest_64 : decode cX11_rest 64 = .ok (.invokestatic 213, 3) := by decide +kernel
theorem dX11_rest_67 : decode cX11_rest 67 = .ok (.istore 5, 2) := by decide +kernel
theorem dX11_rest_69 : decode cX11_rest 69 = .ok (.iload_n 3, 1) := by decide +kernel
theorem dX11_rest_70 : decode cX11_rest 70 = .ok (.ifCond .ne 8, 3) := by decide +kernel
theorem dX11_rest_73 : decode cX11_rest 73 = .ok (.iload 4, 2) := by decide +kernel
theorem dX11_rest_75 : decode cX11_rest 75 = .ok (.goto 10, 3) := by decide +kernel
theorem dX11_rest_78 : decode cX11_rest 78 = .ok (.aload_n 0, 1) := by decide +kernel
theorem dX11_rest_79 : decode cX11_rest 79 = .ok (.getfield 61, 3) := by decide +kernel
theorem dX11_rest_82 : decode cX11_rest 82 = .ok (.getfield 212, 3) := by decide +kernel
theorem dX11_rest_85 : decode cX11_rest 85 = .ok (.iload 5, 2) := by decide +kernel
theorem dX11_rest_87 : decode cX11_rest 87 = .ok (.idiv, 1) := by decide +kernel
theorem dX11_rest_88 : decode cX11_rest 88 = .ok (.ireturn, 1) := by decide +kernel
theorem dX11_howLong_0 : decode cX11_howLong 0 = .ok (.aload_n 0, 1) := by decide +kernel
theorem dX11_howLong_1 : decode cX11_howLong 1 = .ok (.iload_n 1, 1) := by decide +kernel
theorem dX11_howLong_2 : decode cX11_howLong 2 = .ok (.invokevirtual 134, 3) := by decide +kernel
theorem dX11_howLong_5 : decode cX11_howLong 5 = .ok (.ifCond .eq 11, 3) := by decide +kernel
theorem dX11_howLong_8 : decode cX11_howLong 8 = .ok (.aload_n 0, 1) := by decide +kernel
theorem dX11_howLong_9 : decode cX11_howLong 9 = .ok (.iload_n 2, 1) := by decide +kernel
theorem dX11_howLong_10 : decode cX11_howLong 10 = .ok (.invokevirtual 162, 3) := by decide +kernel
theorem dX11_howLong_13 : decode cX11_howLong 13 = .ok (.ifCond .ne 6, 3) := by decide +kernel
theorem dX11_howLong_16 : decode cX11_howLong 16 = .ok (.bipush (-101), 2) := by decide +kernel
theorem dX11_howLong_18 : decode cX11_howLong 18 = .ok (.ireturn, 1) := by decide +kernel
theorem dX11_howLong_19 : decode cX11_howLong 19 = .ok (.aload_n 0, 1) := by decide +kernel
theorem dX11_howLong_20 : decode cX11_howLong 20 = .ok (.getfield 216, 3) := by decide +kernel
theorem dX11_howLong_23 : decode cX11_howLong 23 = .ok (.bipush 6, 2) := by decide +kernel
theorem dX11_howLong_25 : decode cX11_howLong 25 = .ok (.if_icmp .lt 6, 3) := by decide +kernel
theorem dX11_howLong_28 : decode cX11_howLong 28 = .ok (.bipush (-103), 2) := by decide +kernel
theorem dX11_howLong_30 : decode cX11_howLong 30 = .ok (.ireturn, 1) := by decide +kernel
theorem dX11_howLong_31 : decode cX11_howLong 31 = .ok (.aload_n 0, 1) := by decide +kernel
theorem dX11_howLong_32 : decode cX11_howLong 32 = .ok (.dup, 1) := by decide +kernel
theorem dX11_howLong_33 : decode cX11_howLong 33 = .ok (.getfield 216, 3) := by decide +kernel
theorem dX11_howLong_36 : decode cX11_howLong 36 = .ok (.iconst 1, 1) := by decide +kernel
theorem dX11_howLong_37 : decode cX11_howLong 37 = .ok (.iadd, 1) := by decide +kernel
theorem dX11_howLong_38 : decode cX11_howLong 38 = .ok (.putfield 216, 3) := by decide +kernel
theorem dX11_howLong_41 : decode cX11_howLong 41 = .ok (.aload_n 0, 1) := by decide +kernel
theorem dX11_howLong_42 : decode cX11_howLong 42 = .ok (.iload_n 1, 1) := by decide +kernel
theorem dX11_howLong_43 : decode cX11_howLong 43 = .ok (.invokevirtual 147, 3) := by decide +kernel
theorem dX11_howLong_46 : decode cX11_howLong 46 = .ok (.astore_n 3, 1) := by decide +kernel
theorem dX11_howLong_47 : decode cX11_howLong 47 = .ok (.aload_n 0, 1) := by decide +kernel
theorem dX11_howLong_48 : decode cX11_howLong 48 = .ok (.getfield 61, 3) := by decide +kernel
theorem dX11_howLong_51 : decode cX11_howLong 51 = .ok (.invokevirtual 219, 3) := by decide +kernel
theorem dX11_howLong_54 : decode cX11_howLong 54 = .ok (.iconst 0, 1) := by decide +kernel
theorem dX11_howLong_55 : decode cX11_howLong 55 = .ok (.istore 4, 2) := by decide +kernel
theorem dX11_howLong_57 : decode cX11_howLong 57 = .ok (.iload 4, 2) := by decide +kernel
theorem dX11_howLong_59 : decode cX11_howLong 59 = .ok (.bipush 8, 2) := by decide +kernel
theorem dX11_howLong_61 : decode cX11_howLong 61 = .ok (.if_icmp .ge 55, 3) := by decide +kernel
theorem dX11_howLong_64 : decode cX11_howLong 64 = .ok (.aload_n 0, 1) := by decide +kernel
theorem dX11_howLong_65 : decode cX11_howLong 65 = .ok (.getfield 61, 3) := by decide +kernel
theorem dX11_howLong_68 : decode cX11_howLong 68 = .ok (.getfield 212, 3) := by decide +kernel
theorem dX11_howLong_71 : decode cX11_howLong 71 = .ok (.iconst 1, 1) := by decide +kernel
theorem dX11_howLong_72 : decode cX11_howLong 72 = .ok (.if_icmp .le 44, 3) := by decide +kernel
theorem dX11_howLong_75 : decode cX11_howLong 75 = .ok (.aload_n 0, 1) := by decide +kernel
theorem dX11_howLong_76 : decode cX11_howLong 76 = .ok (.getfield 61, 3) := by decide +kernel
theorem dX11_howLong_79 : decode cX11_howLong 79 = .ok (.aload_n 3, 1) := by decide +kernel
theorem dX11_howLong_80 : decode cX11_howLong 80 = .ok (.invokevirtual 202, 3) := by decide +kernel
theorem dX11_howLong_83 : decode cX11_howLong 83 = .ok (.iconst 0, 1) := by decide +kernel
theorem dX11_howLong_84 : decode cX11_howLong 84 = .ok (.invokestatic 222, 3) := by decide +kernel
theorem dX11_howLong_87 : decode cX11_howLong 87 = .ok (.istore 5, 2) := by decide +kernel
theorem dX11_howLong_89 : decode cX11_howLong 89 = .ok (.aload_n 0, 1) := by decide +kernel
theorem dX11_howLong_90 : decode cX11_howLong 90 = .ok (.getfield 61, 3) := by decide +kernel
theorem dX11_howLong_93 : decode cX11_howLong 93 = .ok (.aload_n 3, 1) := by decide +kernel
theorem dX11_howLong_94 : decode cX11_howLong 94 = .ok (.iload 5, 2) := by decide +kernel
theorem dX11_howLong_96 : decode cX11_howLong 96 = .ok (.aload_n 3, 1) := by decide +kernel
theorem dX11_howLong_97 : decode cX11_howLong 97 = .ok (.aload_n 0, 1) := by decide +kernel
theorem dX11_howLong_98 : decode cX11_howLong 98 = .ok (.getfield 57, 3) := by decide +kernel
theorem dX11_howLong_101 : decode cX11_howLong 101 = .ok (.iload 5, 2) := by decide +kernel
theorem dX11_howLong_103 : decode cX11_howLong 103 = .ok (.iload_n 2, 1) := by decide +kernel
theorem dX11_howLong_104 : decode cX11_howLong 104 = .ok (.invokevirtual 174, 3) := by decide +kernel
theorem dX11_howLong_107 : decode cX11_howLong 107 = .ok (.invokevirtual 227, 3) := by decide +kernel
theorem dX11_howLong_110 : decode cX11_howLong 110 = .ok (.iinc 4 1, 3) := by decide +kernel
theorem dX11_howLong_113 : decode cX11_howLong 113 = .ok (.goto (-56), 3) := by decide +kernel
theorem dX11_howLong_116 : decode cX11_howLong 116 = .ok (.aload_n 0, 1) := by decide +kernel
theorem dX11_howLong_117 : decode cX11_howLong 117 = .ok (.getfield 61, 3) := by decide +kernel
theorem dX11_howLong_120 : decode cX11_howLong 120 = .ok (.getfield 212, 3) := by decide +kernel
theorem dX11_howLong_123 : decode cX11_howLong 123 = .ok (.iconst 1, 1) := by decide +kernel
theorem dX11_howLong_124 : decode cX11_howLong 124 = .ok (.if_icmp .ne 8, 3) := by decide +kernel
theorem dX11_howLong_127 : decode cX11_howLong 127 = .ok (.iload 4, 2) := by decide +kernel
theorem dX11_howLong_129 : decode cX11_howLong 129 = .ok (.goto 4, 3) := by decide +kernel
theorem dX11_howLong_132 : decode cX11_howLong 132 = .ok (.iconst (-1), 1) := by decide +kernel
theorem dX11_howLong_133 : decode cX11_howLong 133 = .ok (.ireturn, 1) := by decide +kernel
theorem dX11_parts_0 : decode cX11_parts 0 = .ok (.aload_n 0, 1) := by decide +kernel
theorem dX11_parts_1 : decode cX11_parts 1 = .ok (.iload_n 1, 1) := by decide +kernel
theorem dX11_parts_2 : decode cX11_parts 2 = .ok (.invokevirtual 134, 3) := by decide +kernel
theorem dX11_parts_5 : decode cX11_parts 5 = .ok (.ifCond .ne 6, 3) := by decide +kernel
theorem dX11_parts_8 : decode cX11_parts 8 = .ok (.bipush (-101), 2) := by decide +kernel
theorem dX11_parts_10 : decode cX11_parts 10 = .ok (.ireturn, 1) := by decide +kernel
theorem dX11_parts_11 : decode cX11_parts 11 = .ok (.iload_n 2, 1) := by decide +kernel
theorem dX11_parts_12 : decode cX11_parts 12 = .ok (.ifCond .lt 8, 3) := by decide +kernel
theorem dX11_parts_15 : decode cX11_parts 15 = .ok (.iload_n 2, 1) := by decide +kernel
theorem dX11_parts_16 : decode cX11_parts 16 = .ok (.iconst 2, 1) := by decide +kernel
theorem dX11_parts_17 : decode cX11_parts 17 = .ok (.if_icmp .le 6, 3) := by decide +kernel
theorem dX11_parts_20 : decode cX11_parts 20 = .ok (.bipush (-102), 2) := by decide +kernel
theorem dX11_parts_22 : decode cX11_parts 22 = .ok (.ireturn, 1) := by decide +kernel
theorem dX11_parts_23 : decode cX11_parts 23 = .ok (.aload_n 0, 1) := by decide +kernel
theorem dX11_parts_24 : decode cX11_parts 24 = .ok (.getfield 57, 3) := by decide +kernel
theorem dX11_parts_27 : decode cX11_parts 27 = .ok (.getfield 133, 3) := by decide +kernel
theorem dX11_parts_30 : decode cX11_parts 30 = .ok (.bipush 64, 2) := by decide +kernel
theorem dX11_parts_32 : decode cX11_parts 32 = .ok (.if_icmp .gt 12, 3) := by decide +kernel
theorem dX11_parts_35 : decode cX11_parts 35 = .ok (.aload_n 0, 1) := by decide +kernel
theorem dX11_parts_36 : decode cX11_parts 36 = .ok (.getfield 231, 3) := by decide +kernel
theorem dX11_parts_39 : decode cX11_parts 39 = .ok (.bipush 9, 2) := by decide +kernel
theorem dX11_parts_41 : decode cX11_parts 41 = .ok (.if_icmp .lt 6, 3) := by decide +kernel
theorem dX11_parts_44 : decode cX11_parts 44 = .ok (.bipush (-103), 2) := by decide +kernel
theorem dX11_parts_46 : decode cX11_parts 46 = .ok (.ireturn, 1) := by decide +kernel
theorem dX11_parts_47 : decode cX11_parts 47 = .ok (.aload_n 0, 1) := by decide +kernel
theorem dX11_parts_48 : decode cX11_parts 48 = .ok (.dup, 1) := by decide +kernel
theorem dX11_parts_49 : decode cX11_parts 49 = .ok (.getfield 231, 3) := by decide +kernel
theorem dX11_parts_52 : decode cX11_parts 52 = .ok (.iconst 1, 1) := by decide +kernel
theorem dX11_parts_53 : decode cX11_parts 53 = .ok (.iadd, 1) := by decide +kernel
theorem dX11_parts_54 : decode cX11_parts 54 = .ok (.putfield 231, 3) := by decide +kernel
theorem dX11_parts_57 : decode cX11_parts 57 = .ok (.aload_n 0, 1) := by decide +kernel
theorem dX11_parts_58 : decode cX11_parts 58 = .ok (.getfield 68, 3) := by decide +kernel
theorem dX11_parts_61 : decode cX11_parts 61 = .ok (.aload_n 0, 1) := by decide +kernel
theorem dX11_parts_62 : decode cX11_parts 62 = .ok (.iload_n 1, 1) := by decide +kernel
theorem dX11_parts_63 : decode cX11_parts 63 = .ok (.invokevirtual 147, 3) := by decide +kernel
theorem dX11_parts_66 : decode cX11_parts 66 = .ok (.invokevirtual 234, 3) := by decide +kernel
theorem dX11_parts_69 : decode cX11_parts 69 = .ok (.iload_n 2, 1) := by decide +kernel
theorem dX11_parts_70 : decode cX11_parts 70 = .ok (.ifCond .ne 11, 3) := by decide +kernel
theorem dX11_parts_73 : decode cX11_parts 73 = .ok (.aload_n 0, 1) := by decide +kernel
theorem dX11_parts_74 : decode cX11_parts 74 = .ok (.getfield 68, 3) := by decide +kernel
theorem dX11_parts_77 : decode cX11_parts 77 = .ok (.getfield 238, 3) := by decide +kernel
theorem dX11_parts_80 : decode cX11_parts 80 = .ok (.ireturn, 1) := by decide +kernel
theorem dX11_parts_81 : decode cX11_parts 81 = .ok (.iload_n 2, 1) := by decide +kernel
theorem dX11_parts_82 : decode cX11_parts 82 = .ok (.iconst 1, 1) := by decide +kernel
theorem dX11_parts_83 : decode cX11_parts 83 = .ok (.if_icmp .ne 13, 3) := by decide +kernel
theorem dX11_parts_86 : decode cX11_parts 86 = .ok (.aload_n 0, 1) := by decide +kernel
theorem dX11_parts_87 : decode cX11_parts 87 = .ok (.getfield 68, 3) := by decide +kernel
theorem dX11_parts_90 : decode cX11_parts 90 = .ok (.getfield 241, 3) := by decide +kernel
theorem dX11_parts_93 : decode cX11_parts 93 = .ok (.goto 10, 3) := by decide +kernel
theorem dX11_parts_96 : decode cX11_parts 96 = .ok (.aload_n 0, 1) := by decide +kernel
theorem dX11_parts_97 : decode cX11_parts 97 = .ok (.getfield 68, 3) := by decide +kernel
theorem dX11_parts_100 : decode cX11_parts 100 = .ok (.getfield 244, 3) := by decide +kernel
theorem dX11_parts_103 : decode cX11_parts 103 = .ok (.ireturn, 1) := by decide +kernel
theorem dX11_tries_0 : decode cX11_tries 0 = .ok (.aload_n 0, 1) := by decide +kernel
theorem dX11_tries_1 : decode cX11_tries 1 = .ok (.iload_n 1, 1) := by decide +kernel
theorem dX11_tries_2 : decode cX11_tries 2 = .ok (.invokevirtual 134, 3) := by decide +kernel
theorem dX11_tries_5 : decode cX11_tries 5 = .ok (.ifCond .ne 6, 3) := by decide +kernel
theorem dX11_tries_8 : decode cX11_tries 8 = .ok (.bipush (-101), 2) := by decide +kernel
theorem dX11_tries_10 : decode cX11_tries 10 = .ok (.ireturn, 1) := by decide +kernel
theorem dX11_tries_11 : decode cX11_tries 11 = .ok (.iload_n 2, 1) := by decide +kernel
theorem dX11_tries_12 : decode cX11_tries 12 = .ok (.iconst 1, 1) := by decide +kernel
theorem dX11_tries_13 : decode cX11_tries 13 = .ok (.if_icmp .lt 24, 3) := by decide +kernel
theorem dX11_tries_16 : decode cX11_tries 16 = .ok (.iload_n 2, 1) := by decide +kernel
theorem dX11_tries_17 : decode cX11_tries 17 = .ok (.bipush 20, 2) := by decide +kernel
theorem dX11_tries_19 : decode cX11_tries 19 = .ok (.if_icmp .gt 18, 3) := by decide +kernel
theorem dX11_tries_22 : decode cX11_tries 22 = .ok (.iload_n 3, 1) := by decide +kernel
theorem dX11_tries_23 : decode cX11_tries 23 = .ok (.ifCond .lt 14, 3) := by decide +kernel
theorem dX11_tries_26 : decode cX11_tries 26 = .ok (.iload 4, 2) := by decide +kernel
theorem dX11_tries_28 : decode cX11_tries 28 = .ok (.ifCond .lt 9, 3) := by decide +kernel
theorem dX11_tries_31 : decode cX11_tries 31 = .ok (.iload 4, 2) := by decide +kernel
theorem dX11_tries_33 : decode cX11_tries 33 = .ok (.iconst 2, 1) := by decide +kernel
theorem dX11_tries_34 : decode cX11_tries 34 = .ok (.if_icmp .le 6, 3) := by decide +kernel
theorem dX11_tries_37 : decode cX11_tries 37 = .ok (.bipush (-102), 2) := by decide +kernel
theorem dX11_tries_39 : decode cX11_tries 39 = .ok (.ireturn, 1) := by decide +kernel
theorem dX11_tries_40 : decode cX11_tries 40 = .ok (.aload_n 0, 1) := by decide +kernel
theorem dX11_tries_41 : decode cX11_tries 41 = .ok (.getfield 77, 3) := by decide +kernel
theorem dX11_tries_44 : decode cX11_tries 44 = .ok (.aload_n 0, 1) := by decide +kernel
theorem dX11_tries_45 : decode cX11_tries 45 = .ok (.iload_n 1, 1) := by decide +kernel
theorem dX11_tries_46 : decode cX11_tries 46 = .ok (.invokevirtual 147, 3) := by decide +kernel
theorem dX11_tries_49 : decode cX11_tries 49 = .ok (.iload_n 2, 1) := by decide +kernel
theorem dX11_tries_50 : decode cX11_tries 50 = .ok (.iload_n 3, 1) := by decide +kernel
theorem dX11_tries_51 : decode cX11_tries 51 = .ok (.invokevirtual 247, 3) := by decide +kernel
theorem dX11_tries_54 : decode cX11_tries 54 = .ok (.iload 4, 2) := by decide +kernel
theorem dX11_tries_56 : decode cX11_tries 56 = .ok (.ifCond .ne 11, 3) := by decide +kernel
theorem dX11_tries_59 : decode cX11_tries 59 = .ok (.aload_n 0, 1) := by decide +kernel
theorem dX11_tries_60 : decode cX11_tries 60 = .ok (.getfield 77, 3) := by decide +kernel
theorem dX11_tries_63 : decode cX11_tries 63 = .ok (.getfield 250, 3) := by decide +kernel
theorem dX11_tries_66 : decode cX11_tries 66 = .ok (.ireturn, 1) := by decide +kernel
theorem dX11_tries_67 : decode cX11_tries 67 = .ok (.iload 4, 2) := by decide +kernel
theorem dX11_tries_69 : decode cX11_tries 69 = .ok (.iconst 1, 1) := by decide +kernel
theorem dX11_tries_70 : decode cX11_tries 70 = .ok (.if_icmp .ne 13, 3) := by decide +kernel
theorem dX11_tries_73 : decode cX11_tries 73 = .ok (.aload_n 0, 1) := by decide +kernel
theorem dX11_tries_74 : decode cX11_tries 74 = .ok (.getfield 77, 3) := by decide +kernel
theorem dX11_tries_77 : decode cX11_tries 77 = .ok (.getfield 253, 3) := by decide +kernel
theorem dX11_tries_80 : decode cX11_tries 80 = .ok (.goto 10, 3) := by decide +kernel
theorem dX11_tries_83 : decode cX11_tries 83 = .ok (.aload_n 0, 1) := by decide +kernel
theorem dX11_tries_84 : decode cX11_tries 84 = .ok (.getfield 77, 3) := by decide +kernel
theorem dX11_tries_87 : decode cX11_tries 87 = .ok (.getfield 256, 3) := by decide +kernel
theorem dX11_tries_90 : decode cX11_tries 90 = .ok (.ireturn, 1) := by decide +kernel
theorem dX11_image_0 : decode cX11_image 0 = .ok (.aload_n 0, 1) := by decide +kernel
theorem dX11_image_1 : decode cX11_image 1 = .ok (.invokevirtual 193, 3) := by decide +kernel
theorem dX11_image_4 : decode cX11_image 4 = .ok (.ifCond .ne 6, 3) := by decide +kernel
theorem dX11_image_7 : decode cX11_image 7 = .ok (.bipush (-103), 2) := by decide +kernel
theorem dX11_image_9 : decode cX11_image 9 = .ok (.ireturn, 1) := by decide +kernel
theorem dX11_image_10 : decode cX11_image 10 = .ok (.aload_n 0, 1) := by decide +kernel
theorem dX11_image_11 : decode cX11_image 11 = .ok (.getfield 46, 3) := by decide +kernel
theorem dX11_image_14 : decode cX11_image 14 = .ok (.aload_n 0, 1) := by decide +kernel
theorem dX11_image_15 : decode cX11_image 15 = .ok (.getfield 42, 3) := by decide +kernel
theorem dX11_image_18 : decode cX11_image 18 = .ok (.invokevirtual 259, 3) := by decide +kernel
theorem dX11_image_21 : decode cX11_image 21 = .ok (.aload_n 0, 1) := by decide +kernel
theorem dX11_image_22 : decode cX11_image 22 = .ok (.iconst 1, 1) := by decide +kernel
theorem dX11_image_23 : decode cX11_image 23 = .ok (.putfield 126, 3) := by decide +kernel
theorem dX11_image_26 : decode cX11_image 26 = .ok (.aload_n 0, 1) := by decide +kernel
theorem dX11_image_27 : decode cX11_image 27 = .ok (.getfield 46, 3) := by decide +kernel
theorem dX11_image_30 : decode cX11_image 30 = .ok (.getfield 125, 3) := by decide +kernel
theorem dX11_image_33 : decode cX11_image 33 = .ok (.ireturn, 1) := by decide +kernel
theorem dX11_restore_0 : decode cX11_restore 0 = .ok (.aload_n 0, 1) := by decide +kernel
theorem dX11_restore_1 : decode cX11_restore 1 = .ok (.getfield 126, 3) := by decide +kernel
theorem dX11_restore_4 : decode cX11_restore 4 = .ok (.ifCond .ne 6, 3) := by decide +kernel
theorem dX11_restore_7 : decode cX11_restore 7 = .ok (.bipush (-103), 2) := by decide +kernel
theorem dX11_restore_9 : decode cX11_restore 9 = .ok (.ireturn, 1) := by decide +kernel
theorem dX11_restore_10 : decode cX11_restore 10 = .ok (.aload_n 0, 1) := by decide +kernel
theorem dX11_restore_11 : decode cX11_restore 11 = .ok (.getfield 42, 3) := by decide +kernel
theorem dX11_restore_14 : decode cX11_restore 14 = .ok (.aload_n 0, 1) := by decide +kernel
theorem dX11_restore_15 : decode cX11_restore 15 = .ok (.getfield 46, 3) := by decide +kernel
theorem dX11_restore_18 : decode cX11_restore 18 = .ok (.invokevirtual 259, 3) := by decide +kernel
theorem dX11_restore_21 : decode cX11_restore 21 = .ok (.aload_n 0, 1) := by decide +kernel
theorem dX11_restore_22 : decode cX11_restore 22 = .ok (.getfield 42, 3) := by decide +kernel
theorem dX11_restore_25 : decode cX11_restore 25 = .ok (.getfield 125, 3) := by decide +kernel
theorem dX11_restore_28 : decode cX11_restore 28 = .ok (.ireturn, 1) := by decide +kernel
theorem dX11_count_0 : decode cX11_count 0 = .ok (.iload_n 1, 1) := by decide +kernel
theorem dX11_count_1 : decode cX11_count 1 = .ok (.tableswitch 143 0 10 #[59, 67, 75, 83, 88, 96, 115, 123, 128, 133, 138], 59) := by decide +kernel
theorem dX11_count_60 : decode cX11_count 60 = .ok (.aload_n 0, 1) := by decide +kernel
theorem dX11_count_61 : decode cX11_count 61 = .ok (.getfield 57, 3) := by decide +kernel
theorem dX11_count_64 : decode cX11_count 64 = .ok (.getfield 168, 3) := by decide +kernel
theorem dX11_count_67 : decode cX11_count 67 = .ok (.ireturn, 1) := by decide +kernel
theorem dX11_count_68 : decode cX11_count 68 = .ok (.aload_n 0, 1) := by decide +kernel
theorem dX11_count_69 : decode cX11_count 69 = .ok (.getfield 57, 3) := by decide +kernel
theorem dX11_count_72 : decode cX11_count 72 = .ok (.getfield 263, 3) := by decide +kernel
theorem dX11_count_75 : decode cX11_count 75 = .ok (.ireturn, 1) := by decide +kernel
theorem dX11_count_76 : decode cX11_count 76 = .ok (.aload_n 0, 1) := by decide +kernel
theorem dX11_count_77 : decode cX11_count 77 = .ok (.getfield 57, 3) := by decide +kernel
theorem dX11_count_80 : decode cX11_count 80 = .ok (.getfield 133, 3) := by decide +kernel
theorem dX11_count_83 : decode cX11_count 83 = .ok (.ireturn, 1) := by decide +kernel
theorem dX11_count_84 : decode cX11_count 84 = .ok (.aload_n 0, 1) := by decide +kernel
theorem dX11_count_85 : decode cX11_count 85 = .ok (.getfield 110, 3) := by decide +kernel
theorem dX11_count_88 : decode cX11_count 88 = .ok (.ireturn, 1) := by decide +kernel
theorem dX11_count_89 : decode cX11_count 89 = .ok (.aload_n 0, 1) := by decide +kernel
theorem dX11_count_90 : decode cX11_count 90 = .ok (.getfield 42, 3) := by decide +kernel
theorem dX11_count_93 : decode cX11_count 93 = .ok (.getfield 125, 3) := by decide +kernel
theorem dX11_count_96 : decode cX11_count 96 = .ok (.ireturn, 1) := by decide +kernel
theorem dX11_count_97 : decode cX11_count 97 = .ok (.aload_n 0, 1) := by decide +kernel
theorem dX11_count_98 : decode cX11_count 98 = .ok (.invokevirtual 193, 3) := by decide +kernel
theorem dX11_count_101 : decode cX11_count 101 = .ok (.ifCond .eq 13, 3) := by decide +kernel
theorem dX11_count_104 : decode cX11_count 104 = .ok (.aload_n 0, 1) := by decide +kernel
theorem dX11_count_105 : decode cX11_count 105 = .ok (.getfield 42, 3) := by decide +kernel
theorem dX11_count_108 : decode cX11_count 108 = .ok (.getfield 122, 3) := by decide +kernel
theorem dX11_count_111 : decode cX11_count 111 = .ok (.goto 4, 3) := by decide +kernel
theorem dX11_count_114 : decode cX11_count 114 = .ok (.iconst (-1), 1) := by decide +kernel
theorem dX11_count_115 : decode cX11_count 115 = .ok (.ireturn, 1) := by decide +kernel
theorem dX11_count_116 : decode cX11_count 116 = .ok (.aload_n 0, 1) := by decide +kernel
theorem dX11_count_117 : decode cX11_count 117 = .ok (.getfield 12, 3) := by decide +kernel
theorem dX11_count_120 : decode cX11_count 120 = .ok (.getfield 81, 3) := by decide +kernel
theorem dX11_count_123 : decode cX11_count 123 = .ok (.ireturn, 1) := by decide +kernel
theorem dX11_count_124 : decode cX11_count 124 = .ok (.aload_n 0, 1) := by decide +kernel
theorem dX11_count_125 : decode cX11_count 125 = .ok (.getfield 130, 3) := by decide +kernel
theorem dX11_count_128 : decode cX11_count 128 = .ok (.ireturn, 1) := by decide +kernel
theorem dX11_count_129 : decode cX11_count 129 = .ok (.aload_n 0, 1) := by decide +kernel
theorem dX11_count_130 : decode cX11_count 130 = .ok (.getfield 199, 3) := by decide +kernel
theorem dX11_count_133 : decode cX11_count 133 = .ok (.ireturn, 1) := by decide +kernel
theorem dX11_count_134 : decode cX11_count 134 = .ok (.aload_n 0, 1) := by decide +kernel
theorem dX11_count_135 : decode cX11_count 135 = .ok (.getfield 216, 3) := by decide +kernel
theorem dX11_count_138 : decode cX11_count 138 = .ok (.ireturn, 1) := by decide +kernel
theorem dX11_count_139 : decode cX11_count 139 = .ok (.aload_n 0, 1) := by decide +kernel
theorem dX11_count_140 : decode cX11_count 140 = .ok (.getfield 231, 3) := by decide +kernel
theorem dX11_count_143 : decode cX11_count 143 = .ok (.ireturn, 1) := by decide +kernel
theorem dX11_count_144 : decode cX11_count 144 = .ok (.bipush (-102), 2) := by decide +kernel
theorem dX11_count_146 : decode cX11_count 146 = .ok (.ireturn, 1) := by decide +kernel
theorem dX11_digest_0 : decode cX11_digest 0 = .ok (.ldc2_w 265, 3) := by decide +kernel
theorem dX11_digest_3 : decode cX11_digest 3 = .ok (.lstore_n 1, 1) := by decide +kernel
theorem dX11_digest_4 : decode cX11_digest 4 = .ok (.iconst 0, 1) := by decide +kernel
theorem dX11_digest_5 : decode cX11_digest 5 = .ok (.istore_n 3, 1) := by decide +kernel
theorem dX11_digest_6 : decode cX11_digest 6 = .ok (.iload_n 3, 1) := by decide +kernel
theorem dX11_digest_7 : decode cX11_digest 7 = .ok (.aload_n 0, 1) := by decide +kernel
theorem dX11_digest_8 : decode cX11_digest 8 = .ok (.getfield 110, 3) := by decide +kernel
theorem dX11_digest_11 : decode cX11_digest 11 = .ok (.if_icmp .ge 58, 3) := by decide +kernel
theorem dX11_digest_14 : decode cX11_digest 14 = .ok (.iconst 0, 1) := by decide +kernel
theorem dX11_digest_15 : decode cX11_digest 15 = .ok (.istore 4, 2) := by decide +kernel
theorem dX11_digest_17 : decode cX11_digest 17 = .ok (.iload 4, 2) := by decide +kernel
theorem dX11_digest_19 : decode cX11_digest 19 = .ok (.iconst 4, 1) := by decide +kernel
theorem dX11_digest_20 : decode cX11_digest 20 = .ok (.if_icmp .ge 21, 3) := by decide +kernel
theorem dX11_digest_23 : decode cX11_digest 23 = .ok (.lload_n 1, 1) := by decide +kernel
theorem dX11_digest_24 : decode cX11_digest 24 = .ok (.aload_n 0, 1) := by decide +kernel
theorem dX11_digest_25 : decode cX11_digest 25 = .ok (.iload_n 3, 1) := by decide +kernel
theorem dX11_digest_26 : decode cX11_digest 26 = .ok (.iload 4, 2) := by decide +kernel
theorem dX11_digest_28 : decode cX11_digest 28 = .ok (.invokevirtual 267, 3) := by decide +kernel
theorem dX11_digest_31 : decode cX11_digest 31 = .ok (.invokestatic 270, 3) := by decide +kernel
theorem dX11_digest_34 : decode cX11_digest 34 = .ok (.lstore_n 1, 1) := by decide +kernel
theorem dX11_digest_35 : decode cX11_digest 35 = .ok (.iinc 4 1, 3) := by decide +kernel
theorem dX11_digest_38 : decode cX11_digest 38 = .ok (.goto (-21), 3) := by decide +kernel
theorem dX11_digest_41 : decode cX11_digest 41 = .ok (.lload_n 1, 1) := by decide +kernel
theorem dX11_digest_42 : decode cX11_digest 42 = .ok (.aload_n 0, 1) := by decide +kernel
theorem dX11_digest_43 : decode cX11_digest 43 = .ok (.iconst 0, 1) := by decide +kernel
theorem dX11_digest_44 : decode cX11_digest 44 = .ok (.iload_n 3, 1) := by decide +kernel
theorem dX11_digest_45 : decode cX11_digest 45 = .ok (.iconst 0, 1) := by decide +kernel
theorem dX11_digest_46 : decode cX11_digest 46 = .ok (.invokevirtual 274, 3) := by decide +kernel
theorem dX11_digest_49 : decode cX11_digest 49 = .ok (.invokestatic 270, 3) := by decide +kernel
theorem dX11_digest_52 : decode cX11_digest 52 = .ok (.aload_n 0, 1) := by decide +kernel
theorem dX11_digest_53 : decode cX11_digest 53 = .ok (.iconst 0, 1) := by decide +kernel
theorem dX11_digest_54 : decode cX11_digest 54 = .ok (.iload_n 3, 1) := by decide +kernel
theorem dX11_digest_55 : decode cX11_digest 55 = .ok (.iconst 1, 1) := by decide +kernel
theorem dX11_digest_56 : decode cX11_digest 56 = .ok (.invokevirtual 274, 3) := by decide +kernel
theorem dX11_digest_59 : decode cX11_digest 59 = .ok (.invokestatic 270, 3) := by decide +kernel
theorem dX11_digest_62 : decode cX11_digest 62 = .ok (.lstore_n 1, 1) := by decide +kernel
theorem dX11_digest_63 : decode cX11_digest 63 = .ok (.iinc 3 1, 3) := by decide +kernel
theorem dX11_digest_66 : decode cX11_digest 66 = .ok (.goto (-60), 3) := by decide +kernel
theorem dX11_digest_69 : decode cX11_digest 69 = .ok (.iconst 0, 1) := by decide +kernel
theorem dX11_digest_70 : decode cX11_digest 70 = .ok (.istore_n 3, 1) := by decide +kernel
theorem dX11_digest_71 : decode cX11_digest 71 = .ok (.iload_n 3, 1) := by decide +kernel
theorem dX11_digest_72 : decode cX11_digest 72 = .ok (.aload_n 0, 1) := by decide +kernel
theorem dX11_digest_73 : decode cX11_digest 73 = .ok (.getfield 42, 3) := by decide +kernel
theorem dX11_digest_76 : decode cX11_digest 76 = .ok (.getfield 125, 3) := by decide +kernel
theorem dX11_digest_79 : decode cX11_digest 79 = .ok (.if_icmp .ge 36, 3) := by decide +kernel
theorem dX11_digest_82 : decode cX11_digest 82 = .ok (.iconst 0, 1) := by decide +kernel
theorem dX11_digest_83 : decode cX11_digest 83 = .ok (.istore 4, 2) := by decide +kernel
theorem dX11_digest_85 : decode cX11_digest 85 = .ok (.iload 4, 2) := by decide +kernel
theorem dX11_digest_87 : decode cX11_digest 87 = .ok (.iconst 3, 1) := by decide +kernel
theorem dX11_digest_88 : decode cX11_digest 88 = .ok (.if_icmp .ge 21, 3) := by decide +kernel
theorem dX11_digest_91 : decode cX11_digest 91 = .ok (.lload_n 1, 1) := by decide +kernel
theorem dX11_digest_92 : decode cX11_digest 92 = .ok (.aload_n 0, 1) := by decide +kernel
theorem dX11_digest_93 : decode cX11_digest 93 = .ok (.iload_n 3, 1) := by decide +kernel
theorem dX11_digest_94 : decode cX11_digest 94 = .ok (.iload 4, 2) := by decide +kernel
theorem dX11_digest_96 : decode cX11_digest 96 = .ok (.invokevirtual 278, 3) := by decide +kernel
theorem dX11_digest_99 : decode cX11_digest 99 = .ok (.invokestatic 270, 3) := by decide +kernel
theorem dX11_digest_102 : decode cX11_digest 102 = .ok (.lstore_n 1, 1) := by decide +kernel
theorem dX11_digest_103 : decode cX11_digest 103 = .ok (.iinc 4 1, 3) := by decide +kernel
theorem dX11_digest_106 : decode cX11_digest 106 = .ok (.goto (-21), 3) := by decide +kernel
theorem dX11_digest_109 : decode cX11_digest 109 = .ok (.iinc 3 1, 3) := by decide +kernel
theorem dX11_digest_112 : decode cX11_digest 112 = .ok (.goto (-41), 3) := by decide +kernel
theorem dX11_digest_115 : decode cX11_digest 115 = .ok (.aload_n 0, 1) := by decide +kernel
theorem dX11_digest_116 : decode cX11_digest 116 = .ok (.invokevirtual 193, 3) := by decide +kernel
theorem dX11_digest_119 : decode cX11_digest 119 = .ok (.ifCond .eq 20, 3) := by decide +kernel
theorem dX11_digest_122 : decode cX11_digest 122 = .ok (.lload_n 1, 1) := by decide +kernel
theorem dX11_digest_123 : decode cX11_digest 123 = .ok (.aload_n 0, 1) := by decide +kernel
theorem dX11_digest_124 : decode cX11_digest 124 = .ok (.invokevirtual 281, 3) := by decide +kernel
theorem dX11_digest_127 : decode cX11_digest 127 = .ok (.invokestatic 270, 3) := by decide +kernel
theorem dX11_digest_130 : decode cX11_digest 130 = .ok (.aload_n 0, 1) := by decide +kernel
theorem dX11_digest_131 : decode cX11_digest 131 = .ok (.iconst 0, 1) := by decide +kernel
theorem dX11_digest_132 : decode cX11_digest 132 = .ok (.invokevirtual 284, 3) := by decide +kernel
theorem dX11_digest_135 : decode cX11_digest 135 = .ok (.invokestatic 270, 3) := by decide +kernel
theorem dX11_digest_138 : decode cX11_digest 138 = .ok (.lstore_n 1, 1) := by decide +kernel
theorem dX11_digest_139 : decode cX11_digest 139 = .ok (.iconst 0, 1) := by decide +kernel
theorem dX11_digest_140 : decode cX11_digest 140 = .ok (.istore_n 3, 1) := by decide +kernel
theorem dX11_digest_141 : decode cX11_digest 141 = .ok (.iload_n 3, 1) := by decide +kernel
theorem dX11_digest_142 : decode cX11_digest 142 = .ok (.aload_n 0, 1) := by decide +kernel
theorem dX11_digest_143 : decode cX11_digest 143 = .ok (.getfield 12, 3) := by decide +kernel
theorem dX11_digest_146 : decode cX11_digest 146 = .ok (.getfield 81, 3) := by decide +kernel
theorem dX11_digest_149 : decode cX11_digest 149 = .ok (.if_icmp .ge 23, 3) := by decide +kernel
theorem dX11_digest_152 : decode cX11_digest 152 = .ok (.lload_n 1, 1) := by decide +kernel
theorem dX11_digest_153 : decode cX11_digest 153 = .ok (.aload_n 0, 1) := by decide +kernel
theorem dX11_digest_154 : decode cX11_digest 154 = .ok (.getfield 12, 3) := by decide +kernel
theorem dX11_digest_157 : decode cX11_digest 157 = .ok (.getfield 287, 3) := by decide +kernel
theorem dX11_digest_160 : decode cX11_digest 160 = .ok (.iload_n 3, 1) := by decide +kernel
theorem dX11_digest_161 : decode cX11_digest 161 = .ok (.iaload, 1) := by decide +kernel
theorem dX11_digest_162 : decode cX11_digest 162 = .ok (.invokestatic 270, 3) := by decide +kernel
theorem dX11_digest_165 : decode cX11_digest 165 = .ok (.lstore_n 1, 1) := by decide +kernel
theorem dX11_digest_166 : decode cX11_digest 166 = .ok (.iinc 3 1, 3) := by decide +kernel
theorem dX11_digest_169 : decode cX11_digest 169 = .ok (.goto (-28), 3) := by decide +kernel
theorem dX11_digest_172 : decode cX11_digest 172 = .ok (.iconst 0, 1) := by decide +kernel
theorem dX11_digest_173 : decode cX11_digest 173 = .ok (.istore_n 3, 1) := by decide +kernel
theorem dX11_digest_174 : decode cX11_digest 174 = .ok (.iload_n 3, 1) := by decide +kernel
theorem dX11_digest_175 : decode cX11_digest 175 = .ok (.bipush 11, 2) := by decide +kernel
theorem dX11_digest_177 : decode cX11_digest 177 = .ok (.if_icmp .ge 19, 3) := by decide +kernel
theorem dX11_digest_180 : decode cX11_digest 180 = .ok (.lload_n 1, 1) := by decide +kernel
theorem dX11_digest_181 : decode cX11_digest 181 = .ok (.aload_n 0, 1) := by decide +kernel
theorem dX11_digest_182 : decode cX11_digest 182 = .ok (.iload_n 3, 1) := by decide +kernel
theorem dX11_digest_183 : decode cX11_digest 183 = .ok (.invokevirtual 290, 3) := by decide +kernel
theorem dX11_digest_186 : decode cX11_digest 186 = .ok (.invokestatic 270, 3) := by decide +kernel
theorem dX11_digest_189 : decode cX11_digest 189 = .ok (.lstore_n 1, 1) := by decide +kernel
theorem dX11_digest_190 : decode cX11_digest 190 = .ok (.iinc 3 1, 3) := by decide +kernel
theorem dX11_digest_193 : decode cX11_digest 193 = .ok (.goto (-19), 3) := by decide +kernel
theorem dX11_digest_196 : decode cX11_digest 196 = .ok (.lload_n 1, 1) := by decide +kernel
theorem dX11_digest_197 : decode cX11_digest 197 = .ok (.lreturn, 1) := by decide +kernel
theorem dX11_with_0 : decode cX11_with 0 = .ok (.ldc2_w 293, 3) := by decide +kernel
theorem dX11_with_3 : decode cX11_with 3 = .ok (.lload_n 0, 1) := by decide +kernel
theorem dX11_with_4 : decode cX11_with 4 = .ok (.lmul, 1) := by decide +kernel
theorem dX11_with_5 : decode cX11_with 5 = .ok (.iload_n 2, 1) := by decide +kernel
theorem dX11_with_6 : decode cX11_with 6 = .ok (.i2l, 1) := by decide +kernel
theorem dX11_with_7 : decode cX11_with 7 = .ok (.ladd, 1) := by decide +kernel
theorem dX11_with_8 : decode cX11_with 8 = .ok (.lreturn, 1) := by decide +kernel
theorem dX11_isGameOn_0 : decode cX11_isGameOn 0 = .ok (.aload_n 0, 1) := by decide +kernel
theorem dX11_isGameOn_1 : decode cX11_isGameOn 1 = .ok (.getfield 57, 3) := by decide +kernel
theorem dX11_isGameOn_4 : decode cX11_isGameOn 4 = .ok (.getfield 133, 3) := by decide +kernel
theorem dX11_isGameOn_7 : decode cX11_isGameOn 7 = .ok (.ifCond .le 7, 3) := by decide +kernel
theorem dX11_isGameOn_10 : decode cX11_isGameOn 10 = .ok (.iconst 1, 1) := by decide +kernel
theorem dX11_isGameOn_11 : decode cX11_isGameOn 11 = .ok (.goto 4, 3) := by decide +kernel
theorem dX11_isGameOn_14 : decode cX11_isGameOn 14 = .ok (.iconst 0, 1) := by decide +kernel
theorem dX11_isGameOn_15 : decode cX11_isGameOn 15 = .ok (.ireturn, 1) := by decide +kernel
theorem dX11_isJudge_0 : decode cX11_isJudge 0 = .ok (.iload_n 1, 1) := by decide +kernel
theorem dX11_isJudge_1 : decode cX11_isJudge 1 = .ok (.ifCond .lt 15, 3) := by decide +kernel
theorem dX11_isJudge_4 : decode cX11_isJudge 4 = .ok (.iload_n 1, 1) := by decide +kernel
theorem dX11_isJudge_5 : decode cX11_isJudge 5 = .ok (.aload_n 0, 1) := by decide +kernel
theorem dX11_isJudge_6 : decode cX11_isJudge 6 = .ok (.getfield 110, 3) := by decide +kernel
theorem dX11_isJudge_9 : decode cX11_isJudge 9 = .ok (.if_icmp .ge 7, 3) := by decide +kernel
theorem dX11_isJudge_12 : decode cX11_isJudge 12 = .ok (.iconst 1, 1) := by decide +kernel
theorem dX11_isJudge_13 : decode cX11_isJudge 13 = .ok (.goto 4, 3) := by decide +kernel
theorem dX11_isJudge_16 : decode cX11_isJudge 16 = .ok (.iconst 0, 1) := by decide +kernel
theorem dX11_isJudge_17 : decode cX11_isJudge 17 = .ok (.ireturn, 1) := by decide +kernel
theorem dX11_isRow_0 : decode cX11_isRow 0 = .ok (.iload_n 1, 1) := by decide +kernel
theorem dX11_isRow_1 : decode cX11_isRow 1 = .ok (.ifCond .lt 18, 3) := by decide +kernel
theorem dX11_isRow_4 : decode cX11_isRow 4 = .ok (.iload_n 1, 1) := by decide +kernel
theorem dX11_isRow_5 : decode cX11_isRow 5 = .ok (.aload_n 0, 1) := by decide +kernel
theorem dX11_isRow_6 : decode cX11_isRow 6 = .ok (.getfield 57, 3) := by decide +kernel
theorem dX11_isRow_9 : decode cX11_isRow 9 = .ok (.getfield 133, 3) := by decide +kernel
theorem dX11_isRow_12 : decode cX11_isRow 12 = .ok (.if_icmp .ge 7, 3) := by decide +kernel
theorem dX11_isRow_15 : decode cX11_isRow 15 = .ok (.iconst 1, 1) := by decide +kernel
theorem dX11_isRow_16 : decode cX11_isRow 16 = .ok (.goto 4, 3) := by decide +kernel
theorem dX11_isRow_19 : decode cX11_isRow 19 = .ok (.iconst 0, 1) := by decide +kernel
theorem dX11_isRow_20 : decode cX11_isRow 20 = .ok (.ireturn, 1) := by decide +kernel
theorem dX11_isKind_0 : decode cX11_isKind 0 = .ok (.iload_n 0, 1) := by decide +kernel
theorem dX11_isKind_1 : decode cX11_isKind 1 = .ok (.ifCond .lt 12, 3) := by decide +kernel
theorem dX11_isKind_4 : decode cX11_isKind 4 = .ok (.iload_n 0, 1) := by decide +kernel
theorem dX11_isKind_5 : decode cX11_isKind 5 = .ok (.iconst 5, 1) := by decide +kernel
theorem dX11_isKind_6 : decode cX11_isKind 6 = .ok (.if_icmp .ge 7, 3) := by decide +kernel
theorem dX11_isKind_9 : decode cX11_isKind 9 = .ok (.iconst 1, 1) := by decide +kernel
theorem dX11_isKind_10 : decode cX11_isKind 10 = .ok (.goto 4, 3) := by decide +kernel
theorem dX11_isKind_13 : decode cX11_isKind 13 = .ok (.iconst 0, 1) := by decide +kernel
theorem dX11_isKind_14 : decode cX11_isKind 14 = .ok (.ireturn, 1) := by decide +kernel
theorem dX11_judgeAt_0 : decode cX11_judgeAt 0 = .ok (.aload_n 0, 1) := by decide +kernel
theorem dX11_judgeAt_1 : decode cX11_judgeAt 1 = .ok (.getfield 31, 3) := by decide +kernel
theorem dX11_judgeAt_4 : decode cX11_judgeAt 4 = .ok (.aload_n 0, 1) := by decide +kernel
theorem dX11_judgeAt_5 : decode cX11_judgeAt 5 = .ok (.getfield 42, 3) := by decide +kernel
theorem dX11_judgeAt_8 : decode cX11_judgeAt 8 = .ok (.getfield 113, 3) := by decide +kernel
theorem dX11_judgeAt_11 : decode cX11_judgeAt 11 = .ok (.iload_n 1, 1) := by decide +kernel
theorem dX11_judgeAt_12 : decode cX11_judgeAt 12 = .ok (.iaload, 1) := by decide +kernel
theorem dX11_judgeAt_13 : decode cX11_judgeAt 13 = .ok (.aaload, 1) := by decide +kernel
theorem dX11_judgeAt_14 : decode cX11_judgeAt 14 = .ok (.areturn, 1) := by decide +kernel
theorem dX11_isOf_0 : decode cX11_isOf 0 = .ok (.iload_n 1, 1) := by decide +kernel
theorem dX11_isOf_1 : decode cX11_isOf 1 = .ok (.tableswitch 51 1 4 #[31, 36, 41, 46], 31) := by decide +kernel
theorem dX11_isOf_32 : decode cX11_isOf 32 = .ok (.aload_n 0, 1) := by decide +kernel
theorem dX11_isOf_33 : decode cX11_isOf 33 = .ok (.instanceof 19, 3) := by decide +kernel
theorem dX11_isOf_36 : decode cX11_isOf 36 = .ok (.ireturn, 1) := by decide +kernel
theorem dX11_isOf_37 : decode cX11_isOf 37 = .ok (.aload_n 0, 1) := by decide +kernel
theorem dX11_isOf_38 : decode cX11_isOf 38 = .ok (.instanceof 22, 3) := by decide +kernel
theorem dX11_isOf_41 : decode cX11_isOf 41 = .ok (.ireturn, 1) := by decide +kernel
theorem dX11_isOf_42 : decode cX11_isOf 42 = .ok (.aload_n 0, 1) := by decide +kernel
theorem dX11_isOf_43 : decode cX11_isOf 43 = .ok (.instanceof 25, 3) := by decide +kernel
theorem dX11_isOf_46 : decode cX11_isOf 46 = .ok (.ireturn, 1) := by decide +kernel
theorem dX11_isOf_47 : decode cX11_isOf 47 = .ok (.aload_n 0, 1) := by decide +kernel
theorem dX11_isOf_48 : decode cX11_isOf 48 = .ok (.instanceof 28, 3) := by decide +kernel
theorem dX11_isOf_51 : decode cX11_isOf 51 = .ok (.ireturn, 1) := by decide +kernel
theorem dX11_isOf_52 : decode cX11_isOf 52 = .ok (.iconst 1, 1) := by decide +kernel
theorem dX11_isOf_53 : decode cX11_isOf 53 = .ok (.ireturn, 1) := by decide +kernel
theorem dX11_fitting_0 : decode cX11_fitting 0 = .ok (.iconst 0, 1) := by decide +kernel
theorem dX11_fitting_1 : decode cX11_fitting 1 = .ok (.istore_n 2, 1) := by decide +kernel
theorem dX11_fitting_2 : decode cX11_fitting 2 = .ok (.iload_n 2, 1) := by decide +kernel
theorem dX11_fitting_3 : decode cX11_fitting 3 = .ok (.aload_n 0, 1) := by decide +kernel
theorem dX11_fitting_4 : decode cX11_fitting 4 = .ok (.getfield 42, 3) := by decide +kernel
theorem dX11_fitting_7 : decode cX11_fitting 7 = .ok (.getfield 125, 3) := by decide +kernel
theorem dX11_fitting_10 : decode cX11_fitting 10 = .ok (.if_icmp .ge 55, 3) := by decide +kernel
theorem dX11_fitting_13 : decode cX11_fitting 13 = .ok (.aload_n 0, 1) := by decide +kernel
theorem dX11_fitting_14 : decode cX11_fitting 14 = .ok (.aload_n 0, 1) := by decide +kernel
theorem dX11_fitting_15 : decode cX11_fitting 15 = .ok (.getfield 42, 3) := by decide +kernel
theorem dX11_fitting_18 : decode cX11_fitting 18 = .ok (.getfield 181, 3) := by decide +kernel
theorem dX11_fitting_21 : decode cX11_fitting 21 = .ok (.iload_n 2, 1) := by decide +kernel
theorem dX11_fitting_22 : decode cX11_fitting 22 = .ok (.iaload, 1) := by decide +kernel
theorem dX11_fitting_23 : decode cX11_fitting 23 = .ok (.invokevirtual 147, 3) := by decide +kernel
theorem dX11_fitting_26 : decode cX11_fitting 26 = .ok (.astore_n 3, 1) := by decide +kernel
theorem dX11_fitting_27 : decode cX11_fitting 27 = .ok (.aload_n 3, 1) := by decide +kernel
theorem dX11_fitting_28 : decode cX11_fitting 28 = .ok (.aload_n 0, 1) := by decide +kernel
theorem dX11_fitting_29 : decode cX11_fitting 29 = .ok (.getfield 57, 3) := by decide +kernel
theorem dX11_fitting_32 : decode cX11_fitting 32 = .ok (.aload_n 0, 1) := by decide +kernel
theorem dX11_fitting_33 : decode cX11_fitting 33 = .ok (.getfield 42, 3) := by decide +kernel
theorem dX11_fitting_36 : decode cX11_fitting 36 = .ok (.getfield 178, 3) := by decide +kernel
theorem dX11_fitting_39 : decode cX11_fitting 39 = .ok (.iload_n 2, 1) := by decide +kernel
theorem dX11_fitting_40 : decode cX11_fitting 40 = .ok (.iaload, 1) := by decide +kernel
theorem dX11_fitting_41 : decode cX11_fitting 41 = .ok (.iload_n 1, 1) := by decide +kernel
theorem dX11_fitting_42 : decode cX11_fitting 42 = .ok (.invokevirtual 174, 3) := by decide +kernel
theorem dX11_fitting_45 : decode cX11_fitting 45 = .ok (.aload_n 0, 1) := by decide +kernel
theorem dX11_fitting_46 : decode cX11_fitting 46 = .ok (.getfield 42, 3) := by decide +kernel
theorem dX11_fitting_49 : decode cX11_fitting 49 = .ok (.getfield 184, 3) := by decide +kernel
theorem dX11_fitting_52 : decode cX11_fitting 52 = .ok (.iload_n 2, 1) := by decide +kernel
theorem dX11_fitting_53 : decode cX11_fitting 53 = .ok (.iaload, 1) := by decide +kernel
theorem dX11_fitting_54 : decode cX11_fitting 54 = .ok (.if_icmp .eq 5, 3) := by decide +kernel
theorem dX11_fitting_57 : decode cX11_fitting 57 = .ok (.iconst 0, 1) := by decide +kernel
theorem dX11_fitting_58 : decode cX11_fitting 58 = .ok (.ireturn, 1) := by decide +kernel
theorem dX11_fitting_59 : decode cX11_fitting 59 = .ok (.iinc 2 1, 3) := by decide +kernel
theorem dX11_fitting_62 : decode cX11_fitting 62 = .ok (.goto (-60), 3) := by decide +kernel
theorem dX11_fitting_65 : decode cX11_fitting 65 = .ok (.iconst 1, 1) := by decide +kernel
theorem dX11_fitting_66 : decode cX11_fitting 66 = .ok (.ireturn, 1) := by decide +kernel
theorem dX11_gatherFitting_0 : decode cX11_gatherFitting 0 = .ok (.aload_n 0, 1) := by decide +kernel
theorem dX11_gatherFitting_1 : decode cX11_gatherFitting 1 = .ok (.getfield 61, 3) := by decide +kernel
theorem dX11_gatherFitting_4 : decode cX11_gatherFitting 4 = .ok (.invokevirtual 219, 3) := by decide +kernel
theorem dX11_gatherFitting_7 : decode cX11_gatherFitting 7 = .ok (.iconst 0, 1) := by decide +kernel
theorem dX11_gatherFitting_8 : decode cX11_gatherFitting 8 = .ok (.istore_n 1, 1) := by decide +kernel
theorem dX11_gatherFitting_9 : decode cX11_gatherFitting 9 = .ok (.iload_n 1, 1) := by decide +kernel
theorem dX11_gatherFitting_10 : decode cX11_gatherFitting 10 = .ok (.aload_n 0, 1) := by decide +kernel
theorem dX11_gatherFitting_11 : decode cX11_gatherFitting 11 = .ok (.getfield 42, 3) := by decide +kernel
theorem dX11_gatherFitting_14 : decode cX11_gatherFitting 14 = .ok (.getfield 125, 3) := by decide +kernel
theorem dX11_gatherFitting_17 : decode cX11_gatherFitting 17 = .ok (.if_icmp .ge 47, 3) := by decide +kernel
theorem dX11_gatherFitting_20 : decode cX11_gatherFitting 20 = .ok (.aload_n 0, 1) := by decide +kernel
theorem dX11_gatherFitting_21 : decode cX11_gatherFitting 21 = .ok (.getfield 61, 3) := by decide +kernel
theorem dX11_gatherFitting_24 : decode cX11_gatherFitting 24 = .ok (.aload_n 0, 1) := by decide +kernel
theorem dX11_gatherFitting_25 : decode cX11_gatherFitting 25 = .ok (.aload_n 0, 1) := by decide +kernel
theorem dX11_gatherFitting_26 : decode cX11_gatherFitting 26 = .ok (.getfield 42, 3) := by decide +kernel
theorem dX11_gatherFitting_29 : decode cX11_gatherFitting 29 = .ok (.getfield 181, 3) := by decide +kernel
theorem dX11_gatherFitting_32 : decode cX11_gatherFitting 32 = .ok (.iload_n 1, 1) := by decide +kernel
theorem dX11_gatherFitting_33 : decode cX11_gatherFitting 33 = .ok (.iaload, 1) := by decide +kernel
theorem dX11_gatherFitting_34 : decode cX11_gatherFitting 34 = .ok (.invokevirtual 147, 3) := by decide +kernel
theorem dX11_gatherFitting_37 : decode cX11_gatherFitting 37 = .ok (.aload_n 0, 1) := by decide +kernel
theorem dX11_gatherFitting_38 : decode cX11_gatherFitting 38 = .ok (.getfield 42, 3) := by decide +kernel
theorem dX11_gatherFitting_41 : decode cX11_gatherFitting 41 = .ok (.getfield 178, 3) := by decide +kernel
theorem dX11_gatherFitting_44 : decode cX11_gatherFitting 44 = .ok (.iload_n 1, 1) := by decide +kernel
theorem dX11_gatherFitting_45 : decode cX11_gatherFitting 45 = .ok (.iaload, 1) := by decide +kernel
theorem dX11_gatherFitting_46 : decode cX11_gatherFitting 46 = .ok (.aload_n 0, 1) := by decide +kernel
theorem dX11_gatherFitting_47 : decode cX11_gatherFitting 47 = .ok (.getfield 42, 3) := by decide +kernel
theorem dX11_gatherFitting_50 : decode cX11_gatherFitting 50 = .ok (.getfield 184, 3) := by decide +kernel
theorem dX11_gatherFitting_53 : decode cX11_gatherFitting 53 = .ok (.iload_n 1, 1) := by decide +kernel
theorem dX11_gatherFitting_54 : decode cX11_gatherFitting 54 = .ok (.iaload, 1) := by decide +kernel
theorem dX11_gatherFitting_55 : decode cX11_gatherFitting 55 = .ok (.invokevirtual 227, 3) := by decide +kernel
theorem dX11_gatherFitting_58 : decode cX11_gatherFitting 58 = .ok (.iinc 1 1, 3) := by decide +kernel
theorem dX11_gatherFitting_61 : decode cX11_gatherFitting 61 = .ok (.goto (-52), 3) := by decide +kernel
theorem dX11_gatherFitting_64 : decode cX11_gatherFitting 64 = .ok (.aload_n 0, 1) := by decide +kernel
theorem dX11_gatherFitting_65 : decode cX11_gatherFitting 65 = .ok (.getfield 61, 3) := by decide +kernel
theorem dX11_gatherFitting_68 : decode cX11_gatherFitting 68 = .ok (.getfield 212, 3) := by decide +kernel
theorem dX11_gatherFitting_71 : decode cX11_gatherFitting 71 = .ok (.ireturn, 1) := by decide +kernel
theorem dX11_sorts_0 : decode cX11_sorts 0 = .ok (.iconst 0, 1) := by decide +kernel
theorem dX11_sorts_1 : decode cX11_sorts 1 = .ok (.istore_n 2, 1) := by decide +kernel
theorem dX11_sorts_2 : decode cX11_sorts 2 = .ok (.iconst 0, 1) := by decide +kernel
theorem dX11_sorts_3 : decode cX11_sorts 3 = .ok (.istore_n 3, 1) := by decide +kernel
theorem dX11_sorts_4 : decode cX11_sorts 4 = .ok (.iload_n 3, 1) := by decide +kernel
theorem dX11_sorts_5 : decode cX11_sorts 5 = .ok (.iconst 5, 1) := by decide +kernel
theorem dX11_sorts_6 : decode cX11_sorts 6 = .ok (.if_icmp .ge 29, 3) := by decide +kernel
theorem dX11_sorts_9 : decode cX11_sorts 9 = .ok (.aload_n 0, 1) := by decide +kernel
theorem dX11_sorts_10 : decode cX11_sorts 10 = .ok (.iload_n 1, 1) := by decide +kernel
theorem dX11_sorts_11 : decode cX11_sorts 11 = .ok (.aload_n 0, 1) := by decide +kernel
theorem dX11_sorts_12 : decode cX11_sorts 12 = .ok (.getfield 31, 3) := by decide +kernel
theorem dX11_sorts_15 : decode cX11_sorts 15 = .ok (.iload_n 3, 1) := by decide +kernel
theorem dX11_sorts_16 : decode cX11_sorts 16 = .ok (.aaload, 1) := by decide +kernel
theorem dX11_sorts_17 : decode cX11_sorts 17 = .ok (.invokevirtual 295, 3) := by decide +kernel
theorem dX11_sorts_20 : decode cX11_sorts 20 = .ok (.ifCond .eq 9, 3) := by decide +kernel
theorem dX11_sorts_23 : decode cX11_sorts 23 = .ok (.iload_n 2, 1) := by decide +kernel
theorem dX11_sorts_24 : decode cX11_sorts 24 = .ok (.iconst 1, 1) := by decide +kernel
theorem dX11_sorts_25 : decode cX11_sorts 25 = .ok (.iload_n 3, 1) := by decide +kernel
theorem dX11_sorts_26 : decode cX11_sorts 26 = .ok (.ishl, 1) := by decide +kernel
theorem dX11_sorts_27 : decode cX11_sorts 27 = .ok (.ior, 1) := by decide +kernel
theorem dX11_sorts_28 : decode cX11_sorts 28 = .ok (.istore_n 2, 1) := by decide +kernel
theorem dX11_sorts_29 : decode cX11_sorts 29 = .ok (.iinc 3 1, 3) := by decide +kernel
theorem dX11_sorts_32 : decode cX11_sorts 32 = .ok (.goto (-28), 3) := by decide +kernel
theorem dX11_sorts_35 : decode cX11_sorts 35 = .ok (.iload_n 2, 1) := by decide +kernel
theorem dX11_sorts_36 : decode cX11_sorts 36 = .ok (.ireturn, 1) := by decide +kernel
theorem dX11_couldBe_0 : decode cX11_couldBe 0 = .ok (.iconst 0, 1) := by decide +kernel
theorem dX11_couldBe_1 : decode cX11_couldBe 1 = .ok (.istore_n 3, 1) := by decide +kernel
theorem dX11_couldBe_2 : decode cX11_couldBe 2 = .ok (.iload_n 3, 1) := by decide +kernel
theorem dX11_couldBe_3 : decode cX11_couldBe 3 = .ok (.aload_n 0, 1) := by decide +kernel
theorem dX11_couldBe_4 : decode cX11_couldBe 4 = .ok (.getfield 42, 3) := by decide +kernel
theorem dX11_couldBe_7 : decode cX11_couldBe 7 = .ok (.getfield 125, 3) := by decide +kernel
theorem dX11_couldBe_10 : decode cX11_couldBe 10 = .ok (.if_icmp .ge 60, 3) := by decide +kernel
theorem dX11_couldBe_13 : decode cX11_couldBe 13 = .ok (.aload_n 0, 1) := by decide +kernel
theorem dX11_couldBe_14 : decode cX11_couldBe 14 = .ok (.getfield 42, 3) := by decide +kernel
theorem dX11_couldBe_17 : decode cX11_couldBe 17 = .ok (.getfield 181, 3) := by decide +kernel
theorem dX11_couldBe_20 : decode cX11_couldBe 20 = .ok (.iload_n 3, 1) := by decide +kernel
theorem dX11_couldBe_21 : decode cX11_couldBe 21 = .ok (.iaload, 1) := by decide +kernel
theorem dX11_couldBe_22 : decode cX11_couldBe 22 = .ok (.iload_n 1, 1) := by decide +kernel
theorem dX11_couldBe_23 : decode cX11_couldBe 23 = .ok (.if_icmp .ne 41, 3) := by decide +kernel
theorem dX11_couldBe_26 : decode cX11_couldBe 26 = .ok (.aload_n 2, 1) := by decide +kernel
theorem dX11_couldBe_27 : decode cX11_couldBe 27 = .ok (.aload_n 0, 1) := by decide +kernel
theorem dX11_couldBe_28 : decode cX11_couldBe 28 = .ok (.getfield 57, 3) := by decide +kernel
theorem dX11_couldBe_31 : decode cX11_couldBe 31 = .ok (.aload_n 0, 1) := by decide +kernel
theorem dX11_couldBe_32 : decode cX11_couldBe 32 = .ok (.getfield 42, 3) := by decide +kernel
theorem dX11_couldBe_35 : decode cX11_couldBe 35 = .ok (.getfield 178, 3) := by decide +kernel
theorem dX11_couldBe_38 : decode cX11_couldBe 38 = .ok (.iload_n 3, 1) := by decide +kernel
theorem dX11_couldBe_39 : decode cX11_couldBe 39 = .ok (.iaload, 1) := by decide +kernel
theorem dX11_couldBe_40 : decode cX11_couldBe 40 = .ok (.aload_n 0, 1) := by decide +kernel
theorem dX11_couldBe_41 : decode cX11_couldBe 41 = .ok (.getfield 42, 3) := by decide +kernel
theorem dX11_couldBe_44 : decode cX11_couldBe 44 = .ok (.getfield 122, 3) := by decide +kernel
theorem dX11_couldBe_47 : decode cX11_couldBe 47 = .ok (.invokevirtual 174, 3) := by decide +kernel
theorem dX11_couldBe_50 : decode cX11_couldBe 50 = .ok (.aload_n 0, 1) := by decide +kernel
theorem dX11_couldBe_51 : decode cX11_couldBe 51 = .ok (.getfield 42, 3) := by decide +kernel
theorem dX11_couldBe_54 : decode cX11_couldBe 54 = .ok (.getfield 184, 3) := by decide +kernel
theorem dX11_couldBe_57 : decode cX11_couldBe 57 = .ok (.iload_n 3, 1) := by decide +kernel
theorem dX11_couldBe_58 : decode cX11_couldBe 58 = .ok (.iaload, 1) := by decide +kernel
theorem dX11_couldBe_59 : decode cX11_couldBe 59 = .ok (.if_icmp .eq 5, 3) := by decide +kernel
theorem dX11_couldBe_62 : decode cX11_couldBe 62 = .ok (.iconst 0, 1) := by decide +kernel
theorem dX11_couldBe_63 : decode cX11_couldBe 63 = .ok (.ireturn, 1) := by decide +kernel
theorem dX11_couldBe_64 : decode cX11_couldBe 64 = .ok (.iinc 3 1, 3) := by decide +kernel
theorem dX11_couldBe_67 : decode cX11_couldBe 67 = .ok (.goto (-65), 3) := by decide +kernel
theorem dX11_couldBe_70 : decode cX11_couldBe 70 = .ok (.iconst 1, 1) := by decide +kernel
theorem dX11_couldBe_71 : decode cX11_couldBe 71 = .ok (.ireturn, 1) := by decide +kernel
theorem dX11_testFor_0 : decode cX11_testFor 0 = .ok (.iconst (-1), 1) := by decide +kernel
theorem dX11_testFor_1 : decode cX11_testFor 1 = .ok (.istore_n 2, 1) := by decide +kernel
theorem dX11_testFor_2 : decode cX11_testFor 2 = .ok (.bipush 6, 2) := by decide +kernel
theorem dX11_testFor_4 : decode cX11_testFor 4 = .ok (.istore_n 3, 1) := by decide +kernel
theorem dX11_testFor_5 : decode cX11_testFor 5 = .ok (.iconst 0, 1) := by decide +kernel
theorem dX11_testFor_6 : decode cX11_testFor 6 = .ok (.istore 4, 2) := by decide +kernel
theorem dX11_testFor_8 : decode cX11_testFor 8 = .ok (.iload 4, 2) := by decide +kernel
theorem dX11_testFor_10 : decode cX11_testFor 10 = .ok (.aload_n 0, 1) := by decide +kernel
theorem dX11_testFor_11 : decode cX11_testFor 11 = .ok (.getfield 57, 3) := by decide +kernel
theorem dX11_testFor_14 : decode cX11_testFor 14 = .ok (.getfield 133, 3) := by decide +kernel
theorem dX11_testFor_17 : decode cX11_testFor 17 = .ok (.if_icmp .ge 34, 3) := by decide +kernel
theorem dX11_testFor_20 : decode cX11_testFor 20 = .ok (.iload_n 1, 1) := by decide +kernel
theorem dX11_testFor_21 : decode cX11_testFor 21 = .ok (.ifCond .eq 30, 3) := by decide +kernel
theorem dX11_testFor_24 : decode cX11_testFor 24 = .ok (.aload_n 0, 1) := by decide +kernel
theorem dX11_testFor_25 : decode cX11_testFor 25 = .ok (.iload_n 1, 1) := by decide +kernel
theorem dX11_testFor_26 : decode cX11_testFor 26 = .ok (.iload 4, 2) := by decide +kernel
theorem dX11_testFor_28 : decode cX11_testFor 28 = .ok (.invokevirtual 299, 3) := by decide +kernel
theorem dX11_testFor_31 : decode cX11_testFor 31 = .ok (.istore 5, 2) := by decide +kernel
theorem dX11_testFor_33 : decode cX11_testFor 33 = .ok (.iload 5, 2) := by decide +kernel
theorem dX11_testFor_35 : decode cX11_testFor 35 = .ok (.iload_n 3, 1) := by decide +kernel
theorem dX11_testFor_36 : decode cX11_testFor 36 = .ok (.if_icmp .ge 9, 3) := by decide +kernel
theorem dX11_testFor_39 : decode cX11_testFor 39 = .ok (.iload 5, 2) := by decide +kernel
theorem dX11_testFor_41 : decode cX11_testFor 41 = .ok (.istore_n 3, 1) := by decide +kernel
theorem dX11_testFor_42 : decode cX11_testFor 42 = .ok (.iload 4, 2) := by decide +kernel
theorem dX11_testFor_44 : decode cX11_testFor 44 = .ok (.istore_n 2, 1) := by decide +kernel
theorem dX11_testFor_45 : decode cX11_testFor 45 = .ok (.iinc 4 1, 3) := by decide +kernel
theorem dX11_testFor_48 : decode cX11_testFor 48 = .ok (.goto (-40), 3) := by decide +kernel
theorem dX11_testFor_51 : decode cX11_testFor 51 = .ok (.iload_n 2, 1) := by decide +kernel
theorem dX11_testFor_52 : decode cX11_testFor 52 = .ok (.ireturn, 1) := by decide +kernel
theorem dX11_worstSorts_0 : decode cX11_worstSorts 0 = .ok (.iconst 0, 1) := by decide +kernel
theorem dX11_worstSorts_1 : decode cX11_worstSorts 1 = .ok (.istore_n 3, 1) := by decide +kernel
theorem dX11_worstSorts_2 : decode cX11_worstSorts 2 = .ok (.iconst 0, 1) := by decide +kernel
theorem dX11_worstSorts_3 : decode cX11_worstSorts 3 = .ok (.istore 4, 2) := by decide +kernel
theorem dX11_worstSorts_5 : decode cX11_worstSorts 5 = .ok (.iload 4, 2) := by decide +kernel
theorem dX11_worstSorts_7 : decode cX11_worstSorts 7 = .ok (.iconst 5, 1) := by decide +kernel
theorem dX11_worstSorts_8 : decode cX11_worstSorts 8 = .ok (.if_icmp .ge 52, 3) := by decide +kernel
theorem dX11_worstSorts_11 : decode cX11_worstSorts 11 = .ok (.aload_n 0, 1) := by decide +kernel
theorem dX11_worstSorts_12 : decode cX11_worstSorts 12 = .ok (.getfield 35, 3) := by decide +kernel
theorem dX11_worstSorts_15 : decode cX11_worstSorts 15 = .ok (.iload 4, 2) := by decide +kernel
theorem dX11_worstSorts_17 : decode cX11_worstSorts 17 = .ok (.iload_n 1, 1) := by decide +kernel
theorem dX11_worstSorts_18 : decode cX11_worstSorts 18 = .ok (.iload 4, 2) := by decide +kernel
theorem dX11_worstSorts_20 : decode cX11_worstSorts 20 = .ok (.ishr, 1) := by decide +kernel
theorem dX11_worstSorts_21 : decode cX11_worstSorts 21 = .ok (.iconst 1, 1) := by decide +kernel
theorem dX11_worstSorts_22 : decode cX11_worstSorts 22 = .ok (.iand, 1) := by decide +kernel
theorem dX11_worstSorts_23 : decode cX11_worstSorts 23 = .ok (.iconst 1, 1) := by decide +kernel
theorem dX11_worstSorts_24 : decode cX11_worstSorts 24 = .ok (.if_icmp .ne 28, 3) := by decide +kernel
theorem dX11_worstSorts_27 : decode cX11_worstSorts 27 = .ok (.aload_n 0, 1) := by decide +kernel
theorem dX11_worstSorts_28 : decode cX11_worstSorts 28 = .ok (.getfield 31, 3) := by decide +kernel
theorem dX11_worstSorts_31 : decode cX11_worstSorts 31 = .ok (.iload 4, 2) := by decide +kernel
theorem dX11_worstSorts_33 : decode cX11_worstSorts 33 = .ok (.aaload, 1) := by decide +kernel
theorem dX11_worstSorts_34 : decode cX11_worstSorts 34 = .ok (.aload_n 0, 1) := by decide +kernel
theorem dX11_worstSorts_35 : decode cX11_worstSorts 35 = .ok (.getfield 57, 3) := by decide +kernel
theorem dX11_worstSorts_38 : decode cX11_worstSorts 38 = .ok (.iload_n 2, 1) := by decide +kernel
theorem dX11_worstSorts_39 : decode cX11_worstSorts 39 = .ok (.aload_n 0, 1) := by decide +kernel
theorem dX11_worstSorts_40 : decode cX11_worstSorts 40 = .ok (.getfield 42, 3) := by decide +kernel
theorem dX11_worstSorts_43 : decode cX11_worstSorts 43 = .ok (.getfield 122, 3) := by decide +kernel
theorem dX11_worstSorts_46 : decode cX11_worstSorts 46 = .ok (.invokevirtual 174, 3) := by decide +kernel
theorem dX11_worstSorts_49 : decode cX11_worstSorts 49 = .ok (.goto 4, 3) := by decide +kernel
theorem dX11_worstSorts_52 : decode cX11_worstSorts 52 = .ok (.iconst (-1), 1) := by decide +kernel
theorem dX11_worstSorts_53 : decode cX11_worstSorts 53 = .ok (.iastore, 1) := by decide +kernel
theorem dX11_worstSorts_54 : decode cX11_worstSorts 54 = .ok (.iinc 4 1, 3) := by decide +kernel
theorem dX11_worstSorts_57 : decode cX11_worstSorts 57 = .ok (.goto (-52), 3) := by decide +kernel
theorem dX11_worstSorts_60 : decode cX11_worstSorts 60 = .ok (.iconst 0, 1) := by decide +kernel
theorem dX11_worstSorts_61 : decode cX11_worstSorts 61 = .ok (.istore 4, 2) := by decide +kernel
theorem dX11_worstSorts_63 : decode cX11_worstSorts 63 = .ok (.iload 4, 2) := by decide +kernel
theorem dX11_worstSorts_65 : decode cX11_worstSorts 65 = .ok (.iconst 5, 1) := by decide +kernel
theorem dX11_worstSorts_66 : decode cX11_worstSorts 66 = .ok (.if_icmp .ge 65, 3) := by decide +kernel
theorem dX11_worstSorts_69 : decode cX11_worstSorts 69 = .ok (.iconst 0, 1) := by decide +kernel
theorem dX11_worstSorts_70 : decode cX11_worstSorts 70 = .ok (.istore 5, 2) := by decide +kernel
theorem dX11_worstSorts_72 : decode cX11_worstSorts 72 = .ok (.iconst 0, 1) := by decide +kernel
theorem dX11_worstSorts_73 : decode cX11_worstSorts 73 = .ok (.istore 6, 2) := by decide +kernel
theorem dX11_worstSorts_75 : decode cX11_worstSorts 75 = .ok (.iload 6, 2) := by decide +kernel
theorem dX11_worstSorts_77 : decode cX11_worstSorts 77 = .ok (.iconst 5, 1) := by decide +kernel
theorem dX11_worstSorts_78 : decode cX11_worstSorts 78 = .ok (.if_icmp .ge 40, 3) := by decide +kernel
theorem dX11_worstSorts_81 : decode cX11_worstSorts 81 = .ok (.aload_n 0, 1) := by decide +kernel
theorem dX11_worstSorts_82 : decode cX11_worstSorts 82 = .ok (.getfield 35, 3) := by decide +kernel
theorem dX11_worstSorts_85 : decode cX11_worstSorts 85 = .ok (.iload 4, 2) := by decide +kernel
theorem dX11_worstSorts_87 : decode cX11_worstSorts 87 = .ok (.iaload, 1) := by decide +kernel
theorem dX11_worstSorts_88 : decode cX11_worstSorts 88 = .ok (.iconst (-1), 1) := by decide +kernel
theorem dX11_worstSorts_89 : decode cX11_worstSorts 89 = .ok (.if_icmp .eq 29, 3) := by decide +kernel
theorem dX11_worstSorts_92 : decode cX11_worstSorts 92 = .ok (.aload_n 0, 1) := by decide +kernel
theorem dX11_worstSorts_93 : decode cX11_worstSorts 93 = .ok (.getfield 35, 3) := by decide +kernel
theorem dX11_worstSorts_96 : decode cX11_worstSorts 96 = .ok (.iload 6, 2) := by decide +kernel
theorem dX11_worstSorts_98 : decode cX11_worstSorts 98 = .ok (.iaload, 1) := by decide +kernel
theorem dX11_worstSorts_99 : decode cX11_worstSorts 99 = .ok (.aload_n 0, 1) := by decide +kernel
theorem dX11_worstSorts_100 : decode cX11_worstSorts 100 = .ok (.getfield 35, 3) := by decide +kernel
theorem dX11_worstSorts_103 : decode cX11_worstSorts 103 = .ok (.iload 4, 2) := by decide +kernel
theorem dX11_worstSorts_105 : decode cX11_worstSorts 105 = .ok (.iaload, 1) := by decide +kernel
theorem dX11_worstSorts_106 : decode cX11_worstSorts 106 = .ok (.if_icmp .ne 6, 3) := by decide +kernel
theorem dX11_worstSorts_109 : decode cX11_worstSorts 109 = .ok (.iinc 5 1, 3) := by decide +kernel
theorem dX11_worstSorts_112 : decode cX11_worstSorts 112 = .ok (.iinc 6 1, 3) := by decide +kernel
theorem dX11_worstSorts_115 : decode cX11_worstSorts 115 = .ok (.goto (-40), 3) := by decide +kernel
theorem dX11_worstSorts_118 : decode cX11_worstSorts 118 = .ok (.iload_n 3, 1) := by decide +kernel
theorem dX11_worstSorts_119 : decode cX11_worstSorts 119 = .ok (.iload 5, 2) := by decide +kernel
theorem dX11_worstSorts_121 : decode cX11_worstSorts 121 = .ok (.invokestatic 222, 3) := by decide +kernel
theorem dX11_worstSorts_124 : decode cX11_worstSorts 124 = .ok (.istore_n 3, 1) := by decide +kernel
theorem dX11_worstSorts_125 : decode cX11_worstSorts 125 = .ok (.iinc 4 1, 3) := by decide +kernel
theorem dX11_worstSorts_128 : decode cX11_worstSorts 128 = .ok (.goto (-65), 3) := by decide +kernel
theorem dX11_worstSorts_131 : decode cX11_worstSorts 131 = .ok (.iload_n 3, 1) := by decide +kernel
theorem dX11_worstSorts_132 : decode cX11_worstSorts 132 = .ok (.ireturn, 1) := by decide +kernel
theorem dX11_commonDivisor_0 : decode cX11_commonDivisor 0 = .ok (.iload_n 0, 1) := by decide +kernel
theorem dX11_commonDivisor_1 : decode cX11_commonDivisor 1 = .ok (.istore_n 2, 1) := by decide +kernel
theorem dX11_commonDivisor_2 : decode cX11_commonDivisor 2 = .ok (.iload_n 1, 1) := by decide +kernel
theorem dX11_commonDivisor_3 : decode cX11_commonDivisor 3 = .ok (.istore_n 3, 1) := by decide +kernel
theorem dX11_commonDivisor_4 : decode cX11_commonDivisor 4 = .ok (.iconst 0, 1) := by decide +kernel
theorem dX11_commonDivisor_5 : decode cX11_commonDivisor 5 = .ok (.istore 4, 2) := by decide +kernel
theorem dX11_commonDivisor_7 : decode cX11_commonDivisor 7 = .ok (.iload 4, 2) := by decide +kernel
theorem dX11_commonDivisor_9 : decode cX11_commonDivisor 9 = .ok (.bipush 64, 2) := by decide +kernel
theorem dX11_commonDivisor_11 : decode cX11_commonDivisor 11 = .ok (.if_icmp .ge 23, 3) := by decide +kernel
theorem dX11_commonDivisor_14 : decode cX11_commonDivisor 14 = .ok (.iload_n 3, 1) := by decide +kernel
theorem dX11_commonDivisor_15 : decode cX11_commonDivisor 15 = .ok (.ifCond .eq 19, 3) := by decide +kernel
theorem dX11_commonDivisor_18 : decode cX11_commonDivisor 18 = .ok (.iload_n 2, 1) := by decide +kernel
theorem dX11_commonDivisor_19 : decode cX11_commonDivisor 19 = .ok (.iload_n 3, 1) := by decide +kernel
theorem dX11_commonDivisor_20 : decode cX11_commonDivisor 20 = .ok (.irem, 1) := by decide +kernel
theorem dX11_commonDivisor_21 : decode cX11_commonDivisor 21 = .ok (.istore 5, 2) := by decide +kernel
theorem dX11_commonDivisor_23 : decode cX11_commonDivisor 23 = .ok (.iload_n 3, 1) := by decide +kernel
theorem dX11_commonDivisor_24 : decode cX11_commonDivisor 24 = .ok (.istore_n 2, 1) := by decide +kernel
theorem dX11_commonDivisor_25 : decode cX11_commonDivisor 25 = .ok (.iload 5, 2) := by decide +kernel
theorem dX11_commonDivisor_27 : decode cX11_commonDivisor 27 = .ok (.istore_n 3, 1) := by decide +kernel
theorem dX11_commonDivisor_28 : decode cX11_commonDivisor 28 = .ok (.iinc 4 1, 3) := by decide +kernel
theorem dX11_commonDivisor_31 : decode cX11_commonDivisor 31 = .ok (.goto (-24), 3) := by decide +kernel
theorem dX11_commonDivisor_34 : decode cX11_commonDivisor 34 = .ok (.iload_n 2, 1) := by decide +kernel
theorem dX11_commonDivisor_35 : decode cX11_commonDivisor 35 = .ok (.iconst 1, 1) := by decide +kernel
theorem dX11_commonDivisor_36 : decode cX11_commonDivisor 36 = .ok (.invokestatic 222, 3) := by decide +kernel
theorem dX11_commonDivisor_39 : decode cX11_commonDivisor 39 = .ok (.ireturn, 1) := by decide +kernel
theorem dJ11_isValidCodePoint_9a6ad_0 : decode cJ11_isValidCodePoint_9a6ad 0 = .ok (.iload_n 0, 1) := by decide +kernel
theorem dJ11_isValidCodePoint_9a6ad_1 : decode cJ11_isValidCodePoint_9a6ad 1 = .ok (.bipush 16, 2) := by decide +kernel
theorem dJ11_isValidCodePoint_9a6ad_3 : decode cJ11_isValidCodePoint_9a6ad 3 = .ok (.iushr, 1) := by decide +kernel
theorem dJ11_isValidCodePoint_9a6ad_4 : decode cJ11_isValidCodePoint_9a6ad 4 = .ok (.istore_n 1, 1) := by decide +kernel
theorem dJ11_isValidCodePoint_9a6ad_5 : decode cJ11_isValidCodePoint_9a6ad 5 = .ok (.iload_n 1, 1) := by decide +kernel
theorem dJ11_isValidCodePoint_9a6ad_6 : decode cJ11_isValidCodePoint_9a6ad 6 = .ok (.bipush 17, 2) := by decide +kernel
theorem dJ11_isValidCodePoint_9a6ad_8 : decode cJ11_isValidCodePoint_9a6ad 8 = .ok (.if_icmp .ge 7, 3) := by decide +kernel
theorem dJ11_isValidCodePoint_9a6ad_11 : decode cJ11_isValidCodePoint_9a6ad 11 = .ok (.iconst 1, 1) := by decide +kernel
theorem dJ11_isValidCodePoint_9a6ad_12 : decode cJ11_isValidCodePoint_9a6ad 12 = .ok (.goto 4, 3) := by decide +kernel
theorem dJ11_isValidCodePoint_9a6ad_15 : decode cJ11_isValidCodePoint_9a6ad 15 = .ok (.iconst 0, 1) := by decide +kernel
theorem dJ11_isValidCodePoint_9a6ad_16 : decode cJ11_isValidCodePoint_9a6ad 16 = .ok (.ireturn, 1) := by decide +kernel
theorem dJ11_highSurrogate_5068e_0 : decode cJ11_highSurrogate_5068e 0 = .ok (.iload_n 0, 1) := by decide +kernel
theorem dJ11_highSurrogate_5068e_1 : decode cJ11_highSurrogate_5068e 1 = .ok (.bipush 10, 2) := by decide +kernel
theorem dJ11_highSurrogate_5068e_3 : decode cJ11_highSurrogate_5068e 3 = .ok (.iushr, 1) := by decide +kernel
theorem dJ11_highSurrogate_5068e_4 : decode cJ11_highSurrogate_5068e 4 = .ok (.ldc 110, 2) := by decide +kernel
theorem dJ11_highSurrogate_5068e_6 : decode cJ11_highSurrogate_5068e 6 = .ok (.iadd, 1) := by decide +kernel
theorem dJ11_highSurrogate_5068e_7 : decode cJ11_highSurrogate_5068e 7 = .ok (.i2c, 1) := by decide +kernel
theorem dJ11_highSurrogate_5068e_8 : decode cJ11_highSurrogate_5068e 8 = .ok (.ireturn, 1) := by decide +kernel
theorem dJ11_lowSurrogate_5068e_0 : decode cJ11_lowSurrogate_5068e 0 = .ok (.iload_n 0, 1) := by decide +kernel
theorem dJ11_lowSurrogate_5068e_1 : decode cJ11_lowSurrogate_5068e 1 = .ok (.sipush 1023, 3) := by decide +kernel
theorem dJ11_lowSurrogate_5068e_4 : decode cJ11_lowSurrogate_5068e 4 = .ok (.iand, 1) := by decide +kernel
theorem dJ11_lowSurrogate_5068e_5 : decode cJ11_lowSurrogate_5068e 5 = .ok (.ldc 76, 2) := by decide +kernel
theorem dJ11_lowSurrogate_5068e_7 : decode cJ11_lowSurrogate_5068e 7 = .ok (.iadd, 1) := by decide +kernel
theorem dJ11_lowSurrogate_5068e_8 : decode cJ11_lowSurrogate_5068e 8 = .ok (.i2c, 1) := by decide +kernel
theorem dJ11_lowSurrogate_5068e_9 : decode cJ11_lowSurrogate_5068e 9 = .ok (.ireturn, 1) := by decide +kernel
theorem dJ6_bitCount_0f7a4_0 : decode cJ6_bitCount_0f7a4 0 = .ok (.iload_n 0, 1) := by decide +kernel
theorem dJ6_bitCount_0f7a4_1 : decode cJ6_bitCount_0f7a4 1 = .ok (.iload_n 0, 1) := by decide +kernel
theorem dJ6_bitCount_0f7a4_2 : decode cJ6_bitCount_0f7a4 2 = .ok (.iconst 1, 1) := by decide +kernel
theorem dJ6_bitCount_0f7a4_3 : decode cJ6_bitCount_0f7a4 3 = .ok (.iushr, 1) := by decide +kernel
theorem dJ6_bitCount_0f7a4_4 : decode cJ6_bitCount_0f7a4 4 = .ok (.ldc_w 265, 3) := by decide +kernel
theorem dJ6_bitCount_0f7a4_7 : decode cJ6_bitCount_0f7a4 7 = .ok (.iand, 1) := by decide +kernel
theorem dJ6_bitCount_0f7a4_8 : decode cJ6_bitCount_0f7a4 8 = .ok (.isub, 1) := by decide +kernel
theorem dJ6_bitCount_0f7a4_9 : decode cJ6_bitCount_0f7a4 9 = .ok (.istore_n 0, 1) := by decide +kernel
theorem dJ6_bitCount_0f7a4_10 : decode cJ6_bitCount_0f7a4 10 = .ok (.iload_n 0, 1) := by decide +kernel
theorem dJ6_bitCount_0f7a4_11 : decode cJ6_bitCount_0f7a4 11 = .ok (.ldc_w 266, 3) := by decide +kernel
theorem dJ6_bitCount_0f7a4_14 : decode cJ6_bitCount_0f7a4 14 = .ok (.iand, 1) := by decide +kernel
theorem dJ6_bitCount_0f7a4_15 : decode cJ6_bitCount_0f7a4 15 = .ok (.iload_n 0, 1) := by decide +kernel
theorem dJ6_bitCount_0f7a4_16 : decode cJ6_bitCount_0f7a4 16 = .ok (.iconst 2, 1) := by decide +kernel
theorem dJ6_bitCount_0f7a4_17 : decode cJ6_bitCount_0f7a4 17 = .ok (.iushr, 1) := by decide +kernel
theorem dJ6_bitCount_0f7a4_18 : decode cJ6_bitCount_0f7a4 18 = .ok (.ldc_w 266, 3) := by decide +kernel
theorem dJ6_bitCount_0f7a4_21 : decode cJ6_bitCount_0f7a4 21 = .ok (.iand, 1) := by decide +kernel
theorem dJ6_bitCount_0f7a4_22 : decode cJ6_bitCount_0f7a4 22 = .ok (.iadd, 1) := by decide +kernel
theorem dJ6_bitCount_0f7a4_23 : decode cJ6_bitCount_0f7a4 23 = .ok (.istore_n 0, 1) := by decide +kernel
theorem dJ6_bitCount_0f7a4_24 : decode cJ6_bitCount_0f7a4 24 = .ok (.iload_n 0, 1) := by decide +kernel
theorem dJ6_bitCount_0f7a4_25 : decode cJ6_bitCount_0f7a4 25 = .ok (.iload_n 0, 1) := by decide +kernel
theorem dJ6_bitCount_0f7a4_26 : decode cJ6_bitCount_0f7a4 26 = .ok (.iconst 4, 1) := by decide +kernel
theorem dJ6_bitCount_0f7a4_27 : decode cJ6_bitCount_0f7a4 27 = .ok (.iushr, 1) := by decide +kernel
theorem dJ6_bitCount_0f7a4_28 : decode cJ6_bitCount_0f7a4 28 = .ok (.iadd, 1) := by decide +kernel
theorem dJ6_bitCount_0f7a4_29 : decode cJ6_bitCount_0f7a4 29 = .ok (.ldc_w 267, 3) := by decide +kernel
theorem dJ6_bitCount_0f7a4_32 : decode cJ6_bitCount_0f7a4 32 = .ok (.iand, 1) := by decide +kernel
theorem dJ6_bitCount_0f7a4_33 : decode cJ6_bitCount_0f7a4 33 = .ok (.istore_n 0, 1) := by decide +kernel
theorem dJ6_bitCount_0f7a4_34 : decode cJ6_bitCount_0f7a4 34 = .ok (.iload_n 0, 1) := by decide +kernel
theorem dJ6_bitCount_0f7a4_35 : decode cJ6_bitCount_0f7a4 35 = .ok (.iload_n 0, 1) := by decide +kernel
theorem dJ6_bitCount_0f7a4_36 : decode cJ6_bitCount_0f7a4 36 = .ok (.bipush 8, 2) := by decide +kernel
theorem dJ6_bitCount_0f7a4_38 : decode cJ6_bitCount_0f7a4 38 = .ok (.iushr, 1) := by decide +kernel
theorem dJ6_bitCount_0f7a4_39 : decode cJ6_bitCount_0f7a4 39 = .ok (.iadd, 1) := by decide +kernel
theorem dJ6_bitCount_0f7a4_40 : decode cJ6_bitCount_0f7a4 40 = .ok (.istore_n 0, 1) := by decide +kernel
theorem dJ6_bitCount_0f7a4_41 : decode cJ6_bitCount_0f7a4 41 = .ok (.iload_n 0, 1) := by decide +kernel
theorem dJ6_bitCount_0f7a4_42 : decode cJ6_bitCount_0f7a4 42 = .ok (.iload_n 0, 1) := by decide +kernel
theorem dJ6_bitCount_0f7a4_43 : decode cJ6_bitCount_0f7a4 43 = .ok (.bipush 16, 2) := by decide +kernel
theorem dJ6_bitCount_0f7a4_45 : decode cJ6_bitCount_0f7a4 45 = .ok (.iushr, 1) := by decide +kernel
theorem dJ6_bitCount_0f7a4_46 : decode cJ6_bitCount_0f7a4 46 = .ok (.iadd, 1) := by decide +kernel
theorem dJ6_bitCount_0f7a4_47 : decode cJ6_bitCount_0f7a4 47 = .ok (.istore_n 0, 1) := by decide +kernel
theorem dJ6_bitCount_0f7a4_48 : decode cJ6_bitCount_0f7a4 48 = .ok (.iload_n 0, 1) := by decide +kernel
theorem dJ6_bitCount_0f7a4_49 : decode cJ6_bitCount_0f7a4 49 = .ok (.bipush 63, 2) := by decide +kernel
theorem dJ6_bitCount_0f7a4_51 : decode cJ6_bitCount_0f7a4 51 = .ok (.iand, 1) := by decide +kernel
theorem dJ6_bitCount_0f7a4_52 : decode cJ6_bitCount_0f7a4 52 = .ok (.ireturn, 1) := by decide +kernel
theorem dJ9_max_7cf53_0 : decode cJ9_max_7cf53 0 = .ok (.iload_n 0, 1) := by decide +kernel
theorem dJ9_max_7cf53_1 : decode cJ9_max_7cf53 1 = .ok (.iload_n 1, 1) := by decide +kernel
theorem dJ9_max_7cf53_2 : decode cJ9_max_7cf53 2 = .ok (.if_icmp .lt 7, 3) := by decide +kernel
theorem dJ9_max_7cf53_5 : decode cJ9_max_7cf53 5 = .ok (.iload_n 0, 1) := by decide +kernel
theorem dJ9_max_7cf53_6 : decode cJ9_max_7cf53 6 = .ok (.goto 4, 3) := by decide +kernel
theorem dJ9_max_7cf53_9 : decode cJ9_max_7cf53 9 = .ok (.iload_n 1, 1) := by decide +kernel
theorem dJ9_max_7cf53_10 : decode cJ9_max_7cf53 10 = .ok (.ireturn, 1) := by decide +kernel
theorem dJ9_min_7cf53_0 : decode cJ9_min_7cf53 0 = .ok (.iload_n 0, 1) := by decide +kernel
theorem dJ9_min_7cf53_1 : decode cJ9_min_7cf53 1 = .ok (.iload_n 1, 1) := by decide +kernel
theorem dJ9_min_7cf53_2 : decode cJ9_min_7cf53 2 = .ok (.if_icmp .gt 7, 3) := by decide +kernel
theorem dJ9_min_7cf53_5 : decode cJ9_min_7cf53 5 = .ok (.iload_n 0, 1) := by decide +kernel
theorem dJ9_min_7cf53_6 : decode cJ9_min_7cf53 6 = .ok (.goto 4, 3) := by decide +kernel
theorem dJ9_min_7cf53_9 : decode cJ9_min_7cf53 9 = .ok (.iload_n 1, 1) := by decide +kernel
theorem dJ9_min_7cf53_10 : decode cJ9_min_7cf53 10 = .ok (.ireturn, 1) := by decide +kernel
theorem dJ0_length_8abf5_0 : decode cJ0_length_8abf5 0 = .ok (.aload_n 0, 1) := by decide +kernel
theorem dJ0_length_8abf5_1 : decode cJ0_length_8abf5 1 = .ok (.getfield 9, 3) := by decide +kernel
theorem dJ0_length_8abf5_4 : decode cJ0_length_8abf5 4 = .ok (.arraylength, 1) := by decide +kernel
theorem dJ0_length_8abf5_5 : decode cJ0_length_8abf5 5 = .ok (.aload_n 0, 1) := by decide +kernel
theorem dJ0_length_8abf5_6 : decode cJ0_length_8abf5 6 = .ok (.invokevirtual 335, 3) := by decide +kernel
theorem dJ0_length_8abf5_9 : decode cJ0_length_8abf5 9 = .ok (.ishr, 1) := by decide +kernel
theorem dJ0_length_8abf5_10 : decode cJ0_length_8abf5 10 = .ok (.ireturn, 1) := by decide +kernel
theorem dJ0_indexOf_0f7a4_0 : decode cJ0_indexOf_0f7a4 0 = .ok (.aload_n 0, 1) := by decide +kernel
theorem dJ0_indexOf_0f7a4_1 : decode cJ0_indexOf_0f7a4 1 = .ok (.iload_n 1, 1) := by decide +kernel
theorem dJ0_indexOf_0f7a4_2 : decode cJ0_indexOf_0f7a4 2 = .ok (.iconst 0, 1) := by decide +kernel
theorem dJ0_indexOf_0f7a4_3 : decode cJ0_indexOf_0f7a4 3 = .ok (.invokevirtual 633, 3) := by decide +kernel
theorem dJ0_indexOf_0f7a4_6 : decode cJ0_indexOf_0f7a4 6 = .ok (.ireturn, 1) := by decide +kernel
theorem dJ0_indexOf_7cf53_0 : decode cJ0_indexOf_7cf53 0 = .ok (.aload_n 0, 1) := by decide +kernel
theorem dJ0_indexOf_7cf53_1 : decode cJ0_indexOf_7cf53 1 = .ok (.invokevirtual 492, 3) := by decide +kernel
theorem dJ0_indexOf_7cf53_4 : decode cJ0_indexOf_7cf53 4 = .ok (.ifCond .eq 19, 3) := by decide +kernel
theorem dJ0_indexOf_7cf53_7 : decode cJ0_indexOf_7cf53 7 = .ok (.aload_n 0, 1) := by decide +kernel
theorem dJ0_indexOf_7cf53_8 : decode cJ0_indexOf_7cf53 8 = .ok (.getfield 9, 3) := by decide +kernel
theorem dJ0_indexOf_7cf53_11 : decode cJ0_indexOf_7cf53 11 = .ok (.iload_n 1, 1) := by decide +kernel
theorem dJ0_indexOf_7cf53_12 : decode cJ0_indexOf_7cf53 12 = .ok (.iload_n 2, 1) := by decide +kernel
theorem dJ0_indexOf_7cf53_13 : decode cJ0_indexOf_7cf53 13 = .ok (.aload_n 0, 1) := by decide +kernel
theorem dJ0_indexOf_7cf53_14 : decode cJ0_indexOf_7cf53 14 = .ok (.invokevirtual 505, 3) := by decide +kernel
theorem dJ0_indexOf_7cf53_17 : decode cJ0_indexOf_7cf53 17 = .ok (.invokestatic 637, 3) := by decide +kernel
theorem dJ0_indexOf_7cf53_20 : decode cJ0_indexOf_7cf53 20 = .ok (.goto 16, 3) := by decide +kernel
theorem dJ0_indexOf_7cf53_23 : decode cJ0_indexOf_7cf53 23 = .ok (.aload_n 0, 1) := by decide +kernel
theorem dJ0_indexOf_7cf53_24 : decode cJ0_indexOf_7cf53 24 = .ok (.getfield 9, 3) := by decide +kernel
theorem dJ0_indexOf_7cf53_27 : decode cJ0_indexOf_7cf53 27 = .ok (.iload_n 1, 1) := by decide +kernel
theorem dJ0_indexOf_7cf53_28 : decode cJ0_indexOf_7cf53 28 = .ok (.iload_n 2, 1) := by decide +kernel
theorem dJ0_indexOf_7cf53_29 : decode cJ0_indexOf_7cf53 29 = .ok (.aload_n 0, 1) := by decide +kernel
theorem dJ0_indexOf_7cf53_30 : decode cJ0_indexOf_7cf53 30 = .ok (.invokevirtual 505, 3) := by decide +kernel
theorem dJ0_indexOf_7cf53_33 : decode cJ0_indexOf_7cf53 33 = .ok (.invokestatic 640, 3) := by decide +kernel
theorem dJ0_indexOf_7cf53_36 : decode cJ0_indexOf_7cf53 36 = .ok (.ireturn, 1) := by decide +kernel
theorem dJ0_coder_7d493_0 : decode cJ0_coder_7d493 0 = .ok (.getstatic 38, 3) := by decide +kernel
theorem dJ0_coder_7d493_3 : decode cJ0_coder_7d493 3 = .ok (.ifCond .eq 10, 3) := by decide +kernel
theorem dJ0_coder_7d493_6 : decode cJ0_coder_7d493 6 = .ok (.aload_n 0, 1) := by decide +kernel
theorem dJ0_coder_7d493_7 : decode cJ0_coder_7d493 7 = .ok (.getfield 15, 3) := by decide +kernel
theorem dJ0_coder_7d493_10 : decode cJ0_coder_7d493 10 = .ok (.goto 4, 3) := by decide +kernel
theorem dJ0_coder_7d493_13 : decode cJ0_coder_7d493 13 = .ok (.iconst 1, 1) := by decide +kernel
theorem dJ0_coder_7d493_14 : decode cJ0_coder_7d493 14 = .ok (.ireturn, 1) := by decide +kernel
theorem dJ0_isLatin1_aae02_0 : decode cJ0_isLatin1_aae02 0 = .ok (.getstatic 38, 3) := by decide +kernel
theorem dJ0_isLatin1_aae02_3 : decode cJ0_isLatin1_aae02 3 = .ok (.ifCond .eq 14, 3) := by decide +kernel
theorem dJ0_isLatin1_aae02_6 : decode cJ0_isLatin1_aae02 6 = .ok (.aload_n 0, 1) := by decide +kernel
theorem dJ0_isLatin1_aae02_7 : decode cJ0_isLatin1_aae02 7 = .ok (.getfield 15, 3) := by decide +kernel
theorem dJ0_isLatin1_aae02_10 : decode cJ0_isLatin1_aae02 10 = .ok (.ifCond .ne 7, 3) := by decide +kernel
theorem dJ0_isLatin1_aae02_13 : decode cJ0_isLatin1_aae02 13 = .ok (.iconst 1, 1) := by decide +kernel
theorem dJ0_isLatin1_aae02_14 : decode cJ0_isLatin1_aae02 14 = .ok (.goto 4, 3) := by decide +kernel
theorem dJ0_isLatin1_aae02_17 : decode cJ0_isLatin1_aae02 17 = .ok (.iconst 0, 1) := by decide +kernel
theorem dJ0_isLatin1_aae02_18 : decode cJ0_isLatin1_aae02 18 = .ok (.ireturn, 1) := by decide +kernel
theorem dJ0_checkBoundsBeginEnd_23922_0 : decode cJ0_checkBoundsBeginEnd_23922 0 = .ok (.iload_n 0, 1) := by decide +kernel
theorem dJ0_checkBoundsBeginEnd_23922_1 : decode cJ0_checkBoundsBeginEnd_23922 1 = .ok (.iload_n 1, 1) := by decide +kernel
theorem dJ0_checkBoundsBeginEnd_23922_2 : decode cJ0_checkBoundsBeginEnd_23922 2 = .ok (.iload_n 2, 1) := by decide +kernel
theorem dJ0_checkBoundsBeginEnd_23922_3 : decode cJ0_checkBoundsBeginEnd_23922 3 = .ok (.getstatic 1053, 3) := by decide +kernel
theorem dJ0_checkBoundsBeginEnd_23922_6 : decode cJ0_checkBoundsBeginEnd_23922 6 = .ok (.invokestatic 1062, 3) := by decide +kernel
theorem dJ0_checkBoundsBeginEnd_23922_9 : decode cJ0_checkBoundsBeginEnd_23922 9 = .ok (.pop, 1) := by decide +kernel
theorem dJ0_checkBoundsBeginEnd_23922_10 : decode cJ0_checkBoundsBeginEnd_23922 10 = .ok (.return_, 1) := by decide +kernel
theorem dJ1_canEncode_9a6ad_0 : decode cJ1_canEncode_9a6ad 0 = .ok (.iload_n 0, 1) := by decide +kernel
theorem dJ1_canEncode_9a6ad_1 : decode cJ1_canEncode_9a6ad 1 = .ok (.ifCond .lt 14, 3) := by decide +kernel
theorem dJ1_canEncode_9a6ad_4 : decode cJ1_canEncode_9a6ad 4 = .ok (.iload_n 0, 1) := by decide +kernel
theorem dJ1_canEncode_9a6ad_5 : decode cJ1_canEncode_9a6ad 5 = .ok (.sipush 255, 3) := by decide +kernel
theorem dJ1_canEncode_9a6ad_8 : decode cJ1_canEncode_9a6ad 8 = .ok (.if_icmp .gt 7, 3) := by decide +kernel
theorem dJ1_canEncode_9a6ad_11 : decode cJ1_canEncode_9a6ad 11 = .ok (.iconst 1, 1) := by decide +kernel
theorem dJ1_canEncode_9a6ad_12 : decode cJ1_canEncode_9a6ad 12 = .ok (.goto 4, 3) := by decide +kernel
theorem dJ1_canEncode_9a6ad_15 : decode cJ1_canEncode_9a6ad 15 = .ok (.iconst 0, 1) := by decide +kernel
theorem dJ1_canEncode_9a6ad_16 : decode cJ1_canEncode_9a6ad 16 = .ok (.ireturn, 1) := by decide +kernel
theorem dJ1_indexOf_4cfef_0 : decode cJ1_indexOf_4cfef 0 = .ok (.iload_n 1, 1) := by decide +kernel
theorem dJ1_indexOf_4cfef_1 : decode cJ1_indexOf_4cfef 1 = .ok (.invokestatic 88, 3) := by decide +kernel
theorem dJ1_indexOf_4cfef_4 : decode cJ1_indexOf_4cfef 4 = .ok (.ifCond .ne 5, 3) := by decide +kernel
theorem dJ1_indexOf_4cfef_7 : decode cJ1_indexOf_4cfef 7 = .ok (.iconst (-1), 1) := by decide +kernel
theorem dJ1_indexOf_4cfef_8 : decode cJ1_indexOf_4cfef 8 = .ok (.ireturn, 1) := by decide +kernel
theorem dJ1_indexOf_4cfef_9 : decode cJ1_indexOf_4cfef 9 = .ok (.iload_n 2, 1) := by decide +kernel
theorem dJ1_indexOf_4cfef_10 : decode cJ1_indexOf_4cfef 10 = .ok (.iconst 0, 1) := by decide +kernel
theorem dJ1_indexOf_4cfef_11 : decode cJ1_indexOf_4cfef 11 = .ok (.invokestatic 92, 3) := by decide +kernel
theorem dJ1_indexOf_4cfef_14 : decode cJ1_indexOf_4cfef 14 = .ok (.istore_n 2, 1) := by decide +kernel
theorem dJ1_indexOf_4cfef_15 : decode cJ1_indexOf_4cfef 15 = .ok (.iload_n 3, 1) := by decide +kernel
theorem dJ1_indexOf_4cfef_16 : decode cJ1_indexOf_4cfef 16 = .ok (.aload_n 0, 1) := by decide +kernel
theorem dJ1_indexOf_4cfef_17 : decode cJ1_indexOf_4cfef 17 = .ok (.arraylength, 1) := by decide +kernel
theorem dJ1_indexOf_4cfef_18 : decode cJ1_indexOf_4cfef 18 = .ok (.invokestatic 38, 3) := by decide +kernel
theorem dJ1_indexOf_4cfef_21 : decode cJ1_indexOf_4cfef 21 = .ok (.istore_n 3, 1) := by decide +kernel
theorem dJ1_indexOf_4cfef_22 : decode cJ1_indexOf_4cfef 22 = .ok (.iload_n 2, 1) := by decide +kernel
theorem dJ1_indexOf_4cfef_23 : decode cJ1_indexOf_4cfef 23 = .ok (.iload_n 3, 1) := by decide +kernel
theorem dJ1_indexOf_4cfef_24 : decode cJ1_indexOf_4cfef 24 = .ok (.if_icmp .lt 5, 3) := by decide +kernel
theorem dJ1_indexOf_4cfef_27 : decode cJ1_indexOf_4cfef 27 = .ok (.iconst (-1), 1) := by decide +kernel
theorem dJ1_indexOf_4cfef_28 : decode cJ1_indexOf_4cfef 28 = .ok (.ireturn, 1) := by decide +kernel
theorem dJ1_indexOf_4cfef_29 : decode cJ1_indexOf_4cfef 29 = .ok (.aload_n 0, 1) := by decide +kernel
theorem dJ1_indexOf_4cfef_30 : decode cJ1_indexOf_4cfef 30 = .ok (.iload_n 1, 1) := by decide +kernel
theorem dJ1_indexOf_4cfef_31 : decode cJ1_indexOf_4cfef 31 = .ok (.iload_n 2, 1) := by decide +kernel
theorem dJ1_indexOf_4cfef_32 : decode cJ1_indexOf_4cfef 32 = .ok (.iload_n 3, 1) := by decide +kernel
theorem dJ1_indexOf_4cfef_33 : decode cJ1_indexOf_4cfef 33 = .ok (.invokestatic 95, 3) := by decide +kernel
theorem dJ1_indexOf_4cfef_36 : decode cJ1_indexOf_4cfef 36 = .ok (.ireturn, 1) := by decide +kernel
theorem dJ1_indexOfChar_4cfef_0 : decode cJ1_indexOfChar_4cfef 0 = .ok (.iload_n 1, 1) := by decide +kernel
theorem dJ1_indexOfChar_4cfef_1 : decode cJ1_indexOfChar_4cfef 1 = .ok (.i2b, 1) := by decide +kernel
theorem dJ1_indexOfChar_4cfef_2 : decode cJ1_indexOfChar_4cfef 2 = .ok (.istore 4, 2) := by decide +kernel
theorem dJ1_indexOfChar_4cfef_4 : decode cJ1_indexOfChar_4cfef 4 = .ok (.iload_n 2, 1) := by decide +kernel
theorem dJ1_indexOfChar_4cfef_5 : decode cJ1_indexOfChar_4cfef 5 = .ok (.istore 5, 2) := by decide +kernel
theorem dJ1_indexOfChar_4cfef_7 : decode cJ1_indexOfChar_4cfef 7 = .ok (.iload 5, 2) := by decide +kernel
theorem dJ1_indexOfChar_4cfef_9 : decode cJ1_indexOfChar_4cfef 9 = .ok (.iload_n 3, 1) := by decide +kernel
theorem dJ1_indexOfChar_4cfef_10 : decode cJ1_indexOfChar_4cfef 10 = .ok (.if_icmp .ge 21, 3) := by decide +kernel
theorem dJ1_indexOfChar_4cfef_13 : decode cJ1_indexOfChar_4cfef 13 = .ok (.aload_n 0, 1) := by decide +kernel
theorem dJ1_indexOfChar_4cfef_14 : decode cJ1_indexOfChar_4cfef 14 = .ok (.iload 5, 2) := by decide +kernel
theorem dJ1_indexOfChar_4cfef_16 : decode cJ1_indexOfChar_4cfef 16 = .ok (.baload, 1) := by decide +kernel
theorem dJ1_indexOfChar_4cfef_17 : decode cJ1_indexOfChar_4cfef 17 = .ok (.iload 4, 2) := by decide +kernel
theorem dJ1_indexOfChar_4cfef_19 : decode cJ1_indexOfChar_4cfef 19 = .ok (.if_icmp .ne 6, 3) := by decide +kernel
theorem dJ1_indexOfChar_4cfef_22 : decode cJ1_indexOfChar_4cfef 22 = .ok (.iload 5, 2) := by decide +kernel
theorem dJ1_indexOfChar_4cfef_24 : decode cJ1_indexOfChar_4cfef 24 = .ok (.ireturn, 1) := by decide +kernel
theorem dJ1_indexOfChar_4cfef_25 : decode cJ1_indexOfChar_4cfef 25 = .ok (.iinc 5 1, 3) := by decide +kernel
theorem dJ1_indexOfChar_4cfef_28 : decode cJ1_indexOfChar_4cfef 28 = .ok (.goto (-21), 3) := by decide +kernel
theorem dJ1_indexOfChar_4cfef_31 : decode cJ1_indexOfChar_4cfef 31 = .ok (.iconst (-1), 1) := by decide +kernel
theorem dJ1_indexOfChar_4cfef_32 : decode cJ1_indexOfChar_4cfef 32 = .ok (.ireturn, 1) := by decide +kernel
theorem dJ2_getChar_3b067_0 : decode cJ2_getChar_3b067 0 = .ok (.getstatic 44, 3) := by decide +kernel
theorem dJ2_getChar_3b067_3 : decode cJ2_getChar_3b067 3 = .ok (.ifCond .ne 25, 3) := by decide +kernel
theorem dJ2_getChar_3b067_6 : decode cJ2_getChar_3b067 6 = .ok (.iload_n 1, 1) := by decide +kernel
theorem dJ2_getChar_3b067_7 : decode cJ2_getChar_3b067 7 = .ok (.ifCond .lt 11, 3) := by decide +kernel
theorem dJ2_getChar_3b067_10 : decode cJ2_getChar_3b067 10 = .ok (.iload_n 1, 1) := by decide +kernel
theorem dJ2_getChar_3b067_11 : decode cJ2_getChar_3b067 11 = .ok (.aload_n 0, 1) := by decide +kernel
theorem dJ2_getChar_3b067_12 : decode cJ2_getChar_3b067 12 = .ok (.invokestatic 48, 3) := by decide +kernel
theorem dJ2_getChar_3b067_15 : decode cJ2_getChar_3b067 15 = .ok (.if_icmp .lt 13, 3) := by decide +kernel
theorem dJ2_getChar_3b067_18 : decode cJ2_getChar_3b067 18 = .ok (.new 52, 3) := by decide +kernel
theorem dJ2_getChar_3b067_21 : decode cJ2_getChar_3b067 21 = .ok (.dup, 1) := by decide +kernel
theorem dJ2_getChar_3b067_22 : decode cJ2_getChar_3b067 22 = .ok (.ldc 54, 2) := by decide +kernel
theorem dJ2_getChar_3b067_24 : decode cJ2_getChar_3b067 24 = .ok (.invokespecial 56, 3) := by decide +kernel
theorem dJ2_getChar_3b067_27 : decode cJ2_getChar_3b067 27 = .ok (.athrow, 1) := by decide +kernel
theorem dJ2_getChar_3b067_28 : decode cJ2_getChar_3b067 28 = .ok (.iload_n 1, 1) := by decide +kernel
theorem dJ2_getChar_3b067_29 : decode cJ2_getChar_3b067 29 = .ok (.iconst 1, 1) := by decide +kernel
theorem dJ2_getChar_3b067_30 : decode cJ2_getChar_3b067 30 = .ok (.ishl, 1) := by decide +kernel
theorem dJ2_getChar_3b067_31 : decode cJ2_getChar_3b067 31 = .ok (.istore_n 1, 1) := by decide +kernel
theorem dJ2_getChar_3b067_32 : decode cJ2_getChar_3b067 32 = .ok (.aload_n 0, 1) := by decide +kernel
theorem dJ2_getChar_3b067_33 : decode cJ2_getChar_3b067 33 = .ok (.iload_n 1, 1) := by decide +kernel
theorem dJ2_getChar_3b067_34 : decode cJ2_getChar_3b067 34 = .ok (.iinc 1 1, 3) := by decide +kernel
theorem dJ2_getChar_3b067_37 : decode cJ2_getChar_3b067 37 = .ok (.baload, 1) := by decide +kernel
theorem dJ2_getChar_3b067_38 : decode cJ2_getChar_3b067 38 = .ok (.sipush 255, 3) := by decide +kernel
theorem dJ2_getChar_3b067_41 : decode cJ2_getChar_3b067 41 = .ok (.iand, 1) := by decide +kernel
theorem dJ2_getChar_3b067_42 : decode cJ2_getChar_3b067 42 = .ok (.getstatic 59, 3) := by decide +kernel
theorem dJ2_getChar_3b067_45 : decode cJ2_getChar_3b067 45 = .ok (.ishl, 1) := by decide +kernel
theorem dJ2_getChar_3b067_46 : decode cJ2_getChar_3b067 46 = .ok (.aload_n 0, 1) := by decide +kernel
theorem dJ2_getChar_3b067_47 : decode cJ2_getChar_3b067 47 = .ok (.iload_n 1, 1) := by decide +kernel
theorem dJ2_getChar_3b067_48 : decode cJ2_getChar_3b067 48 = .ok (.baload, 1) := by decide +kernel
theorem dJ2_getChar_3b067_49 : decode cJ2_getChar_3b067 49 = .ok (.sipush 255, 3) := by decide +kernel
theorem dJ2_getChar_3b067_52 : decode cJ2_getChar_3b067 52 = .ok (.iand, 1) := by decide +kernel
theorem dJ2_getChar_3b067_53 : decode cJ2_getChar_3b067 53 = .ok (.getstatic 63, 3) := by decide +kernel
theorem dJ2_getChar_3b067_56 : decode cJ2_getChar_3b067 56 = .ok (.ishl, 1) := by decide +kernel
theorem dJ2_getChar_3b067_57 : decode cJ2_getChar_3b067 57 = .ok (.ior, 1) := by decide +kernel
theorem dJ2_getChar_3b067_58 : decode cJ2_getChar_3b067 58 = .ok (.i2c, 1) := by decide +kernel
theorem dJ2_getChar_3b067_59 : decode cJ2_getChar_3b067 59 = .ok (.ireturn, 1) := by decide +kernel
theorem dJ2_length_9d52b_0 : decode cJ2_length_9d52b 0 = .ok (.aload_n 0, 1) := by decide +kernel
theorem dJ2_length_9d52b_1 : decode cJ2_length_9d52b 1 = .ok (.arraylength, 1) := by decide +kernel
theorem dJ2_length_9d52b_2 : decode cJ2_length_9d52b 2 = .ok (.iconst 1, 1) := by decide +kernel
theorem dJ2_length_9d52b_3 : decode cJ2_length_9d52b 3 = .ok (.ishr, 1) := by decide +kernel
theorem dJ2_length_9d52b_4 : decode cJ2_length_9d52b 4 = .ok (.ireturn, 1) := by decide +kernel
theorem dJ2_indexOf_4cfef_0 : decode cJ2_indexOf_4cfef 0 = .ok (.iload_n 2, 1) := by decide +kernel
theorem dJ2_indexOf_4cfef_1 : decode cJ2_indexOf_4cfef 1 = .ok (.iconst 0, 1) := by decide +kernel
theorem dJ2_indexOf_4cfef_2 : decode cJ2_indexOf_4cfef 2 = .ok (.invokestatic 224, 3) := by decide +kernel
theorem dJ2_indexOf_4cfef_5 : decode cJ2_indexOf_4cfef 5 = .ok (.istore_n 2, 1) := by decide +kernel
theorem dJ2_indexOf_4cfef_6 : decode cJ2_indexOf_4cfef 6 = .ok (.iload_n 3, 1) := by decide +kernel
theorem dJ2_indexOf_4cfef_7 : decode cJ2_indexOf_4cfef 7 = .ok (.aload_n 0, 1) := by decide +kernel
theorem dJ2_indexOf_4cfef_8 : decode cJ2_indexOf_4cfef 8 = .ok (.arraylength, 1) := by decide +kernel
theorem dJ2_indexOf_4cfef_9 : decode cJ2_indexOf_4cfef 9 = .ok (.iconst 1, 1) := by decide +kernel
theorem dJ2_indexOf_4cfef_10 : decode cJ2_indexOf_4cfef 10 = .ok (.ishr, 1) := by decide +kernel
theorem dJ2_indexOf_4cfef_11 : decode cJ2_indexOf_4cfef 11 = .ok (.invokestatic 183, 3) := by decide +kernel
theorem dJ2_indexOf_4cfef_14 : decode cJ2_indexOf_4cfef 14 = .ok (.istore_n 3, 1) := by decide +kernel
theorem dJ2_indexOf_4cfef_15 : decode cJ2_indexOf_4cfef 15 = .ok (.iload_n 2, 1) := by decide +kernel
theorem dJ2_indexOf_4cfef_16 : decode cJ2_indexOf_4cfef 16 = .ok (.iload_n 3, 1) := by decide +kernel
theorem dJ2_indexOf_4cfef_17 : decode cJ2_indexOf_4cfef 17 = .ok (.if_icmp .lt 5, 3) := by decide +kernel
theorem dJ2_indexOf_4cfef_20 : decode cJ2_indexOf_4cfef 20 = .ok (.iconst (-1), 1) := by decide +kernel
theorem dJ2_indexOf_4cfef_21 : decode cJ2_indexOf_4cfef 21 = .ok (.ireturn, 1) := by decide +kernel
theorem dJ2_indexOf_4cfef_22 : decode cJ2_indexOf_4cfef 22 = .ok (.iload_n 1, 1) := by decide +kernel
theorem dJ2_indexOf_4cfef_23 : decode cJ2_indexOf_4cfef 23 = .ok (.ldc 227, 2) := by decide +kernel
theorem dJ2_indexOf_4cfef_25 : decode cJ2_indexOf_4cfef 25 = .ok (.if_icmp .ge 11, 3) := by decide +kernel
theorem dJ2_indexOf_4cfef_28 : decode cJ2_indexOf_4cfef 28 = .ok (.aload_n 0, 1) := by decide +kernel
theorem dJ2_indexOf_4cfef_29 : decode cJ2_indexOf_4cfef 29 = .ok (.iload_n 1, 1) := by decide +kernel
theorem dJ2_indexOf_4cfef_30 : decode cJ2_indexOf_4cfef 30 = .ok (.iload_n 2, 1) := by decide +kernel
theorem dJ2_indexOf_4cfef_31 : decode cJ2_indexOf_4cfef 31 = .ok (.iload_n 3, 1) := by decide +kernel
theorem dJ2_indexOf_4cfef_32 : decode cJ2_indexOf_4cfef 32 = .ok (.invokestatic 228, 3) := by decide +kernel
theorem dJ2_indexOf_4cfef_35 : decode cJ2_indexOf_4cfef 35 = .ok (.ireturn, 1) := by decide +kernel
theorem dJ2_indexOf_4cfef_36 : decode cJ2_indexOf_4cfef 36 = .ok (.aload_n 0, 1) := by decide +kernel
theorem dJ2_indexOf_4cfef_37 : decode cJ2_indexOf_4cfef 37 = .ok (.iload_n 1, 1) := by decide +kernel
theorem dJ2_indexOf_4cfef_38 : decode cJ2_indexOf_4cfef 38 = .ok (.iload_n 2, 1) := by decide +kernel
theorem dJ2_indexOf_4cfef_39 : decode cJ2_indexOf_4cfef 39 = .ok (.iload_n 3, 1) := by decide +kernel
theorem dJ2_indexOf_4cfef_40 : decode cJ2_indexOf_4cfef 40 = .ok (.invokestatic 232, 3) := by decide +kernel
theorem dJ2_indexOf_4cfef_43 : decode cJ2_indexOf_4cfef 43 = .ok (.ireturn, 1) := by decide +kernel
theorem dJ2_indexOfChar_4cfef_0 : decode cJ2_indexOfChar_4cfef 0 = .ok (.iload_n 2, 1) := by decide +kernel
theorem dJ2_indexOfChar_4cfef_1 : decode cJ2_indexOfChar_4cfef 1 = .ok (.iload_n 3, 1) := by decide +kernel
theorem dJ2_indexOfChar_4cfef_2 : decode cJ2_indexOfChar_4cfef 2 = .ok (.aload_n 0, 1) := by decide +kernel
theorem dJ2_indexOfChar_4cfef_3 : decode cJ2_indexOfChar_4cfef 3 = .ok (.invokestatic 96, 3) := by decide +kernel
theorem dJ2_indexOfChar_4cfef_6 : decode cJ2_indexOfChar_4cfef 6 = .ok (.aload_n 0, 1) := by decide +kernel
theorem dJ2_indexOfChar_4cfef_7 : decode cJ2_indexOfChar_4cfef 7 = .ok (.iload_n 1, 1) := by decide +kernel
theorem dJ2_indexOfChar_4cfef_8 : decode cJ2_indexOfChar_4cfef 8 = .ok (.iload_n 2, 1) := by decide +kernel
theorem dJ2_indexOfChar_4cfef_9 : decode cJ2_indexOfChar_4cfef 9 = .ok (.iload_n 3, 1) := by decide +kernel
theorem dJ2_indexOfChar_4cfef_10 : decode cJ2_indexOfChar_4cfef 10 = .ok (.invokestatic 244, 3) := by decide +kernel
theorem dJ2_indexOfChar_4cfef_13 : decode cJ2_indexOfChar_4cfef 13 = .ok (.ireturn, 1) := by decide +kernel
theorem dJ2_indexOfCharUnsafe_4cfef_0 : decode cJ2_indexOfCharUnsafe_4cfef 0 = .ok (.iload_n 2, 1) := by decide +kernel
theorem dJ2_indexOfCharUnsafe_4cfef_1 : decode cJ2_indexOfCharUnsafe_4cfef 1 = .ok (.istore 4, 2) := by decide +kernel
theorem dJ2_indexOfCharUnsafe_4cfef_3 : decode cJ2_indexOfCharUnsafe_4cfef 3 = .ok (.iload 4, 2) := by decide +kernel
theorem dJ2_indexOfCharUnsafe_4cfef_5 : decode cJ2_indexOfCharUnsafe_4cfef 5 = .ok (.iload_n 3, 1) := by decide +kernel
theorem dJ2_indexOfCharUnsafe_4cfef_6 : decode cJ2_indexOfCharUnsafe_4cfef 6 = .ok (.if_icmp .ge 22, 3) := by decide +kernel
theorem dJ2_indexOfCharUnsafe_4cfef_9 : decode cJ2_indexOfCharUnsafe_4cfef 9 = .ok (.aload_n 0, 1) := by decide +kernel
theorem dJ2_indexOfCharUnsafe_4cfef_10 : decode cJ2_indexOfCharUnsafe_4cfef 10 = .ok (.iload 4, 2) := by decide +kernel
theorem dJ2_indexOfCharUnsafe_4cfef_12 : decode cJ2_indexOfCharUnsafe_4cfef 12 = .ok (.invokestatic 71, 3) := by decide +kernel
theorem dJ2_indexOfCharUnsafe_4cfef_15 : decode cJ2_indexOfCharUnsafe_4cfef 15 = .ok (.iload_n 1, 1) := by decide +kernel
theorem dJ2_indexOfCharUnsafe_4cfef_16 : decode cJ2_indexOfCharUnsafe_4cfef 16 = .ok (.if_icmp .ne 6, 3) := by decide +kernel
theorem dJ2_indexOfCharUnsafe_4cfef_19 : decode cJ2_indexOfCharUnsafe_4cfef 19 = .ok (.iload 4, 2) := by decide +kernel
theorem dJ2_indexOfCharUnsafe_4cfef_21 : decode cJ2_indexOfCharUnsafe_4cfef 21 = .ok (.ireturn, 1) := by decide +kernel
theorem dJ2_indexOfCharUnsafe_4cfef_22 : decode cJ2_indexOfCharUnsafe_4cfef 22 = .ok (.iinc 4 1, 3) := by decide +kernel
theorem dJ2_indexOfCharUnsafe_4cfef_25 : decode cJ2_indexOfCharUnsafe_4cfef 25 = .ok (.goto (-22), 3) := by decide +kernel
theorem dJ2_indexOfCharUnsafe_4cfef_28 : decode cJ2_indexOfCharUnsafe_4cfef 28 = .ok (.iconst (-1), 1) := by decide +kernel
theorem dJ2_indexOfCharUnsafe_4cfef_29 : decode cJ2_indexOfCharUnsafe_4cfef 29 = .ok (.ireturn, 1) := by decide +kernel
theorem dJ2_indexOfSupplementary_4cfef_0 : decode cJ2_indexOfSupplementary_4cfef 0 = .ok (.iload_n 1, 1) := by decide +kernel
theorem dJ2_indexOfSupplementary_4cfef_1 : decode cJ2_indexOfSupplementary_4cfef 1 = .ok (.invokestatic 164, 3) := by decide +kernel
theorem dJ2_indexOfSupplementary_4cfef_4 : decode cJ2_indexOfSupplementary_4cfef 4 = .ok (.ifCond .eq 65, 3) := by decide +kernel
theorem dJ2_indexOfSupplementary_4cfef_7 : decode cJ2_indexOfSupplementary_4cfef 7 = .ok (.iload_n 1, 1) := by decide +kernel
theorem dJ2_indexOfSupplementary_4cfef_8 : decode cJ2_indexOfSupplementary_4cfef 8 = .ok (.invokestatic 157, 3) := by decide +kernel
theorem dJ2_indexOfSupplementary_4cfef_11 : decode cJ2_indexOfSupplementary_4cfef 11 = .ok (.istore 4, 2) := by decide +kernel
theorem dJ2_indexOfSupplementary_4cfef_13 : decode cJ2_indexOfSupplementary_4cfef 13 = .ok (.iload_n 1, 1) := by decide +kernel
theorem dJ2_indexOfSupplementary_4cfef_14 : decode cJ2_indexOfSupplementary_4cfef 14 = .ok (.invokestatic 161, 3) := by decide +kernel
theorem dJ2_indexOfSupplementary_4cfef_17 : decode cJ2_indexOfSupplementary_4cfef 17 = .ok (.istore 5, 2) := by decide +kernel
theorem dJ2_indexOfSupplementary_4cfef_19 : decode cJ2_indexOfSupplementary_4cfef 19 = .ok (.iload_n 2, 1) := by decide +kernel
theorem dJ2_indexOfSupplementary_4cfef_20 : decode cJ2_indexOfSupplementary_4cfef 20 = .ok (.iload_n 3, 1) := by decide +kernel
theorem dJ2_indexOfSupplementary_4cfef_21 : decode cJ2_indexOfSupplementary_4cfef 21 = .ok (.aload_n 0, 1) := by decide +kernel
theorem dJ2_indexOfSupplementary_4cfef_22 : decode cJ2_indexOfSupplementary_4cfef 22 = .ok (.invokestatic 96, 3) := by decide +kernel
theorem dJ2_indexOfSupplementary_4cfef_25 : decode cJ2_indexOfSupplementary_4cfef 25 = .ok (.iload_n 2, 1) := by decide +kernel
theorem dJ2_indexOfSupplementary_4cfef_26 : decode cJ2_indexOfSupplementary_4cfef 26 = .ok (.istore 6, 2) := by decide +kernel
theorem dJ2_indexOfSupplementary_4cfef_28 : decode cJ2_indexOfSupplementary_4cfef 28 = .ok (.iload 6, 2) := by decide +kernel
theorem dJ2_indexOfSupplementary_4cfef_30 : decode cJ2_indexOfSupplementary_4cfef 30 = .ok (.iload_n 3, 1) := by decide +kernel
theorem dJ2_indexOfSupplementary_4cfef_31 : decode cJ2_indexOfSupplementary_4cfef 31 = .ok (.iconst 1, 1) := by decide +kernel
theorem dJ2_indexOfSupplementary_4cfef_32 : decode cJ2_indexOfSupplementary_4cfef 32 = .ok (.isub, 1) := by decide +kernel
theorem dJ2_indexOfSupplementary_4cfef_33 : decode cJ2_indexOfSupplementary_4cfef 33 = .ok (.if_icmp .ge 36, 3) := by decide +kernel
theorem dJ2_indexOfSupplementary_4cfef_36 : decode cJ2_indexOfSupplementary_4cfef 36 = .ok (.aload_n 0, 1) := by decide +kernel
theorem dJ2_indexOfSupplementary_4cfef_37 : decode cJ2_indexOfSupplementary_4cfef 37 = .ok (.iload 6, 2) := by decide +kernel
theorem dJ2_indexOfSupplementary_4cfef_39 : decode cJ2_indexOfSupplementary_4cfef 39 = .ok (.invokestatic 71, 3) := by decide +kernel
theorem dJ2_indexOfSupplementary_4cfef_42 : decode cJ2_indexOfSupplementary_4cfef 42 = .ok (.iload 4, 2) := by decide +kernel
theorem dJ2_indexOfSupplementary_4cfef_44 : decode cJ2_indexOfSupplementary_4cfef 44 = .ok (.if_icmp .ne 19, 3) := by decide +kernel
theorem dJ2_indexOfSupplementary_4cfef_47 : decode cJ2_indexOfSupplementary_4cfef 47 = .ok (.aload_n 0, 1) := by decide +kernel
theorem dJ2_indexOfSupplementary_4cfef_48 : decode cJ2_indexOfSupplementary_4cfef 48 = .ok (.iload 6, 2) := by decide +kernel
theorem dJ2_indexOfSupplementary_4cfef_50 : decode cJ2_indexOfSupplementary_4cfef 50 = .ok (.iconst 1, 1) := by decide +kernel
theorem dJ2_indexOfSupplementary_4cfef_51 : decode cJ2_indexOfSupplementary_4cfef 51 = .ok (.iadd, 1) := by decide +kernel
theorem dJ2_indexOfSupplementary_4cfef_52 : decode cJ2_indexOfSupplementary_4cfef 52 = .ok (.invokestatic 71, 3) := by decide +kernel
theorem dJ2_indexOfSupplementary_4cfef_55 : decode cJ2_indexOfSupplementary_4cfef 55 = .ok (.iload 5, 2) := by decide +kernel
theorem dJ2_indexOfSupplementary_4cfef_57 : decode cJ2_indexOfSupplementary_4cfef 57 = .ok (.if_icmp .ne 6, 3) := by decide +kernel
theorem dJ2_indexOfSupplementary_4cfef_60 : decode cJ2_indexOfSupplementary_4cfef 60 = .ok (.iload 6, 2) := by decide +kernel
theorem dJ2_indexOfSupplementary_4cfef_62 : decode cJ2_indexOfSupplementary_4cfef 62 = .ok (.ireturn, 1) := by decide +kernel
theorem dJ2_indexOfSupplementary_4cfef_63 : decode cJ2_indexOfSupplementary_4cfef 63 = .ok (.iinc 6 1, 3) := by decide +kernel
theorem dJ2_indexOfSupplementary_4cfef_66 : decode cJ2_indexOfSupplementary_4cfef 66 = .ok (.goto (-38), 3) := by decide +kernel
theorem dJ2_indexOfSupplementary_4cfef_69 : decode cJ2_indexOfSupplementary_4cfef 69 = .ok (.iconst (-1), 1) := by decide +kernel
theorem dJ2_indexOfSupplementary_4cfef_70 : decode cJ2_indexOfSupplementary_4cfef 70 = .ok (.ireturn, 1) := by decide +kernel
theorem dJ2_checkBoundsBeginEnd_d044e_0 : decode cJ2_checkBoundsBeginEnd_d044e 0 = .ok (.iload_n 0, 1) := by decide +kernel
theorem dJ2_checkBoundsBeginEnd_d044e_1 : decode cJ2_checkBoundsBeginEnd_d044e 1 = .ok (.iload_n 1, 1) := by decide +kernel
theorem dJ2_checkBoundsBeginEnd_d044e_2 : decode cJ2_checkBoundsBeginEnd_d044e 2 = .ok (.aload_n 2, 1) := by decide +kernel
theorem dJ2_checkBoundsBeginEnd_d044e_3 : decode cJ2_checkBoundsBeginEnd_d044e 3 = .ok (.invokestatic 48, 3) := by decide +kernel
theorem dJ2_checkBoundsBeginEnd_d044e_6 : decode cJ2_checkBoundsBeginEnd_d044e 6 = .ok (.invokestatic 241, 3) := by decide +kernel
theorem dJ2_checkBoundsBeginEnd_d044e_9 : decode cJ2_checkBoundsBeginEnd_d044e 9 = .ok (.return_, 1) := by decide +kernel
theorem dJ3_checkFromToIndex_8c36e_0 : decode cJ3_checkFromToIndex_8c36e 0 = .ok (.iload_n 0, 1) := by decide +kernel
theorem dJ3_checkFromToIndex_8c36e_1 : decode cJ3_checkFromToIndex_8c36e 1 = .ok (.ifCond .lt 13, 3) := by decide +kernel
theorem dJ3_checkFromToIndex_8c36e_4 : decode cJ3_checkFromToIndex_8c36e 4 = .ok (.iload_n 0, 1) := by decide +kernel
theorem dJ3_checkFromToIndex_8c36e_5 : decode cJ3_checkFromToIndex_8c36e 5 = .ok (.iload_n 1, 1) := by decide +kernel
theorem dJ3_checkFromToIndex_8c36e_6 : decode cJ3_checkFromToIndex_8c36e 6 = .ok (.if_icmp .gt 8, 3) := by decide +kernel
theorem dJ3_checkFromToIndex_8c36e_9 : decode cJ3_checkFromToIndex_8c36e 9 = .ok (.iload_n 1, 1) := by decide +kernel
theorem dJ3_checkFromToIndex_8c36e_10 : decode cJ3_checkFromToIndex_8c36e 10 = .ok (.iload_n 2, 1) := by decide +kernel
theorem dJ3_checkFromToIndex_8c36e_11 : decode cJ3_checkFromToIndex_8c36e 11 = .ok (.if_icmp .le 11, 3) := by decide +kernel
theorem dJ3_checkFromToIndex_8c36e_14 : decode cJ3_checkFromToIndex_8c36e 14 = .ok (.aload_n 3, 1) := by decide +kernel
theorem dJ3_checkFromToIndex_8c36e_15 : decode cJ3_checkFromToIndex_8c36e 15 = .ok (.iload_n 0, 1) := by decide +kernel
theorem dJ3_checkFromToIndex_8c36e_16 : decode cJ3_checkFromToIndex_8c36e 16 = .ok (.iload_n 1, 1) := by decide +kernel
theorem dJ3_checkFromToIndex_8c36e_17 : decode cJ3_checkFromToIndex_8c36e 17 = .ok (.iload_n 2, 1) := by decide +kernel
theorem dJ3_checkFromToIndex_8c36e_18 : decode cJ3_checkFromToIndex_8c36e 18 = .ok (.invokestatic 99, 3) := by decide +kernel
theorem dJ3_checkFromToIndex_8c36e_21 : decode cJ3_checkFromToIndex_8c36e 21 = .ok (.athrow, 1) := by decide +kernel
theorem dJ3_checkFromToIndex_8c36e_22 : decode cJ3_checkFromToIndex_8c36e 22 = .ok (.iload_n 0, 1) := by decide +kernel
theorem dJ3_checkFromToIndex_8c36e_23 : decode cJ3_checkFromToIndex_8c36e 23 = .ok (.ireturn, 1) := by decide +kernel
