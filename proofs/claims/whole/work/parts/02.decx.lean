theorem dX0_init_0 : decode cX0_init 0 = .ok (.aload_n 0, 1) := by decide +kernel
theorem dX0_init_1 : decode cX0_init 1 = .ok (.invokespecial 3, 3) := by decide +kernel
theorem dX0_init_4 : decode cX0_init 4 = .ok (.aload_n 0, 1) := by decide +kernel
theorem dX0_init_5 : decode cX0_init 5 = .ok (.iconst 3, 1) := by decide +kernel
theorem dX0_init_6 : decode cX0_init 6 = .ok (.newarray .int, 2) := by decide +kernel
theorem dX0_init_8 : decode cX0_init 8 = .ok (.putfield 9, 3) := by decide +kernel
theorem dX0_init_11 : decode cX0_init 11 = .ok (.aload_n 0, 1) := by decide +kernel
theorem dX0_init_12 : decode cX0_init 12 = .ok (.bipush 12, 2) := by decide +kernel
theorem dX0_init_14 : decode cX0_init 14 = .ok (.newarray .int, 2) := by decide +kernel
theorem dX0_init_16 : decode cX0_init 16 = .ok (.putfield 15, 3) := by decide +kernel
theorem dX0_init_19 : decode cX0_init 19 = .ok (.aload_n 0, 1) := by decide +kernel
theorem dX0_init_20 : decode cX0_init 20 = .ok (.bipush 12, 2) := by decide +kernel
theorem dX0_init_22 : decode cX0_init 22 = .ok (.newarray .int, 2) := by decide +kernel
theorem dX0_init_24 : decode cX0_init 24 = .ok (.putfield 18, 3) := by decide +kernel
theorem dX0_init_27 : decode cX0_init 27 = .ok (.aload_n 0, 1) := by decide +kernel
theorem dX0_init_28 : decode cX0_init 28 = .ok (.bipush 12, 2) := by decide +kernel
theorem dX0_init_30 : decode cX0_init 30 = .ok (.newarray .int, 2) := by decide +kernel
theorem dX0_init_32 : decode cX0_init 32 = .ok (.putfield 21, 3) := by decide +kernel
theorem dX0_init_35 : decode cX0_init 35 = .ok (.return_, 1) := by decide +kernel
theorem dX0_append_0 : decode cX0_append 0 = .ok (.aload_n 0, 1) := by decide +kernel
theorem dX0_append_1 : decode cX0_append 1 = .ok (.getfield 24, 3) := by decide +kernel
theorem dX0_append_4 : decode cX0_append 4 = .ok (.bipush 12, 2) := by decide +kernel
theorem dX0_append_6 : decode cX0_append 6 = .ok (.if_icmp .ge 43, 3) := by decide +kernel
theorem dX0_append_9 : decode cX0_append 9 = .ok (.aload_n 0, 1) := by decide +kernel
theorem dX0_append_10 : decode cX0_append 10 = .ok (.getfield 15, 3) := by decide +kernel
theorem dX0_append_13 : decode cX0_append 13 = .ok (.aload_n 0, 1) := by decide +kernel
theorem dX0_append_14 : decode cX0_append 14 = .ok (.getfield 24, 3) := by decide +kernel
theorem dX0_append_17 : decode cX0_append 17 = .ok (.iload_n 1, 1) := by decide +kernel
theorem dX0_append_18 : decode cX0_append 18 = .ok (.iastore, 1) := by decide +kernel
theorem dX0_append_19 : decode cX0_append 19 = .ok (.aload_n 0, 1) := by decide +kernel
theorem dX0_append_20 : decode cX0_append 20 = .ok (.getfield 18, 3) := by decide +kernel
theorem dX0_append_23 : decode cX0_append 23 = .ok (.aload_n 0, 1) := by decide +kernel
theorem dX0_append_24 : decode cX0_append 24 = .ok (.getfield 24, 3) := by decide +kernel
theorem dX0_append_27 : decode cX0_append 27 = .ok (.iload_n 2, 1) := by decide +kernel
theorem dX0_append_28 : decode cX0_append 28 = .ok (.iastore, 1) := by decide +kernel
theorem dX0_append_29 : decode cX0_append 29 = .ok (.aload_n 0, 1) := by decide +kernel
theorem dX0_append_30 : decode cX0_append 30 = .ok (.getfield 21, 3) := by decide +kernel
theorem dX0_append_33 : decode cX0_append 33 = .ok (.aload_n 0, 1) := by decide +kernel
theorem dX0_append_34 : decode cX0_append 34 = .ok (.getfield 24, 3) := by decide +kernel
theorem dX0_append_37 : decode cX0_append 37 = .ok (.iload_n 3, 1) := by decide +kernel
theorem dX0_append_38 : decode cX0_append 38 = .ok (.iastore, 1) := by decide +kernel
theorem dX0_append_39 : decode cX0_append 39 = .ok (.aload_n 0, 1) := by decide +kernel
theorem dX0_append_40 : decode cX0_append 40 = .ok (.dup, 1) := by decide +kernel
theorem dX0_append_41 : decode cX0_append 41 = .ok (.getfield 24, 3) := by decide +kernel
theorem dX0_append_44 : decode cX0_append 44 = .ok (.iconst 1, 1) := by decide +kernel
theorem dX0_append_45 : decode cX0_append 45 = .ok (.iadd, 1) := by decide +kernel
theorem dX0_append_46 : decode cX0_append 46 = .ok (.putfield 24, 3) := by decide +kernel
theorem dX0_append_49 : decode cX0_append 49 = .ok (.return_, 1) := by decide +kernel
theorem dX0_shownTo_0 : decode cX0_shownTo 0 = .ok (.iconst 0, 1) := by decide +kernel
theorem dX0_shownTo_1 : decode cX0_shownTo 1 = .ok (.istore_n 2, 1) := by decide +kernel
theorem dX0_shownTo_2 : decode cX0_shownTo 2 = .ok (.iconst 0, 1) := by decide +kernel
theorem dX0_shownTo_3 : decode cX0_shownTo 3 = .ok (.istore_n 3, 1) := by decide +kernel
theorem dX0_shownTo_4 : decode cX0_shownTo 4 = .ok (.iload_n 3, 1) := by decide +kernel
theorem dX0_shownTo_5 : decode cX0_shownTo 5 = .ok (.aload_n 0, 1) := by decide +kernel
theorem dX0_shownTo_6 : decode cX0_shownTo 6 = .ok (.getfield 24, 3) := by decide +kernel
theorem dX0_shownTo_9 : decode cX0_shownTo 9 = .ok (.if_icmp .ge 22, 3) := by decide +kernel
theorem dX0_shownTo_12 : decode cX0_shownTo 12 = .ok (.aload_n 0, 1) := by decide +kernel
theorem dX0_shownTo_13 : decode cX0_shownTo 13 = .ok (.getfield 18, 3) := by decide +kernel
theorem dX0_shownTo_16 : decode cX0_shownTo 16 = .ok (.iload_n 3, 1) := by decide +kernel
theorem dX0_shownTo_17 : decode cX0_shownTo 17 = .ok (.iaload, 1) := by decide +kernel
theorem dX0_shownTo_18 : decode cX0_shownTo 18 = .ok (.iload_n 1, 1) := by decide +kernel
theorem dX0_shownTo_19 : decode cX0_shownTo 19 = .ok (.if_icmp .ne 6, 3) := by decide +kernel
theorem dX0_shownTo_22 : decode cX0_shownTo 22 = .ok (.iinc 2 1, 3) := by decide +kernel
theorem dX0_shownTo_25 : decode cX0_shownTo 25 = .ok (.iinc 3 1, 3) := by decide +kernel
theorem dX0_shownTo_28 : decode cX0_shownTo 28 = .ok (.goto (-24), 3) := by decide +kernel
theorem dX0_shownTo_31 : decode cX0_shownTo 31 = .ok (.iload_n 2, 1) := by decide +kernel
theorem dX0_shownTo_32 : decode cX0_shownTo 32 = .ok (.ireturn, 1) := by decide +kernel
theorem dX0_take_0 : decode cX0_take 0 = .ok (.aload_n 1, 1) := by decide +kernel
theorem dX0_take_1 : decode cX0_take 1 = .ok (.getfield 9, 3) := by decide +kernel
theorem dX0_take_4 : decode cX0_take 4 = .ok (.iconst 0, 1) := by decide +kernel
theorem dX0_take_5 : decode cX0_take 5 = .ok (.aload_n 0, 1) := by decide +kernel
theorem dX0_take_6 : decode cX0_take 6 = .ok (.getfield 9, 3) := by decide +kernel
theorem dX0_take_9 : decode cX0_take 9 = .ok (.iconst 0, 1) := by decide +kernel
theorem dX0_take_10 : decode cX0_take 10 = .ok (.iconst 3, 1) := by decide +kernel
theorem dX0_take_11 : decode cX0_take 11 = .ok (.invokestatic 28, 3) := by decide +kernel
theorem dX0_take_14 : decode cX0_take 14 = .ok (.aload_n 1, 1) := by decide +kernel
theorem dX0_take_15 : decode cX0_take 15 = .ok (.getfield 15, 3) := by decide +kernel
theorem dX0_take_18 : decode cX0_take 18 = .ok (.iconst 0, 1) := by decide +kernel
theorem dX0_take_19 : decode cX0_take 19 = .ok (.aload_n 0, 1) := by decide +kernel
theorem dX0_take_20 : decode cX0_take 20 = .ok (.getfield 15, 3) := by decide +kernel
theorem dX0_take_23 : decode cX0_take 23 = .ok (.iconst 0, 1) := by decide +kernel
theorem dX0_take_24 : decode cX0_take 24 = .ok (.bipush 12, 2) := by decide +kernel
theorem dX0_take_26 : decode cX0_take 26 = .ok (.invokestatic 28, 3) := by decide +kernel
theorem dX0_take_29 : decode cX0_take 29 = .ok (.aload_n 1, 1) := by decide +kernel
theorem dX0_take_30 : decode cX0_take 30 = .ok (.getfield 18, 3) := by decide +kernel
theorem dX0_take_33 : decode cX0_take 33 = .ok (.iconst 0, 1) := by decide +kernel
theorem dX0_take_34 : decode cX0_take 34 = .ok (.aload_n 0, 1) := by decide +kernel
theorem dX0_take_35 : decode cX0_take 35 = .ok (.getfield 18, 3) := by decide +kernel
theorem dX0_take_38 : decode cX0_take 38 = .ok (.iconst 0, 1) := by decide +kernel
theorem dX0_take_39 : decode cX0_take 39 = .ok (.bipush 12, 2) := by decide +kernel
theorem dX0_take_41 : decode cX0_take 41 = .ok (.invokestatic 28, 3) := by decide +kernel
theorem dX0_take_44 : decode cX0_take 44 = .ok (.aload_n 1, 1) := by decide +kernel
theorem dX0_take_45 : decode cX0_take 45 = .ok (.getfield 21, 3) := by decide +kernel
theorem dX0_take_48 : decode cX0_take 48 = .ok (.iconst 0, 1) := by decide +kernel
theorem dX0_take_49 : decode cX0_take 49 = .ok (.aload_n 0, 1) := by decide +kernel
theorem dX0_take_50 : decode cX0_take 50 = .ok (.getfield 21, 3) := by decide +kernel
theorem dX0_take_53 : decode cX0_take 53 = .ok (.iconst 0, 1) := by decide +kernel
theorem dX0_take_54 : decode cX0_take 54 = .ok (.bipush 12, 2) := by decide +kernel
theorem dX0_take_56 : decode cX0_take 56 = .ok (.invokestatic 28, 3) := by decide +kernel
theorem dX0_take_59 : decode cX0_take 59 = .ok (.aload_n 0, 1) := by decide +kernel
theorem dX0_take_60 : decode cX0_take 60 = .ok (.aload_n 1, 1) := by decide +kernel
theorem dX0_take_61 : decode cX0_take 61 = .ok (.getfield 34, 3) := by decide +kernel
theorem dX0_take_64 : decode cX0_take 64 = .ok (.putfield 34, 3) := by decide +kernel
theorem dX0_take_67 : decode cX0_take 67 = .ok (.aload_n 0, 1) := by decide +kernel
theorem dX0_take_68 : decode cX0_take 68 = .ok (.aload_n 1, 1) := by decide +kernel
theorem dX0_take_69 : decode cX0_take 69 = .ok (.getfield 24, 3) := by decide +kernel
theorem dX0_take_72 : decode cX0_take 72 = .ok (.putfield 24, 3) := by decide +kernel
theorem dX0_take_75 : decode cX0_take 75 = .ok (.return_, 1) := by decide +kernel
theorem dX1_init_0 : decode cX1_init 0 = .ok (.aload_n 0, 1) := by decide +kernel
theorem dX1_init_1 : decode cX1_init 1 = .ok (.invokespecial 1, 3) := by decide +kernel
theorem dX1_init_4 : decode cX1_init 4 = .ok (.return_, 1) := by decide +kernel
theorem dX1_word_0 : decode cX1_word 0 = .ok (.aload_n 1, 1) := by decide +kernel
theorem dX1_word_1 : decode cX1_word 1 = .ok (.iload_n 2, 1) := by decide +kernel
theorem dX1_word_2 : decode cX1_word 2 = .ok (.iload_n 3, 1) := by decide +kernel
theorem dX1_word_3 : decode cX1_word 3 = .ok (.invokevirtual 7, 3) := by decide +kernel
theorem dX1_word_6 : decode cX1_word 6 = .ok (.iconst 1, 1) := by decide +kernel
theorem dX1_word_7 : decode cX1_word 7 = .ok (.iand, 1) := by decide +kernel
theorem dX1_word_8 : decode cX1_word 8 = .ok (.ireturn, 1) := by decide +kernel
theorem dX2_init_0 : decode cX2_init 0 = .ok (.aload_n 0, 1) := by decide +kernel
theorem dX2_init_1 : decode cX2_init 1 = .ok (.invokespecial 1, 3) := by decide +kernel
theorem dX2_init_4 : decode cX2_init 4 = .ok (.return_, 1) := by decide +kernel
theorem dX2_word_0 : decode cX2_word 0 = .ok (.aload_n 1, 1) := by decide +kernel
theorem dX2_word_1 : decode cX2_word 1 = .ok (.iload_n 2, 1) := by decide +kernel
theorem dX2_word_2 : decode cX2_word 2 = .ok (.iload_n 3, 1) := by decide +kernel
theorem dX2_word_3 : decode cX2_word 3 = .ok (.invokevirtual 7, 3) := by decide +kernel
theorem dX2_word_6 : decode cX2_word 6 = .ok (.aload_n 1, 1) := by decide +kernel
theorem dX2_word_7 : decode cX2_word 7 = .ok (.iload_n 2, 1) := by decide +kernel
theorem dX2_word_8 : decode cX2_word 8 = .ok (.iload_n 3, 1) := by decide +kernel
theorem dX2_word_9 : decode cX2_word 9 = .ok (.invokevirtual 13, 3) := by decide +kernel
theorem dX2_word_12 : decode cX2_word 12 = .ok (.invokestatic 16, 3) := by decide +kernel
theorem dX2_word_15 : decode cX2_word 15 = .ok (.ireturn, 1) := by decide +kernel
theorem dX2_plainWord_0 : decode cX2_plainWord 0 = .ok (.bipush 10, 2) := by decide +kernel
theorem dX2_plainWord_2 : decode cX2_plainWord 2 = .ok (.iload_n 0, 1) := by decide +kernel
theorem dX2_plainWord_3 : decode cX2_plainWord 3 = .ok (.imul, 1) := by decide +kernel
theorem dX2_plainWord_4 : decode cX2_plainWord 4 = .ok (.iload_n 1, 1) := by decide +kernel
theorem dX2_plainWord_5 : decode cX2_plainWord 5 = .ok (.iadd, 1) := by decide +kernel
theorem dX2_plainWord_6 : decode cX2_plainWord 6 = .ok (.iload_n 0, 1) := by decide +kernel
theorem dX2_plainWord_7 : decode cX2_plainWord 7 = .ok (.isub, 1) := by decide +kernel
theorem dX2_plainWord_8 : decode cX2_plainWord 8 = .ok (.ireturn, 1) := by decide +kernel
theorem dX3_init_0 : decode cX3_init 0 = .ok (.aload_n 0, 1) := by decide +kernel
theorem dX3_init_1 : decode cX3_init 1 = .ok (.invokespecial 3, 3) := by decide +kernel
theorem dX3_init_4 : decode cX3_init 4 = .ok (.aload_n 0, 1) := by decide +kernel
theorem dX3_init_5 : decode cX3_init 5 = .ok (.bipush 12, 2) := by decide +kernel
theorem dX3_init_7 : decode cX3_init 7 = .ok (.newarray .int, 2) := by decide +kernel
theorem dX3_init_9 : decode cX3_init 9 = .ok (.putfield 9, 3) := by decide +kernel
theorem dX3_init_12 : decode cX3_init 12 = .ok (.return_, 1) := by decide +kernel
theorem dX3_append_0 : decode cX3_append 0 = .ok (.aload_n 0, 1) := by decide +kernel
theorem dX3_append_1 : decode cX3_append 1 = .ok (.getfield 15, 3) := by decide +kernel
theorem dX3_append_4 : decode cX3_append 4 = .ok (.bipush 12, 2) := by decide +kernel
theorem dX3_append_6 : decode cX3_append 6 = .ok (.if_icmp .ge 23, 3) := by decide +kernel
theorem dX3_append_9 : decode cX3_append 9 = .ok (.aload_n 0, 1) := by decide +kernel
theorem dX3_append_10 : decode cX3_append 10 = .ok (.getfield 9, 3) := by decide +kernel
theorem dX3_append_13 : decode cX3_append 13 = .ok (.aload_n 0, 1) := by decide +kernel
theorem dX3_append_14 : decode cX3_append 14 = .ok (.getfield 15, 3) := by decide +kernel
theorem dX3_append_17 : decode cX3_append 17 = .ok (.iload_n 1, 1) := by decide +kernel
theorem dX3_append_18 : decode cX3_append 18 = .ok (.iastore, 1) := by decide +kernel
theorem dX3_append_19 : decode cX3_append 19 = .ok (.aload_n 0, 1) := by decide +kernel
theorem dX3_append_20 : decode cX3_append 20 = .ok (.dup, 1) := by decide +kernel
theorem dX3_append_21 : decode cX3_append 21 = .ok (.getfield 15, 3) := by decide +kernel
theorem dX3_append_24 : decode cX3_append 24 = .ok (.iconst 1, 1) := by decide +kernel
theorem dX3_append_25 : decode cX3_append 25 = .ok (.iadd, 1) := by decide +kernel
theorem dX3_append_26 : decode cX3_append 26 = .ok (.putfield 15, 3) := by decide +kernel
theorem dX3_append_29 : decode cX3_append 29 = .ok (.return_, 1) := by decide +kernel
theorem dX3_firstFault_0 : decode cX3_firstFault 0 = .ok (.iconst 0, 1) := by decide +kernel
theorem dX3_firstFault_1 : decode cX3_firstFault 1 = .ok (.istore_n 1, 1) := by decide +kernel
theorem dX3_firstFault_2 : decode cX3_firstFault 2 = .ok (.iload_n 1, 1) := by decide +kernel
theorem dX3_firstFault_3 : decode cX3_firstFault 3 = .ok (.aload_n 0, 1) := by decide +kernel
theorem dX3_firstFault_4 : decode cX3_firstFault 4 = .ok (.getfield 15, 3) := by decide +kernel
theorem dX3_firstFault_7 : decode cX3_firstFault 7 = .ok (.if_icmp .ge 19, 3) := by decide +kernel
theorem dX3_firstFault_10 : decode cX3_firstFault 10 = .ok (.aload_n 0, 1) := by decide +kernel
theorem dX3_firstFault_11 : decode cX3_firstFault 11 = .ok (.iload_n 1, 1) := by decide +kernel
theorem dX3_firstFault_12 : decode cX3_firstFault 12 = .ok (.invokevirtual 19, 3) := by decide +kernel
theorem dX3_firstFault_15 : decode cX3_firstFault 15 = .ok (.ifCond .ne 5, 3) := by decide +kernel
theorem dX3_firstFault_18 : decode cX3_firstFault 18 = .ok (.iload_n 1, 1) := by decide +kernel
theorem dX3_firstFault_19 : decode cX3_firstFault 19 = .ok (.ireturn, 1) := by decide +kernel
theorem dX3_firstFault_20 : decode cX3_firstFault 20 = .ok (.iinc 1 1, 3) := by decide +kernel
theorem dX3_firstFault_23 : decode cX3_firstFault 23 = .ok (.goto (-21), 3) := by decide +kernel
theorem dX3_firstFault_26 : decode cX3_firstFault 26 = .ok (.aload_n 0, 1) := by decide +kernel
theorem dX3_firstFault_27 : decode cX3_firstFault 27 = .ok (.getfield 15, 3) := by decide +kernel
theorem dX3_firstFault_30 : decode cX3_firstFault 30 = .ok (.ireturn, 1) := by decide +kernel
theorem dX3_isGame_0 : decode cX3_isGame 0 = .ok (.aload_n 0, 1) := by decide +kernel
theorem dX3_isGame_1 : decode cX3_isGame 1 = .ok (.aload_n 0, 1) := by decide +kernel
theorem dX3_isGame_2 : decode cX3_isGame 2 = .ok (.getfield 15, 3) := by decide +kernel
theorem dX3_isGame_5 : decode cX3_isGame 5 = .ok (.invokevirtual 23, 3) := by decide +kernel
theorem dX3_isGame_8 : decode cX3_isGame 8 = .ok (.istore_n 1, 1) := by decide +kernel
theorem dX3_isGame_9 : decode cX3_isGame 9 = .ok (.iload_n 1, 1) := by decide +kernel
theorem dX3_isGame_10 : decode cX3_isGame 10 = .ok (.iconst (-1), 1) := by decide +kernel
theorem dX3_isGame_11 : decode cX3_isGame 11 = .ok (.if_icmp .eq 33, 3) := by decide +kernel
theorem dX3_isGame_14 : decode cX3_isGame 14 = .ok (.aload_n 0, 1) := by decide +kernel
theorem dX3_isGame_15 : decode cX3_isGame 15 = .ok (.getfield 15, 3) := by decide +kernel
theorem dX3_isGame_18 : decode cX3_isGame 18 = .ok (.iload_n 1, 1) := by decide +kernel
theorem dX3_isGame_19 : decode cX3_isGame 19 = .ok (.iconst 1, 1) := by decide +kernel
theorem dX3_isGame_20 : decode cX3_isGame 20 = .ok (.iadd, 1) := by decide +kernel
theorem dX3_isGame_21 : decode cX3_isGame 21 = .ok (.aload_n 0, 1) := by decide +kernel
theorem dX3_isGame_22 : decode cX3_isGame 22 = .ok (.invokevirtual 27, 3) := by decide +kernel
theorem dX3_isGame_25 : decode cX3_isGame 25 = .ok (.iadd, 1) := by decide +kernel
theorem dX3_isGame_26 : decode cX3_isGame 26 = .ok (.if_icmp .ne 18, 3) := by decide +kernel
theorem dX3_isGame_29 : decode cX3_isGame 29 = .ok (.aload_n 0, 1) := by decide +kernel
theorem dX3_isGame_30 : decode cX3_isGame 30 = .ok (.invokevirtual 31, 3) := by decide +kernel
theorem dX3_isGame_33 : decode cX3_isGame 33 = .ok (.aload_n 0, 1) := by decide +kernel
theorem dX3_isGame_34 : decode cX3_isGame 34 = .ok (.getfield 15, 3) := by decide +kernel
theorem dX3_isGame_37 : decode cX3_isGame 37 = .ok (.if_icmp .ne 7, 3) := by decide +kernel
theorem dX3_isGame_40 : decode cX3_isGame 40 = .ok (.iconst 1, 1) := by decide +kernel
theorem dX3_isGame_41 : decode cX3_isGame 41 = .ok (.goto 4, 3) := by decide +kernel
theorem dX3_isGame_44 : decode cX3_isGame 44 = .ok (.iconst 0, 1) := by decide +kernel
theorem dX3_isGame_45 : decode cX3_isGame 45 = .ok (.ireturn, 1) := by decide +kernel
theorem dX3_mayStand_0 : decode cX3_mayStand 0 = .ok (.aload_n 0, 1) := by decide +kernel
theorem dX3_mayStand_1 : decode cX3_mayStand 1 = .ok (.getfield 9, 3) := by decide +kernel
theorem dX3_mayStand_4 : decode cX3_mayStand 4 = .ok (.iload_n 1, 1) := by decide +kernel
theorem dX3_mayStand_5 : decode cX3_mayStand 5 = .ok (.iaload, 1) := by decide +kernel
theorem dX3_mayStand_6 : decode cX3_mayStand 6 = .ok (.istore_n 2, 1) := by decide +kernel
theorem dX3_mayStand_7 : decode cX3_mayStand 7 = .ok (.iload_n 1, 1) := by decide +kernel
theorem dX3_mayStand_8 : decode cX3_mayStand 8 = .ok (.tableswitch 76 0 2 #[28, 46, 64], 28) := by decide +kernel
theorem dX3_mayStand_36 : decode cX3_mayStand 36 = .ok (.iload_n 2, 1) := by decide +kernel
theorem dX3_mayStand_37 : decode cX3_mayStand 37 = .ok (.bipush 49, 2) := by decide +kernel
theorem dX3_mayStand_39 : decode cX3_mayStand 39 = .ok (.if_icmp .lt 13, 3) := by decide +kernel
theorem dX3_mayStand_42 : decode cX3_mayStand 42 = .ok (.iload_n 2, 1) := by decide +kernel
theorem dX3_mayStand_43 : decode cX3_mayStand 43 = .ok (.bipush 51, 2) := by decide +kernel
theorem dX3_mayStand_45 : decode cX3_mayStand 45 = .ok (.if_icmp .gt 7, 3) := by decide +kernel
theorem dX3_mayStand_48 : decode cX3_mayStand 48 = .ok (.iconst 1, 1) := by decide +kernel
theorem dX3_mayStand_49 : decode cX3_mayStand 49 = .ok (.goto 4, 3) := by decide +kernel
theorem dX3_mayStand_52 : decode cX3_mayStand 52 = .ok (.iconst 0, 1) := by decide +kernel
theorem dX3_mayStand_53 : decode cX3_mayStand 53 = .ok (.ireturn, 1) := by decide +kernel
theorem dX3_mayStand_54 : decode cX3_mayStand 54 = .ok (.iload_n 2, 1) := by decide +kernel
theorem dX3_mayStand_55 : decode cX3_mayStand 55 = .ok (.bipush 50, 2) := by decide +kernel
theorem dX3_mayStand_57 : decode cX3_mayStand 57 = .ok (.if_icmp .lt 13, 3) := by decide +kernel
theorem dX3_mayStand_60 : decode cX3_mayStand 60 = .ok (.iload_n 2, 1) := by decide +kernel
theorem dX3_mayStand_61 : decode cX3_mayStand 61 = .ok (.bipush 54, 2) := by decide +kernel
theorem dX3_mayStand_63 : decode cX3_mayStand 63 = .ok (.if_icmp .gt 7, 3) := by decide +kernel
theorem dX3_mayStand_66 : decode cX3_mayStand 66 = .ok (.iconst 1, 1) := by decide +kernel
theorem dX3_mayStand_67 : decode cX3_mayStand 67 = .ok (.goto 4, 3) := by decide +kernel
theorem dX3_mayStand_70 : decode cX3_mayStand 70 = .ok (.iconst 0, 1) := by decide +kernel
theorem dX3_mayStand_71 : decode cX3_mayStand 71 = .ok (.ireturn, 1) := by decide +kernel
theorem dX3_mayStand_72 : decode cX3_mayStand 72 = .ok (.iload_n 2, 1) := by decide +kernel
theorem dX3_mayStand_73 : decode cX3_mayStand 73 = .ok (.bipush 59, 2) := by decide +kernel
theorem dX3_mayStand_75 : decode cX3_mayStand 75 = .ok (.if_icmp .ne 7, 3) := by decide +kernel
theorem dX3_mayStand_78 : decode cX3_mayStand 78 = .ok (.iconst 1, 1) := by decide +kernel
theorem dX3_mayStand_79 : decode cX3_mayStand 79 = .ok (.goto 4, 3) := by decide +kernel
theorem dX3_mayStand_82 : decode cX3_mayStand 82 = .ok (.iconst 0, 1) := by decide +kernel
theorem dX3_mayStand_83 : decode cX3_mayStand 83 = .ok (.ireturn, 1) := by decide +kernel
theorem dX3_mayStand_84 : decode cX3_mayStand 84 = .ok (.aload_n 0, 1) := by decide +kernel
theorem dX3_mayStand_85 : decode cX3_mayStand 85 = .ok (.iload_n 1, 1) := by decide +kernel
theorem dX3_mayStand_86 : decode cX3_mayStand 86 = .ok (.invokevirtual 23, 3) := by decide +kernel
theorem dX3_mayStand_89 : decode cX3_mayStand 89 = .ok (.istore_n 3, 1) := by decide +kernel
theorem dX3_mayStand_90 : decode cX3_mayStand 90 = .ok (.iload_n 3, 1) := by decide +kernel
theorem dX3_mayStand_91 : decode cX3_mayStand 91 = .ok (.iconst (-1), 1) := by decide +kernel
theorem dX3_mayStand_92 : decode cX3_mayStand 92 = .ok (.if_icmp .eq 36, 3) := by decide +kernel
theorem dX3_mayStand_95 : decode cX3_mayStand 95 = .ok (.iload_n 1, 1) := by decide +kernel
theorem dX3_mayStand_96 : decode cX3_mayStand 96 = .ok (.iload_n 3, 1) := by decide +kernel
theorem dX3_mayStand_97 : decode cX3_mayStand 97 = .ok (.aload_n 0, 1) := by decide +kernel
theorem dX3_mayStand_98 : decode cX3_mayStand 98 = .ok (.invokevirtual 27, 3) := by decide +kernel
theorem dX3_mayStand_101 : decode cX3_mayStand 101 = .ok (.iadd, 1) := by decide +kernel
theorem dX3_mayStand_102 : decode cX3_mayStand 102 = .ok (.if_icmp .gt 24, 3) := by decide +kernel
theorem dX3_mayStand_105 : decode cX3_mayStand 105 = .ok (.iload_n 2, 1) := by decide +kernel
theorem dX3_mayStand_106 : decode cX3_mayStand 106 = .ok (.bipush 97, 2) := by decide +kernel
theorem dX3_mayStand_108 : decode cX3_mayStand 108 = .ok (.if_icmp .lt 18, 3) := by decide +kernel
theorem dX3_mayStand_111 : decode cX3_mayStand 111 = .ok (.iload_n 2, 1) := by decide +kernel
theorem dX3_mayStand_112 : decode cX3_mayStand 112 = .ok (.bipush 97, 2) := by decide +kernel
theorem dX3_mayStand_114 : decode cX3_mayStand 114 = .ok (.aload_n 0, 1) := by decide +kernel
theorem dX3_mayStand_115 : decode cX3_mayStand 115 = .ok (.invokevirtual 34, 3) := by decide +kernel
theorem dX3_mayStand_118 : decode cX3_mayStand 118 = .ok (.iadd, 1) := by decide +kernel
theorem dX3_mayStand_119 : decode cX3_mayStand 119 = .ok (.if_icmp .ge 7, 3) := by decide +kernel
theorem dX3_mayStand_122 : decode cX3_mayStand 122 = .ok (.iconst 1, 1) := by decide +kernel
theorem dX3_mayStand_123 : decode cX3_mayStand 123 = .ok (.goto 4, 3) := by decide +kernel
theorem dX3_mayStand_126 : decode cX3_mayStand 126 = .ok (.iconst 0, 1) := by decide +kernel
theorem dX3_mayStand_127 : decode cX3_mayStand 127 = .ok (.ireturn, 1) := by decide +kernel
theorem dX3_mayStand_128 : decode cX3_mayStand 128 = .ok (.iload_n 2, 1) := by decide +kernel
theorem dX3_mayStand_129 : decode cX3_mayStand 129 = .ok (.bipush 59, 2) := by decide +kernel
theorem dX3_mayStand_131 : decode cX3_mayStand 131 = .ok (.if_icmp .ne 14, 3) := by decide +kernel
theorem dX3_mayStand_134 : decode cX3_mayStand 134 = .ok (.iload_n 1, 1) := by decide +kernel
theorem dX3_mayStand_135 : decode cX3_mayStand 135 = .ok (.iconst 3, 1) := by decide +kernel
theorem dX3_mayStand_136 : decode cX3_mayStand 136 = .ok (.if_icmp .le 7, 3) := by decide +kernel
theorem dX3_mayStand_139 : decode cX3_mayStand 139 = .ok (.iconst 1, 1) := by decide +kernel
theorem dX3_mayStand_140 : decode cX3_mayStand 140 = .ok (.goto 4, 3) := by decide +kernel
theorem dX3_mayStand_143 : decode cX3_mayStand 143 = .ok (.iconst 0, 1) := by decide +kernel
theorem dX3_mayStand_144 : decode cX3_mayStand 144 = .ok (.ireturn, 1) := by decide +kernel
theorem dX3_mayStand_145 : decode cX3_mayStand 145 = .ok (.iload_n 1, 1) := by decide +kernel
theorem dX3_mayStand_146 : decode cX3_mayStand 146 = .ok (.bipush 6, 2) := by decide +kernel
theorem dX3_mayStand_148 : decode cX3_mayStand 148 = .ok (.if_icmp .ge 17, 3) := by decide +kernel
theorem dX3_mayStand_151 : decode cX3_mayStand 151 = .ok (.ldc 37, 2) := by decide +kernel
theorem dX3_mayStand_153 : decode cX3_mayStand 153 = .ok (.iload_n 2, 1) := by decide +kernel
theorem dX3_mayStand_154 : decode cX3_mayStand 154 = .ok (.i2c, 1) := by decide +kernel
theorem dX3_mayStand_155 : decode cX3_mayStand 155 = .ok (.invokevirtual 39, 3) := by decide +kernel
theorem dX3_mayStand_158 : decode cX3_mayStand 158 = .ok (.ifCond .lt 7, 3) := by decide +kernel
theorem dX3_mayStand_161 : decode cX3_mayStand 161 = .ok (.iconst 1, 1) := by decide +kernel
theorem dX3_mayStand_162 : decode cX3_mayStand 162 = .ok (.goto 4, 3) := by decide +kernel
theorem dX3_mayStand_165 : decode cX3_mayStand 165 = .ok (.iconst 0, 1) := by decide +kernel
theorem dX3_mayStand_166 : decode cX3_mayStand 166 = .ok (.ireturn, 1) := by decide +kernel
theorem dX3_kindsEnd_0 : decode cX3_kindsEnd 0 = .ok (.iconst 3, 1) := by decide +kernel
theorem dX3_kindsEnd_1 : decode cX3_kindsEnd 1 = .ok (.istore_n 2, 1) := by decide +kernel
theorem dX3_kindsEnd_2 : decode cX3_kindsEnd 2 = .ok (.iload_n 2, 1) := by decide +kernel
theorem dX3_kindsEnd_3 : decode cX3_kindsEnd 3 = .ok (.iload_n 1, 1) := by decide +kernel
theorem dX3_kindsEnd_4 : decode cX3_kindsEnd 4 = .ok (.if_icmp .ge 22, 3) := by decide +kernel
theorem dX3_kindsEnd_7 : decode cX3_kindsEnd 7 = .ok (.aload_n 0, 1) := by decide +kernel
theorem dX3_kindsEnd_8 : decode cX3_kindsEnd 8 = .ok (.getfield 9, 3) := by decide +kernel
theorem dX3_kindsEnd_11 : decode cX3_kindsEnd 11 = .ok (.iload_n 2, 1) := by decide +kernel
theorem dX3_kindsEnd_12 : decode cX3_kindsEnd 12 = .ok (.iaload, 1) := by decide +kernel
theorem dX3_kindsEnd_13 : decode cX3_kindsEnd 13 = .ok (.bipush 59, 2) := by decide +kernel
theorem dX3_kindsEnd_15 : decode cX3_kindsEnd 15 = .ok (.if_icmp .ne 5, 3) := by decide +kernel
theorem dX3_kindsEnd_18 : decode cX3_kindsEnd 18 = .ok (.iload_n 2, 1) := by decide +kernel
theorem dX3_kindsEnd_19 : decode cX3_kindsEnd 19 = .ok (.ireturn, 1) := by decide +kernel
theorem dX3_kindsEnd_20 : decode cX3_kindsEnd 20 = .ok (.iinc 2 1, 3) := by decide +kernel
theorem dX3_kindsEnd_23 : decode cX3_kindsEnd 23 = .ok (.goto (-21), 3) := by decide +kernel
theorem dX3_kindsEnd_26 : decode cX3_kindsEnd 26 = .ok (.iconst (-1), 1) := by decide +kernel
theorem dX3_kindsEnd_27 : decode cX3_kindsEnd 27 = .ok (.ireturn, 1) := by decide +kernel
theorem dX3_pegs_0 : decode cX3_pegs 0 = .ok (.aload_n 0, 1) := by decide +kernel
theorem dX3_pegs_1 : decode cX3_pegs 1 = .ok (.getfield 9, 3) := by decide +kernel
theorem dX3_pegs_4 : decode cX3_pegs 4 = .ok (.iconst 0, 1) := by decide +kernel
theorem dX3_pegs_5 : decode cX3_pegs 5 = .ok (.iaload, 1) := by decide +kernel
theorem dX3_pegs_6 : decode cX3_pegs 6 = .ok (.bipush 48, 2) := by decide +kernel
theorem dX3_pegs_8 : decode cX3_pegs 8 = .ok (.isub, 1) := by decide +kernel
theorem dX3_pegs_9 : decode cX3_pegs 9 = .ok (.ireturn, 1) := by decide +kernel
theorem dX3_colours_0 : decode cX3_colours 0 = .ok (.aload_n 0, 1) := by decide +kernel
theorem dX3_colours_1 : decode cX3_colours 1 = .ok (.getfield 9, 3) := by decide +kernel
theorem dX3_colours_4 : decode cX3_colours 4 = .ok (.iconst 1, 1) := by decide +kernel
theorem dX3_colours_5 : decode cX3_colours 5 = .ok (.iaload, 1) := by decide +kernel
theorem dX3_colours_6 : decode cX3_colours 6 = .ok (.bipush 48, 2) := by decide +kernel
theorem dX3_colours_8 : decode cX3_colours 8 = .ok (.isub, 1) := by decide +kernel
theorem dX3_colours_9 : decode cX3_colours 9 = .ok (.ireturn, 1) := by decide +kernel
theorem dX3_judgesWritten_0 : decode cX3_judgesWritten 0 = .ok (.aload_n 0, 1) := by decide +kernel
theorem dX3_judgesWritten_1 : decode cX3_judgesWritten 1 = .ok (.aload_n 0, 1) := by decide +kernel
theorem dX3_judgesWritten_2 : decode cX3_judgesWritten 2 = .ok (.getfield 15, 3) := by decide +kernel
theorem dX3_judgesWritten_5 : decode cX3_judgesWritten 5 = .ok (.invokevirtual 23, 3) := by decide +kernel
theorem dX3_judgesWritten_8 : decode cX3_judgesWritten 8 = .ok (.iconst 3, 1) := by decide +kernel
theorem dX3_judgesWritten_9 : decode cX3_judgesWritten 9 = .ok (.isub, 1) := by decide +kernel
theorem dX3_judgesWritten_10 : decode cX3_judgesWritten 10 = .ok (.ireturn, 1) := by decide +kernel
theorem dX3_kindWritten_0 : decode cX3_kindWritten 0 = .ok (.ldc 37, 2) := by decide +kernel
theorem dX3_kindWritten_2 : decode cX3_kindWritten 2 = .ok (.aload_n 0, 1) := by decide +kernel
theorem dX3_kindWritten_3 : decode cX3_kindWritten 3 = .ok (.getfield 9, 3) := by decide +kernel
theorem dX3_kindWritten_6 : decode cX3_kindWritten 6 = .ok (.iconst 3, 1) := by decide +kernel
theorem dX3_kindWritten_7 : decode cX3_kindWritten 7 = .ok (.iload_n 1, 1) := by decide +kernel
theorem dX3_kindWritten_8 : decode cX3_kindWritten 8 = .ok (.iadd, 1) := by decide +kernel
theorem dX3_kindWritten_9 : decode cX3_kindWritten 9 = .ok (.iaload, 1) := by decide +kernel
theorem dX3_kindWritten_10 : decode cX3_kindWritten 10 = .ok (.i2c, 1) := by decide +kernel
theorem dX3_kindWritten_11 : decode cX3_kindWritten 11 = .ok (.invokevirtual 39, 3) := by decide +kernel
theorem dX3_kindWritten_14 : decode cX3_kindWritten 14 = .ok (.ireturn, 1) := by decide +kernel
theorem dX3_rowWritten_0 : decode cX3_rowWritten 0 = .ok (.iconst 0, 1) := by decide +kernel
theorem dX3_rowWritten_1 : decode cX3_rowWritten 1 = .ok (.istore_n 1, 1) := by decide +kernel
theorem dX3_rowWritten_2 : decode cX3_rowWritten 2 = .ok (.aload_n 0, 1) := by decide +kernel
theorem dX3_rowWritten_3 : decode cX3_rowWritten 3 = .ok (.aload_n 0, 1) := by decide +kernel
theorem dX3_rowWritten_4 : decode cX3_rowWritten 4 = .ok (.getfield 15, 3) := by decide +kernel
theorem dX3_rowWritten_7 : decode cX3_rowWritten 7 = .ok (.invokevirtual 23, 3) := by decide +kernel
theorem dX3_rowWritten_10 : decode cX3_rowWritten 10 = .ok (.iconst 1, 1) := by decide +kernel
theorem dX3_rowWritten_11 : decode cX3_rowWritten 11 = .ok (.iadd, 1) := by decide +kernel
theorem dX3_rowWritten_12 : decode cX3_rowWritten 12 = .ok (.istore_n 2, 1) := by decide +kernel
theorem dX3_rowWritten_13 : decode cX3_rowWritten 13 = .ok (.iload_n 2, 1) := by decide +kernel
theorem dX3_rowWritten_14 : decode cX3_rowWritten 14 = .ok (.aload_n 0, 1) := by decide +kernel
theorem dX3_rowWritten_15 : decode cX3_rowWritten 15 = .ok (.getfield 15, 3) := by decide +kernel
theorem dX3_rowWritten_18 : decode cX3_rowWritten 18 = .ok (.if_icmp .ge 26, 3) := by decide +kernel
theorem dX3_rowWritten_21 : decode cX3_rowWritten 21 = .ok (.iload_n 1, 1) := by decide +kernel
theorem dX3_rowWritten_22 : decode cX3_rowWritten 22 = .ok (.aload_n 0, 1) := by decide +kernel
theorem dX3_rowWritten_23 : decode cX3_rowWritten 23 = .ok (.invokevirtual 34, 3) := by decide +kernel
theorem dX3_rowWritten_26 : decode cX3_rowWritten 26 = .ok (.imul, 1) := by decide +kernel
theorem dX3_rowWritten_27 : decode cX3_rowWritten 27 = .ok (.aload_n 0, 1) := by decide +kernel
theorem dX3_rowWritten_28 : decode cX3_rowWritten 28 = .ok (.getfield 9, 3) := by decide +kernel
theorem dX3_rowWritten_31 : decode cX3_rowWritten 31 = .ok (.iload_n 2, 1) := by decide +kernel
theorem dX3_rowWritten_32 : decode cX3_rowWritten 32 = .ok (.iaload, 1) := by decide +kernel
theorem dX3_rowWritten_33 : decode cX3_rowWritten 33 = .ok (.iadd, 1) := by decide +kernel
theorem dX3_rowWritten_34 : decode cX3_rowWritten 34 = .ok (.bipush 97, 2) := by decide +kernel
theorem dX3_rowWritten_36 : decode cX3_rowWritten 36 = .ok (.isub, 1) := by decide +kernel
theorem dX3_rowWritten_37 : decode cX3_rowWritten 37 = .ok (.istore_n 1, 1) := by decide +kernel
theorem dX3_rowWritten_38 : decode cX3_rowWritten 38 = .ok (.iinc 2 1, 3) := by decide +kernel
theorem dX3_rowWritten_41 : decode cX3_rowWritten 41 = .ok (.goto (-28), 3) := by decide +kernel
theorem dX3_rowWritten_44 : decode cX3_rowWritten 44 = .ok (.iload_n 1, 1) := by decide +kernel
theorem dX3_rowWritten_45 : decode cX3_rowWritten 45 = .ok (.ireturn, 1) := by decide +kernel
theorem dX4_init_0 : decode cX4_init 0 = .ok (.aload_n 0, 1) := by decide +kernel
theorem dX4_init_1 : decode cX4_init 1 = .ok (.invokespecial 3, 3) := by decide +kernel
theorem dX4_init_4 : decode cX4_init 4 = .ok (.aload_n 0, 1) := by decide +kernel
theorem dX4_init_5 : decode cX4_init 5 = .ok (.sipush 961, 3) := by decide +kernel
theorem dX4_init_8 : decode cX4_init 8 = .ok (.newarray .int, 2) := by decide +kernel
theorem dX4_init_10 : decode cX4_init 10 = .ok (.putfield 9, 3) := by decide +kernel
theorem dX4_init_13 : decode cX4_init 13 = .ok (.aload_n 0, 1) := by decide +kernel
theorem dX4_init_14 : decode cX4_init 14 = .ok (.aload_n 1, 1) := by decide +kernel
theorem dX4_init_15 : decode cX4_init 15 = .ok (.putfield 15, 3) := by decide +kernel
theorem dX4_init_18 : decode cX4_init 18 = .ok (.return_, 1) := by decide +kernel
theorem dX4_find_0 : decode cX4_find 0 = .ok (.aload_n 0, 1) := by decide +kernel
theorem dX4_find_1 : decode cX4_find 1 = .ok (.aload_n 1, 1) := by decide +kernel
theorem dX4_find_2 : decode cX4_find 2 = .ok (.invokevirtual 19, 3) := by decide +kernel
theorem dX4_find_5 : decode cX4_find 5 = .ok (.istore_n 2, 1) := by decide +kernel
theorem dX4_find_6 : decode cX4_find 6 = .ok (.iconst 0, 1) := by decide +kernel
theorem dX4_find_7 : decode cX4_find 7 = .ok (.istore_n 3, 1) := by decide +kernel
theorem dX4_find_8 : decode cX4_find 8 = .ok (.iload_n 3, 1) := by decide +kernel
theorem dX4_find_9 : decode cX4_find 9 = .ok (.aload_n 0, 1) := by decide +kernel
theorem dX4_find_10 : decode cX4_find 10 = .ok (.getfield 15, 3) := by decide +kernel
theorem dX4_find_13 : decode cX4_find 13 = .ok (.getfield 23, 3) := by decide +kernel
theorem dX4_find_16 : decode cX4_find 16 = .ok (.if_icmp .ge 28, 3) := by decide +kernel
theorem dX4_find_19 : decode cX4_find 19 = .ok (.aload_n 0, 1) := by decide +kernel
theorem dX4_find_20 : decode cX4_find 20 = .ok (.aload_n 1, 1) := by decide +kernel
theorem dX4_find_21 : decode cX4_find 21 = .ok (.iload_n 3, 1) := by decide +kernel
theorem dX4_find_22 : decode cX4_find 22 = .ok (.iload_n 3, 1) := by decide +kernel
theorem dX4_find_23 : decode cX4_find 23 = .ok (.invokevirtual 29, 3) := by decide +kernel
theorem dX4_find_26 : decode cX4_find 26 = .ok (.iload_n 2, 1) := by decide +kernel
theorem dX4_find_27 : decode cX4_find 27 = .ok (.if_icmp .ne 11, 3) := by decide +kernel
theorem dX4_find_30 : decode cX4_find 30 = .ok (.aload_n 0, 1) := by decide +kernel
theorem dX4_find_31 : decode cX4_find 31 = .ok (.iconst 1, 1) := by decide +kernel
theorem dX4_find_32 : decode cX4_find 32 = .ok (.iload_n 3, 1) := by decide +kernel
theorem dX4_find_33 : decode cX4_find 33 = .ok (.iconst (-1), 1) := by decide +kernel
theorem dX4_find_34 : decode cX4_find 34 = .ok (.invokevirtual 33, 3) := by decide +kernel
theorem dX4_find_37 : decode cX4_find 37 = .ok (.return_, 1) := by decide +kernel
theorem dX4_find_38 : decode cX4_find 38 = .ok (.iinc 3 1, 3) := by decide +kernel
theorem dX4_find_41 : decode cX4_find 41 = .ok (.goto (-33), 3) := by decide +kernel
theorem dX4_find_44 : decode cX4_find 44 = .ok (.iconst 0, 1) := by decide +kernel
theorem dX4_find_45 : decode cX4_find 45 = .ok (.istore_n 3, 1) := by decide +kernel
theorem dX4_find_46 : decode cX4_find 46 = .ok (.iload_n 3, 1) := by decide +kernel
theorem dX4_find_47 : decode cX4_find 47 = .ok (.aload_n 0, 1) := by decide +kernel
theorem dX4_find_48 : decode cX4_find 48 = .ok (.getfield 15, 3) := by decide +kernel
theorem dX4_find_51 : decode cX4_find 51 = .ok (.getfield 23, 3) := by decide +kernel
theorem dX4_find_54 : decode cX4_find 54 = .ok (.if_icmp .ge 53, 3) := by decide +kernel
theorem dX4_find_57 : decode cX4_find 57 = .ok (.iload_n 3, 1) := by decide +kernel
theorem dX4_find_58 : decode cX4_find 58 = .ok (.iconst 1, 1) := by decide +kernel
theorem dX4_find_59 : decode cX4_find 59 = .ok (.iadd, 1) := by decide +kernel
theorem dX4_find_60 : decode cX4_find 60 = .ok (.istore 4, 2) := by decide +kernel
theorem dX4_find_62 : decode cX4_find 62 = .ok (.iload 4, 2) := by decide +kernel
theorem dX4_find_64 : decode cX4_find 64 = .ok (.aload_n 0, 1) := by decide +kernel
theorem dX4_find_65 : decode cX4_find 65 = .ok (.getfield 15, 3) := by decide +kernel
theorem dX4_find_68 : decode cX4_find 68 = .ok (.getfield 23, 3) := by decide +kernel
theorem dX4_find_71 : decode cX4_find 71 = .ok (.if_icmp .ge 30, 3) := by decide +kernel
theorem dX4_find_74 : decode cX4_find 74 = .ok (.aload_n 0, 1) := by decide +kernel
theorem dX4_find_75 : decode cX4_find 75 = .ok (.aload_n 1, 1) := by decide +kernel
theorem dX4_find_76 : decode cX4_find 76 = .ok (.iload_n 3, 1) := by decide +kernel
theorem dX4_find_77 : decode cX4_find 77 = .ok (.iload 4, 2) := by decide +kernel
theorem dX4_find_79 : decode cX4_find 79 = .ok (.invokevirtual 29, 3) := by decide +kernel
theorem dX4_find_82 : decode cX4_find 82 = .ok (.iload_n 2, 1) := by decide +kernel
theorem dX4_find_83 : decode cX4_find 83 = .ok (.if_icmp .ne 12, 3) := by decide +kernel
theorem dX4_find_86 : decode cX4_find 86 = .ok (.aload_n 0, 1) := by decide +kernel
theorem dX4_find_87 : decode cX4_find 87 = .ok (.iconst 2, 1) := by decide +kernel
theorem dX4_find_88 : decode cX4_find 88 = .ok (.iload_n 3, 1) := by decide +kernel
theorem dX4_find_89 : decode cX4_find 89 = .ok (.iload 4, 2) := by decide +kernel
theorem dX4_find_91 : decode cX4_find 91 = .ok (.invokevirtual 33, 3) := by decide +kernel
theorem dX4_find_94 : decode cX4_find 94 = .ok (.return_, 1) := by decide +kernel
theorem dX4_find_95 : decode cX4_find 95 = .ok (.iinc 4 1, 3) := by decide +kernel
theorem dX4_find_98 : decode cX4_find 98 = .ok (.goto (-36), 3) := by decide +kernel
theorem dX4_find_101 : decode cX4_find 101 = .ok (.iinc 3 1, 3) := by decide +kernel
theorem dX4_find_104 : decode cX4_find 104 = .ok (.goto (-58), 3) := by decide +kernel
theorem dX4_find_107 : decode cX4_find 107 = .ok (.aload_n 0, 1) := by decide +kernel
theorem dX4_find_108 : decode cX4_find 108 = .ok (.iconst (-1), 1) := by decide +kernel
theorem dX4_find_109 : decode cX4_find 109 = .ok (.iconst (-1), 1) := by decide +kernel
theorem dX4_find_110 : decode cX4_find 110 = .ok (.iconst (-1), 1) := by decide +kernel
theorem dX4_find_111 : decode cX4_find 111 = .ok (.invokevirtual 33, 3) := by decide +kernel
theorem dX4_find_114 : decode cX4_find 114 = .ok (.return_, 1) := by decide +kernel
theorem dX4_answer_0 : decode cX4_answer 0 = .ok (.aload_n 0, 1) := by decide +kernel
theorem dX4_answer_1 : decode cX4_answer 1 = .ok (.iload_n 1, 1) := by decide +kernel
theorem dX4_answer_2 : decode cX4_answer 2 = .ok (.putfield 37, 3) := by decide +kernel
theorem dX4_answer_5 : decode cX4_answer 5 = .ok (.aload_n 0, 1) := by decide +kernel
theorem dX4_answer_6 : decode cX4_answer 6 = .ok (.iload_n 2, 1) := by decide +kernel
theorem dX4_answer_7 : decode cX4_answer 7 = .ok (.putfield 40, 3) := by decide +kernel
theorem dX4_answer_10 : decode cX4_answer 10 = .ok (.aload_n 0, 1) := by decide +kernel
theorem dX4_answer_11 : decode cX4_answer 11 = .ok (.iload_n 3, 1) := by decide +kernel
theorem dX4_answer_12 : decode cX4_answer 12 = .ok (.putfield 43, 3) := by decide +kernel
theorem dX4_answer_15 : decode cX4_answer 15 = .ok (.return_, 1) := by decide +kernel
theorem dX4_sortsOfRows_0 : decode cX4_sortsOfRows 0 = .ok (.iconst 0, 1) := by decide +kernel
theorem dX4_sortsOfRows_1 : decode cX4_sortsOfRows 1 = .ok (.istore_n 2, 1) := by decide +kernel
theorem dX4_sortsOfRows_2 : decode cX4_sortsOfRows 2 = .ok (.iconst 0, 1) := by decide +kernel
theorem dX4_sortsOfRows_3 : decode cX4_sortsOfRows 3 = .ok (.istore_n 3, 1) := by decide +kernel
theorem dX4_sortsOfRows_4 : decode cX4_sortsOfRows 4 = .ok (.iload_n 3, 1) := by decide +kernel
theorem dX4_sortsOfRows_5 : decode cX4_sortsOfRows 5 = .ok (.aload_n 0, 1) := by decide +kernel
theorem dX4_sortsOfRows_6 : decode cX4_sortsOfRows 6 = .ok (.getfield 15, 3) := by decide +kernel
theorem dX4_sortsOfRows_9 : decode cX4_sortsOfRows 9 = .ok (.getfield 23, 3) := by decide +kernel
theorem dX4_sortsOfRows_12 : decode cX4_sortsOfRows 12 = .ok (.if_icmp .ge 61, 3) := by decide +kernel
theorem dX4_sortsOfRows_15 : decode cX4_sortsOfRows 15 = .ok (.iconst 1, 1) := by decide +kernel
theorem dX4_sortsOfRows_16 : decode cX4_sortsOfRows 16 = .ok (.istore 4, 2) := by decide +kernel
theorem dX4_sortsOfRows_18 : decode cX4_sortsOfRows 18 = .ok (.iconst 0, 1) := by decide +kernel
theorem dX4_sortsOfRows_19 : decode cX4_sortsOfRows 19 = .ok (.istore 5, 2) := by decide +kernel
theorem dX4_sortsOfRows_21 : decode cX4_sortsOfRows 21 = .ok (.iload 5, 2) := by decide +kernel
theorem dX4_sortsOfRows_23 : decode cX4_sortsOfRows 23 = .ok (.iload_n 3, 1) := by decide +kernel
theorem dX4_sortsOfRows_24 : decode cX4_sortsOfRows 24 = .ok (.if_icmp .ge 35, 3) := by decide +kernel
theorem dX4_sortsOfRows_27 : decode cX4_sortsOfRows 27 = .ok (.iload 4, 2) := by decide +kernel
theorem dX4_sortsOfRows_29 : decode cX4_sortsOfRows 29 = .ok (.ifCond .eq 30, 3) := by decide +kernel
theorem dX4_sortsOfRows_32 : decode cX4_sortsOfRows 32 = .ok (.aload_n 0, 1) := by decide +kernel
theorem dX4_sortsOfRows_33 : decode cX4_sortsOfRows 33 = .ok (.getfield 15, 3) := by decide +kernel
theorem dX4_sortsOfRows_36 : decode cX4_sortsOfRows 36 = .ok (.aload_n 1, 1) := by decide +kernel
theorem dX4_sortsOfRows_37 : decode cX4_sortsOfRows 37 = .ok (.iload 5, 2) := by decide +kernel
theorem dX4_sortsOfRows_39 : decode cX4_sortsOfRows 39 = .ok (.iload_n 3, 1) := by decide +kernel
theorem dX4_sortsOfRows_40 : decode cX4_sortsOfRows 40 = .ok (.invokevirtual 46, 3) := by decide +kernel
theorem dX4_sortsOfRows_43 : decode cX4_sortsOfRows 43 = .ok (.ifCond .ne 7, 3) := by decide +kernel
theorem dX4_sortsOfRows_46 : decode cX4_sortsOfRows 46 = .ok (.iconst 1, 1) := by decide +kernel
theorem dX4_sortsOfRows_47 : decode cX4_sortsOfRows 47 = .ok (.goto 4, 3) := by decide +kernel
theorem dX4_sortsOfRows_50 : decode cX4_sortsOfRows 50 = .ok (.iconst 0, 1) := by decide +kernel
theorem dX4_sortsOfRows_51 : decode cX4_sortsOfRows 51 = .ok (.istore 4, 2) := by decide +kernel
theorem dX4_sortsOfRows_53 : decode cX4_sortsOfRows 53 = .ok (.iinc 5 1, 3) := by decide +kernel
theorem dX4_sortsOfRows_56 : decode cX4_sortsOfRows 56 = .ok (.goto (-35), 3) := by decide +kernel
theorem dX4_sortsOfRows_59 : decode cX4_sortsOfRows 59 = .ok (.iload 4, 2) := by decide +kernel
theorem dX4_sortsOfRows_61 : decode cX4_sortsOfRows 61 = .ok (.ifCond .eq 6, 3) := by decide +kernel
theorem dX4_sortsOfRows_64 : decode cX4_sortsOfRows 64 = .ok (.iinc 2 1, 3) := by decide +kernel
theorem dX4_sortsOfRows_67 : decode cX4_sortsOfRows 67 = .ok (.iinc 3 1, 3) := by decide +kernel
theorem dX4_sortsOfRows_70 : decode cX4_sortsOfRows 70 = .ok (.goto (-66), 3) := by decide +kernel
theorem dX4_sortsOfRows_73 : decode cX4_sortsOfRows 73 = .ok (.iload_n 2, 1) := by decide +kernel
theorem dX4_sortsOfRows_74 : decode cX4_sortsOfRows 74 = .ok (.ireturn, 1) := by decide +kernel
theorem dX4_partsBy_0 : decode cX4_partsBy 0 = .ok (.aload_n 0, 1) := by decide +kernel
theorem dX4_partsBy_1 : decode cX4_partsBy 1 = .ok (.dup, 1) := by decide +kernel
theorem dX4_partsBy_2 : decode cX4_partsBy 2 = .ok (.getfield 50, 3) := by decide +kernel
theorem dX4_partsBy_5 : decode cX4_partsBy 5 = .ok (.iconst 1, 1) := by decide +kernel
theorem dX4_partsBy_6 : decode cX4_partsBy 6 = .ok (.iadd, 1) := by decide +kernel
theorem dX4_partsBy_7 : decode cX4_partsBy 7 = .ok (.putfield 50, 3) := by decide +kernel
theorem dX4_partsBy_10 : decode cX4_partsBy 10 = .ok (.iconst 0, 1) := by decide +kernel
theorem dX4_partsBy_11 : decode cX4_partsBy 11 = .ok (.istore 4, 2) := by decide +kernel
theorem dX4_partsBy_13 : decode cX4_partsBy 13 = .ok (.iconst 0, 1) := by decide +kernel
theorem dX4_partsBy_14 : decode cX4_partsBy 14 = .ok (.istore 5, 2) := by decide +kernel
theorem dX4_partsBy_16 : decode cX4_partsBy 16 = .ok (.iload 5, 2) := by decide +kernel
theorem dX4_partsBy_18 : decode cX4_partsBy 18 = .ok (.aload_n 0, 1) := by decide +kernel
theorem dX4_partsBy_19 : decode cX4_partsBy 19 = .ok (.getfield 15, 3) := by decide +kernel
theorem dX4_partsBy_22 : decode cX4_partsBy 22 = .ok (.getfield 23, 3) := by decide +kernel
theorem dX4_partsBy_25 : decode cX4_partsBy 25 = .ok (.if_icmp .ge 80, 3) := by decide +kernel
theorem dX4_partsBy_28 : decode cX4_partsBy 28 = .ok (.aload_n 1, 1) := by decide +kernel
theorem dX4_partsBy_29 : decode cX4_partsBy 29 = .ok (.aload_n 0, 1) := by decide +kernel
theorem dX4_partsBy_30 : decode cX4_partsBy 30 = .ok (.getfield 15, 3) := by decide +kernel
theorem dX4_partsBy_33 : decode cX4_partsBy 33 = .ok (.iload_n 2, 1) := by decide +kernel
theorem dX4_partsBy_34 : decode cX4_partsBy 34 = .ok (.iload 5, 2) := by decide +kernel
theorem dX4_partsBy_36 : decode cX4_partsBy 36 = .ok (.invokevirtual 53, 3) := by decide +kernel
theorem dX4_partsBy_39 : decode cX4_partsBy 39 = .ok (.bipush 31, 2) := by decide +kernel
theorem dX4_partsBy_41 : decode cX4_partsBy 41 = .ok (.imul, 1) := by decide +kernel
theorem dX4_partsBy_42 : decode cX4_partsBy 42 = .ok (.aload_n 1, 1) := by decide +kernel
theorem dX4_partsBy_43 : decode cX4_partsBy 43 = .ok (.aload_n 0, 1) := by decide +kernel
theorem dX4_partsBy_44 : decode cX4_partsBy 44 = .ok (.getfield 15, 3) := by decide +kernel
theorem dX4_partsBy_47 : decode cX4_partsBy 47 = .ok (.iload_n 3, 1) := by decide +kernel
theorem dX4_partsBy_48 : decode cX4_partsBy 48 = .ok (.iload 5, 2) := by decide +kernel
theorem dX4_partsBy_50 : decode cX4_partsBy 50 = .ok (.invokevirtual 53, 3) := by decide +kernel
theorem dX4_partsBy_53 : decode cX4_partsBy 53 = .ok (.iadd, 1) := by decide +kernel
theorem dX4_partsBy_54 : decode cX4_partsBy 54 = .ok (.istore 6, 2) := by decide +kernel
theorem dX4_partsBy_56 : decode cX4_partsBy 56 = .ok (.iload 6, 2) := by decide +kernel
theorem dX4_partsBy_58 : decode cX4_partsBy 58 = .ok (.ifCond .lt 41, 3) := by decide +kernel
theorem dX4_partsBy_61 : decode cX4_partsBy 61 = .ok (.iload 6, 2) := by decide +kernel
theorem dX4_partsBy_63 : decode cX4_partsBy 63 = .ok (.aload_n 0, 1) := by decide +kernel
theorem dX4_partsBy_64 : decode cX4_partsBy 64 = .ok (.getfield 9, 3) := by decide +kernel
theorem dX4_partsBy_67 : decode cX4_partsBy 67 = .ok (.arraylength, 1) := by decide +kernel
theorem dX4_partsBy_68 : decode cX4_partsBy 68 = .ok (.if_icmp .ge 31, 3) := by decide +kernel
theorem dX4_partsBy_71 : decode cX4_partsBy 71 = .ok (.aload_n 0, 1) := by decide +kernel
theorem dX4_partsBy_72 : decode cX4_partsBy 72 = .ok (.getfield 9, 3) := by decide +kernel
theorem dX4_partsBy_75 : decode cX4_partsBy 75 = .ok (.iload 6, 2) := by decide +kernel
theorem dX4_partsBy_77 : decode cX4_partsBy 77 = .ok (.iaload, 1) := by decide +kernel
theorem dX4_partsBy_78 : decode cX4_partsBy 78 = .ok (.aload_n 0, 1) := by decide +kernel
theorem dX4_partsBy_79 : decode cX4_partsBy 79 = .ok (.getfield 50, 3) := by decide +kernel
theorem dX4_partsBy_82 : decode cX4_partsBy 82 = .ok (.if_icmp .eq 17, 3) := by decide +kernel
theorem dX4_partsBy_85 : decode cX4_partsBy 85 = .ok (.aload_n 0, 1) := by decide +kernel
theorem dX4_partsBy_86 : decode cX4_partsBy 86 = .ok (.getfield 9, 3) := by decide +kernel
theorem dX4_partsBy_89 : decode cX4_partsBy 89 = .ok (.iload 6, 2) := by decide +kernel
theorem dX4_partsBy_91 : decode cX4_partsBy 91 = .ok (.aload_n 0, 1) := by decide +kernel
theorem dX4_partsBy_92 : decode cX4_partsBy 92 = .ok (.getfield 50, 3) := by decide +kernel
theorem dX4_partsBy_95 : decode cX4_partsBy 95 = .ok (.iastore, 1) := by decide +kernel
theorem dX4_partsBy_96 : decode cX4_partsBy 96 = .ok (.iinc 4 1, 3) := by decide +kernel
theorem dX4_partsBy_99 : decode cX4_partsBy 99 = .ok (.iinc 5 1, 3) := by decide +kernel
theorem dX4_partsBy_102 : decode cX4_partsBy 102 = .ok (.goto (-86), 3) := by decide +kernel
theorem dX4_partsBy_105 : decode cX4_partsBy 105 = .ok (.iload 4, 2) := by decide +kernel
theorem dX4_partsBy_107 : decode cX4_partsBy 107 = .ok (.ireturn, 1) := by decide +kernel
theorem dX5_init_0 : decode cX5_init 0 = .ok (.aload_n 0, 1) := by decide +kernel
theorem dX5_init_1 : decode cX5_init 1 = .ok (.invokespecial 3, 3) := by decide +kernel
theorem dX5_init_4 : decode cX5_init 4 = .ok (.aload_n 0, 1) := by decide +kernel
theorem dX5_init_5 : decode cX5_init 5 = .ok (.sipush 216, 3) := by decide +kernel
theorem dX5_init_8 : decode cX5_init 8 = .ok (.newarray .int, 2) := by decide +kernel
theorem dX5_init_10 : decode cX5_init 10 = .ok (.putfield 9, 3) := by decide +kernel
theorem dX5_init_13 : decode cX5_init 13 = .ok (.aload_n 0, 1) := by decide +kernel
theorem dX5_init_14 : decode cX5_init 14 = .ok (.sipush 216, 3) := by decide +kernel
theorem dX5_init_17 : decode cX5_init 17 = .ok (.newarray .boolean, 2) := by decide +kernel
theorem dX5_init_19 : decode cX5_init 19 = .ok (.putfield 15, 3) := by decide +kernel
theorem dX5_init_22 : decode cX5_init 22 = .ok (.aload_n 0, 1) := by decide +kernel
theorem dX5_init_23 : decode cX5_init 23 = .ok (.bipush 31, 2) := by decide +kernel
theorem dX5_init_25 : decode cX5_init 25 = .ok (.newarray .int, 2) := by decide +kernel
theorem dX5_init_27 : decode cX5_init 27 = .ok (.putfield 19, 3) := by decide +kernel
theorem dX5_init_30 : decode cX5_init 30 = .ok (.aload_n 0, 1) := by decide +kernel
theorem dX5_init_31 : decode cX5_init 31 = .ok (.aload_n 1, 1) := by decide +kernel
theorem dX5_init_32 : decode cX5_init 32 = .ok (.putfield 22, 3) := by decide +kernel
theorem dX5_init_35 : decode cX5_init 35 = .ok (.return_, 1) := by decide +kernel
theorem dX5_fill_0 : decode cX5_fill 0 = .ok (.aload_n 0, 1) := by decide +kernel
theorem dX5_fill_1 : decode cX5_fill 1 = .ok (.aload_n 0, 1) := by decide +kernel
theorem dX5_fill_2 : decode cX5_fill 2 = .ok (.getfield 22, 3) := by decide +kernel
theorem dX5_fill_5 : decode cX5_fill 5 = .ok (.getfield 26, 3) := by decide +kernel
theorem dX5_fill_8 : decode cX5_fill 8 = .ok (.putfield 32, 3) := by decide +kernel
theorem dX5_fill_11 : decode cX5_fill 11 = .ok (.iconst 0, 1) := by decide +kernel
theorem dX5_fill_12 : decode cX5_fill 12 = .ok (.istore_n 1, 1) := by decide +kernel
theorem dX5_fill_13 : decode cX5_fill 13 = .ok (.iload_n 1, 1) := by decide +kernel
theorem dX5_fill_14 : decode cX5_fill 14 = .ok (.aload_n 0, 1) := by decide +kernel
theorem dX5_fill_15 : decode cX5_fill 15 = .ok (.getfield 32, 3) := by decide +kernel
theorem dX5_fill_18 : decode cX5_fill 18 = .ok (.if_icmp .ge 23, 3) := by decide +kernel
theorem dX5_fill_21 : decode cX5_fill 21 = .ok (.aload_n 0, 1) := by decide +kernel
theorem dX5_fill_22 : decode cX5_fill 22 = .ok (.getfield 9, 3) := by decide +kernel
theorem dX5_fill_25 : decode cX5_fill 25 = .ok (.iload_n 1, 1) := by decide +kernel
theorem dX5_fill_26 : decode cX5_fill 26 = .ok (.iload_n 1, 1) := by decide +kernel
theorem dX5_fill_27 : decode cX5_fill 27 = .ok (.iastore, 1) := by decide +kernel
theorem dX5_fill_28 : decode cX5_fill 28 = .ok (.aload_n 0, 1) := by decide +kernel
theorem dX5_fill_29 : decode cX5_fill 29 = .ok (.getfield 15, 3) := by decide +kernel
theorem dX5_fill_32 : decode cX5_fill 32 = .ok (.iload_n 1, 1) := by decide +kernel
theorem dX5_fill_33 : decode cX5_fill 33 = .ok (.iconst 1, 1) := by decide +kernel
theorem dX5_fill_34 : decode cX5_fill 34 = .ok (.bastore, 1) := by decide +kernel
theorem dX5_fill_35 : decode cX5_fill 35 = .ok (.iinc 1 1, 3) := by decide +kernel
theorem dX5_fill_38 : decode cX5_fill 38 = .ok (.goto (-25), 3) := by decide +kernel
theorem dX5_fill_41 : decode cX5_fill 41 = .ok (.return_, 1) := by decide +kernel
theorem dX5_keep_0 : decode cX5_keep 0 = .ok (.iconst 0, 1) := by decide +kernel
theorem dX5_keep_1 : decode cX5_keep 1 = .ok (.istore 4, 2) := by decide +kernel
theorem dX5_keep_3 : decode cX5_keep 3 = .ok (.iconst 0, 1) := by decide +kernel
theorem dX5_keep_4 : decode cX5_keep 4 = .ok (.istore 5, 2) := by decide +kernel
theorem dX5_keep_6 : decode cX5_keep 6 = .ok (.iload 5, 2) := by decide +kernel
theorem dX5_keep_8 : decode cX5_keep 8 = .ok (.aload_n 0, 1) := by decide +kernel
theorem dX5_keep_9 : decode cX5_keep 9 = .ok (.getfield 32, 3) := by decide +kernel
theorem dX5_keep_12 : decode cX5_keep 12 = .ok (.if_icmp .ge 56, 3) := by decide +kernel
theorem dX5_keep_15 : decode cX5_keep 15 = .ok (.aload_n 0, 1) := by decide +kernel
theorem dX5_keep_16 : decode cX5_keep 16 = .ok (.getfield 9, 3) := by decide +kernel
theorem dX5_keep_19 : decode cX5_keep 19 = .ok (.iload 5, 2) := by decide +kernel
theorem dX5_keep_21 : decode cX5_keep 21 = .ok (.iaload, 1) := by decide +kernel
theorem dX5_keep_22 : decode cX5_keep 22 = .ok (.istore 6, 2) := by decide +kernel
theorem dX5_keep_24 : decode cX5_keep 24 = .ok (.aload_n 1, 1) := by decide +kernel
theorem dX5_keep_25 : decode cX5_keep 25 = .ok (.aload_n 0, 1) := by decide +kernel
theorem dX5_keep_26 : decode cX5_keep 26 = .ok (.getfield 22, 3) := by decide +kernel
theorem dX5_keep_29 : decode cX5_keep 29 = .ok (.iload_n 2, 1) := by decide +kernel
theorem dX5_keep_30 : decode cX5_keep 30 = .ok (.iload 6, 2) := by decide +kernel
theorem dX5_keep_32 : decode cX5_keep 32 = .ok (.invokevirtual 33, 3) := by decide +kernel
theorem dX5_keep_35 : decode cX5_keep 35 = .ok (.iload_n 3, 1) := by decide +kernel
theorem dX5_keep_36 : decode cX5_keep 36 = .ok (.if_icmp .ne 18, 3) := by decide +kernel
theorem dX5_keep_39 : decode cX5_keep 39 = .ok (.aload_n 0, 1) := by decide +kernel
theorem dX5_keep_40 : decode cX5_keep 40 = .ok (.getfield 9, 3) := by decide +kernel
theorem dX5_keep_43 : decode cX5_keep 43 = .ok (.iload 4, 2) := by decide +kernel
theorem dX5_keep_45 : decode cX5_keep 45 = .ok (.iload 6, 2) := by decide +kernel
theorem dX5_keep_47 : decode cX5_keep 47 = .ok (.iastore, 1) := by decide +kernel
theorem dX5_keep_48 : decode cX5_keep 48 = .ok (.iinc 4 1, 3) := by decide +kernel
theorem dX5_keep_51 : decode cX5_keep 51 = .ok (.goto 11, 3) := by decide +kernel
theorem dX5_keep_54 : decode cX5_keep 54 = .ok (.aload_n 0, 1) := by decide +kernel
theorem dX5_keep_55 : decode cX5_keep 55 = .ok (.getfield 15, 3) := by decide +kernel
theorem dX5_keep_58 : decode cX5_keep 58 = .ok (.iload 6, 2) := by decide +kernel
theorem dX5_keep_60 : decode cX5_keep 60 = .ok (.iconst 0, 1) := by decide +kernel
theorem dX5_keep_61 : decode cX5_keep 61 = .ok (.bastore, 1) := by decide +kernel
theorem dX5_keep_62 : decode cX5_keep 62 = .ok (.iinc 5 1, 3) := by decide +kernel
theorem dX5_keep_65 : decode cX5_keep 65 = .ok (.goto (-59), 3) := by decide +kernel
theorem dX5_keep_68 : decode cX5_keep 68 = .ok (.aload_n 0, 1) := by decide +kernel
theorem dX5_keep_69 : decode cX5_keep 69 = .ok (.iload 4, 2) := by decide +kernel
theorem dX5_keep_71 : decode cX5_keep 71 = .ok (.putfield 32, 3) := by decide +kernel
theorem dX5_keep_74 : decode cX5_keep 74 = .ok (.return_, 1) := by decide +kernel
theorem dX5_drop_0 : decode cX5_drop 0 = .ok (.iconst 0, 1) := by decide +kernel
theorem dX5_drop_1 : decode cX5_drop 1 = .ok (.istore_n 2, 1) := by decide +kernel
theorem dX5_drop_2 : decode cX5_drop 2 = .ok (.iconst 0, 1) := by decide +kernel
theorem dX5_drop_3 : decode cX5_drop 3 = .ok (.istore_n 3, 1) := by decide +kernel
theorem dX5_drop_4 : decode cX5_drop 4 = .ok (.iload_n 3, 1) := by decide +kernel
theorem dX5_drop_5 : decode cX5_drop 5 = .ok (.aload_n 0, 1) := by decide +kernel
theorem dX5_drop_6 : decode cX5_drop 6 = .ok (.getfield 32, 3) := by decide +kernel
theorem dX5_drop_9 : decode cX5_drop 9 = .ok (.if_icmp .ge 34, 3) := by decide +kernel
theorem dX5_drop_12 : decode cX5_drop 12 = .ok (.aload_n 0, 1) := by decide +kernel
theorem dX5_drop_13 : decode cX5_drop 13 = .ok (.getfield 9, 3) := by decide +kernel
theorem dX5_drop_16 : decode cX5_drop 16 = .ok (.iload_n 3, 1) := by decide +kernel
theorem dX5_drop_17 : decode cX5_drop 17 = .ok (.iaload, 1) := by decide +kernel
theorem dX5_drop_18 : decode cX5_drop 18 = .ok (.iload_n 1, 1) := by decide +kernel
theorem dX5_drop_19 : decode cX5_drop 19 = .ok (.if_icmp .eq 18, 3) := by decide +kernel
theorem dX5_drop_22 : decode cX5_drop 22 = .ok (.aload_n 0, 1) := by decide +kernel
theorem dX5_drop_23 : decode cX5_drop 23 = .ok (.getfield 9, 3) := by decide +kernel
theorem dX5_drop_26 : decode cX5_drop 26 = .ok (.iload_n 2, 1) := by decide +kernel
theorem dX5_drop_27 : decode cX5_drop 27 = .ok (.aload_n 0, 1) := by decide +kernel
theorem dX5_drop_28 : decode cX5_drop 28 = .ok (.getfield 9, 3) := by decide +kernel
theorem dX5_drop_31 : decode cX5_drop 31 = .ok (.iload_n 3, 1) := by decide +kernel
theorem dX5_drop_32 : decode cX5_drop 32 = .ok (.iaload, 1) := by decide +kernel
theorem dX5_drop_33 : decode cX5_drop 33 = .ok (.iastore, 1) := by decide +kernel
theorem dX5_drop_34 : decode cX5_drop 34 = .ok (.iinc 2 1, 3) := by decide +kernel
theorem dX5_drop_37 : decode cX5_drop 37 = .ok (.iinc 3 1, 3) := by decide +kernel
theorem dX5_drop_40 : decode cX5_drop 40 = .ok (.goto (-36), 3) := by decide +kernel
theorem dX5_drop_43 : decode cX5_drop 43 = .ok (.aload_n 0, 1) := by decide +kernel
theorem dX5_drop_44 : decode cX5_drop 44 = .ok (.iload_n 2, 1) := by decide +kernel
theorem dX5_drop_45 : decode cX5_drop 45 = .ok (.putfield 32, 3) := by decide +kernel
theorem dX5_drop_48 : decode cX5_drop 48 = .ok (.aload_n 0, 1) := by decide +kernel
theorem dX5_drop_49 : decode cX5_drop 49 = .ok (.getfield 15, 3) := by decide +kernel
theorem dX5_drop_52 : decode cX5_drop 52 = .ok (.iload_n 1, 1) := by decide +kernel
theorem dX5_drop_53 : decode cX5_drop 53 = .ok (.iconst 0, 1) := by decide +kernel
theorem dX5_drop_54 : decode cX5_drop 54 = .ok (.bastore, 1) := by decide +kernel
theorem dX5_drop_55 : decode cX5_drop 55 = .ok (.return_, 1) := by decide +kernel
theorem dX5_bestRow_0 : decode cX5_bestRow 0 = .ok (.iconst (-1), 1) := by decide +kernel
theorem dX5_bestRow_1 : decode cX5_bestRow 1 = .ok (.istore_n 2, 1) := by decide +kernel
theorem dX5_bestRow_2 : decode cX5_bestRow 2 = .ok (.sipush 434, 3) := by decide +kernel
theorem dX5_bestRow_5 : decode cX5_bestRow 5 = .ok (.istore_n 3, 1) := by decide +kernel
theorem dX5_bestRow_6 : decode cX5_bestRow 6 = .ok (.iconst 0, 1) := by decide +kernel
theorem dX5_bestRow_7 : decode cX5_bestRow 7 = .ok (.istore 4, 2) := by decide +kernel
theorem dX5_bestRow_9 : decode cX5_bestRow 9 = .ok (.iload 4, 2) := by decide +kernel
theorem dX5_bestRow_11 : decode cX5_bestRow 11 = .ok (.aload_n 0, 1) := by decide +kernel
theorem dX5_bestRow_12 : decode cX5_bestRow 12 = .ok (.getfield 22, 3) := by decide +kernel
theorem dX5_bestRow_15 : decode cX5_bestRow 15 = .ok (.getfield 26, 3) := by decide +kernel
theorem dX5_bestRow_18 : decode cX5_bestRow 18 = .ok (.if_icmp .ge 55, 3) := by decide +kernel
theorem dX5_bestRow_21 : decode cX5_bestRow 21 = .ok (.aload_n 0, 1) := by decide +kernel
theorem dX5_bestRow_22 : decode cX5_bestRow 22 = .ok (.getfield 32, 3) := by decide +kernel
theorem dX5_bestRow_25 : decode cX5_bestRow 25 = .ok (.ifCond .le 48, 3) := by decide +kernel
theorem dX5_bestRow_28 : decode cX5_bestRow 28 = .ok (.iconst 2, 1) := by decide +kernel
theorem dX5_bestRow_29 : decode cX5_bestRow 29 = .ok (.aload_n 0, 1) := by decide +kernel
theorem dX5_bestRow_30 : decode cX5_bestRow 30 = .ok (.aload_n 1, 1) := by decide +kernel
theorem dX5_bestRow_31 : decode cX5_bestRow 31 = .ok (.iload 4, 2) := by decide +kernel
theorem dX5_bestRow_33 : decode cX5_bestRow 33 = .ok (.invokevirtual 39, 3) := by decide +kernel
theorem dX5_bestRow_36 : decode cX5_bestRow 36 = .ok (.imul, 1) := by decide +kernel
theorem dX5_bestRow_37 : decode cX5_bestRow 37 = .ok (.aload_n 0, 1) := by decide +kernel
theorem dX5_bestRow_38 : decode cX5_bestRow 38 = .ok (.getfield 15, 3) := by decide +kernel
theorem dX5_bestRow_41 : decode cX5_bestRow 41 = .ok (.iload 4, 2) := by decide +kernel
theorem dX5_bestRow_43 : decode cX5_bestRow 43 = .ok (.baload, 1) := by decide +kernel
theorem dX5_bestRow_44 : decode cX5_bestRow 44 = .ok (.ifCond .eq 7, 3) := by decide +kernel
theorem dX5_bestRow_47 : decode cX5_bestRow 47 = .ok (.iconst 0, 1) := by decide +kernel
theorem dX5_bestRow_48 : decode cX5_bestRow 48 = .ok (.goto 4, 3) := by decide +kernel
theorem dX5_bestRow_51 : decode cX5_bestRow 51 = .ok (.iconst 1, 1) := by decide +kernel
theorem dX5_bestRow_52 : decode cX5_bestRow 52 = .ok (.iadd, 1) := by decide +kernel
theorem dX5_bestRow_53 : decode cX5_bestRow 53 = .ok (.istore 5, 2) := by decide +kernel
theorem dX5_bestRow_55 : decode cX5_bestRow 55 = .ok (.iload 5, 2) := by decide +kernel
theorem dX5_bestRow_57 : decode cX5_bestRow 57 = .ok (.iload_n 3, 1) := by decide +kernel
theorem dX5_bestRow_58 : decode cX5_bestRow 58 = .ok (.if_icmp .ge 9, 3) := by decide +kernel
theorem dX5_bestRow_61 : decode cX5_bestRow 61 = .ok (.iload 5, 2) := by decide +kernel
theorem dX5_bestRow_63 : decode cX5_bestRow 63 = .ok (.istore_n 3, 1) := by decide +kernel
theorem dX5_bestRow_64 : decode cX5_bestRow 64 = .ok (.iload 4, 2) := by decide +kernel
theorem dX5_bestRow_66 : decode cX5_bestRow 66 = .ok (.istore_n 2, 1) := by decide +kernel
theorem dX5_bestRow_67 : decode cX5_bestRow 67 = .ok (.iinc 4 1, 3) := by decide +kernel
theorem dX5_bestRow_70 : decode cX5_bestRow 70 = .ok (.goto (-61), 3) := by decide +kernel
theorem dX5_bestRow_73 : decode cX5_bestRow 73 = .ok (.iload_n 2, 1) := by decide +kernel
theorem dX5_bestRow_74 : decode cX5_bestRow 74 = .ok (.ireturn, 1) := by decide +kernel
theorem dX5_worst_0 : decode cX5_worst 0 = .ok (.aload_n 0, 1) := by decide +kernel
theorem dX5_worst_1 : decode cX5_worst 1 = .ok (.aload_n 1, 1) := by decide +kernel
theorem dX5_worst_2 : decode cX5_worst 2 = .ok (.iload_n 2, 1) := by decide +kernel
theorem dX5_worst_3 : decode cX5_worst 3 = .ok (.invokevirtual 43, 3) := by decide +kernel
theorem dX5_worst_6 : decode cX5_worst 6 = .ok (.iconst 0, 1) := by decide +kernel
theorem dX5_worst_7 : decode cX5_worst 7 = .ok (.istore_n 3, 1) := by decide +kernel
theorem dX5_worst_8 : decode cX5_worst 8 = .ok (.aload_n 0, 1) := by decide +kernel
theorem dX5_worst_9 : decode cX5_worst 9 = .ok (.getfield 19, 3) := by decide +kernel
theorem dX5_worst_12 : decode cX5_worst 12 = .ok (.astore 4, 2) := by decide +kernel
theorem dX5_worst_14 : decode cX5_worst 14 = .ok (.aload 4, 2) := by decide +kernel
theorem dX5_worst_16 : decode cX5_worst 16 = .ok (.arraylength, 1) := by decide +kernel
theorem dX5_worst_17 : decode cX5_worst 17 = .ok (.istore 5, 2) := by decide +kernel
theorem dX5_worst_19 : decode cX5_worst 19 = .ok (.iconst 0, 1) := by decide +kernel
theorem dX5_worst_20 : decode cX5_worst 20 = .ok (.istore 6, 2) := by decide +kernel
theorem dX5_worst_22 : decode cX5_worst 22 = .ok (.iload 6, 2) := by decide +kernel
theorem dX5_worst_24 : decode cX5_worst 24 = .ok (.iload 5, 2) := by decide +kernel
theorem dX5_worst_26 : decode cX5_worst 26 = .ok (.if_icmp .ge 23, 3) := by decide +kernel
theorem dX5_worst_29 : decode cX5_worst 29 = .ok (.aload 4, 2) := by decide +kernel
theorem dX5_worst_31 : decode cX5_worst 31 = .ok (.iload 6, 2) := by decide +kernel
theorem dX5_worst_33 : decode cX5_worst 33 = .ok (.iaload, 1) := by decide +kernel
theorem dX5_worst_34 : decode cX5_worst 34 = .ok (.istore 7, 2) := by decide +kernel
theorem dX5_worst_36 : decode cX5_worst 36 = .ok (.iload_n 3, 1) := by decide +kernel
theorem dX5_worst_37 : decode cX5_worst 37 = .ok (.iload 7, 2) := by decide +kernel
theorem dX5_worst_39 : decode cX5_worst 39 = .ok (.invokestatic 47, 3) := by decide +kernel
theorem dX5_worst_42 : decode cX5_worst 42 = .ok (.istore_n 3, 1) := by decide +kernel
theorem dX5_worst_43 : decode cX5_worst 43 = .ok (.iinc 6 1, 3) := by decide +kernel
theorem dX5_worst_46 : decode cX5_worst 46 = .ok (.goto (-24), 3) := by decide +kernel
theorem dX5_worst_49 : decode cX5_worst 49 = .ok (.iload_n 3, 1) := by decide +kernel
theorem dX5_worst_50 : decode cX5_worst 50 = .ok (.ireturn, 1) := by decide +kernel
theorem dX5_squares_0 : decode cX5_squares 0 = .ok (.aload_n 0, 1) := by decide +kernel
theorem dX5_squares_1 : decode cX5_squares 1 = .ok (.aload_n 1, 1) := by decide +kernel
theorem dX5_squares_2 : decode cX5_squares 2 = .ok (.iload_n 2, 1) := by decide +kernel
theorem dX5_squares_3 : decode cX5_squares 3 = .ok (.invokevirtual 43, 3) := by decide +kernel
theorem dX5_squares_6 : decode cX5_squares 6 = .ok (.iconst 0, 1) := by decide +kernel
theorem dX5_squares_7 : decode cX5_squares 7 = .ok (.istore_n 3, 1) := by decide +kernel
theorem dX5_squares_8 : decode cX5_squares 8 = .ok (.aload_n 0, 1) := by decide +kernel
theorem dX5_squares_9 : decode cX5_squares 9 = .ok (.getfield 19, 3) := by decide +kernel
theorem dX5_squares_12 : decode cX5_squares 12 = .ok (.astore 4, 2) := by decide +kernel
theorem dX5_squares_14 : decode cX5_squares 14 = .ok (.aload 4, 2) := by decide +kernel
theorem dX5_squares_16 : decode cX5_squares 16 = .ok (.arraylength, 1) := by decide +kernel
theorem dX5_squares_17 : decode cX5_squares 17 = .ok (.istore 5, 2) := by decide +kernel
theorem dX5_squares_19 : decode cX5_squares 19 = .ok (.iconst 0, 1) := by decide +kernel
theorem dX5_squares_20 : decode cX5_squares 20 = .ok (.istore 6, 2) := by decide +kernel
theorem dX5_squares_22 : decode cX5_squares 22 = .ok (.iload 6, 2) := by decide +kernel
theorem dX5_squares_24 : decode cX5_squares 24 = .ok (.iload 5, 2) := by decide +kernel
theorem dX5_squares_26 : decode cX5_squares 26 = .ok (.if_icmp .ge 24, 3) := by decide +kernel
theorem dX5_squares_29 : decode cX5_squares 29 = .ok (.aload 4, 2) := by decide +kernel
theorem dX5_squares_31 : decode cX5_squares 31 = .ok (.iload 6, 2) := by decide +kernel
theorem dX5_squares_33 : decode cX5_squares 33 = .ok (.iaload, 1) := by decide +kernel
theorem dX5_squares_34 : decode cX5_squares 34 = .ok (.istore 7, 2) := by decide +kernel
theorem dX5_squares_36 : decode cX5_squares 36 = .ok (.iload_n 3, 1) := by decide +kernel
theorem dX5_squares_37 : decode cX5_squares 37 = .ok (.iload 7, 2) := by decide +kernel
theorem dX5_squares_39 : decode cX5_squares 39 = .ok (.iload 7, 2) := by decide +kernel
theorem dX5_squares_41 : decode cX5_squares 41 = .ok (.imul, 1) := by decide +kernel
theorem dX5_squares_42 : decode cX5_squares 42 = .ok (.iadd, 1) := by decide +kernel
theorem dX5_squares_43 : decode cX5_squares 43 = .ok (.istore_n 3, 1) := by decide +kernel
theorem dX5_squares_44 : decode cX5_squares 44 = .ok (.iinc 6 1, 3) := by decide +kernel
theorem dX5_squares_47 : decode cX5_squares 47 = .ok (.goto (-25), 3) := by decide +kernel
theorem dX5_squares_50 : decode cX5_squares 50 = .ok (.iload_n 3, 1) := by decide +kernel
theorem dX5_squares_51 : decode cX5_squares 51 = .ok (.ireturn, 1) := by decide +kernel
theorem dX5_tally_0 : decode cX5_tally 0 = .ok (.iconst 0, 1) := by decide +kernel
theorem dX5_tally_1 : decode cX5_tally 1 = .ok (.istore_n 3, 1) := by decide +kernel
theorem dX5_tally_2 : decode cX5_tally 2 = .ok (.iload_n 3, 1) := by decide +kernel
theorem dX5_tally_3 : decode cX5_tally 3 = .ok (.aload_n 0, 1) := by decide +kernel
theorem dX5_tally_4 : decode cX5_tally 4 = .ok (.getfield 19, 3) := by decide +kernel
theorem dX5_tally_7 : decode cX5_tally 7 = .ok (.arraylength, 1) := by decide +kernel
theorem dX5_tally_8 : decode cX5_tally 8 = .ok (.if_icmp .ge 16, 3) := by decide +kernel
theorem dX5_tally_11 : decode cX5_tally 11 = .ok (.aload_n 0, 1) := by decide +kernel
theorem dX5_tally_12 : decode cX5_tally 12 = .ok (.getfield 19, 3) := by decide +kernel
theorem dX5_tally_15 : decode cX5_tally 15 = .ok (.iload_n 3, 1) := by decide +kernel
theorem dX5_tally_16 : decode cX5_tally 16 = .ok (.iconst 0, 1) := by decide +kernel
theorem dX5_tally_17 : decode cX5_tally 17 = .ok (.iastore, 1) := by decide +kernel
theorem dX5_tally_18 : decode cX5_tally 18 = .ok (.iinc 3 1, 3) := by decide +kernel
theorem dX5_tally_21 : decode cX5_tally 21 = .ok (.goto (-19), 3) := by decide +kernel
theorem dX5_tally_24 : decode cX5_tally 24 = .ok (.iconst 0, 1) := by decide +kernel
theorem dX5_tally_25 : decode cX5_tally 25 = .ok (.istore_n 3, 1) := by decide +kernel
theorem dX5_tally_26 : decode cX5_tally 26 = .ok (.iload_n 3, 1) := by decide +kernel
theorem dX5_tally_27 : decode cX5_tally 27 = .ok (.aload_n 0, 1) := by decide +kernel
theorem dX5_tally_28 : decode cX5_tally 28 = .ok (.getfield 32, 3) := by decide +kernel
theorem dX5_tally_31 : decode cX5_tally 31 = .ok (.if_icmp .ge 52, 3) := by decide +kernel
theorem dX5_tally_34 : decode cX5_tally 34 = .ok (.aload_n 1, 1) := by decide +kernel
theorem dX5_tally_35 : decode cX5_tally 35 = .ok (.aload_n 0, 1) := by decide +kernel
theorem dX5_tally_36 : decode cX5_tally 36 = .ok (.getfield 22, 3) := by decide +kernel
theorem dX5_tally_39 : decode cX5_tally 39 = .ok (.iload_n 2, 1) := by decide +kernel
theorem dX5_tally_40 : decode cX5_tally 40 = .ok (.aload_n 0, 1) := by decide +kernel
theorem dX5_tally_41 : decode cX5_tally 41 = .ok (.getfield 9, 3) := by decide +kernel
theorem dX5_tally_44 : decode cX5_tally 44 = .ok (.iload_n 3, 1) := by decide +kernel
theorem dX5_tally_45 : decode cX5_tally 45 = .ok (.iaload, 1) := by decide +kernel
theorem dX5_tally_46 : decode cX5_tally 46 = .ok (.invokevirtual 33, 3) := by decide +kernel
theorem dX5_tally_49 : decode cX5_tally 49 = .ok (.istore 4, 2) := by decide +kernel
theorem dX5_tally_51 : decode cX5_tally 51 = .ok (.iload 4, 2) := by decide +kernel
theorem dX5_tally_53 : decode cX5_tally 53 = .ok (.ifCond .lt 24, 3) := by decide +kernel
theorem dX5_tally_56 : decode cX5_tally 56 = .ok (.iload 4, 2) := by decide +kernel
theorem dX5_tally_58 : decode cX5_tally 58 = .ok (.aload_n 0, 1) := by decide +kernel
theorem dX5_tally_59 : decode cX5_tally 59 = .ok (.getfield 19, 3) := by decide +kernel
theorem dX5_tally_62 : decode cX5_tally 62 = .ok (.arraylength, 1) := by decide +kernel
theorem dX5_tally_63 : decode cX5_tally 63 = .ok (.if_icmp .ge 14, 3) := by decide +kernel
theorem dX5_tally_66 : decode cX5_tally 66 = .ok (.aload_n 0, 1) := by decide +kernel
theorem dX5_tally_67 : decode cX5_tally 67 = .ok (.getfield 19, 3) := by decide +kernel
theorem dX5_tally_70 : decode cX5_tally 70 = .ok (.iload 4, 2) := by decide +kernel
theorem dX5_tally_72 : decode cX5_tally 72 = .ok (.dup2, 1) := by decide +kernel
theorem dX5_tally_73 : decode cX5_tally 73 = .ok (.iaload, 1) := by decide +kernel
theorem dX5_tally_74 : decode cX5_tally 74 = .ok (.iconst 1, 1) := by decide +kernel
theorem dX5_tally_75 : decode cX5_tally 75 = .ok (.iadd, 1) := by decide +kernel
theorem dX5_tally_76 : decode cX5_tally 76 = .ok (.iastore, 1) := by decide +kernel
theorem dX5_tally_77 : decode cX5_tally 77 = .ok (.iinc 3 1, 3) := by decide +kernel
theorem dX5_tally_80 : decode cX5_tally 80 = .ok (.goto (-54), 3) := by decide +kernel
theorem dX5_tally_83 : decode cX5_tally 83 = .ok (.return_, 1) := by decide +kernel
theorem dX6_init_0 : decode cX6_init 0 = .ok (.aload_n 0, 1) := by decide +kernel
theorem dX6_init_1 : decode cX6_init 1 = .ok (.invokespecial 3, 3) := by decide +kernel
theorem dX6_init_4 : decode cX6_init 4 = .ok (.aload_n 0, 1) := by decide +kernel
theorem dX6_init_5 : decode cX6_init 5 = .ok (.sipush 216, 3) := by decide +kernel
theorem dX6_init_8 : decode cX6_init 8 = .ok (.newarray .int, 2) := by decide +kernel
theorem dX6_init_10 : decode cX6_init 10 = .ok (.putfield 9, 3) := by decide +kernel
theorem dX6_init_13 : decode cX6_init 13 = .ok (.aload_n 0, 1) := by decide +kernel
theorem dX6_init_14 : decode cX6_init 14 = .ok (.sipush 216, 3) := by decide +kernel
theorem dX6_init_17 : decode cX6_init 17 = .ok (.newarray .int, 2) := by decide +kernel
theorem dX6_init_19 : decode cX6_init 19 = .ok (.putfield 15, 3) := by decide +kernel
theorem dX6_init_22 : decode cX6_init 22 = .ok (.aload_n 0, 1) := by decide +kernel
theorem dX6_init_23 : decode cX6_init 23 = .ok (.sipush 216, 3) := by decide +kernel
theorem dX6_init_26 : decode cX6_init 26 = .ok (.newarray .int, 2) := by decide +kernel
theorem dX6_init_28 : decode cX6_init 28 = .ok (.putfield 18, 3) := by decide +kernel
theorem dX6_init_31 : decode cX6_init 31 = .ok (.return_, 1) := by decide +kernel
theorem dX6_lay_0 : decode cX6_lay 0 = .ok (.aload_n 0, 1) := by decide +kernel
theorem dX6_lay_1 : decode cX6_lay 1 = .ok (.iload_n 1, 1) := by decide +kernel
theorem dX6_lay_2 : decode cX6_lay 2 = .ok (.putfield 21, 3) := by decide +kernel
theorem dX6_lay_5 : decode cX6_lay 5 = .ok (.aload_n 0, 1) := by decide +kernel
theorem dX6_lay_6 : decode cX6_lay 6 = .ok (.iload_n 2, 1) := by decide +kernel
theorem dX6_lay_7 : decode cX6_lay 7 = .ok (.putfield 25, 3) := by decide +kernel
theorem dX6_lay_10 : decode cX6_lay 10 = .ok (.aload_n 0, 1) := by decide +kernel
theorem dX6_lay_11 : decode cX6_lay 11 = .ok (.iconst 1, 1) := by decide +kernel
theorem dX6_lay_12 : decode cX6_lay 12 = .ok (.putfield 28, 3) := by decide +kernel
theorem dX6_lay_15 : decode cX6_lay 15 = .ok (.iconst 0, 1) := by decide +kernel
theorem dX6_lay_16 : decode cX6_lay 16 = .ok (.istore_n 3, 1) := by decide +kernel
theorem dX6_lay_17 : decode cX6_lay 17 = .ok (.iload_n 3, 1) := by decide +kernel
theorem dX6_lay_18 : decode cX6_lay 18 = .ok (.iload_n 1, 1) := by decide +kernel
theorem dX6_lay_19 : decode cX6_lay 19 = .ok (.if_icmp .ge 19, 3) := by decide +kernel
theorem dX6_lay_22 : decode cX6_lay 22 = .ok (.aload_n 0, 1) := by decide +kernel
theorem dX6_lay_23 : decode cX6_lay 23 = .ok (.dup, 1) := by decide +kernel
theorem dX6_lay_24 : decode cX6_lay 24 = .ok (.getfield 28, 3) := by decide +kernel
theorem dX6_lay_27 : decode cX6_lay 27 = .ok (.iload_n 2, 1) := by decide +kernel
theorem dX6_lay_28 : decode cX6_lay 28 = .ok (.imul, 1) := by decide +kernel
theorem dX6_lay_29 : decode cX6_lay 29 = .ok (.putfield 28, 3) := by decide +kernel
theorem dX6_lay_32 : decode cX6_lay 32 = .ok (.iinc 3 1, 3) := by decide +kernel
theorem dX6_lay_35 : decode cX6_lay 35 = .ok (.goto (-18), 3) := by decide +kernel
theorem dX6_lay_38 : decode cX6_lay 38 = .ok (.iconst 0, 1) := by decide +kernel
theorem dX6_lay_39 : decode cX6_lay 39 = .ok (.istore_n 3, 1) := by decide +kernel
theorem dX6_lay_40 : decode cX6_lay 40 = .ok (.iload_n 3, 1) := by decide +kernel
theorem dX6_lay_41 : decode cX6_lay 41 = .ok (.aload_n 0, 1) := by decide +kernel
theorem dX6_lay_42 : decode cX6_lay 42 = .ok (.getfield 28, 3) := by decide +kernel
theorem dX6_lay_45 : decode cX6_lay 45 = .ok (.if_icmp .ge 14, 3) := by decide +kernel
theorem dX6_lay_48 : decode cX6_lay 48 = .ok (.aload_n 0, 1) := by decide +kernel
theorem dX6_lay_49 : decode cX6_lay 49 = .ok (.iload_n 3, 1) := by decide +kernel
theorem dX6_lay_50 : decode cX6_lay 50 = .ok (.invokevirtual 31, 3) := by decide +kernel
theorem dX6_lay_53 : decode cX6_lay 53 = .ok (.iinc 3 1, 3) := by decide +kernel
theorem dX6_lay_56 : decode cX6_lay 56 = .ok (.goto (-16), 3) := by decide +kernel
theorem dX6_lay_59 : decode cX6_lay 59 = .ok (.return_, 1) := by decide +kernel
theorem dX6_layRow_0 : decode cX6_layRow 0 = .ok (.iconst 0, 1) := by decide +kernel
theorem dX6_layRow_1 : decode cX6_layRow 1 = .ok (.istore_n 2, 1) := by decide +kernel
theorem dX6_layRow_2 : decode cX6_layRow 2 = .ok (.iconst 0, 1) := by decide +kernel
theorem dX6_layRow_3 : decode cX6_layRow 3 = .ok (.istore_n 3, 1) := by decide +kernel
theorem dX6_layRow_4 : decode cX6_layRow 4 = .ok (.iconst 0, 1) := by decide +kernel
theorem dX6_layRow_5 : decode cX6_layRow 5 = .ok (.istore 4, 2) := by decide +kernel
theorem dX6_layRow_7 : decode cX6_layRow 7 = .ok (.iconst 0, 1) := by decide +kernel
theorem dX6_layRow_8 : decode cX6_layRow 8 = .ok (.istore 5, 2) := by decide +kernel
theorem dX6_layRow_10 : decode cX6_layRow 10 = .ok (.iload 5, 2) := by decide +kernel
theorem dX6_layRow_12 : decode cX6_layRow 12 = .ok (.aload_n 0, 1) := by decide +kernel
theorem dX6_layRow_13 : decode cX6_layRow 13 = .ok (.getfield 21, 3) := by decide +kernel
theorem dX6_layRow_16 : decode cX6_layRow 16 = .ok (.if_icmp .ge 60, 3) := by decide +kernel
theorem dX6_layRow_19 : decode cX6_layRow 19 = .ok (.aload_n 0, 1) := by decide +kernel
theorem dX6_layRow_20 : decode cX6_layRow 20 = .ok (.iload_n 1, 1) := by decide +kernel
theorem dX6_layRow_21 : decode cX6_layRow 21 = .ok (.iload 5, 2) := by decide +kernel
theorem dX6_layRow_23 : decode cX6_layRow 23 = .ok (.invokevirtual 35, 3) := by decide +kernel
theorem dX6_layRow_26 : decode cX6_layRow 26 = .ok (.istore 6, 2) := by decide +kernel
theorem dX6_layRow_28 : decode cX6_layRow 28 = .ok (.iload_n 2, 1) := by decide +kernel
theorem dX6_layRow_29 : decode cX6_layRow 29 = .ok (.iconst 1, 1) := by decide +kernel
theorem dX6_layRow_30 : decode cX6_layRow 30 = .ok (.iload 5, 2) := by decide +kernel
theorem dX6_layRow_32 : decode cX6_layRow 32 = .ok (.bipush 6, 2) := by decide +kernel
theorem dX6_layRow_34 : decode cX6_layRow 34 = .ok (.imul, 1) := by decide +kernel
theorem dX6_layRow_35 : decode cX6_layRow 35 = .ok (.iload 6, 2) := by decide +kernel
theorem dX6_layRow_37 : decode cX6_layRow 37 = .ok (.iadd, 1) := by decide +kernel
theorem dX6_layRow_38 : decode cX6_layRow 38 = .ok (.ishl, 1) := by decide +kernel
theorem dX6_layRow_39 : decode cX6_layRow 39 = .ok (.ior, 1) := by decide +kernel
theorem dX6_layRow_40 : decode cX6_layRow 40 = .ok (.istore_n 2, 1) := by decide +kernel
theorem dX6_layRow_41 : decode cX6_layRow 41 = .ok (.iload_n 3, 1) := by decide +kernel
theorem dX6_layRow_42 : decode cX6_layRow 42 = .ok (.iconst 1, 1) := by decide +kernel
theorem dX6_layRow_43 : decode cX6_layRow 43 = .ok (.aload_n 0, 1) := by decide +kernel
theorem dX6_layRow_44 : decode cX6_layRow 44 = .ok (.getfield 21, 3) := by decide +kernel
theorem dX6_layRow_47 : decode cX6_layRow 47 = .ok (.iconst 1, 1) := by decide +kernel
theorem dX6_layRow_48 : decode cX6_layRow 48 = .ok (.isub, 1) := by decide +kernel
theorem dX6_layRow_49 : decode cX6_layRow 49 = .ok (.iload 5, 2) := by decide +kernel
theorem dX6_layRow_51 : decode cX6_layRow 51 = .ok (.isub, 1) := by decide +kernel
theorem dX6_layRow_52 : decode cX6_layRow 52 = .ok (.bipush 6, 2) := by decide +kernel
theorem dX6_layRow_54 : decode cX6_layRow 54 = .ok (.imul, 1) := by decide +kernel
theorem dX6_layRow_55 : decode cX6_layRow 55 = .ok (.iload 6, 2) := by decide +kernel
theorem dX6_layRow_57 : decode cX6_layRow 57 = .ok (.iadd, 1) := by decide +kernel
theorem dX6_layRow_58 : decode cX6_layRow 58 = .ok (.ishl, 1) := by decide +kernel
theorem dX6_layRow_59 : decode cX6_layRow 59 = .ok (.ior, 1) := by decide +kernel
theorem dX6_layRow_60 : decode cX6_layRow 60 = .ok (.istore_n 3, 1) := by decide +kernel
theorem dX6_layRow_61 : decode cX6_layRow 61 = .ok (.iload 4, 2) := by decide +kernel
theorem dX6_layRow_63 : decode cX6_layRow 63 = .ok (.iload 6, 2) := by decide +kernel
theorem dX6_layRow_65 : decode cX6_layRow 65 = .ok (.invokestatic 39, 3) := by decide +kernel
theorem dX6_layRow_68 : decode cX6_layRow 68 = .ok (.istore 4, 2) := by decide +kernel
theorem dX6_layRow_70 : decode cX6_layRow 70 = .ok (.iinc 5 1, 3) := by decide +kernel
theorem dX6_layRow_73 : decode cX6_layRow 73 = .ok (.goto (-63), 3) := by decide +kernel
theorem dX6_layRow_76 : decode cX6_layRow 76 = .ok (.aload_n 0, 1) := by decide +kernel
theorem dX6_layRow_77 : decode cX6_layRow 77 = .ok (.getfield 9, 3) := by decide +kernel
theorem dX6_layRow_80 : decode cX6_layRow 80 = .ok (.iload_n 1, 1) := by decide +kernel
theorem dX6_layRow_81 : decode cX6_layRow 81 = .ok (.iload_n 2, 1) := by decide +kernel
theorem dX6_layRow_82 : decode cX6_layRow 82 = .ok (.iastore, 1) := by decide +kernel
theorem dX6_layRow_83 : decode cX6_layRow 83 = .ok (.aload_n 0, 1) := by decide +kernel
theorem dX6_layRow_84 : decode cX6_layRow 84 = .ok (.getfield 15, 3) := by decide +kernel
theorem dX6_layRow_87 : decode cX6_layRow 87 = .ok (.iload_n 1, 1) := by decide +kernel
theorem dX6_layRow_88 : decode cX6_layRow 88 = .ok (.iload_n 3, 1) := by decide +kernel
theorem dX6_layRow_89 : decode cX6_layRow 89 = .ok (.iastore, 1) := by decide +kernel
theorem dX6_layRow_90 : decode cX6_layRow 90 = .ok (.aload_n 0, 1) := by decide +kernel
theorem dX6_layRow_91 : decode cX6_layRow 91 = .ok (.getfield 18, 3) := by decide +kernel
theorem dX6_layRow_94 : decode cX6_layRow 94 = .ok (.iload_n 1, 1) := by decide +kernel
theorem dX6_layRow_95 : decode cX6_layRow 95 = .ok (.iload 4, 2) := by decide +kernel
theorem dX6_layRow_97 : decode cX6_layRow 97 = .ok (.iastore, 1) := by decide +kernel
theorem dX6_layRow_98 : decode cX6_layRow 98 = .ok (.return_, 1) := by decide +kernel
theorem dX6_withOneMore_0 : decode cX6_withOneMore 0 = .ok (.iconst 1, 1) := by decide +kernel
theorem dX6_withOneMore_1 : decode cX6_withOneMore 1 = .ok (.iload_n 1, 1) := by decide +kernel
theorem dX6_withOneMore_2 : decode cX6_withOneMore 2 = .ok (.iconst 3, 1) := by decide +kernel
theorem dX6_withOneMore_3 : decode cX6_withOneMore 3 = .ok (.imul, 1) := by decide +kernel
theorem dX6_withOneMore_4 : decode cX6_withOneMore 4 = .ok (.ishl, 1) := by decide +kernel
theorem dX6_withOneMore_5 : decode cX6_withOneMore 5 = .ok (.istore_n 2, 1) := by decide +kernel
theorem dX6_withOneMore_6 : decode cX6_withOneMore 6 = .ok (.iconst 0, 1) := by decide +kernel
theorem dX6_withOneMore_7 : decode cX6_withOneMore 7 = .ok (.istore_n 3, 1) := by decide +kernel
theorem dX6_withOneMore_8 : decode cX6_withOneMore 8 = .ok (.iload_n 3, 1) := by decide +kernel
theorem dX6_withOneMore_9 : decode cX6_withOneMore 9 = .ok (.iconst 3, 1) := by decide +kernel
theorem dX6_withOneMore_10 : decode cX6_withOneMore 10 = .ok (.if_icmp .ge 19, 3) := by decide +kernel
theorem dX6_withOneMore_13 : decode cX6_withOneMore 13 = .ok (.iload_n 0, 1) := by decide +kernel
theorem dX6_withOneMore_14 : decode cX6_withOneMore 14 = .ok (.iload_n 2, 1) := by decide +kernel
theorem dX6_withOneMore_15 : decode cX6_withOneMore 15 = .ok (.iand, 1) := by decide +kernel
theorem dX6_withOneMore_16 : decode cX6_withOneMore 16 = .ok (.ifCond .eq 13, 3) := by decide +kernel
theorem dX6_withOneMore_19 : decode cX6_withOneMore 19 = .ok (.iload_n 2, 1) := by decide +kernel
theorem dX6_withOneMore_20 : decode cX6_withOneMore 20 = .ok (.iconst 1, 1) := by decide +kernel
theorem dX6_withOneMore_21 : decode cX6_withOneMore 21 = .ok (.ishl, 1) := by decide +kernel
theorem dX6_withOneMore_22 : decode cX6_withOneMore 22 = .ok (.istore_n 2, 1) := by decide +kernel
theorem dX6_withOneMore_23 : decode cX6_withOneMore 23 = .ok (.iinc 3 1, 3) := by decide +kernel
theorem dX6_withOneMore_26 : decode cX6_withOneMore 26 = .ok (.goto (-18), 3) := by decide +kernel
theorem dX6_withOneMore_29 : decode cX6_withOneMore 29 = .ok (.iload_n 0, 1) := by decide +kernel
theorem dX6_withOneMore_30 : decode cX6_withOneMore 30 = .ok (.iload_n 2, 1) := by decide +kernel
theorem dX6_withOneMore_31 : decode cX6_withOneMore 31 = .ok (.ior, 1) := by decide +kernel
theorem dX6_withOneMore_32 : decode cX6_withOneMore 32 = .ok (.ireturn, 1) := by decide +kernel
theorem dX6_colour_0 : decode cX6_colour 0 = .ok (.aload_n 0, 1) := by decide +kernel
theorem dX6_colour_1 : decode cX6_colour 1 = .ok (.getfield 25, 3) := by decide +kernel
theorem dX6_colour_4 : decode cX6_colour 4 = .ok (.iconst 1, 1) := by decide +kernel
theorem dX6_colour_5 : decode cX6_colour 5 = .ok (.if_icmp .ge 5, 3) := by decide +kernel
theorem dX6_colour_8 : decode cX6_colour 8 = .ok (.iconst (-1), 1) := by decide +kernel
theorem dX6_colour_9 : decode cX6_colour 9 = .ok (.ireturn, 1) := by decide +kernel
theorem dX6_colour_10 : decode cX6_colour 10 = .ok (.iload_n 1, 1) := by decide +kernel
theorem dX6_colour_11 : decode cX6_colour 11 = .ok (.istore_n 3, 1) := by decide +kernel
theorem dX6_colour_12 : decode cX6_colour 12 = .ok (.aload_n 0, 1) := by decide +kernel
theorem dX6_colour_13 : decode cX6_colour 13 = .ok (.getfield 21, 3) := by decide +kernel
theorem dX6_colour_16 : decode cX6_colour 16 = .ok (.iconst 1, 1) := by decide +kernel
theorem dX6_colour_17 : decode cX6_colour 17 = .ok (.isub, 1) := by decide +kernel
theorem dX6_colour_18 : decode cX6_colour 18 = .ok (.istore 4, 2) := by decide +kernel
theorem dX6_colour_20 : decode cX6_colour 20 = .ok (.iload 4, 2) := by decide +kernel
theorem dX6_colour_22 : decode cX6_colour 22 = .ok (.iload_n 2, 1) := by decide +kernel
theorem dX6_colour_23 : decode cX6_colour 23 = .ok (.if_icmp .le 16, 3) := by decide +kernel
theorem dX6_colour_26 : decode cX6_colour 26 = .ok (.iload_n 3, 1) := by decide +kernel
theorem dX6_colour_27 : decode cX6_colour 27 = .ok (.aload_n 0, 1) := by decide +kernel
theorem dX6_colour_28 : decode cX6_colour 28 = .ok (.getfield 25, 3) := by decide +kernel
theorem dX6_colour_31 : decode cX6_colour 31 = .ok (.idiv, 1) := by decide +kernel
theorem dX6_colour_32 : decode cX6_colour 32 = .ok (.istore_n 3, 1) := by decide +kernel
theorem dX6_colour_33 : decode cX6_colour 33 = .ok (.iinc 4 (-1), 3) := by decide +kernel
theorem dX6_colour_36 : decode cX6_colour 36 = .ok (.goto (-16), 3) := by decide +kernel
theorem dX6_colour_39 : decode cX6_colour 39 = .ok (.iload_n 3, 1) := by decide +kernel
theorem dX6_colour_40 : decode cX6_colour 40 = .ok (.aload_n 0, 1) := by decide +kernel
theorem dX6_colour_41 : decode cX6_colour 41 = .ok (.getfield 25, 3) := by decide +kernel
theorem dX6_colour_44 : decode cX6_colour 44 = .ok (.irem, 1) := by decide +kernel
theorem dX6_colour_45 : decode cX6_colour 45 = .ok (.ireturn, 1) := by decide +kernel
theorem dX6_right_0 : decode cX6_right 0 = .ok (.aload_n 0, 1) := by decide +kernel
theorem dX6_right_1 : decode cX6_right 1 = .ok (.getfield 9, 3) := by decide +kernel
theorem dX6_right_4 : decode cX6_right 4 = .ok (.iload_n 1, 1) := by decide +kernel
theorem dX6_right_5 : decode cX6_right 5 = .ok (.iaload, 1) := by decide +kernel
theorem dX6_right_6 : decode cX6_right 6 = .ok (.aload_n 0, 1) := by decide +kernel
theorem dX6_right_7 : decode cX6_right 7 = .ok (.getfield 9, 3) := by decide +kernel
theorem dX6_right_10 : decode cX6_right 10 = .ok (.iload_n 2, 1) := by decide +kernel
theorem dX6_right_11 : decode cX6_right 11 = .ok (.iaload, 1) := by decide +kernel
theorem dX6_right_12 : decode cX6_right 12 = .ok (.iand, 1) := by decide +kernel
theorem dX6_right_13 : decode cX6_right 13 = .ok (.invokestatic 42, 3) := by decide +kernel
theorem dX6_right_16 : decode cX6_right 16 = .ok (.ireturn, 1) := by decide +kernel
theorem dX6_rightFromOtherEnd_0 : decode cX6_rightFromOtherEnd 0 = .ok (.aload_n 0, 1) := by decide +kernel
theorem dX6_rightFromOtherEnd_1 : decode cX6_rightFromOtherEnd 1 = .ok (.getfield 15, 3) := by decide +kernel
theorem dX6_rightFromOtherEnd_4 : decode cX6_rightFromOtherEnd 4 = .ok (.iload_n 1, 1) := by decide +kernel
theorem dX6_rightFromOtherEnd_5 : decode cX6_rightFromOtherEnd 5 = .ok (.iaload, 1) := by decide +kernel
theorem dX6_rightFromOtherEnd_6 : decode cX6_rightFromOtherEnd 6 = .ok (.aload_n 0, 1) := by decide +kernel
theorem dX6_rightFromOtherEnd_7 : decode cX6_rightFromOtherEnd 7 = .ok (.getfield 9, 3) := by decide +kernel
theorem dX6_rightFromOtherEnd_10 : decode cX6_rightFromOtherEnd 10 = .ok (.iload_n 2, 1) := by decide +kernel
theorem dX6_rightFromOtherEnd_11 : decode cX6_rightFromOtherEnd 11 = .ok (.iaload, 1) := by decide +kernel
theorem dX6_rightFromOtherEnd_12 : decode cX6_rightFromOtherEnd 12 = .ok (.iand, 1) := by decide +kernel
theorem dX6_rightFromOtherEnd_13 : decode cX6_rightFromOtherEnd 13 = .ok (.invokestatic 42, 3) := by decide +kernel
theorem dX6_rightFromOtherEnd_16 : decode cX6_rightFromOtherEnd 16 = .ok (.ireturn, 1) := by decide +kernel
theorem dX6_alike_0 : decode cX6_alike 0 = .ok (.aload_n 0, 1) := by decide +kernel
theorem dX6_alike_1 : decode cX6_alike 1 = .ok (.getfield 18, 3) := by decide +kernel
theorem dX6_alike_4 : decode cX6_alike 4 = .ok (.iload_n 1, 1) := by decide +kernel
theorem dX6_alike_5 : decode cX6_alike 5 = .ok (.iaload, 1) := by decide +kernel
theorem dX6_alike_6 : decode cX6_alike 6 = .ok (.aload_n 0, 1) := by decide +kernel
theorem dX6_alike_7 : decode cX6_alike 7 = .ok (.getfield 18, 3) := by decide +kernel
theorem dX6_alike_10 : decode cX6_alike 10 = .ok (.iload_n 2, 1) := by decide +kernel
theorem dX6_alike_11 : decode cX6_alike 11 = .ok (.iaload, 1) := by decide +kernel
theorem dX6_alike_12 : decode cX6_alike 12 = .ok (.iand, 1) := by decide +kernel
theorem dX6_alike_13 : decode cX6_alike 13 = .ok (.invokestatic 42, 3) := by decide +kernel
theorem dX6_alike_16 : decode cX6_alike 16 = .ok (.ireturn, 1) := by decide +kernel
theorem dX6_twins_0 : decode cX6_twins 0 = .ok (.iconst 0, 1) := by decide +kernel
theorem dX6_twins_1 : decode cX6_twins 1 = .ok (.istore_n 2, 1) := by decide +kernel
theorem dX6_twins_2 : decode cX6_twins 2 = .ok (.iload_n 2, 1) := by decide +kernel
theorem dX6_twins_3 : decode cX6_twins 3 = .ok (.aload_n 0, 1) := by decide +kernel
theorem dX6_twins_4 : decode cX6_twins 4 = .ok (.getfield 28, 3) := by decide +kernel
theorem dX6_twins_7 : decode cX6_twins 7 = .ok (.if_icmp .ge 45, 3) := by decide +kernel
theorem dX6_twins_10 : decode cX6_twins 10 = .ok (.iload_n 2, 1) := by decide +kernel
theorem dX6_twins_11 : decode cX6_twins 11 = .ok (.iconst 1, 1) := by decide +kernel
theorem dX6_twins_12 : decode cX6_twins 12 = .ok (.iadd, 1) := by decide +kernel
theorem dX6_twins_13 : decode cX6_twins 13 = .ok (.istore_n 3, 1) := by decide +kernel
theorem dX6_twins_14 : decode cX6_twins 14 = .ok (.iload_n 3, 1) := by decide +kernel
theorem dX6_twins_15 : decode cX6_twins 15 = .ok (.aload_n 0, 1) := by decide +kernel
theorem dX6_twins_16 : decode cX6_twins 16 = .ok (.getfield 28, 3) := by decide +kernel
theorem dX6_twins_19 : decode cX6_twins 19 = .ok (.if_icmp .ge 27, 3) := by decide +kernel
theorem dX6_twins_22 : decode cX6_twins 22 = .ok (.aload_n 0, 1) := by decide +kernel
theorem dX6_twins_23 : decode cX6_twins 23 = .ok (.aload_n 1, 1) := by decide +kernel
theorem dX6_twins_24 : decode cX6_twins 24 = .ok (.iload_n 2, 1) := by decide +kernel
theorem dX6_twins_25 : decode cX6_twins 25 = .ok (.iload_n 3, 1) := by decide +kernel
theorem dX6_twins_26 : decode cX6_twins 26 = .ok (.invokevirtual 48, 3) := by decide +kernel
theorem dX6_twins_29 : decode cX6_twins 29 = .ok (.ifCond .eq 11, 3) := by decide +kernel
theorem dX6_twins_32 : decode cX6_twins 32 = .ok (.iload_n 2, 1) := by decide +kernel
theorem dX6_twins_33 : decode cX6_twins 33 = .ok (.sipush 1000, 3) := by decide +kernel
theorem dX6_twins_36 : decode cX6_twins 36 = .ok (.imul, 1) := by decide +kernel
theorem dX6_twins_37 : decode cX6_twins 37 = .ok (.iload_n 3, 1) := by decide +kernel
theorem dX6_twins_38 : decode cX6_twins 38 = .ok (.iadd, 1) := by decide +kernel
theorem dX6_twins_39 : decode cX6_twins 39 = .ok (.ireturn, 1) := by decide +kernel
theorem dX6_twins_40 : decode cX6_twins 40 = .ok (.iinc 3 1, 3) := by decide +kernel
theorem dX6_twins_43 : decode cX6_twins 43 = .ok (.goto (-29), 3) := by decide +kernel
theorem dX6_twins_46 : decode cX6_twins 46 = .ok (.iinc 2 1, 3) := by decide +kernel
theorem dX6_twins_49 : decode cX6_twins 49 = .ok (.goto (-47), 3) := by decide +kernel
theorem dX6_twins_52 : decode cX6_twins 52 = .ok (.iconst (-1), 1) := by decide +kernel
theorem dX6_twins_53 : decode cX6_twins 53 = .ok (.ireturn, 1) := by decide +kernel
theorem dX6_areTwins_0 : decode cX6_areTwins 0 = .ok (.iconst 0, 1) := by decide +kernel
theorem dX6_areTwins_1 : decode cX6_areTwins 1 = .ok (.istore 4, 2) := by decide +kernel
theorem dX6_areTwins_3 : decode cX6_areTwins 3 = .ok (.iload 4, 2) := by decide +kernel
theorem dX6_areTwins_5 : decode cX6_areTwins 5 = .ok (.aload_n 0, 1) := by decide +kernel
theorem dX6_areTwins_6 : decode cX6_areTwins 6 = .ok (.getfield 28, 3) := by decide +kernel
theorem dX6_areTwins_9 : decode cX6_areTwins 9 = .ok (.if_icmp .ge 59, 3) := by decide +kernel
theorem dX6_areTwins_12 : decode cX6_areTwins 12 = .ok (.iload_n 2, 1) := by decide +kernel
theorem dX6_areTwins_13 : decode cX6_areTwins 13 = .ok (.iload 4, 2) := by decide +kernel
theorem dX6_areTwins_15 : decode cX6_areTwins 15 = .ok (.iadd, 1) := by decide +kernel
theorem dX6_areTwins_16 : decode cX6_areTwins 16 = .ok (.aload_n 0, 1) := by decide +kernel
theorem dX6_areTwins_17 : decode cX6_areTwins 17 = .ok (.getfield 28, 3) := by decide +kernel
theorem dX6_areTwins_20 : decode cX6_areTwins 20 = .ok (.if_icmp .ge 10, 3) := by decide +kernel
theorem dX6_areTwins_23 : decode cX6_areTwins 23 = .ok (.iload_n 2, 1) := by decide +kernel
theorem dX6_areTwins_24 : decode cX6_areTwins 24 = .ok (.iload 4, 2) := by decide +kernel
theorem dX6_areTwins_26 : decode cX6_areTwins 26 = .ok (.iadd, 1) := by decide +kernel
theorem dX6_areTwins_27 : decode cX6_areTwins 27 = .ok (.goto 12, 3) := by decide +kernel
theorem dX6_areTwins_30 : decode cX6_areTwins 30 = .ok (.iload_n 2, 1) := by decide +kernel
theorem dX6_areTwins_31 : decode cX6_areTwins 31 = .ok (.iload 4, 2) := by decide +kernel
theorem dX6_areTwins_33 : decode cX6_areTwins 33 = .ok (.iadd, 1) := by decide +kernel
theorem dX6_areTwins_34 : decode cX6_areTwins 34 = .ok (.aload_n 0, 1) := by decide +kernel
theorem dX6_areTwins_35 : decode cX6_areTwins 35 = .ok (.getfield 28, 3) := by decide +kernel
theorem dX6_areTwins_38 : decode cX6_areTwins 38 = .ok (.isub, 1) := by decide +kernel
theorem dX6_areTwins_39 : decode cX6_areTwins 39 = .ok (.istore 5, 2) := by decide +kernel
theorem dX6_areTwins_41 : decode cX6_areTwins 41 = .ok (.aload_n 1, 1) := by decide +kernel
theorem dX6_areTwins_42 : decode cX6_areTwins 42 = .ok (.aload_n 0, 1) := by decide +kernel
theorem dX6_areTwins_43 : decode cX6_areTwins 43 = .ok (.iload 5, 2) := by decide +kernel
theorem dX6_areTwins_45 : decode cX6_areTwins 45 = .ok (.iload_n 2, 1) := by decide +kernel
theorem dX6_areTwins_46 : decode cX6_areTwins 46 = .ok (.invokevirtual 52, 3) := by decide +kernel
theorem dX6_areTwins_49 : decode cX6_areTwins 49 = .ok (.aload_n 1, 1) := by decide +kernel
theorem dX6_areTwins_50 : decode cX6_areTwins 50 = .ok (.aload_n 0, 1) := by decide +kernel
theorem dX6_areTwins_51 : decode cX6_areTwins 51 = .ok (.iload 5, 2) := by decide +kernel
theorem dX6_areTwins_53 : decode cX6_areTwins 53 = .ok (.iload_n 3, 1) := by decide +kernel
theorem dX6_areTwins_54 : decode cX6_areTwins 54 = .ok (.invokevirtual 52, 3) := by decide +kernel
theorem dX6_areTwins_57 : decode cX6_areTwins 57 = .ok (.if_icmp .eq 5, 3) := by decide +kernel
theorem dX6_areTwins_60 : decode cX6_areTwins 60 = .ok (.iconst 0, 1) := by decide +kernel
theorem dX6_areTwins_61 : decode cX6_areTwins 61 = .ok (.ireturn, 1) := by decide +kernel
theorem dX6_areTwins_62 : decode cX6_areTwins 62 = .ok (.iinc 4 1, 3) := by decide +kernel
theorem dX6_areTwins_65 : decode cX6_areTwins 65 = .ok (.goto (-62), 3) := by decide +kernel
theorem dX6_areTwins_68 : decode cX6_areTwins 68 = .ok (.iconst 1, 1) := by decide +kernel
theorem dX6_areTwins_69 : decode cX6_areTwins 69 = .ok (.ireturn, 1) := by decide +kernel
theorem dX7_init_0 : decode cX7_init 0 = .ok (.aload_n 0, 1) := by decide +kernel
theorem dX7_init_1 : decode cX7_init 1 = .ok (.invokespecial 1, 3) := by decide +kernel
theorem dX7_init_4 : decode cX7_init 4 = .ok (.return_, 1) := by decide +kernel
theorem dX7_word_0 : decode cX7_word 0 = .ok (.aload_n 1, 1) := by decide +kernel
theorem dX7_word_1 : decode cX7_word 1 = .ok (.iload_n 2, 1) := by decide +kernel
theorem dX7_word_2 : decode cX7_word 2 = .ok (.iload_n 3, 1) := by decide +kernel
theorem dX7_word_3 : decode cX7_word 3 = .ok (.invokevirtual 7, 3) := by decide +kernel
theorem dX7_word_6 : decode cX7_word 6 = .ok (.ireturn, 1) := by decide +kernel
theorem dX8_init_0 : decode cX8_init 0 = .ok (.aload_n 0, 1) := by decide +kernel
theorem dX8_init_1 : decode cX8_init 1 = .ok (.invokespecial 1, 3) := by decide +kernel
theorem dX8_init_4 : decode cX8_init 4 = .ok (.return_, 1) := by decide +kernel
theorem dX8_word_0 : decode cX8_word 0 = .ok (.aload_n 1, 1) := by decide +kernel
theorem dX8_word_1 : decode cX8_word 1 = .ok (.iload_n 2, 1) := by decide +kernel
theorem dX8_word_2 : decode cX8_word 2 = .ok (.iload_n 3, 1) := by decide +kernel
theorem dX8_word_3 : decode cX8_word 3 = .ok (.invokevirtual 7, 3) := by decide +kernel
theorem dX8_word_6 : decode cX8_word 6 = .ok (.ireturn, 1) := by decide +kernel
theorem dX9_init_0 : decode cX9_init 0 = .ok (.aload_n 0, 1) := by decide +kernel
theorem dX9_init_1 : decode cX9_init 1 = .ok (.invokespecial 1, 3) := by decide +kernel
theorem dX9_init_4 : decode cX9_init 4 = .ok (.aload_n 0, 1) := by decide +kernel
theorem dX9_init_5 : decode cX9_init 5 = .ok (.aload_n 1, 1) := by decide +kernel
theorem dX9_init_6 : decode cX9_init 6 = .ok (.putfield 7, 3) := by decide +kernel
theorem dX9_init_9 : decode cX9_init 9 = .ok (.aload_n 0, 1) := by decide +kernel
theorem dX9_init_10 : decode cX9_init 10 = .ok (.aload_n 2, 1) := by decide +kernel
theorem dX9_init_11 : decode cX9_init 11 = .ok (.putfield 13, 3) := by decide +kernel
theorem dX9_init_14 : decode cX9_init 14 = .ok (.return_, 1) := by decide +kernel
theorem dX9_play_0 : decode cX9_play 0 = .ok (.aload_n 0, 1) := by decide +kernel
theorem dX9_play_1 : decode cX9_play 1 = .ok (.iload_n 3, 1) := by decide +kernel
theorem dX9_play_2 : decode cX9_play 2 = .ok (.putfield 17, 3) := by decide +kernel
theorem dX9_play_5 : decode cX9_play 5 = .ok (.aload_n 0, 1) := by decide +kernel
theorem dX9_play_6 : decode cX9_play 6 = .ok (.iconst 0, 1) := by decide +kernel
theorem dX9_play_7 : decode cX9_play 7 = .ok (.putfield 21, 3) := by decide +kernel
theorem dX9_play_10 : decode cX9_play 10 = .ok (.aload_n 0, 1) := by decide +kernel
theorem dX9_play_11 : decode cX9_play 11 = .ok (.iconst 0, 1) := by decide +kernel
theorem dX9_play_12 : decode cX9_play 12 = .ok (.putfield 24, 3) := by decide +kernel
theorem dX9_play_15 : decode cX9_play 15 = .ok (.iconst 0, 1) := by decide +kernel
theorem dX9_play_16 : decode cX9_play 16 = .ok (.istore 4, 2) := by decide +kernel
theorem dX9_play_18 : decode cX9_play 18 = .ok (.iload 4, 2) := by decide +kernel
theorem dX9_play_20 : decode cX9_play 20 = .ok (.iload_n 2, 1) := by decide +kernel
theorem dX9_play_21 : decode cX9_play 21 = .ok (.if_icmp .ge 43, 3) := by decide +kernel
theorem dX9_play_24 : decode cX9_play 24 = .ok (.aload_n 0, 1) := by decide +kernel
theorem dX9_play_25 : decode cX9_play 25 = .ok (.aload_n 1, 1) := by decide +kernel
theorem dX9_play_26 : decode cX9_play 26 = .ok (.invokevirtual 27, 3) := by decide +kernel
theorem dX9_play_29 : decode cX9_play 29 = .ok (.istore 5, 2) := by decide +kernel
theorem dX9_play_31 : decode cX9_play 31 = .ok (.aload_n 0, 1) := by decide +kernel
theorem dX9_play_32 : decode cX9_play 32 = .ok (.dup, 1) := by decide +kernel
theorem dX9_play_33 : decode cX9_play 33 = .ok (.getfield 21, 3) := by decide +kernel
theorem dX9_play_36 : decode cX9_play 36 = .ok (.iload 5, 2) := by decide +kernel
theorem dX9_play_38 : decode cX9_play 38 = .ok (.iadd, 1) := by decide +kernel
theorem dX9_play_39 : decode cX9_play 39 = .ok (.putfield 21, 3) := by decide +kernel
theorem dX9_play_42 : decode cX9_play 42 = .ok (.iload 5, 2) := by decide +kernel
theorem dX9_play_44 : decode cX9_play 44 = .ok (.iconst 3, 1) := by decide +kernel
theorem dX9_play_45 : decode cX9_play 45 = .ok (.if_icmp .gt 13, 3) := by decide +kernel
theorem dX9_play_48 : decode cX9_play 48 = .ok (.aload_n 0, 1) := by decide +kernel
theorem dX9_play_49 : decode cX9_play 49 = .ok (.dup, 1) := by decide +kernel
theorem dX9_play_50 : decode cX9_play 50 = .ok (.getfield 24, 3) := by decide +kernel
theorem dX9_play_53 : decode cX9_play 53 = .ok (.iconst 1, 1) := by decide +kernel
theorem dX9_play_54 : decode cX9_play 54 = .ok (.iadd, 1) := by decide +kernel
theorem dX9_play_55 : decode cX9_play 55 = .ok (.putfield 24, 3) := by decide +kernel
theorem dX9_play_58 : decode cX9_play 58 = .ok (.iinc 4 1, 3) := by decide +kernel
theorem dX9_play_61 : decode cX9_play 61 = .ok (.goto (-43), 3) := by decide +kernel
theorem dX9_play_64 : decode cX9_play 64 = .ok (.return_, 1) := by decide +kernel
theorem dX9_playOne_0 : decode cX9_playOne 0 = .ok (.aload_n 0, 1) := by decide +kernel
theorem dX9_playOne_1 : decode cX9_playOne 1 = .ok (.aload_n 0, 1) := by decide +kernel
theorem dX9_playOne_2 : decode cX9_playOne 2 = .ok (.getfield 7, 3) := by decide +kernel
theorem dX9_playOne_5 : decode cX9_playOne 5 = .ok (.getfield 31, 3) := by decide +kernel
theorem dX9_playOne_8 : decode cX9_playOne 8 = .ok (.invokevirtual 36, 3) := by decide +kernel
theorem dX9_playOne_11 : decode cX9_playOne 11 = .ok (.istore_n 2, 1) := by decide +kernel
theorem dX9_playOne_12 : decode cX9_playOne 12 = .ok (.aload_n 0, 1) := by decide +kernel
theorem dX9_playOne_13 : decode cX9_playOne 13 = .ok (.getfield 13, 3) := by decide +kernel
theorem dX9_playOne_16 : decode cX9_playOne 16 = .ok (.invokevirtual 40, 3) := by decide +kernel
theorem dX9_playOne_19 : decode cX9_playOne 19 = .ok (.iconst 1, 1) := by decide +kernel
theorem dX9_playOne_20 : decode cX9_playOne 20 = .ok (.istore_n 3, 1) := by decide +kernel
theorem dX9_playOne_21 : decode cX9_playOne 21 = .ok (.iload_n 3, 1) := by decide +kernel
theorem dX9_playOne_22 : decode cX9_playOne 22 = .ok (.aload_n 0, 1) := by decide +kernel
theorem dX9_playOne_23 : decode cX9_playOne 23 = .ok (.getfield 7, 3) := by decide +kernel
theorem dX9_playOne_26 : decode cX9_playOne 26 = .ok (.getfield 31, 3) := by decide +kernel
theorem dX9_playOne_29 : decode cX9_playOne 29 = .ok (.if_icmp .gt 68, 3) := by decide +kernel
theorem dX9_playOne_32 : decode cX9_playOne 32 = .ok (.aload_n 0, 1) := by decide +kernel
theorem dX9_playOne_33 : decode cX9_playOne 33 = .ok (.getfield 13, 3) := by decide +kernel
theorem dX9_playOne_36 : decode cX9_playOne 36 = .ok (.getfield 45, 3) := by decide +kernel
theorem dX9_playOne_39 : decode cX9_playOne 39 = .ok (.aload_n 0, 1) := by decide +kernel
theorem dX9_playOne_40 : decode cX9_playOne 40 = .ok (.aload_n 0, 1) := by decide +kernel
theorem dX9_playOne_41 : decode cX9_playOne 41 = .ok (.getfield 13, 3) := by decide +kernel
theorem dX9_playOne_44 : decode cX9_playOne 44 = .ok (.getfield 49, 3) := by decide +kernel
theorem dX9_playOne_47 : decode cX9_playOne 47 = .ok (.invokevirtual 36, 3) := by decide +kernel
theorem dX9_playOne_50 : decode cX9_playOne 50 = .ok (.iaload, 1) := by decide +kernel
theorem dX9_playOne_51 : decode cX9_playOne 51 = .ok (.istore 4, 2) := by decide +kernel
theorem dX9_playOne_53 : decode cX9_playOne 53 = .ok (.iload 4, 2) := by decide +kernel
theorem dX9_playOne_55 : decode cX9_playOne 55 = .ok (.iload_n 2, 1) := by decide +kernel
theorem dX9_playOne_56 : decode cX9_playOne 56 = .ok (.if_icmp .ne 5, 3) := by decide +kernel
theorem dX9_playOne_59 : decode cX9_playOne 59 = .ok (.iload_n 3, 1) := by decide +kernel
theorem dX9_playOne_60 : decode cX9_playOne 60 = .ok (.ireturn, 1) := by decide +kernel
theorem dX9_playOne_61 : decode cX9_playOne 61 = .ok (.aload_n 0, 1) := by decide +kernel
theorem dX9_playOne_62 : decode cX9_playOne 62 = .ok (.getfield 13, 3) := by decide +kernel
theorem dX9_playOne_65 : decode cX9_playOne 65 = .ok (.aload_n 1, 1) := by decide +kernel
theorem dX9_playOne_66 : decode cX9_playOne 66 = .ok (.iload 4, 2) := by decide +kernel
theorem dX9_playOne_68 : decode cX9_playOne 68 = .ok (.aload_n 1, 1) := by decide +kernel
theorem dX9_playOne_69 : decode cX9_playOne 69 = .ok (.aload_n 0, 1) := by decide +kernel
theorem dX9_playOne_70 : decode cX9_playOne 70 = .ok (.getfield 7, 3) := by decide +kernel
theorem dX9_playOne_73 : decode cX9_playOne 73 = .ok (.iload 4, 2) := by decide +kernel
theorem dX9_playOne_75 : decode cX9_playOne 75 = .ok (.iload_n 2, 1) := by decide +kernel
theorem dX9_playOne_76 : decode cX9_playOne 76 = .ok (.invokevirtual 50, 3) := by decide +kernel
theorem dX9_playOne_79 : decode cX9_playOne 79 = .ok (.invokevirtual 56, 3) := by decide +kernel
theorem dX9_playOne_82 : decode cX9_playOne 82 = .ok (.aload_n 0, 1) := by decide +kernel
theorem dX9_playOne_83 : decode cX9_playOne 83 = .ok (.getfield 13, 3) := by decide +kernel
theorem dX9_playOne_86 : decode cX9_playOne 86 = .ok (.iload 4, 2) := by decide +kernel
theorem dX9_playOne_88 : decode cX9_playOne 88 = .ok (.invokevirtual 60, 3) := by decide +kernel
theorem dX9_playOne_91 : decode cX9_playOne 91 = .ok (.iinc 3 1, 3) := by decide +kernel
theorem dX9_playOne_94 : decode cX9_playOne 94 = .ok (.goto (-73), 3) := by decide +kernel
theorem dX9_playOne_97 : decode cX9_playOne 97 = .ok (.aload_n 0, 1) := by decide +kernel
theorem dX9_playOne_98 : decode cX9_playOne 98 = .ok (.getfield 7, 3) := by decide +kernel
theorem dX9_playOne_101 : decode cX9_playOne 101 = .ok (.getfield 31, 3) := by decide +kernel
theorem dX9_playOne_104 : decode cX9_playOne 104 = .ok (.ireturn, 1) := by decide +kernel
theorem dX9_draw_0 : decode cX9_draw 0 = .ok (.aload_n 0, 1) := by decide +kernel
theorem dX9_draw_1 : decode cX9_draw 1 = .ok (.ldc2_w 64, 3) := by decide +kernel
theorem dX9_draw_4 : decode cX9_draw 4 = .ok (.aload_n 0, 1) := by decide +kernel
theorem dX9_draw_5 : decode cX9_draw 5 = .ok (.getfield 17, 3) := by decide +kernel
theorem dX9_draw_8 : decode cX9_draw 8 = .ok (.i2l, 1) := by decide +kernel
theorem dX9_draw_9 : decode cX9_draw 9 = .ok (.lmul, 1) := by decide +kernel
theorem dX9_draw_10 : decode cX9_draw 10 = .ok (.ldc2_w 66, 3) := by decide +kernel
theorem dX9_draw_13 : decode cX9_draw 13 = .ok (.ladd, 1) := by decide +kernel
theorem dX9_draw_14 : decode cX9_draw 14 = .ok (.ldc2_w 68, 3) := by decide +kernel
theorem dX9_draw_17 : decode cX9_draw 17 = .ok (.land, 1) := by decide +kernel
theorem dX9_draw_18 : decode cX9_draw 18 = .ok (.l2i, 1) := by decide +kernel
theorem dX9_draw_19 : decode cX9_draw 19 = .ok (.putfield 17, 3) := by decide +kernel
theorem dX9_draw_22 : decode cX9_draw 22 = .ok (.iload_n 1, 1) := by decide +kernel
theorem dX9_draw_23 : decode cX9_draw 23 = .ok (.ifCond .le 15, 3) := by decide +kernel
theorem dX9_draw_26 : decode cX9_draw 26 = .ok (.aload_n 0, 1) := by decide +kernel
theorem dX9_draw_27 : decode cX9_draw 27 = .ok (.getfield 17, 3) := by decide +kernel
theorem dX9_draw_30 : decode cX9_draw 30 = .ok (.ldc 70, 2) := by decide +kernel
theorem dX9_draw_32 : decode cX9_draw 32 = .ok (.idiv, 1) := by decide +kernel
theorem dX9_draw_33 : decode cX9_draw 33 = .ok (.iload_n 1, 1) := by decide +kernel
theorem dX9_draw_34 : decode cX9_draw 34 = .ok (.irem, 1) := by decide +kernel
theorem dX9_draw_35 : decode cX9_draw 35 = .ok (.goto 4, 3) := by decide +kernel
theorem dX9_draw_38 : decode cX9_draw 38 = .ok (.iconst 0, 1) := by decide +kernel
theorem dX9_draw_39 : decode cX9_draw 39 = .ok (.ireturn, 1) := by decide +kernel
theorem dX10_init_0 : decode cX10_init 0 = .ok (.aload_n 0, 1) := by decide +kernel
theorem dX10_init_1 : decode cX10_init 1 = .ok (.invokespecial 1, 3) := by decide +kernel
theorem dX10_init_4 : decode cX10_init 4 = .ok (.return_, 1) := by decide +kernel
theorem dX10_word_0 : decode cX10_word 0 = .ok (.aload_n 1, 1) := by decide +kernel
theorem dX10_word_1 : decode cX10_word 1 = .ok (.iload_n 2, 1) := by decide +kernel
theorem dX10_word_2 : decode cX10_word 2 = .ok (.iload_n 3, 1) := by decide +kernel
theorem dX10_word_3 : decode cX10_word 3 = .ok (.invokevirtual 7, 3) := by decide +kernel
theorem dX10_word_6 : decode cX10_word 6 = .ok (.aload_n 1, 1) := by decide +kernel
theorem dX10_word_7 : decode cX10_word 7 = .ok (.iload_n 2, 1) := by decide +kernel
theorem dX10_word_8 : decode cX10_word 8 = .ok (.iload_n 3, 1) := by decide +kernel
theorem dX10_word_9 : decode cX10_word 9 = .ok (.invokevirtual 13, 3) := by decide +kernel
theorem dX10_word_12 : decode cX10_word 12 = .ok (.invokestatic 16, 3) := by decide +kernel
theorem dX10_word_15 : decode cX10_word 15 = .ok (.ireturn, 1) := by decide +kernel
