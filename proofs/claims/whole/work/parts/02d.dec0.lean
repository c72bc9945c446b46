theorem dX0_init_0 : decode cX0_init 0 = .ok (.aload_n 0, 1) := by decide +kernel
theorem dX0_init_1 : decode cX0_init 1 = .ok (.invokespecial 3, 3) := by decide +kernel
theorem dX0_init_4 : decode cX0_init 4 = .ok (.aload_n 0, 1) := by decide +kernel
theorem dX0_init_5 : decode cX0_init 5 = .ok (.bipush 64, 2) := by decide +kernel
theorem dX0_init_7 : decode cX0_init 7 = .ok (.newarray .int, 2) := by decide +kernel
theorem dX0_init_9 : decode cX0_init 9 = .ok (.putfield 9, 3) := by decide +kernel
theorem dX0_init_12 : decode cX0_init 12 = .ok (.aload_n 0, 1) := by decide +kernel
theorem dX0_init_13 : decode cX0_init 13 = .ok (.iconst 0, 1) := by decide +kernel
theorem dX0_init_14 : decode cX0_init 14 = .ok (.putfield 15, 3) := by decide +kernel
theorem dX0_init_17 : decode cX0_init 17 = .ok (.aload_n 0, 1) := by decide +kernel
theorem dX0_init_18 : decode cX0_init 18 = .ok (.iconst 0, 1) := by decide +kernel
theorem dX0_init_19 : decode cX0_init 19 = .ok (.putfield 19, 3) := by decide +kernel
theorem dX0_init_22 : decode cX0_init 22 = .ok (.aload_n 0, 1) := by decide +kernel
theorem dX0_init_23 : decode cX0_init 23 = .ok (.bipush 9, 2) := by decide +kernel
theorem dX0_init_25 : decode cX0_init 25 = .ok (.newarray .int, 2) := by decide +kernel
theorem dX0_init_27 : decode cX0_init 27 = .ok (.putfield 23, 3) := by decide +kernel
theorem dX0_init_30 : decode cX0_init 30 = .ok (.aload_n 0, 1) := by decide +kernel
theorem dX0_init_31 : decode cX0_init 31 = .ok (.bipush 6, 2) := by decide +kernel
theorem dX0_init_33 : decode cX0_init 33 = .ok (.newarray .int, 2) := by decide +kernel
theorem dX0_init_35 : decode cX0_init 35 = .ok (.putfield 26, 3) := by decide +kernel
theorem dX0_init_38 : decode cX0_init 38 = .ok (.aload_n 0, 1) := by decide +kernel
theorem dX0_init_39 : decode cX0_init 39 = .ok (.iconst 0, 1) := by decide +kernel
theorem dX0_init_40 : decode cX0_init 40 = .ok (.putfield 29, 3) := by decide +kernel
theorem dX0_init_43 : decode cX0_init 43 = .ok (.return_, 1) := by decide +kernel
theorem dX0_ask_0 : decode cX0_ask 0 = .ok (.aload_n 0, 1) := by decide +kernel
theorem dX0_ask_1 : decode cX0_ask 1 = .ok (.aload_n 1, 1) := by decide +kernel
theorem dX0_ask_2 : decode cX0_ask 2 = .ok (.iload_n 2, 1) := by decide +kernel
theorem dX0_ask_3 : decode cX0_ask 3 = .ok (.invokevirtual 32, 3) := by decide +kernel
theorem dX0_ask_6 : decode cX0_ask 6 = .ok (.putfield 29, 3) := by decide +kernel
theorem dX0_ask_9 : decode cX0_ask 9 = .ok (.aload_n 0, 1) := by decide +kernel
theorem dX0_ask_10 : decode cX0_ask 10 = .ok (.aload_n 1, 1) := by decide +kernel
theorem dX0_ask_11 : decode cX0_ask 11 = .ok (.iload_n 2, 1) := by decide +kernel
theorem dX0_ask_12 : decode cX0_ask 12 = .ok (.invokevirtual 38, 3) := by decide +kernel
theorem dX0_ask_15 : decode cX0_ask 15 = .ok (.aload_n 0, 1) := by decide +kernel
theorem dX0_ask_16 : decode cX0_ask 16 = .ok (.getfield 26, 3) := by decide +kernel
theorem dX0_ask_19 : decode cX0_ask 19 = .ok (.iconst 0, 1) := by decide +kernel
theorem dX0_ask_20 : decode cX0_ask 20 = .ok (.invokestatic 42, 3) := by decide +kernel
theorem dX0_ask_23 : decode cX0_ask 23 = .ok (.aload_n 0, 1) := by decide +kernel
theorem dX0_ask_24 : decode cX0_ask 24 = .ok (.getfield 26, 3) := by decide +kernel
theorem dX0_ask_27 : decode cX0_ask 27 = .ok (.iconst 5, 1) := by decide +kernel
theorem dX0_ask_28 : decode cX0_ask 28 = .ok (.bipush 100, 2) := by decide +kernel
theorem dX0_ask_30 : decode cX0_ask 30 = .ok (.iastore, 1) := by decide +kernel
theorem dX0_ask_31 : decode cX0_ask 31 = .ok (.iconst 0, 1) := by decide +kernel
theorem dX0_ask_32 : decode cX0_ask 32 = .ok (.istore_n 3, 1) := by decide +kernel
theorem dX0_ask_33 : decode cX0_ask 33 = .ok (.iload_n 3, 1) := by decide +kernel
theorem dX0_ask_34 : decode cX0_ask 34 = .ok (.aload_n 1, 1) := by decide +kernel
theorem dX0_ask_35 : decode cX0_ask 35 = .ok (.getfield 48, 3) := by decide +kernel
theorem dX0_ask_38 : decode cX0_ask 38 = .ok (.invokevirtual 52, 3) := by decide +kernel
theorem dX0_ask_41 : decode cX0_ask 41 = .ok (.if_icmp .ge 18, 3) := by decide +kernel
theorem dX0_ask_44 : decode cX0_ask 44 = .ok (.aload_n 0, 1) := by decide +kernel
theorem dX0_ask_45 : decode cX0_ask 45 = .ok (.aload_n 1, 1) := by decide +kernel
theorem dX0_ask_46 : decode cX0_ask 46 = .ok (.getfield 48, 3) := by decide +kernel
theorem dX0_ask_49 : decode cX0_ask 49 = .ok (.iload_n 3, 1) := by decide +kernel
theorem dX0_ask_50 : decode cX0_ask 50 = .ok (.invokevirtual 58, 3) := by decide +kernel
theorem dX0_ask_53 : decode cX0_ask 53 = .ok (.iinc 3 1, 3) := by decide +kernel
theorem dX0_ask_56 : decode cX0_ask 56 = .ok (.goto (-23), 3) := by decide +kernel
theorem dX0_ask_59 : decode cX0_ask 59 = .ok (.return_, 1) := by decide +kernel
theorem dX0_weightOf_0 : decode cX0_weightOf 0 = .ok (.iload_n 1, 1) := by decide +kernel
theorem dX0_weightOf_1 : decode cX0_weightOf 1 = .ok (.ifCond .lt 24, 3) := by decide +kernel
theorem dX0_weightOf_4 : decode cX0_weightOf 4 = .ok (.iload_n 1, 1) := by decide +kernel
theorem dX0_weightOf_5 : decode cX0_weightOf 5 = .ok (.iconst 5, 1) := by decide +kernel
theorem dX0_weightOf_6 : decode cX0_weightOf 6 = .ok (.if_icmp .ge 19, 3) := by decide +kernel
theorem dX0_weightOf_9 : decode cX0_weightOf 9 = .ok (.aload_n 0, 1) := by decide +kernel
theorem dX0_weightOf_10 : decode cX0_weightOf 10 = .ok (.getfield 29, 3) := by decide +kernel
theorem dX0_weightOf_13 : decode cX0_weightOf 13 = .ok (.iload_n 1, 1) := by decide +kernel
theorem dX0_weightOf_14 : decode cX0_weightOf 14 = .ok (.ishr, 1) := by decide +kernel
theorem dX0_weightOf_15 : decode cX0_weightOf 15 = .ok (.iconst 1, 1) := by decide +kernel
theorem dX0_weightOf_16 : decode cX0_weightOf 16 = .ok (.iand, 1) := by decide +kernel
theorem dX0_weightOf_17 : decode cX0_weightOf 17 = .ok (.iconst 1, 1) := by decide +kernel
theorem dX0_weightOf_18 : decode cX0_weightOf 18 = .ok (.if_icmp .ne 7, 3) := by decide +kernel
theorem dX0_weightOf_21 : decode cX0_weightOf 21 = .ok (.iconst 1, 1) := by decide +kernel
theorem dX0_weightOf_22 : decode cX0_weightOf 22 = .ok (.goto 4, 3) := by decide +kernel
theorem dX0_weightOf_25 : decode cX0_weightOf 25 = .ok (.iconst 0, 1) := by decide +kernel
theorem dX0_weightOf_26 : decode cX0_weightOf 26 = .ok (.istore_n 2, 1) := by decide +kernel
theorem dX0_weightOf_27 : decode cX0_weightOf 27 = .ok (.iload_n 2, 1) := by decide +kernel
theorem dX0_weightOf_28 : decode cX0_weightOf 28 = .ok (.ifCond .eq 12, 3) := by decide +kernel
theorem dX0_weightOf_31 : decode cX0_weightOf 31 = .ok (.aload_n 0, 1) := by decide +kernel
theorem dX0_weightOf_32 : decode cX0_weightOf 32 = .ok (.getfield 26, 3) := by decide +kernel
theorem dX0_weightOf_35 : decode cX0_weightOf 35 = .ok (.iload_n 1, 1) := by decide +kernel
theorem dX0_weightOf_36 : decode cX0_weightOf 36 = .ok (.iaload, 1) := by decide +kernel
theorem dX0_weightOf_37 : decode cX0_weightOf 37 = .ok (.goto 4, 3) := by decide +kernel
theorem dX0_weightOf_40 : decode cX0_weightOf 40 = .ok (.iconst 0, 1) := by decide +kernel
theorem dX0_weightOf_41 : decode cX0_weightOf 41 = .ok (.ireturn, 1) := by decide +kernel
theorem dX0_weightOfAll_0 : decode cX0_weightOfAll 0 = .ok (.iconst 0, 1) := by decide +kernel
theorem dX0_weightOfAll_1 : decode cX0_weightOfAll 1 = .ok (.istore_n 1, 1) := by decide +kernel
theorem dX0_weightOfAll_2 : decode cX0_weightOfAll 2 = .ok (.iconst 0, 1) := by decide +kernel
theorem dX0_weightOfAll_3 : decode cX0_weightOfAll 3 = .ok (.istore_n 2, 1) := by decide +kernel
theorem dX0_weightOfAll_4 : decode cX0_weightOfAll 4 = .ok (.iload_n 2, 1) := by decide +kernel
theorem dX0_weightOfAll_5 : decode cX0_weightOfAll 5 = .ok (.iconst 5, 1) := by decide +kernel
theorem dX0_weightOfAll_6 : decode cX0_weightOfAll 6 = .ok (.if_icmp .ge 17, 3) := by decide +kernel
theorem dX0_weightOfAll_9 : decode cX0_weightOfAll 9 = .ok (.iload_n 1, 1) := by decide +kernel
theorem dX0_weightOfAll_10 : decode cX0_weightOfAll 10 = .ok (.aload_n 0, 1) := by decide +kernel
theorem dX0_weightOfAll_11 : decode cX0_weightOfAll 11 = .ok (.iload_n 2, 1) := by decide +kernel
theorem dX0_weightOfAll_12 : decode cX0_weightOfAll 12 = .ok (.invokevirtual 62, 3) := by decide +kernel
theorem dX0_weightOfAll_15 : decode cX0_weightOfAll 15 = .ok (.iadd, 1) := by decide +kernel
theorem dX0_weightOfAll_16 : decode cX0_weightOfAll 16 = .ok (.istore_n 1, 1) := by decide +kernel
theorem dX0_weightOfAll_17 : decode cX0_weightOfAll 17 = .ok (.iinc 2 1, 3) := by decide +kernel
theorem dX0_weightOfAll_20 : decode cX0_weightOfAll 20 = .ok (.goto (-16), 3) := by decide +kernel
theorem dX0_weightOfAll_23 : decode cX0_weightOfAll 23 = .ok (.iload_n 1, 1) := by decide +kernel
theorem dX0_weightOfAll_24 : decode cX0_weightOfAll 24 = .ok (.ireturn, 1) := by decide +kernel
theorem dX0_likeliestCause_0 : decode cX0_likeliestCause 0 = .ok (.iconst (-1), 1) := by decide +kernel
theorem dX0_likeliestCause_1 : decode cX0_likeliestCause 1 = .ok (.istore_n 1, 1) := by decide +kernel
theorem dX0_likeliestCause_2 : decode cX0_likeliestCause 2 = .ok (.iconst 0, 1) := by decide +kernel
theorem dX0_likeliestCause_3 : decode cX0_likeliestCause 3 = .ok (.istore_n 2, 1) := by decide +kernel
theorem dX0_likeliestCause_4 : decode cX0_likeliestCause 4 = .ok (.iconst 0, 1) := by decide +kernel
theorem dX0_likeliestCause_5 : decode cX0_likeliestCause 5 = .ok (.istore_n 3, 1) := by decide +kernel
theorem dX0_likeliestCause_6 : decode cX0_likeliestCause 6 = .ok (.iload_n 3, 1) := by decide +kernel
theorem dX0_likeliestCause_7 : decode cX0_likeliestCause 7 = .ok (.iconst 5, 1) := by decide +kernel
theorem dX0_likeliestCause_8 : decode cX0_likeliestCause 8 = .ok (.if_icmp .ge 26, 3) := by decide +kernel
theorem dX0_likeliestCause_11 : decode cX0_likeliestCause 11 = .ok (.aload_n 0, 1) := by decide +kernel
theorem dX0_likeliestCause_12 : decode cX0_likeliestCause 12 = .ok (.iload_n 3, 1) := by decide +kernel
theorem dX0_likeliestCause_13 : decode cX0_likeliestCause 13 = .ok (.invokevirtual 62, 3) := by decide +kernel
theorem dX0_likeliestCause_16 : decode cX0_likeliestCause 16 = .ok (.iload_n 2, 1) := by decide +kernel
theorem dX0_likeliestCause_17 : decode cX0_likeliestCause 17 = .ok (.if_icmp .le 11, 3) := by decide +kernel
theorem dX0_likeliestCause_20 : decode cX0_likeliestCause 20 = .ok (.iload_n 3, 1) := by decide +kernel
theorem dX0_likeliestCause_21 : decode cX0_likeliestCause 21 = .ok (.istore_n 1, 1) := by decide +kernel
theorem dX0_likeliestCause_22 : decode cX0_likeliestCause 22 = .ok (.aload_n 0, 1) := by decide +kernel
theorem dX0_likeliestCause_23 : decode cX0_likeliestCause 23 = .ok (.iload_n 3, 1) := by decide +kernel
theorem dX0_likeliestCause_24 : decode cX0_likeliestCause 24 = .ok (.invokevirtual 62, 3) := by decide +kernel
theorem dX0_likeliestCause_27 : decode cX0_likeliestCause 27 = .ok (.istore_n 2, 1) := by decide +kernel
theorem dX0_likeliestCause_28 : decode cX0_likeliestCause 28 = .ok (.iinc 3 1, 3) := by decide +kernel
theorem dX0_likeliestCause_31 : decode cX0_likeliestCause 31 = .ok (.goto (-25), 3) := by decide +kernel
theorem dX0_likeliestCause_34 : decode cX0_likeliestCause 34 = .ok (.iload_n 1, 1) := by decide +kernel
theorem dX0_likeliestCause_35 : decode cX0_likeliestCause 35 = .ok (.ireturn, 1) := by decide +kernel
theorem dX0_hundredths_0 : decode cX0_hundredths 0 = .ok (.aload_n 0, 1) := by decide +kernel
theorem dX0_hundredths_1 : decode cX0_hundredths 1 = .ok (.getfield 26, 3) := by decide +kernel
theorem dX0_hundredths_4 : decode cX0_hundredths 4 = .ok (.iconst 5, 1) := by decide +kernel
theorem dX0_hundredths_5 : decode cX0_hundredths 5 = .ok (.iaload, 1) := by decide +kernel
theorem dX0_hundredths_6 : decode cX0_hundredths 6 = .ok (.ireturn, 1) := by decide +kernel
theorem dX0_setWords_0 : decode cX0_setWords 0 = .ok (.aload_n 1, 1) := by decide +kernel
theorem dX0_setWords_1 : decode cX0_setWords 1 = .ok (.getfield 65, 3) := by decide +kernel
theorem dX0_setWords_4 : decode cX0_setWords 4 = .ok (.iload_n 2, 1) := by decide +kernel
theorem dX0_setWords_5 : decode cX0_setWords 5 = .ok (.iconst 0, 1) := by decide +kernel
theorem dX0_setWords_6 : decode cX0_setWords 6 = .ok (.invokevirtual 69, 3) := by decide +kernel
theorem dX0_setWords_9 : decode cX0_setWords 9 = .ok (.istore_n 3, 1) := by decide +kernel
theorem dX0_setWords_10 : decode cX0_setWords 10 = .ok (.aload_n 0, 1) := by decide +kernel
theorem dX0_setWords_11 : decode cX0_setWords 11 = .ok (.getfield 23, 3) := by decide +kernel
theorem dX0_setWords_14 : decode cX0_setWords 14 = .ok (.iconst 0, 1) := by decide +kernel
theorem dX0_setWords_15 : decode cX0_setWords 15 = .ok (.aload_n 1, 1) := by decide +kernel
theorem dX0_setWords_16 : decode cX0_setWords 16 = .ok (.getfield 65, 3) := by decide +kernel
theorem dX0_setWords_19 : decode cX0_setWords 19 = .ok (.iload_n 2, 1) := by decide +kernel
theorem dX0_setWords_20 : decode cX0_setWords 20 = .ok (.iconst 4, 1) := by decide +kernel
theorem dX0_setWords_21 : decode cX0_setWords 21 = .ok (.invokevirtual 69, 3) := by decide +kernel
theorem dX0_setWords_24 : decode cX0_setWords 24 = .ok (.iastore, 1) := by decide +kernel
theorem dX0_setWords_25 : decode cX0_setWords 25 = .ok (.aload_n 0, 1) := by decide +kernel
theorem dX0_setWords_26 : decode cX0_setWords 26 = .ok (.getfield 23, 3) := by decide +kernel
theorem dX0_setWords_29 : decode cX0_setWords 29 = .ok (.iconst 1, 1) := by decide +kernel
theorem dX0_setWords_30 : decode cX0_setWords 30 = .ok (.aload_n 1, 1) := by decide +kernel
theorem dX0_setWords_31 : decode cX0_setWords 31 = .ok (.getfield 65, 3) := by decide +kernel
theorem dX0_setWords_34 : decode cX0_setWords 34 = .ok (.iload_n 2, 1) := by decide +kernel
theorem dX0_setWords_35 : decode cX0_setWords 35 = .ok (.iconst 5, 1) := by decide +kernel
theorem dX0_setWords_36 : decode cX0_setWords 36 = .ok (.invokevirtual 69, 3) := by decide +kernel
theorem dX0_setWords_39 : decode cX0_setWords 39 = .ok (.iastore, 1) := by decide +kernel
theorem dX0_setWords_40 : decode cX0_setWords 40 = .ok (.aload_n 0, 1) := by decide +kernel
theorem dX0_setWords_41 : decode cX0_setWords 41 = .ok (.getfield 23, 3) := by decide +kernel
theorem dX0_setWords_44 : decode cX0_setWords 44 = .ok (.iconst 2, 1) := by decide +kernel
theorem dX0_setWords_45 : decode cX0_setWords 45 = .ok (.aload_n 1, 1) := by decide +kernel
theorem dX0_setWords_46 : decode cX0_setWords 46 = .ok (.getfield 75, 3) := by decide +kernel
theorem dX0_setWords_49 : decode cX0_setWords 49 = .ok (.iload_n 3, 1) := by decide +kernel
theorem dX0_setWords_50 : decode cX0_setWords 50 = .ok (.iconst 0, 1) := by decide +kernel
theorem dX0_setWords_51 : decode cX0_setWords 51 = .ok (.invokevirtual 69, 3) := by decide +kernel
theorem dX0_setWords_54 : decode cX0_setWords 54 = .ok (.iastore, 1) := by decide +kernel
theorem dX0_setWords_55 : decode cX0_setWords 55 = .ok (.aload_n 0, 1) := by decide +kernel
theorem dX0_setWords_56 : decode cX0_setWords 56 = .ok (.getfield 23, 3) := by decide +kernel
theorem dX0_setWords_59 : decode cX0_setWords 59 = .ok (.iconst 3, 1) := by decide +kernel
theorem dX0_setWords_60 : decode cX0_setWords 60 = .ok (.aload_n 1, 1) := by decide +kernel
theorem dX0_setWords_61 : decode cX0_setWords 61 = .ok (.getfield 75, 3) := by decide +kernel
theorem dX0_setWords_64 : decode cX0_setWords 64 = .ok (.iload_n 3, 1) := by decide +kernel
theorem dX0_setWords_65 : decode cX0_setWords 65 = .ok (.iconst 1, 1) := by decide +kernel
theorem dX0_setWords_66 : decode cX0_setWords 66 = .ok (.invokevirtual 69, 3) := by decide +kernel
theorem dX0_setWords_69 : decode cX0_setWords 69 = .ok (.iastore, 1) := by decide +kernel
theorem dX0_setWords_70 : decode cX0_setWords 70 = .ok (.aload_n 0, 1) := by decide +kernel
theorem dX0_setWords_71 : decode cX0_setWords 71 = .ok (.getfield 23, 3) := by decide +kernel
theorem dX0_setWords_74 : decode cX0_setWords 74 = .ok (.iconst 4, 1) := by decide +kernel
theorem dX0_setWords_75 : decode cX0_setWords 75 = .ok (.aload_n 1, 1) := by decide +kernel
theorem dX0_setWords_76 : decode cX0_setWords 76 = .ok (.getfield 75, 3) := by decide +kernel
theorem dX0_setWords_79 : decode cX0_setWords 79 = .ok (.iload_n 3, 1) := by decide +kernel
theorem dX0_setWords_80 : decode cX0_setWords 80 = .ok (.iconst 2, 1) := by decide +kernel
theorem dX0_setWords_81 : decode cX0_setWords 81 = .ok (.invokevirtual 69, 3) := by decide +kernel
theorem dX0_setWords_84 : decode cX0_setWords 84 = .ok (.iastore, 1) := by decide +kernel
theorem dX0_setWords_85 : decode cX0_setWords 85 = .ok (.aload_n 0, 1) := by decide +kernel
theorem dX0_setWords_86 : decode cX0_setWords 86 = .ok (.getfield 23, 3) := by decide +kernel
theorem dX0_setWords_89 : decode cX0_setWords 89 = .ok (.iconst 5, 1) := by decide +kernel
theorem dX0_setWords_90 : decode cX0_setWords 90 = .ok (.aload_n 1, 1) := by decide +kernel
theorem dX0_setWords_91 : decode cX0_setWords 91 = .ok (.iload_n 2, 1) := by decide +kernel
theorem dX0_setWords_92 : decode cX0_setWords 92 = .ok (.invokevirtual 78, 3) := by decide +kernel
theorem dX0_setWords_95 : decode cX0_setWords 95 = .ok (.iastore, 1) := by decide +kernel
theorem dX0_setWords_96 : decode cX0_setWords 96 = .ok (.aload_n 0, 1) := by decide +kernel
theorem dX0_setWords_97 : decode cX0_setWords 97 = .ok (.getfield 23, 3) := by decide +kernel
theorem dX0_setWords_100 : decode cX0_setWords 100 = .ok (.bipush 6, 2) := by decide +kernel
theorem dX0_setWords_102 : decode cX0_setWords 102 = .ok (.aload_n 1, 1) := by decide +kernel
theorem dX0_setWords_103 : decode cX0_setWords 103 = .ok (.getfield 65, 3) := by decide +kernel
theorem dX0_setWords_106 : decode cX0_setWords 106 = .ok (.iload_n 2, 1) := by decide +kernel
theorem dX0_setWords_107 : decode cX0_setWords 107 = .ok (.iconst 2, 1) := by decide +kernel
theorem dX0_setWords_108 : decode cX0_setWords 108 = .ok (.invokevirtual 69, 3) := by decide +kernel
theorem dX0_setWords_111 : decode cX0_setWords 111 = .ok (.iastore, 1) := by decide +kernel
theorem dX0_setWords_112 : decode cX0_setWords 112 = .ok (.aload_n 0, 1) := by decide +kernel
theorem dX0_setWords_113 : decode cX0_setWords 113 = .ok (.getfield 23, 3) := by decide +kernel
theorem dX0_setWords_116 : decode cX0_setWords 116 = .ok (.bipush 7, 2) := by decide +kernel
theorem dX0_setWords_118 : decode cX0_setWords 118 = .ok (.aload_n 1, 1) := by decide +kernel
theorem dX0_setWords_119 : decode cX0_setWords 119 = .ok (.getfield 65, 3) := by decide +kernel
theorem dX0_setWords_122 : decode cX0_setWords 122 = .ok (.iload_n 2, 1) := by decide +kernel
theorem dX0_setWords_123 : decode cX0_setWords 123 = .ok (.iconst 1, 1) := by decide +kernel
theorem dX0_setWords_124 : decode cX0_setWords 124 = .ok (.invokevirtual 69, 3) := by decide +kernel
theorem dX0_setWords_127 : decode cX0_setWords 127 = .ok (.iastore, 1) := by decide +kernel
theorem dX0_setWords_128 : decode cX0_setWords 128 = .ok (.aload_n 0, 1) := by decide +kernel
theorem dX0_setWords_129 : decode cX0_setWords 129 = .ok (.getfield 23, 3) := by decide +kernel
theorem dX0_setWords_132 : decode cX0_setWords 132 = .ok (.bipush 8, 2) := by decide +kernel
theorem dX0_setWords_134 : decode cX0_setWords 134 = .ok (.aload_n 1, 1) := by decide +kernel
theorem dX0_setWords_135 : decode cX0_setWords 135 = .ok (.getfield 65, 3) := by decide +kernel
theorem dX0_setWords_138 : decode cX0_setWords 138 = .ok (.iload_n 2, 1) := by decide +kernel
theorem dX0_setWords_139 : decode cX0_setWords 139 = .ok (.bipush 6, 2) := by decide +kernel
theorem dX0_setWords_141 : decode cX0_setWords 141 = .ok (.invokevirtual 69, 3) := by decide +kernel
theorem dX0_setWords_144 : decode cX0_setWords 144 = .ok (.iload_n 3, 1) := by decide +kernel
theorem dX0_setWords_145 : decode cX0_setWords 145 = .ok (.isub, 1) := by decide +kernel
theorem dX0_setWords_146 : decode cX0_setWords 146 = .ok (.iastore, 1) := by decide +kernel
theorem dX0_setWords_147 : decode cX0_setWords 147 = .ok (.return_, 1) := by decide +kernel
theorem dX0_hear_0 : decode cX0_hear 0 = .ok (.aload_n 1, 1) := by decide +kernel
theorem dX0_hear_1 : decode cX0_hear 1 = .ok (.iload_n 2, 1) := by decide +kernel
theorem dX0_hear_2 : decode cX0_hear 2 = .ok (.invokevirtual 81, 3) := by decide +kernel
theorem dX0_hear_5 : decode cX0_hear 5 = .ok (.istore_n 3, 1) := by decide +kernel
theorem dX0_hear_6 : decode cX0_hear 6 = .ok (.aload_n 1, 1) := by decide +kernel
theorem dX0_hear_7 : decode cX0_hear 7 = .ok (.iload_n 2, 1) := by decide +kernel
theorem dX0_hear_8 : decode cX0_hear 8 = .ok (.invokevirtual 84, 3) := by decide +kernel
theorem dX0_hear_11 : decode cX0_hear 11 = .ok (.aload_n 1, 1) := by decide +kernel
theorem dX0_hear_12 : decode cX0_hear 12 = .ok (.iload_n 2, 1) := by decide +kernel
theorem dX0_hear_13 : decode cX0_hear 13 = .ok (.invokevirtual 87, 3) := by decide +kernel
theorem dX0_hear_16 : decode cX0_hear 16 = .ok (.if_icmp .ge 7, 3) := by decide +kernel
theorem dX0_hear_19 : decode cX0_hear 19 = .ok (.iconst 1, 1) := by decide +kernel
theorem dX0_hear_20 : decode cX0_hear 20 = .ok (.goto 4, 3) := by decide +kernel
theorem dX0_hear_23 : decode cX0_hear 23 = .ok (.iconst 0, 1) := by decide +kernel
theorem dX0_hear_24 : decode cX0_hear 24 = .ok (.istore 4, 2) := by decide +kernel
theorem dX0_hear_26 : decode cX0_hear 26 = .ok (.iload_n 3, 1) := by decide +kernel
theorem dX0_hear_27 : decode cX0_hear 27 = .ok (.ifCond .lt 8, 3) := by decide +kernel
theorem dX0_hear_30 : decode cX0_hear 30 = .ok (.iload_n 3, 1) := by decide +kernel
theorem dX0_hear_31 : decode cX0_hear 31 = .ok (.iconst 5, 1) := by decide +kernel
theorem dX0_hear_32 : decode cX0_hear 32 = .ok (.if_icmp .le 4, 3) := by decide +kernel
theorem dX0_hear_35 : decode cX0_hear 35 = .ok (.return_, 1) := by decide +kernel
theorem dX0_hear_36 : decode cX0_hear 36 = .ok (.iload 4, 2) := by decide +kernel
theorem dX0_hear_38 : decode cX0_hear 38 = .ok (.ifCond .eq 29, 3) := by decide +kernel
theorem dX0_hear_41 : decode cX0_hear 41 = .ok (.aload_n 0, 1) := by decide +kernel
theorem dX0_hear_42 : decode cX0_hear 42 = .ok (.aload_n 1, 1) := by decide +kernel
theorem dX0_hear_43 : decode cX0_hear 43 = .ok (.aload_n 1, 1) := by decide +kernel
theorem dX0_hear_44 : decode cX0_hear 44 = .ok (.iload_n 2, 1) := by decide +kernel
theorem dX0_hear_45 : decode cX0_hear 45 = .ok (.invokevirtual 84, 3) := by decide +kernel
theorem dX0_hear_48 : decode cX0_hear 48 = .ok (.aload_n 1, 1) := by decide +kernel
theorem dX0_hear_49 : decode cX0_hear 49 = .ok (.iload_n 2, 1) := by decide +kernel
theorem dX0_hear_50 : decode cX0_hear 50 = .ok (.invokevirtual 87, 3) := by decide +kernel
theorem dX0_hear_53 : decode cX0_hear 53 = .ok (.invokevirtual 90, 3) := by decide +kernel
theorem dX0_hear_56 : decode cX0_hear 56 = .ok (.ifCond .eq 10, 3) := by decide +kernel
theorem dX0_hear_59 : decode cX0_hear 59 = .ok (.aload_n 0, 1) := by decide +kernel
theorem dX0_hear_60 : decode cX0_hear 60 = .ok (.getfield 19, 3) := by decide +kernel
theorem dX0_hear_63 : decode cX0_hear 63 = .ok (.ifCond .eq 4, 3) := by decide +kernel
theorem dX0_hear_66 : decode cX0_hear 66 = .ok (.return_, 1) := by decide +kernel
theorem dX0_hear_67 : decode cX0_hear 67 = .ok (.aload_n 0, 1) := by decide +kernel
theorem dX0_hear_68 : decode cX0_hear 68 = .ok (.aload_n 1, 1) := by decide +kernel
theorem dX0_hear_69 : decode cX0_hear 69 = .ok (.aload_n 1, 1) := by decide +kernel
theorem dX0_hear_70 : decode cX0_hear 70 = .ok (.iload_n 2, 1) := by decide +kernel
theorem dX0_hear_71 : decode cX0_hear 71 = .ok (.invokevirtual 94, 3) := by decide +kernel
theorem dX0_hear_74 : decode cX0_hear 74 = .ok (.aload_n 1, 1) := by decide +kernel
theorem dX0_hear_75 : decode cX0_hear 75 = .ok (.iload_n 2, 1) := by decide +kernel
theorem dX0_hear_76 : decode cX0_hear 76 = .ok (.invokevirtual 84, 3) := by decide +kernel
theorem dX0_hear_79 : decode cX0_hear 79 = .ok (.invokevirtual 90, 3) := by decide +kernel
theorem dX0_hear_82 : decode cX0_hear 82 = .ok (.istore 5, 2) := by decide +kernel
theorem dX0_hear_84 : decode cX0_hear 84 = .ok (.aload_n 0, 1) := by decide +kernel
theorem dX0_hear_85 : decode cX0_hear 85 = .ok (.getfield 19, 3) := by decide +kernel
theorem dX0_hear_88 : decode cX0_hear 88 = .ok (.ifCond .ne 34, 3) := by decide +kernel
theorem dX0_hear_91 : decode cX0_hear 91 = .ok (.iload_n 3, 1) := by decide +kernel
theorem dX0_hear_92 : decode cX0_hear 92 = .ok (.iconst 5, 1) := by decide +kernel
theorem dX0_hear_93 : decode cX0_hear 93 = .ok (.if_icmp .ne 7, 3) := by decide +kernel
theorem dX0_hear_96 : decode cX0_hear 96 = .ok (.iconst 1, 1) := by decide +kernel
theorem dX0_hear_97 : decode cX0_hear 97 = .ok (.goto 4, 3) := by decide +kernel
theorem dX0_hear_100 : decode cX0_hear 100 = .ok (.iconst 0, 1) := by decide +kernel
theorem dX0_hear_101 : decode cX0_hear 101 = .ok (.istore 6, 2) := by decide +kernel
theorem dX0_hear_103 : decode cX0_hear 103 = .ok (.aload_n 0, 1) := by decide +kernel
theorem dX0_hear_104 : decode cX0_hear 104 = .ok (.getfield 26, 3) := by decide +kernel
theorem dX0_hear_107 : decode cX0_hear 107 = .ok (.iload_n 3, 1) := by decide +kernel
theorem dX0_hear_108 : decode cX0_hear 108 = .ok (.iload 6, 2) := by decide +kernel
theorem dX0_hear_110 : decode cX0_hear 110 = .ok (.iload 5, 2) := by decide +kernel
theorem dX0_hear_112 : decode cX0_hear 112 = .ok (.sipush 1000, 3) := by decide +kernel
theorem dX0_hear_115 : decode cX0_hear 115 = .ok (.invokestatic 97, 3) := by decide +kernel
theorem dX0_hear_118 : decode cX0_hear 118 = .ok (.invokestatic 102, 3) := by decide +kernel
theorem dX0_hear_121 : decode cX0_hear 121 = .ok (.iastore, 1) := by decide +kernel
theorem dX0_hear_122 : decode cX0_hear 122 = .ok (.return_, 1) := by decide +kernel
theorem dX0_work_0 : decode cX0_work 0 = .ok (.aload_n 0, 1) := by decide +kernel
theorem dX0_work_1 : decode cX0_work 1 = .ok (.iconst 0, 1) := by decide +kernel
theorem dX0_work_2 : decode cX0_work 2 = .ok (.putfield 15, 3) := by decide +kernel
theorem dX0_work_5 : decode cX0_work 5 = .ok (.aload_n 0, 1) := by decide +kernel
theorem dX0_work_6 : decode cX0_work 6 = .ok (.iconst 0, 1) := by decide +kernel
theorem dX0_work_7 : decode cX0_work 7 = .ok (.putfield 19, 3) := by decide +kernel
theorem dX0_work_10 : decode cX0_work 10 = .ok (.iload_n 2, 1) := by decide +kernel
theorem dX0_work_11 : decode cX0_work 11 = .ok (.istore 4, 2) := by decide +kernel
theorem dX0_work_13 : decode cX0_work 13 = .ok (.iload 4, 2) := by decide +kernel
theorem dX0_work_15 : decode cX0_work 15 = .ok (.iload_n 3, 1) := by decide +kernel
theorem dX0_work_16 : decode cX0_work 16 = .ok (.if_icmp .ge 195, 3) := by decide +kernel
theorem dX0_work_19 : decode cX0_work 19 = .ok (.aload_n 0, 1) := by decide +kernel
theorem dX0_work_20 : decode cX0_work 20 = .ok (.getfield 19, 3) := by decide +kernel
theorem dX0_work_23 : decode cX0_work 23 = .ok (.ifCond .ne 188, 3) := by decide +kernel
theorem dX0_work_26 : decode cX0_work 26 = .ok (.aload_n 1, 1) := by decide +kernel
theorem dX0_work_27 : decode cX0_work 27 = .ok (.iload 4, 2) := by decide +kernel
theorem dX0_work_29 : decode cX0_work 29 = .ok (.invokevirtual 105, 3) := by decide +kernel
theorem dX0_work_32 : decode cX0_work 32 = .ok (.istore 5, 2) := by decide +kernel
theorem dX0_work_34 : decode cX0_work 34 = .ok (.aload_n 1, 1) := by decide +kernel
theorem dX0_work_35 : decode cX0_work 35 = .ok (.iload 4, 2) := by decide +kernel
theorem dX0_work_37 : decode cX0_work 37 = .ok (.invokevirtual 108, 3) := by decide +kernel
theorem dX0_work_40 : decode cX0_work 40 = .ok (.istore 6, 2) := by decide +kernel
theorem dX0_work_42 : decode cX0_work 42 = .ok (.iload 6, 2) := by decide +kernel
theorem dX0_work_44 : decode cX0_work 44 = .ok (.tableswitch 155 0 11 #[64, 73, 155, 155, 155, 155, 155, 155, 155, 86, 105, 130], 64) := by decide +kernel
theorem dX0_work_108 : decode cX0_work 108 = .ok (.aload_n 0, 1) := by decide +kernel
theorem dX0_work_109 : decode cX0_work 109 = .ok (.iload 5, 2) := by decide +kernel
theorem dX0_work_111 : decode cX0_work 111 = .ok (.invokevirtual 111, 3) := by decide +kernel
theorem dX0_work_114 : decode cX0_work 114 = .ok (.goto 91, 3) := by decide +kernel
theorem dX0_work_117 : decode cX0_work 117 = .ok (.aload_n 0, 1) := by decide +kernel
theorem dX0_work_118 : decode cX0_work 118 = .ok (.aload_n 0, 1) := by decide +kernel
theorem dX0_work_119 : decode cX0_work 119 = .ok (.iload 5, 2) := by decide +kernel
theorem dX0_work_121 : decode cX0_work 121 = .ok (.invokevirtual 115, 3) := by decide +kernel
theorem dX0_work_124 : decode cX0_work 124 = .ok (.invokevirtual 111, 3) := by decide +kernel
theorem dX0_work_127 : decode cX0_work 127 = .ok (.goto 78, 3) := by decide +kernel
theorem dX0_work_130 : decode cX0_work 130 = .ok (.aload_n 0, 1) := by decide +kernel
theorem dX0_work_131 : decode cX0_work 131 = .ok (.aload_n 0, 1) := by decide +kernel
theorem dX0_work_132 : decode cX0_work 132 = .ok (.invokevirtual 118, 3) := by decide +kernel
theorem dX0_work_135 : decode cX0_work 135 = .ok (.ifCond .ne 7, 3) := by decide +kernel
theorem dX0_work_138 : decode cX0_work 138 = .ok (.iconst 1, 1) := by decide +kernel
theorem dX0_work_139 : decode cX0_work 139 = .ok (.goto 4, 3) := by decide +kernel
theorem dX0_work_142 : decode cX0_work 142 = .ok (.iconst 0, 1) := by decide +kernel
theorem dX0_work_143 : decode cX0_work 143 = .ok (.invokevirtual 111, 3) := by decide +kernel
theorem dX0_work_146 : decode cX0_work 146 = .ok (.goto 59, 3) := by decide +kernel
theorem dX0_work_149 : decode cX0_work 149 = .ok (.aload_n 0, 1) := by decide +kernel
theorem dX0_work_150 : decode cX0_work 150 = .ok (.aload_n 0, 1) := by decide +kernel
theorem dX0_work_151 : decode cX0_work 151 = .ok (.invokevirtual 121, 3) := by decide +kernel
theorem dX0_work_154 : decode cX0_work 154 = .ok (.ifCond .eq 7, 3) := by decide +kernel
theorem dX0_work_157 : decode cX0_work 157 = .ok (.iconst 1, 1) := by decide +kernel
theorem dX0_work_158 : decode cX0_work 158 = .ok (.goto 4, 3) := by decide +kernel
theorem dX0_work_161 : decode cX0_work 161 = .ok (.iconst 0, 1) := by decide +kernel
theorem dX0_work_162 : decode cX0_work 162 = .ok (.iload 4, 2) := by decide +kernel
theorem dX0_work_164 : decode cX0_work 164 = .ok (.iload 5, 2) := by decide +kernel
theorem dX0_work_166 : decode cX0_work 166 = .ok (.invokevirtual 124, 3) := by decide +kernel
theorem dX0_work_169 : decode cX0_work 169 = .ok (.istore 4, 2) := by decide +kernel
theorem dX0_work_171 : decode cX0_work 171 = .ok (.goto 34, 3) := by decide +kernel
theorem dX0_work_174 : decode cX0_work 174 = .ok (.aload_n 0, 1) := by decide +kernel
theorem dX0_work_175 : decode cX0_work 175 = .ok (.aload_n 0, 1) := by decide +kernel
theorem dX0_work_176 : decode cX0_work 176 = .ok (.invokevirtual 121, 3) := by decide +kernel
theorem dX0_work_179 : decode cX0_work 179 = .ok (.ifCond .ne 7, 3) := by decide +kernel
theorem dX0_work_182 : decode cX0_work 182 = .ok (.iconst 1, 1) := by decide +kernel
theorem dX0_work_183 : decode cX0_work 183 = .ok (.goto 4, 3) := by decide +kernel
theorem dX0_work_186 : decode cX0_work 186 = .ok (.iconst 0, 1) := by decide +kernel
theorem dX0_work_187 : decode cX0_work 187 = .ok (.iload 4, 2) := by decide +kernel
theorem dX0_work_189 : decode cX0_work 189 = .ok (.iload 5, 2) := by decide +kernel
theorem dX0_work_191 : decode cX0_work 191 = .ok (.invokevirtual 124, 3) := by decide +kernel
theorem dX0_work_194 : decode cX0_work 194 = .ok (.istore 4, 2) := by decide +kernel
theorem dX0_work_196 : decode cX0_work 196 = .ok (.goto 9, 3) := by decide +kernel
theorem dX0_work_199 : decode cX0_work 199 = .ok (.aload_n 0, 1) := by decide +kernel
theorem dX0_work_200 : decode cX0_work 200 = .ok (.iload 6, 2) := by decide +kernel
theorem dX0_work_202 : decode cX0_work 202 = .ok (.invokevirtual 128, 3) := by decide +kernel
theorem dX0_work_205 : decode cX0_work 205 = .ok (.iinc 4 1, 3) := by decide +kernel
theorem dX0_work_208 : decode cX0_work 208 = .ok (.goto (-195), 3) := by decide +kernel
theorem dX0_work_211 : decode cX0_work 211 = .ok (.aload_n 0, 1) := by decide +kernel
theorem dX0_work_212 : decode cX0_work 212 = .ok (.invokevirtual 118, 3) := by decide +kernel
theorem dX0_work_215 : decode cX0_work 215 = .ok (.ireturn, 1) := by decide +kernel
theorem dX0_afterSkip_0 : decode cX0_afterSkip 0 = .ok (.iload_n 1, 1) := by decide +kernel
theorem dX0_afterSkip_1 : decode cX0_afterSkip 1 = .ok (.ifCond .eq 11, 3) := by decide +kernel
theorem dX0_afterSkip_4 : decode cX0_afterSkip 4 = .ok (.iload_n 2, 1) := by decide +kernel
theorem dX0_afterSkip_5 : decode cX0_afterSkip 5 = .ok (.iload_n 3, 1) := by decide +kernel
theorem dX0_afterSkip_6 : decode cX0_afterSkip 6 = .ok (.iconst 1, 1) := by decide +kernel
theorem dX0_afterSkip_7 : decode cX0_afterSkip 7 = .ok (.isub, 1) := by decide +kernel
theorem dX0_afterSkip_8 : decode cX0_afterSkip 8 = .ok (.invokestatic 102, 3) := by decide +kernel
theorem dX0_afterSkip_11 : decode cX0_afterSkip 11 = .ok (.ireturn, 1) := by decide +kernel
theorem dX0_afterSkip_12 : decode cX0_afterSkip 12 = .ok (.aload_n 0, 1) := by decide +kernel
theorem dX0_afterSkip_13 : decode cX0_afterSkip 13 = .ok (.invokevirtual 118, 3) := by decide +kernel
theorem dX0_afterSkip_16 : decode cX0_afterSkip 16 = .ok (.pop, 1) := by decide +kernel
theorem dX0_afterSkip_17 : decode cX0_afterSkip 17 = .ok (.iload_n 2, 1) := by decide +kernel
theorem dX0_afterSkip_18 : decode cX0_afterSkip 18 = .ok (.ireturn, 1) := by decide +kernel
theorem dX0_wordAt_0 : decode cX0_wordAt 0 = .ok (.iload_n 1, 1) := by decide +kernel
theorem dX0_wordAt_1 : decode cX0_wordAt 1 = .ok (.ifCond .lt 21, 3) := by decide +kernel
theorem dX0_wordAt_4 : decode cX0_wordAt 4 = .ok (.iload_n 1, 1) := by decide +kernel
theorem dX0_wordAt_5 : decode cX0_wordAt 5 = .ok (.aload_n 0, 1) := by decide +kernel
theorem dX0_wordAt_6 : decode cX0_wordAt 6 = .ok (.getfield 23, 3) := by decide +kernel
theorem dX0_wordAt_9 : decode cX0_wordAt 9 = .ok (.arraylength, 1) := by decide +kernel
theorem dX0_wordAt_10 : decode cX0_wordAt 10 = .ok (.if_icmp .ge 12, 3) := by decide +kernel
theorem dX0_wordAt_13 : decode cX0_wordAt 13 = .ok (.aload_n 0, 1) := by decide +kernel
theorem dX0_wordAt_14 : decode cX0_wordAt 14 = .ok (.getfield 23, 3) := by decide +kernel
theorem dX0_wordAt_17 : decode cX0_wordAt 17 = .ok (.iload_n 1, 1) := by decide +kernel
theorem dX0_wordAt_18 : decode cX0_wordAt 18 = .ok (.iaload, 1) := by decide +kernel
theorem dX0_wordAt_19 : decode cX0_wordAt 19 = .ok (.goto 4, 3) := by decide +kernel
theorem dX0_wordAt_22 : decode cX0_wordAt 22 = .ok (.iconst 0, 1) := by decide +kernel
theorem dX0_wordAt_23 : decode cX0_wordAt 23 = .ok (.ireturn, 1) := by decide +kernel
theorem dX0_push_0 : decode cX0_push 0 = .ok (.aload_n 0, 1) := by decide +kernel
theorem dX0_push_1 : decode cX0_push 1 = .ok (.getfield 15, 3) := by decide +kernel
theorem dX0_push_4 : decode cX0_push 4 = .ok (.ifCond .lt 38, 3) := by decide +kernel
theorem dX0_push_7 : decode cX0_push 7 = .ok (.aload_n 0, 1) := by decide +kernel
theorem dX0_push_8 : decode cX0_push 8 = .ok (.getfield 15, 3) := by decide +kernel
theorem dX0_push_11 : decode cX0_push 11 = .ok (.aload_n 0, 1) := by decide +kernel
theorem dX0_push_12 : decode cX0_push 12 = .ok (.getfield 9, 3) := by decide +kernel
theorem dX0_push_15 : decode cX0_push 15 = .ok (.arraylength, 1) := by decide +kernel
theorem dX0_push_16 : decode cX0_push 16 = .ok (.if_icmp .ge 26, 3) := by decide +kernel
theorem dX0_push_19 : decode cX0_push 19 = .ok (.aload_n 0, 1) := by decide +kernel
theorem dX0_push_20 : decode cX0_push 20 = .ok (.getfield 9, 3) := by decide +kernel
theorem dX0_push_23 : decode cX0_push 23 = .ok (.aload_n 0, 1) := by decide +kernel
theorem dX0_push_24 : decode cX0_push 24 = .ok (.getfield 15, 3) := by decide +kernel
theorem dX0_push_27 : decode cX0_push 27 = .ok (.iload_n 1, 1) := by decide +kernel
theorem dX0_push_28 : decode cX0_push 28 = .ok (.iastore, 1) := by decide +kernel
theorem dX0_push_29 : decode cX0_push 29 = .ok (.aload_n 0, 1) := by decide +kernel
theorem dX0_push_30 : decode cX0_push 30 = .ok (.dup, 1) := by decide +kernel
theorem dX0_push_31 : decode cX0_push 31 = .ok (.getfield 15, 3) := by decide +kernel
theorem dX0_push_34 : decode cX0_push 34 = .ok (.iconst 1, 1) := by decide +kernel
theorem dX0_push_35 : decode cX0_push 35 = .ok (.iadd, 1) := by decide +kernel
theorem dX0_push_36 : decode cX0_push 36 = .ok (.putfield 15, 3) := by decide +kernel
theorem dX0_push_39 : decode cX0_push 39 = .ok (.goto 8, 3) := by decide +kernel
theorem dX0_push_42 : decode cX0_push 42 = .ok (.aload_n 0, 1) := by decide +kernel
theorem dX0_push_43 : decode cX0_push 43 = .ok (.iconst 1, 1) := by decide +kernel
theorem dX0_push_44 : decode cX0_push 44 = .ok (.putfield 19, 3) := by decide +kernel
theorem dX0_push_47 : decode cX0_push 47 = .ok (.return_, 1) := by decide +kernel
theorem dX0_top_0 : decode cX0_top 0 = .ok (.aload_n 0, 1) := by decide +kernel
theorem dX0_top_1 : decode cX0_top 1 = .ok (.getfield 15, 3) := by decide +kernel
theorem dX0_top_4 : decode cX0_top 4 = .ok (.ifCond .le 29, 3) := by decide +kernel
theorem dX0_top_7 : decode cX0_top 7 = .ok (.aload_n 0, 1) := by decide +kernel
theorem dX0_top_8 : decode cX0_top 8 = .ok (.getfield 15, 3) := by decide +kernel
theorem dX0_top_11 : decode cX0_top 11 = .ok (.aload_n 0, 1) := by decide +kernel
theorem dX0_top_12 : decode cX0_top 12 = .ok (.getfield 9, 3) := by decide +kernel
theorem dX0_top_15 : decode cX0_top 15 = .ok (.arraylength, 1) := by decide +kernel
theorem dX0_top_16 : decode cX0_top 16 = .ok (.if_icmp .gt 17, 3) := by decide +kernel
theorem dX0_top_19 : decode cX0_top 19 = .ok (.aload_n 0, 1) := by decide +kernel
theorem dX0_top_20 : decode cX0_top 20 = .ok (.getfield 9, 3) := by decide +kernel
theorem dX0_top_23 : decode cX0_top 23 = .ok (.aload_n 0, 1) := by decide +kernel
theorem dX0_top_24 : decode cX0_top 24 = .ok (.getfield 15, 3) := by decide +kernel
theorem dX0_top_27 : decode cX0_top 27 = .ok (.iconst 1, 1) := by decide +kernel
theorem dX0_top_28 : decode cX0_top 28 = .ok (.isub, 1) := by decide +kernel
theorem dX0_top_29 : decode cX0_top 29 = .ok (.iaload, 1) := by decide +kernel
theorem dX0_top_30 : decode cX0_top 30 = .ok (.goto 4, 3) := by decide +kernel
theorem dX0_top_33 : decode cX0_top 33 = .ok (.iconst 0, 1) := by decide +kernel
theorem dX0_top_34 : decode cX0_top 34 = .ok (.ireturn, 1) := by decide +kernel
theorem dX0_pop_0 : decode cX0_pop 0 = .ok (.aload_n 0, 1) := by decide +kernel
theorem dX0_pop_1 : decode cX0_pop 1 = .ok (.invokevirtual 121, 3) := by decide +kernel
theorem dX0_pop_4 : decode cX0_pop 4 = .ok (.istore_n 1, 1) := by decide +kernel
theorem dX0_pop_5 : decode cX0_pop 5 = .ok (.aload_n 0, 1) := by decide +kernel
theorem dX0_pop_6 : decode cX0_pop 6 = .ok (.iconst 0, 1) := by decide +kernel
theorem dX0_pop_7 : decode cX0_pop 7 = .ok (.aload_n 0, 1) := by decide +kernel
theorem dX0_pop_8 : decode cX0_pop 8 = .ok (.getfield 15, 3) := by decide +kernel
theorem dX0_pop_11 : decode cX0_pop 11 = .ok (.iconst 1, 1) := by decide +kernel
theorem dX0_pop_12 : decode cX0_pop 12 = .ok (.isub, 1) := by decide +kernel
theorem dX0_pop_13 : decode cX0_pop 13 = .ok (.invokestatic 102, 3) := by decide +kernel
theorem dX0_pop_16 : decode cX0_pop 16 = .ok (.putfield 15, 3) := by decide +kernel
theorem dX0_pop_19 : decode cX0_pop 19 = .ok (.iload_n 1, 1) := by decide +kernel
theorem dX0_pop_20 : decode cX0_pop 20 = .ok (.ireturn, 1) := by decide +kernel
theorem dX0_join_0 : decode cX0_join 0 = .ok (.aload_n 0, 1) := by decide +kernel
theorem dX0_join_1 : decode cX0_join 1 = .ok (.invokevirtual 118, 3) := by decide +kernel
theorem dX0_join_4 : decode cX0_join 4 = .ok (.i2l, 1) := by decide +kernel
theorem dX0_join_5 : decode cX0_join 5 = .ok (.lstore_n 2, 1) := by decide +kernel
theorem dX0_join_6 : decode cX0_join 6 = .ok (.aload_n 0, 1) := by decide +kernel
theorem dX0_join_7 : decode cX0_join 7 = .ok (.invokevirtual 118, 3) := by decide +kernel
theorem dX0_join_10 : decode cX0_join 10 = .ok (.i2l, 1) := by decide +kernel
theorem dX0_join_11 : decode cX0_join 11 = .ok (.lstore 4, 2) := by decide +kernel
theorem dX0_join_13 : decode cX0_join 13 = .ok (.iload_n 1, 1) := by decide +kernel
theorem dX0_join_14 : decode cX0_join 14 = .ok (.tableswitch 119 2 7 #[38, 49, 60, 71, 81, 100], 38) := by decide +kernel
theorem dX0_join_52 : decode cX0_join 52 = .ok (.aload_n 0, 1) := by decide +kernel
theorem dX0_join_53 : decode cX0_join 53 = .ok (.lload 4, 2) := by decide +kernel
theorem dX0_join_55 : decode cX0_join 55 = .ok (.lload_n 2, 1) := by decide +kernel
theorem dX0_join_56 : decode cX0_join 56 = .ok (.ladd, 1) := by decide +kernel
theorem dX0_join_57 : decode cX0_join 57 = .ok (.invokevirtual 131, 3) := by decide +kernel
theorem dX0_join_60 : decode cX0_join 60 = .ok (.goto 89, 3) := by decide +kernel
theorem dX0_join_63 : decode cX0_join 63 = .ok (.aload_n 0, 1) := by decide +kernel
theorem dX0_join_64 : decode cX0_join 64 = .ok (.lload 4, 2) := by decide +kernel
theorem dX0_join_66 : decode cX0_join 66 = .ok (.lload_n 2, 1) := by decide +kernel
theorem dX0_join_67 : decode cX0_join 67 = .ok (.lsub, 1) := by decide +kernel
theorem dX0_join_68 : decode cX0_join 68 = .ok (.invokevirtual 131, 3) := by decide +kernel
theorem dX0_join_71 : decode cX0_join 71 = .ok (.goto 78, 3) := by decide +kernel
theorem dX0_join_74 : decode cX0_join 74 = .ok (.aload_n 0, 1) := by decide +kernel
theorem dX0_join_75 : decode cX0_join 75 = .ok (.lload 4, 2) := by decide +kernel
theorem dX0_join_77 : decode cX0_join 77 = .ok (.lload_n 2, 1) := by decide +kernel
theorem dX0_join_78 : decode cX0_join 78 = .ok (.lmul, 1) := by decide +kernel
theorem dX0_join_79 : decode cX0_join 79 = .ok (.invokevirtual 131, 3) := by decide +kernel
theorem dX0_join_82 : decode cX0_join 82 = .ok (.goto 67, 3) := by decide +kernel
theorem dX0_join_85 : decode cX0_join 85 = .ok (.aload_n 0, 1) := by decide +kernel
theorem dX0_join_86 : decode cX0_join 86 = .ok (.lload 4, 2) := by decide +kernel
theorem dX0_join_88 : decode cX0_join 88 = .ok (.lload_n 2, 1) := by decide +kernel
theorem dX0_join_89 : decode cX0_join 89 = .ok (.invokevirtual 135, 3) := by decide +kernel
theorem dX0_join_92 : decode cX0_join 92 = .ok (.goto 57, 3) := by decide +kernel
theorem dX0_join_95 : decode cX0_join 95 = .ok (.aload_n 0, 1) := by decide +kernel
theorem dX0_join_96 : decode cX0_join 96 = .ok (.lload 4, 2) := by decide +kernel
theorem dX0_join_98 : decode cX0_join 98 = .ok (.lload_n 2, 1) := by decide +kernel
theorem dX0_join_99 : decode cX0_join 99 = .ok (.lcmp, 1) := by decide +kernel
theorem dX0_join_100 : decode cX0_join 100 = .ok (.ifCond .ge 7, 3) := by decide +kernel
theorem dX0_join_103 : decode cX0_join 103 = .ok (.iconst 1, 1) := by decide +kernel
theorem dX0_join_104 : decode cX0_join 104 = .ok (.goto 4, 3) := by decide +kernel
theorem dX0_join_107 : decode cX0_join 107 = .ok (.iconst 0, 1) := by decide +kernel
theorem dX0_join_108 : decode cX0_join 108 = .ok (.invokevirtual 111, 3) := by decide +kernel
theorem dX0_join_111 : decode cX0_join 111 = .ok (.goto 38, 3) := by decide +kernel
theorem dX0_join_114 : decode cX0_join 114 = .ok (.aload_n 0, 1) := by decide +kernel
theorem dX0_join_115 : decode cX0_join 115 = .ok (.lload 4, 2) := by decide +kernel
theorem dX0_join_117 : decode cX0_join 117 = .ok (.lload_n 2, 1) := by decide +kernel
theorem dX0_join_118 : decode cX0_join 118 = .ok (.lcmp, 1) := by decide +kernel
theorem dX0_join_119 : decode cX0_join 119 = .ok (.ifCond .le 7, 3) := by decide +kernel
theorem dX0_join_122 : decode cX0_join 122 = .ok (.iconst 1, 1) := by decide +kernel
theorem dX0_join_123 : decode cX0_join 123 = .ok (.goto 4, 3) := by decide +kernel
theorem dX0_join_126 : decode cX0_join 126 = .ok (.iconst 0, 1) := by decide +kernel
theorem dX0_join_127 : decode cX0_join 127 = .ok (.invokevirtual 111, 3) := by decide +kernel
theorem dX0_join_130 : decode cX0_join 130 = .ok (.goto 19, 3) := by decide +kernel
theorem dX0_join_133 : decode cX0_join 133 = .ok (.aload_n 0, 1) := by decide +kernel
theorem dX0_join_134 : decode cX0_join 134 = .ok (.lload 4, 2) := by decide +kernel
theorem dX0_join_136 : decode cX0_join 136 = .ok (.lload_n 2, 1) := by decide +kernel
theorem dX0_join_137 : decode cX0_join 137 = .ok (.lcmp, 1) := by decide +kernel
theorem dX0_join_138 : decode cX0_join 138 = .ok (.ifCond .ne 7, 3) := by decide +kernel
theorem dX0_join_141 : decode cX0_join 141 = .ok (.iconst 1, 1) := by decide +kernel
theorem dX0_join_142 : decode cX0_join 142 = .ok (.goto 4, 3) := by decide +kernel
theorem dX0_join_145 : decode cX0_join 145 = .ok (.iconst 0, 1) := by decide +kernel
theorem dX0_join_146 : decode cX0_join 146 = .ok (.invokevirtual 111, 3) := by decide +kernel
theorem dX0_join_149 : decode cX0_join 149 = .ok (.return_, 1) := by decide +kernel
theorem dX0_divide_0 : decode cX0_divide 0 = .ok (.lload_n 3, 1) := by decide +kernel
theorem dX0_divide_1 : decode cX0_divide 1 = .ok (.lconst 0, 1) := by decide +kernel
theorem dX0_divide_2 : decode cX0_divide 2 = .ok (.lcmp, 1) := by decide +kernel
theorem dX0_divide_3 : decode cX0_divide 3 = .ok (.ifCond .ne 11, 3) := by decide +kernel
theorem dX0_divide_6 : decode cX0_divide 6 = .ok (.aload_n 0, 1) := by decide +kernel
theorem dX0_divide_7 : decode cX0_divide 7 = .ok (.iconst 1, 1) := by decide +kernel
theorem dX0_divide_8 : decode cX0_divide 8 = .ok (.putfield 19, 3) := by decide +kernel
theorem dX0_divide_11 : decode cX0_divide 11 = .ok (.goto 10, 3) := by decide +kernel
theorem dX0_divide_14 : decode cX0_divide 14 = .ok (.aload_n 0, 1) := by decide +kernel
theorem dX0_divide_15 : decode cX0_divide 15 = .ok (.lload_n 1, 1) := by decide +kernel
theorem dX0_divide_16 : decode cX0_divide 16 = .ok (.lload_n 3, 1) := by decide +kernel
theorem dX0_divide_17 : decode cX0_divide 17 = .ok (.ldiv, 1) := by decide +kernel
theorem dX0_divide_18 : decode cX0_divide 18 = .ok (.invokevirtual 131, 3) := by decide +kernel
theorem dX0_divide_21 : decode cX0_divide 21 = .ok (.return_, 1) := by decide +kernel
theorem dX0_keep_0 : decode cX0_keep 0 = .ok (.lload_n 1, 1) := by decide +kernel
theorem dX0_keep_1 : decode cX0_keep 1 = .ok (.ldc2_w 139, 3) := by decide +kernel
theorem dX0_keep_4 : decode cX0_keep 4 = .ok (.lcmp, 1) := by decide +kernel
theorem dX0_keep_5 : decode cX0_keep 5 = .ok (.ifCond .gt 11, 3) := by decide +kernel
theorem dX0_keep_8 : decode cX0_keep 8 = .ok (.lload_n 1, 1) := by decide +kernel
theorem dX0_keep_9 : decode cX0_keep 9 = .ok (.ldc2_w 141, 3) := by decide +kernel
theorem dX0_keep_12 : decode cX0_keep 12 = .ok (.lcmp, 1) := by decide +kernel
theorem dX0_keep_13 : decode cX0_keep 13 = .ok (.ifCond .ge 11, 3) := by decide +kernel
theorem dX0_keep_16 : decode cX0_keep 16 = .ok (.aload_n 0, 1) := by decide +kernel
theorem dX0_keep_17 : decode cX0_keep 17 = .ok (.iconst 1, 1) := by decide +kernel
theorem dX0_keep_18 : decode cX0_keep 18 = .ok (.putfield 19, 3) := by decide +kernel
theorem dX0_keep_21 : decode cX0_keep 21 = .ok (.goto 9, 3) := by decide +kernel
theorem dX0_keep_24 : decode cX0_keep 24 = .ok (.aload_n 0, 1) := by decide +kernel
theorem dX0_keep_25 : decode cX0_keep 25 = .ok (.lload_n 1, 1) := by decide +kernel
theorem dX0_keep_26 : decode cX0_keep 26 = .ok (.l2i, 1) := by decide +kernel
theorem dX0_keep_27 : decode cX0_keep 27 = .ok (.invokevirtual 111, 3) := by decide +kernel
theorem dX0_keep_30 : decode cX0_keep 30 = .ok (.return_, 1) := by decide +kernel
theorem dX1_init_0 : decode cX1_init 0 = .ok (.aload_n 0, 1) := by decide +kernel
theorem dX1_init_1 : decode cX1_init 1 = .ok (.invokespecial 3, 3) := by decide +kernel
theorem dX1_init_4 : decode cX1_init 4 = .ok (.aload_n 0, 1) := by decide +kernel
theorem dX1_init_5 : decode cX1_init 5 = .ok (.new 9, 3) := by decide +kernel
theorem dX1_init_8 : decode cX1_init 8 = .ok (.dup, 1) := by decide +kernel
theorem dX1_init_9 : decode cX1_init 9 = .ok (.bipush 60, 2) := by decide +kernel
theorem dX1_init_11 : decode cX1_init 11 = .ok (.iconst 3, 1) := by decide +kernel
theorem dX1_init_12 : decode cX1_init 12 = .ok (.invokespecial 11, 3) := by decide +kernel
theorem dX1_init_15 : decode cX1_init 15 = .ok (.putfield 14, 3) := by decide +kernel
theorem dX1_init_18 : decode cX1_init 18 = .ok (.aload_n 0, 1) := by decide +kernel
theorem dX1_init_19 : decode cX1_init 19 = .ok (.new 9, 3) := by decide +kernel
theorem dX1_init_22 : decode cX1_init 22 = .ok (.dup, 1) := by decide +kernel
theorem dX1_init_23 : decode cX1_init 23 = .ok (.bipush 12, 2) := by decide +kernel
theorem dX1_init_25 : decode cX1_init 25 = .ok (.iconst 4, 1) := by decide +kernel
theorem dX1_init_26 : decode cX1_init 26 = .ok (.invokespecial 11, 3) := by decide +kernel
theorem dX1_init_29 : decode cX1_init 29 = .ok (.putfield 20, 3) := by decide +kernel
theorem dX1_init_32 : decode cX1_init 32 = .ok (.aload_n 0, 1) := by decide +kernel
theorem dX1_init_33 : decode cX1_init 33 = .ok (.new 9, 3) := by decide +kernel
theorem dX1_init_36 : decode cX1_init 36 = .ok (.dup, 1) := by decide +kernel
theorem dX1_init_37 : decode cX1_init 37 = .ok (.bipush 12, 2) := by decide +kernel
theorem dX1_init_39 : decode cX1_init 39 = .ok (.iconst 4, 1) := by decide +kernel
theorem dX1_init_40 : decode cX1_init 40 = .ok (.invokespecial 11, 3) := by decide +kernel
theorem dX1_init_43 : decode cX1_init 43 = .ok (.putfield 23, 3) := by decide +kernel
theorem dX1_init_46 : decode cX1_init 46 = .ok (.aload_n 0, 1) := by decide +kernel
theorem dX1_init_47 : decode cX1_init 47 = .ok (.new 9, 3) := by decide +kernel
theorem dX1_init_50 : decode cX1_init 50 = .ok (.dup, 1) := by decide +kernel
theorem dX1_init_51 : decode cX1_init 51 = .ok (.bipush 12, 2) := by decide +kernel
theorem dX1_init_53 : decode cX1_init 53 = .ok (.iconst 2, 1) := by decide +kernel
theorem dX1_init_54 : decode cX1_init 54 = .ok (.invokespecial 11, 3) := by decide +kernel
theorem dX1_init_57 : decode cX1_init 57 = .ok (.putfield 26, 3) := by decide +kernel
theorem dX1_init_60 : decode cX1_init 60 = .ok (.aload_n 0, 1) := by decide +kernel
theorem dX1_init_61 : decode cX1_init 61 = .ok (.new 9, 3) := by decide +kernel
theorem dX1_init_64 : decode cX1_init 64 = .ok (.dup, 1) := by decide +kernel
theorem dX1_init_65 : decode cX1_init 65 = .ok (.bipush 12, 2) := by decide +kernel
theorem dX1_init_67 : decode cX1_init 67 = .ok (.iconst 1, 1) := by decide +kernel
theorem dX1_init_68 : decode cX1_init 68 = .ok (.invokespecial 11, 3) := by decide +kernel
theorem dX1_init_71 : decode cX1_init 71 = .ok (.putfield 29, 3) := by decide +kernel
theorem dX1_init_74 : decode cX1_init 74 = .ok (.aload_n 0, 1) := by decide +kernel
theorem dX1_init_75 : decode cX1_init 75 = .ok (.new 9, 3) := by decide +kernel
theorem dX1_init_78 : decode cX1_init 78 = .ok (.dup, 1) := by decide +kernel
theorem dX1_init_79 : decode cX1_init 79 = .ok (.bipush 20, 2) := by decide +kernel
theorem dX1_init_81 : decode cX1_init 81 = .ok (.iconst 3, 1) := by decide +kernel
theorem dX1_init_82 : decode cX1_init 82 = .ok (.invokespecial 11, 3) := by decide +kernel
theorem dX1_init_85 : decode cX1_init 85 = .ok (.putfield 32, 3) := by decide +kernel
theorem dX1_init_88 : decode cX1_init 88 = .ok (.aload_n 0, 1) := by decide +kernel
theorem dX1_init_89 : decode cX1_init 89 = .ok (.new 9, 3) := by decide +kernel
theorem dX1_init_92 : decode cX1_init 92 = .ok (.dup, 1) := by decide +kernel
theorem dX1_init_93 : decode cX1_init 93 = .ok (.bipush 40, 2) := by decide +kernel
theorem dX1_init_95 : decode cX1_init 95 = .ok (.bipush 7, 2) := by decide +kernel
theorem dX1_init_97 : decode cX1_init 97 = .ok (.invokespecial 11, 3) := by decide +kernel
theorem dX1_init_100 : decode cX1_init 100 = .ok (.putfield 35, 3) := by decide +kernel
theorem dX1_init_103 : decode cX1_init 103 = .ok (.aload_n 0, 1) := by decide +kernel
theorem dX1_init_104 : decode cX1_init 104 = .ok (.new 38, 3) := by decide +kernel
theorem dX1_init_107 : decode cX1_init 107 = .ok (.dup, 1) := by decide +kernel
theorem dX1_init_108 : decode cX1_init 108 = .ok (.invokespecial 40, 3) := by decide +kernel
theorem dX1_init_111 : decode cX1_init 111 = .ok (.putfield 41, 3) := by decide +kernel
theorem dX1_init_114 : decode cX1_init 114 = .ok (.aload_n 0, 1) := by decide +kernel
theorem dX1_init_115 : decode cX1_init 115 = .ok (.new 9, 3) := by decide +kernel
theorem dX1_init_118 : decode cX1_init 118 = .ok (.dup, 1) := by decide +kernel
theorem dX1_init_119 : decode cX1_init 119 = .ok (.bipush 6, 2) := by decide +kernel
theorem dX1_init_121 : decode cX1_init 121 = .ok (.iconst 3, 1) := by decide +kernel
theorem dX1_init_122 : decode cX1_init 122 = .ok (.invokespecial 11, 3) := by decide +kernel
theorem dX1_init_125 : decode cX1_init 125 = .ok (.putfield 45, 3) := by decide +kernel
theorem dX1_init_128 : decode cX1_init 128 = .ok (.aload_n 0, 1) := by decide +kernel
theorem dX1_init_129 : decode cX1_init 129 = .ok (.new 9, 3) := by decide +kernel
theorem dX1_init_132 : decode cX1_init 132 = .ok (.dup, 1) := by decide +kernel
theorem dX1_init_133 : decode cX1_init 133 = .ok (.bipush 12, 2) := by decide +kernel
theorem dX1_init_135 : decode cX1_init 135 = .ok (.iconst 4, 1) := by decide +kernel
theorem dX1_init_136 : decode cX1_init 136 = .ok (.invokespecial 11, 3) := by decide +kernel
theorem dX1_init_139 : decode cX1_init 139 = .ok (.putfield 48, 3) := by decide +kernel
theorem dX1_init_142 : decode cX1_init 142 = .ok (.aload_n 0, 1) := by decide +kernel
theorem dX1_init_143 : decode cX1_init 143 = .ok (.new 9, 3) := by decide +kernel
theorem dX1_init_146 : decode cX1_init 146 = .ok (.dup, 1) := by decide +kernel
theorem dX1_init_147 : decode cX1_init 147 = .ok (.bipush 10, 2) := by decide +kernel
theorem dX1_init_149 : decode cX1_init 149 = .ok (.iconst 4, 1) := by decide +kernel
theorem dX1_init_150 : decode cX1_init 150 = .ok (.invokespecial 11, 3) := by decide +kernel
theorem dX1_init_153 : decode cX1_init 153 = .ok (.putfield 51, 3) := by decide +kernel
theorem dX1_init_156 : decode cX1_init 156 = .ok (.aload_n 0, 1) := by decide +kernel
theorem dX1_init_157 : decode cX1_init 157 = .ok (.new 9, 3) := by decide +kernel
theorem dX1_init_160 : decode cX1_init 160 = .ok (.dup, 1) := by decide +kernel
theorem dX1_init_161 : decode cX1_init 161 = .ok (.bipush 30, 2) := by decide +kernel
theorem dX1_init_163 : decode cX1_init 163 = .ok (.iconst 2, 1) := by decide +kernel
theorem dX1_init_164 : decode cX1_init 164 = .ok (.invokespecial 11, 3) := by decide +kernel
theorem dX1_init_167 : decode cX1_init 167 = .ok (.putfield 54, 3) := by decide +kernel
theorem dX1_init_170 : decode cX1_init 170 = .ok (.aload_n 0, 1) := by decide +kernel
theorem dX1_init_171 : decode cX1_init 171 = .ok (.new 9, 3) := by decide +kernel
theorem dX1_init_174 : decode cX1_init 174 = .ok (.dup, 1) := by decide +kernel
theorem dX1_init_175 : decode cX1_init 175 = .ok (.bipush 10, 2) := by decide +kernel
theorem dX1_init_177 : decode cX1_init 177 = .ok (.iconst 2, 1) := by decide +kernel
theorem dX1_init_178 : decode cX1_init 178 = .ok (.invokespecial 11, 3) := by decide +kernel
theorem dX1_init_181 : decode cX1_init 181 = .ok (.putfield 57, 3) := by decide +kernel
theorem dX1_init_184 : decode cX1_init 184 = .ok (.aload_n 0, 1) := by decide +kernel
theorem dX1_init_185 : decode cX1_init 185 = .ok (.new 9, 3) := by decide +kernel
theorem dX1_init_188 : decode cX1_init 188 = .ok (.dup, 1) := by decide +kernel
theorem dX1_init_189 : decode cX1_init 189 = .ok (.iconst 1, 1) := by decide +kernel
theorem dX1_init_190 : decode cX1_init 190 = .ok (.iconst 3, 1) := by decide +kernel
theorem dX1_init_191 : decode cX1_init 191 = .ok (.invokespecial 11, 3) := by decide +kernel
theorem dX1_init_194 : decode cX1_init 194 = .ok (.putfield 60, 3) := by decide +kernel
theorem dX1_init_197 : decode cX1_init 197 = .ok (.aload_n 0, 1) := by decide +kernel
theorem dX1_init_198 : decode cX1_init 198 = .ok (.getfield 14, 3) := by decide +kernel
theorem dX1_init_201 : decode cX1_init 201 = .ok (.bipush 60, 2) := by decide +kernel
theorem dX1_init_203 : decode cX1_init 203 = .ok (.iconst 0, 1) := by decide +kernel
theorem dX1_init_204 : decode cX1_init 204 = .ok (.invokevirtual 63, 3) := by decide +kernel
theorem dX1_init_207 : decode cX1_init 207 = .ok (.aload_n 0, 1) := by decide +kernel
theorem dX1_init_208 : decode cX1_init 208 = .ok (.getfield 54, 3) := by decide +kernel
theorem dX1_init_211 : decode cX1_init 211 = .ok (.bipush 30, 2) := by decide +kernel
theorem dX1_init_213 : decode cX1_init 213 = .ok (.iconst 0, 1) := by decide +kernel
theorem dX1_init_214 : decode cX1_init 214 = .ok (.invokevirtual 63, 3) := by decide +kernel
theorem dX1_init_217 : decode cX1_init 217 = .ok (.aload_n 0, 1) := by decide +kernel
theorem dX1_init_218 : decode cX1_init 218 = .ok (.getfield 57, 3) := by decide +kernel
theorem dX1_init_221 : decode cX1_init 221 = .ok (.bipush 10, 2) := by decide +kernel
theorem dX1_init_223 : decode cX1_init 223 = .ok (.iconst 1, 1) := by decide +kernel
theorem dX1_init_224 : decode cX1_init 224 = .ok (.invokevirtual 63, 3) := by decide +kernel
theorem dX1_init_227 : decode cX1_init 227 = .ok (.aload_n 0, 1) := by decide +kernel
theorem dX1_init_228 : decode cX1_init 228 = .ok (.getfield 60, 3) := by decide +kernel
theorem dX1_init_231 : decode cX1_init 231 = .ok (.iconst 1, 1) := by decide +kernel
theorem dX1_init_232 : decode cX1_init 232 = .ok (.iconst 0, 1) := by decide +kernel
theorem dX1_init_233 : decode cX1_init 233 = .ok (.invokevirtual 63, 3) := by decide +kernel
theorem dX1_init_236 : decode cX1_init 236 = .ok (.aload_n 0, 1) := by decide +kernel
theorem dX1_init_237 : decode cX1_init 237 = .ok (.getfield 60, 3) := by decide +kernel
theorem dX1_init_240 : decode cX1_init 240 = .ok (.iconst 0, 1) := by decide +kernel
theorem dX1_init_241 : decode cX1_init 241 = .ok (.iconst 0, 1) := by decide +kernel
theorem dX1_init_242 : decode cX1_init 242 = .ok (.iconst 2, 1) := by decide +kernel
theorem dX1_init_243 : decode cX1_init 243 = .ok (.invokevirtual 66, 3) := by decide +kernel
theorem dX1_init_246 : decode cX1_init 246 = .ok (.aload_n 0, 1) := by decide +kernel
theorem dX1_init_247 : decode cX1_init 247 = .ok (.getfield 60, 3) := by decide +kernel
theorem dX1_init_250 : decode cX1_init 250 = .ok (.iconst 0, 1) := by decide +kernel
theorem dX1_init_251 : decode cX1_init 251 = .ok (.iconst 1, 1) := by decide +kernel
theorem dX1_init_252 : decode cX1_init 252 = .ok (.bipush 100, 2) := by decide +kernel
theorem dX1_init_254 : decode cX1_init 254 = .ok (.invokevirtual 66, 3) := by decide +kernel
theorem dX1_init_257 : decode cX1_init 257 = .ok (.aload_n 0, 1) := by decide +kernel
theorem dX1_init_258 : decode cX1_init 258 = .ok (.getfield 60, 3) := by decide +kernel
theorem dX1_init_261 : decode cX1_init 261 = .ok (.iconst 0, 1) := by decide +kernel
theorem dX1_init_262 : decode cX1_init 262 = .ok (.iconst 2, 1) := by decide +kernel
theorem dX1_init_263 : decode cX1_init 263 = .ok (.iconst 1, 1) := by decide +kernel
theorem dX1_init_264 : decode cX1_init 264 = .ok (.invokevirtual 66, 3) := by decide +kernel
theorem dX1_init_267 : decode cX1_init 267 = .ok (.return_, 1) := by decide +kernel
theorem dX1_copyFrom_0 : decode cX1_copyFrom 0 = .ok (.aload_n 0, 1) := by decide +kernel
theorem dX1_copyFrom_1 : decode cX1_copyFrom 1 = .ok (.getfield 14, 3) := by decide +kernel
theorem dX1_copyFrom_4 : decode cX1_copyFrom 4 = .ok (.aload_n 1, 1) := by decide +kernel
theorem dX1_copyFrom_5 : decode cX1_copyFrom 5 = .ok (.getfield 14, 3) := by decide +kernel
theorem dX1_copyFrom_8 : decode cX1_copyFrom 8 = .ok (.invokevirtual 70, 3) := by decide +kernel
theorem dX1_copyFrom_11 : decode cX1_copyFrom 11 = .ok (.aload_n 0, 1) := by decide +kernel
theorem dX1_copyFrom_12 : decode cX1_copyFrom 12 = .ok (.getfield 20, 3) := by decide +kernel
theorem dX1_copyFrom_15 : decode cX1_copyFrom 15 = .ok (.aload_n 1, 1) := by decide +kernel
theorem dX1_copyFrom_16 : decode cX1_copyFrom 16 = .ok (.getfield 20, 3) := by decide +kernel
theorem dX1_copyFrom_19 : decode cX1_copyFrom 19 = .ok (.invokevirtual 70, 3) := by decide +kernel
theorem dX1_copyFrom_22 : decode cX1_copyFrom 22 = .ok (.aload_n 0, 1) := by decide +kernel
theorem dX1_copyFrom_23 : decode cX1_copyFrom 23 = .ok (.getfield 23, 3) := by decide +kernel
theorem dX1_copyFrom_26 : decode cX1_copyFrom 26 = .ok (.aload_n 1, 1) := by decide +kernel
theorem dX1_copyFrom_27 : decode cX1_copyFrom 27 = .ok (.getfield 23, 3) := by decide +kernel
theorem dX1_copyFrom_30 : decode cX1_copyFrom 30 = .ok (.invokevirtual 70, 3) := by decide +kernel
theorem dX1_copyFrom_33 : decode cX1_copyFrom 33 = .ok (.aload_n 0, 1) := by decide +kernel
theorem dX1_copyFrom_34 : decode cX1_copyFrom 34 = .ok (.getfield 26, 3) := by decide +kernel
theorem dX1_copyFrom_37 : decode cX1_copyFrom 37 = .ok (.aload_n 1, 1) := by decide +kernel
theorem dX1_copyFrom_38 : decode cX1_copyFrom 38 = .ok (.getfield 26, 3) := by decide +kernel
theorem dX1_copyFrom_41 : decode cX1_copyFrom 41 = .ok (.invokevirtual 70, 3) := by decide +kernel
theorem dX1_copyFrom_44 : decode cX1_copyFrom 44 = .ok (.aload_n 0, 1) := by decide +kernel
theorem dX1_copyFrom_45 : decode cX1_copyFrom 45 = .ok (.getfield 29, 3) := by decide +kernel
theorem dX1_copyFrom_48 : decode cX1_copyFrom 48 = .ok (.aload_n 1, 1) := by decide +kernel
theorem dX1_copyFrom_49 : decode cX1_copyFrom 49 = .ok (.getfield 29, 3) := by decide +kernel
theorem dX1_copyFrom_52 : decode cX1_copyFrom 52 = .ok (.invokevirtual 70, 3) := by decide +kernel
theorem dX1_copyFrom_55 : decode cX1_copyFrom 55 = .ok (.aload_n 0, 1) := by decide +kernel
theorem dX1_copyFrom_56 : decode cX1_copyFrom 56 = .ok (.getfield 32, 3) := by decide +kernel
theorem dX1_copyFrom_59 : decode cX1_copyFrom 59 = .ok (.aload_n 1, 1) := by decide +kernel
theorem dX1_copyFrom_60 : decode cX1_copyFrom 60 = .ok (.getfield 32, 3) := by decide +kernel
theorem dX1_copyFrom_63 : decode cX1_copyFrom 63 = .ok (.invokevirtual 70, 3) := by decide +kernel
theorem dX1_copyFrom_66 : decode cX1_copyFrom 66 = .ok (.aload_n 0, 1) := by decide +kernel
theorem dX1_copyFrom_67 : decode cX1_copyFrom 67 = .ok (.getfield 35, 3) := by decide +kernel
theorem dX1_copyFrom_70 : decode cX1_copyFrom 70 = .ok (.aload_n 1, 1) := by decide +kernel
theorem dX1_copyFrom_71 : decode cX1_copyFrom 71 = .ok (.getfield 35, 3) := by decide +kernel
theorem dX1_copyFrom_74 : decode cX1_copyFrom 74 = .ok (.invokevirtual 70, 3) := by decide +kernel
theorem dX1_copyFrom_77 : decode cX1_copyFrom 77 = .ok (.aload_n 0, 1) := by decide +kernel
theorem dX1_copyFrom_78 : decode cX1_copyFrom 78 = .ok (.getfield 41, 3) := by decide +kernel
theorem dX1_copyFrom_81 : decode cX1_copyFrom 81 = .ok (.aload_n 1, 1) := by decide +kernel
theorem dX1_copyFrom_82 : decode cX1_copyFrom 82 = .ok (.getfield 41, 3) := by decide +kernel
theorem dX1_copyFrom_85 : decode cX1_copyFrom 85 = .ok (.invokevirtual 74, 3) := by decide +kernel
theorem dX1_copyFrom_88 : decode cX1_copyFrom 88 = .ok (.aload_n 0, 1) := by decide +kernel
theorem dX1_copyFrom_89 : decode cX1_copyFrom 89 = .ok (.getfield 45, 3) := by decide +kernel
theorem dX1_copyFrom_92 : decode cX1_copyFrom 92 = .ok (.aload_n 1, 1) := by decide +kernel
theorem dX1_copyFrom_93 : decode cX1_copyFrom 93 = .ok (.getfield 45, 3) := by decide +kernel
theorem dX1_copyFrom_96 : decode cX1_copyFrom 96 = .ok (.invokevirtual 70, 3) := by decide +kernel
theorem dX1_copyFrom_99 : decode cX1_copyFrom 99 = .ok (.aload_n 0, 1) := by decide +kernel
theorem dX1_copyFrom_100 : decode cX1_copyFrom 100 = .ok (.getfield 48, 3) := by decide +kernel
theorem dX1_copyFrom_103 : decode cX1_copyFrom 103 = .ok (.aload_n 1, 1) := by decide +kernel
theorem dX1_copyFrom_104 : decode cX1_copyFrom 104 = .ok (.getfield 48, 3) := by decide +kernel
theorem dX1_copyFrom_107 : decode cX1_copyFrom 107 = .ok (.invokevirtual 70, 3) := by decide +kernel
theorem dX1_copyFrom_110 : decode cX1_copyFrom 110 = .ok (.aload_n 0, 1) := by decide +kernel
theorem dX1_copyFrom_111 : decode cX1_copyFrom 111 = .ok (.getfield 51, 3) := by decide +kernel
theorem dX1_copyFrom_114 : decode cX1_copyFrom 114 = .ok (.aload_n 1, 1) := by decide +kernel
theorem dX1_copyFrom_115 : decode cX1_copyFrom 115 = .ok (.getfield 51, 3) := by decide +kernel
theorem dX1_copyFrom_118 : decode cX1_copyFrom 118 = .ok (.invokevirtual 70, 3) := by decide +kernel
theorem dX1_copyFrom_121 : decode cX1_copyFrom 121 = .ok (.aload_n 0, 1) := by decide +kernel
theorem dX1_copyFrom_122 : decode cX1_copyFrom 122 = .ok (.getfield 54, 3) := by decide +kernel
theorem dX1_copyFrom_125 : decode cX1_copyFrom 125 = .ok (.aload_n 1, 1) := by decide +kernel
theorem dX1_copyFrom_126 : decode cX1_copyFrom 126 = .ok (.getfield 54, 3) := by decide +kernel
theorem dX1_copyFrom_129 : decode cX1_copyFrom 129 = .ok (.invokevirtual 70, 3) := by decide +kernel
theorem dX1_copyFrom_132 : decode cX1_copyFrom 132 = .ok (.aload_n 0, 1) := by decide +kernel
theorem dX1_copyFrom_133 : decode cX1_copyFrom 133 = .ok (.getfield 57, 3) := by decide +kernel
theorem dX1_copyFrom_136 : decode cX1_copyFrom 136 = .ok (.aload_n 1, 1) := by decide +kernel
theorem dX1_copyFrom_137 : decode cX1_copyFrom 137 = .ok (.getfield 57, 3) := by decide +kernel
theorem dX1_copyFrom_140 : decode cX1_copyFrom 140 = .ok (.invokevirtual 70, 3) := by decide +kernel
theorem dX1_copyFrom_143 : decode cX1_copyFrom 143 = .ok (.aload_n 0, 1) := by decide +kernel
theorem dX1_copyFrom_144 : decode cX1_copyFrom 144 = .ok (.getfield 60, 3) := by decide +kernel
theorem dX1_copyFrom_147 : decode cX1_copyFrom 147 = .ok (.aload_n 1, 1) := by decide +kernel
theorem dX1_copyFrom_148 : decode cX1_copyFrom 148 = .ok (.getfield 60, 3) := by decide +kernel
theorem dX1_copyFrom_151 : decode cX1_copyFrom 151 = .ok (.invokevirtual 70, 3) := by decide +kernel
theorem dX1_copyFrom_154 : decode cX1_copyFrom 154 = .ok (.return_, 1) := by decide +kernel
theorem dX1_whyNoSight_0 : decode cX1_whyNoSight 0 = .ok (.iload_n 1, 1) := by decide +kernel
theorem dX1_whyNoSight_1 : decode cX1_whyNoSight 1 = .ok (.iconst 0, 1) := by decide +kernel
theorem dX1_whyNoSight_2 : decode cX1_whyNoSight 2 = .ok (.bipush 59, 2) := by decide +kernel
theorem dX1_whyNoSight_4 : decode cX1_whyNoSight 4 = .ok (.invokestatic 77, 3) := by decide +kernel
theorem dX1_whyNoSight_7 : decode cX1_whyNoSight 7 = .ok (.ifCond .eq 58, 3) := by decide +kernel
theorem dX1_whyNoSight_10 : decode cX1_whyNoSight 10 = .ok (.iload_n 2, 1) := by decide +kernel
theorem dX1_whyNoSight_11 : decode cX1_whyNoSight 11 = .ok (.iconst 0, 1) := by decide +kernel
theorem dX1_whyNoSight_12 : decode cX1_whyNoSight 12 = .ok (.sipush 1439, 3) := by decide +kernel
theorem dX1_whyNoSight_15 : decode cX1_whyNoSight 15 = .ok (.invokestatic 77, 3) := by decide +kernel
theorem dX1_whyNoSight_18 : decode cX1_whyNoSight 18 = .ok (.ifCond .eq 47, 3) := by decide +kernel
theorem dX1_whyNoSight_21 : decode cX1_whyNoSight 21 = .ok (.iload_n 3, 1) := by decide +kernel
theorem dX1_whyNoSight_22 : decode cX1_whyNoSight 22 = .ok (.iconst 0, 1) := by decide +kernel
theorem dX1_whyNoSight_23 : decode cX1_whyNoSight 23 = .ok (.bipush 23, 2) := by decide +kernel
theorem dX1_whyNoSight_25 : decode cX1_whyNoSight 25 = .ok (.invokestatic 77, 3) := by decide +kernel
theorem dX1_whyNoSight_28 : decode cX1_whyNoSight 28 = .ok (.ifCond .eq 37, 3) := by decide +kernel
theorem dX1_whyNoSight_31 : decode cX1_whyNoSight 31 = .ok (.iload 5, 2) := by decide +kernel
theorem dX1_whyNoSight_33 : decode cX1_whyNoSight 33 = .ok (.iconst 0, 1) := by decide +kernel
theorem dX1_whyNoSight_34 : decode cX1_whyNoSight 34 = .ok (.bipush 9, 2) := by decide +kernel
theorem dX1_whyNoSight_36 : decode cX1_whyNoSight 36 = .ok (.invokestatic 77, 3) := by decide +kernel
theorem dX1_whyNoSight_39 : decode cX1_whyNoSight 39 = .ok (.ifCond .eq 26, 3) := by decide +kernel
theorem dX1_whyNoSight_42 : decode cX1_whyNoSight 42 = .ok (.iload 6, 2) := by decide +kernel
theorem dX1_whyNoSight_44 : decode cX1_whyNoSight 44 = .ok (.iconst 1, 1) := by decide +kernel
theorem dX1_whyNoSight_45 : decode cX1_whyNoSight 45 = .ok (.sipush 200, 3) := by decide +kernel
theorem dX1_whyNoSight_48 : decode cX1_whyNoSight 48 = .ok (.invokestatic 77, 3) := by decide +kernel
theorem dX1_whyNoSight_51 : decode cX1_whyNoSight 51 = .ok (.ifCond .eq 14, 3) := by decide +kernel
theorem dX1_whyNoSight_54 : decode cX1_whyNoSight 54 = .ok (.iload 7, 2) := by decide +kernel
theorem dX1_whyNoSight_56 : decode cX1_whyNoSight 56 = .ok (.iload_n 1, 1) := by decide +kernel
theorem dX1_whyNoSight_57 : decode cX1_whyNoSight 57 = .ok (.bipush 59, 2) := by decide +kernel
theorem dX1_whyNoSight_59 : decode cX1_whyNoSight 59 = .ok (.invokestatic 77, 3) := by decide +kernel
theorem dX1_whyNoSight_62 : decode cX1_whyNoSight 62 = .ok (.ifCond .ne 5, 3) := by decide +kernel
theorem dX1_whyNoSight_65 : decode cX1_whyNoSight 65 = .ok (.iconst (-1), 1) := by decide +kernel
theorem dX1_whyNoSight_66 : decode cX1_whyNoSight 66 = .ok (.ireturn, 1) := by decide +kernel
theorem dX1_whyNoSight_67 : decode cX1_whyNoSight 67 = .ok (.aload_n 0, 1) := by decide +kernel
theorem dX1_whyNoSight_68 : decode cX1_whyNoSight 68 = .ok (.getfield 29, 3) := by decide +kernel
theorem dX1_whyNoSight_71 : decode cX1_whyNoSight 71 = .ok (.iload 4, 2) := by decide +kernel
theorem dX1_whyNoSight_73 : decode cX1_whyNoSight 73 = .ok (.invokevirtual 81, 3) := by decide +kernel
theorem dX1_whyNoSight_76 : decode cX1_whyNoSight 76 = .ok (.ifCond .ne 6, 3) := by decide +kernel
theorem dX1_whyNoSight_79 : decode cX1_whyNoSight 79 = .ok (.bipush (-2), 2) := by decide +kernel
theorem dX1_whyNoSight_81 : decode cX1_whyNoSight 81 = .ok (.ireturn, 1) := by decide +kernel
theorem dX1_whyNoSight_82 : decode cX1_whyNoSight 82 = .ok (.aload_n 0, 1) := by decide +kernel
theorem dX1_whyNoSight_83 : decode cX1_whyNoSight 83 = .ok (.getfield 35, 3) := by decide +kernel
theorem dX1_whyNoSight_86 : decode cX1_whyNoSight 86 = .ok (.invokevirtual 85, 3) := by decide +kernel
theorem dX1_whyNoSight_89 : decode cX1_whyNoSight 89 = .ok (.ifCond .eq 8, 3) := by decide +kernel
theorem dX1_whyNoSight_92 : decode cX1_whyNoSight 92 = .ok (.bipush (-5), 2) := by decide +kernel
theorem dX1_whyNoSight_94 : decode cX1_whyNoSight 94 = .ok (.goto 4, 3) := by decide +kernel
theorem dX1_whyNoSight_97 : decode cX1_whyNoSight 97 = .ok (.iconst 0, 1) := by decide +kernel
theorem dX1_whyNoSight_98 : decode cX1_whyNoSight 98 = .ok (.ireturn, 1) := by decide +kernel
theorem dX1_addSight_0 : decode cX1_addSight 0 = .ok (.aload_n 0, 1) := by decide +kernel
theorem dX1_addSight_1 : decode cX1_addSight 1 = .ok (.getfield 35, 3) := by decide +kernel
theorem dX1_addSight_4 : decode cX1_addSight 4 = .ok (.iload_n 1, 1) := by decide +kernel
theorem dX1_addSight_5 : decode cX1_addSight 5 = .ok (.iload_n 2, 1) := by decide +kernel
theorem dX1_addSight_6 : decode cX1_addSight 6 = .ok (.iload_n 3, 1) := by decide +kernel
theorem dX1_addSight_7 : decode cX1_addSight 7 = .ok (.iload 4, 2) := by decide +kernel
theorem dX1_addSight_9 : decode cX1_addSight 9 = .ok (.invokevirtual 89, 3) := by decide +kernel
theorem dX1_addSight_12 : decode cX1_addSight 12 = .ok (.istore 8, 2) := by decide +kernel
theorem dX1_addSight_14 : decode cX1_addSight 14 = .ok (.aload_n 0, 1) := by decide +kernel
theorem dX1_addSight_15 : decode cX1_addSight 15 = .ok (.getfield 35, 3) := by decide +kernel
theorem dX1_addSight_18 : decode cX1_addSight 18 = .ok (.iload 8, 2) := by decide +kernel
theorem dX1_addSight_20 : decode cX1_addSight 20 = .ok (.iconst 4, 1) := by decide +kernel
theorem dX1_addSight_21 : decode cX1_addSight 21 = .ok (.iload 5, 2) := by decide +kernel
theorem dX1_addSight_23 : decode cX1_addSight 23 = .ok (.invokevirtual 66, 3) := by decide +kernel
theorem dX1_addSight_26 : decode cX1_addSight 26 = .ok (.aload_n 0, 1) := by decide +kernel
theorem dX1_addSight_27 : decode cX1_addSight 27 = .ok (.getfield 35, 3) := by decide +kernel
theorem dX1_addSight_30 : decode cX1_addSight 30 = .ok (.iload 8, 2) := by decide +kernel
theorem dX1_addSight_32 : decode cX1_addSight 32 = .ok (.iconst 5, 1) := by decide +kernel
theorem dX1_addSight_33 : decode cX1_addSight 33 = .ok (.iload 6, 2) := by decide +kernel
theorem dX1_addSight_35 : decode cX1_addSight 35 = .ok (.invokevirtual 66, 3) := by decide +kernel
theorem dX1_addSight_38 : decode cX1_addSight 38 = .ok (.aload_n 0, 1) := by decide +kernel
theorem dX1_addSight_39 : decode cX1_addSight 39 = .ok (.getfield 35, 3) := by decide +kernel
theorem dX1_addSight_42 : decode cX1_addSight 42 = .ok (.iload 8, 2) := by decide +kernel
theorem dX1_addSight_44 : decode cX1_addSight 44 = .ok (.bipush 6, 2) := by decide +kernel
theorem dX1_addSight_46 : decode cX1_addSight 46 = .ok (.iload 7, 2) := by decide +kernel
theorem dX1_addSight_48 : decode cX1_addSight 48 = .ok (.invokevirtual 66, 3) := by decide +kernel
theorem dX1_addSight_51 : decode cX1_addSight 51 = .ok (.iload 8, 2) := by decide +kernel
theorem dX1_addSight_53 : decode cX1_addSight 53 = .ok (.ireturn, 1) := by decide +kernel
theorem dX1_goneAtSight_0 : decode cX1_goneAtSight 0 = .ok (.aload_n 0, 1) := by decide +kernel
theorem dX1_goneAtSight_1 : decode cX1_goneAtSight 1 = .ok (.getfield 35, 3) := by decide +kernel
theorem dX1_goneAtSight_4 : decode cX1_goneAtSight 4 = .ok (.iload_n 1, 1) := by decide +kernel
theorem dX1_goneAtSight_5 : decode cX1_goneAtSight 5 = .ok (.iconst 1, 1) := by decide +kernel
theorem dX1_goneAtSight_6 : decode cX1_goneAtSight 6 = .ok (.invokevirtual 93, 3) := by decide +kernel
theorem dX1_goneAtSight_9 : decode cX1_goneAtSight 9 = .ok (.istore_n 2, 1) := by decide +kernel
theorem dX1_goneAtSight_10 : decode cX1_goneAtSight 10 = .ok (.iconst (-1), 1) := by decide +kernel
theorem dX1_goneAtSight_11 : decode cX1_goneAtSight 11 = .ok (.istore_n 3, 1) := by decide +kernel
theorem dX1_goneAtSight_12 : decode cX1_goneAtSight 12 = .ok (.iconst 0, 1) := by decide +kernel
theorem dX1_goneAtSight_13 : decode cX1_goneAtSight 13 = .ok (.istore 4, 2) := by decide +kernel
theorem dX1_goneAtSight_15 : decode cX1_goneAtSight 15 = .ok (.iload 4, 2) := by decide +kernel
theorem dX1_goneAtSight_17 : decode cX1_goneAtSight 17 = .ok (.aload_n 0, 1) := by decide +kernel
theorem dX1_goneAtSight_18 : decode cX1_goneAtSight 18 = .ok (.getfield 20, 3) := by decide +kernel
theorem dX1_goneAtSight_21 : decode cX1_goneAtSight 21 = .ok (.invokevirtual 97, 3) := by decide +kernel
theorem dX1_goneAtSight_24 : decode cX1_goneAtSight 24 = .ok (.if_icmp .ge 61, 3) := by decide +kernel
theorem dX1_goneAtSight_27 : decode cX1_goneAtSight 27 = .ok (.aload_n 0, 1) := by decide +kernel
theorem dX1_goneAtSight_28 : decode cX1_goneAtSight 28 = .ok (.getfield 20, 3) := by decide +kernel
theorem dX1_goneAtSight_31 : decode cX1_goneAtSight 31 = .ok (.iload 4, 2) := by decide +kernel
theorem dX1_goneAtSight_33 : decode cX1_goneAtSight 33 = .ok (.iconst 0, 1) := by decide +kernel
theorem dX1_goneAtSight_34 : decode cX1_goneAtSight 34 = .ok (.invokevirtual 93, 3) := by decide +kernel
theorem dX1_goneAtSight_37 : decode cX1_goneAtSight 37 = .ok (.aload_n 0, 1) := by decide +kernel
theorem dX1_goneAtSight_38 : decode cX1_goneAtSight 38 = .ok (.getfield 35, 3) := by decide +kernel
theorem dX1_goneAtSight_41 : decode cX1_goneAtSight 41 = .ok (.iload_n 1, 1) := by decide +kernel
theorem dX1_goneAtSight_42 : decode cX1_goneAtSight 42 = .ok (.iconst 0, 1) := by decide +kernel
theorem dX1_goneAtSight_43 : decode cX1_goneAtSight 43 = .ok (.invokevirtual 93, 3) := by decide +kernel
theorem dX1_goneAtSight_46 : decode cX1_goneAtSight 46 = .ok (.if_icmp .ne 33, 3) := by decide +kernel
theorem dX1_goneAtSight_49 : decode cX1_goneAtSight 49 = .ok (.aload_n 0, 1) := by decide +kernel
theorem dX1_goneAtSight_50 : decode cX1_goneAtSight 50 = .ok (.iload 4, 2) := by decide +kernel
theorem dX1_goneAtSight_52 : decode cX1_goneAtSight 52 = .ok (.aload_n 0, 1) := by decide +kernel
theorem dX1_goneAtSight_53 : decode cX1_goneAtSight 53 = .ok (.getfield 35, 3) := by decide +kernel
theorem dX1_goneAtSight_56 : decode cX1_goneAtSight 56 = .ok (.iload_n 1, 1) := by decide +kernel
theorem dX1_goneAtSight_57 : decode cX1_goneAtSight 57 = .ok (.iconst 2, 1) := by decide +kernel
theorem dX1_goneAtSight_58 : decode cX1_goneAtSight 58 = .ok (.invokevirtual 93, 3) := by decide +kernel
theorem dX1_goneAtSight_61 : decode cX1_goneAtSight 61 = .ok (.invokevirtual 101, 3) := by decide +kernel
theorem dX1_goneAtSight_64 : decode cX1_goneAtSight 64 = .ok (.istore 5, 2) := by decide +kernel
theorem dX1_goneAtSight_66 : decode cX1_goneAtSight 66 = .ok (.iload 5, 2) := by decide +kernel
theorem dX1_goneAtSight_68 : decode cX1_goneAtSight 68 = .ok (.iload_n 2, 1) := by decide +kernel
theorem dX1_goneAtSight_69 : decode cX1_goneAtSight 69 = .ok (.if_icmp .gt 10, 3) := by decide +kernel
theorem dX1_goneAtSight_72 : decode cX1_goneAtSight 72 = .ok (.iload_n 3, 1) := by decide +kernel
theorem dX1_goneAtSight_73 : decode cX1_goneAtSight 73 = .ok (.iload 5, 2) := by decide +kernel
theorem dX1_goneAtSight_75 : decode cX1_goneAtSight 75 = .ok (.invokestatic 104, 3) := by decide +kernel
theorem dX1_goneAtSight_78 : decode cX1_goneAtSight 78 = .ok (.istore_n 3, 1) := by decide +kernel
theorem dX1_goneAtSight_79 : decode cX1_goneAtSight 79 = .ok (.iinc 4 1, 3) := by decide +kernel
theorem dX1_goneAtSight_82 : decode cX1_goneAtSight 82 = .ok (.goto (-67), 3) := by decide +kernel
theorem dX1_goneAtSight_85 : decode cX1_goneAtSight 85 = .ok (.iload_n 3, 1) := by decide +kernel
theorem dX1_goneAtSight_86 : decode cX1_goneAtSight 86 = .ok (.iconst (-1), 1) := by decide +kernel
theorem dX1_goneAtSight_87 : decode cX1_goneAtSight 87 = .ok (.if_icmp .ne 7, 3) := by decide +kernel
theorem dX1_goneAtSight_90 : decode cX1_goneAtSight 90 = .ok (.iconst 0, 1) := by decide +kernel
theorem dX1_goneAtSight_91 : decode cX1_goneAtSight 91 = .ok (.goto 6, 3) := by decide +kernel
theorem dX1_goneAtSight_94 : decode cX1_goneAtSight 94 = .ok (.iload_n 2, 1) := by decide +kernel
theorem dX1_goneAtSight_95 : decode cX1_goneAtSight 95 = .ok (.iload_n 3, 1) := by decide +kernel
theorem dX1_goneAtSight_96 : decode cX1_goneAtSight 96 = .ok (.isub, 1) := by decide +kernel
theorem dX1_goneAtSight_97 : decode cX1_goneAtSight 97 = .ok (.ireturn, 1) := by decide +kernel
theorem dX1_minuteOfPassing_0 : decode cX1_minuteOfPassing 0 = .ok (.aload_n 0, 1) := by decide +kernel
theorem dX1_minuteOfPassing_1 : decode cX1_minuteOfPassing 1 = .ok (.getfield 20, 3) := by decide +kernel
theorem dX1_minuteOfPassing_4 : decode cX1_minuteOfPassing 4 = .ok (.iload_n 1, 1) := by decide +kernel
theorem dX1_minuteOfPassing_5 : decode cX1_minuteOfPassing 5 = .ok (.iconst 1, 1) := by decide +kernel
theorem dX1_minuteOfPassing_6 : decode cX1_minuteOfPassing 6 = .ok (.invokevirtual 93, 3) := by decide +kernel
theorem dX1_minuteOfPassing_9 : decode cX1_minuteOfPassing 9 = .ok (.ifCond .ne 7, 3) := by decide +kernel
theorem dX1_minuteOfPassing_12 : decode cX1_minuteOfPassing 12 = .ok (.iload_n 2, 1) := by decide +kernel
theorem dX1_minuteOfPassing_13 : decode cX1_minuteOfPassing 13 = .ok (.goto 7, 3) := by decide +kernel
theorem dX1_minuteOfPassing_16 : decode cX1_minuteOfPassing 16 = .ok (.bipush 23, 2) := by decide +kernel
theorem dX1_minuteOfPassing_18 : decode cX1_minuteOfPassing 18 = .ok (.iload_n 2, 1) := by decide +kernel
theorem dX1_minuteOfPassing_19 : decode cX1_minuteOfPassing 19 = .ok (.isub, 1) := by decide +kernel
theorem dX1_minuteOfPassing_20 : decode cX1_minuteOfPassing 20 = .ok (.istore_n 3, 1) := by decide +kernel
theorem dX1_minuteOfPassing_21 : decode cX1_minuteOfPassing 21 = .ok (.aload_n 0, 1) := by decide +kernel
theorem dX1_minuteOfPassing_22 : decode cX1_minuteOfPassing 22 = .ok (.getfield 20, 3) := by decide +kernel
theorem dX1_minuteOfPassing_25 : decode cX1_minuteOfPassing 25 = .ok (.iload_n 1, 1) := by decide +kernel
theorem dX1_minuteOfPassing_26 : decode cX1_minuteOfPassing 26 = .ok (.iconst 2, 1) := by decide +kernel
theorem dX1_minuteOfPassing_27 : decode cX1_minuteOfPassing 27 = .ok (.invokevirtual 93, 3) := by decide +kernel
theorem dX1_minuteOfPassing_30 : decode cX1_minuteOfPassing 30 = .ok (.iload_n 3, 1) := by decide +kernel
theorem dX1_minuteOfPassing_31 : decode cX1_minuteOfPassing 31 = .ok (.aload_n 0, 1) := by decide +kernel
theorem dX1_minuteOfPassing_32 : decode cX1_minuteOfPassing 32 = .ok (.getfield 20, 3) := by decide +kernel
theorem dX1_minuteOfPassing_35 : decode cX1_minuteOfPassing 35 = .ok (.iload_n 1, 1) := by decide +kernel
theorem dX1_minuteOfPassing_36 : decode cX1_minuteOfPassing 36 = .ok (.iconst 3, 1) := by decide +kernel
theorem dX1_minuteOfPassing_37 : decode cX1_minuteOfPassing 37 = .ok (.invokevirtual 93, 3) := by decide +kernel
theorem dX1_minuteOfPassing_40 : decode cX1_minuteOfPassing 40 = .ok (.imul, 1) := by decide +kernel
theorem dX1_minuteOfPassing_41 : decode cX1_minuteOfPassing 41 = .ok (.iadd, 1) := by decide +kernel
theorem dX1_minuteOfPassing_42 : decode cX1_minuteOfPassing 42 = .ok (.ireturn, 1) := by decide +kernel
theorem dX1_hasBoatOn_0 : decode cX1_hasBoatOn 0 = .ok (.iconst 0, 1) := by decide +kernel
theorem dX1_hasBoatOn_1 : decode cX1_hasBoatOn 1 = .ok (.istore_n 2, 1) := by decide +kernel
theorem dX1_hasBoatOn_2 : decode cX1_hasBoatOn 2 = .ok (.iload_n 2, 1) := by decide +kernel
theorem dX1_hasBoatOn_3 : decode cX1_hasBoatOn 3 = .ok (.aload_n 0, 1) := by decide +kernel
theorem dX1_hasBoatOn_4 : decode cX1_hasBoatOn 4 = .ok (.getfield 20, 3) := by decide +kernel
theorem dX1_hasBoatOn_7 : decode cX1_hasBoatOn 7 = .ok (.invokevirtual 97, 3) := by decide +kernel
theorem dX1_hasBoatOn_10 : decode cX1_hasBoatOn 10 = .ok (.if_icmp .ge 24, 3) := by decide +kernel
theorem dX1_hasBoatOn_13 : decode cX1_hasBoatOn 13 = .ok (.aload_n 0, 1) := by decide +kernel
theorem dX1_hasBoatOn_14 : decode cX1_hasBoatOn 14 = .ok (.getfield 20, 3) := by decide +kernel
theorem dX1_hasBoatOn_17 : decode cX1_hasBoatOn 17 = .ok (.iload_n 2, 1) := by decide +kernel
theorem dX1_hasBoatOn_18 : decode cX1_hasBoatOn 18 = .ok (.iconst 0, 1) := by decide +kernel
theorem dX1_hasBoatOn_19 : decode cX1_hasBoatOn 19 = .ok (.invokevirtual 93, 3) := by decide +kernel
theorem dX1_hasBoatOn_22 : decode cX1_hasBoatOn 22 = .ok (.iload_n 1, 1) := by decide +kernel
theorem dX1_hasBoatOn_23 : decode cX1_hasBoatOn 23 = .ok (.if_icmp .ne 5, 3) := by decide +kernel
theorem dX1_hasBoatOn_26 : decode cX1_hasBoatOn 26 = .ok (.iconst 1, 1) := by decide +kernel
theorem dX1_hasBoatOn_27 : decode cX1_hasBoatOn 27 = .ok (.ireturn, 1) := by decide +kernel
theorem dX1_hasBoatOn_28 : decode cX1_hasBoatOn 28 = .ok (.iinc 2 1, 3) := by decide +kernel
theorem dX1_hasBoatOn_31 : decode cX1_hasBoatOn 31 = .ok (.goto (-29), 3) := by decide +kernel
theorem dX1_hasBoatOn_34 : decode cX1_hasBoatOn 34 = .ok (.iconst 0, 1) := by decide +kernel
theorem dX1_hasBoatOn_35 : decode cX1_hasBoatOn 35 = .ok (.ireturn, 1) := by decide +kernel
theorem dX1_causesOf_0 : decode cX1_causesOf 0 = .ok (.bipush 16, 2) := by decide +kernel
theorem dX1_causesOf_2 : decode cX1_causesOf 2 = .ok (.istore_n 2, 1) := by decide +kernel
theorem dX1_causesOf_3 : decode cX1_causesOf 3 = .ok (.aload_n 0, 1) := by decide +kernel
theorem dX1_causesOf_4 : decode cX1_causesOf 4 = .ok (.iload_n 1, 1) := by decide +kernel
theorem dX1_causesOf_5 : decode cX1_causesOf 5 = .ok (.invokevirtual 109, 3) := by decide +kernel
theorem dX1_causesOf_8 : decode cX1_causesOf 8 = .ok (.iconst 1, 1) := by decide +kernel
theorem dX1_causesOf_9 : decode cX1_causesOf 9 = .ok (.bipush 60, 2) := by decide +kernel
theorem dX1_causesOf_11 : decode cX1_causesOf 11 = .ok (.invokestatic 77, 3) := by decide +kernel
theorem dX1_causesOf_14 : decode cX1_causesOf 14 = .ok (.ifCond .eq 7, 3) := by decide +kernel
theorem dX1_causesOf_17 : decode cX1_causesOf 17 = .ok (.iload_n 2, 1) := by decide +kernel
theorem dX1_causesOf_18 : decode cX1_causesOf 18 = .ok (.iconst 1, 1) := by decide +kernel
theorem dX1_causesOf_19 : decode cX1_causesOf 19 = .ok (.ior, 1) := by decide +kernel
theorem dX1_causesOf_20 : decode cX1_causesOf 20 = .ok (.istore_n 2, 1) := by decide +kernel
theorem dX1_causesOf_21 : decode cX1_causesOf 21 = .ok (.aload_n 0, 1) := by decide +kernel
theorem dX1_causesOf_22 : decode cX1_causesOf 22 = .ok (.iload_n 1, 1) := by decide +kernel
theorem dX1_causesOf_23 : decode cX1_causesOf 23 = .ok (.invokevirtual 113, 3) := by decide +kernel
theorem dX1_causesOf_26 : decode cX1_causesOf 26 = .ok (.ifCond .eq 7, 3) := by decide +kernel
theorem dX1_causesOf_29 : decode cX1_causesOf 29 = .ok (.iload_n 2, 1) := by decide +kernel
theorem dX1_causesOf_30 : decode cX1_causesOf 30 = .ok (.iconst 2, 1) := by decide +kernel
theorem dX1_causesOf_31 : decode cX1_causesOf 31 = .ok (.ior, 1) := by decide +kernel
theorem dX1_causesOf_32 : decode cX1_causesOf 32 = .ok (.istore_n 2, 1) := by decide +kernel
theorem dX1_causesOf_33 : decode cX1_causesOf 33 = .ok (.aload_n 0, 1) := by decide +kernel
theorem dX1_causesOf_34 : decode cX1_causesOf 34 = .ok (.iload_n 1, 1) := by decide +kernel
theorem dX1_causesOf_35 : decode cX1_causesOf 35 = .ok (.invokevirtual 116, 3) := by decide +kernel
theorem dX1_causesOf_38 : decode cX1_causesOf 38 = .ok (.ifCond .eq 7, 3) := by decide +kernel
theorem dX1_causesOf_41 : decode cX1_causesOf 41 = .ok (.iload_n 2, 1) := by decide +kernel
theorem dX1_causesOf_42 : decode cX1_causesOf 42 = .ok (.iconst 4, 1) := by decide +kernel
theorem dX1_causesOf_43 : decode cX1_causesOf 43 = .ok (.ior, 1) := by decide +kernel
theorem dX1_causesOf_44 : decode cX1_causesOf 44 = .ok (.istore_n 2, 1) := by decide +kernel
theorem dX1_causesOf_45 : decode cX1_causesOf 45 = .ok (.aload_n 0, 1) := by decide +kernel
theorem dX1_causesOf_46 : decode cX1_causesOf 46 = .ok (.getfield 14, 3) := by decide +kernel
theorem dX1_causesOf_49 : decode cX1_causesOf 49 = .ok (.aload_n 0, 1) := by decide +kernel
theorem dX1_causesOf_50 : decode cX1_causesOf 50 = .ok (.getfield 35, 3) := by decide +kernel
theorem dX1_causesOf_53 : decode cX1_causesOf 53 = .ok (.iload_n 1, 1) := by decide +kernel
theorem dX1_causesOf_54 : decode cX1_causesOf 54 = .ok (.iconst 0, 1) := by decide +kernel
theorem dX1_causesOf_55 : decode cX1_causesOf 55 = .ok (.invokevirtual 93, 3) := by decide +kernel
theorem dX1_causesOf_58 : decode cX1_causesOf 58 = .ok (.iconst 1, 1) := by decide +kernel
theorem dX1_causesOf_59 : decode cX1_causesOf 59 = .ok (.invokevirtual 93, 3) := by decide +kernel
theorem dX1_causesOf_62 : decode cX1_causesOf 62 = .ok (.ifCond .le 8, 3) := by decide +kernel
theorem dX1_causesOf_65 : decode cX1_causesOf 65 = .ok (.iload_n 2, 1) := by decide +kernel
theorem dX1_causesOf_66 : decode cX1_causesOf 66 = .ok (.bipush 8, 2) := by decide +kernel
theorem dX1_causesOf_68 : decode cX1_causesOf 68 = .ok (.ior, 1) := by decide +kernel
theorem dX1_causesOf_69 : decode cX1_causesOf 69 = .ok (.istore_n 2, 1) := by decide +kernel
theorem dX1_causesOf_70 : decode cX1_causesOf 70 = .ok (.iload_n 2, 1) := by decide +kernel
theorem dX1_causesOf_71 : decode cX1_causesOf 71 = .ok (.ireturn, 1) := by decide +kernel
theorem dX1_hasBeastAt_0 : decode cX1_hasBeastAt 0 = .ok (.iconst 0, 1) := by decide +kernel
theorem dX1_hasBeastAt_1 : decode cX1_hasBeastAt 1 = .ok (.istore_n 2, 1) := by decide +kernel
theorem dX1_hasBeastAt_2 : decode cX1_hasBeastAt 2 = .ok (.iload_n 2, 1) := by decide +kernel
theorem dX1_hasBeastAt_3 : decode cX1_hasBeastAt 3 = .ok (.aload_n 0, 1) := by decide +kernel
theorem dX1_hasBeastAt_4 : decode cX1_hasBeastAt 4 = .ok (.getfield 23, 3) := by decide +kernel
theorem dX1_hasBeastAt_7 : decode cX1_hasBeastAt 7 = .ok (.invokevirtual 97, 3) := by decide +kernel
theorem dX1_hasBeastAt_10 : decode cX1_hasBeastAt 10 = .ok (.if_icmp .ge 113, 3) := by decide +kernel
theorem dX1_hasBeastAt_13 : decode cX1_hasBeastAt 13 = .ok (.aload_n 0, 1) := by decide +kernel
theorem dX1_hasBeastAt_14 : decode cX1_hasBeastAt 14 = .ok (.getfield 23, 3) := by decide +kernel
theorem dX1_hasBeastAt_17 : decode cX1_hasBeastAt 17 = .ok (.iload_n 2, 1) := by decide +kernel
theorem dX1_hasBeastAt_18 : decode cX1_hasBeastAt 18 = .ok (.iconst 0, 1) := by decide +kernel
theorem dX1_hasBeastAt_19 : decode cX1_hasBeastAt 19 = .ok (.invokevirtual 93, 3) := by decide +kernel
theorem dX1_hasBeastAt_22 : decode cX1_hasBeastAt 22 = .ok (.aload_n 0, 1) := by decide +kernel
theorem dX1_hasBeastAt_23 : decode cX1_hasBeastAt 23 = .ok (.getfield 35, 3) := by decide +kernel
theorem dX1_hasBeastAt_26 : decode cX1_hasBeastAt 26 = .ok (.iload_n 1, 1) := by decide +kernel
theorem dX1_hasBeastAt_27 : decode cX1_hasBeastAt 27 = .ok (.iconst 0, 1) := by decide +kernel
theorem dX1_hasBeastAt_28 : decode cX1_hasBeastAt 28 = .ok (.invokevirtual 93, 3) := by decide +kernel
theorem dX1_hasBeastAt_31 : decode cX1_hasBeastAt 31 = .ok (.if_icmp .ne 7, 3) := by decide +kernel
theorem dX1_hasBeastAt_34 : decode cX1_hasBeastAt 34 = .ok (.iconst 1, 1) := by decide +kernel
theorem dX1_hasBeastAt_35 : decode cX1_hasBeastAt 35 = .ok (.goto 4, 3) := by decide +kernel
theorem dX1_hasBeastAt_38 : decode cX1_hasBeastAt 38 = .ok (.iconst 0, 1) := by decide +kernel
theorem dX1_hasBeastAt_39 : decode cX1_hasBeastAt 39 = .ok (.istore_n 3, 1) := by decide +kernel
theorem dX1_hasBeastAt_40 : decode cX1_hasBeastAt 40 = .ok (.aload_n 0, 1) := by decide +kernel
theorem dX1_hasBeastAt_41 : decode cX1_hasBeastAt 41 = .ok (.getfield 23, 3) := by decide +kernel
theorem dX1_hasBeastAt_44 : decode cX1_hasBeastAt 44 = .ok (.iload_n 2, 1) := by decide +kernel
theorem dX1_hasBeastAt_45 : decode cX1_hasBeastAt 45 = .ok (.iconst 1, 1) := by decide +kernel
theorem dX1_hasBeastAt_46 : decode cX1_hasBeastAt 46 = .ok (.invokevirtual 93, 3) := by decide +kernel
theorem dX1_hasBeastAt_49 : decode cX1_hasBeastAt 49 = .ok (.aload_n 0, 1) := by decide +kernel
theorem dX1_hasBeastAt_50 : decode cX1_hasBeastAt 50 = .ok (.getfield 35, 3) := by decide +kernel
theorem dX1_hasBeastAt_53 : decode cX1_hasBeastAt 53 = .ok (.iload_n 1, 1) := by decide +kernel
theorem dX1_hasBeastAt_54 : decode cX1_hasBeastAt 54 = .ok (.iconst 2, 1) := by decide +kernel
theorem dX1_hasBeastAt_55 : decode cX1_hasBeastAt 55 = .ok (.invokevirtual 93, 3) := by decide +kernel
theorem dX1_hasBeastAt_58 : decode cX1_hasBeastAt 58 = .ok (.isub, 1) := by decide +kernel
theorem dX1_hasBeastAt_59 : decode cX1_hasBeastAt 59 = .ok (.invokestatic 119, 3) := by decide +kernel
theorem dX1_hasBeastAt_62 : decode cX1_hasBeastAt 62 = .ok (.istore 4, 2) := by decide +kernel
theorem dX1_hasBeastAt_64 : decode cX1_hasBeastAt 64 = .ok (.aload_n 0, 1) := by decide +kernel
theorem dX1_hasBeastAt_65 : decode cX1_hasBeastAt 65 = .ok (.getfield 23, 3) := by decide +kernel
theorem dX1_hasBeastAt_68 : decode cX1_hasBeastAt 68 = .ok (.iload_n 2, 1) := by decide +kernel
theorem dX1_hasBeastAt_69 : decode cX1_hasBeastAt 69 = .ok (.iconst 2, 1) := by decide +kernel
theorem dX1_hasBeastAt_70 : decode cX1_hasBeastAt 70 = .ok (.invokevirtual 93, 3) := by decide +kernel
theorem dX1_hasBeastAt_73 : decode cX1_hasBeastAt 73 = .ok (.istore 5, 2) := by decide +kernel
theorem dX1_hasBeastAt_75 : decode cX1_hasBeastAt 75 = .ok (.aload_n 0, 1) := by decide +kernel
theorem dX1_hasBeastAt_76 : decode cX1_hasBeastAt 76 = .ok (.getfield 23, 3) := by decide +kernel
theorem dX1_hasBeastAt_79 : decode cX1_hasBeastAt 79 = .ok (.iload_n 2, 1) := by decide +kernel
theorem dX1_hasBeastAt_80 : decode cX1_hasBeastAt 80 = .ok (.iconst 3, 1) := by decide +kernel
theorem dX1_hasBeastAt_81 : decode cX1_hasBeastAt 81 = .ok (.invokevirtual 93, 3) := by decide +kernel
theorem dX1_hasBeastAt_84 : decode cX1_hasBeastAt 84 = .ok (.istore 6, 2) := by decide +kernel
theorem dX1_hasBeastAt_86 : decode cX1_hasBeastAt 86 = .ok (.iload_n 3, 1) := by decide +kernel
theorem dX1_hasBeastAt_87 : decode cX1_hasBeastAt 87 = .ok (.ifCond .eq 30, 3) := by decide +kernel
theorem dX1_hasBeastAt_90 : decode cX1_hasBeastAt 90 = .ok (.iload 4, 2) := by decide +kernel
theorem dX1_hasBeastAt_92 : decode cX1_hasBeastAt 92 = .ok (.iconst 1, 1) := by decide +kernel
theorem dX1_hasBeastAt_93 : decode cX1_hasBeastAt 93 = .ok (.if_icmp .gt 24, 3) := by decide +kernel
theorem dX1_hasBeastAt_96 : decode cX1_hasBeastAt 96 = .ok (.aload_n 0, 1) := by decide +kernel
theorem dX1_hasBeastAt_97 : decode cX1_hasBeastAt 97 = .ok (.getfield 35, 3) := by decide +kernel
theorem dX1_hasBeastAt_100 : decode cX1_hasBeastAt 100 = .ok (.iload_n 1, 1) := by decide +kernel
theorem dX1_hasBeastAt_101 : decode cX1_hasBeastAt 101 = .ok (.iconst 1, 1) := by decide +kernel
theorem dX1_hasBeastAt_102 : decode cX1_hasBeastAt 102 = .ok (.invokevirtual 93, 3) := by decide +kernel
theorem dX1_hasBeastAt_105 : decode cX1_hasBeastAt 105 = .ok (.iload 5, 2) := by decide +kernel
theorem dX1_hasBeastAt_107 : decode cX1_hasBeastAt 107 = .ok (.iload 6, 2) := by decide +kernel
theorem dX1_hasBeastAt_109 : decode cX1_hasBeastAt 109 = .ok (.invokestatic 77, 3) := by decide +kernel
theorem dX1_hasBeastAt_112 : decode cX1_hasBeastAt 112 = .ok (.ifCond .eq 5, 3) := by decide +kernel
theorem dX1_hasBeastAt_115 : decode cX1_hasBeastAt 115 = .ok (.iconst 1, 1) := by decide +kernel
theorem dX1_hasBeastAt_116 : decode cX1_hasBeastAt 116 = .ok (.ireturn, 1) := by decide +kernel
theorem dX1_hasBeastAt_117 : decode cX1_hasBeastAt 117 = .ok (.iinc 2 1, 3) := by decide +kernel
theorem dX1_hasBeastAt_120 : decode cX1_hasBeastAt 120 = .ok (.goto (-118), 3) := by decide +kernel
theorem dX1_hasBeastAt_123 : decode cX1_hasBeastAt 123 = .ok (.iconst 0, 1) := by decide +kernel
theorem dX1_hasBeastAt_124 : decode cX1_hasBeastAt 124 = .ok (.ireturn, 1) := by decide +kernel
theorem dX1_hasLogAt_0 : decode cX1_hasLogAt 0 = .ok (.iconst 0, 1) := by decide +kernel
theorem dX1_hasLogAt_1 : decode cX1_hasLogAt 1 = .ok (.istore_n 2, 1) := by decide +kernel
theorem dX1_hasLogAt_2 : decode cX1_hasLogAt 2 = .ok (.iload_n 2, 1) := by decide +kernel
theorem dX1_hasLogAt_3 : decode cX1_hasLogAt 3 = .ok (.aload_n 0, 1) := by decide +kernel
theorem dX1_hasLogAt_4 : decode cX1_hasLogAt 4 = .ok (.getfield 26, 3) := by decide +kernel
theorem dX1_hasLogAt_7 : decode cX1_hasLogAt 7 = .ok (.invokevirtual 97, 3) := by decide +kernel
theorem dX1_hasLogAt_10 : decode cX1_hasLogAt 10 = .ok (.if_icmp .ge 53, 3) := by decide +kernel
theorem dX1_hasLogAt_13 : decode cX1_hasLogAt 13 = .ok (.aload_n 0, 1) := by decide +kernel
theorem dX1_hasLogAt_14 : decode cX1_hasLogAt 14 = .ok (.getfield 26, 3) := by decide +kernel
theorem dX1_hasLogAt_17 : decode cX1_hasLogAt 17 = .ok (.iload_n 2, 1) := by decide +kernel
theorem dX1_hasLogAt_18 : decode cX1_hasLogAt 18 = .ok (.iconst 0, 1) := by decide +kernel
theorem dX1_hasLogAt_19 : decode cX1_hasLogAt 19 = .ok (.invokevirtual 93, 3) := by decide +kernel
theorem dX1_hasLogAt_22 : decode cX1_hasLogAt 22 = .ok (.aload_n 0, 1) := by decide +kernel
theorem dX1_hasLogAt_23 : decode cX1_hasLogAt 23 = .ok (.getfield 35, 3) := by decide +kernel
theorem dX1_hasLogAt_26 : decode cX1_hasLogAt 26 = .ok (.iload_n 1, 1) := by decide +kernel
theorem dX1_hasLogAt_27 : decode cX1_hasLogAt 27 = .ok (.iconst 0, 1) := by decide +kernel
theorem dX1_hasLogAt_28 : decode cX1_hasLogAt 28 = .ok (.invokevirtual 93, 3) := by decide +kernel
theorem dX1_hasLogAt_31 : decode cX1_hasLogAt 31 = .ok (.if_icmp .ne 26, 3) := by decide +kernel
theorem dX1_hasLogAt_34 : decode cX1_hasLogAt 34 = .ok (.aload_n 0, 1) := by decide +kernel
theorem dX1_hasLogAt_35 : decode cX1_hasLogAt 35 = .ok (.getfield 26, 3) := by decide +kernel
theorem dX1_hasLogAt_38 : decode cX1_hasLogAt 38 = .ok (.iload_n 2, 1) := by decide +kernel
theorem dX1_hasLogAt_39 : decode cX1_hasLogAt 39 = .ok (.iconst 1, 1) := by decide +kernel
theorem dX1_hasLogAt_40 : decode cX1_hasLogAt 40 = .ok (.invokevirtual 93, 3) := by decide +kernel
theorem dX1_hasLogAt_43 : decode cX1_hasLogAt 43 = .ok (.aload_n 0, 1) := by decide +kernel
theorem dX1_hasLogAt_44 : decode cX1_hasLogAt 44 = .ok (.getfield 35, 3) := by decide +kernel
theorem dX1_hasLogAt_47 : decode cX1_hasLogAt 47 = .ok (.iload_n 1, 1) := by decide +kernel
theorem dX1_hasLogAt_48 : decode cX1_hasLogAt 48 = .ok (.iconst 2, 1) := by decide +kernel
theorem dX1_hasLogAt_49 : decode cX1_hasLogAt 49 = .ok (.invokevirtual 93, 3) := by decide +kernel
theorem dX1_hasLogAt_52 : decode cX1_hasLogAt 52 = .ok (.if_icmp .ne 5, 3) := by decide +kernel
theorem dX1_hasLogAt_55 : decode cX1_hasLogAt 55 = .ok (.iconst 1, 1) := by decide +kernel
theorem dX1_hasLogAt_56 : decode cX1_hasLogAt 56 = .ok (.ireturn, 1) := by decide +kernel
theorem dX1_hasLogAt_57 : decode cX1_hasLogAt 57 = .ok (.iinc 2 1, 3) := by decide +kernel
theorem dX1_hasLogAt_60 : decode cX1_hasLogAt 60 = .ok (.goto (-58), 3) := by decide +kernel
theorem dX1_hasLogAt_63 : decode cX1_hasLogAt 63 = .ok (.iconst 0, 1) := by decide +kernel
theorem dX1_hasLogAt_64 : decode cX1_hasLogAt 64 = .ok (.ireturn, 1) := by decide +kernel
theorem dX1_spanOf_0 : decode cX1_spanOf 0 = .ok (.aload_n 0, 1) := by decide +kernel
theorem dX1_spanOf_1 : decode cX1_spanOf 1 = .ok (.getfield 35, 3) := by decide +kernel
theorem dX1_spanOf_4 : decode cX1_spanOf 4 = .ok (.iload_n 1, 1) := by decide +kernel
theorem dX1_spanOf_5 : decode cX1_spanOf 5 = .ok (.iconst 3, 1) := by decide +kernel
theorem dX1_spanOf_6 : decode cX1_spanOf 6 = .ok (.invokevirtual 93, 3) := by decide +kernel
theorem dX1_spanOf_9 : decode cX1_spanOf 9 = .ok (.istore 4, 2) := by decide +kernel
theorem dX1_spanOf_11 : decode cX1_spanOf 11 = .ok (.aload_n 0, 1) := by decide +kernel
theorem dX1_spanOf_12 : decode cX1_spanOf 12 = .ok (.getfield 35, 3) := by decide +kernel
theorem dX1_spanOf_15 : decode cX1_spanOf 15 = .ok (.iload_n 1, 1) := by decide +kernel
theorem dX1_spanOf_16 : decode cX1_spanOf 16 = .ok (.iconst 5, 1) := by decide +kernel
theorem dX1_spanOf_17 : decode cX1_spanOf 17 = .ok (.invokevirtual 93, 3) := by decide +kernel
theorem dX1_spanOf_20 : decode cX1_spanOf 20 = .ok (.istore 5, 2) := by decide +kernel
theorem dX1_spanOf_22 : decode cX1_spanOf 22 = .ok (.aload_n 0, 1) := by decide +kernel
theorem dX1_spanOf_23 : decode cX1_spanOf 23 = .ok (.iload 4, 2) := by decide +kernel
theorem dX1_spanOf_25 : decode cX1_spanOf 25 = .ok (.invokevirtual 122, 3) := by decide +kernel
theorem dX1_spanOf_28 : decode cX1_spanOf 28 = .ok (.istore 6, 2) := by decide +kernel
theorem dX1_spanOf_30 : decode cX1_spanOf 30 = .ok (.iconst (-1), 1) := by decide +kernel
theorem dX1_spanOf_31 : decode cX1_spanOf 31 = .ok (.istore 7, 2) := by decide +kernel
theorem dX1_spanOf_33 : decode cX1_spanOf 33 = .ok (.iconst 0, 1) := by decide +kernel
theorem dX1_spanOf_34 : decode cX1_spanOf 34 = .ok (.istore 8, 2) := by decide +kernel
theorem dX1_spanOf_36 : decode cX1_spanOf 36 = .ok (.iload 8, 2) := by decide +kernel
theorem dX1_spanOf_38 : decode cX1_spanOf 38 = .ok (.aload_n 0, 1) := by decide +kernel
theorem dX1_spanOf_39 : decode cX1_spanOf 39 = .ok (.getfield 32, 3) := by decide +kernel
theorem dX1_spanOf_42 : decode cX1_spanOf 42 = .ok (.invokevirtual 97, 3) := by decide +kernel
theorem dX1_spanOf_45 : decode cX1_spanOf 45 = .ok (.if_icmp .ge 92, 3) := by decide +kernel
theorem dX1_spanOf_48 : decode cX1_spanOf 48 = .ok (.iload 6, 2) := by decide +kernel
theorem dX1_spanOf_50 : decode cX1_spanOf 50 = .ok (.ifCond .eq 18, 3) := by decide +kernel
theorem dX1_spanOf_53 : decode cX1_spanOf 53 = .ok (.aload_n 0, 1) := by decide +kernel
theorem dX1_spanOf_54 : decode cX1_spanOf 54 = .ok (.getfield 32, 3) := by decide +kernel
theorem dX1_spanOf_57 : decode cX1_spanOf 57 = .ok (.iload 8, 2) := by decide +kernel
theorem dX1_spanOf_59 : decode cX1_spanOf 59 = .ok (.iconst 0, 1) := by decide +kernel
theorem dX1_spanOf_60 : decode cX1_spanOf 60 = .ok (.invokevirtual 93, 3) := by decide +kernel
theorem dX1_spanOf_63 : decode cX1_spanOf 63 = .ok (.iload 4, 2) := by decide +kernel
theorem dX1_spanOf_65 : decode cX1_spanOf 65 = .ok (.if_icmp .ne 66, 3) := by decide +kernel
theorem dX1_spanOf_68 : decode cX1_spanOf 68 = .ok (.aload_n 0, 1) := by decide +kernel
theorem dX1_spanOf_69 : decode cX1_spanOf 69 = .ok (.getfield 32, 3) := by decide +kernel
theorem dX1_spanOf_72 : decode cX1_spanOf 72 = .ok (.iload 8, 2) := by decide +kernel
theorem dX1_spanOf_74 : decode cX1_spanOf 74 = .ok (.iconst 1, 1) := by decide +kernel
theorem dX1_spanOf_75 : decode cX1_spanOf 75 = .ok (.invokevirtual 93, 3) := by decide +kernel
theorem dX1_spanOf_78 : decode cX1_spanOf 78 = .ok (.istore 9, 2) := by decide +kernel
theorem dX1_spanOf_80 : decode cX1_spanOf 80 = .ok (.iload 5, 2) := by decide +kernel
theorem dX1_spanOf_82 : decode cX1_spanOf 82 = .ok (.iload 9, 2) := by decide +kernel
theorem dX1_spanOf_84 : decode cX1_spanOf 84 = .ok (.iload_n 3, 1) := by decide +kernel
theorem dX1_spanOf_85 : decode cX1_spanOf 85 = .ok (.aload_n 0, 1) := by decide +kernel
theorem dX1_spanOf_86 : decode cX1_spanOf 86 = .ok (.getfield 32, 3) := by decide +kernel
theorem dX1_spanOf_89 : decode cX1_spanOf 89 = .ok (.iload 8, 2) := by decide +kernel
theorem dX1_spanOf_91 : decode cX1_spanOf 91 = .ok (.iconst 2, 1) := by decide +kernel
theorem dX1_spanOf_92 : decode cX1_spanOf 92 = .ok (.invokevirtual 93, 3) := by decide +kernel
theorem dX1_spanOf_95 : decode cX1_spanOf 95 = .ok (.invokestatic 125, 3) := by decide +kernel
theorem dX1_spanOf_98 : decode cX1_spanOf 98 = .ok (.istore 10, 2) := by decide +kernel
theorem dX1_spanOf_100 : decode cX1_spanOf 100 = .ok (.iload 7, 2) := by decide +kernel
theorem dX1_spanOf_102 : decode cX1_spanOf 102 = .ok (.iconst (-1), 1) := by decide +kernel
theorem dX1_spanOf_103 : decode cX1_spanOf 103 = .ok (.if_icmp .eq 24, 3) := by decide +kernel
theorem dX1_spanOf_106 : decode cX1_spanOf 106 = .ok (.iload_n 2, 1) := by decide +kernel
theorem dX1_spanOf_107 : decode cX1_spanOf 107 = .ok (.ifCond .ne 13, 3) := by decide +kernel
theorem dX1_spanOf_110 : decode cX1_spanOf 110 = .ok (.iload 10, 2) := by decide +kernel
theorem dX1_spanOf_112 : decode cX1_spanOf 112 = .ok (.iload 7, 2) := by decide +kernel
theorem dX1_spanOf_114 : decode cX1_spanOf 114 = .ok (.if_icmp .ge 17, 3) := by decide +kernel
theorem dX1_spanOf_117 : decode cX1_spanOf 117 = .ok (.goto 10, 3) := by decide +kernel
theorem dX1_spanOf_120 : decode cX1_spanOf 120 = .ok (.iload 10, 2) := by decide +kernel
theorem dX1_spanOf_122 : decode cX1_spanOf 122 = .ok (.iload 7, 2) := by decide +kernel
theorem dX1_spanOf_124 : decode cX1_spanOf 124 = .ok (.if_icmp .le 7, 3) := by decide +kernel
theorem dX1_spanOf_127 : decode cX1_spanOf 127 = .ok (.iload 10, 2) := by decide +kernel
theorem dX1_spanOf_129 : decode cX1_spanOf 129 = .ok (.istore 7, 2) := by decide +kernel
theorem dX1_spanOf_131 : decode cX1_spanOf 131 = .ok (.iinc 8 1, 3) := by decide +kernel
theorem dX1_spanOf_134 : decode cX1_spanOf 134 = .ok (.goto (-98), 3) := by decide +kernel
theorem dX1_spanOf_137 : decode cX1_spanOf 137 = .ok (.iload 7, 2) := by decide +kernel
theorem dX1_spanOf_139 : decode cX1_spanOf 139 = .ok (.iconst (-1), 1) := by decide +kernel
theorem dX1_spanOf_140 : decode cX1_spanOf 140 = .ok (.if_icmp .ne 14, 3) := by decide +kernel
theorem dX1_spanOf_143 : decode cX1_spanOf 143 = .ok (.iload 5, 2) := by decide +kernel
theorem dX1_spanOf_145 : decode cX1_spanOf 145 = .ok (.iconst 1, 1) := by decide +kernel
theorem dX1_spanOf_146 : decode cX1_spanOf 146 = .ok (.iload_n 3, 1) := by decide +kernel
theorem dX1_spanOf_147 : decode cX1_spanOf 147 = .ok (.iconst 1, 1) := by decide +kernel
theorem dX1_spanOf_148 : decode cX1_spanOf 148 = .ok (.invokestatic 125, 3) := by decide +kernel
theorem dX1_spanOf_151 : decode cX1_spanOf 151 = .ok (.goto 5, 3) := by decide +kernel
theorem dX1_spanOf_154 : decode cX1_spanOf 154 = .ok (.iload 7, 2) := by decide +kernel
theorem dX1_spanOf_156 : decode cX1_spanOf 156 = .ok (.ireturn, 1) := by decide +kernel
theorem dX1_hasPole_0 : decode cX1_hasPole 0 = .ok (.iconst 0, 1) := by decide +kernel
theorem dX1_hasPole_1 : decode cX1_hasPole 1 = .ok (.istore_n 2, 1) := by decide +kernel
theorem dX1_hasPole_2 : decode cX1_hasPole 2 = .ok (.iload_n 2, 1) := by decide +kernel
theorem dX1_hasPole_3 : decode cX1_hasPole 3 = .ok (.aload_n 0, 1) := by decide +kernel
theorem dX1_hasPole_4 : decode cX1_hasPole 4 = .ok (.getfield 32, 3) := by decide +kernel
theorem dX1_hasPole_7 : decode cX1_hasPole 7 = .ok (.invokevirtual 97, 3) := by decide +kernel
theorem dX1_hasPole_10 : decode cX1_hasPole 10 = .ok (.if_icmp .ge 24, 3) := by decide +kernel
theorem dX1_hasPole_13 : decode cX1_hasPole 13 = .ok (.aload_n 0, 1) := by decide +kernel
theorem dX1_hasPole_14 : decode cX1_hasPole 14 = .ok (.getfield 32, 3) := by decide +kernel
theorem dX1_hasPole_17 : decode cX1_hasPole 17 = .ok (.iload_n 2, 1) := by decide +kernel
theorem dX1_hasPole_18 : decode cX1_hasPole 18 = .ok (.iconst 0, 1) := by decide +kernel
theorem dX1_hasPole_19 : decode cX1_hasPole 19 = .ok (.invokevirtual 93, 3) := by decide +kernel
theorem dX1_hasPole_22 : decode cX1_hasPole 22 = .ok (.iload_n 1, 1) := by decide +kernel
theorem dX1_hasPole_23 : decode cX1_hasPole 23 = .ok (.if_icmp .ne 5, 3) := by decide +kernel
theorem dX1_hasPole_26 : decode cX1_hasPole 26 = .ok (.iconst 1, 1) := by decide +kernel
theorem dX1_hasPole_27 : decode cX1_hasPole 27 = .ok (.ireturn, 1) := by decide +kernel
theorem dX1_hasPole_28 : decode cX1_hasPole 28 = .ok (.iinc 2 1, 3) := by decide +kernel
theorem dX1_hasPole_31 : decode cX1_hasPole 31 = .ok (.goto (-29), 3) := by decide +kernel
theorem dX1_hasPole_34 : decode cX1_hasPole 34 = .ok (.iconst 0, 1) := by decide +kernel
theorem dX1_hasPole_35 : decode cX1_hasPole 35 = .ok (.ireturn, 1) := by decide +kernel
theorem dX1_largeBy_0 : decode cX1_largeBy 0 = .ok (.iload_n 2, 1) := by decide +kernel
theorem dX1_largeBy_1 : decode cX1_largeBy 1 = .ok (.iload_n 3, 1) := by decide +kernel
theorem dX1_largeBy_2 : decode cX1_largeBy 2 = .ok (.imul, 1) := by decide +kernel
theorem dX1_largeBy_3 : decode cX1_largeBy 3 = .ok (.istore 4, 2) := by decide +kernel
theorem dX1_largeBy_5 : decode cX1_largeBy 5 = .ok (.iload 4, 2) := by decide +kernel
theorem dX1_largeBy_7 : decode cX1_largeBy 7 = .ok (.ifCond .ne 7, 3) := by decide +kernel
theorem dX1_largeBy_10 : decode cX1_largeBy 10 = .ok (.iconst 0, 1) := by decide +kernel
theorem dX1_largeBy_11 : decode cX1_largeBy 11 = .ok (.goto 12, 3) := by decide +kernel
theorem dX1_largeBy_14 : decode cX1_largeBy 14 = .ok (.iload_n 0, 1) := by decide +kernel
theorem dX1_largeBy_15 : decode cX1_largeBy 15 = .ok (.bipush 100, 2) := by decide +kernel
theorem dX1_largeBy_17 : decode cX1_largeBy 17 = .ok (.imul, 1) := by decide +kernel
theorem dX1_largeBy_18 : decode cX1_largeBy 18 = .ok (.iload_n 1, 1) := by decide +kernel
theorem dX1_largeBy_19 : decode cX1_largeBy 19 = .ok (.imul, 1) := by decide +kernel
theorem dX1_largeBy_20 : decode cX1_largeBy 20 = .ok (.iload 4, 2) := by decide +kernel
theorem dX1_largeBy_22 : decode cX1_largeBy 22 = .ok (.idiv, 1) := by decide +kernel
theorem dX1_largeBy_23 : decode cX1_largeBy 23 = .ok (.ireturn, 1) := by decide +kernel
theorem dX1_heardOf_0 : decode cX1_heardOf 0 = .ok (.aload_n 0, 1) := by decide +kernel
theorem dX1_heardOf_1 : decode cX1_heardOf 1 = .ok (.getfield 45, 3) := by decide +kernel
theorem dX1_heardOf_4 : decode cX1_heardOf 4 = .ok (.iload_n 1, 1) := by decide +kernel
theorem dX1_heardOf_5 : decode cX1_heardOf 5 = .ok (.iconst 2, 1) := by decide +kernel
theorem dX1_heardOf_6 : decode cX1_heardOf 6 = .ok (.invokevirtual 93, 3) := by decide +kernel
theorem dX1_heardOf_9 : decode cX1_heardOf 9 = .ok (.iload_n 2, 1) := by decide +kernel
theorem dX1_heardOf_10 : decode cX1_heardOf 10 = .ok (.if_icmp .lt 15, 3) := by decide +kernel
theorem dX1_heardOf_13 : decode cX1_heardOf 13 = .ok (.aload_n 0, 1) := by decide +kernel
theorem dX1_heardOf_14 : decode cX1_heardOf 14 = .ok (.getfield 45, 3) := by decide +kernel
theorem dX1_heardOf_17 : decode cX1_heardOf 17 = .ok (.iload_n 1, 1) := by decide +kernel
theorem dX1_heardOf_18 : decode cX1_heardOf 18 = .ok (.iconst 1, 1) := by decide +kernel
theorem dX1_heardOf_19 : decode cX1_heardOf 19 = .ok (.invokevirtual 93, 3) := by decide +kernel
theorem dX1_heardOf_22 : decode cX1_heardOf 22 = .ok (.goto 4, 3) := by decide +kernel
theorem dX1_heardOf_25 : decode cX1_heardOf 25 = .ok (.iconst 0, 1) := by decide +kernel
theorem dX1_heardOf_26 : decode cX1_heardOf 26 = .ok (.ireturn, 1) := by decide +kernel
theorem dX1_storiesThatCanBe_0 : decode cX1_storiesThatCanBe 0 = .ok (.iconst 0, 1) := by decide +kernel
theorem dX1_storiesThatCanBe_1 : decode cX1_storiesThatCanBe 1 = .ok (.istore_n 1, 1) := by decide +kernel
theorem dX1_storiesThatCanBe_2 : decode cX1_storiesThatCanBe 2 = .ok (.iconst 0, 1) := by decide +kernel
theorem dX1_storiesThatCanBe_3 : decode cX1_storiesThatCanBe 3 = .ok (.istore_n 2, 1) := by decide +kernel
theorem dX1_storiesThatCanBe_4 : decode cX1_storiesThatCanBe 4 = .ok (.iload_n 2, 1) := by decide +kernel
theorem dX1_storiesThatCanBe_5 : decode cX1_storiesThatCanBe 5 = .ok (.aload_n 0, 1) := by decide +kernel
theorem dX1_storiesThatCanBe_6 : decode cX1_storiesThatCanBe 6 = .ok (.getfield 45, 3) := by decide +kernel
theorem dX1_storiesThatCanBe_9 : decode cX1_storiesThatCanBe 9 = .ok (.invokevirtual 97, 3) := by decide +kernel
theorem dX1_storiesThatCanBe_12 : decode cX1_storiesThatCanBe 12 = .ok (.if_icmp .ge 40, 3) := by decide +kernel
theorem dX1_storiesThatCanBe_15 : decode cX1_storiesThatCanBe 15 = .ok (.aload_n 0, 1) := by decide +kernel
theorem dX1_storiesThatCanBe_16 : decode cX1_storiesThatCanBe 16 = .ok (.aload_n 0, 1) := by decide +kernel
theorem dX1_storiesThatCanBe_17 : decode cX1_storiesThatCanBe 17 = .ok (.getfield 45, 3) := by decide +kernel
theorem dX1_storiesThatCanBe_20 : decode cX1_storiesThatCanBe 20 = .ok (.iload_n 2, 1) := by decide +kernel
theorem dX1_storiesThatCanBe_21 : decode cX1_storiesThatCanBe 21 = .ok (.iconst 1, 1) := by decide +kernel
theorem dX1_storiesThatCanBe_22 : decode cX1_storiesThatCanBe 22 = .ok (.invokevirtual 93, 3) := by decide +kernel
theorem dX1_storiesThatCanBe_25 : decode cX1_storiesThatCanBe 25 = .ok (.aload_n 0, 1) := by decide +kernel
theorem dX1_storiesThatCanBe_26 : decode cX1_storiesThatCanBe 26 = .ok (.getfield 45, 3) := by decide +kernel
theorem dX1_storiesThatCanBe_29 : decode cX1_storiesThatCanBe 29 = .ok (.iload_n 2, 1) := by decide +kernel
theorem dX1_storiesThatCanBe_30 : decode cX1_storiesThatCanBe 30 = .ok (.iconst 2, 1) := by decide +kernel
theorem dX1_storiesThatCanBe_31 : decode cX1_storiesThatCanBe 31 = .ok (.invokevirtual 93, 3) := by decide +kernel
theorem dX1_storiesThatCanBe_34 : decode cX1_storiesThatCanBe 34 = .ok (.invokevirtual 128, 3) := by decide +kernel
theorem dX1_storiesThatCanBe_37 : decode cX1_storiesThatCanBe 37 = .ok (.ifCond .eq 9, 3) := by decide +kernel
theorem dX1_storiesThatCanBe_40 : decode cX1_storiesThatCanBe 40 = .ok (.iload_n 1, 1) := by decide +kernel
theorem dX1_storiesThatCanBe_41 : decode cX1_storiesThatCanBe 41 = .ok (.iconst 1, 1) := by decide +kernel
theorem dX1_storiesThatCanBe_42 : decode cX1_storiesThatCanBe 42 = .ok (.iload_n 2, 1) := by decide +kernel
theorem dX1_storiesThatCanBe_43 : decode cX1_storiesThatCanBe 43 = .ok (.ishl, 1) := by decide +kernel
theorem dX1_storiesThatCanBe_44 : decode cX1_storiesThatCanBe 44 = .ok (.ior, 1) := by decide +kernel
theorem dX1_storiesThatCanBe_45 : decode cX1_storiesThatCanBe 45 = .ok (.istore_n 1, 1) := by decide +kernel
theorem dX1_storiesThatCanBe_46 : decode cX1_storiesThatCanBe 46 = .ok (.iinc 2 1, 3) := by decide +kernel
theorem dX1_storiesThatCanBe_49 : decode cX1_storiesThatCanBe 49 = .ok (.goto (-45), 3) := by decide +kernel
theorem dX1_storiesThatCanBe_52 : decode cX1_storiesThatCanBe 52 = .ok (.iload_n 1, 1) := by decide +kernel
theorem dX1_storiesThatCanBe_53 : decode cX1_storiesThatCanBe 53 = .ok (.ireturn, 1) := by decide +kernel
theorem dX1_canBe_0 : decode cX1_canBe 0 = .ok (.iload_n 1, 1) := by decide +kernel
theorem dX1_canBe_1 : decode cX1_canBe 1 = .ok (.aload_n 0, 1) := by decide +kernel
theorem dX1_canBe_2 : decode cX1_canBe 2 = .ok (.getfield 60, 3) := by decide +kernel
theorem dX1_canBe_5 : decode cX1_canBe 5 = .ok (.iconst 0, 1) := by decide +kernel
theorem dX1_canBe_6 : decode cX1_canBe 6 = .ok (.iconst 0, 1) := by decide +kernel
theorem dX1_canBe_7 : decode cX1_canBe 7 = .ok (.invokevirtual 93, 3) := by decide +kernel
theorem dX1_canBe_10 : decode cX1_canBe 10 = .ok (.if_icmp .lt 7, 3) := by decide +kernel
theorem dX1_canBe_13 : decode cX1_canBe 13 = .ok (.iconst 1, 1) := by decide +kernel
theorem dX1_canBe_14 : decode cX1_canBe 14 = .ok (.goto 4, 3) := by decide +kernel
theorem dX1_canBe_17 : decode cX1_canBe 17 = .ok (.iconst 0, 1) := by decide +kernel
theorem dX1_canBe_18 : decode cX1_canBe 18 = .ok (.istore_n 3, 1) := by decide +kernel
theorem dX1_canBe_19 : decode cX1_canBe 19 = .ok (.iload_n 1, 1) := by decide +kernel
theorem dX1_canBe_20 : decode cX1_canBe 20 = .ok (.iload_n 2, 1) := by decide +kernel
theorem dX1_canBe_21 : decode cX1_canBe 21 = .ok (.imul, 1) := by decide +kernel
theorem dX1_canBe_22 : decode cX1_canBe 22 = .ok (.aload_n 0, 1) := by decide +kernel
theorem dX1_canBe_23 : decode cX1_canBe 23 = .ok (.getfield 60, 3) := by decide +kernel
theorem dX1_canBe_26 : decode cX1_canBe 26 = .ok (.iconst 0, 1) := by decide +kernel
theorem dX1_canBe_27 : decode cX1_canBe 27 = .ok (.iconst 2, 1) := by decide +kernel
theorem dX1_canBe_28 : decode cX1_canBe 28 = .ok (.invokevirtual 93, 3) := by decide +kernel
theorem dX1_canBe_31 : decode cX1_canBe 31 = .ok (.imul, 1) := by decide +kernel
theorem dX1_canBe_32 : decode cX1_canBe 32 = .ok (.aload_n 0, 1) := by decide +kernel
theorem dX1_canBe_33 : decode cX1_canBe 33 = .ok (.getfield 60, 3) := by decide +kernel
theorem dX1_canBe_36 : decode cX1_canBe 36 = .ok (.iconst 0, 1) := by decide +kernel
theorem dX1_canBe_37 : decode cX1_canBe 37 = .ok (.iconst 1, 1) := by decide +kernel
theorem dX1_canBe_38 : decode cX1_canBe 38 = .ok (.invokevirtual 93, 3) := by decide +kernel
theorem dX1_canBe_41 : decode cX1_canBe 41 = .ok (.if_icmp .gt 7, 3) := by decide +kernel
theorem dX1_canBe_44 : decode cX1_canBe 44 = .ok (.iconst 1, 1) := by decide +kernel
theorem dX1_canBe_45 : decode cX1_canBe 45 = .ok (.goto 4, 3) := by decide +kernel
theorem dX1_canBe_48 : decode cX1_canBe 48 = .ok (.iconst 0, 1) := by decide +kernel
theorem dX1_canBe_49 : decode cX1_canBe 49 = .ok (.istore 4, 2) := by decide +kernel
theorem dX1_canBe_51 : decode cX1_canBe 51 = .ok (.iload_n 1, 1) := by decide +kernel
theorem dX1_canBe_52 : decode cX1_canBe 52 = .ok (.ifCond .eq 12, 3) := by decide +kernel
theorem dX1_canBe_55 : decode cX1_canBe 55 = .ok (.iload_n 3, 1) := by decide +kernel
theorem dX1_canBe_56 : decode cX1_canBe 56 = .ok (.ifCond .eq 12, 3) := by decide +kernel
theorem dX1_canBe_59 : decode cX1_canBe 59 = .ok (.iload 4, 2) := by decide +kernel
theorem dX1_canBe_61 : decode cX1_canBe 61 = .ok (.ifCond .eq 7, 3) := by decide +kernel
theorem dX1_canBe_64 : decode cX1_canBe 64 = .ok (.iconst 1, 1) := by decide +kernel
theorem dX1_canBe_65 : decode cX1_canBe 65 = .ok (.goto 4, 3) := by decide +kernel
theorem dX1_canBe_68 : decode cX1_canBe 68 = .ok (.iconst 0, 1) := by decide +kernel
theorem dX1_canBe_69 : decode cX1_canBe 69 = .ok (.ireturn, 1) := by decide +kernel
theorem dX1_greatestNumberOf_0 : decode cX1_greatestNumberOf 0 = .ok (.iload_n 1, 1) := by decide +kernel
theorem dX1_greatestNumberOf_1 : decode cX1_greatestNumberOf 1 = .ok (.aload_n 0, 1) := by decide +kernel
theorem dX1_greatestNumberOf_2 : decode cX1_greatestNumberOf 2 = .ok (.getfield 60, 3) := by decide +kernel
theorem dX1_greatestNumberOf_5 : decode cX1_greatestNumberOf 5 = .ok (.iconst 0, 1) := by decide +kernel
theorem dX1_greatestNumberOf_6 : decode cX1_greatestNumberOf 6 = .ok (.iconst 2, 1) := by decide +kernel
theorem dX1_greatestNumberOf_7 : decode cX1_greatestNumberOf 7 = .ok (.invokevirtual 93, 3) := by decide +kernel
theorem dX1_greatestNumberOf_10 : decode cX1_greatestNumberOf 10 = .ok (.imul, 1) := by decide +kernel
theorem dX1_greatestNumberOf_11 : decode cX1_greatestNumberOf 11 = .ok (.istore_n 2, 1) := by decide +kernel
theorem dX1_greatestNumberOf_12 : decode cX1_greatestNumberOf 12 = .ok (.iload_n 2, 1) := by decide +kernel
theorem dX1_greatestNumberOf_13 : decode cX1_greatestNumberOf 13 = .ok (.ifCond .ne 7, 3) := by decide +kernel
theorem dX1_greatestNumberOf_16 : decode cX1_greatestNumberOf 16 = .ok (.iconst (-1), 1) := by decide +kernel
theorem dX1_greatestNumberOf_17 : decode cX1_greatestNumberOf 17 = .ok (.goto 14, 3) := by decide +kernel
theorem dX1_greatestNumberOf_20 : decode cX1_greatestNumberOf 20 = .ok (.aload_n 0, 1) := by decide +kernel
theorem dX1_greatestNumberOf_21 : decode cX1_greatestNumberOf 21 = .ok (.getfield 60, 3) := by decide +kernel
theorem dX1_greatestNumberOf_24 : decode cX1_greatestNumberOf 24 = .ok (.iconst 0, 1) := by decide +kernel
theorem dX1_greatestNumberOf_25 : decode cX1_greatestNumberOf 25 = .ok (.iconst 1, 1) := by decide +kernel
theorem dX1_greatestNumberOf_26 : decode cX1_greatestNumberOf 26 = .ok (.invokevirtual 93, 3) := by decide +kernel
theorem dX1_greatestNumberOf_29 : decode cX1_greatestNumberOf 29 = .ok (.iload_n 2, 1) := by decide +kernel
theorem dX1_greatestNumberOf_30 : decode cX1_greatestNumberOf 30 = .ok (.idiv, 1) := by decide +kernel
theorem dX1_greatestNumberOf_31 : decode cX1_greatestNumberOf 31 = .ok (.ireturn, 1) := by decide +kernel
theorem dX1_nothingNew_0 : decode cX1_nothingNew 0 = .ok (.aload_n 0, 1) := by decide +kernel
theorem dX1_nothingNew_1 : decode cX1_nothingNew 1 = .ok (.getfield 54, 3) := by decide +kernel
theorem dX1_nothingNew_4 : decode cX1_nothingNew 4 = .ok (.iload_n 1, 1) := by decide +kernel
theorem dX1_nothingNew_5 : decode cX1_nothingNew 5 = .ok (.iconst 0, 1) := by decide +kernel
theorem dX1_nothingNew_6 : decode cX1_nothingNew 6 = .ok (.invokevirtual 93, 3) := by decide +kernel
theorem dX1_nothingNew_9 : decode cX1_nothingNew 9 = .ok (.istore_n 3, 1) := by decide +kernel
theorem dX1_nothingNew_10 : decode cX1_nothingNew 10 = .ok (.iload_n 3, 1) := by decide +kernel
theorem dX1_nothingNew_11 : decode cX1_nothingNew 11 = .ok (.ifCond .ne 7, 3) := by decide +kernel
theorem dX1_nothingNew_14 : decode cX1_nothingNew 14 = .ok (.iconst 0, 1) := by decide +kernel
theorem dX1_nothingNew_15 : decode cX1_nothingNew 15 = .ok (.goto 24, 3) := by decide +kernel
theorem dX1_nothingNew_18 : decode cX1_nothingNew 18 = .ok (.aload_n 0, 1) := by decide +kernel
theorem dX1_nothingNew_19 : decode cX1_nothingNew 19 = .ok (.getfield 54, 3) := by decide +kernel
theorem dX1_nothingNew_22 : decode cX1_nothingNew 22 = .ok (.iload_n 2, 1) := by decide +kernel
theorem dX1_nothingNew_23 : decode cX1_nothingNew 23 = .ok (.iconst 0, 1) := by decide +kernel
theorem dX1_nothingNew_24 : decode cX1_nothingNew 24 = .ok (.invokevirtual 93, 3) := by decide +kernel
theorem dX1_nothingNew_27 : decode cX1_nothingNew 27 = .ok (.aload_n 0, 1) := by decide +kernel
theorem dX1_nothingNew_28 : decode cX1_nothingNew 28 = .ok (.getfield 54, 3) := by decide +kernel
theorem dX1_nothingNew_31 : decode cX1_nothingNew 31 = .ok (.iload_n 1, 1) := by decide +kernel
theorem dX1_nothingNew_32 : decode cX1_nothingNew 32 = .ok (.iconst 1, 1) := by decide +kernel
theorem dX1_nothingNew_33 : decode cX1_nothingNew 33 = .ok (.invokevirtual 93, 3) := by decide +kernel
theorem dX1_nothingNew_36 : decode cX1_nothingNew 36 = .ok (.imul, 1) := by decide +kernel
theorem dX1_nothingNew_37 : decode cX1_nothingNew 37 = .ok (.iload_n 3, 1) := by decide +kernel
theorem dX1_nothingNew_38 : decode cX1_nothingNew 38 = .ok (.idiv, 1) := by decide +kernel
theorem dX1_nothingNew_39 : decode cX1_nothingNew 39 = .ok (.ireturn, 1) := by decide +kernel
theorem dX1_moreSeen_0 : decode cX1_moreSeen 0 = .ok (.aload_n 0, 1) := by decide +kernel
theorem dX1_moreSeen_1 : decode cX1_moreSeen 1 = .ok (.getfield 54, 3) := by decide +kernel
theorem dX1_moreSeen_4 : decode cX1_moreSeen 4 = .ok (.iload_n 2, 1) := by decide +kernel
theorem dX1_moreSeen_5 : decode cX1_moreSeen 5 = .ok (.iconst 1, 1) := by decide +kernel
theorem dX1_moreSeen_6 : decode cX1_moreSeen 6 = .ok (.invokevirtual 93, 3) := by decide +kernel
theorem dX1_moreSeen_9 : decode cX1_moreSeen 9 = .ok (.aload_n 0, 1) := by decide +kernel
theorem dX1_moreSeen_10 : decode cX1_moreSeen 10 = .ok (.iload_n 1, 1) := by decide +kernel
theorem dX1_moreSeen_11 : decode cX1_moreSeen 11 = .ok (.iload_n 2, 1) := by decide +kernel
theorem dX1_moreSeen_12 : decode cX1_moreSeen 12 = .ok (.invokevirtual 132, 3) := by decide +kernel
theorem dX1_moreSeen_15 : decode cX1_moreSeen 15 = .ok (.isub, 1) := by decide +kernel
theorem dX1_moreSeen_16 : decode cX1_moreSeen 16 = .ok (.ireturn, 1) := by decide +kernel
theorem dX2_init_0 : decode cX2_init 0 = .ok (.aload_n 0, 1) := by decide +kernel
theorem dX2_init_1 : decode cX2_init 1 = .ok (.invokespecial 3, 3) := by decide +kernel
theorem dX2_init_4 : decode cX2_init 4 = .ok (.aload_n 0, 1) := by decide +kernel
theorem dX2_init_5 : decode cX2_init 5 = .ok (.sipush 400, 3) := by decide +kernel
theorem dX2_init_8 : decode cX2_init 8 = .ok (.newarray .int, 2) := by decide +kernel
theorem dX2_init_10 : decode cX2_init 10 = .ok (.putfield 9, 3) := by decide +kernel
theorem dX2_init_13 : decode cX2_init 13 = .ok (.aload_n 0, 1) := by decide +kernel
theorem dX2_init_14 : decode cX2_init 14 = .ok (.sipush 400, 3) := by decide +kernel
theorem dX2_init_17 : decode cX2_init 17 = .ok (.newarray .int, 2) := by decide +kernel
theorem dX2_init_19 : decode cX2_init 19 = .ok (.putfield 15, 3) := by decide +kernel
theorem dX2_init_22 : decode cX2_init 22 = .ok (.aload_n 0, 1) := by decide +kernel
theorem dX2_init_23 : decode cX2_init 23 = .ok (.iconst 0, 1) := by decide +kernel
theorem dX2_init_24 : decode cX2_init 24 = .ok (.putfield 18, 3) := by decide +kernel
theorem dX2_init_27 : decode cX2_init 27 = .ok (.aload_n 0, 1) := by decide +kernel
theorem dX2_init_28 : decode cX2_init 28 = .ok (.new 22, 3) := by decide +kernel
theorem dX2_init_31 : decode cX2_init 31 = .ok (.dup, 1) := by decide +kernel
theorem dX2_init_32 : decode cX2_init 32 = .ok (.bipush 12, 2) := by decide +kernel
theorem dX2_init_34 : decode cX2_init 34 = .ok (.iconst 4, 1) := by decide +kernel
theorem dX2_init_35 : decode cX2_init 35 = .ok (.invokespecial 24, 3) := by decide +kernel
theorem dX2_init_38 : decode cX2_init 38 = .ok (.putfield 27, 3) := by decide +kernel
theorem dX2_init_41 : decode cX2_init 41 = .ok (.return_, 1) := by decide +kernel
theorem dX2_size_0 : decode cX2_size 0 = .ok (.aload_n 0, 1) := by decide +kernel
theorem dX2_size_1 : decode cX2_size 1 = .ok (.getfield 27, 3) := by decide +kernel
theorem dX2_size_4 : decode cX2_size 4 = .ok (.invokevirtual 31, 3) := by decide +kernel
theorem dX2_size_7 : decode cX2_size 7 = .ok (.ireturn, 1) := by decide +kernel
theorem dX2_steps_0 : decode cX2_steps 0 = .ok (.aload_n 0, 1) := by decide +kernel
theorem dX2_steps_1 : decode cX2_steps 1 = .ok (.getfield 18, 3) := by decide +kernel
theorem dX2_steps_4 : decode cX2_steps 4 = .ok (.ireturn, 1) := by decide +kernel
theorem dX2_headOf_0 : decode cX2_headOf 0 = .ok (.aload_n 0, 1) := by decide +kernel
theorem dX2_headOf_1 : decode cX2_headOf 1 = .ok (.getfield 27, 3) := by decide +kernel
theorem dX2_headOf_4 : decode cX2_headOf 4 = .ok (.iload_n 1, 1) := by decide +kernel
theorem dX2_headOf_5 : decode cX2_headOf 5 = .ok (.iconst 0, 1) := by decide +kernel
theorem dX2_headOf_6 : decode cX2_headOf 6 = .ok (.invokevirtual 35, 3) := by decide +kernel
theorem dX2_headOf_9 : decode cX2_headOf 9 = .ok (.ireturn, 1) := by decide +kernel
theorem dX2_sumOf_0 : decode cX2_sumOf 0 = .ok (.aload_n 0, 1) := by decide +kernel
theorem dX2_sumOf_1 : decode cX2_sumOf 1 = .ok (.getfield 27, 3) := by decide +kernel
theorem dX2_sumOf_4 : decode cX2_sumOf 4 = .ok (.iload_n 1, 1) := by decide +kernel
theorem dX2_sumOf_5 : decode cX2_sumOf 5 = .ok (.iconst 1, 1) := by decide +kernel
theorem dX2_sumOf_6 : decode cX2_sumOf 6 = .ok (.invokevirtual 35, 3) := by decide +kernel
theorem dX2_sumOf_9 : decode cX2_sumOf 9 = .ok (.ireturn, 1) := by decide +kernel
theorem dX2_testOf_0 : decode cX2_testOf 0 = .ok (.aload_n 0, 1) := by decide +kernel
theorem dX2_testOf_1 : decode cX2_testOf 1 = .ok (.getfield 27, 3) := by decide +kernel
theorem dX2_testOf_4 : decode cX2_testOf 4 = .ok (.iload_n 1, 1) := by decide +kernel
theorem dX2_testOf_5 : decode cX2_testOf 5 = .ok (.iconst 2, 1) := by decide +kernel
theorem dX2_testOf_6 : decode cX2_testOf 6 = .ok (.invokevirtual 35, 3) := by decide +kernel
theorem dX2_testOf_9 : decode cX2_testOf 9 = .ok (.ireturn, 1) := by decide +kernel
theorem dX2_endOf_0 : decode cX2_endOf 0 = .ok (.aload_n 0, 1) := by decide +kernel
theorem dX2_endOf_1 : decode cX2_endOf 1 = .ok (.getfield 27, 3) := by decide +kernel
theorem dX2_endOf_4 : decode cX2_endOf 4 = .ok (.iload_n 1, 1) := by decide +kernel
theorem dX2_endOf_5 : decode cX2_endOf 5 = .ok (.iconst 3, 1) := by decide +kernel
theorem dX2_endOf_6 : decode cX2_endOf 6 = .ok (.invokevirtual 35, 3) := by decide +kernel
theorem dX2_endOf_9 : decode cX2_endOf 9 = .ok (.ireturn, 1) := by decide +kernel
theorem dX2_kindOf_0 : decode cX2_kindOf 0 = .ok (.iload_n 1, 1) := by decide +kernel
theorem dX2_kindOf_1 : decode cX2_kindOf 1 = .ok (.ifCond .lt 21, 3) := by decide +kernel
theorem dX2_kindOf_4 : decode cX2_kindOf 4 = .ok (.iload_n 1, 1) := by decide +kernel
theorem dX2_kindOf_5 : decode cX2_kindOf 5 = .ok (.aload_n 0, 1) := by decide +kernel
theorem dX2_kindOf_6 : decode cX2_kindOf 6 = .ok (.getfield 9, 3) := by decide +kernel
theorem dX2_kindOf_9 : decode cX2_kindOf 9 = .ok (.arraylength, 1) := by decide +kernel
theorem dX2_kindOf_10 : decode cX2_kindOf 10 = .ok (.if_icmp .ge 12, 3) := by decide +kernel
theorem dX2_kindOf_13 : decode cX2_kindOf 13 = .ok (.aload_n 0, 1) := by decide +kernel
theorem dX2_kindOf_14 : decode cX2_kindOf 14 = .ok (.getfield 9, 3) := by decide +kernel
theorem dX2_kindOf_17 : decode cX2_kindOf 17 = .ok (.iload_n 1, 1) := by decide +kernel
theorem dX2_kindOf_18 : decode cX2_kindOf 18 = .ok (.iaload, 1) := by decide +kernel
theorem dX2_kindOf_19 : decode cX2_kindOf 19 = .ok (.goto 4, 3) := by decide +kernel
theorem dX2_kindOf_22 : decode cX2_kindOf 22 = .ok (.iconst 0, 1) := by decide +kernel
theorem dX2_kindOf_23 : decode cX2_kindOf 23 = .ok (.ireturn, 1) := by decide +kernel
theorem dX2_valueOf_0 : decode cX2_valueOf 0 = .ok (.iload_n 1, 1) := by decide +kernel
theorem dX2_valueOf_1 : decode cX2_valueOf 1 = .ok (.ifCond .lt 21, 3) := by decide +kernel
theorem dX2_valueOf_4 : decode cX2_valueOf 4 = .ok (.iload_n 1, 1) := by decide +kernel
theorem dX2_valueOf_5 : decode cX2_valueOf 5 = .ok (.aload_n 0, 1) := by decide +kernel
theorem dX2_valueOf_6 : decode cX2_valueOf 6 = .ok (.getfield 15, 3) := by decide +kernel
theorem dX2_valueOf_9 : decode cX2_valueOf 9 = .ok (.arraylength, 1) := by decide +kernel
theorem dX2_valueOf_10 : decode cX2_valueOf 10 = .ok (.if_icmp .ge 12, 3) := by decide +kernel
theorem dX2_valueOf_13 : decode cX2_valueOf 13 = .ok (.aload_n 0, 1) := by decide +kernel
theorem dX2_valueOf_14 : decode cX2_valueOf 14 = .ok (.getfield 15, 3) := by decide +kernel
theorem dX2_valueOf_17 : decode cX2_valueOf 17 = .ok (.iload_n 1, 1) := by decide +kernel
theorem dX2_valueOf_18 : decode cX2_valueOf 18 = .ok (.iaload, 1) := by decide +kernel
theorem dX2_valueOf_19 : decode cX2_valueOf 19 = .ok (.goto 4, 3) := by decide +kernel
theorem dX2_valueOf_22 : decode cX2_valueOf 22 = .ok (.iconst 0, 1) := by decide +kernel
theorem dX2_valueOf_23 : decode cX2_valueOf 23 = .ok (.ireturn, 1) := by decide +kernel
theorem dX2_clear_0 : decode cX2_clear 0 = .ok (.aload_n 0, 1) := by decide +kernel
theorem dX2_clear_1 : decode cX2_clear 1 = .ok (.iconst 0, 1) := by decide +kernel
theorem dX2_clear_2 : decode cX2_clear 2 = .ok (.putfield 18, 3) := by decide +kernel
theorem dX2_clear_5 : decode cX2_clear 5 = .ok (.aload_n 0, 1) := by decide +kernel
theorem dX2_clear_6 : decode cX2_clear 6 = .ok (.getfield 27, 3) := by decide +kernel
theorem dX2_clear_9 : decode cX2_clear 9 = .ok (.iconst 0, 1) := by decide +kernel
theorem dX2_clear_10 : decode cX2_clear 10 = .ok (.iconst 0, 1) := by decide +kernel
theorem dX2_clear_11 : decode cX2_clear 11 = .ok (.invokevirtual 39, 3) := by decide +kernel
theorem dX2_clear_14 : decode cX2_clear 14 = .ok (.return_, 1) := by decide +kernel
theorem dX2_addClause_0 : decode cX2_addClause 0 = .ok (.aload_n 0, 1) := by decide +kernel
theorem dX2_addClause_1 : decode cX2_addClause 1 = .ok (.getfield 27, 3) := by decide +kernel
theorem dX2_addClause_4 : decode cX2_addClause 4 = .ok (.iload_n 1, 1) := by decide +kernel
theorem dX2_addClause_5 : decode cX2_addClause 5 = .ok (.iload_n 2, 1) := by decide +kernel
theorem dX2_addClause_6 : decode cX2_addClause 6 = .ok (.iload_n 3, 1) := by decide +kernel
theorem dX2_addClause_7 : decode cX2_addClause 7 = .ok (.aload_n 0, 1) := by decide +kernel
theorem dX2_addClause_8 : decode cX2_addClause 8 = .ok (.getfield 18, 3) := by decide +kernel
theorem dX2_addClause_11 : decode cX2_addClause 11 = .ok (.invokevirtual 42, 3) := by decide +kernel
theorem dX2_addClause_14 : decode cX2_addClause 14 = .ok (.pop, 1) := by decide +kernel
theorem dX2_addClause_15 : decode cX2_addClause 15 = .ok (.return_, 1) := by decide +kernel
theorem dX2_addStep_0 : decode cX2_addStep 0 = .ok (.aload_n 0, 1) := by decide +kernel
theorem dX2_addStep_1 : decode cX2_addStep 1 = .ok (.getfield 18, 3) := by decide +kernel
theorem dX2_addStep_4 : decode cX2_addStep 4 = .ok (.aload_n 0, 1) := by decide +kernel
theorem dX2_addStep_5 : decode cX2_addStep 5 = .ok (.getfield 9, 3) := by decide +kernel
theorem dX2_addStep_8 : decode cX2_addStep 8 = .ok (.arraylength, 1) := by decide +kernel
theorem dX2_addStep_9 : decode cX2_addStep 9 = .ok (.if_icmp .ge 33, 3) := by decide +kernel
theorem dX2_addStep_12 : decode cX2_addStep 12 = .ok (.aload_n 0, 1) := by decide +kernel
theorem dX2_addStep_13 : decode cX2_addStep 13 = .ok (.getfield 9, 3) := by decide +kernel
theorem dX2_addStep_16 : decode cX2_addStep 16 = .ok (.aload_n 0, 1) := by decide +kernel
theorem dX2_addStep_17 : decode cX2_addStep 17 = .ok (.getfield 18, 3) := by decide +kernel
theorem dX2_addStep_20 : decode cX2_addStep 20 = .ok (.iload_n 1, 1) := by decide +kernel
theorem dX2_addStep_21 : decode cX2_addStep 21 = .ok (.iastore, 1) := by decide +kernel
theorem dX2_addStep_22 : decode cX2_addStep 22 = .ok (.aload_n 0, 1) := by decide +kernel
theorem dX2_addStep_23 : decode cX2_addStep 23 = .ok (.getfield 15, 3) := by decide +kernel
theorem dX2_addStep_26 : decode cX2_addStep 26 = .ok (.aload_n 0, 1) := by decide +kernel
theorem dX2_addStep_27 : decode cX2_addStep 27 = .ok (.getfield 18, 3) := by decide +kernel
theorem dX2_addStep_30 : decode cX2_addStep 30 = .ok (.iload_n 2, 1) := by decide +kernel
theorem dX2_addStep_31 : decode cX2_addStep 31 = .ok (.iastore, 1) := by decide +kernel
theorem dX2_addStep_32 : decode cX2_addStep 32 = .ok (.aload_n 0, 1) := by decide +kernel
theorem dX2_addStep_33 : decode cX2_addStep 33 = .ok (.dup, 1) := by decide +kernel
theorem dX2_addStep_34 : decode cX2_addStep 34 = .ok (.getfield 18, 3) := by decide +kernel
theorem dX2_addStep_37 : decode cX2_addStep 37 = .ok (.iconst 1, 1) := by decide +kernel
theorem dX2_addStep_38 : decode cX2_addStep 38 = .ok (.iadd, 1) := by decide +kernel
theorem dX2_addStep_39 : decode cX2_addStep 39 = .ok (.putfield 18, 3) := by decide +kernel
theorem dX2_addStep_42 : decode cX2_addStep 42 = .ok (.aload_n 0, 1) := by decide +kernel
theorem dX2_addStep_43 : decode cX2_addStep 43 = .ok (.getfield 18, 3) := by decide +kernel
theorem dX2_addStep_46 : decode cX2_addStep 46 = .ok (.iconst 1, 1) := by decide +kernel
theorem dX2_addStep_47 : decode cX2_addStep 47 = .ok (.isub, 1) := by decide +kernel
theorem dX2_addStep_48 : decode cX2_addStep 48 = .ok (.ireturn, 1) := by decide +kernel
theorem dX2_letSkipEndHere_0 : decode cX2_letSkipEndHere 0 = .ok (.iload_n 1, 1) := by decide +kernel
theorem dX2_letSkipEndHere_1 : decode cX2_letSkipEndHere 1 = .ok (.ifCond .lt 22, 3) := by decide +kernel
theorem dX2_letSkipEndHere_4 : decode cX2_letSkipEndHere 4 = .ok (.iload_n 1, 1) := by decide +kernel
theorem dX2_letSkipEndHere_5 : decode cX2_letSkipEndHere 5 = .ok (.aload_n 0, 1) := by decide +kernel
theorem dX2_letSkipEndHere_6 : decode cX2_letSkipEndHere 6 = .ok (.getfield 15, 3) := by decide +kernel
theorem dX2_letSkipEndHere_9 : decode cX2_letSkipEndHere 9 = .ok (.arraylength, 1) := by decide +kernel
theorem dX2_letSkipEndHere_10 : decode cX2_letSkipEndHere 10 = .ok (.if_icmp .ge 13, 3) := by decide +kernel
theorem dX2_letSkipEndHere_13 : decode cX2_letSkipEndHere 13 = .ok (.aload_n 0, 1) := by decide +kernel
theorem dX2_letSkipEndHere_14 : decode cX2_letSkipEndHere 14 = .ok (.getfield 15, 3) := by decide +kernel
theorem dX2_letSkipEndHere_17 : decode cX2_letSkipEndHere 17 = .ok (.iload_n 1, 1) := by decide +kernel
theorem dX2_letSkipEndHere_18 : decode cX2_letSkipEndHere 18 = .ok (.aload_n 0, 1) := by decide +kernel
theorem dX2_letSkipEndHere_19 : decode cX2_letSkipEndHere 19 = .ok (.getfield 18, 3) := by decide +kernel
theorem dX2_letSkipEndHere_22 : decode cX2_letSkipEndHere 22 = .ok (.iastore, 1) := by decide +kernel
theorem dX2_letSkipEndHere_23 : decode cX2_letSkipEndHere 23 = .ok (.return_, 1) := by decide +kernel
theorem dX2_copyFrom_0 : decode cX2_copyFrom 0 = .ok (.aload_n 1, 1) := by decide +kernel
theorem dX2_copyFrom_1 : decode cX2_copyFrom 1 = .ok (.getfield 9, 3) := by decide +kernel
theorem dX2_copyFrom_4 : decode cX2_copyFrom 4 = .ok (.iconst 0, 1) := by decide +kernel
theorem dX2_copyFrom_5 : decode cX2_copyFrom 5 = .ok (.aload_n 0, 1) := by decide +kernel
theorem dX2_copyFrom_6 : decode cX2_copyFrom 6 = .ok (.getfield 9, 3) := by decide +kernel
theorem dX2_copyFrom_9 : decode cX2_copyFrom 9 = .ok (.iconst 0, 1) := by decide +kernel
theorem dX2_copyFrom_10 : decode cX2_copyFrom 10 = .ok (.sipush 400, 3) := by decide +kernel
theorem dX2_copyFrom_13 : decode cX2_copyFrom 13 = .ok (.invokestatic 46, 3) := by decide +kernel
theorem dX2_copyFrom_16 : decode cX2_copyFrom 16 = .ok (.aload_n 1, 1) := by decide +kernel
theorem dX2_copyFrom_17 : decode cX2_copyFrom 17 = .ok (.getfield 15, 3) := by decide +kernel
theorem dX2_copyFrom_20 : decode cX2_copyFrom 20 = .ok (.iconst 0, 1) := by decide +kernel
theorem dX2_copyFrom_21 : decode cX2_copyFrom 21 = .ok (.aload_n 0, 1) := by decide +kernel
theorem dX2_copyFrom_22 : decode cX2_copyFrom 22 = .ok (.getfield 15, 3) := by decide +kernel
theorem dX2_copyFrom_25 : decode cX2_copyFrom 25 = .ok (.iconst 0, 1) := by decide +kernel
theorem dX2_copyFrom_26 : decode cX2_copyFrom 26 = .ok (.sipush 400, 3) := by decide +kernel
theorem dX2_copyFrom_29 : decode cX2_copyFrom 29 = .ok (.invokestatic 46, 3) := by decide +kernel
theorem dX2_copyFrom_32 : decode cX2_copyFrom 32 = .ok (.aload_n 0, 1) := by decide +kernel
theorem dX2_copyFrom_33 : decode cX2_copyFrom 33 = .ok (.aload_n 1, 1) := by decide +kernel
theorem dX2_copyFrom_34 : decode cX2_copyFrom 34 = .ok (.getfield 18, 3) := by decide +kernel
theorem dX2_copyFrom_37 : decode cX2_copyFrom 37 = .ok (.putfield 18, 3) := by decide +kernel
theorem dX2_copyFrom_40 : decode cX2_copyFrom 40 = .ok (.aload_n 0, 1) := by decide +kernel
theorem dX2_copyFrom_41 : decode cX2_copyFrom 41 = .ok (.getfield 27, 3) := by decide +kernel
theorem dX2_copyFrom_44 : decode cX2_copyFrom 44 = .ok (.aload_n 1, 1) := by decide +kernel
theorem dX2_copyFrom_45 : decode cX2_copyFrom 45 = .ok (.getfield 27, 3) := by decide +kernel
theorem dX2_copyFrom_48 : decode cX2_copyFrom 48 = .ok (.invokevirtual 52, 3) := by decide +kernel
theorem dX2_copyFrom_51 : decode cX2_copyFrom 51 = .ok (.return_, 1) := by decide +kernel
theorem dX3_init_0 : decode cX3_init 0 = .ok (.aload_n 0, 1) := by decide +kernel
theorem dX3_init_1 : decode cX3_init 1 = .ok (.invokespecial 3, 3) := by decide +kernel
theorem dX3_init_4 : decode cX3_init 4 = .ok (.aload_n 0, 1) := by decide +kernel
theorem dX3_init_5 : decode cX3_init 5 = .ok (.new 9, 3) := by decide +kernel
theorem dX3_init_8 : decode cX3_init 8 = .ok (.dup, 1) := by decide +kernel
theorem dX3_init_9 : decode cX3_init 9 = .ok (.invokespecial 11, 3) := by decide +kernel
theorem dX3_init_12 : decode cX3_init 12 = .ok (.putfield 12, 3) := by decide +kernel
theorem dX3_init_15 : decode cX3_init 15 = .ok (.aload_n 0, 1) := by decide +kernel
theorem dX3_init_16 : decode cX3_init 16 = .ok (.new 18, 3) := by decide +kernel
theorem dX3_init_19 : decode cX3_init 19 = .ok (.dup, 1) := by decide +kernel
theorem dX3_init_20 : decode cX3_init 20 = .ok (.invokespecial 20, 3) := by decide +kernel
theorem dX3_init_23 : decode cX3_init 23 = .ok (.putfield 21, 3) := by decide +kernel
theorem dX3_init_26 : decode cX3_init 26 = .ok (.aload_n 0, 1) := by decide +kernel
theorem dX3_init_27 : decode cX3_init 27 = .ok (.iconst 0, 1) := by decide +kernel
theorem dX3_init_28 : decode cX3_init 28 = .ok (.putfield 25, 3) := by decide +kernel
theorem dX3_init_31 : decode cX3_init 31 = .ok (.aload_n 0, 1) := by decide +kernel
theorem dX3_init_32 : decode cX3_init 32 = .ok (.iconst 0, 1) := by decide +kernel
theorem dX3_init_33 : decode cX3_init 33 = .ok (.putfield 29, 3) := by decide +kernel
theorem dX3_init_36 : decode cX3_init 36 = .ok (.aload_n 0, 1) := by decide +kernel
theorem dX3_init_37 : decode cX3_init 37 = .ok (.iconst (-1), 1) := by decide +kernel
theorem dX3_init_38 : decode cX3_init 38 = .ok (.putfield 32, 3) := by decide +kernel
theorem dX3_init_41 : decode cX3_init 41 = .ok (.return_, 1) := by decide +kernel
theorem dX3_read_0 : decode cX3_read 0 = .ok (.aload_n 0, 1) := by decide +kernel
theorem dX3_read_1 : decode cX3_read 1 = .ok (.getfield 12, 3) := by decide +kernel
theorem dX3_read_4 : decode cX3_read 4 = .ok (.aload_n 1, 1) := by decide +kernel
theorem dX3_read_5 : decode cX3_read 5 = .ok (.invokevirtual 35, 3) := by decide +kernel
theorem dX3_read_8 : decode cX3_read 8 = .ok (.aload_n 0, 1) := by decide +kernel
theorem dX3_read_9 : decode cX3_read 9 = .ok (.getfield 21, 3) := by decide +kernel
theorem dX3_read_12 : decode cX3_read 12 = .ok (.invokevirtual 39, 3) := by decide +kernel
theorem dX3_read_15 : decode cX3_read 15 = .ok (.aload_n 0, 1) := by decide +kernel
theorem dX3_read_16 : decode cX3_read 16 = .ok (.iconst 0, 1) := by decide +kernel
theorem dX3_read_17 : decode cX3_read 17 = .ok (.putfield 25, 3) := by decide +kernel
theorem dX3_read_20 : decode cX3_read 20 = .ok (.aload_n 0, 1) := by decide +kernel
theorem dX3_read_21 : decode cX3_read 21 = .ok (.iconst 0, 1) := by decide +kernel
theorem dX3_read_22 : decode cX3_read 22 = .ok (.putfield 29, 3) := by decide +kernel
theorem dX3_read_25 : decode cX3_read 25 = .ok (.aload_n 0, 1) := by decide +kernel
theorem dX3_read_26 : decode cX3_read 26 = .ok (.iconst (-1), 1) := by decide +kernel
theorem dX3_read_27 : decode cX3_read 27 = .ok (.putfield 32, 3) := by decide +kernel
theorem dX3_read_30 : decode cX3_read 30 = .ok (.aload_n 0, 1) := by decide +kernel
theorem dX3_read_31 : decode cX3_read 31 = .ok (.invokevirtual 42, 3) := by decide +kernel
theorem dX3_read_34 : decode cX3_read 34 = .ok (.iconst 1, 1) := by decide +kernel
theorem dX3_read_35 : decode cX3_read 35 = .ok (.istore_n 2, 1) := by decide +kernel
theorem dX3_read_36 : decode cX3_read 36 = .ok (.iload_n 2, 1) := by decide +kernel
theorem dX3_read_37 : decode cX3_read 37 = .ok (.bipush 12, 2) := by decide +kernel
theorem dX3_read_39 : decode cX3_read 39 = .ok (.if_icmp .ge 23, 3) := by decide +kernel
theorem dX3_read_42 : decode cX3_read 42 = .ok (.aload_n 0, 1) := by decide +kernel
theorem dX3_read_43 : decode cX3_read 43 = .ok (.iconst 3, 1) := by decide +kernel
theorem dX3_read_44 : decode cX3_read 44 = .ok (.bipush 59, 2) := by decide +kernel
theorem dX3_read_46 : decode cX3_read 46 = .ok (.invokevirtual 45, 3) := by decide +kernel
theorem dX3_read_49 : decode cX3_read 49 = .ok (.ifCond .eq 13, 3) := by decide +kernel
theorem dX3_read_52 : decode cX3_read 52 = .ok (.aload_n 0, 1) := by decide +kernel
theorem dX3_read_53 : decode cX3_read 53 = .ok (.invokevirtual 42, 3) := by decide +kernel
theorem dX3_read_56 : decode cX3_read 56 = .ok (.iinc 2 1, 3) := by decide +kernel
theorem dX3_read_59 : decode cX3_read 59 = .ok (.goto (-23), 3) := by decide +kernel
theorem dX3_read_62 : decode cX3_read 62 = .ok (.aload_n 0, 1) := by decide +kernel
theorem dX3_read_63 : decode cX3_read 63 = .ok (.getfield 12, 3) := by decide +kernel
theorem dX3_read_66 : decode cX3_read 66 = .ok (.aload_n 0, 1) := by decide +kernel
theorem dX3_read_67 : decode cX3_read 67 = .ok (.getfield 25, 3) := by decide +kernel
theorem dX3_read_70 : decode cX3_read 70 = .ok (.invokevirtual 49, 3) := by decide +kernel
theorem dX3_read_73 : decode cX3_read 73 = .ok (.ifCond .eq 15, 3) := by decide +kernel
theorem dX3_read_76 : decode cX3_read 76 = .ok (.aload_n 0, 1) := by decide +kernel
theorem dX3_read_77 : decode cX3_read 77 = .ok (.iconst 3, 1) := by decide +kernel
theorem dX3_read_78 : decode cX3_read 78 = .ok (.bipush 59, 2) := by decide +kernel
theorem dX3_read_80 : decode cX3_read 80 = .ok (.invokevirtual 45, 3) := by decide +kernel
theorem dX3_read_83 : decode cX3_read 83 = .ok (.pop, 1) := by decide +kernel
theorem dX3_read_84 : decode cX3_read 84 = .ok (.aload_n 0, 1) := by decide +kernel
theorem dX3_read_85 : decode cX3_read 85 = .ok (.invokevirtual 53, 3) := by decide +kernel
theorem dX3_read_88 : decode cX3_read 88 = .ok (.return_, 1) := by decide +kernel
theorem dX3_faultPlace_0 : decode cX3_faultPlace 0 = .ok (.aload_n 0, 1) := by decide +kernel
theorem dX3_faultPlace_1 : decode cX3_faultPlace 1 = .ok (.getfield 32, 3) := by decide +kernel
theorem dX3_faultPlace_4 : decode cX3_faultPlace 4 = .ok (.ireturn, 1) := by decide +kernel
theorem dX3_draft_0 : decode cX3_draft 0 = .ok (.aload_n 0, 1) := by decide +kernel
theorem dX3_draft_1 : decode cX3_draft 1 = .ok (.getfield 21, 3) := by decide +kernel
theorem dX3_draft_4 : decode cX3_draft 4 = .ok (.areturn, 1) := by decide +kernel
theorem dX3_clause_0 : decode cX3_clause 0 = .ok (.aload_n 0, 1) := by decide +kernel
theorem dX3_clause_1 : decode cX3_clause 1 = .ok (.getfield 12, 3) := by decide +kernel
theorem dX3_clause_4 : decode cX3_clause 4 = .ok (.aload_n 0, 1) := by decide +kernel
theorem dX3_clause_5 : decode cX3_clause 5 = .ok (.getfield 25, 3) := by decide +kernel
theorem dX3_clause_8 : decode cX3_clause 8 = .ok (.invokevirtual 56, 3) := by decide +kernel
theorem dX3_clause_11 : decode cX3_clause 11 = .ok (.istore_n 1, 1) := by decide +kernel
theorem dX3_clause_12 : decode cX3_clause 12 = .ok (.aload_n 0, 1) := by decide +kernel
theorem dX3_clause_13 : decode cX3_clause 13 = .ok (.getfield 12, 3) := by decide +kernel
theorem dX3_clause_16 : decode cX3_clause 16 = .ok (.aload_n 0, 1) := by decide +kernel
theorem dX3_clause_17 : decode cX3_clause 17 = .ok (.getfield 25, 3) := by decide +kernel
theorem dX3_clause_20 : decode cX3_clause 20 = .ok (.invokevirtual 49, 3) := by decide +kernel
theorem dX3_clause_23 : decode cX3_clause 23 = .ok (.iconst 1, 1) := by decide +kernel
theorem dX3_clause_24 : decode cX3_clause 24 = .ok (.if_icmp .ne 12, 3) := by decide +kernel
theorem dX3_clause_27 : decode cX3_clause 27 = .ok (.iload_n 1, 1) := by decide +kernel
theorem dX3_clause_28 : decode cX3_clause 28 = .ok (.iconst 0, 1) := by decide +kernel
theorem dX3_clause_29 : decode cX3_clause 29 = .ok (.iconst 5, 1) := by decide +kernel
theorem dX3_clause_30 : decode cX3_clause 30 = .ok (.invokestatic 59, 3) := by decide +kernel
theorem dX3_clause_33 : decode cX3_clause 33 = .ok (.ifCond .ne 8, 3) := by decide +kernel
theorem dX3_clause_36 : decode cX3_clause 36 = .ok (.aload_n 0, 1) := by decide +kernel
theorem dX3_clause_37 : decode cX3_clause 37 = .ok (.invokevirtual 53, 3) := by decide +kernel
theorem dX3_clause_40 : decode cX3_clause 40 = .ok (.return_, 1) := by decide +kernel
theorem dX3_clause_41 : decode cX3_clause 41 = .ok (.aload_n 0, 1) := by decide +kernel
theorem dX3_clause_42 : decode cX3_clause 42 = .ok (.dup, 1) := by decide +kernel
theorem dX3_clause_43 : decode cX3_clause 43 = .ok (.getfield 25, 3) := by decide +kernel
theorem dX3_clause_46 : decode cX3_clause 46 = .ok (.iconst 1, 1) := by decide +kernel
theorem dX3_clause_47 : decode cX3_clause 47 = .ok (.iadd, 1) := by decide +kernel
theorem dX3_clause_48 : decode cX3_clause 48 = .ok (.putfield 25, 3) := by decide +kernel
theorem dX3_clause_51 : decode cX3_clause 51 = .ok (.aload_n 0, 1) := by decide +kernel
theorem dX3_clause_52 : decode cX3_clause 52 = .ok (.getfield 21, 3) := by decide +kernel
theorem dX3_clause_55 : decode cX3_clause 55 = .ok (.invokevirtual 63, 3) := by decide +kernel
theorem dX3_clause_58 : decode cX3_clause 58 = .ok (.istore_n 2, 1) := by decide +kernel
theorem dX3_clause_59 : decode cX3_clause 59 = .ok (.aload_n 0, 1) := by decide +kernel
theorem dX3_clause_60 : decode cX3_clause 60 = .ok (.iconst 0, 1) := by decide +kernel
theorem dX3_clause_61 : decode cX3_clause 61 = .ok (.invokevirtual 67, 3) := by decide +kernel
theorem dX3_clause_64 : decode cX3_clause 64 = .ok (.aload_n 0, 1) := by decide +kernel
theorem dX3_clause_65 : decode cX3_clause 65 = .ok (.getfield 21, 3) := by decide +kernel
theorem dX3_clause_68 : decode cX3_clause 68 = .ok (.invokevirtual 63, 3) := by decide +kernel
theorem dX3_clause_71 : decode cX3_clause 71 = .ok (.istore_n 3, 1) := by decide +kernel
theorem dX3_clause_72 : decode cX3_clause 72 = .ok (.aload_n 0, 1) := by decide +kernel
theorem dX3_clause_73 : decode cX3_clause 73 = .ok (.iconst 1, 1) := by decide +kernel
theorem dX3_clause_74 : decode cX3_clause 74 = .ok (.bipush 15, 2) := by decide +kernel
theorem dX3_clause_76 : decode cX3_clause 76 = .ok (.invokevirtual 45, 3) := by decide +kernel
theorem dX3_clause_79 : decode cX3_clause 79 = .ok (.ifCond .eq 8, 3) := by decide +kernel
theorem dX3_clause_82 : decode cX3_clause 82 = .ok (.aload_n 0, 1) := by decide +kernel
theorem dX3_clause_83 : decode cX3_clause 83 = .ok (.iconst 0, 1) := by decide +kernel
theorem dX3_clause_84 : decode cX3_clause 84 = .ok (.invokevirtual 71, 3) := by decide +kernel
theorem dX3_clause_87 : decode cX3_clause 87 = .ok (.aload_n 0, 1) := by decide +kernel
theorem dX3_clause_88 : decode cX3_clause 88 = .ok (.getfield 21, 3) := by decide +kernel
theorem dX3_clause_91 : decode cX3_clause 91 = .ok (.iload_n 1, 1) := by decide +kernel
theorem dX3_clause_92 : decode cX3_clause 92 = .ok (.iload_n 2, 1) := by decide +kernel
theorem dX3_clause_93 : decode cX3_clause 93 = .ok (.iload_n 3, 1) := by decide +kernel
theorem dX3_clause_94 : decode cX3_clause 94 = .ok (.invokevirtual 74, 3) := by decide +kernel
theorem dX3_clause_97 : decode cX3_clause 97 = .ok (.return_, 1) := by decide +kernel
theorem dX3_test_0 : decode cX3_test 0 = .ok (.aload_n 0, 1) := by decide +kernel
theorem dX3_test_1 : decode cX3_test 1 = .ok (.iload_n 1, 1) := by decide +kernel
theorem dX3_test_2 : decode cX3_test 2 = .ok (.invokevirtual 78, 3) := by decide +kernel
theorem dX3_test_5 : decode cX3_test 5 = .ok (.iconst 0, 1) := by decide +kernel
theorem dX3_test_6 : decode cX3_test 6 = .ok (.istore_n 2, 1) := by decide +kernel
theorem dX3_test_7 : decode cX3_test 7 = .ok (.iload_n 2, 1) := by decide +kernel
theorem dX3_test_8 : decode cX3_test 8 = .ok (.sipush 400, 3) := by decide +kernel
theorem dX3_test_11 : decode cX3_test 11 = .ok (.if_icmp .ge 43, 3) := by decide +kernel
theorem dX3_test_14 : decode cX3_test 14 = .ok (.aload_n 0, 1) := by decide +kernel
theorem dX3_test_15 : decode cX3_test 15 = .ok (.iconst 1, 1) := by decide +kernel
theorem dX3_test_16 : decode cX3_test 16 = .ok (.bipush 16, 2) := by decide +kernel
theorem dX3_test_18 : decode cX3_test 18 = .ok (.invokevirtual 45, 3) := by decide +kernel
theorem dX3_test_21 : decode cX3_test 21 = .ok (.ifCond .eq 33, 3) := by decide +kernel
theorem dX3_test_24 : decode cX3_test 24 = .ok (.aload_n 0, 1) := by decide +kernel
theorem dX3_test_25 : decode cX3_test 25 = .ok (.getfield 21, 3) := by decide +kernel
theorem dX3_test_28 : decode cX3_test 28 = .ok (.bipush 10, 2) := by decide +kernel
theorem dX3_test_30 : decode cX3_test 30 = .ok (.iconst 0, 1) := by decide +kernel
theorem dX3_test_31 : decode cX3_test 31 = .ok (.invokevirtual 81, 3) := by decide +kernel
theorem dX3_test_34 : decode cX3_test 34 = .ok (.istore_n 3, 1) := by decide +kernel
theorem dX3_test_35 : decode cX3_test 35 = .ok (.aload_n 0, 1) := by decide +kernel
theorem dX3_test_36 : decode cX3_test 36 = .ok (.iload_n 1, 1) := by decide +kernel
theorem dX3_test_37 : decode cX3_test 37 = .ok (.invokevirtual 78, 3) := by decide +kernel
theorem dX3_test_40 : decode cX3_test 40 = .ok (.aload_n 0, 1) := by decide +kernel
theorem dX3_test_41 : decode cX3_test 41 = .ok (.getfield 21, 3) := by decide +kernel
theorem dX3_test_44 : decode cX3_test 44 = .ok (.iload_n 3, 1) := by decide +kernel
theorem dX3_test_45 : decode cX3_test 45 = .ok (.invokevirtual 85, 3) := by decide +kernel
theorem dX3_test_48 : decode cX3_test 48 = .ok (.iinc 2 1, 3) := by decide +kernel
theorem dX3_test_51 : decode cX3_test 51 = .ok (.goto (-44), 3) := by decide +kernel
theorem dX3_test_54 : decode cX3_test 54 = .ok (.return_, 1) := by decide +kernel
theorem dX3_both_0 : decode cX3_both 0 = .ok (.aload_n 0, 1) := by decide +kernel
theorem dX3_both_1 : decode cX3_both 1 = .ok (.iload_n 1, 1) := by decide +kernel
theorem dX3_both_2 : decode cX3_both 2 = .ok (.invokevirtual 88, 3) := by decide +kernel
theorem dX3_both_5 : decode cX3_both 5 = .ok (.iconst 0, 1) := by decide +kernel
theorem dX3_both_6 : decode cX3_both 6 = .ok (.istore_n 2, 1) := by decide +kernel
theorem dX3_both_7 : decode cX3_both 7 = .ok (.iload_n 2, 1) := by decide +kernel
theorem dX3_both_8 : decode cX3_both 8 = .ok (.sipush 400, 3) := by decide +kernel
theorem dX3_both_11 : decode cX3_both 11 = .ok (.if_icmp .ge 43, 3) := by decide +kernel
theorem dX3_both_14 : decode cX3_both 14 = .ok (.aload_n 0, 1) := by decide +kernel
theorem dX3_both_15 : decode cX3_both 15 = .ok (.iconst 1, 1) := by decide +kernel
theorem dX3_both_16 : decode cX3_both 16 = .ok (.bipush 17, 2) := by decide +kernel
theorem dX3_both_18 : decode cX3_both 18 = .ok (.invokevirtual 45, 3) := by decide +kernel
theorem dX3_both_21 : decode cX3_both 21 = .ok (.ifCond .eq 33, 3) := by decide +kernel
theorem dX3_both_24 : decode cX3_both 24 = .ok (.aload_n 0, 1) := by decide +kernel
theorem dX3_both_25 : decode cX3_both 25 = .ok (.getfield 21, 3) := by decide +kernel
theorem dX3_both_28 : decode cX3_both 28 = .ok (.bipush 11, 2) := by decide +kernel
theorem dX3_both_30 : decode cX3_both 30 = .ok (.iconst 0, 1) := by decide +kernel
theorem dX3_both_31 : decode cX3_both 31 = .ok (.invokevirtual 81, 3) := by decide +kernel
theorem dX3_both_34 : decode cX3_both 34 = .ok (.istore_n 3, 1) := by decide +kernel
theorem dX3_both_35 : decode cX3_both 35 = .ok (.aload_n 0, 1) := by decide +kernel
theorem dX3_both_36 : decode cX3_both 36 = .ok (.iload_n 1, 1) := by decide +kernel
theorem dX3_both_37 : decode cX3_both 37 = .ok (.invokevirtual 88, 3) := by decide +kernel
theorem dX3_both_40 : decode cX3_both 40 = .ok (.aload_n 0, 1) := by decide +kernel
theorem dX3_both_41 : decode cX3_both 41 = .ok (.getfield 21, 3) := by decide +kernel
theorem dX3_both_44 : decode cX3_both 44 = .ok (.iload_n 3, 1) := by decide +kernel
theorem dX3_both_45 : decode cX3_both 45 = .ok (.invokevirtual 85, 3) := by decide +kernel
theorem dX3_both_48 : decode cX3_both 48 = .ok (.iinc 2 1, 3) := by decide +kernel
theorem dX3_both_51 : decode cX3_both 51 = .ok (.goto (-44), 3) := by decide +kernel
theorem dX3_both_54 : decode cX3_both 54 = .ok (.return_, 1) := by decide +kernel
theorem dX3_plain_0 : decode cX3_plain 0 = .ok (.iconst 0, 1) := by decide +kernel
theorem dX3_plain_1 : decode cX3_plain 1 = .ok (.istore_n 2, 1) := by decide +kernel
theorem dX3_plain_2 : decode cX3_plain 2 = .ok (.iconst 0, 1) := by decide +kernel
theorem dX3_plain_3 : decode cX3_plain 3 = .ok (.istore_n 3, 1) := by decide +kernel
theorem dX3_plain_4 : decode cX3_plain 4 = .ok (.iload_n 3, 1) := by decide +kernel
theorem dX3_plain_5 : decode cX3_plain 5 = .ok (.sipush 400, 3) := by decide +kernel
theorem dX3_plain_8 : decode cX3_plain 8 = .ok (.if_icmp .ge 29, 3) := by decide +kernel
theorem dX3_plain_11 : decode cX3_plain 11 = .ok (.aload_n 0, 1) := by decide +kernel
theorem dX3_plain_12 : decode cX3_plain 12 = .ok (.iconst 1, 1) := by decide +kernel
theorem dX3_plain_13 : decode cX3_plain 13 = .ok (.bipush 18, 2) := by decide +kernel
theorem dX3_plain_15 : decode cX3_plain 15 = .ok (.invokevirtual 45, 3) := by decide +kernel
theorem dX3_plain_18 : decode cX3_plain 18 = .ok (.ifCond .eq 19, 3) := by decide +kernel
theorem dX3_plain_21 : decode cX3_plain 21 = .ok (.iload_n 2, 1) := by decide +kernel
theorem dX3_plain_22 : decode cX3_plain 22 = .ok (.ifCond .ne 7, 3) := by decide +kernel
theorem dX3_plain_25 : decode cX3_plain 25 = .ok (.iconst 1, 1) := by decide +kernel
theorem dX3_plain_26 : decode cX3_plain 26 = .ok (.goto 4, 3) := by decide +kernel
theorem dX3_plain_29 : decode cX3_plain 29 = .ok (.iconst 0, 1) := by decide +kernel
theorem dX3_plain_30 : decode cX3_plain 30 = .ok (.istore_n 2, 1) := by decide +kernel
theorem dX3_plain_31 : decode cX3_plain 31 = .ok (.iinc 3 1, 3) := by decide +kernel
theorem dX3_plain_34 : decode cX3_plain 34 = .ok (.goto (-30), 3) := by decide +kernel
theorem dX3_plain_37 : decode cX3_plain 37 = .ok (.aload_n 0, 1) := by decide +kernel
theorem dX3_plain_38 : decode cX3_plain 38 = .ok (.getfield 12, 3) := by decide +kernel
theorem dX3_plain_41 : decode cX3_plain 41 = .ok (.aload_n 0, 1) := by decide +kernel
theorem dX3_plain_42 : decode cX3_plain 42 = .ok (.getfield 25, 3) := by decide +kernel
theorem dX3_plain_45 : decode cX3_plain 45 = .ok (.iconst 3, 1) := by decide +kernel
theorem dX3_plain_46 : decode cX3_plain 46 = .ok (.bipush 40, 2) := by decide +kernel
theorem dX3_plain_48 : decode cX3_plain 48 = .ok (.invokevirtual 91, 3) := by decide +kernel
theorem dX3_plain_51 : decode cX3_plain 51 = .ok (.ifCond .eq 13, 3) := by decide +kernel
theorem dX3_plain_54 : decode cX3_plain 54 = .ok (.aload_n 0, 1) := by decide +kernel
theorem dX3_plain_55 : decode cX3_plain 55 = .ok (.iload_n 1, 1) := by decide +kernel
theorem dX3_plain_56 : decode cX3_plain 56 = .ok (.iconst 1, 1) := by decide +kernel
theorem dX3_plain_57 : decode cX3_plain 57 = .ok (.iadd, 1) := by decide +kernel
theorem dX3_plain_58 : decode cX3_plain 58 = .ok (.invokevirtual 94, 3) := by decide +kernel
theorem dX3_plain_61 : decode cX3_plain 61 = .ok (.goto 8, 3) := by decide +kernel
theorem dX3_plain_64 : decode cX3_plain 64 = .ok (.aload_n 0, 1) := by decide +kernel
theorem dX3_plain_65 : decode cX3_plain 65 = .ok (.iload_n 1, 1) := by decide +kernel
theorem dX3_plain_66 : decode cX3_plain 66 = .ok (.invokevirtual 97, 3) := by decide +kernel
theorem dX3_plain_69 : decode cX3_plain 69 = .ok (.iload_n 2, 1) := by decide +kernel
theorem dX3_plain_70 : decode cX3_plain 70 = .ok (.ifCond .eq 14, 3) := by decide +kernel
theorem dX3_plain_73 : decode cX3_plain 73 = .ok (.aload_n 0, 1) := by decide +kernel
theorem dX3_plain_74 : decode cX3_plain 74 = .ok (.getfield 21, 3) := by decide +kernel
theorem dX3_plain_77 : decode cX3_plain 77 = .ok (.bipush 9, 2) := by decide +kernel
theorem dX3_plain_79 : decode cX3_plain 79 = .ok (.iconst 0, 1) := by decide +kernel
theorem dX3_plain_80 : decode cX3_plain 80 = .ok (.invokevirtual 81, 3) := by decide +kernel
theorem dX3_plain_83 : decode cX3_plain 83 = .ok (.pop, 1) := by decide +kernel
theorem dX3_plain_84 : decode cX3_plain 84 = .ok (.return_, 1) := by decide +kernel
theorem dX3_testInBrackets_0 : decode cX3_testInBrackets 0 = .ok (.iload_n 1, 1) := by decide +kernel
theorem dX3_testInBrackets_1 : decode cX3_testInBrackets 1 = .ok (.bipush 8, 2) := by decide +kernel
theorem dX3_testInBrackets_3 : decode cX3_testInBrackets 3 = .ok (.if_icmp .le 8, 3) := by decide +kernel
theorem dX3_testInBrackets_6 : decode cX3_testInBrackets 6 = .ok (.aload_n 0, 1) := by decide +kernel
theorem dX3_testInBrackets_7 : decode cX3_testInBrackets 7 = .ok (.invokevirtual 53, 3) := by decide +kernel
theorem dX3_testInBrackets_10 : decode cX3_testInBrackets 10 = .ok (.return_, 1) := by decide +kernel
theorem dX3_testInBrackets_11 : decode cX3_testInBrackets 11 = .ok (.aload_n 0, 1) := by decide +kernel
theorem dX3_testInBrackets_12 : decode cX3_testInBrackets 12 = .ok (.iconst 3, 1) := by decide +kernel
theorem dX3_testInBrackets_13 : decode cX3_testInBrackets 13 = .ok (.bipush 40, 2) := by decide +kernel
theorem dX3_testInBrackets_15 : decode cX3_testInBrackets 15 = .ok (.invokevirtual 45, 3) := by decide +kernel
theorem dX3_testInBrackets_18 : decode cX3_testInBrackets 18 = .ok (.pop, 1) := by decide +kernel
theorem dX3_testInBrackets_19 : decode cX3_testInBrackets 19 = .ok (.aload_n 0, 1) := by decide +kernel
theorem dX3_testInBrackets_20 : decode cX3_testInBrackets 20 = .ok (.iload_n 1, 1) := by decide +kernel
theorem dX3_testInBrackets_21 : decode cX3_testInBrackets 21 = .ok (.invokevirtual 71, 3) := by decide +kernel
theorem dX3_testInBrackets_24 : decode cX3_testInBrackets 24 = .ok (.aload_n 0, 1) := by decide +kernel
theorem dX3_testInBrackets_25 : decode cX3_testInBrackets 25 = .ok (.iconst 3, 1) := by decide +kernel
theorem dX3_testInBrackets_26 : decode cX3_testInBrackets 26 = .ok (.bipush 41, 2) := by decide +kernel
theorem dX3_testInBrackets_28 : decode cX3_testInBrackets 28 = .ok (.invokevirtual 45, 3) := by decide +kernel
theorem dX3_testInBrackets_31 : decode cX3_testInBrackets 31 = .ok (.ifCond .ne 7, 3) := by decide +kernel
theorem dX3_testInBrackets_34 : decode cX3_testInBrackets 34 = .ok (.aload_n 0, 1) := by decide +kernel
theorem dX3_testInBrackets_35 : decode cX3_testInBrackets 35 = .ok (.invokevirtual 53, 3) := by decide +kernel
theorem dX3_testInBrackets_38 : decode cX3_testInBrackets 38 = .ok (.return_, 1) := by decide +kernel
theorem dX3_comparison_0 : decode cX3_comparison 0 = .ok (.aload_n 0, 1) := by decide +kernel
theorem dX3_comparison_1 : decode cX3_comparison 1 = .ok (.iload_n 1, 1) := by decide +kernel
theorem dX3_comparison_2 : decode cX3_comparison 2 = .ok (.invokevirtual 67, 3) := by decide +kernel
theorem dX3_comparison_5 : decode cX3_comparison 5 = .ok (.aload_n 0, 1) := by decide +kernel
theorem dX3_comparison_6 : decode cX3_comparison 6 = .ok (.iconst 3, 1) := by decide +kernel
theorem dX3_comparison_7 : decode cX3_comparison 7 = .ok (.bipush 60, 2) := by decide +kernel
theorem dX3_comparison_9 : decode cX3_comparison 9 = .ok (.invokevirtual 45, 3) := by decide +kernel
theorem dX3_comparison_12 : decode cX3_comparison 12 = .ok (.ifCond .eq 8, 3) := by decide +kernel
theorem dX3_comparison_15 : decode cX3_comparison 15 = .ok (.bipush 6, 2) := by decide +kernel
theorem dX3_comparison_17 : decode cX3_comparison 17 = .ok (.goto 34, 3) := by decide +kernel
theorem dX3_comparison_20 : decode cX3_comparison 20 = .ok (.aload_n 0, 1) := by decide +kernel
theorem dX3_comparison_21 : decode cX3_comparison 21 = .ok (.iconst 3, 1) := by decide +kernel
theorem dX3_comparison_22 : decode cX3_comparison 22 = .ok (.bipush 62, 2) := by decide +kernel
theorem dX3_comparison_24 : decode cX3_comparison 24 = .ok (.invokevirtual 45, 3) := by decide +kernel
theorem dX3_comparison_27 : decode cX3_comparison 27 = .ok (.ifCond .eq 8, 3) := by decide +kernel
theorem dX3_comparison_30 : decode cX3_comparison 30 = .ok (.bipush 7, 2) := by decide +kernel
theorem dX3_comparison_32 : decode cX3_comparison 32 = .ok (.goto 19, 3) := by decide +kernel
theorem dX3_comparison_35 : decode cX3_comparison 35 = .ok (.aload_n 0, 1) := by decide +kernel
theorem dX3_comparison_36 : decode cX3_comparison 36 = .ok (.iconst 3, 1) := by decide +kernel
theorem dX3_comparison_37 : decode cX3_comparison 37 = .ok (.bipush 61, 2) := by decide +kernel
theorem dX3_comparison_39 : decode cX3_comparison 39 = .ok (.invokevirtual 45, 3) := by decide +kernel
theorem dX3_comparison_42 : decode cX3_comparison 42 = .ok (.ifCond .eq 8, 3) := by decide +kernel
theorem dX3_comparison_45 : decode cX3_comparison 45 = .ok (.bipush 8, 2) := by decide +kernel
theorem dX3_comparison_47 : decode cX3_comparison 47 = .ok (.goto 4, 3) := by decide +kernel
theorem dX3_comparison_50 : decode cX3_comparison 50 = .ok (.iconst (-1), 1) := by decide +kernel
theorem dX3_comparison_51 : decode cX3_comparison 51 = .ok (.istore_n 2, 1) := by decide +kernel
theorem dX3_comparison_52 : decode cX3_comparison 52 = .ok (.iload_n 2, 1) := by decide +kernel
theorem dX3_comparison_53 : decode cX3_comparison 53 = .ok (.iconst (-1), 1) := by decide +kernel
theorem dX3_comparison_54 : decode cX3_comparison 54 = .ok (.if_icmp .ne 8, 3) := by decide +kernel
theorem dX3_comparison_57 : decode cX3_comparison 57 = .ok (.aload_n 0, 1) := by decide +kernel
theorem dX3_comparison_58 : decode cX3_comparison 58 = .ok (.invokevirtual 53, 3) := by decide +kernel
theorem dX3_comparison_61 : decode cX3_comparison 61 = .ok (.return_, 1) := by decide +kernel
theorem dX3_comparison_62 : decode cX3_comparison 62 = .ok (.aload_n 0, 1) := by decide +kernel
theorem dX3_comparison_63 : decode cX3_comparison 63 = .ok (.iload_n 1, 1) := by decide +kernel
theorem dX3_comparison_64 : decode cX3_comparison 64 = .ok (.invokevirtual 67, 3) := by decide +kernel
theorem dX3_comparison_67 : decode cX3_comparison 67 = .ok (.aload_n 0, 1) := by decide +kernel
theorem dX3_comparison_68 : decode cX3_comparison 68 = .ok (.getfield 21, 3) := by decide +kernel
theorem dX3_comparison_71 : decode cX3_comparison 71 = .ok (.iload_n 2, 1) := by decide +kernel
theorem dX3_comparison_72 : decode cX3_comparison 72 = .ok (.iconst 0, 1) := by decide +kernel
theorem dX3_comparison_73 : decode cX3_comparison 73 = .ok (.invokevirtual 81, 3) := by decide +kernel
theorem dX3_comparison_76 : decode cX3_comparison 76 = .ok (.pop, 1) := by decide +kernel
theorem dX3_comparison_77 : decode cX3_comparison 77 = .ok (.return_, 1) := by decide +kernel
theorem dX3_sum_0 : decode cX3_sum 0 = .ok (.aload_n 0, 1) := by decide +kernel
theorem dX3_sum_1 : decode cX3_sum 1 = .ok (.iload_n 1, 1) := by decide +kernel
theorem dX3_sum_2 : decode cX3_sum 2 = .ok (.invokevirtual 100, 3) := by decide +kernel
theorem dX3_sum_5 : decode cX3_sum 5 = .ok (.iconst 0, 1) := by decide +kernel
theorem dX3_sum_6 : decode cX3_sum 6 = .ok (.istore_n 2, 1) := by decide +kernel
theorem dX3_sum_7 : decode cX3_sum 7 = .ok (.iload_n 2, 1) := by decide +kernel
theorem dX3_sum_8 : decode cX3_sum 8 = .ok (.sipush 400, 3) := by decide +kernel
theorem dX3_sum_11 : decode cX3_sum 11 = .ok (.if_icmp .ge 60, 3) := by decide +kernel
theorem dX3_sum_14 : decode cX3_sum 14 = .ok (.aload_n 0, 1) := by decide +kernel
theorem dX3_sum_15 : decode cX3_sum 15 = .ok (.iconst 3, 1) := by decide +kernel
theorem dX3_sum_16 : decode cX3_sum 16 = .ok (.bipush 43, 2) := by decide +kernel
theorem dX3_sum_18 : decode cX3_sum 18 = .ok (.invokevirtual 45, 3) := by decide +kernel
theorem dX3_sum_21 : decode cX3_sum 21 = .ok (.ifCond .eq 7, 3) := by decide +kernel
theorem dX3_sum_24 : decode cX3_sum 24 = .ok (.iconst 2, 1) := by decide +kernel
theorem dX3_sum_25 : decode cX3_sum 25 = .ok (.goto 18, 3) := by decide +kernel
theorem dX3_sum_28 : decode cX3_sum 28 = .ok (.aload_n 0, 1) := by decide +kernel
theorem dX3_sum_29 : decode cX3_sum 29 = .ok (.iconst 3, 1) := by decide +kernel
theorem dX3_sum_30 : decode cX3_sum 30 = .ok (.bipush 45, 2) := by decide +kernel
theorem dX3_sum_32 : decode cX3_sum 32 = .ok (.invokevirtual 45, 3) := by decide +kernel
theorem dX3_sum_35 : decode cX3_sum 35 = .ok (.ifCond .eq 7, 3) := by decide +kernel
theorem dX3_sum_38 : decode cX3_sum 38 = .ok (.iconst 3, 1) := by decide +kernel
theorem dX3_sum_39 : decode cX3_sum 39 = .ok (.goto 4, 3) := by decide +kernel
theorem dX3_sum_42 : decode cX3_sum 42 = .ok (.iconst (-1), 1) := by decide +kernel
theorem dX3_sum_43 : decode cX3_sum 43 = .ok (.istore_n 3, 1) := by decide +kernel
theorem dX3_sum_44 : decode cX3_sum 44 = .ok (.iload_n 3, 1) := by decide +kernel
theorem dX3_sum_45 : decode cX3_sum 45 = .ok (.iconst (-1), 1) := by decide +kernel
theorem dX3_sum_46 : decode cX3_sum 46 = .ok (.if_icmp .ne 4, 3) := by decide +kernel
theorem dX3_sum_49 : decode cX3_sum 49 = .ok (.return_, 1) := by decide +kernel
theorem dX3_sum_50 : decode cX3_sum 50 = .ok (.aload_n 0, 1) := by decide +kernel
theorem dX3_sum_51 : decode cX3_sum 51 = .ok (.iload_n 1, 1) := by decide +kernel
theorem dX3_sum_52 : decode cX3_sum 52 = .ok (.invokevirtual 100, 3) := by decide +kernel
theorem dX3_sum_55 : decode cX3_sum 55 = .ok (.aload_n 0, 1) := by decide +kernel
theorem dX3_sum_56 : decode cX3_sum 56 = .ok (.getfield 21, 3) := by decide +kernel
theorem dX3_sum_59 : decode cX3_sum 59 = .ok (.iload_n 3, 1) := by decide +kernel
theorem dX3_sum_60 : decode cX3_sum 60 = .ok (.iconst 0, 1) := by decide +kernel
theorem dX3_sum_61 : decode cX3_sum 61 = .ok (.invokevirtual 81, 3) := by decide +kernel
theorem dX3_sum_64 : decode cX3_sum 64 = .ok (.pop, 1) := by decide +kernel
theorem dX3_sum_65 : decode cX3_sum 65 = .ok (.iinc 2 1, 3) := by decide +kernel
theorem dX3_sum_68 : decode cX3_sum 68 = .ok (.goto (-61), 3) := by decide +kernel
theorem dX3_sum_71 : decode cX3_sum 71 = .ok (.return_, 1) := by decide +kernel
theorem dX3_term_0 : decode cX3_term 0 = .ok (.aload_n 0, 1) := by decide +kernel
theorem dX3_term_1 : decode cX3_term 1 = .ok (.iload_n 1, 1) := by decide +kernel
theorem dX3_term_2 : decode cX3_term 2 = .ok (.invokevirtual 103, 3) := by decide +kernel
theorem dX3_term_5 : decode cX3_term 5 = .ok (.iconst 0, 1) := by decide +kernel
theorem dX3_term_6 : decode cX3_term 6 = .ok (.istore_n 2, 1) := by decide +kernel
theorem dX3_term_7 : decode cX3_term 7 = .ok (.iload_n 2, 1) := by decide +kernel
theorem dX3_term_8 : decode cX3_term 8 = .ok (.sipush 400, 3) := by decide +kernel
theorem dX3_term_11 : decode cX3_term 11 = .ok (.if_icmp .ge 60, 3) := by decide +kernel
theorem dX3_term_14 : decode cX3_term 14 = .ok (.aload_n 0, 1) := by decide +kernel
theorem dX3_term_15 : decode cX3_term 15 = .ok (.iconst 3, 1) := by decide +kernel
theorem dX3_term_16 : decode cX3_term 16 = .ok (.bipush 42, 2) := by decide +kernel
theorem dX3_term_18 : decode cX3_term 18 = .ok (.invokevirtual 45, 3) := by decide +kernel
theorem dX3_term_21 : decode cX3_term 21 = .ok (.ifCond .eq 7, 3) := by decide +kernel
theorem dX3_term_24 : decode cX3_term 24 = .ok (.iconst 4, 1) := by decide +kernel
theorem dX3_term_25 : decode cX3_term 25 = .ok (.goto 18, 3) := by decide +kernel
theorem dX3_term_28 : decode cX3_term 28 = .ok (.aload_n 0, 1) := by decide +kernel
theorem dX3_term_29 : decode cX3_term 29 = .ok (.iconst 3, 1) := by decide +kernel
theorem dX3_term_30 : decode cX3_term 30 = .ok (.bipush 47, 2) := by decide +kernel
theorem dX3_term_32 : decode cX3_term 32 = .ok (.invokevirtual 45, 3) := by decide +kernel
theorem dX3_term_35 : decode cX3_term 35 = .ok (.ifCond .eq 7, 3) := by decide +kernel
theorem dX3_term_38 : decode cX3_term 38 = .ok (.iconst 5, 1) := by decide +kernel
theorem dX3_term_39 : decode cX3_term 39 = .ok (.goto 4, 3) := by decide +kernel
theorem dX3_term_42 : decode cX3_term 42 = .ok (.iconst (-1), 1) := by decide +kernel
theorem dX3_term_43 : decode cX3_term 43 = .ok (.istore_n 3, 1) := by decide +kernel
theorem dX3_term_44 : decode cX3_term 44 = .ok (.iload_n 3, 1) := by decide +kernel
theorem dX3_term_45 : decode cX3_term 45 = .ok (.iconst (-1), 1) := by decide +kernel
theorem dX3_term_46 : decode cX3_term 46 = .ok (.if_icmp .ne 4, 3) := by decide +kernel
theorem dX3_term_49 : decode cX3_term 49 = .ok (.return_, 1) := by decide +kernel
theorem dX3_term_50 : decode cX3_term 50 = .ok (.aload_n 0, 1) := by decide +kernel
theorem dX3_term_51 : decode cX3_term 51 = .ok (.iload_n 1, 1) := by decide +kernel
theorem dX3_term_52 : decode cX3_term 52 = .ok (.invokevirtual 103, 3) := by decide +kernel
theorem dX3_term_55 : decode cX3_term 55 = .ok (.aload_n 0, 1) := by decide +kernel
theorem dX3_term_56 : decode cX3_term 56 = .ok (.getfield 21, 3) := by decide +kernel
theorem dX3_term_59 : decode cX3_term 59 = .ok (.iload_n 3, 1) := by decide +kernel
theorem dX3_term_60 : decode cX3_term 60 = .ok (.iconst 0, 1) := by decide +kernel
theorem dX3_term_61 : decode cX3_term 61 = .ok (.invokevirtual 81, 3) := by decide +kernel
theorem dX3_term_64 : decode cX3_term 64 = .ok (.pop, 1) := by decide +kernel
theorem dX3_term_65 : decode cX3_term 65 = .ok (.iinc 2 1, 3) := by decide +kernel
theorem dX3_term_68 : decode cX3_term 68 = .ok (.goto (-61), 3) := by decide +kernel
theorem dX3_term_71 : decode cX3_term 71 = .ok (.return_, 1) := by decide +kernel
theorem dX3_part_0 : decode cX3_part 0 = .ok (.aload_n 0, 1) := by decide +kernel
theorem dX3_part_1 : decode cX3_part 1 = .ok (.getfield 12, 3) := by decide +kernel
theorem dX3_part_4 : decode cX3_part 4 = .ok (.aload_n 0, 1) := by decide +kernel
theorem dX3_part_5 : decode cX3_part 5 = .ok (.getfield 25, 3) := by decide +kernel
theorem dX3_part_8 : decode cX3_part 8 = .ok (.invokevirtual 56, 3) := by decide +kernel
theorem dX3_part_11 : decode cX3_part 11 = .ok (.istore_n 2, 1) := by decide +kernel
theorem dX3_part_12 : decode cX3_part 12 = .ok (.aload_n 0, 1) := by decide +kernel
theorem dX3_part_13 : decode cX3_part 13 = .ok (.getfield 12, 3) := by decide +kernel
theorem dX3_part_16 : decode cX3_part 16 = .ok (.aload_n 0, 1) := by decide +kernel
theorem dX3_part_17 : decode cX3_part 17 = .ok (.getfield 25, 3) := by decide +kernel
theorem dX3_part_20 : decode cX3_part 20 = .ok (.invokevirtual 49, 3) := by decide +kernel
theorem dX3_part_23 : decode cX3_part 23 = .ok (.istore_n 3, 1) := by decide +kernel
theorem dX3_part_24 : decode cX3_part 24 = .ok (.aload_n 0, 1) := by decide +kernel
theorem dX3_part_25 : decode cX3_part 25 = .ok (.getfield 12, 3) := by decide +kernel
theorem dX3_part_28 : decode cX3_part 28 = .ok (.aload_n 0, 1) := by decide +kernel
theorem dX3_part_29 : decode cX3_part 29 = .ok (.getfield 25, 3) := by decide +kernel
theorem dX3_part_32 : decode cX3_part 32 = .ok (.iconst 3, 1) := by decide +kernel
theorem dX3_part_33 : decode cX3_part 33 = .ok (.bipush 91, 2) := by decide +kernel
theorem dX3_part_35 : decode cX3_part 35 = .ok (.invokevirtual 91, 3) := by decide +kernel
theorem dX3_part_38 : decode cX3_part 38 = .ok (.ifCond .eq 13, 3) := by decide +kernel
theorem dX3_part_41 : decode cX3_part 41 = .ok (.aload_n 0, 1) := by decide +kernel
theorem dX3_part_42 : decode cX3_part 42 = .ok (.iload_n 1, 1) := by decide +kernel
theorem dX3_part_43 : decode cX3_part 43 = .ok (.iconst 1, 1) := by decide +kernel
theorem dX3_part_44 : decode cX3_part 44 = .ok (.iadd, 1) := by decide +kernel
theorem dX3_part_45 : decode cX3_part 45 = .ok (.invokevirtual 106, 3) := by decide +kernel
theorem dX3_part_48 : decode cX3_part 48 = .ok (.goto 55, 3) := by decide +kernel
theorem dX3_part_51 : decode cX3_part 51 = .ok (.iload_n 3, 1) := by decide +kernel
theorem dX3_part_52 : decode cX3_part 52 = .ok (.iconst 2, 1) := by decide +kernel
theorem dX3_part_53 : decode cX3_part 53 = .ok (.if_icmp .ne 18, 3) := by decide +kernel
theorem dX3_part_56 : decode cX3_part 56 = .ok (.iload_n 2, 1) := by decide +kernel
theorem dX3_part_57 : decode cX3_part 57 = .ok (.ldc 109, 2) := by decide +kernel
theorem dX3_part_59 : decode cX3_part 59 = .ok (.if_icmp .gt 12, 3) := by decide +kernel
theorem dX3_part_62 : decode cX3_part 62 = .ok (.aload_n 0, 1) := by decide +kernel
theorem dX3_part_63 : decode cX3_part 63 = .ok (.iconst 0, 1) := by decide +kernel
theorem dX3_part_64 : decode cX3_part 64 = .ok (.iload_n 2, 1) := by decide +kernel
theorem dX3_part_65 : decode cX3_part 65 = .ok (.invokevirtual 110, 3) := by decide +kernel
theorem dX3_part_68 : decode cX3_part 68 = .ok (.goto 35, 3) := by decide +kernel
theorem dX3_part_71 : decode cX3_part 71 = .ok (.iload_n 3, 1) := by decide +kernel
theorem dX3_part_72 : decode cX3_part 72 = .ok (.iconst 1, 1) := by decide +kernel
theorem dX3_part_73 : decode cX3_part 73 = .ok (.if_icmp .ne 26, 3) := by decide +kernel
theorem dX3_part_76 : decode cX3_part 76 = .ok (.iload_n 2, 1) := by decide +kernel
theorem dX3_part_77 : decode cX3_part 77 = .ok (.bipush 6, 2) := by decide +kernel
theorem dX3_part_79 : decode cX3_part 79 = .ok (.bipush 14, 2) := by decide +kernel
theorem dX3_part_81 : decode cX3_part 81 = .ok (.invokestatic 59, 3) := by decide +kernel
theorem dX3_part_84 : decode cX3_part 84 = .ok (.ifCond .eq 15, 3) := by decide +kernel
theorem dX3_part_87 : decode cX3_part 87 = .ok (.aload_n 0, 1) := by decide +kernel
theorem dX3_part_88 : decode cX3_part 88 = .ok (.iconst 1, 1) := by decide +kernel
theorem dX3_part_89 : decode cX3_part 89 = .ok (.iload_n 2, 1) := by decide +kernel
theorem dX3_part_90 : decode cX3_part 90 = .ok (.bipush 6, 2) := by decide +kernel
theorem dX3_part_92 : decode cX3_part 92 = .ok (.isub, 1) := by decide +kernel
theorem dX3_part_93 : decode cX3_part 93 = .ok (.invokevirtual 110, 3) := by decide +kernel
theorem dX3_part_96 : decode cX3_part 96 = .ok (.goto 7, 3) := by decide +kernel
theorem dX3_part_99 : decode cX3_part 99 = .ok (.aload_n 0, 1) := by decide +kernel
theorem dX3_part_100 : decode cX3_part 100 = .ok (.invokevirtual 53, 3) := by decide +kernel
theorem dX3_part_103 : decode cX3_part 103 = .ok (.return_, 1) := by decide +kernel
theorem dX3_sumInBrackets_0 : decode cX3_sumInBrackets 0 = .ok (.iload_n 1, 1) := by decide +kernel
theorem dX3_sumInBrackets_1 : decode cX3_sumInBrackets 1 = .ok (.bipush 8, 2) := by decide +kernel
theorem dX3_sumInBrackets_3 : decode cX3_sumInBrackets 3 = .ok (.if_icmp .le 8, 3) := by decide +kernel
theorem dX3_sumInBrackets_6 : decode cX3_sumInBrackets 6 = .ok (.aload_n 0, 1) := by decide +kernel
theorem dX3_sumInBrackets_7 : decode cX3_sumInBrackets 7 = .ok (.invokevirtual 53, 3) := by decide +kernel
theorem dX3_sumInBrackets_10 : decode cX3_sumInBrackets 10 = .ok (.return_, 1) := by decide +kernel
theorem dX3_sumInBrackets_11 : decode cX3_sumInBrackets 11 = .ok (.aload_n 0, 1) := by decide +kernel
theorem dX3_sumInBrackets_12 : decode cX3_sumInBrackets 12 = .ok (.iconst 3, 1) := by decide +kernel
theorem dX3_sumInBrackets_13 : decode cX3_sumInBrackets 13 = .ok (.bipush 91, 2) := by decide +kernel
theorem dX3_sumInBrackets_15 : decode cX3_sumInBrackets 15 = .ok (.invokevirtual 45, 3) := by decide +kernel
theorem dX3_sumInBrackets_18 : decode cX3_sumInBrackets 18 = .ok (.pop, 1) := by decide +kernel
theorem dX3_sumInBrackets_19 : decode cX3_sumInBrackets 19 = .ok (.aload_n 0, 1) := by decide +kernel
theorem dX3_sumInBrackets_20 : decode cX3_sumInBrackets 20 = .ok (.iload_n 1, 1) := by decide +kernel
theorem dX3_sumInBrackets_21 : decode cX3_sumInBrackets 21 = .ok (.invokevirtual 67, 3) := by decide +kernel
theorem dX3_sumInBrackets_24 : decode cX3_sumInBrackets 24 = .ok (.aload_n 0, 1) := by decide +kernel
theorem dX3_sumInBrackets_25 : decode cX3_sumInBrackets 25 = .ok (.iconst 3, 1) := by decide +kernel
theorem dX3_sumInBrackets_26 : decode cX3_sumInBrackets 26 = .ok (.bipush 93, 2) := by decide +kernel
theorem dX3_sumInBrackets_28 : decode cX3_sumInBrackets 28 = .ok (.invokevirtual 45, 3) := by decide +kernel
theorem dX3_sumInBrackets_31 : decode cX3_sumInBrackets 31 = .ok (.ifCond .ne 7, 3) := by decide +kernel
theorem dX3_sumInBrackets_34 : decode cX3_sumInBrackets 34 = .ok (.aload_n 0, 1) := by decide +kernel
theorem dX3_sumInBrackets_35 : decode cX3_sumInBrackets 35 = .ok (.invokevirtual 53, 3) := by decide +kernel
theorem dX3_sumInBrackets_38 : decode cX3_sumInBrackets 38 = .ok (.return_, 1) := by decide +kernel
theorem dX3_countedPart_0 : decode cX3_countedPart 0 = .ok (.aload_n 0, 1) := by decide +kernel
theorem dX3_countedPart_1 : decode cX3_countedPart 1 = .ok (.getfield 29, 3) := by decide +kernel
theorem dX3_countedPart_4 : decode cX3_countedPart 4 = .ok (.bipush 50, 2) := by decide +kernel
theorem dX3_countedPart_6 : decode cX3_countedPart 6 = .ok (.if_icmp .lt 8, 3) := by decide +kernel
theorem dX3_countedPart_9 : decode cX3_countedPart 9 = .ok (.aload_n 0, 1) := by decide +kernel
theorem dX3_countedPart_10 : decode cX3_countedPart 10 = .ok (.invokevirtual 53, 3) := by decide +kernel
theorem dX3_countedPart_13 : decode cX3_countedPart 13 = .ok (.return_, 1) := by decide +kernel
theorem dX3_countedPart_14 : decode cX3_countedPart 14 = .ok (.aload_n 0, 1) := by decide +kernel
theorem dX3_countedPart_15 : decode cX3_countedPart 15 = .ok (.dup, 1) := by decide +kernel
theorem dX3_countedPart_16 : decode cX3_countedPart 16 = .ok (.getfield 29, 3) := by decide +kernel
theorem dX3_countedPart_19 : decode cX3_countedPart 19 = .ok (.iconst 1, 1) := by decide +kernel
theorem dX3_countedPart_20 : decode cX3_countedPart 20 = .ok (.iadd, 1) := by decide +kernel
theorem dX3_countedPart_21 : decode cX3_countedPart 21 = .ok (.putfield 29, 3) := by decide +kernel
theorem dX3_countedPart_24 : decode cX3_countedPart 24 = .ok (.aload_n 0, 1) := by decide +kernel
theorem dX3_countedPart_25 : decode cX3_countedPart 25 = .ok (.getfield 21, 3) := by decide +kernel
theorem dX3_countedPart_28 : decode cX3_countedPart 28 = .ok (.iload_n 1, 1) := by decide +kernel
theorem dX3_countedPart_29 : decode cX3_countedPart 29 = .ok (.iload_n 2, 1) := by decide +kernel
theorem dX3_countedPart_30 : decode cX3_countedPart 30 = .ok (.invokevirtual 81, 3) := by decide +kernel
theorem dX3_countedPart_33 : decode cX3_countedPart 33 = .ok (.pop, 1) := by decide +kernel
theorem dX3_countedPart_34 : decode cX3_countedPart 34 = .ok (.aload_n 0, 1) := by decide +kernel
theorem dX3_countedPart_35 : decode cX3_countedPart 35 = .ok (.dup, 1) := by decide +kernel
theorem dX3_countedPart_36 : decode cX3_countedPart 36 = .ok (.getfield 25, 3) := by decide +kernel
theorem dX3_countedPart_39 : decode cX3_countedPart 39 = .ok (.iconst 1, 1) := by decide +kernel
theorem dX3_countedPart_40 : decode cX3_countedPart 40 = .ok (.iadd, 1) := by decide +kernel
theorem dX3_countedPart_41 : decode cX3_countedPart 41 = .ok (.putfield 25, 3) := by decide +kernel
theorem dX3_countedPart_44 : decode cX3_countedPart 44 = .ok (.return_, 1) := by decide +kernel
theorem dX3_fail_0 : decode cX3_fail 0 = .ok (.aload_n 0, 1) := by decide +kernel
theorem dX3_fail_1 : decode cX3_fail 1 = .ok (.getfield 32, 3) := by decide +kernel
theorem dX3_fail_4 : decode cX3_fail 4 = .ok (.iconst (-1), 1) := by decide +kernel
theorem dX3_fail_5 : decode cX3_fail 5 = .ok (.if_icmp .ne 18, 3) := by decide +kernel
theorem dX3_fail_8 : decode cX3_fail 8 = .ok (.aload_n 0, 1) := by decide +kernel
theorem dX3_fail_9 : decode cX3_fail 9 = .ok (.aload_n 0, 1) := by decide +kernel
theorem dX3_fail_10 : decode cX3_fail 10 = .ok (.getfield 12, 3) := by decide +kernel
theorem dX3_fail_13 : decode cX3_fail 13 = .ok (.aload_n 0, 1) := by decide +kernel
theorem dX3_fail_14 : decode cX3_fail 14 = .ok (.getfield 25, 3) := by decide +kernel
theorem dX3_fail_17 : decode cX3_fail 17 = .ok (.invokevirtual 114, 3) := by decide +kernel
theorem dX3_fail_20 : decode cX3_fail 20 = .ok (.putfield 32, 3) := by decide +kernel
theorem dX3_fail_23 : decode cX3_fail 23 = .ok (.return_, 1) := by decide +kernel
theorem dX3_take_0 : decode cX3_take 0 = .ok (.aload_n 0, 1) := by decide +kernel
theorem dX3_take_1 : decode cX3_take 1 = .ok (.getfield 32, 3) := by decide +kernel
theorem dX3_take_4 : decode cX3_take 4 = .ok (.iconst (-1), 1) := by decide +kernel
theorem dX3_take_5 : decode cX3_take 5 = .ok (.if_icmp .ne 23, 3) := by decide +kernel
theorem dX3_take_8 : decode cX3_take 8 = .ok (.aload_n 0, 1) := by decide +kernel
theorem dX3_take_9 : decode cX3_take 9 = .ok (.getfield 12, 3) := by decide +kernel
theorem dX3_take_12 : decode cX3_take 12 = .ok (.aload_n 0, 1) := by decide +kernel
theorem dX3_take_13 : decode cX3_take 13 = .ok (.getfield 25, 3) := by decide +kernel
theorem dX3_take_16 : decode cX3_take 16 = .ok (.iload_n 1, 1) := by decide +kernel
theorem dX3_take_17 : decode cX3_take 17 = .ok (.iload_n 2, 1) := by decide +kernel
theorem dX3_take_18 : decode cX3_take 18 = .ok (.invokevirtual 91, 3) := by decide +kernel
theorem dX3_take_21 : decode cX3_take 21 = .ok (.ifCond .eq 7, 3) := by decide +kernel
theorem dX3_take_24 : decode cX3_take 24 = .ok (.iconst 1, 1) := by decide +kernel
theorem dX3_take_25 : decode cX3_take 25 = .ok (.goto 4, 3) := by decide +kernel
theorem dX3_take_28 : decode cX3_take 28 = .ok (.iconst 0, 1) := by decide +kernel
theorem dX3_take_29 : decode cX3_take 29 = .ok (.istore_n 3, 1) := by decide +kernel
theorem dX3_take_30 : decode cX3_take 30 = .ok (.iload_n 3, 1) := by decide +kernel
theorem dX3_take_31 : decode cX3_take 31 = .ok (.ifCond .eq 13, 3) := by decide +kernel
theorem dX3_take_34 : decode cX3_take 34 = .ok (.aload_n 0, 1) := by decide +kernel
theorem dX3_take_35 : decode cX3_take 35 = .ok (.dup, 1) := by decide +kernel
theorem dX3_take_36 : decode cX3_take 36 = .ok (.getfield 25, 3) := by decide +kernel
theorem dX3_take_39 : decode cX3_take 39 = .ok (.iconst 1, 1) := by decide +kernel
theorem dX3_take_40 : decode cX3_take 40 = .ok (.iadd, 1) := by decide +kernel
theorem dX3_take_41 : decode cX3_take 41 = .ok (.putfield 25, 3) := by decide +kernel
theorem dX3_take_44 : decode cX3_take 44 = .ok (.iload_n 3, 1) := by decide +kernel
theorem dX3_take_45 : decode cX3_take 45 = .ok (.ireturn, 1) := by decide +kernel
theorem dX4_init_0 : decode cX4_init 0 = .ok (.aload_n 0, 1) := by decide +kernel
theorem dX4_init_1 : decode cX4_init 1 = .ok (.invokespecial 1, 3) := by decide +kernel
theorem dX4_init_4 : decode cX4_init 4 = .ok (.aload_n 0, 1) := by decide +kernel
theorem dX4_init_5 : decode cX4_init 5 = .ok (.bipush 64, 2) := by decide +kernel
theorem dX4_init_7 : decode cX4_init 7 = .ok (.newarray .long, 2) := by decide +kernel
theorem dX4_init_9 : decode cX4_init 9 = .ok (.putfield 9, 3) := by decide +kernel
theorem dX4_init_12 : decode cX4_init 12 = .ok (.aload_n 0, 1) := by decide +kernel
theorem dX4_init_13 : decode cX4_init 13 = .ok (.iconst 0, 1) := by decide +kernel
theorem dX4_init_14 : decode cX4_init 14 = .ok (.putfield 13, 3) := by decide +kernel
theorem dX4_init_17 : decode cX4_init 17 = .ok (.return_, 1) := by decide +kernel
theorem dX4_become_0 : decode cX4_become 0 = .ok (.aload_n 0, 1) := by decide +kernel
theorem dX4_become_1 : decode cX4_become 1 = .ok (.getfield 9, 3) := by decide +kernel
theorem dX4_become_4 : decode cX4_become 4 = .ok (.lconst 0, 1) := by decide +kernel
theorem dX4_become_5 : decode cX4_become 5 = .ok (.invokestatic 17, 3) := by decide +kernel
theorem dX4_become_8 : decode cX4_become 8 = .ok (.aload_n 0, 1) := by decide +kernel
theorem dX4_become_9 : decode cX4_become 9 = .ok (.getfield 9, 3) := by decide +kernel
theorem dX4_become_12 : decode cX4_become 12 = .ok (.iconst 0, 1) := by decide +kernel
theorem dX4_become_13 : decode cX4_become 13 = .ok (.iload_n 1, 1) := by decide +kernel
theorem dX4_become_14 : decode cX4_become 14 = .ok (.i2l, 1) := by decide +kernel
theorem dX4_become_15 : decode cX4_become 15 = .ok (.lastore, 1) := by decide +kernel
theorem dX4_become_16 : decode cX4_become 16 = .ok (.aload_n 0, 1) := by decide +kernel
theorem dX4_become_17 : decode cX4_become 17 = .ok (.iconst 1, 1) := by decide +kernel
theorem dX4_become_18 : decode cX4_become 18 = .ok (.putfield 13, 3) := by decide +kernel
theorem dX4_become_21 : decode cX4_become 21 = .ok (.return_, 1) := by decide +kernel
theorem dX4_become__0 : decode cX4_become_ 0 = .ok (.aload_n 1, 1) := by decide +kernel
theorem dX4_become__1 : decode cX4_become_ 1 = .ok (.getfield 9, 3) := by decide +kernel
theorem dX4_become__4 : decode cX4_become_ 4 = .ok (.iconst 0, 1) := by decide +kernel
theorem dX4_become__5 : decode cX4_become_ 5 = .ok (.aload_n 0, 1) := by decide +kernel
theorem dX4_become__6 : decode cX4_become_ 6 = .ok (.getfield 9, 3) := by decide +kernel
theorem dX4_become__9 : decode cX4_become_ 9 = .ok (.iconst 0, 1) := by decide +kernel
theorem dX4_become__10 : decode cX4_become_ 10 = .ok (.bipush 64, 2) := by decide +kernel
theorem dX4_become__12 : decode cX4_become_ 12 = .ok (.invokestatic 23, 3) := by decide +kernel
theorem dX4_become__15 : decode cX4_become_ 15 = .ok (.aload_n 0, 1) := by decide +kernel
theorem dX4_become__16 : decode cX4_become_ 16 = .ok (.aload_n 1, 1) := by decide +kernel
theorem dX4_become__17 : decode cX4_become_ 17 = .ok (.getfield 13, 3) := by decide +kernel
theorem dX4_become__20 : decode cX4_become_ 20 = .ok (.putfield 13, 3) := by decide +kernel
theorem dX4_become__23 : decode cX4_become_ 23 = .ok (.return_, 1) := by decide +kernel
theorem dX4_isZero_0 : decode cX4_isZero 0 = .ok (.iconst 0, 1) := by decide +kernel
theorem dX4_isZero_1 : decode cX4_isZero 1 = .ok (.istore_n 1, 1) := by decide +kernel
theorem dX4_isZero_2 : decode cX4_isZero 2 = .ok (.iload_n 1, 1) := by decide +kernel
theorem dX4_isZero_3 : decode cX4_isZero 3 = .ok (.aload_n 0, 1) := by decide +kernel
theorem dX4_isZero_4 : decode cX4_isZero 4 = .ok (.getfield 13, 3) := by decide +kernel
theorem dX4_isZero_7 : decode cX4_isZero 7 = .ok (.if_icmp .ge 28, 3) := by decide +kernel
theorem dX4_isZero_10 : decode cX4_isZero 10 = .ok (.iload_n 1, 1) := by decide +kernel
theorem dX4_isZero_11 : decode cX4_isZero 11 = .ok (.bipush 64, 2) := by decide +kernel
theorem dX4_isZero_13 : decode cX4_isZero 13 = .ok (.if_icmp .ge 22, 3) := by decide +kernel
theorem dX4_isZero_16 : decode cX4_isZero 16 = .ok (.aload_n 0, 1) := by decide +kernel
theorem dX4_isZero_17 : decode cX4_isZero 17 = .ok (.getfield 9, 3) := by decide +kernel
theorem dX4_isZero_20 : decode cX4_isZero 20 = .ok (.iload_n 1, 1) := by decide +kernel
theorem dX4_isZero_21 : decode cX4_isZero 21 = .ok (.laload, 1) := by decide +kernel
theorem dX4_isZero_22 : decode cX4_isZero 22 = .ok (.lconst 0, 1) := by decide +kernel
theorem dX4_isZero_23 : decode cX4_isZero 23 = .ok (.lcmp, 1) := by decide +kernel
theorem dX4_isZero_24 : decode cX4_isZero 24 = .ok (.ifCond .eq 5, 3) := by decide +kernel
theorem dX4_isZero_27 : decode cX4_isZero 27 = .ok (.iconst 0, 1) := by decide +kernel
theorem dX4_isZero_28 : decode cX4_isZero 28 = .ok (.ireturn, 1) := by decide +kernel
theorem dX4_isZero_29 : decode cX4_isZero 29 = .ok (.iinc 1 1, 3) := by decide +kernel
theorem dX4_isZero_32 : decode cX4_isZero 32 = .ok (.goto (-30), 3) := by decide +kernel
theorem dX4_isZero_35 : decode cX4_isZero 35 = .ok (.iconst 1, 1) := by decide +kernel
theorem dX4_isZero_36 : decode cX4_isZero 36 = .ok (.ireturn, 1) := by decide +kernel
theorem dX4_multiply_0 : decode cX4_multiply 0 = .ok (.lconst 0, 1) := by decide +kernel
theorem dX4_multiply_1 : decode cX4_multiply 1 = .ok (.lstore_n 3, 1) := by decide +kernel
theorem dX4_multiply_2 : decode cX4_multiply 2 = .ok (.iconst 0, 1) := by decide +kernel
theorem dX4_multiply_3 : decode cX4_multiply 3 = .ok (.istore 5, 2) := by decide +kernel
theorem dX4_multiply_5 : decode cX4_multiply 5 = .ok (.iload 5, 2) := by decide +kernel
theorem dX4_multiply_7 : decode cX4_multiply 7 = .ok (.bipush 64, 2) := by decide +kernel
theorem dX4_multiply_9 : decode cX4_multiply 9 = .ok (.if_icmp .ge 72, 3) := by decide +kernel
theorem dX4_multiply_12 : decode cX4_multiply 12 = .ok (.iload 5, 2) := by decide +kernel
theorem dX4_multiply_14 : decode cX4_multiply 14 = .ok (.aload_n 0, 1) := by decide +kernel
theorem dX4_multiply_15 : decode cX4_multiply 15 = .ok (.getfield 13, 3) := by decide +kernel
theorem dX4_multiply_18 : decode cX4_multiply 18 = .ok (.if_icmp .lt 9, 3) := by decide +kernel
theorem dX4_multiply_21 : decode cX4_multiply 21 = .ok (.lload_n 3, 1) := by decide +kernel
theorem dX4_multiply_22 : decode cX4_multiply 22 = .ok (.lconst 0, 1) := by decide +kernel
theorem dX4_multiply_23 : decode cX4_multiply 23 = .ok (.lcmp, 1) := by decide +kernel
theorem dX4_multiply_24 : decode cX4_multiply 24 = .ok (.ifCond .le 57, 3) := by decide +kernel
theorem dX4_multiply_27 : decode cX4_multiply 27 = .ok (.aload_n 0, 1) := by decide +kernel
theorem dX4_multiply_28 : decode cX4_multiply 28 = .ok (.getfield 9, 3) := by decide +kernel
theorem dX4_multiply_31 : decode cX4_multiply 31 = .ok (.iload 5, 2) := by decide +kernel
theorem dX4_multiply_33 : decode cX4_multiply 33 = .ok (.laload, 1) := by decide +kernel
theorem dX4_multiply_34 : decode cX4_multiply 34 = .ok (.lload_n 1, 1) := by decide +kernel
theorem dX4_multiply_35 : decode cX4_multiply 35 = .ok (.lmul, 1) := by decide +kernel
theorem dX4_multiply_36 : decode cX4_multiply 36 = .ok (.lload_n 3, 1) := by decide +kernel
theorem dX4_multiply_37 : decode cX4_multiply 37 = .ok (.ladd, 1) := by decide +kernel
theorem dX4_multiply_38 : decode cX4_multiply 38 = .ok (.lstore 6, 2) := by decide +kernel
theorem dX4_multiply_40 : decode cX4_multiply 40 = .ok (.aload_n 0, 1) := by decide +kernel
theorem dX4_multiply_41 : decode cX4_multiply 41 = .ok (.getfield 9, 3) := by decide +kernel
theorem dX4_multiply_44 : decode cX4_multiply 44 = .ok (.iload 5, 2) := by decide +kernel
theorem dX4_multiply_46 : decode cX4_multiply 46 = .ok (.lload 6, 2) := by decide +kernel
theorem dX4_multiply_48 : decode cX4_multiply 48 = .ok (.ldc2_w 29, 3) := by decide +kernel
theorem dX4_multiply_51 : decode cX4_multiply 51 = .ok (.lrem, 1) := by decide +kernel
theorem dX4_multiply_52 : decode cX4_multiply 52 = .ok (.lastore, 1) := by decide +kernel
theorem dX4_multiply_53 : decode cX4_multiply 53 = .ok (.lload 6, 2) := by decide +kernel
theorem dX4_multiply_55 : decode cX4_multiply 55 = .ok (.ldc2_w 29, 3) := by decide +kernel
theorem dX4_multiply_58 : decode cX4_multiply 58 = .ok (.ldiv, 1) := by decide +kernel
theorem dX4_multiply_59 : decode cX4_multiply 59 = .ok (.lstore_n 3, 1) := by decide +kernel
theorem dX4_multiply_60 : decode cX4_multiply 60 = .ok (.aload_n 0, 1) := by decide +kernel
theorem dX4_multiply_61 : decode cX4_multiply 61 = .ok (.aload_n 0, 1) := by decide +kernel
theorem dX4_multiply_62 : decode cX4_multiply 62 = .ok (.getfield 13, 3) := by decide +kernel
theorem dX4_multiply_65 : decode cX4_multiply 65 = .ok (.iload 5, 2) := by decide +kernel
theorem dX4_multiply_67 : decode cX4_multiply 67 = .ok (.iconst 1, 1) := by decide +kernel
theorem dX4_multiply_68 : decode cX4_multiply 68 = .ok (.iadd, 1) := by decide +kernel
theorem dX4_multiply_69 : decode cX4_multiply 69 = .ok (.invokestatic 31, 3) := by decide +kernel
theorem dX4_multiply_72 : decode cX4_multiply 72 = .ok (.putfield 13, 3) := by decide +kernel
theorem dX4_multiply_75 : decode cX4_multiply 75 = .ok (.iinc 5 1, 3) := by decide +kernel
theorem dX4_multiply_78 : decode cX4_multiply 78 = .ok (.goto (-73), 3) := by decide +kernel
theorem dX4_multiply_81 : decode cX4_multiply 81 = .ok (.return_, 1) := by decide +kernel
theorem dX4_multiplyOften_0 : decode cX4_multiplyOften 0 = .ok (.iload_n 1, 1) := by decide +kernel
theorem dX4_multiplyOften_1 : decode cX4_multiplyOften 1 = .ok (.i2l, 1) := by decide +kernel
theorem dX4_multiplyOften_2 : decode cX4_multiplyOften 2 = .ok (.iload_n 1, 1) := by decide +kernel
theorem dX4_multiplyOften_3 : decode cX4_multiplyOften 3 = .ok (.i2l, 1) := by decide +kernel
theorem dX4_multiplyOften_4 : decode cX4_multiplyOften 4 = .ok (.lmul, 1) := by decide +kernel
theorem dX4_multiplyOften_5 : decode cX4_multiplyOften 5 = .ok (.iload_n 1, 1) := by decide +kernel
theorem dX4_multiplyOften_6 : decode cX4_multiplyOften 6 = .ok (.i2l, 1) := by decide +kernel
theorem dX4_multiplyOften_7 : decode cX4_multiplyOften 7 = .ok (.lmul, 1) := by decide +kernel
theorem dX4_multiplyOften_8 : decode cX4_multiplyOften 8 = .ok (.iload_n 1, 1) := by decide +kernel
theorem dX4_multiplyOften_9 : decode cX4_multiplyOften 9 = .ok (.i2l, 1) := by decide +kernel
theorem dX4_multiplyOften_10 : decode cX4_multiplyOften 10 = .ok (.lmul, 1) := by decide +kernel
theorem dX4_multiplyOften_11 : decode cX4_multiplyOften 11 = .ok (.lstore_n 3, 1) := by decide +kernel
theorem dX4_multiplyOften_12 : decode cX4_multiplyOften 12 = .ok (.iload_n 2, 1) := by decide +kernel
theorem dX4_multiplyOften_13 : decode cX4_multiplyOften 13 = .ok (.istore 5, 2) := by decide +kernel
theorem dX4_multiplyOften_15 : decode cX4_multiplyOften 15 = .ok (.iload 5, 2) := by decide +kernel
theorem dX4_multiplyOften_17 : decode cX4_multiplyOften 17 = .ok (.ifCond .le 59, 3) := by decide +kernel
theorem dX4_multiplyOften_20 : decode cX4_multiplyOften 20 = .ok (.iload 5, 2) := by decide +kernel
theorem dX4_multiplyOften_22 : decode cX4_multiplyOften 22 = .ok (.iconst 4, 1) := by decide +kernel
theorem dX4_multiplyOften_23 : decode cX4_multiplyOften 23 = .ok (.if_icmp .lt 11, 3) := by decide +kernel
theorem dX4_multiplyOften_26 : decode cX4_multiplyOften 26 = .ok (.aload_n 0, 1) := by decide +kernel
theorem dX4_multiplyOften_27 : decode cX4_multiplyOften 27 = .ok (.lload_n 3, 1) := by decide +kernel
theorem dX4_multiplyOften_28 : decode cX4_multiplyOften 28 = .ok (.invokevirtual 37, 3) := by decide +kernel
theorem dX4_multiplyOften_31 : decode cX4_multiplyOften 31 = .ok (.goto 39, 3) := by decide +kernel
theorem dX4_multiplyOften_34 : decode cX4_multiplyOften 34 = .ok (.aload_n 0, 1) := by decide +kernel
theorem dX4_multiplyOften_35 : decode cX4_multiplyOften 35 = .ok (.iload 5, 2) := by decide +kernel
theorem dX4_multiplyOften_37 : decode cX4_multiplyOften 37 = .ok (.iconst 3, 1) := by decide +kernel
theorem dX4_multiplyOften_38 : decode cX4_multiplyOften 38 = .ok (.if_icmp .ne 14, 3) := by decide +kernel
theorem dX4_multiplyOften_41 : decode cX4_multiplyOften 41 = .ok (.iload_n 1, 1) := by decide +kernel
theorem dX4_multiplyOften_42 : decode cX4_multiplyOften 42 = .ok (.i2l, 1) := by decide +kernel
theorem dX4_multiplyOften_43 : decode cX4_multiplyOften 43 = .ok (.iload_n 1, 1) := by decide +kernel
theorem dX4_multiplyOften_44 : decode cX4_multiplyOften 44 = .ok (.i2l, 1) := by decide +kernel
theorem dX4_multiplyOften_45 : decode cX4_multiplyOften 45 = .ok (.lmul, 1) := by decide +kernel
theorem dX4_multiplyOften_46 : decode cX4_multiplyOften 46 = .ok (.iload_n 1, 1) := by decide +kernel
theorem dX4_multiplyOften_47 : decode cX4_multiplyOften 47 = .ok (.i2l, 1) := by decide +kernel
theorem dX4_multiplyOften_48 : decode cX4_multiplyOften 48 = .ok (.lmul, 1) := by decide +kernel
theorem dX4_multiplyOften_49 : decode cX4_multiplyOften 49 = .ok (.goto 18, 3) := by decide +kernel
theorem dX4_multiplyOften_52 : decode cX4_multiplyOften 52 = .ok (.iload 5, 2) := by decide +kernel
theorem dX4_multiplyOften_54 : decode cX4_multiplyOften 54 = .ok (.iconst 2, 1) := by decide +kernel
theorem dX4_multiplyOften_55 : decode cX4_multiplyOften 55 = .ok (.if_icmp .ne 10, 3) := by decide +kernel
theorem dX4_multiplyOften_58 : decode cX4_multiplyOften 58 = .ok (.iload_n 1, 1) := by decide +kernel
theorem dX4_multiplyOften_59 : decode cX4_multiplyOften 59 = .ok (.iload_n 1, 1) := by decide +kernel
theorem dX4_multiplyOften_60 : decode cX4_multiplyOften 60 = .ok (.imul, 1) := by decide +kernel
theorem dX4_multiplyOften_61 : decode cX4_multiplyOften 61 = .ok (.i2l, 1) := by decide +kernel
theorem dX4_multiplyOften_62 : decode cX4_multiplyOften 62 = .ok (.goto 5, 3) := by decide +kernel
theorem dX4_multiplyOften_65 : decode cX4_multiplyOften 65 = .ok (.iload_n 1, 1) := by decide +kernel
theorem dX4_multiplyOften_66 : decode cX4_multiplyOften 66 = .ok (.i2l, 1) := by decide +kernel
theorem dX4_multiplyOften_67 : decode cX4_multiplyOften 67 = .ok (.invokevirtual 37, 3) := by decide +kernel
theorem dX4_multiplyOften_70 : decode cX4_multiplyOften 70 = .ok (.iinc 5 (-4), 3) := by decide +kernel
theorem dX4_multiplyOften_73 : decode cX4_multiplyOften 73 = .ok (.goto (-58), 3) := by decide +kernel
theorem dX4_multiplyOften_76 : decode cX4_multiplyOften 76 = .ok (.return_, 1) := by decide +kernel
theorem dX4_increaseBy_0 : decode cX4_increaseBy 0 = .ok (.lconst 0, 1) := by decide +kernel
theorem dX4_increaseBy_1 : decode cX4_increaseBy 1 = .ok (.lstore_n 2, 1) := by decide +kernel
theorem dX4_increaseBy_2 : decode cX4_increaseBy 2 = .ok (.aload_n 0, 1) := by decide +kernel
theorem dX4_increaseBy_3 : decode cX4_increaseBy 3 = .ok (.aload_n 0, 1) := by decide +kernel
theorem dX4_increaseBy_4 : decode cX4_increaseBy 4 = .ok (.getfield 13, 3) := by decide +kernel
theorem dX4_increaseBy_7 : decode cX4_increaseBy 7 = .ok (.aload_n 1, 1) := by decide +kernel
theorem dX4_increaseBy_8 : decode cX4_increaseBy 8 = .ok (.getfield 13, 3) := by decide +kernel
theorem dX4_increaseBy_11 : decode cX4_increaseBy 11 = .ok (.invokestatic 31, 3) := by decide +kernel
theorem dX4_increaseBy_14 : decode cX4_increaseBy 14 = .ok (.putfield 13, 3) := by decide +kernel
theorem dX4_increaseBy_17 : decode cX4_increaseBy 17 = .ok (.iconst 0, 1) := by decide +kernel
theorem dX4_increaseBy_18 : decode cX4_increaseBy 18 = .ok (.istore 4, 2) := by decide +kernel
theorem dX4_increaseBy_20 : decode cX4_increaseBy 20 = .ok (.iload 4, 2) := by decide +kernel
theorem dX4_increaseBy_22 : decode cX4_increaseBy 22 = .ok (.bipush 64, 2) := by decide +kernel
theorem dX4_increaseBy_24 : decode cX4_increaseBy 24 = .ok (.if_icmp .ge 78, 3) := by decide +kernel
theorem dX4_increaseBy_27 : decode cX4_increaseBy 27 = .ok (.iload 4, 2) := by decide +kernel
theorem dX4_increaseBy_29 : decode cX4_increaseBy 29 = .ok (.aload_n 0, 1) := by decide +kernel
theorem dX4_increaseBy_30 : decode cX4_increaseBy 30 = .ok (.getfield 13, 3) := by decide +kernel
theorem dX4_increaseBy_33 : decode cX4_increaseBy 33 = .ok (.if_icmp .lt 9, 3) := by decide +kernel
theorem dX4_increaseBy_36 : decode cX4_increaseBy 36 = .ok (.lload_n 2, 1) := by decide +kernel
theorem dX4_increaseBy_37 : decode cX4_increaseBy 37 = .ok (.lconst 0, 1) := by decide +kernel
theorem dX4_increaseBy_38 : decode cX4_increaseBy 38 = .ok (.lcmp, 1) := by decide +kernel
theorem dX4_increaseBy_39 : decode cX4_increaseBy 39 = .ok (.ifCond .le 63, 3) := by decide +kernel
theorem dX4_increaseBy_42 : decode cX4_increaseBy 42 = .ok (.aload_n 0, 1) := by decide +kernel
theorem dX4_increaseBy_43 : decode cX4_increaseBy 43 = .ok (.getfield 9, 3) := by decide +kernel
theorem dX4_increaseBy_46 : decode cX4_increaseBy 46 = .ok (.iload 4, 2) := by decide +kernel
theorem dX4_increaseBy_48 : decode cX4_increaseBy 48 = .ok (.laload, 1) := by decide +kernel
theorem dX4_increaseBy_49 : decode cX4_increaseBy 49 = .ok (.aload_n 1, 1) := by decide +kernel
theorem dX4_increaseBy_50 : decode cX4_increaseBy 50 = .ok (.getfield 9, 3) := by decide +kernel
theorem dX4_increaseBy_53 : decode cX4_increaseBy 53 = .ok (.iload 4, 2) := by decide +kernel
theorem dX4_increaseBy_55 : decode cX4_increaseBy 55 = .ok (.laload, 1) := by decide +kernel
theorem dX4_increaseBy_56 : decode cX4_increaseBy 56 = .ok (.ladd, 1) := by decide +kernel
theorem dX4_increaseBy_57 : decode cX4_increaseBy 57 = .ok (.lload_n 2, 1) := by decide +kernel
theorem dX4_increaseBy_58 : decode cX4_increaseBy 58 = .ok (.ladd, 1) := by decide +kernel
theorem dX4_increaseBy_59 : decode cX4_increaseBy 59 = .ok (.lstore 5, 2) := by decide +kernel
theorem dX4_increaseBy_61 : decode cX4_increaseBy 61 = .ok (.aload_n 0, 1) := by decide +kernel
theorem dX4_increaseBy_62 : decode cX4_increaseBy 62 = .ok (.getfield 9, 3) := by decide +kernel
theorem dX4_increaseBy_65 : decode cX4_increaseBy 65 = .ok (.iload 4, 2) := by decide +kernel
theorem dX4_increaseBy_67 : decode cX4_increaseBy 67 = .ok (.lload 5, 2) := by decide +kernel
theorem dX4_increaseBy_69 : decode cX4_increaseBy 69 = .ok (.ldc2_w 29, 3) := by decide +kernel
theorem dX4_increaseBy_72 : decode cX4_increaseBy 72 = .ok (.lrem, 1) := by decide +kernel
theorem dX4_increaseBy_73 : decode cX4_increaseBy 73 = .ok (.lastore, 1) := by decide +kernel
theorem dX4_increaseBy_74 : decode cX4_increaseBy 74 = .ok (.lload 5, 2) := by decide +kernel
theorem dX4_increaseBy_76 : decode cX4_increaseBy 76 = .ok (.ldc2_w 29, 3) := by decide +kernel
theorem dX4_increaseBy_79 : decode cX4_increaseBy 79 = .ok (.ldiv, 1) := by decide +kernel
theorem dX4_increaseBy_80 : decode cX4_increaseBy 80 = .ok (.lstore_n 2, 1) := by decide +kernel
theorem dX4_increaseBy_81 : decode cX4_increaseBy 81 = .ok (.aload_n 0, 1) := by decide +kernel
theorem dX4_increaseBy_82 : decode cX4_increaseBy 82 = .ok (.aload_n 0, 1) := by decide +kernel
theorem dX4_increaseBy_83 : decode cX4_increaseBy 83 = .ok (.getfield 13, 3) := by decide +kernel
theorem dX4_increaseBy_86 : decode cX4_increaseBy 86 = .ok (.iload 4, 2) := by decide +kernel
theorem dX4_increaseBy_88 : decode cX4_increaseBy 88 = .ok (.iconst 1, 1) := by decide +kernel
theorem dX4_increaseBy_89 : decode cX4_increaseBy 89 = .ok (.iadd, 1) := by decide +kernel
theorem dX4_increaseBy_90 : decode cX4_increaseBy 90 = .ok (.invokestatic 31, 3) := by decide +kernel
theorem dX4_increaseBy_93 : decode cX4_increaseBy 93 = .ok (.putfield 13, 3) := by decide +kernel
theorem dX4_increaseBy_96 : decode cX4_increaseBy 96 = .ok (.iinc 4 1, 3) := by decide +kernel
theorem dX4_increaseBy_99 : decode cX4_increaseBy 99 = .ok (.goto (-79), 3) := by decide +kernel
theorem dX4_increaseBy_102 : decode cX4_increaseBy 102 = .ok (.return_, 1) := by decide +kernel
theorem dX4_decreaseBy_0 : decode cX4_decreaseBy 0 = .ok (.lconst 0, 1) := by decide +kernel
theorem dX4_decreaseBy_1 : decode cX4_decreaseBy 1 = .ok (.lstore_n 2, 1) := by decide +kernel
theorem dX4_decreaseBy_2 : decode cX4_decreaseBy 2 = .ok (.iconst 0, 1) := by decide +kernel
theorem dX4_decreaseBy_3 : decode cX4_decreaseBy 3 = .ok (.istore 4, 2) := by decide +kernel
theorem dX4_decreaseBy_5 : decode cX4_decreaseBy 5 = .ok (.iload 4, 2) := by decide +kernel
theorem dX4_decreaseBy_7 : decode cX4_decreaseBy 7 = .ok (.bipush 64, 2) := by decide +kernel
theorem dX4_decreaseBy_9 : decode cX4_decreaseBy 9 = .ok (.if_icmp .ge 65, 3) := by decide +kernel
theorem dX4_decreaseBy_12 : decode cX4_decreaseBy 12 = .ok (.iload 4, 2) := by decide +kernel
theorem dX4_decreaseBy_14 : decode cX4_decreaseBy 14 = .ok (.aload_n 0, 1) := by decide +kernel
theorem dX4_decreaseBy_15 : decode cX4_decreaseBy 15 = .ok (.getfield 13, 3) := by decide +kernel
theorem dX4_decreaseBy_18 : decode cX4_decreaseBy 18 = .ok (.if_icmp .ge 56, 3) := by decide +kernel
theorem dX4_decreaseBy_21 : decode cX4_decreaseBy 21 = .ok (.aload_n 0, 1) := by decide +kernel
theorem dX4_decreaseBy_22 : decode cX4_decreaseBy 22 = .ok (.getfield 9, 3) := by decide +kernel
theorem dX4_decreaseBy_25 : decode cX4_decreaseBy 25 = .ok (.iload 4, 2) := by decide +kernel
theorem dX4_decreaseBy_27 : decode cX4_decreaseBy 27 = .ok (.laload, 1) := by decide +kernel
theorem dX4_decreaseBy_28 : decode cX4_decreaseBy 28 = .ok (.aload_n 1, 1) := by decide +kernel
theorem dX4_decreaseBy_29 : decode cX4_decreaseBy 29 = .ok (.getfield 9, 3) := by decide +kernel
theorem dX4_decreaseBy_32 : decode cX4_decreaseBy 32 = .ok (.iload 4, 2) := by decide +kernel
theorem dX4_decreaseBy_34 : decode cX4_decreaseBy 34 = .ok (.laload, 1) := by decide +kernel
theorem dX4_decreaseBy_35 : decode cX4_decreaseBy 35 = .ok (.lsub, 1) := by decide +kernel
theorem dX4_decreaseBy_36 : decode cX4_decreaseBy 36 = .ok (.lload_n 2, 1) := by decide +kernel
theorem dX4_decreaseBy_37 : decode cX4_decreaseBy 37 = .ok (.lsub, 1) := by decide +kernel
theorem dX4_decreaseBy_38 : decode cX4_decreaseBy 38 = .ok (.lstore 5, 2) := by decide +kernel
theorem dX4_decreaseBy_40 : decode cX4_decreaseBy 40 = .ok (.lload 5, 2) := by decide +kernel
theorem dX4_decreaseBy_42 : decode cX4_decreaseBy 42 = .ok (.lconst 0, 1) := by decide +kernel
theorem dX4_decreaseBy_43 : decode cX4_decreaseBy 43 = .ok (.lcmp, 1) := by decide +kernel
theorem dX4_decreaseBy_44 : decode cX4_decreaseBy 44 = .ok (.ifCond .ge 7, 3) := by decide +kernel
theorem dX4_decreaseBy_47 : decode cX4_decreaseBy 47 = .ok (.lconst 1, 1) := by decide +kernel
theorem dX4_decreaseBy_48 : decode cX4_decreaseBy 48 = .ok (.goto 4, 3) := by decide +kernel
theorem dX4_decreaseBy_51 : decode cX4_decreaseBy 51 = .ok (.lconst 0, 1) := by decide +kernel
theorem dX4_decreaseBy_52 : decode cX4_decreaseBy 52 = .ok (.lstore_n 2, 1) := by decide +kernel
theorem dX4_decreaseBy_53 : decode cX4_decreaseBy 53 = .ok (.aload_n 0, 1) := by decide +kernel
theorem dX4_decreaseBy_54 : decode cX4_decreaseBy 54 = .ok (.getfield 9, 3) := by decide +kernel
theorem dX4_decreaseBy_57 : decode cX4_decreaseBy 57 = .ok (.iload 4, 2) := by decide +kernel
theorem dX4_decreaseBy_59 : decode cX4_decreaseBy 59 = .ok (.lload 5, 2) := by decide +kernel
theorem dX4_decreaseBy_61 : decode cX4_decreaseBy 61 = .ok (.lload_n 2, 1) := by decide +kernel
theorem dX4_decreaseBy_62 : decode cX4_decreaseBy 62 = .ok (.ldc2_w 29, 3) := by decide +kernel
theorem dX4_decreaseBy_65 : decode cX4_decreaseBy 65 = .ok (.lmul, 1) := by decide +kernel
theorem dX4_decreaseBy_66 : decode cX4_decreaseBy 66 = .ok (.ladd, 1) := by decide +kernel
theorem dX4_decreaseBy_67 : decode cX4_decreaseBy 67 = .ok (.lastore, 1) := by decide +kernel
theorem dX4_decreaseBy_68 : decode cX4_decreaseBy 68 = .ok (.iinc 4 1, 3) := by decide +kernel
theorem dX4_decreaseBy_71 : decode cX4_decreaseBy 71 = .ok (.goto (-66), 3) := by decide +kernel
theorem dX4_decreaseBy_74 : decode cX4_decreaseBy 74 = .ok (.return_, 1) := by decide +kernel
theorem dX4_isAbove_0 : decode cX4_isAbove 0 = .ok (.aload_n 0, 1) := by decide +kernel
theorem dX4_isAbove_1 : decode cX4_isAbove 1 = .ok (.getfield 13, 3) := by decide +kernel
theorem dX4_isAbove_4 : decode cX4_isAbove 4 = .ok (.aload_n 1, 1) := by decide +kernel
theorem dX4_isAbove_5 : decode cX4_isAbove 5 = .ok (.getfield 13, 3) := by decide +kernel
theorem dX4_isAbove_8 : decode cX4_isAbove 8 = .ok (.invokestatic 31, 3) := by decide +kernel
theorem dX4_isAbove_11 : decode cX4_isAbove 11 = .ok (.bipush 64, 2) := by decide +kernel
theorem dX4_isAbove_13 : decode cX4_isAbove 13 = .ok (.invokestatic 41, 3) := by decide +kernel
theorem dX4_isAbove_16 : decode cX4_isAbove 16 = .ok (.iconst 1, 1) := by decide +kernel
theorem dX4_isAbove_17 : decode cX4_isAbove 17 = .ok (.isub, 1) := by decide +kernel
theorem dX4_isAbove_18 : decode cX4_isAbove 18 = .ok (.istore_n 2, 1) := by decide +kernel
theorem dX4_isAbove_19 : decode cX4_isAbove 19 = .ok (.iload_n 2, 1) := by decide +kernel
theorem dX4_isAbove_20 : decode cX4_isAbove 20 = .ok (.ifCond .lt 47, 3) := by decide +kernel
theorem dX4_isAbove_23 : decode cX4_isAbove 23 = .ok (.aload_n 0, 1) := by decide +kernel
theorem dX4_isAbove_24 : decode cX4_isAbove 24 = .ok (.getfield 9, 3) := by decide +kernel
theorem dX4_isAbove_27 : decode cX4_isAbove 27 = .ok (.iload_n 2, 1) := by decide +kernel
theorem dX4_isAbove_28 : decode cX4_isAbove 28 = .ok (.laload, 1) := by decide +kernel
theorem dX4_isAbove_29 : decode cX4_isAbove 29 = .ok (.aload_n 1, 1) := by decide +kernel
theorem dX4_isAbove_30 : decode cX4_isAbove 30 = .ok (.getfield 9, 3) := by decide +kernel
theorem dX4_isAbove_33 : decode cX4_isAbove 33 = .ok (.iload_n 2, 1) := by decide +kernel
theorem dX4_isAbove_34 : decode cX4_isAbove 34 = .ok (.laload, 1) := by decide +kernel
theorem dX4_isAbove_35 : decode cX4_isAbove 35 = .ok (.lcmp, 1) := by decide +kernel
theorem dX4_isAbove_36 : decode cX4_isAbove 36 = .ok (.ifCond .eq 25, 3) := by decide +kernel
theorem dX4_isAbove_39 : decode cX4_isAbove 39 = .ok (.aload_n 0, 1) := by decide +kernel
theorem dX4_isAbove_40 : decode cX4_isAbove 40 = .ok (.getfield 9, 3) := by decide +kernel
theorem dX4_isAbove_43 : decode cX4_isAbove 43 = .ok (.iload_n 2, 1) := by decide +kernel
theorem dX4_isAbove_44 : decode cX4_isAbove 44 = .ok (.laload, 1) := by decide +kernel
theorem dX4_isAbove_45 : decode cX4_isAbove 45 = .ok (.aload_n 1, 1) := by decide +kernel
theorem dX4_isAbove_46 : decode cX4_isAbove 46 = .ok (.getfield 9, 3) := by decide +kernel
theorem dX4_isAbove_49 : decode cX4_isAbove 49 = .ok (.iload_n 2, 1) := by decide +kernel
theorem dX4_isAbove_50 : decode cX4_isAbove 50 = .ok (.laload, 1) := by decide +kernel
theorem dX4_isAbove_51 : decode cX4_isAbove 51 = .ok (.lcmp, 1) := by decide +kernel
theorem dX4_isAbove_52 : decode cX4_isAbove 52 = .ok (.ifCond .le 7, 3) := by decide +kernel
theorem dX4_isAbove_55 : decode cX4_isAbove 55 = .ok (.iconst 1, 1) := by decide +kernel
theorem dX4_isAbove_56 : decode cX4_isAbove 56 = .ok (.goto 4, 3) := by decide +kernel
theorem dX4_isAbove_59 : decode cX4_isAbove 59 = .ok (.iconst 0, 1) := by decide +kernel
theorem dX4_isAbove_60 : decode cX4_isAbove 60 = .ok (.ireturn, 1) := by decide +kernel
theorem dX4_isAbove_61 : decode cX4_isAbove 61 = .ok (.iinc 2 (-1), 3) := by decide +kernel
theorem dX4_isAbove_64 : decode cX4_isAbove 64 = .ok (.goto (-45), 3) := by decide +kernel
theorem dX4_isAbove_67 : decode cX4_isAbove 67 = .ok (.iconst 0, 1) := by decide +kernel
theorem dX4_isAbove_68 : decode cX4_isAbove 68 = .ok (.ireturn, 1) := by decide +kernel
theorem dX5_init_0 : decode cX5_init 0 = .ok (.aload_n 0, 1) := by decide +kernel
theorem dX5_init_1 : decode cX5_init 1 = .ok (.invokespecial 3, 3) := by decide +kernel
theorem dX5_init_4 : decode cX5_init 4 = .ok (.aload_n 0, 1) := by decide +kernel
theorem dX5_init_5 : decode cX5_init 5 = .ok (.sipush 1024, 3) := by decide +kernel
theorem dX5_init_8 : decode cX5_init 8 = .ok (.newarray .int, 2) := by decide +kernel
theorem dX5_init_10 : decode cX5_init 10 = .ok (.putfield 11, 3) := by decide +kernel
theorem dX5_init_13 : decode cX5_init 13 = .ok (.aload_n 0, 1) := by decide +kernel
theorem dX5_init_14 : decode cX5_init 14 = .ok (.sipush 1024, 3) := by decide +kernel
theorem dX5_init_17 : decode cX5_init 17 = .ok (.newarray .int, 2) := by decide +kernel
theorem dX5_init_19 : decode cX5_init 19 = .ok (.putfield 15, 3) := by decide +kernel
theorem dX5_init_22 : decode cX5_init 22 = .ok (.aload_n 0, 1) := by decide +kernel
theorem dX5_init_23 : decode cX5_init 23 = .ok (.sipush 1024, 3) := by decide +kernel
theorem dX5_init_26 : decode cX5_init 26 = .ok (.newarray .int, 2) := by decide +kernel
theorem dX5_init_28 : decode cX5_init 28 = .ok (.putfield 18, 3) := by decide +kernel
theorem dX5_init_31 : decode cX5_init 31 = .ok (.return_, 1) := by decide +kernel
theorem dX5_saysOf_0 : decode cX5_saysOf 0 = .ok (.iconst 0, 1) := by decide +kernel
theorem dX5_saysOf_1 : decode cX5_saysOf 1 = .ok (.istore 4, 2) := by decide +kernel
theorem dX5_saysOf_3 : decode cX5_saysOf 3 = .ok (.iconst 0, 1) := by decide +kernel
theorem dX5_saysOf_4 : decode cX5_saysOf 4 = .ok (.istore 5, 2) := by decide +kernel
theorem dX5_saysOf_6 : decode cX5_saysOf 6 = .ok (.iload 5, 2) := by decide +kernel
theorem dX5_saysOf_8 : decode cX5_saysOf 8 = .ok (.aload_n 1, 1) := by decide +kernel
theorem dX5_saysOf_9 : decode cX5_saysOf 9 = .ok (.getfield 21, 3) := by decide +kernel
theorem dX5_saysOf_12 : decode cX5_saysOf 12 = .ok (.invokevirtual 27, 3) := by decide +kernel
theorem dX5_saysOf_15 : decode cX5_saysOf 15 = .ok (.if_icmp .ge 30, 3) := by decide +kernel
theorem dX5_saysOf_18 : decode cX5_saysOf 18 = .ok (.iload 4, 2) := by decide +kernel
theorem dX5_saysOf_20 : decode cX5_saysOf 20 = .ok (.aload_n 2, 1) := by decide +kernel
theorem dX5_saysOf_21 : decode cX5_saysOf 21 = .ok (.iload 5, 2) := by decide +kernel
theorem dX5_saysOf_23 : decode cX5_saysOf 23 = .ok (.invokevirtual 33, 3) := by decide +kernel
theorem dX5_saysOf_26 : decode cX5_saysOf 26 = .ok (.aload_n 1, 1) := by decide +kernel
theorem dX5_saysOf_27 : decode cX5_saysOf 27 = .ok (.iload_n 3, 1) := by decide +kernel
theorem dX5_saysOf_28 : decode cX5_saysOf 28 = .ok (.iload 5, 2) := by decide +kernel
theorem dX5_saysOf_30 : decode cX5_saysOf 30 = .ok (.invokestatic 39, 3) := by decide +kernel
theorem dX5_saysOf_33 : decode cX5_saysOf 33 = .ok (.invokestatic 43, 3) := by decide +kernel
theorem dX5_saysOf_36 : decode cX5_saysOf 36 = .ok (.iadd, 1) := by decide +kernel
theorem dX5_saysOf_37 : decode cX5_saysOf 37 = .ok (.istore 4, 2) := by decide +kernel
theorem dX5_saysOf_39 : decode cX5_saysOf 39 = .ok (.iinc 5 1, 3) := by decide +kernel
theorem dX5_saysOf_42 : decode cX5_saysOf 42 = .ok (.goto (-36), 3) := by decide +kernel
theorem dX5_saysOf_45 : decode cX5_saysOf 45 = .ok (.iload 4, 2) := by decide +kernel
theorem dX5_saysOf_47 : decode cX5_saysOf 47 = .ok (.ireturn, 1) := by decide +kernel
theorem dX5_silentBy_0 : decode cX5_silentBy 0 = .ok (.ldc 47, 2) := by decide +kernel
theorem dX5_silentBy_2 : decode cX5_silentBy 2 = .ok (.istore_n 3, 1) := by decide +kernel
theorem dX5_silentBy_3 : decode cX5_silentBy 3 = .ok (.iconst 0, 1) := by decide +kernel
theorem dX5_silentBy_4 : decode cX5_silentBy 4 = .ok (.istore 4, 2) := by decide +kernel
theorem dX5_silentBy_6 : decode cX5_silentBy 6 = .ok (.iload 4, 2) := by decide +kernel
theorem dX5_silentBy_8 : decode cX5_silentBy 8 = .ok (.aload_n 0, 1) := by decide +kernel
theorem dX5_silentBy_9 : decode cX5_silentBy 9 = .ok (.getfield 48, 3) := by decide +kernel
theorem dX5_silentBy_12 : decode cX5_silentBy 12 = .ok (.invokevirtual 27, 3) := by decide +kernel
theorem dX5_silentBy_15 : decode cX5_silentBy 15 = .ok (.if_icmp .ge 73, 3) := by decide +kernel
theorem dX5_silentBy_18 : decode cX5_silentBy 18 = .ok (.iload_n 1, 1) := by decide +kernel
theorem dX5_silentBy_19 : decode cX5_silentBy 19 = .ok (.iload 4, 2) := by decide +kernel
theorem dX5_silentBy_21 : decode cX5_silentBy 21 = .ok (.ishr, 1) := by decide +kernel
theorem dX5_silentBy_22 : decode cX5_silentBy 22 = .ok (.iconst 1, 1) := by decide +kernel
theorem dX5_silentBy_23 : decode cX5_silentBy 23 = .ok (.iand, 1) := by decide +kernel
theorem dX5_silentBy_24 : decode cX5_silentBy 24 = .ok (.iconst 1, 1) := by decide +kernel
theorem dX5_silentBy_25 : decode cX5_silentBy 25 = .ok (.if_icmp .ne 57, 3) := by decide +kernel
theorem dX5_silentBy_28 : decode cX5_silentBy 28 = .ok (.aload_n 0, 1) := by decide +kernel
theorem dX5_silentBy_29 : decode cX5_silentBy 29 = .ok (.iload_n 2, 1) := by decide +kernel
theorem dX5_silentBy_30 : decode cX5_silentBy 30 = .ok (.aload_n 0, 1) := by decide +kernel
theorem dX5_silentBy_31 : decode cX5_silentBy 31 = .ok (.getfield 48, 3) := by decide +kernel
theorem dX5_silentBy_34 : decode cX5_silentBy 34 = .ok (.iload 4, 2) := by decide +kernel
theorem dX5_silentBy_36 : decode cX5_silentBy 36 = .ok (.iconst 1, 1) := by decide +kernel
theorem dX5_silentBy_37 : decode cX5_silentBy 37 = .ok (.invokevirtual 51, 3) := by decide +kernel
theorem dX5_silentBy_40 : decode cX5_silentBy 40 = .ok (.invokevirtual 54, 3) := by decide +kernel
theorem dX5_silentBy_43 : decode cX5_silentBy 43 = .ok (.istore 5, 2) := by decide +kernel
theorem dX5_silentBy_45 : decode cX5_silentBy 45 = .ok (.bipush 100, 2) := by decide +kernel
theorem dX5_silentBy_47 : decode cX5_silentBy 47 = .ok (.aload_n 0, 1) := by decide +kernel
theorem dX5_silentBy_48 : decode cX5_silentBy 48 = .ok (.getfield 48, 3) := by decide +kernel
theorem dX5_silentBy_51 : decode cX5_silentBy 51 = .ok (.iload 4, 2) := by decide +kernel
theorem dX5_silentBy_53 : decode cX5_silentBy 53 = .ok (.iconst 0, 1) := by decide +kernel
theorem dX5_silentBy_54 : decode cX5_silentBy 54 = .ok (.invokevirtual 51, 3) := by decide +kernel
theorem dX5_silentBy_57 : decode cX5_silentBy 57 = .ok (.isub, 1) := by decide +kernel
theorem dX5_silentBy_58 : decode cX5_silentBy 58 = .ok (.istore 6, 2) := by decide +kernel
theorem dX5_silentBy_60 : decode cX5_silentBy 60 = .ok (.iload_n 3, 1) := by decide +kernel
theorem dX5_silentBy_61 : decode cX5_silentBy 61 = .ok (.iload 5, 2) := by decide +kernel
theorem dX5_silentBy_63 : decode cX5_silentBy 63 = .ok (.iload 6, 2) := by decide +kernel
theorem dX5_silentBy_65 : decode cX5_silentBy 65 = .ok (.bipush 100, 2) := by decide +kernel
theorem dX5_silentBy_67 : decode cX5_silentBy 67 = .ok (.aload_n 0, 1) := by decide +kernel
theorem dX5_silentBy_68 : decode cX5_silentBy 68 = .ok (.getfield 48, 3) := by decide +kernel
theorem dX5_silentBy_71 : decode cX5_silentBy 71 = .ok (.iload 4, 2) := by decide +kernel
theorem dX5_silentBy_73 : decode cX5_silentBy 73 = .ok (.iconst 2, 1) := by decide +kernel
theorem dX5_silentBy_74 : decode cX5_silentBy 74 = .ok (.invokevirtual 51, 3) := by decide +kernel
theorem dX5_silentBy_77 : decode cX5_silentBy 77 = .ok (.isub, 1) := by decide +kernel
theorem dX5_silentBy_78 : decode cX5_silentBy 78 = .ok (.invokestatic 57, 3) := by decide +kernel
theorem dX5_silentBy_81 : decode cX5_silentBy 81 = .ok (.istore_n 3, 1) := by decide +kernel
theorem dX5_silentBy_82 : decode cX5_silentBy 82 = .ok (.iinc 4 1, 3) := by decide +kernel
theorem dX5_silentBy_85 : decode cX5_silentBy 85 = .ok (.goto (-79), 3) := by decide +kernel
theorem dX5_silentBy_88 : decode cX5_silentBy 88 = .ok (.iload_n 3, 1) := by decide +kernel
theorem dX5_silentBy_89 : decode cX5_silentBy 89 = .ok (.ireturn, 1) := by decide +kernel
theorem dX5_bestFor_0 : decode cX5_bestFor 0 = .ok (.aload_n 0, 1) := by decide +kernel
theorem dX5_bestFor_1 : decode cX5_bestFor 1 = .ok (.aload_n 1, 1) := by decide +kernel
theorem dX5_bestFor_2 : decode cX5_bestFor 2 = .ok (.aload_n 2, 1) := by decide +kernel
theorem dX5_bestFor_3 : decode cX5_bestFor 3 = .ok (.invokevirtual 61, 3) := by decide +kernel
theorem dX5_bestFor_6 : decode cX5_bestFor 6 = .ok (.aload_n 0, 1) := by decide +kernel
theorem dX5_bestFor_7 : decode cX5_bestFor 7 = .ok (.aload_n 1, 1) := by decide +kernel
theorem dX5_bestFor_8 : decode cX5_bestFor 8 = .ok (.invokevirtual 65, 3) := by decide +kernel
theorem dX5_bestFor_11 : decode cX5_bestFor 11 = .ok (.iconst 0, 1) := by decide +kernel
theorem dX5_bestFor_12 : decode cX5_bestFor 12 = .ok (.istore 4, 2) := by decide +kernel
theorem dX5_bestFor_14 : decode cX5_bestFor 14 = .ok (.iconst 1, 1) := by decide +kernel
theorem dX5_bestFor_15 : decode cX5_bestFor 15 = .ok (.istore 5, 2) := by decide +kernel
theorem dX5_bestFor_17 : decode cX5_bestFor 17 = .ok (.iload 5, 2) := by decide +kernel
theorem dX5_bestFor_19 : decode cX5_bestFor 19 = .ok (.sipush 1024, 3) := by decide +kernel
theorem dX5_bestFor_22 : decode cX5_bestFor 22 = .ok (.if_icmp .ge 101, 3) := by decide +kernel
theorem dX5_bestFor_25 : decode cX5_bestFor 25 = .ok (.iload 5, 2) := by decide +kernel
theorem dX5_bestFor_27 : decode cX5_bestFor 27 = .ok (.iconst 1, 1) := by decide +kernel
theorem dX5_bestFor_28 : decode cX5_bestFor 28 = .ok (.aload_n 1, 1) := by decide +kernel
theorem dX5_bestFor_29 : decode cX5_bestFor 29 = .ok (.getfield 48, 3) := by decide +kernel
theorem dX5_bestFor_32 : decode cX5_bestFor 32 = .ok (.invokevirtual 27, 3) := by decide +kernel
theorem dX5_bestFor_35 : decode cX5_bestFor 35 = .ok (.ishl, 1) := by decide +kernel
theorem dX5_bestFor_36 : decode cX5_bestFor 36 = .ok (.if_icmp .ge 87, 3) := by decide +kernel
theorem dX5_bestFor_39 : decode cX5_bestFor 39 = .ok (.aload_n 0, 1) := by decide +kernel
theorem dX5_bestFor_40 : decode cX5_bestFor 40 = .ok (.getfield 15, 3) := by decide +kernel
theorem dX5_bestFor_43 : decode cX5_bestFor 43 = .ok (.iload 5, 2) := by decide +kernel
theorem dX5_bestFor_45 : decode cX5_bestFor 45 = .ok (.iaload, 1) := by decide +kernel
theorem dX5_bestFor_46 : decode cX5_bestFor 46 = .ok (.aload_n 0, 1) := by decide +kernel
theorem dX5_bestFor_47 : decode cX5_bestFor 47 = .ok (.getfield 15, 3) := by decide +kernel
theorem dX5_bestFor_50 : decode cX5_bestFor 50 = .ok (.iload 4, 2) := by decide +kernel
theorem dX5_bestFor_52 : decode cX5_bestFor 52 = .ok (.iaload, 1) := by decide +kernel
theorem dX5_bestFor_53 : decode cX5_bestFor 53 = .ok (.if_icmp .gt 37, 3) := by decide +kernel
theorem dX5_bestFor_56 : decode cX5_bestFor 56 = .ok (.aload_n 0, 1) := by decide +kernel
theorem dX5_bestFor_57 : decode cX5_bestFor 57 = .ok (.getfield 15, 3) := by decide +kernel
theorem dX5_bestFor_60 : decode cX5_bestFor 60 = .ok (.iload 5, 2) := by decide +kernel
theorem dX5_bestFor_62 : decode cX5_bestFor 62 = .ok (.iaload, 1) := by decide +kernel
theorem dX5_bestFor_63 : decode cX5_bestFor 63 = .ok (.aload_n 0, 1) := by decide +kernel
theorem dX5_bestFor_64 : decode cX5_bestFor 64 = .ok (.getfield 15, 3) := by decide +kernel
theorem dX5_bestFor_67 : decode cX5_bestFor 67 = .ok (.iload 4, 2) := by decide +kernel
theorem dX5_bestFor_69 : decode cX5_bestFor 69 = .ok (.iaload, 1) := by decide +kernel
theorem dX5_bestFor_70 : decode cX5_bestFor 70 = .ok (.if_icmp .ne 24, 3) := by decide +kernel
theorem dX5_bestFor_73 : decode cX5_bestFor 73 = .ok (.aload_n 0, 1) := by decide +kernel
theorem dX5_bestFor_74 : decode cX5_bestFor 74 = .ok (.getfield 18, 3) := by decide +kernel
theorem dX5_bestFor_77 : decode cX5_bestFor 77 = .ok (.iload 5, 2) := by decide +kernel
theorem dX5_bestFor_79 : decode cX5_bestFor 79 = .ok (.iaload, 1) := by decide +kernel
theorem dX5_bestFor_80 : decode cX5_bestFor 80 = .ok (.aload_n 0, 1) := by decide +kernel
theorem dX5_bestFor_81 : decode cX5_bestFor 81 = .ok (.getfield 18, 3) := by decide +kernel
theorem dX5_bestFor_84 : decode cX5_bestFor 84 = .ok (.iload 4, 2) := by decide +kernel
theorem dX5_bestFor_86 : decode cX5_bestFor 86 = .ok (.iaload, 1) := by decide +kernel
theorem dX5_bestFor_87 : decode cX5_bestFor 87 = .ok (.if_icmp .ge 7, 3) := by decide +kernel
theorem dX5_bestFor_90 : decode cX5_bestFor 90 = .ok (.iconst 1, 1) := by decide +kernel
theorem dX5_bestFor_91 : decode cX5_bestFor 91 = .ok (.goto 4, 3) := by decide +kernel
theorem dX5_bestFor_94 : decode cX5_bestFor 94 = .ok (.iconst 0, 1) := by decide +kernel
theorem dX5_bestFor_95 : decode cX5_bestFor 95 = .ok (.istore 6, 2) := by decide +kernel
theorem dX5_bestFor_97 : decode cX5_bestFor 97 = .ok (.aload_n 0, 1) := by decide +kernel
theorem dX5_bestFor_98 : decode cX5_bestFor 98 = .ok (.getfield 18, 3) := by decide +kernel
theorem dX5_bestFor_101 : decode cX5_bestFor 101 = .ok (.iload 5, 2) := by decide +kernel
theorem dX5_bestFor_103 : decode cX5_bestFor 103 = .ok (.iaload, 1) := by decide +kernel
theorem dX5_bestFor_104 : decode cX5_bestFor 104 = .ok (.iload_n 3, 1) := by decide +kernel
theorem dX5_bestFor_105 : decode cX5_bestFor 105 = .ok (.if_icmp .gt 12, 3) := by decide +kernel
theorem dX5_bestFor_108 : decode cX5_bestFor 108 = .ok (.iload 6, 2) := by decide +kernel
theorem dX5_bestFor_110 : decode cX5_bestFor 110 = .ok (.ifCond .eq 7, 3) := by decide +kernel
theorem dX5_bestFor_113 : decode cX5_bestFor 113 = .ok (.iload 5, 2) := by decide +kernel
theorem dX5_bestFor_115 : decode cX5_bestFor 115 = .ok (.istore 4, 2) := by decide +kernel
theorem dX5_bestFor_117 : decode cX5_bestFor 117 = .ok (.iinc 5 1, 3) := by decide +kernel
theorem dX5_bestFor_120 : decode cX5_bestFor 120 = .ok (.goto (-103), 3) := by decide +kernel
theorem dX5_bestFor_123 : decode cX5_bestFor 123 = .ok (.iload 4, 2) := by decide +kernel
theorem dX5_bestFor_125 : decode cX5_bestFor 125 = .ok (.ireturn, 1) := by decide +kernel
theorem dX5_sayAll_0 : decode cX5_sayAll 0 = .ok (.aload_n 0, 1) := by decide +kernel
theorem dX5_sayAll_1 : decode cX5_sayAll 1 = .ok (.getfield 15, 3) := by decide +kernel
theorem dX5_sayAll_4 : decode cX5_sayAll 4 = .ok (.iconst 0, 1) := by decide +kernel
theorem dX5_sayAll_5 : decode cX5_sayAll 5 = .ok (.invokestatic 69, 3) := by decide +kernel
theorem dX5_sayAll_8 : decode cX5_sayAll 8 = .ok (.aload_n 0, 1) := by decide +kernel
theorem dX5_sayAll_9 : decode cX5_sayAll 9 = .ok (.getfield 11, 3) := by decide +kernel
theorem dX5_sayAll_12 : decode cX5_sayAll 12 = .ok (.iconst 0, 1) := by decide +kernel
theorem dX5_sayAll_13 : decode cX5_sayAll 13 = .ok (.ldc 47, 2) := by decide +kernel
theorem dX5_sayAll_15 : decode cX5_sayAll 15 = .ok (.iastore, 1) := by decide +kernel
theorem dX5_sayAll_16 : decode cX5_sayAll 16 = .ok (.iconst 0, 1) := by decide +kernel
theorem dX5_sayAll_17 : decode cX5_sayAll 17 = .ok (.istore_n 3, 1) := by decide +kernel
theorem dX5_sayAll_18 : decode cX5_sayAll 18 = .ok (.iload_n 3, 1) := by decide +kernel
theorem dX5_sayAll_19 : decode cX5_sayAll 19 = .ok (.aload_n 1, 1) := by decide +kernel
theorem dX5_sayAll_20 : decode cX5_sayAll 20 = .ok (.getfield 21, 3) := by decide +kernel
theorem dX5_sayAll_23 : decode cX5_sayAll 23 = .ok (.invokevirtual 27, 3) := by decide +kernel
theorem dX5_sayAll_26 : decode cX5_sayAll 26 = .ok (.if_icmp .ge 47, 3) := by decide +kernel
theorem dX5_sayAll_29 : decode cX5_sayAll 29 = .ok (.aload_n 2, 1) := by decide +kernel
theorem dX5_sayAll_30 : decode cX5_sayAll 30 = .ok (.iload_n 3, 1) := by decide +kernel
theorem dX5_sayAll_31 : decode cX5_sayAll 31 = .ok (.invokevirtual 33, 3) := by decide +kernel
theorem dX5_sayAll_34 : decode cX5_sayAll 34 = .ok (.istore 4, 2) := by decide +kernel
theorem dX5_sayAll_36 : decode cX5_sayAll 36 = .ok (.iconst 0, 1) := by decide +kernel
theorem dX5_sayAll_37 : decode cX5_sayAll 37 = .ok (.istore 5, 2) := by decide +kernel
theorem dX5_sayAll_39 : decode cX5_sayAll 39 = .ok (.iload 5, 2) := by decide +kernel
theorem dX5_sayAll_41 : decode cX5_sayAll 41 = .ok (.aload_n 1, 1) := by decide +kernel
theorem dX5_sayAll_42 : decode cX5_sayAll 42 = .ok (.getfield 48, 3) := by decide +kernel
theorem dX5_sayAll_45 : decode cX5_sayAll 45 = .ok (.invokevirtual 27, 3) := by decide +kernel
theorem dX5_sayAll_48 : decode cX5_sayAll 48 = .ok (.if_icmp .ge 19, 3) := by decide +kernel
theorem dX5_sayAll_51 : decode cX5_sayAll 51 = .ok (.aload_n 0, 1) := by decide +kernel
theorem dX5_sayAll_52 : decode cX5_sayAll 52 = .ok (.aload_n 1, 1) := by decide +kernel
theorem dX5_sayAll_53 : decode cX5_sayAll 53 = .ok (.iload 5, 2) := by decide +kernel
theorem dX5_sayAll_55 : decode cX5_sayAll 55 = .ok (.iload_n 3, 1) := by decide +kernel
theorem dX5_sayAll_56 : decode cX5_sayAll 56 = .ok (.iload 4, 2) := by decide +kernel
theorem dX5_sayAll_58 : decode cX5_sayAll 58 = .ok (.invokevirtual 75, 3) := by decide +kernel
theorem dX5_sayAll_61 : decode cX5_sayAll 61 = .ok (.iinc 5 1, 3) := by decide +kernel
theorem dX5_sayAll_64 : decode cX5_sayAll 64 = .ok (.goto (-25), 3) := by decide +kernel
theorem dX5_sayAll_67 : decode cX5_sayAll 67 = .ok (.iinc 3 1, 3) := by decide +kernel
theorem dX5_sayAll_70 : decode cX5_sayAll 70 = .ok (.goto (-52), 3) := by decide +kernel
theorem dX5_sayAll_73 : decode cX5_sayAll 73 = .ok (.return_, 1) := by decide +kernel
theorem dX5_sayWith_0 : decode cX5_sayWith 0 = .ok (.iconst 1, 1) := by decide +kernel
theorem dX5_sayWith_1 : decode cX5_sayWith 1 = .ok (.iload_n 2, 1) := by decide +kernel
theorem dX5_sayWith_2 : decode cX5_sayWith 2 = .ok (.ishl, 1) := by decide +kernel
theorem dX5_sayWith_3 : decode cX5_sayWith 3 = .ok (.istore 5, 2) := by decide +kernel
theorem dX5_sayWith_5 : decode cX5_sayWith 5 = .ok (.aload_n 1, 1) := by decide +kernel
theorem dX5_sayWith_6 : decode cX5_sayWith 6 = .ok (.iload_n 3, 1) := by decide +kernel
theorem dX5_sayWith_7 : decode cX5_sayWith 7 = .ok (.aload_n 1, 1) := by decide +kernel
theorem dX5_sayWith_8 : decode cX5_sayWith 8 = .ok (.getfield 48, 3) := by decide +kernel
theorem dX5_sayWith_11 : decode cX5_sayWith 11 = .ok (.iload_n 2, 1) := by decide +kernel
theorem dX5_sayWith_12 : decode cX5_sayWith 12 = .ok (.iconst 1, 1) := by decide +kernel
theorem dX5_sayWith_13 : decode cX5_sayWith 13 = .ok (.invokevirtual 51, 3) := by decide +kernel
theorem dX5_sayWith_16 : decode cX5_sayWith 16 = .ok (.invokevirtual 54, 3) := by decide +kernel
theorem dX5_sayWith_19 : decode cX5_sayWith 19 = .ok (.istore 6, 2) := by decide +kernel
theorem dX5_sayWith_21 : decode cX5_sayWith 21 = .ok (.bipush 100, 2) := by decide +kernel
theorem dX5_sayWith_23 : decode cX5_sayWith 23 = .ok (.aload_n 1, 1) := by decide +kernel
theorem dX5_sayWith_24 : decode cX5_sayWith 24 = .ok (.getfield 48, 3) := by decide +kernel
theorem dX5_sayWith_27 : decode cX5_sayWith 27 = .ok (.iload_n 2, 1) := by decide +kernel
theorem dX5_sayWith_28 : decode cX5_sayWith 28 = .ok (.iconst 0, 1) := by decide +kernel
theorem dX5_sayWith_29 : decode cX5_sayWith 29 = .ok (.invokevirtual 51, 3) := by decide +kernel
theorem dX5_sayWith_32 : decode cX5_sayWith 32 = .ok (.isub, 1) := by decide +kernel
theorem dX5_sayWith_33 : decode cX5_sayWith 33 = .ok (.istore 7, 2) := by decide +kernel
theorem dX5_sayWith_35 : decode cX5_sayWith 35 = .ok (.bipush 100, 2) := by decide +kernel
theorem dX5_sayWith_37 : decode cX5_sayWith 37 = .ok (.aload_n 1, 1) := by decide +kernel
theorem dX5_sayWith_38 : decode cX5_sayWith 38 = .ok (.getfield 48, 3) := by decide +kernel
theorem dX5_sayWith_41 : decode cX5_sayWith 41 = .ok (.iload_n 2, 1) := by decide +kernel
theorem dX5_sayWith_42 : decode cX5_sayWith 42 = .ok (.iconst 2, 1) := by decide +kernel
theorem dX5_sayWith_43 : decode cX5_sayWith 43 = .ok (.invokevirtual 51, 3) := by decide +kernel
theorem dX5_sayWith_46 : decode cX5_sayWith 46 = .ok (.isub, 1) := by decide +kernel
theorem dX5_sayWith_47 : decode cX5_sayWith 47 = .ok (.istore 8, 2) := by decide +kernel
theorem dX5_sayWith_49 : decode cX5_sayWith 49 = .ok (.iconst 0, 1) := by decide +kernel
theorem dX5_sayWith_50 : decode cX5_sayWith 50 = .ok (.istore 9, 2) := by decide +kernel
theorem dX5_sayWith_52 : decode cX5_sayWith 52 = .ok (.iload 9, 2) := by decide +kernel
theorem dX5_sayWith_54 : decode cX5_sayWith 54 = .ok (.iload 5, 2) := by decide +kernel
theorem dX5_sayWith_56 : decode cX5_sayWith 56 = .ok (.if_icmp .ge 70, 3) := by decide +kernel
theorem dX5_sayWith_59 : decode cX5_sayWith 59 = .ok (.iload 9, 2) := by decide +kernel
theorem dX5_sayWith_61 : decode cX5_sayWith 61 = .ok (.iload 5, 2) := by decide +kernel
theorem dX5_sayWith_63 : decode cX5_sayWith 63 = .ok (.iadd, 1) := by decide +kernel
theorem dX5_sayWith_64 : decode cX5_sayWith 64 = .ok (.sipush 1024, 3) := by decide +kernel
theorem dX5_sayWith_67 : decode cX5_sayWith 67 = .ok (.if_icmp .ge 59, 3) := by decide +kernel
theorem dX5_sayWith_70 : decode cX5_sayWith 70 = .ok (.aload_n 0, 1) := by decide +kernel
theorem dX5_sayWith_71 : decode cX5_sayWith 71 = .ok (.getfield 11, 3) := by decide +kernel
theorem dX5_sayWith_74 : decode cX5_sayWith 74 = .ok (.iload 9, 2) := by decide +kernel
theorem dX5_sayWith_76 : decode cX5_sayWith 76 = .ok (.iaload, 1) := by decide +kernel
theorem dX5_sayWith_77 : decode cX5_sayWith 77 = .ok (.iload 6, 2) := by decide +kernel
theorem dX5_sayWith_79 : decode cX5_sayWith 79 = .ok (.iload 7, 2) := by decide +kernel
theorem dX5_sayWith_81 : decode cX5_sayWith 81 = .ok (.iload 8, 2) := by decide +kernel
theorem dX5_sayWith_83 : decode cX5_sayWith 83 = .ok (.invokestatic 57, 3) := by decide +kernel
theorem dX5_sayWith_86 : decode cX5_sayWith 86 = .ok (.istore 10, 2) := by decide +kernel
theorem dX5_sayWith_88 : decode cX5_sayWith 88 = .ok (.aload_n 0, 1) := by decide +kernel
theorem dX5_sayWith_89 : decode cX5_sayWith 89 = .ok (.getfield 11, 3) := by decide +kernel
theorem dX5_sayWith_92 : decode cX5_sayWith 92 = .ok (.iload 9, 2) := by decide +kernel
theorem dX5_sayWith_94 : decode cX5_sayWith 94 = .ok (.iload 5, 2) := by decide +kernel
theorem dX5_sayWith_96 : decode cX5_sayWith 96 = .ok (.iadd, 1) := by decide +kernel
theorem dX5_sayWith_97 : decode cX5_sayWith 97 = .ok (.iload 10, 2) := by decide +kernel
theorem dX5_sayWith_99 : decode cX5_sayWith 99 = .ok (.iastore, 1) := by decide +kernel
theorem dX5_sayWith_100 : decode cX5_sayWith 100 = .ok (.aload_n 0, 1) := by decide +kernel
theorem dX5_sayWith_101 : decode cX5_sayWith 101 = .ok (.getfield 15, 3) := by decide +kernel
theorem dX5_sayWith_104 : decode cX5_sayWith 104 = .ok (.iload 9, 2) := by decide +kernel
theorem dX5_sayWith_106 : decode cX5_sayWith 106 = .ok (.iload 5, 2) := by decide +kernel
theorem dX5_sayWith_108 : decode cX5_sayWith 108 = .ok (.iadd, 1) := by decide +kernel
theorem dX5_sayWith_109 : decode cX5_sayWith 109 = .ok (.dup2, 1) := by decide +kernel
theorem dX5_sayWith_110 : decode cX5_sayWith 110 = .ok (.iaload, 1) := by decide +kernel
theorem dX5_sayWith_111 : decode cX5_sayWith 111 = .ok (.iload 4, 2) := by decide +kernel
theorem dX5_sayWith_113 : decode cX5_sayWith 113 = .ok (.iload 10, 2) := by decide +kernel
theorem dX5_sayWith_115 : decode cX5_sayWith 115 = .ok (.invokestatic 43, 3) := by decide +kernel
theorem dX5_sayWith_118 : decode cX5_sayWith 118 = .ok (.iadd, 1) := by decide +kernel
theorem dX5_sayWith_119 : decode cX5_sayWith 119 = .ok (.iastore, 1) := by decide +kernel
theorem dX5_sayWith_120 : decode cX5_sayWith 120 = .ok (.iinc 9 1, 3) := by decide +kernel
theorem dX5_sayWith_123 : decode cX5_sayWith 123 = .ok (.goto (-71), 3) := by decide +kernel
theorem dX5_sayWith_126 : decode cX5_sayWith 126 = .ok (.return_, 1) := by decide +kernel
theorem dX5_costAll_0 : decode cX5_costAll 0 = .ok (.aload_n 0, 1) := by decide +kernel
theorem dX5_costAll_1 : decode cX5_costAll 1 = .ok (.getfield 18, 3) := by decide +kernel
theorem dX5_costAll_4 : decode cX5_costAll 4 = .ok (.iconst 0, 1) := by decide +kernel
theorem dX5_costAll_5 : decode cX5_costAll 5 = .ok (.iconst 0, 1) := by decide +kernel
theorem dX5_costAll_6 : decode cX5_costAll 6 = .ok (.iastore, 1) := by decide +kernel
theorem dX5_costAll_7 : decode cX5_costAll 7 = .ok (.iconst 0, 1) := by decide +kernel
theorem dX5_costAll_8 : decode cX5_costAll 8 = .ok (.istore_n 2, 1) := by decide +kernel
theorem dX5_costAll_9 : decode cX5_costAll 9 = .ok (.iload_n 2, 1) := by decide +kernel
theorem dX5_costAll_10 : decode cX5_costAll 10 = .ok (.aload_n 1, 1) := by decide +kernel
theorem dX5_costAll_11 : decode cX5_costAll 11 = .ok (.getfield 48, 3) := by decide +kernel
theorem dX5_costAll_14 : decode cX5_costAll 14 = .ok (.invokevirtual 27, 3) := by decide +kernel
theorem dX5_costAll_17 : decode cX5_costAll 17 = .ok (.if_icmp .ge 64, 3) := by decide +kernel
theorem dX5_costAll_20 : decode cX5_costAll 20 = .ok (.iconst 1, 1) := by decide +kernel
theorem dX5_costAll_21 : decode cX5_costAll 21 = .ok (.iload_n 2, 1) := by decide +kernel
theorem dX5_costAll_22 : decode cX5_costAll 22 = .ok (.ishl, 1) := by decide +kernel
theorem dX5_costAll_23 : decode cX5_costAll 23 = .ok (.istore_n 3, 1) := by decide +kernel
theorem dX5_costAll_24 : decode cX5_costAll 24 = .ok (.iconst 0, 1) := by decide +kernel
theorem dX5_costAll_25 : decode cX5_costAll 25 = .ok (.istore 4, 2) := by decide +kernel
theorem dX5_costAll_27 : decode cX5_costAll 27 = .ok (.iload 4, 2) := by decide +kernel
theorem dX5_costAll_29 : decode cX5_costAll 29 = .ok (.iload_n 3, 1) := by decide +kernel
theorem dX5_costAll_30 : decode cX5_costAll 30 = .ok (.if_icmp .ge 45, 3) := by decide +kernel
theorem dX5_costAll_33 : decode cX5_costAll 33 = .ok (.iload 4, 2) := by decide +kernel
theorem dX5_costAll_35 : decode cX5_costAll 35 = .ok (.iload_n 3, 1) := by decide +kernel
theorem dX5_costAll_36 : decode cX5_costAll 36 = .ok (.iadd, 1) := by decide +kernel
theorem dX5_costAll_37 : decode cX5_costAll 37 = .ok (.sipush 1024, 3) := by decide +kernel
theorem dX5_costAll_40 : decode cX5_costAll 40 = .ok (.if_icmp .ge 35, 3) := by decide +kernel
theorem dX5_costAll_43 : decode cX5_costAll 43 = .ok (.aload_n 0, 1) := by decide +kernel
theorem dX5_costAll_44 : decode cX5_costAll 44 = .ok (.getfield 18, 3) := by decide +kernel
theorem dX5_costAll_47 : decode cX5_costAll 47 = .ok (.iload 4, 2) := by decide +kernel
theorem dX5_costAll_49 : decode cX5_costAll 49 = .ok (.iload_n 3, 1) := by decide +kernel
theorem dX5_costAll_50 : decode cX5_costAll 50 = .ok (.iadd, 1) := by decide +kernel
theorem dX5_costAll_51 : decode cX5_costAll 51 = .ok (.aload_n 0, 1) := by decide +kernel
theorem dX5_costAll_52 : decode cX5_costAll 52 = .ok (.getfield 18, 3) := by decide +kernel
theorem dX5_costAll_55 : decode cX5_costAll 55 = .ok (.iload 4, 2) := by decide +kernel
theorem dX5_costAll_57 : decode cX5_costAll 57 = .ok (.iaload, 1) := by decide +kernel
theorem dX5_costAll_58 : decode cX5_costAll 58 = .ok (.aload_n 1, 1) := by decide +kernel
theorem dX5_costAll_59 : decode cX5_costAll 59 = .ok (.getfield 48, 3) := by decide +kernel
theorem dX5_costAll_62 : decode cX5_costAll 62 = .ok (.iload_n 2, 1) := by decide +kernel
theorem dX5_costAll_63 : decode cX5_costAll 63 = .ok (.iconst 3, 1) := by decide +kernel
theorem dX5_costAll_64 : decode cX5_costAll 64 = .ok (.invokevirtual 51, 3) := by decide +kernel
theorem dX5_costAll_67 : decode cX5_costAll 67 = .ok (.iadd, 1) := by decide +kernel
theorem dX5_costAll_68 : decode cX5_costAll 68 = .ok (.iastore, 1) := by decide +kernel
theorem dX5_costAll_69 : decode cX5_costAll 69 = .ok (.iinc 4 1, 3) := by decide +kernel
theorem dX5_costAll_72 : decode cX5_costAll 72 = .ok (.goto (-45), 3) := by decide +kernel
theorem dX5_costAll_75 : decode cX5_costAll 75 = .ok (.iinc 2 1, 3) := by decide +kernel
theorem dX5_costAll_78 : decode cX5_costAll 78 = .ok (.goto (-69), 3) := by decide +kernel
theorem dX5_costAll_81 : decode cX5_costAll 81 = .ok (.return_, 1) := by decide +kernel
theorem dX5_silentAfter_0 : decode cX5_silentAfter 0 = .ok (.iload_n 0, 1) := by decide +kernel
theorem dX5_silentAfter_1 : decode cX5_silentAfter 1 = .ok (.istore 4, 2) := by decide +kernel
theorem dX5_silentAfter_3 : decode cX5_silentAfter 3 = .ok (.iconst 0, 1) := by decide +kernel
theorem dX5_silentAfter_4 : decode cX5_silentAfter 4 = .ok (.istore 5, 2) := by decide +kernel
theorem dX5_silentAfter_6 : decode cX5_silentAfter 6 = .ok (.iload 5, 2) := by decide +kernel
theorem dX5_silentAfter_8 : decode cX5_silentAfter 8 = .ok (.iload_n 1, 1) := by decide +kernel
theorem dX5_silentAfter_9 : decode cX5_silentAfter 9 = .ok (.if_icmp .ge 23, 3) := by decide +kernel
theorem dX5_silentAfter_12 : decode cX5_silentAfter 12 = .ok (.iload 4, 2) := by decide +kernel
theorem dX5_silentAfter_14 : decode cX5_silentAfter 14 = .ok (.ifCond .le 18, 3) := by decide +kernel
theorem dX5_silentAfter_17 : decode cX5_silentAfter 17 = .ok (.iload 4, 2) := by decide +kernel
theorem dX5_silentAfter_19 : decode cX5_silentAfter 19 = .ok (.iload_n 2, 1) := by decide +kernel
theorem dX5_silentAfter_20 : decode cX5_silentAfter 20 = .ok (.imul, 1) := by decide +kernel
theorem dX5_silentAfter_21 : decode cX5_silentAfter 21 = .ok (.bipush 100, 2) := by decide +kernel
theorem dX5_silentAfter_23 : decode cX5_silentAfter 23 = .ok (.idiv, 1) := by decide +kernel
theorem dX5_silentAfter_24 : decode cX5_silentAfter 24 = .ok (.istore 4, 2) := by decide +kernel
theorem dX5_silentAfter_26 : decode cX5_silentAfter 26 = .ok (.iinc 5 1, 3) := by decide +kernel
theorem dX5_silentAfter_29 : decode cX5_silentAfter 29 = .ok (.goto (-23), 3) := by decide +kernel
theorem dX5_silentAfter_32 : decode cX5_silentAfter 32 = .ok (.iload 4, 2) := by decide +kernel
theorem dX5_silentAfter_34 : decode cX5_silentAfter 34 = .ok (.iload_n 3, 1) := by decide +kernel
theorem dX5_silentAfter_35 : decode cX5_silentAfter 35 = .ok (.imul, 1) := by decide +kernel
theorem dX5_silentAfter_36 : decode cX5_silentAfter 36 = .ok (.bipush 100, 2) := by decide +kernel
theorem dX5_silentAfter_38 : decode cX5_silentAfter 38 = .ok (.idiv, 1) := by decide +kernel
theorem dX5_silentAfter_39 : decode cX5_silentAfter 39 = .ok (.ireturn, 1) := by decide +kernel
theorem dX5_share_0 : decode cX5_share 0 = .ok (.iload_n 0, 1) := by decide +kernel
theorem dX5_share_1 : decode cX5_share 1 = .ok (.i2l, 1) := by decide +kernel
theorem dX5_share_2 : decode cX5_share 2 = .ok (.ldc 47, 2) := by decide +kernel
theorem dX5_share_4 : decode cX5_share 4 = .ok (.iload_n 1, 1) := by decide +kernel
theorem dX5_share_5 : decode cX5_share 5 = .ok (.isub, 1) := by decide +kernel
theorem dX5_share_6 : decode cX5_share 6 = .ok (.i2l, 1) := by decide +kernel
theorem dX5_share_7 : decode cX5_share 7 = .ok (.lmul, 1) := by decide +kernel
theorem dX5_share_8 : decode cX5_share 8 = .ok (.ldc2_w 79, 3) := by decide +kernel
theorem dX5_share_11 : decode cX5_share 11 = .ok (.ldiv, 1) := by decide +kernel
theorem dX5_share_12 : decode cX5_share 12 = .ok (.l2i, 1) := by decide +kernel
theorem dX5_share_13 : decode cX5_share 13 = .ok (.ireturn, 1) := by decide +kernel
theorem dX6_init_0 : decode cX6_init 0 = .ok (.aload_n 0, 1) := by decide +kernel
theorem dX6_init_1 : decode cX6_init 1 = .ok (.invokespecial 3, 3) := by decide +kernel
theorem dX6_init_4 : decode cX6_init 4 = .ok (.aload_n 0, 1) := by decide +kernel
theorem dX6_init_5 : decode cX6_init 5 = .ok (.bipush 6, 2) := by decide +kernel
theorem dX6_init_7 : decode cX6_init 7 = .ok (.anewarray 9, 3) := by decide +kernel
theorem dX6_init_10 : decode cX6_init 10 = .ok (.putfield 11, 3) := by decide +kernel
theorem dX6_init_13 : decode cX6_init 13 = .ok (.aload_n 0, 1) := by decide +kernel
theorem dX6_init_14 : decode cX6_init 14 = .ok (.new 9, 3) := by decide +kernel
theorem dX6_init_17 : decode cX6_init 17 = .ok (.dup, 1) := by decide +kernel
theorem dX6_init_18 : decode cX6_init 18 = .ok (.invokespecial 17, 3) := by decide +kernel
theorem dX6_init_21 : decode cX6_init 21 = .ok (.putfield 18, 3) := by decide +kernel
theorem dX6_init_24 : decode cX6_init 24 = .ok (.aload_n 0, 1) := by decide +kernel
theorem dX6_init_25 : decode cX6_init 25 = .ok (.new 9, 3) := by decide +kernel
theorem dX6_init_28 : decode cX6_init 28 = .ok (.dup, 1) := by decide +kernel
theorem dX6_init_29 : decode cX6_init 29 = .ok (.invokespecial 17, 3) := by decide +kernel
theorem dX6_init_32 : decode cX6_init 32 = .ok (.putfield 22, 3) := by decide +kernel
theorem dX6_init_35 : decode cX6_init 35 = .ok (.aload_n 0, 1) := by decide +kernel
theorem dX6_init_36 : decode cX6_init 36 = .ok (.new 9, 3) := by decide +kernel
theorem dX6_init_39 : decode cX6_init 39 = .ok (.dup, 1) := by decide +kernel
theorem dX6_init_40 : decode cX6_init 40 = .ok (.invokespecial 17, 3) := by decide +kernel
theorem dX6_init_43 : decode cX6_init 43 = .ok (.putfield 25, 3) := by decide +kernel
theorem dX6_init_46 : decode cX6_init 46 = .ok (.aload_n 0, 1) := by decide +kernel
theorem dX6_init_47 : decode cX6_init 47 = .ok (.new 9, 3) := by decide +kernel
theorem dX6_init_50 : decode cX6_init 50 = .ok (.dup, 1) := by decide +kernel
theorem dX6_init_51 : decode cX6_init 51 = .ok (.invokespecial 17, 3) := by decide +kernel
theorem dX6_init_54 : decode cX6_init 54 = .ok (.putfield 28, 3) := by decide +kernel
theorem dX6_init_57 : decode cX6_init 57 = .ok (.iconst 0, 1) := by decide +kernel
theorem dX6_init_58 : decode cX6_init 58 = .ok (.istore_n 1, 1) := by decide +kernel
theorem dX6_init_59 : decode cX6_init 59 = .ok (.iload_n 1, 1) := by decide +kernel
theorem dX6_init_60 : decode cX6_init 60 = .ok (.bipush 6, 2) := by decide +kernel
theorem dX6_init_62 : decode cX6_init 62 = .ok (.if_icmp .ge 22, 3) := by decide +kernel
theorem dX6_init_65 : decode cX6_init 65 = .ok (.aload_n 0, 1) := by decide +kernel
theorem dX6_init_66 : decode cX6_init 66 = .ok (.getfield 11, 3) := by decide +kernel
theorem dX6_init_69 : decode cX6_init 69 = .ok (.iload_n 1, 1) := by decide +kernel
theorem dX6_init_70 : decode cX6_init 70 = .ok (.new 9, 3) := by decide +kernel
theorem dX6_init_73 : decode cX6_init 73 = .ok (.dup, 1) := by decide +kernel
theorem dX6_init_74 : decode cX6_init 74 = .ok (.invokespecial 17, 3) := by decide +kernel
theorem dX6_init_77 : decode cX6_init 77 = .ok (.aastore, 1) := by decide +kernel
theorem dX6_init_78 : decode cX6_init 78 = .ok (.iinc 1 1, 3) := by decide +kernel
theorem dX6_init_81 : decode cX6_init 81 = .ok (.goto (-22), 3) := by decide +kernel
theorem dX6_init_84 : decode cX6_init 84 = .ok (.return_, 1) := by decide +kernel
theorem dX6_weigh_0 : decode cX6_weigh 0 = .ok (.aload_n 0, 1) := by decide +kernel
theorem dX6_weigh_1 : decode cX6_weigh 1 = .ok (.getfield 18, 3) := by decide +kernel
theorem dX6_weigh_4 : decode cX6_weigh 4 = .ok (.iconst 0, 1) := by decide +kernel
theorem dX6_weigh_5 : decode cX6_weigh 5 = .ok (.invokevirtual 31, 3) := by decide +kernel
theorem dX6_weigh_8 : decode cX6_weigh 8 = .ok (.iconst 0, 1) := by decide +kernel
theorem dX6_weigh_9 : decode cX6_weigh 9 = .ok (.istore_n 3, 1) := by decide +kernel
theorem dX6_weigh_10 : decode cX6_weigh 10 = .ok (.iload_n 3, 1) := by decide +kernel
theorem dX6_weigh_11 : decode cX6_weigh 11 = .ok (.bipush 6, 2) := by decide +kernel
theorem dX6_weigh_13 : decode cX6_weigh 13 = .ok (.if_icmp .ge 88, 3) := by decide +kernel
theorem dX6_weigh_16 : decode cX6_weigh 16 = .ok (.iload_n 3, 1) := by decide +kernel
theorem dX6_weigh_17 : decode cX6_weigh 17 = .ok (.aload_n 1, 1) := by decide +kernel
theorem dX6_weigh_18 : decode cX6_weigh 18 = .ok (.getfield 35, 3) := by decide +kernel
theorem dX6_weigh_21 : decode cX6_weigh 21 = .ok (.invokevirtual 41, 3) := by decide +kernel
theorem dX6_weigh_24 : decode cX6_weigh 24 = .ok (.if_icmp .ge 77, 3) := by decide +kernel
theorem dX6_weigh_27 : decode cX6_weigh 27 = .ok (.aload_n 0, 1) := by decide +kernel
theorem dX6_weigh_28 : decode cX6_weigh 28 = .ok (.getfield 11, 3) := by decide +kernel
theorem dX6_weigh_31 : decode cX6_weigh 31 = .ok (.iload_n 3, 1) := by decide +kernel
theorem dX6_weigh_32 : decode cX6_weigh 32 = .ok (.aaload, 1) := by decide +kernel
theorem dX6_weigh_33 : decode cX6_weigh 33 = .ok (.astore 4, 2) := by decide +kernel
theorem dX6_weigh_35 : decode cX6_weigh 35 = .ok (.aload 4, 2) := by decide +kernel
theorem dX6_weigh_37 : decode cX6_weigh 37 = .ok (.aload_n 1, 1) := by decide +kernel
theorem dX6_weigh_38 : decode cX6_weigh 38 = .ok (.getfield 35, 3) := by decide +kernel
theorem dX6_weigh_41 : decode cX6_weigh 41 = .ok (.iload_n 3, 1) := by decide +kernel
theorem dX6_weigh_42 : decode cX6_weigh 42 = .ok (.iconst 0, 1) := by decide +kernel
theorem dX6_weigh_43 : decode cX6_weigh 43 = .ok (.invokevirtual 47, 3) := by decide +kernel
theorem dX6_weigh_46 : decode cX6_weigh 46 = .ok (.invokevirtual 31, 3) := by decide +kernel
theorem dX6_weigh_49 : decode cX6_weigh 49 = .ok (.iconst 0, 1) := by decide +kernel
theorem dX6_weigh_50 : decode cX6_weigh 50 = .ok (.istore 5, 2) := by decide +kernel
theorem dX6_weigh_52 : decode cX6_weigh 52 = .ok (.iload 5, 2) := by decide +kernel
theorem dX6_weigh_54 : decode cX6_weigh 54 = .ok (.aload_n 1, 1) := by decide +kernel
theorem dX6_weigh_55 : decode cX6_weigh 55 = .ok (.getfield 51, 3) := by decide +kernel
theorem dX6_weigh_58 : decode cX6_weigh 58 = .ok (.invokevirtual 41, 3) := by decide +kernel
theorem dX6_weigh_61 : decode cX6_weigh 61 = .ok (.if_icmp .ge 25, 3) := by decide +kernel
theorem dX6_weigh_64 : decode cX6_weigh 64 = .ok (.iload 5, 2) := by decide +kernel
theorem dX6_weigh_66 : decode cX6_weigh 66 = .ok (.iload_n 2, 1) := by decide +kernel
theorem dX6_weigh_67 : decode cX6_weigh 67 = .ok (.if_icmp .eq 13, 3) := by decide +kernel
theorem dX6_weigh_70 : decode cX6_weigh 70 = .ok (.aload_n 0, 1) := by decide +kernel
theorem dX6_weigh_71 : decode cX6_weigh 71 = .ok (.aload_n 1, 1) := by decide +kernel
theorem dX6_weigh_72 : decode cX6_weigh 72 = .ok (.iload_n 3, 1) := by decide +kernel
theorem dX6_weigh_73 : decode cX6_weigh 73 = .ok (.iload 5, 2) := by decide +kernel
theorem dX6_weigh_75 : decode cX6_weigh 75 = .ok (.aload 4, 2) := by decide +kernel
theorem dX6_weigh_77 : decode cX6_weigh 77 = .ok (.invokevirtual 54, 3) := by decide +kernel
theorem dX6_weigh_80 : decode cX6_weigh 80 = .ok (.iinc 5 1, 3) := by decide +kernel
theorem dX6_weigh_83 : decode cX6_weigh 83 = .ok (.goto (-31), 3) := by decide +kernel
theorem dX6_weigh_86 : decode cX6_weigh 86 = .ok (.aload_n 0, 1) := by decide +kernel
theorem dX6_weigh_87 : decode cX6_weigh 87 = .ok (.getfield 18, 3) := by decide +kernel
theorem dX6_weigh_90 : decode cX6_weigh 90 = .ok (.aload 4, 2) := by decide +kernel
theorem dX6_weigh_92 : decode cX6_weigh 92 = .ok (.invokevirtual 58, 3) := by decide +kernel
theorem dX6_weigh_95 : decode cX6_weigh 95 = .ok (.iinc 3 1, 3) := by decide +kernel
theorem dX6_weigh_98 : decode cX6_weigh 98 = .ok (.goto (-88), 3) := by decide +kernel
theorem dX6_weigh_101 : decode cX6_weigh 101 = .ok (.return_, 1) := by decide +kernel
theorem dX6_weighSweep_0 : decode cX6_weighSweep 0 = .ok (.aload_n 1, 1) := by decide +kernel
theorem dX6_weighSweep_1 : decode cX6_weighSweep 1 = .ok (.iload_n 2, 1) := by decide +kernel
theorem dX6_weighSweep_2 : decode cX6_weighSweep 2 = .ok (.aload_n 1, 1) := by decide +kernel
theorem dX6_weighSweep_3 : decode cX6_weighSweep 3 = .ok (.getfield 51, 3) := by decide +kernel
theorem dX6_weighSweep_6 : decode cX6_weighSweep 6 = .ok (.iload_n 3, 1) := by decide +kernel
theorem dX6_weighSweep_7 : decode cX6_weighSweep 7 = .ok (.iconst 1, 1) := by decide +kernel
theorem dX6_weighSweep_8 : decode cX6_weighSweep 8 = .ok (.invokevirtual 47, 3) := by decide +kernel
theorem dX6_weighSweep_11 : decode cX6_weighSweep 11 = .ok (.invokevirtual 62, 3) := by decide +kernel
theorem dX6_weighSweep_14 : decode cX6_weighSweep 14 = .ok (.istore 5, 2) := by decide +kernel
theorem dX6_weighSweep_16 : decode cX6_weighSweep 16 = .ok (.aload_n 0, 1) := by decide +kernel
theorem dX6_weighSweep_17 : decode cX6_weighSweep 17 = .ok (.getfield 22, 3) := by decide +kernel
theorem dX6_weighSweep_20 : decode cX6_weighSweep 20 = .ok (.aload 4, 2) := by decide +kernel
theorem dX6_weighSweep_22 : decode cX6_weighSweep 22 = .ok (.invokevirtual 65, 3) := by decide +kernel
theorem dX6_weighSweep_25 : decode cX6_weighSweep 25 = .ok (.aload_n 0, 1) := by decide +kernel
theorem dX6_weighSweep_26 : decode cX6_weighSweep 26 = .ok (.getfield 22, 3) := by decide +kernel
theorem dX6_weighSweep_29 : decode cX6_weighSweep 29 = .ok (.bipush 100, 2) := by decide +kernel
theorem dX6_weighSweep_31 : decode cX6_weighSweep 31 = .ok (.aload_n 1, 1) := by decide +kernel
theorem dX6_weighSweep_32 : decode cX6_weighSweep 32 = .ok (.getfield 51, 3) := by decide +kernel
theorem dX6_weighSweep_35 : decode cX6_weighSweep 35 = .ok (.iload_n 3, 1) := by decide +kernel
theorem dX6_weighSweep_36 : decode cX6_weighSweep 36 = .ok (.iconst 0, 1) := by decide +kernel
theorem dX6_weighSweep_37 : decode cX6_weighSweep 37 = .ok (.invokevirtual 47, 3) := by decide +kernel
theorem dX6_weighSweep_40 : decode cX6_weighSweep 40 = .ok (.isub, 1) := by decide +kernel
theorem dX6_weighSweep_41 : decode cX6_weighSweep 41 = .ok (.iload 5, 2) := by decide +kernel
theorem dX6_weighSweep_43 : decode cX6_weighSweep 43 = .ok (.invokevirtual 67, 3) := by decide +kernel
theorem dX6_weighSweep_46 : decode cX6_weighSweep 46 = .ok (.aload_n 0, 1) := by decide +kernel
theorem dX6_weighSweep_47 : decode cX6_weighSweep 47 = .ok (.getfield 22, 3) := by decide +kernel
theorem dX6_weighSweep_50 : decode cX6_weighSweep 50 = .ok (.bipush 100, 2) := by decide +kernel
theorem dX6_weighSweep_52 : decode cX6_weighSweep 52 = .ok (.bipush 20, 2) := by decide +kernel
theorem dX6_weighSweep_54 : decode cX6_weighSweep 54 = .ok (.iload 5, 2) := by decide +kernel
theorem dX6_weighSweep_56 : decode cX6_weighSweep 56 = .ok (.isub, 1) := by decide +kernel
theorem dX6_weighSweep_57 : decode cX6_weighSweep 57 = .ok (.invokevirtual 67, 3) := by decide +kernel
theorem dX6_weighSweep_60 : decode cX6_weighSweep 60 = .ok (.aload_n 0, 1) := by decide +kernel
theorem dX6_weighSweep_61 : decode cX6_weighSweep 61 = .ok (.getfield 22, 3) := by decide +kernel
theorem dX6_weighSweep_64 : decode cX6_weighSweep 64 = .ok (.bipush 100, 2) := by decide +kernel
theorem dX6_weighSweep_66 : decode cX6_weighSweep 66 = .ok (.aload_n 1, 1) := by decide +kernel
theorem dX6_weighSweep_67 : decode cX6_weighSweep 67 = .ok (.getfield 51, 3) := by decide +kernel
theorem dX6_weighSweep_70 : decode cX6_weighSweep 70 = .ok (.iload_n 3, 1) := by decide +kernel
theorem dX6_weighSweep_71 : decode cX6_weighSweep 71 = .ok (.iconst 2, 1) := by decide +kernel
theorem dX6_weighSweep_72 : decode cX6_weighSweep 72 = .ok (.invokevirtual 47, 3) := by decide +kernel
theorem dX6_weighSweep_75 : decode cX6_weighSweep 75 = .ok (.isub, 1) := by decide +kernel
theorem dX6_weighSweep_76 : decode cX6_weighSweep 76 = .ok (.i2l, 1) := by decide +kernel
theorem dX6_weighSweep_77 : decode cX6_weighSweep 77 = .ok (.invokevirtual 71, 3) := by decide +kernel
theorem dX6_weighSweep_80 : decode cX6_weighSweep 80 = .ok (.aload_n 1, 1) := by decide +kernel
theorem dX6_weighSweep_81 : decode cX6_weighSweep 81 = .ok (.getfield 51, 3) := by decide +kernel
theorem dX6_weighSweep_84 : decode cX6_weighSweep 84 = .ok (.iload_n 3, 1) := by decide +kernel
theorem dX6_weighSweep_85 : decode cX6_weighSweep 85 = .ok (.iconst 3, 1) := by decide +kernel
theorem dX6_weighSweep_86 : decode cX6_weighSweep 86 = .ok (.invokevirtual 47, 3) := by decide +kernel
theorem dX6_weighSweep_89 : decode cX6_weighSweep 89 = .ok (.ifCond .ne 15, 3) := by decide +kernel
theorem dX6_weighSweep_92 : decode cX6_weighSweep 92 = .ok (.aload 4, 2) := by decide +kernel
theorem dX6_weighSweep_94 : decode cX6_weighSweep 94 = .ok (.aload_n 0, 1) := by decide +kernel
theorem dX6_weighSweep_95 : decode cX6_weighSweep 95 = .ok (.getfield 22, 3) := by decide +kernel
