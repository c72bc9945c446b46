theorem dX6_weighSweep_98 : decode cX6_weighSweep 98 = .ok (.invokevirtual 65, 3) := by decide +kernel
theorem dX6_weighSweep_101 : decode cX6_weighSweep 101 = .ok (.goto 21, 3) := by decide +kernel
theorem dX6_weighSweep_104 : decode cX6_weighSweep 104 = .ok (.aload 4, 2) := by decide +kernel
theorem dX6_weighSweep_106 : decode cX6_weighSweep 106 = .ok (.bipush 100, 2) := by decide +kernel
theorem dX6_weighSweep_108 : decode cX6_weighSweep 108 = .ok (.bipush 21, 2) := by decide +kernel
theorem dX6_weighSweep_110 : decode cX6_weighSweep 110 = .ok (.invokevirtual 67, 3) := by decide +kernel
theorem dX6_weighSweep_113 : decode cX6_weighSweep 113 = .ok (.aload 4, 2) := by decide +kernel
theorem dX6_weighSweep_115 : decode cX6_weighSweep 115 = .ok (.aload_n 0, 1) := by decide +kernel
theorem dX6_weighSweep_116 : decode cX6_weighSweep 116 = .ok (.getfield 22, 3) := by decide +kernel
theorem dX6_weighSweep_119 : decode cX6_weighSweep 119 = .ok (.invokevirtual 75, 3) := by decide +kernel
theorem dX6_weighSweep_122 : decode cX6_weighSweep 122 = .ok (.return_, 1) := by decide +kernel
theorem dX6_oddsOf_0 : decode cX6_oddsOf 0 = .ok (.iload_n 1, 1) := by decide +kernel
theorem dX6_oddsOf_1 : decode cX6_oddsOf 1 = .ok (.ifCond .lt 19, 3) := by decide +kernel
theorem dX6_oddsOf_4 : decode cX6_oddsOf 4 = .ok (.iload_n 1, 1) := by decide +kernel
theorem dX6_oddsOf_5 : decode cX6_oddsOf 5 = .ok (.bipush 6, 2) := by decide +kernel
theorem dX6_oddsOf_7 : decode cX6_oddsOf 7 = .ok (.if_icmp .ge 13, 3) := by decide +kernel
theorem dX6_oddsOf_10 : decode cX6_oddsOf 10 = .ok (.aload_n 0, 1) := by decide +kernel
theorem dX6_oddsOf_11 : decode cX6_oddsOf 11 = .ok (.getfield 18, 3) := by decide +kernel
theorem dX6_oddsOf_14 : decode cX6_oddsOf 14 = .ok (.invokevirtual 78, 3) := by decide +kernel
theorem dX6_oddsOf_17 : decode cX6_oddsOf 17 = .ok (.ifCond .eq 5, 3) := by decide +kernel
theorem dX6_oddsOf_20 : decode cX6_oddsOf 20 = .ok (.iconst 0, 1) := by decide +kernel
theorem dX6_oddsOf_21 : decode cX6_oddsOf 21 = .ok (.ireturn, 1) := by decide +kernel
theorem dX6_oddsOf_22 : decode cX6_oddsOf 22 = .ok (.aload_n 0, 1) := by decide +kernel
theorem dX6_oddsOf_23 : decode cX6_oddsOf 23 = .ok (.getfield 25, 3) := by decide +kernel
theorem dX6_oddsOf_26 : decode cX6_oddsOf 26 = .ok (.aload_n 0, 1) := by decide +kernel
theorem dX6_oddsOf_27 : decode cX6_oddsOf 27 = .ok (.getfield 11, 3) := by decide +kernel
theorem dX6_oddsOf_30 : decode cX6_oddsOf 30 = .ok (.iload_n 1, 1) := by decide +kernel
theorem dX6_oddsOf_31 : decode cX6_oddsOf 31 = .ok (.aaload, 1) := by decide +kernel
theorem dX6_oddsOf_32 : decode cX6_oddsOf 32 = .ok (.invokevirtual 65, 3) := by decide +kernel
theorem dX6_oddsOf_35 : decode cX6_oddsOf 35 = .ok (.aload_n 0, 1) := by decide +kernel
theorem dX6_oddsOf_36 : decode cX6_oddsOf 36 = .ok (.getfield 25, 3) := by decide +kernel
theorem dX6_oddsOf_39 : decode cX6_oddsOf 39 = .ok (.ldc2_w 82, 3) := by decide +kernel
theorem dX6_oddsOf_42 : decode cX6_oddsOf 42 = .ok (.invokevirtual 71, 3) := by decide +kernel
theorem dX6_oddsOf_45 : decode cX6_oddsOf 45 = .ok (.iconst 0, 1) := by decide +kernel
theorem dX6_oddsOf_46 : decode cX6_oddsOf 46 = .ok (.istore_n 2, 1) := by decide +kernel
theorem dX6_oddsOf_47 : decode cX6_oddsOf 47 = .ok (.ldc 84, 2) := by decide +kernel
theorem dX6_oddsOf_49 : decode cX6_oddsOf 49 = .ok (.istore_n 3, 1) := by decide +kernel
theorem dX6_oddsOf_50 : decode cX6_oddsOf 50 = .ok (.iconst 0, 1) := by decide +kernel
theorem dX6_oddsOf_51 : decode cX6_oddsOf 51 = .ok (.istore 4, 2) := by decide +kernel
theorem dX6_oddsOf_53 : decode cX6_oddsOf 53 = .ok (.iload 4, 2) := by decide +kernel
theorem dX6_oddsOf_55 : decode cX6_oddsOf 55 = .ok (.bipush 32, 2) := by decide +kernel
theorem dX6_oddsOf_57 : decode cX6_oddsOf 57 = .ok (.if_icmp .ge 69, 3) := by decide +kernel
theorem dX6_oddsOf_60 : decode cX6_oddsOf 60 = .ok (.iload_n 2, 1) := by decide +kernel
theorem dX6_oddsOf_61 : decode cX6_oddsOf 61 = .ok (.iload_n 3, 1) := by decide +kernel
theorem dX6_oddsOf_62 : decode cX6_oddsOf 62 = .ok (.if_icmp .ge 64, 3) := by decide +kernel
theorem dX6_oddsOf_65 : decode cX6_oddsOf 65 = .ok (.iload_n 2, 1) := by decide +kernel
theorem dX6_oddsOf_66 : decode cX6_oddsOf 66 = .ok (.iload_n 3, 1) := by decide +kernel
theorem dX6_oddsOf_67 : decode cX6_oddsOf 67 = .ok (.iadd, 1) := by decide +kernel
theorem dX6_oddsOf_68 : decode cX6_oddsOf 68 = .ok (.iconst 1, 1) := by decide +kernel
theorem dX6_oddsOf_69 : decode cX6_oddsOf 69 = .ok (.iadd, 1) := by decide +kernel
theorem dX6_oddsOf_70 : decode cX6_oddsOf 70 = .ok (.iconst 2, 1) := by decide +kernel
theorem dX6_oddsOf_71 : decode cX6_oddsOf 71 = .ok (.idiv, 1) := by decide +kernel
theorem dX6_oddsOf_72 : decode cX6_oddsOf 72 = .ok (.istore 5, 2) := by decide +kernel
theorem dX6_oddsOf_74 : decode cX6_oddsOf 74 = .ok (.aload_n 0, 1) := by decide +kernel
theorem dX6_oddsOf_75 : decode cX6_oddsOf 75 = .ok (.getfield 28, 3) := by decide +kernel
theorem dX6_oddsOf_78 : decode cX6_oddsOf 78 = .ok (.aload_n 0, 1) := by decide +kernel
theorem dX6_oddsOf_79 : decode cX6_oddsOf 79 = .ok (.getfield 18, 3) := by decide +kernel
theorem dX6_oddsOf_82 : decode cX6_oddsOf 82 = .ok (.invokevirtual 65, 3) := by decide +kernel
theorem dX6_oddsOf_85 : decode cX6_oddsOf 85 = .ok (.aload_n 0, 1) := by decide +kernel
theorem dX6_oddsOf_86 : decode cX6_oddsOf 86 = .ok (.getfield 28, 3) := by decide +kernel
theorem dX6_oddsOf_89 : decode cX6_oddsOf 89 = .ok (.iload 5, 2) := by decide +kernel
theorem dX6_oddsOf_91 : decode cX6_oddsOf 91 = .ok (.i2l, 1) := by decide +kernel
theorem dX6_oddsOf_92 : decode cX6_oddsOf 92 = .ok (.invokevirtual 71, 3) := by decide +kernel
theorem dX6_oddsOf_95 : decode cX6_oddsOf 95 = .ok (.aload_n 0, 1) := by decide +kernel
theorem dX6_oddsOf_96 : decode cX6_oddsOf 96 = .ok (.getfield 28, 3) := by decide +kernel
theorem dX6_oddsOf_99 : decode cX6_oddsOf 99 = .ok (.aload_n 0, 1) := by decide +kernel
theorem dX6_oddsOf_100 : decode cX6_oddsOf 100 = .ok (.getfield 25, 3) := by decide +kernel
theorem dX6_oddsOf_103 : decode cX6_oddsOf 103 = .ok (.invokevirtual 85, 3) := by decide +kernel
theorem dX6_oddsOf_106 : decode cX6_oddsOf 106 = .ok (.ifCond .eq 11, 3) := by decide +kernel
theorem dX6_oddsOf_109 : decode cX6_oddsOf 109 = .ok (.iload 5, 2) := by decide +kernel
theorem dX6_oddsOf_111 : decode cX6_oddsOf 111 = .ok (.iconst 1, 1) := by decide +kernel
theorem dX6_oddsOf_112 : decode cX6_oddsOf 112 = .ok (.isub, 1) := by decide +kernel
theorem dX6_oddsOf_113 : decode cX6_oddsOf 113 = .ok (.istore_n 3, 1) := by decide +kernel
theorem dX6_oddsOf_114 : decode cX6_oddsOf 114 = .ok (.goto 6, 3) := by decide +kernel
theorem dX6_oddsOf_117 : decode cX6_oddsOf 117 = .ok (.iload 5, 2) := by decide +kernel
theorem dX6_oddsOf_119 : decode cX6_oddsOf 119 = .ok (.istore_n 2, 1) := by decide +kernel
theorem dX6_oddsOf_120 : decode cX6_oddsOf 120 = .ok (.iinc 4 1, 3) := by decide +kernel
theorem dX6_oddsOf_123 : decode cX6_oddsOf 123 = .ok (.goto (-70), 3) := by decide +kernel
theorem dX6_oddsOf_126 : decode cX6_oddsOf 126 = .ok (.iload_n 2, 1) := by decide +kernel
theorem dX6_oddsOf_127 : decode cX6_oddsOf 127 = .ok (.ireturn, 1) := by decide +kernel
theorem dX7_init_0 : decode cX7_init 0 = .ok (.aload_n 0, 1) := by decide +kernel
theorem dX7_init_1 : decode cX7_init 1 = .ok (.invokespecial 3, 3) := by decide +kernel
theorem dX7_init_4 : decode cX7_init 4 = .ok (.aload_n 0, 1) := by decide +kernel
theorem dX7_init_5 : decode cX7_init 5 = .ok (.iconst 0, 1) := by decide +kernel
theorem dX7_init_6 : decode cX7_init 6 = .ok (.putfield 9, 3) := by decide +kernel
theorem dX7_init_9 : decode cX7_init 9 = .ok (.aload_n 0, 1) := by decide +kernel
theorem dX7_init_10 : decode cX7_init 10 = .ok (.iload_n 1, 1) := by decide +kernel
theorem dX7_init_11 : decode cX7_init 11 = .ok (.iconst 1, 1) := by decide +kernel
theorem dX7_init_12 : decode cX7_init 12 = .ok (.invokestatic 15, 3) := by decide +kernel
theorem dX7_init_15 : decode cX7_init 15 = .ok (.putfield 21, 3) := by decide +kernel
theorem dX7_init_18 : decode cX7_init 18 = .ok (.aload_n 0, 1) := by decide +kernel
theorem dX7_init_19 : decode cX7_init 19 = .ok (.iload_n 2, 1) := by decide +kernel
theorem dX7_init_20 : decode cX7_init 20 = .ok (.iconst 1, 1) := by decide +kernel
theorem dX7_init_21 : decode cX7_init 21 = .ok (.invokestatic 15, 3) := by decide +kernel
theorem dX7_init_24 : decode cX7_init 24 = .ok (.putfield 24, 3) := by decide +kernel
theorem dX7_init_27 : decode cX7_init 27 = .ok (.aload_n 0, 1) := by decide +kernel
theorem dX7_init_28 : decode cX7_init 28 = .ok (.aload_n 0, 1) := by decide +kernel
theorem dX7_init_29 : decode cX7_init 29 = .ok (.getfield 21, 3) := by decide +kernel
theorem dX7_init_32 : decode cX7_init 32 = .ok (.aload_n 0, 1) := by decide +kernel
theorem dX7_init_33 : decode cX7_init 33 = .ok (.getfield 24, 3) := by decide +kernel
theorem dX7_init_36 : decode cX7_init 36 = .ok (.imul, 1) := by decide +kernel
theorem dX7_init_37 : decode cX7_init 37 = .ok (.newarray .int, 2) := by decide +kernel
theorem dX7_init_39 : decode cX7_init 39 = .ok (.putfield 27, 3) := by decide +kernel
theorem dX7_init_42 : decode cX7_init 42 = .ok (.return_, 1) := by decide +kernel
theorem dX7_size_0 : decode cX7_size 0 = .ok (.aload_n 0, 1) := by decide +kernel
theorem dX7_size_1 : decode cX7_size 1 = .ok (.getfield 9, 3) := by decide +kernel
theorem dX7_size_4 : decode cX7_size 4 = .ok (.ireturn, 1) := by decide +kernel
theorem dX7_isFull_0 : decode cX7_isFull 0 = .ok (.aload_n 0, 1) := by decide +kernel
theorem dX7_isFull_1 : decode cX7_isFull 1 = .ok (.getfield 9, 3) := by decide +kernel
theorem dX7_isFull_4 : decode cX7_isFull 4 = .ok (.aload_n 0, 1) := by decide +kernel
theorem dX7_isFull_5 : decode cX7_isFull 5 = .ok (.getfield 21, 3) := by decide +kernel
theorem dX7_isFull_8 : decode cX7_isFull 8 = .ok (.if_icmp .lt 7, 3) := by decide +kernel
theorem dX7_isFull_11 : decode cX7_isFull 11 = .ok (.iconst 1, 1) := by decide +kernel
theorem dX7_isFull_12 : decode cX7_isFull 12 = .ok (.goto 4, 3) := by decide +kernel
theorem dX7_isFull_15 : decode cX7_isFull 15 = .ok (.iconst 0, 1) := by decide +kernel
theorem dX7_isFull_16 : decode cX7_isFull 16 = .ok (.ireturn, 1) := by decide +kernel
theorem dX7_holds_0 : decode cX7_holds 0 = .ok (.iload_n 1, 1) := by decide +kernel
theorem dX7_holds_1 : decode cX7_holds 1 = .ok (.ifCond .lt 15, 3) := by decide +kernel
theorem dX7_holds_4 : decode cX7_holds 4 = .ok (.iload_n 1, 1) := by decide +kernel
theorem dX7_holds_5 : decode cX7_holds 5 = .ok (.aload_n 0, 1) := by decide +kernel
theorem dX7_holds_6 : decode cX7_holds 6 = .ok (.getfield 9, 3) := by decide +kernel
theorem dX7_holds_9 : decode cX7_holds 9 = .ok (.if_icmp .ge 7, 3) := by decide +kernel
theorem dX7_holds_12 : decode cX7_holds 12 = .ok (.iconst 1, 1) := by decide +kernel
theorem dX7_holds_13 : decode cX7_holds 13 = .ok (.goto 4, 3) := by decide +kernel
theorem dX7_holds_16 : decode cX7_holds 16 = .ok (.iconst 0, 1) := by decide +kernel
theorem dX7_holds_17 : decode cX7_holds 17 = .ok (.ireturn, 1) := by decide +kernel
theorem dX7_get_0 : decode cX7_get 0 = .ok (.aload_n 0, 1) := by decide +kernel
theorem dX7_get_1 : decode cX7_get 1 = .ok (.iload_n 1, 1) := by decide +kernel
theorem dX7_get_2 : decode cX7_get 2 = .ok (.iload_n 2, 1) := by decide +kernel
theorem dX7_get_3 : decode cX7_get 3 = .ok (.invokevirtual 31, 3) := by decide +kernel
theorem dX7_get_6 : decode cX7_get 6 = .ok (.ifCond .eq 19, 3) := by decide +kernel
theorem dX7_get_9 : decode cX7_get 9 = .ok (.aload_n 0, 1) := by decide +kernel
theorem dX7_get_10 : decode cX7_get 10 = .ok (.getfield 27, 3) := by decide +kernel
theorem dX7_get_13 : decode cX7_get 13 = .ok (.iload_n 1, 1) := by decide +kernel
theorem dX7_get_14 : decode cX7_get 14 = .ok (.aload_n 0, 1) := by decide +kernel
theorem dX7_get_15 : decode cX7_get 15 = .ok (.getfield 24, 3) := by decide +kernel
theorem dX7_get_18 : decode cX7_get 18 = .ok (.imul, 1) := by decide +kernel
theorem dX7_get_19 : decode cX7_get 19 = .ok (.iload_n 2, 1) := by decide +kernel
theorem dX7_get_20 : decode cX7_get 20 = .ok (.iadd, 1) := by decide +kernel
theorem dX7_get_21 : decode cX7_get 21 = .ok (.iaload, 1) := by decide +kernel
theorem dX7_get_22 : decode cX7_get 22 = .ok (.goto 4, 3) := by decide +kernel
theorem dX7_get_25 : decode cX7_get 25 = .ok (.iconst 0, 1) := by decide +kernel
theorem dX7_get_26 : decode cX7_get 26 = .ok (.ireturn, 1) := by decide +kernel
theorem dX7_set_0 : decode cX7_set 0 = .ok (.aload_n 0, 1) := by decide +kernel
theorem dX7_set_1 : decode cX7_set 1 = .ok (.iload_n 1, 1) := by decide +kernel
theorem dX7_set_2 : decode cX7_set 2 = .ok (.iload_n 2, 1) := by decide +kernel
theorem dX7_set_3 : decode cX7_set 3 = .ok (.invokevirtual 31, 3) := by decide +kernel
theorem dX7_set_6 : decode cX7_set 6 = .ok (.ifCond .eq 17, 3) := by decide +kernel
theorem dX7_set_9 : decode cX7_set 9 = .ok (.aload_n 0, 1) := by decide +kernel
theorem dX7_set_10 : decode cX7_set 10 = .ok (.getfield 27, 3) := by decide +kernel
theorem dX7_set_13 : decode cX7_set 13 = .ok (.iload_n 1, 1) := by decide +kernel
theorem dX7_set_14 : decode cX7_set 14 = .ok (.aload_n 0, 1) := by decide +kernel
theorem dX7_set_15 : decode cX7_set 15 = .ok (.getfield 24, 3) := by decide +kernel
theorem dX7_set_18 : decode cX7_set 18 = .ok (.imul, 1) := by decide +kernel
theorem dX7_set_19 : decode cX7_set 19 = .ok (.iload_n 2, 1) := by decide +kernel
theorem dX7_set_20 : decode cX7_set 20 = .ok (.iadd, 1) := by decide +kernel
theorem dX7_set_21 : decode cX7_set 21 = .ok (.iload_n 3, 1) := by decide +kernel
theorem dX7_set_22 : decode cX7_set 22 = .ok (.iastore, 1) := by decide +kernel
theorem dX7_set_23 : decode cX7_set 23 = .ok (.return_, 1) := by decide +kernel
theorem dX7_exchange_0 : decode cX7_exchange 0 = .ok (.aload_n 0, 1) := by decide +kernel
theorem dX7_exchange_1 : decode cX7_exchange 1 = .ok (.iload_n 1, 1) := by decide +kernel
theorem dX7_exchange_2 : decode cX7_exchange 2 = .ok (.iload_n 2, 1) := by decide +kernel
theorem dX7_exchange_3 : decode cX7_exchange 3 = .ok (.invokevirtual 35, 3) := by decide +kernel
theorem dX7_exchange_6 : decode cX7_exchange 6 = .ok (.istore 4, 2) := by decide +kernel
theorem dX7_exchange_8 : decode cX7_exchange 8 = .ok (.aload_n 0, 1) := by decide +kernel
theorem dX7_exchange_9 : decode cX7_exchange 9 = .ok (.iload_n 1, 1) := by decide +kernel
theorem dX7_exchange_10 : decode cX7_exchange 10 = .ok (.iload_n 2, 1) := by decide +kernel
theorem dX7_exchange_11 : decode cX7_exchange 11 = .ok (.iload_n 3, 1) := by decide +kernel
theorem dX7_exchange_12 : decode cX7_exchange 12 = .ok (.invokevirtual 38, 3) := by decide +kernel
theorem dX7_exchange_15 : decode cX7_exchange 15 = .ok (.iload 4, 2) := by decide +kernel
theorem dX7_exchange_17 : decode cX7_exchange 17 = .ok (.ireturn, 1) := by decide +kernel
theorem dX7_add_0 : decode cX7_add 0 = .ok (.aload_n 0, 1) := by decide +kernel
theorem dX7_add_1 : decode cX7_add 1 = .ok (.invokevirtual 42, 3) := by decide +kernel
theorem dX7_add_4 : decode cX7_add 4 = .ok (.ifCond .eq 5, 3) := by decide +kernel
theorem dX7_add_7 : decode cX7_add 7 = .ok (.iconst (-1), 1) := by decide +kernel
theorem dX7_add_8 : decode cX7_add 8 = .ok (.ireturn, 1) := by decide +kernel
theorem dX7_add_9 : decode cX7_add 9 = .ok (.aload_n 0, 1) := by decide +kernel
theorem dX7_add_10 : decode cX7_add 10 = .ok (.getfield 9, 3) := by decide +kernel
theorem dX7_add_13 : decode cX7_add 13 = .ok (.istore 5, 2) := by decide +kernel
theorem dX7_add_15 : decode cX7_add 15 = .ok (.aload_n 0, 1) := by decide +kernel
theorem dX7_add_16 : decode cX7_add 16 = .ok (.dup, 1) := by decide +kernel
theorem dX7_add_17 : decode cX7_add 17 = .ok (.getfield 9, 3) := by decide +kernel
theorem dX7_add_20 : decode cX7_add 20 = .ok (.iconst 1, 1) := by decide +kernel
theorem dX7_add_21 : decode cX7_add 21 = .ok (.iadd, 1) := by decide +kernel
theorem dX7_add_22 : decode cX7_add 22 = .ok (.putfield 9, 3) := by decide +kernel
theorem dX7_add_25 : decode cX7_add 25 = .ok (.aload_n 0, 1) := by decide +kernel
theorem dX7_add_26 : decode cX7_add 26 = .ok (.iload 5, 2) := by decide +kernel
theorem dX7_add_28 : decode cX7_add 28 = .ok (.iconst 0, 1) := by decide +kernel
theorem dX7_add_29 : decode cX7_add 29 = .ok (.iload_n 1, 1) := by decide +kernel
theorem dX7_add_30 : decode cX7_add 30 = .ok (.invokevirtual 38, 3) := by decide +kernel
theorem dX7_add_33 : decode cX7_add 33 = .ok (.aload_n 0, 1) := by decide +kernel
theorem dX7_add_34 : decode cX7_add 34 = .ok (.iload 5, 2) := by decide +kernel
theorem dX7_add_36 : decode cX7_add 36 = .ok (.iconst 1, 1) := by decide +kernel
theorem dX7_add_37 : decode cX7_add 37 = .ok (.iload_n 2, 1) := by decide +kernel
theorem dX7_add_38 : decode cX7_add 38 = .ok (.invokevirtual 38, 3) := by decide +kernel
theorem dX7_add_41 : decode cX7_add 41 = .ok (.aload_n 0, 1) := by decide +kernel
theorem dX7_add_42 : decode cX7_add 42 = .ok (.iload 5, 2) := by decide +kernel
theorem dX7_add_44 : decode cX7_add 44 = .ok (.iconst 2, 1) := by decide +kernel
theorem dX7_add_45 : decode cX7_add 45 = .ok (.iload_n 3, 1) := by decide +kernel
theorem dX7_add_46 : decode cX7_add 46 = .ok (.invokevirtual 38, 3) := by decide +kernel
theorem dX7_add_49 : decode cX7_add 49 = .ok (.aload_n 0, 1) := by decide +kernel
theorem dX7_add_50 : decode cX7_add 50 = .ok (.iload 5, 2) := by decide +kernel
theorem dX7_add_52 : decode cX7_add 52 = .ok (.iconst 3, 1) := by decide +kernel
theorem dX7_add_53 : decode cX7_add 53 = .ok (.iload 4, 2) := by decide +kernel
theorem dX7_add_55 : decode cX7_add 55 = .ok (.invokevirtual 38, 3) := by decide +kernel
theorem dX7_add_58 : decode cX7_add 58 = .ok (.iload 5, 2) := by decide +kernel
theorem dX7_add_60 : decode cX7_add 60 = .ok (.ireturn, 1) := by decide +kernel
theorem dX7_fill_0 : decode cX7_fill 0 = .ok (.aload_n 0, 1) := by decide +kernel
theorem dX7_fill_1 : decode cX7_fill 1 = .ok (.iconst 0, 1) := by decide +kernel
theorem dX7_fill_2 : decode cX7_fill 2 = .ok (.iload_n 1, 1) := by decide +kernel
theorem dX7_fill_3 : decode cX7_fill 3 = .ok (.aload_n 0, 1) := by decide +kernel
theorem dX7_fill_4 : decode cX7_fill 4 = .ok (.getfield 21, 3) := by decide +kernel
theorem dX7_fill_7 : decode cX7_fill 7 = .ok (.invokestatic 46, 3) := by decide +kernel
theorem dX7_fill_10 : decode cX7_fill 10 = .ok (.invokestatic 15, 3) := by decide +kernel
theorem dX7_fill_13 : decode cX7_fill 13 = .ok (.putfield 9, 3) := by decide +kernel
theorem dX7_fill_16 : decode cX7_fill 16 = .ok (.aload_n 0, 1) := by decide +kernel
theorem dX7_fill_17 : decode cX7_fill 17 = .ok (.getfield 27, 3) := by decide +kernel
theorem dX7_fill_20 : decode cX7_fill 20 = .ok (.iload_n 2, 1) := by decide +kernel
theorem dX7_fill_21 : decode cX7_fill 21 = .ok (.invokestatic 49, 3) := by decide +kernel
theorem dX7_fill_24 : decode cX7_fill 24 = .ok (.return_, 1) := by decide +kernel
theorem dX7_copyFrom_0 : decode cX7_copyFrom 0 = .ok (.aload_n 1, 1) := by decide +kernel
theorem dX7_copyFrom_1 : decode cX7_copyFrom 1 = .ok (.getfield 27, 3) := by decide +kernel
theorem dX7_copyFrom_4 : decode cX7_copyFrom 4 = .ok (.iconst 0, 1) := by decide +kernel
theorem dX7_copyFrom_5 : decode cX7_copyFrom 5 = .ok (.aload_n 0, 1) := by decide +kernel
theorem dX7_copyFrom_6 : decode cX7_copyFrom 6 = .ok (.getfield 27, 3) := by decide +kernel
theorem dX7_copyFrom_9 : decode cX7_copyFrom 9 = .ok (.iconst 0, 1) := by decide +kernel
theorem dX7_copyFrom_10 : decode cX7_copyFrom 10 = .ok (.aload_n 0, 1) := by decide +kernel
theorem dX7_copyFrom_11 : decode cX7_copyFrom 11 = .ok (.getfield 27, 3) := by decide +kernel
theorem dX7_copyFrom_14 : decode cX7_copyFrom 14 = .ok (.arraylength, 1) := by decide +kernel
theorem dX7_copyFrom_15 : decode cX7_copyFrom 15 = .ok (.aload_n 1, 1) := by decide +kernel
theorem dX7_copyFrom_16 : decode cX7_copyFrom 16 = .ok (.getfield 27, 3) := by decide +kernel
theorem dX7_copyFrom_19 : decode cX7_copyFrom 19 = .ok (.arraylength, 1) := by decide +kernel
theorem dX7_copyFrom_20 : decode cX7_copyFrom 20 = .ok (.invokestatic 46, 3) := by decide +kernel
theorem dX7_copyFrom_23 : decode cX7_copyFrom 23 = .ok (.invokestatic 55, 3) := by decide +kernel
theorem dX7_copyFrom_26 : decode cX7_copyFrom 26 = .ok (.aload_n 0, 1) := by decide +kernel
theorem dX7_copyFrom_27 : decode cX7_copyFrom 27 = .ok (.aload_n 1, 1) := by decide +kernel
theorem dX7_copyFrom_28 : decode cX7_copyFrom 28 = .ok (.getfield 9, 3) := by decide +kernel
theorem dX7_copyFrom_31 : decode cX7_copyFrom 31 = .ok (.aload_n 0, 1) := by decide +kernel
theorem dX7_copyFrom_32 : decode cX7_copyFrom 32 = .ok (.getfield 21, 3) := by decide +kernel
theorem dX7_copyFrom_35 : decode cX7_copyFrom 35 = .ok (.invokestatic 46, 3) := by decide +kernel
theorem dX7_copyFrom_38 : decode cX7_copyFrom 38 = .ok (.putfield 9, 3) := by decide +kernel
theorem dX7_copyFrom_41 : decode cX7_copyFrom 41 = .ok (.return_, 1) := by decide +kernel
theorem dX7_isCell_0 : decode cX7_isCell 0 = .ok (.iload_n 1, 1) := by decide +kernel
theorem dX7_isCell_1 : decode cX7_isCell 1 = .ok (.ifCond .lt 27, 3) := by decide +kernel
theorem dX7_isCell_4 : decode cX7_isCell 4 = .ok (.iload_n 1, 1) := by decide +kernel
theorem dX7_isCell_5 : decode cX7_isCell 5 = .ok (.aload_n 0, 1) := by decide +kernel
theorem dX7_isCell_6 : decode cX7_isCell 6 = .ok (.getfield 9, 3) := by decide +kernel
theorem dX7_isCell_9 : decode cX7_isCell 9 = .ok (.if_icmp .ge 19, 3) := by decide +kernel
theorem dX7_isCell_12 : decode cX7_isCell 12 = .ok (.iload_n 2, 1) := by decide +kernel
theorem dX7_isCell_13 : decode cX7_isCell 13 = .ok (.ifCond .lt 15, 3) := by decide +kernel
theorem dX7_isCell_16 : decode cX7_isCell 16 = .ok (.iload_n 2, 1) := by decide +kernel
theorem dX7_isCell_17 : decode cX7_isCell 17 = .ok (.aload_n 0, 1) := by decide +kernel
theorem dX7_isCell_18 : decode cX7_isCell 18 = .ok (.getfield 24, 3) := by decide +kernel
theorem dX7_isCell_21 : decode cX7_isCell 21 = .ok (.if_icmp .ge 7, 3) := by decide +kernel
theorem dX7_isCell_24 : decode cX7_isCell 24 = .ok (.iconst 1, 1) := by decide +kernel
theorem dX7_isCell_25 : decode cX7_isCell 25 = .ok (.goto 4, 3) := by decide +kernel
theorem dX7_isCell_28 : decode cX7_isCell 28 = .ok (.iconst 0, 1) := by decide +kernel
theorem dX7_isCell_29 : decode cX7_isCell 29 = .ok (.ireturn, 1) := by decide +kernel
theorem dX8_init_0 : decode cX8_init 0 = .ok (.aload_n 0, 1) := by decide +kernel
theorem dX8_init_1 : decode cX8_init 1 = .ok (.invokespecial 3, 3) := by decide +kernel
theorem dX8_init_4 : decode cX8_init 4 = .ok (.aload_n 0, 1) := by decide +kernel
theorem dX8_init_5 : decode cX8_init 5 = .ok (.sipush 400, 3) := by decide +kernel
theorem dX8_init_8 : decode cX8_init 8 = .ok (.newarray .int, 2) := by decide +kernel
theorem dX8_init_10 : decode cX8_init 10 = .ok (.putfield 9, 3) := by decide +kernel
theorem dX8_init_13 : decode cX8_init 13 = .ok (.aload_n 0, 1) := by decide +kernel
theorem dX8_init_14 : decode cX8_init 14 = .ok (.iconst 0, 1) := by decide +kernel
theorem dX8_init_15 : decode cX8_init 15 = .ok (.putfield 15, 3) := by decide +kernel
theorem dX8_init_18 : decode cX8_init 18 = .ok (.return_, 1) := by decide +kernel
theorem dX8_size_0 : decode cX8_size 0 = .ok (.aload_n 0, 1) := by decide +kernel
theorem dX8_size_1 : decode cX8_size 1 = .ok (.getfield 15, 3) := by decide +kernel
theorem dX8_size_4 : decode cX8_size 4 = .ok (.ireturn, 1) := by decide +kernel
theorem dX8_at_0 : decode cX8_at 0 = .ok (.iload_n 1, 1) := by decide +kernel
theorem dX8_at_1 : decode cX8_at 1 = .ok (.ifCond .lt 29, 3) := by decide +kernel
theorem dX8_at_4 : decode cX8_at 4 = .ok (.iload_n 1, 1) := by decide +kernel
theorem dX8_at_5 : decode cX8_at 5 = .ok (.aload_n 0, 1) := by decide +kernel
theorem dX8_at_6 : decode cX8_at 6 = .ok (.getfield 15, 3) := by decide +kernel
theorem dX8_at_9 : decode cX8_at 9 = .ok (.if_icmp .ge 21, 3) := by decide +kernel
theorem dX8_at_12 : decode cX8_at 12 = .ok (.iload_n 1, 1) := by decide +kernel
theorem dX8_at_13 : decode cX8_at 13 = .ok (.aload_n 0, 1) := by decide +kernel
theorem dX8_at_14 : decode cX8_at 14 = .ok (.getfield 9, 3) := by decide +kernel
theorem dX8_at_17 : decode cX8_at 17 = .ok (.arraylength, 1) := by decide +kernel
theorem dX8_at_18 : decode cX8_at 18 = .ok (.if_icmp .ge 12, 3) := by decide +kernel
theorem dX8_at_21 : decode cX8_at 21 = .ok (.aload_n 0, 1) := by decide +kernel
theorem dX8_at_22 : decode cX8_at 22 = .ok (.getfield 9, 3) := by decide +kernel
theorem dX8_at_25 : decode cX8_at 25 = .ok (.iload_n 1, 1) := by decide +kernel
theorem dX8_at_26 : decode cX8_at 26 = .ok (.iaload, 1) := by decide +kernel
theorem dX8_at_27 : decode cX8_at 27 = .ok (.goto 4, 3) := by decide +kernel
theorem dX8_at_30 : decode cX8_at 30 = .ok (.iconst (-1), 1) := by decide +kernel
theorem dX8_at_31 : decode cX8_at 31 = .ok (.ireturn, 1) := by decide +kernel
theorem dX8_hasRoomForFiveNumbers_0 : decode cX8_hasRoomForFiveNumbers 0 = .ok (.aload_n 0, 1) := by decide +kernel
theorem dX8_hasRoomForFiveNumbers_1 : decode cX8_hasRoomForFiveNumbers 1 = .ok (.getfield 15, 3) := by decide +kernel
theorem dX8_hasRoomForFiveNumbers_4 : decode cX8_hasRoomForFiveNumbers 4 = .ok (.bipush 20, 2) := by decide +kernel
theorem dX8_hasRoomForFiveNumbers_6 : decode cX8_hasRoomForFiveNumbers 6 = .ok (.iadd, 1) := by decide +kernel
theorem dX8_hasRoomForFiveNumbers_7 : decode cX8_hasRoomForFiveNumbers 7 = .ok (.sipush 400, 3) := by decide +kernel
theorem dX8_hasRoomForFiveNumbers_10 : decode cX8_hasRoomForFiveNumbers 10 = .ok (.if_icmp .gt 7, 3) := by decide +kernel
theorem dX8_hasRoomForFiveNumbers_13 : decode cX8_hasRoomForFiveNumbers 13 = .ok (.iconst 1, 1) := by decide +kernel
theorem dX8_hasRoomForFiveNumbers_14 : decode cX8_hasRoomForFiveNumbers 14 = .ok (.goto 4, 3) := by decide +kernel
theorem dX8_hasRoomForFiveNumbers_17 : decode cX8_hasRoomForFiveNumbers 17 = .ok (.iconst 0, 1) := by decide +kernel
theorem dX8_hasRoomForFiveNumbers_18 : decode cX8_hasRoomForFiveNumbers 18 = .ok (.ireturn, 1) := by decide +kernel
theorem dX8_addNumber_0 : decode cX8_addNumber 0 = .ok (.bipush 24, 2) := by decide +kernel
theorem dX8_addNumber_2 : decode cX8_addNumber 2 = .ok (.istore_n 2, 1) := by decide +kernel
theorem dX8_addNumber_3 : decode cX8_addNumber 3 = .ok (.iload_n 2, 1) := by decide +kernel
theorem dX8_addNumber_4 : decode cX8_addNumber 4 = .ok (.ifCond .lt 47, 3) := by decide +kernel
theorem dX8_addNumber_7 : decode cX8_addNumber 7 = .ok (.aload_n 0, 1) := by decide +kernel
theorem dX8_addNumber_8 : decode cX8_addNumber 8 = .ok (.getfield 15, 3) := by decide +kernel
theorem dX8_addNumber_11 : decode cX8_addNumber 11 = .ok (.aload_n 0, 1) := by decide +kernel
theorem dX8_addNumber_12 : decode cX8_addNumber 12 = .ok (.getfield 9, 3) := by decide +kernel
theorem dX8_addNumber_15 : decode cX8_addNumber 15 = .ok (.arraylength, 1) := by decide +kernel
theorem dX8_addNumber_16 : decode cX8_addNumber 16 = .ok (.if_icmp .ge 29, 3) := by decide +kernel
theorem dX8_addNumber_19 : decode cX8_addNumber 19 = .ok (.aload_n 0, 1) := by decide +kernel
theorem dX8_addNumber_20 : decode cX8_addNumber 20 = .ok (.getfield 9, 3) := by decide +kernel
theorem dX8_addNumber_23 : decode cX8_addNumber 23 = .ok (.aload_n 0, 1) := by decide +kernel
theorem dX8_addNumber_24 : decode cX8_addNumber 24 = .ok (.getfield 15, 3) := by decide +kernel
theorem dX8_addNumber_27 : decode cX8_addNumber 27 = .ok (.iload_n 1, 1) := by decide +kernel
theorem dX8_addNumber_28 : decode cX8_addNumber 28 = .ok (.iload_n 2, 1) := by decide +kernel
theorem dX8_addNumber_29 : decode cX8_addNumber 29 = .ok (.ishr, 1) := by decide +kernel
theorem dX8_addNumber_30 : decode cX8_addNumber 30 = .ok (.sipush 255, 3) := by decide +kernel
theorem dX8_addNumber_33 : decode cX8_addNumber 33 = .ok (.iand, 1) := by decide +kernel
theorem dX8_addNumber_34 : decode cX8_addNumber 34 = .ok (.iastore, 1) := by decide +kernel
theorem dX8_addNumber_35 : decode cX8_addNumber 35 = .ok (.aload_n 0, 1) := by decide +kernel
theorem dX8_addNumber_36 : decode cX8_addNumber 36 = .ok (.dup, 1) := by decide +kernel
theorem dX8_addNumber_37 : decode cX8_addNumber 37 = .ok (.getfield 15, 3) := by decide +kernel
theorem dX8_addNumber_40 : decode cX8_addNumber 40 = .ok (.iconst 1, 1) := by decide +kernel
theorem dX8_addNumber_41 : decode cX8_addNumber 41 = .ok (.iadd, 1) := by decide +kernel
theorem dX8_addNumber_42 : decode cX8_addNumber 42 = .ok (.putfield 15, 3) := by decide +kernel
theorem dX8_addNumber_45 : decode cX8_addNumber 45 = .ok (.iinc 2 (-8), 3) := by decide +kernel
theorem dX8_addNumber_48 : decode cX8_addNumber 48 = .ok (.goto (-45), 3) := by decide +kernel
theorem dX8_addNumber_51 : decode cX8_addNumber 51 = .ok (.return_, 1) := by decide +kernel
theorem dX8_cutTo_0 : decode cX8_cutTo 0 = .ok (.aload_n 0, 1) := by decide +kernel
theorem dX8_cutTo_1 : decode cX8_cutTo 1 = .ok (.iconst 0, 1) := by decide +kernel
theorem dX8_cutTo_2 : decode cX8_cutTo 2 = .ok (.iload_n 1, 1) := by decide +kernel
theorem dX8_cutTo_3 : decode cX8_cutTo 3 = .ok (.aload_n 0, 1) := by decide +kernel
theorem dX8_cutTo_4 : decode cX8_cutTo 4 = .ok (.getfield 15, 3) := by decide +kernel
theorem dX8_cutTo_7 : decode cX8_cutTo 7 = .ok (.invokestatic 19, 3) := by decide +kernel
theorem dX8_cutTo_10 : decode cX8_cutTo 10 = .ok (.invokestatic 25, 3) := by decide +kernel
theorem dX8_cutTo_13 : decode cX8_cutTo 13 = .ok (.putfield 15, 3) := by decide +kernel
theorem dX8_cutTo_16 : decode cX8_cutTo 16 = .ok (.return_, 1) := by decide +kernel
theorem dX9_init_0 : decode cX9_init 0 = .ok (.aload_n 0, 1) := by decide +kernel
theorem dX9_init_1 : decode cX9_init 1 = .ok (.invokespecial 3, 3) := by decide +kernel
theorem dX9_init_4 : decode cX9_init 4 = .ok (.aload_n 0, 1) := by decide +kernel
theorem dX9_init_5 : decode cX9_init 5 = .ok (.sipush 401, 3) := by decide +kernel
theorem dX9_init_8 : decode cX9_init 8 = .ok (.newarray .int, 2) := by decide +kernel
theorem dX9_init_10 : decode cX9_init 10 = .ok (.putfield 9, 3) := by decide +kernel
theorem dX9_init_13 : decode cX9_init 13 = .ok (.aload_n 0, 1) := by decide +kernel
theorem dX9_init_14 : decode cX9_init 14 = .ok (.sipush 401, 3) := by decide +kernel
theorem dX9_init_17 : decode cX9_init 17 = .ok (.newarray .int, 2) := by decide +kernel
theorem dX9_init_19 : decode cX9_init 19 = .ok (.putfield 15, 3) := by decide +kernel
theorem dX9_init_22 : decode cX9_init 22 = .ok (.aload_n 0, 1) := by decide +kernel
theorem dX9_init_23 : decode cX9_init 23 = .ok (.sipush 401, 3) := by decide +kernel
theorem dX9_init_26 : decode cX9_init 26 = .ok (.newarray .int, 2) := by decide +kernel
theorem dX9_init_28 : decode cX9_init 28 = .ok (.putfield 18, 3) := by decide +kernel
theorem dX9_init_31 : decode cX9_init 31 = .ok (.aload_n 0, 1) := by decide +kernel
theorem dX9_init_32 : decode cX9_init 32 = .ok (.iconst 0, 1) := by decide +kernel
theorem dX9_init_33 : decode cX9_init 33 = .ok (.putfield 21, 3) := by decide +kernel
theorem dX9_init_36 : decode cX9_init 36 = .ok (.return_, 1) := by decide +kernel
theorem dX9_cut_0 : decode cX9_cut 0 = .ok (.aload_n 0, 1) := by decide +kernel
theorem dX9_cut_1 : decode cX9_cut 1 = .ok (.iconst 0, 1) := by decide +kernel
theorem dX9_cut_2 : decode cX9_cut 2 = .ok (.putfield 21, 3) := by decide +kernel
theorem dX9_cut_5 : decode cX9_cut 5 = .ok (.iconst 0, 1) := by decide +kernel
theorem dX9_cut_6 : decode cX9_cut 6 = .ok (.istore_n 2, 1) := by decide +kernel
theorem dX9_cut_7 : decode cX9_cut 7 = .ok (.iconst 0, 1) := by decide +kernel
theorem dX9_cut_8 : decode cX9_cut 8 = .ok (.istore_n 3, 1) := by decide +kernel
theorem dX9_cut_9 : decode cX9_cut 9 = .ok (.iload_n 3, 1) := by decide +kernel
theorem dX9_cut_10 : decode cX9_cut 10 = .ok (.sipush 400, 3) := by decide +kernel
theorem dX9_cut_13 : decode cX9_cut 13 = .ok (.if_icmp .ge 45, 3) := by decide +kernel
theorem dX9_cut_16 : decode cX9_cut 16 = .ok (.iload_n 2, 1) := by decide +kernel
theorem dX9_cut_17 : decode cX9_cut 17 = .ok (.aload_n 1, 1) := by decide +kernel
theorem dX9_cut_18 : decode cX9_cut 18 = .ok (.invokevirtual 25, 3) := by decide +kernel
theorem dX9_cut_21 : decode cX9_cut 21 = .ok (.if_icmp .ge 37, 3) := by decide +kernel
theorem dX9_cut_24 : decode cX9_cut 24 = .ok (.aload_n 1, 1) := by decide +kernel
theorem dX9_cut_25 : decode cX9_cut 25 = .ok (.iload_n 2, 1) := by decide +kernel
theorem dX9_cut_26 : decode cX9_cut 26 = .ok (.invokestatic 31, 3) := by decide +kernel
theorem dX9_cut_29 : decode cX9_cut 29 = .ok (.istore 4, 2) := by decide +kernel
theorem dX9_cut_31 : decode cX9_cut 31 = .ok (.aload_n 1, 1) := by decide +kernel
theorem dX9_cut_32 : decode cX9_cut 32 = .ok (.iload_n 2, 1) := by decide +kernel
theorem dX9_cut_33 : decode cX9_cut 33 = .ok (.invokevirtual 35, 3) := by decide +kernel
theorem dX9_cut_36 : decode cX9_cut 36 = .ok (.bipush 32, 2) := by decide +kernel
theorem dX9_cut_38 : decode cX9_cut 38 = .ok (.if_icmp .eq 11, 3) := by decide +kernel
theorem dX9_cut_41 : decode cX9_cut 41 = .ok (.aload_n 0, 1) := by decide +kernel
theorem dX9_cut_42 : decode cX9_cut 42 = .ok (.aload_n 1, 1) := by decide +kernel
theorem dX9_cut_43 : decode cX9_cut 43 = .ok (.iload_n 2, 1) := by decide +kernel
theorem dX9_cut_44 : decode cX9_cut 44 = .ok (.iload 4, 2) := by decide +kernel
theorem dX9_cut_46 : decode cX9_cut 46 = .ok (.invokevirtual 39, 3) := by decide +kernel
theorem dX9_cut_49 : decode cX9_cut 49 = .ok (.iload 4, 2) := by decide +kernel
theorem dX9_cut_51 : decode cX9_cut 51 = .ok (.istore_n 2, 1) := by decide +kernel
theorem dX9_cut_52 : decode cX9_cut 52 = .ok (.iinc 3 1, 3) := by decide +kernel
theorem dX9_cut_55 : decode cX9_cut 55 = .ok (.goto (-46), 3) := by decide +kernel
theorem dX9_cut_58 : decode cX9_cut 58 = .ok (.aload_n 0, 1) := by decide +kernel
theorem dX9_cut_59 : decode cX9_cut 59 = .ok (.aload_n 1, 1) := by decide +kernel
theorem dX9_cut_60 : decode cX9_cut 60 = .ok (.iload_n 2, 1) := by decide +kernel
theorem dX9_cut_61 : decode cX9_cut 61 = .ok (.iload_n 2, 1) := by decide +kernel
theorem dX9_cut_62 : decode cX9_cut 62 = .ok (.invokevirtual 39, 3) := by decide +kernel
theorem dX9_cut_65 : decode cX9_cut 65 = .ok (.return_, 1) := by decide +kernel
theorem dX9_isAt_0 : decode cX9_isAt 0 = .ok (.iload_n 1, 1) := by decide +kernel
theorem dX9_isAt_1 : decode cX9_isAt 1 = .ok (.ifCond .lt 24, 3) := by decide +kernel
theorem dX9_isAt_4 : decode cX9_isAt 4 = .ok (.iload_n 1, 1) := by decide +kernel
theorem dX9_isAt_5 : decode cX9_isAt 5 = .ok (.aload_n 0, 1) := by decide +kernel
theorem dX9_isAt_6 : decode cX9_isAt 6 = .ok (.getfield 21, 3) := by decide +kernel
theorem dX9_isAt_9 : decode cX9_isAt 9 = .ok (.if_icmp .ge 16, 3) := by decide +kernel
theorem dX9_isAt_12 : decode cX9_isAt 12 = .ok (.iload_n 1, 1) := by decide +kernel
theorem dX9_isAt_13 : decode cX9_isAt 13 = .ok (.aload_n 0, 1) := by decide +kernel
theorem dX9_isAt_14 : decode cX9_isAt 14 = .ok (.getfield 9, 3) := by decide +kernel
theorem dX9_isAt_17 : decode cX9_isAt 17 = .ok (.arraylength, 1) := by decide +kernel
theorem dX9_isAt_18 : decode cX9_isAt 18 = .ok (.if_icmp .ge 7, 3) := by decide +kernel
theorem dX9_isAt_21 : decode cX9_isAt 21 = .ok (.iconst 1, 1) := by decide +kernel
theorem dX9_isAt_22 : decode cX9_isAt 22 = .ok (.goto 4, 3) := by decide +kernel
theorem dX9_isAt_25 : decode cX9_isAt 25 = .ok (.iconst 0, 1) := by decide +kernel
theorem dX9_isAt_26 : decode cX9_isAt 26 = .ok (.istore 4, 2) := by decide +kernel
theorem dX9_isAt_28 : decode cX9_isAt 28 = .ok (.iload 4, 2) := by decide +kernel
theorem dX9_isAt_30 : decode cX9_isAt 30 = .ok (.ifCond .eq 27, 3) := by decide +kernel
theorem dX9_isAt_33 : decode cX9_isAt 33 = .ok (.aload_n 0, 1) := by decide +kernel
theorem dX9_isAt_34 : decode cX9_isAt 34 = .ok (.getfield 9, 3) := by decide +kernel
theorem dX9_isAt_37 : decode cX9_isAt 37 = .ok (.iload_n 1, 1) := by decide +kernel
theorem dX9_isAt_38 : decode cX9_isAt 38 = .ok (.iaload, 1) := by decide +kernel
theorem dX9_isAt_39 : decode cX9_isAt 39 = .ok (.iload_n 2, 1) := by decide +kernel
theorem dX9_isAt_40 : decode cX9_isAt 40 = .ok (.if_icmp .ne 17, 3) := by decide +kernel
theorem dX9_isAt_43 : decode cX9_isAt 43 = .ok (.aload_n 0, 1) := by decide +kernel
theorem dX9_isAt_44 : decode cX9_isAt 44 = .ok (.getfield 15, 3) := by decide +kernel
theorem dX9_isAt_47 : decode cX9_isAt 47 = .ok (.iload_n 1, 1) := by decide +kernel
theorem dX9_isAt_48 : decode cX9_isAt 48 = .ok (.iaload, 1) := by decide +kernel
theorem dX9_isAt_49 : decode cX9_isAt 49 = .ok (.iload_n 3, 1) := by decide +kernel
theorem dX9_isAt_50 : decode cX9_isAt 50 = .ok (.if_icmp .ne 7, 3) := by decide +kernel
theorem dX9_isAt_53 : decode cX9_isAt 53 = .ok (.iconst 1, 1) := by decide +kernel
theorem dX9_isAt_54 : decode cX9_isAt 54 = .ok (.goto 4, 3) := by decide +kernel
theorem dX9_isAt_57 : decode cX9_isAt 57 = .ok (.iconst 0, 1) := by decide +kernel
theorem dX9_isAt_58 : decode cX9_isAt 58 = .ok (.ireturn, 1) := by decide +kernel
theorem dX9_kindOf_0 : decode cX9_kindOf 0 = .ok (.iload_n 1, 1) := by decide +kernel
theorem dX9_kindOf_1 : decode cX9_kindOf 1 = .ok (.ifCond .lt 29, 3) := by decide +kernel
theorem dX9_kindOf_4 : decode cX9_kindOf 4 = .ok (.iload_n 1, 1) := by decide +kernel
theorem dX9_kindOf_5 : decode cX9_kindOf 5 = .ok (.aload_n 0, 1) := by decide +kernel
theorem dX9_kindOf_6 : decode cX9_kindOf 6 = .ok (.getfield 21, 3) := by decide +kernel
theorem dX9_kindOf_9 : decode cX9_kindOf 9 = .ok (.if_icmp .ge 21, 3) := by decide +kernel
theorem dX9_kindOf_12 : decode cX9_kindOf 12 = .ok (.iload_n 1, 1) := by decide +kernel
theorem dX9_kindOf_13 : decode cX9_kindOf 13 = .ok (.aload_n 0, 1) := by decide +kernel
theorem dX9_kindOf_14 : decode cX9_kindOf 14 = .ok (.getfield 9, 3) := by decide +kernel
theorem dX9_kindOf_17 : decode cX9_kindOf 17 = .ok (.arraylength, 1) := by decide +kernel
theorem dX9_kindOf_18 : decode cX9_kindOf 18 = .ok (.if_icmp .ge 12, 3) := by decide +kernel
theorem dX9_kindOf_21 : decode cX9_kindOf 21 = .ok (.aload_n 0, 1) := by decide +kernel
theorem dX9_kindOf_22 : decode cX9_kindOf 22 = .ok (.getfield 9, 3) := by decide +kernel
theorem dX9_kindOf_25 : decode cX9_kindOf 25 = .ok (.iload_n 1, 1) := by decide +kernel
theorem dX9_kindOf_26 : decode cX9_kindOf 26 = .ok (.iaload, 1) := by decide +kernel
theorem dX9_kindOf_27 : decode cX9_kindOf 27 = .ok (.goto 4, 3) := by decide +kernel
theorem dX9_kindOf_30 : decode cX9_kindOf 30 = .ok (.iconst 0, 1) := by decide +kernel
theorem dX9_kindOf_31 : decode cX9_kindOf 31 = .ok (.ireturn, 1) := by decide +kernel
theorem dX9_valueOf_0 : decode cX9_valueOf 0 = .ok (.iload_n 1, 1) := by decide +kernel
theorem dX9_valueOf_1 : decode cX9_valueOf 1 = .ok (.ifCond .lt 29, 3) := by decide +kernel
theorem dX9_valueOf_4 : decode cX9_valueOf 4 = .ok (.iload_n 1, 1) := by decide +kernel
theorem dX9_valueOf_5 : decode cX9_valueOf 5 = .ok (.aload_n 0, 1) := by decide +kernel
theorem dX9_valueOf_6 : decode cX9_valueOf 6 = .ok (.getfield 21, 3) := by decide +kernel
theorem dX9_valueOf_9 : decode cX9_valueOf 9 = .ok (.if_icmp .ge 21, 3) := by decide +kernel
theorem dX9_valueOf_12 : decode cX9_valueOf 12 = .ok (.iload_n 1, 1) := by decide +kernel
theorem dX9_valueOf_13 : decode cX9_valueOf 13 = .ok (.aload_n 0, 1) := by decide +kernel
theorem dX9_valueOf_14 : decode cX9_valueOf 14 = .ok (.getfield 15, 3) := by decide +kernel
theorem dX9_valueOf_17 : decode cX9_valueOf 17 = .ok (.arraylength, 1) := by decide +kernel
theorem dX9_valueOf_18 : decode cX9_valueOf 18 = .ok (.if_icmp .ge 12, 3) := by decide +kernel
theorem dX9_valueOf_21 : decode cX9_valueOf 21 = .ok (.aload_n 0, 1) := by decide +kernel
theorem dX9_valueOf_22 : decode cX9_valueOf 22 = .ok (.getfield 15, 3) := by decide +kernel
theorem dX9_valueOf_25 : decode cX9_valueOf 25 = .ok (.iload_n 1, 1) := by decide +kernel
theorem dX9_valueOf_26 : decode cX9_valueOf 26 = .ok (.iaload, 1) := by decide +kernel
theorem dX9_valueOf_27 : decode cX9_valueOf 27 = .ok (.goto 4, 3) := by decide +kernel
theorem dX9_valueOf_30 : decode cX9_valueOf 30 = .ok (.iconst (-1), 1) := by decide +kernel
theorem dX9_valueOf_31 : decode cX9_valueOf 31 = .ok (.ireturn, 1) := by decide +kernel
theorem dX9_placeOf_0 : decode cX9_placeOf 0 = .ok (.iload_n 1, 1) := by decide +kernel
theorem dX9_placeOf_1 : decode cX9_placeOf 1 = .ok (.ifCond .lt 29, 3) := by decide +kernel
theorem dX9_placeOf_4 : decode cX9_placeOf 4 = .ok (.iload_n 1, 1) := by decide +kernel
theorem dX9_placeOf_5 : decode cX9_placeOf 5 = .ok (.aload_n 0, 1) := by decide +kernel
theorem dX9_placeOf_6 : decode cX9_placeOf 6 = .ok (.getfield 21, 3) := by decide +kernel
theorem dX9_placeOf_9 : decode cX9_placeOf 9 = .ok (.if_icmp .ge 21, 3) := by decide +kernel
theorem dX9_placeOf_12 : decode cX9_placeOf 12 = .ok (.iload_n 1, 1) := by decide +kernel
theorem dX9_placeOf_13 : decode cX9_placeOf 13 = .ok (.aload_n 0, 1) := by decide +kernel
theorem dX9_placeOf_14 : decode cX9_placeOf 14 = .ok (.getfield 18, 3) := by decide +kernel
theorem dX9_placeOf_17 : decode cX9_placeOf 17 = .ok (.arraylength, 1) := by decide +kernel
theorem dX9_placeOf_18 : decode cX9_placeOf 18 = .ok (.if_icmp .ge 12, 3) := by decide +kernel
theorem dX9_placeOf_21 : decode cX9_placeOf 21 = .ok (.aload_n 0, 1) := by decide +kernel
theorem dX9_placeOf_22 : decode cX9_placeOf 22 = .ok (.getfield 18, 3) := by decide +kernel
theorem dX9_placeOf_25 : decode cX9_placeOf 25 = .ok (.iload_n 1, 1) := by decide +kernel
theorem dX9_placeOf_26 : decode cX9_placeOf 26 = .ok (.iaload, 1) := by decide +kernel
theorem dX9_placeOf_27 : decode cX9_placeOf 27 = .ok (.goto 4, 3) := by decide +kernel
theorem dX9_placeOf_30 : decode cX9_placeOf 30 = .ok (.iconst (-1), 1) := by decide +kernel
theorem dX9_placeOf_31 : decode cX9_placeOf 31 = .ok (.ireturn, 1) := by decide +kernel
theorem dX9_addToken_0 : decode cX9_addToken 0 = .ok (.aload_n 0, 1) := by decide +kernel
theorem dX9_addToken_1 : decode cX9_addToken 1 = .ok (.getfield 21, 3) := by decide +kernel
theorem dX9_addToken_4 : decode cX9_addToken 4 = .ok (.aload_n 0, 1) := by decide +kernel
theorem dX9_addToken_5 : decode cX9_addToken 5 = .ok (.getfield 9, 3) := by decide +kernel
theorem dX9_addToken_8 : decode cX9_addToken 8 = .ok (.arraylength, 1) := by decide +kernel
theorem dX9_addToken_9 : decode cX9_addToken 9 = .ok (.if_icmp .ge 88, 3) := by decide +kernel
theorem dX9_addToken_12 : decode cX9_addToken 12 = .ok (.aload_n 1, 1) := by decide +kernel
theorem dX9_addToken_13 : decode cX9_addToken 13 = .ok (.iload_n 2, 1) := by decide +kernel
theorem dX9_addToken_14 : decode cX9_addToken 14 = .ok (.invokevirtual 35, 3) := by decide +kernel
theorem dX9_addToken_17 : decode cX9_addToken 17 = .ok (.invokestatic 43, 3) := by decide +kernel
theorem dX9_addToken_20 : decode cX9_addToken 20 = .ok (.istore 4, 2) := by decide +kernel
theorem dX9_addToken_22 : decode cX9_addToken 22 = .ok (.aload_n 0, 1) := by decide +kernel
theorem dX9_addToken_23 : decode cX9_addToken 23 = .ok (.getfield 9, 3) := by decide +kernel
theorem dX9_addToken_26 : decode cX9_addToken 26 = .ok (.aload_n 0, 1) := by decide +kernel
theorem dX9_addToken_27 : decode cX9_addToken 27 = .ok (.getfield 21, 3) := by decide +kernel
theorem dX9_addToken_30 : decode cX9_addToken 30 = .ok (.iload 4, 2) := by decide +kernel
theorem dX9_addToken_32 : decode cX9_addToken 32 = .ok (.iastore, 1) := by decide +kernel
theorem dX9_addToken_33 : decode cX9_addToken 33 = .ok (.aload_n 0, 1) := by decide +kernel
theorem dX9_addToken_34 : decode cX9_addToken 34 = .ok (.getfield 18, 3) := by decide +kernel
theorem dX9_addToken_37 : decode cX9_addToken 37 = .ok (.aload_n 0, 1) := by decide +kernel
theorem dX9_addToken_38 : decode cX9_addToken 38 = .ok (.getfield 21, 3) := by decide +kernel
theorem dX9_addToken_41 : decode cX9_addToken 41 = .ok (.iload_n 2, 1) := by decide +kernel
theorem dX9_addToken_42 : decode cX9_addToken 42 = .ok (.iastore, 1) := by decide +kernel
theorem dX9_addToken_43 : decode cX9_addToken 43 = .ok (.aload_n 0, 1) := by decide +kernel
theorem dX9_addToken_44 : decode cX9_addToken 44 = .ok (.getfield 15, 3) := by decide +kernel
theorem dX9_addToken_47 : decode cX9_addToken 47 = .ok (.aload_n 0, 1) := by decide +kernel
theorem dX9_addToken_48 : decode cX9_addToken 48 = .ok (.getfield 21, 3) := by decide +kernel
theorem dX9_addToken_51 : decode cX9_addToken 51 = .ok (.iload 4, 2) := by decide +kernel
theorem dX9_addToken_53 : decode cX9_addToken 53 = .ok (.iconst 1, 1) := by decide +kernel
theorem dX9_addToken_54 : decode cX9_addToken 54 = .ok (.if_icmp .ne 12, 3) := by decide +kernel
theorem dX9_addToken_57 : decode cX9_addToken 57 = .ok (.aload_n 1, 1) := by decide +kernel
theorem dX9_addToken_58 : decode cX9_addToken 58 = .ok (.iload_n 2, 1) := by decide +kernel
theorem dX9_addToken_59 : decode cX9_addToken 59 = .ok (.iload_n 3, 1) := by decide +kernel
theorem dX9_addToken_60 : decode cX9_addToken 60 = .ok (.invokestatic 46, 3) := by decide +kernel
theorem dX9_addToken_63 : decode cX9_addToken 63 = .ok (.goto 23, 3) := by decide +kernel
theorem dX9_addToken_66 : decode cX9_addToken 66 = .ok (.iload 4, 2) := by decide +kernel
theorem dX9_addToken_68 : decode cX9_addToken 68 = .ok (.iconst 2, 1) := by decide +kernel
theorem dX9_addToken_69 : decode cX9_addToken 69 = .ok (.if_icmp .ne 12, 3) := by decide +kernel
theorem dX9_addToken_72 : decode cX9_addToken 72 = .ok (.aload_n 1, 1) := by decide +kernel
theorem dX9_addToken_73 : decode cX9_addToken 73 = .ok (.iload_n 2, 1) := by decide +kernel
theorem dX9_addToken_74 : decode cX9_addToken 74 = .ok (.iload_n 3, 1) := by decide +kernel
theorem dX9_addToken_75 : decode cX9_addToken 75 = .ok (.invokestatic 50, 3) := by decide +kernel
theorem dX9_addToken_78 : decode cX9_addToken 78 = .ok (.goto 8, 3) := by decide +kernel
theorem dX9_addToken_81 : decode cX9_addToken 81 = .ok (.aload_n 1, 1) := by decide +kernel
theorem dX9_addToken_82 : decode cX9_addToken 82 = .ok (.iload_n 2, 1) := by decide +kernel
theorem dX9_addToken_83 : decode cX9_addToken 83 = .ok (.invokevirtual 35, 3) := by decide +kernel
theorem dX9_addToken_86 : decode cX9_addToken 86 = .ok (.iastore, 1) := by decide +kernel
theorem dX9_addToken_87 : decode cX9_addToken 87 = .ok (.aload_n 0, 1) := by decide +kernel
theorem dX9_addToken_88 : decode cX9_addToken 88 = .ok (.dup, 1) := by decide +kernel
theorem dX9_addToken_89 : decode cX9_addToken 89 = .ok (.getfield 21, 3) := by decide +kernel
theorem dX9_addToken_92 : decode cX9_addToken 92 = .ok (.iconst 1, 1) := by decide +kernel
theorem dX9_addToken_93 : decode cX9_addToken 93 = .ok (.iadd, 1) := by decide +kernel
theorem dX9_addToken_94 : decode cX9_addToken 94 = .ok (.putfield 21, 3) := by decide +kernel
theorem dX9_addToken_97 : decode cX9_addToken 97 = .ok (.return_, 1) := by decide +kernel
theorem dX9_endOfToken_0 : decode cX9_endOfToken 0 = .ok (.aload_n 0, 1) := by decide +kernel
theorem dX9_endOfToken_1 : decode cX9_endOfToken 1 = .ok (.iload_n 1, 1) := by decide +kernel
theorem dX9_endOfToken_2 : decode cX9_endOfToken 2 = .ok (.invokevirtual 35, 3) := by decide +kernel
theorem dX9_endOfToken_5 : decode cX9_endOfToken 5 = .ok (.invokestatic 43, 3) := by decide +kernel
theorem dX9_endOfToken_8 : decode cX9_endOfToken 8 = .ok (.istore_n 2, 1) := by decide +kernel
theorem dX9_endOfToken_9 : decode cX9_endOfToken 9 = .ok (.iload_n 1, 1) := by decide +kernel
theorem dX9_endOfToken_10 : decode cX9_endOfToken 10 = .ok (.iconst 1, 1) := by decide +kernel
theorem dX9_endOfToken_11 : decode cX9_endOfToken 11 = .ok (.iadd, 1) := by decide +kernel
theorem dX9_endOfToken_12 : decode cX9_endOfToken 12 = .ok (.istore_n 3, 1) := by decide +kernel
theorem dX9_endOfToken_13 : decode cX9_endOfToken 13 = .ok (.iload_n 2, 1) := by decide +kernel
theorem dX9_endOfToken_14 : decode cX9_endOfToken 14 = .ok (.iconst 3, 1) := by decide +kernel
theorem dX9_endOfToken_15 : decode cX9_endOfToken 15 = .ok (.if_icmp .eq 29, 3) := by decide +kernel
theorem dX9_endOfToken_18 : decode cX9_endOfToken 18 = .ok (.iload_n 3, 1) := by decide +kernel
theorem dX9_endOfToken_19 : decode cX9_endOfToken 19 = .ok (.aload_n 0, 1) := by decide +kernel
theorem dX9_endOfToken_20 : decode cX9_endOfToken 20 = .ok (.invokevirtual 25, 3) := by decide +kernel
theorem dX9_endOfToken_23 : decode cX9_endOfToken 23 = .ok (.if_icmp .ge 21, 3) := by decide +kernel
theorem dX9_endOfToken_26 : decode cX9_endOfToken 26 = .ok (.aload_n 0, 1) := by decide +kernel
theorem dX9_endOfToken_27 : decode cX9_endOfToken 27 = .ok (.iload_n 3, 1) := by decide +kernel
theorem dX9_endOfToken_28 : decode cX9_endOfToken 28 = .ok (.invokevirtual 35, 3) := by decide +kernel
theorem dX9_endOfToken_31 : decode cX9_endOfToken 31 = .ok (.invokestatic 43, 3) := by decide +kernel
theorem dX9_endOfToken_34 : decode cX9_endOfToken 34 = .ok (.iload_n 2, 1) := by decide +kernel
theorem dX9_endOfToken_35 : decode cX9_endOfToken 35 = .ok (.if_icmp .ne 9, 3) := by decide +kernel
theorem dX9_endOfToken_38 : decode cX9_endOfToken 38 = .ok (.iinc 3 1, 3) := by decide +kernel
theorem dX9_endOfToken_41 : decode cX9_endOfToken 41 = .ok (.goto (-28), 3) := by decide +kernel
theorem dX9_endOfToken_44 : decode cX9_endOfToken 44 = .ok (.iload_n 3, 1) := by decide +kernel
theorem dX9_endOfToken_45 : decode cX9_endOfToken 45 = .ok (.ireturn, 1) := by decide +kernel
theorem dX9_kindOfByte_0 : decode cX9_kindOfByte 0 = .ok (.iload_n 0, 1) := by decide +kernel
theorem dX9_kindOfByte_1 : decode cX9_kindOfByte 1 = .ok (.iconst (-1), 1) := by decide +kernel
theorem dX9_kindOfByte_2 : decode cX9_kindOfByte 2 = .ok (.if_icmp .ne 5, 3) := by decide +kernel
theorem dX9_kindOfByte_5 : decode cX9_kindOfByte 5 = .ok (.iconst 0, 1) := by decide +kernel
theorem dX9_kindOfByte_6 : decode cX9_kindOfByte 6 = .ok (.ireturn, 1) := by decide +kernel
theorem dX9_kindOfByte_7 : decode cX9_kindOfByte 7 = .ok (.iload_n 0, 1) := by decide +kernel
theorem dX9_kindOfByte_8 : decode cX9_kindOfByte 8 = .ok (.bipush 97, 2) := by decide +kernel
theorem dX9_kindOfByte_10 : decode cX9_kindOfByte 10 = .ok (.bipush 122, 2) := by decide +kernel
theorem dX9_kindOfByte_12 : decode cX9_kindOfByte 12 = .ok (.invokestatic 53, 3) := by decide +kernel
theorem dX9_kindOfByte_15 : decode cX9_kindOfByte 15 = .ok (.ifCond .eq 5, 3) := by decide +kernel
theorem dX9_kindOfByte_18 : decode cX9_kindOfByte 18 = .ok (.iconst 1, 1) := by decide +kernel
theorem dX9_kindOfByte_19 : decode cX9_kindOfByte 19 = .ok (.ireturn, 1) := by decide +kernel
theorem dX9_kindOfByte_20 : decode cX9_kindOfByte 20 = .ok (.iload_n 0, 1) := by decide +kernel
theorem dX9_kindOfByte_21 : decode cX9_kindOfByte 21 = .ok (.bipush 48, 2) := by decide +kernel
theorem dX9_kindOfByte_23 : decode cX9_kindOfByte 23 = .ok (.bipush 57, 2) := by decide +kernel
theorem dX9_kindOfByte_25 : decode cX9_kindOfByte 25 = .ok (.invokestatic 53, 3) := by decide +kernel
theorem dX9_kindOfByte_28 : decode cX9_kindOfByte 28 = .ok (.ifCond .eq 7, 3) := by decide +kernel
theorem dX9_kindOfByte_31 : decode cX9_kindOfByte 31 = .ok (.iconst 2, 1) := by decide +kernel
theorem dX9_kindOfByte_32 : decode cX9_kindOfByte 32 = .ok (.goto 4, 3) := by decide +kernel
theorem dX9_kindOfByte_35 : decode cX9_kindOfByte 35 = .ok (.iconst 3, 1) := by decide +kernel
theorem dX9_kindOfByte_36 : decode cX9_kindOfByte 36 = .ok (.ireturn, 1) := by decide +kernel
theorem dX9_numberAt_0 : decode cX9_numberAt 0 = .ok (.iconst 0, 1) := by decide +kernel
theorem dX9_numberAt_1 : decode cX9_numberAt 1 = .ok (.istore_n 3, 1) := by decide +kernel
theorem dX9_numberAt_2 : decode cX9_numberAt 2 = .ok (.iload_n 1, 1) := by decide +kernel
theorem dX9_numberAt_3 : decode cX9_numberAt 3 = .ok (.istore 4, 2) := by decide +kernel
theorem dX9_numberAt_5 : decode cX9_numberAt 5 = .ok (.iload 4, 2) := by decide +kernel
theorem dX9_numberAt_7 : decode cX9_numberAt 7 = .ok (.iload_n 2, 1) := by decide +kernel
theorem dX9_numberAt_8 : decode cX9_numberAt 8 = .ok (.if_icmp .ge 29, 3) := by decide +kernel
theorem dX9_numberAt_11 : decode cX9_numberAt 11 = .ok (.iload_n 3, 1) := by decide +kernel
theorem dX9_numberAt_12 : decode cX9_numberAt 12 = .ok (.bipush 10, 2) := by decide +kernel
theorem dX9_numberAt_14 : decode cX9_numberAt 14 = .ok (.imul, 1) := by decide +kernel
theorem dX9_numberAt_15 : decode cX9_numberAt 15 = .ok (.aload_n 0, 1) := by decide +kernel
theorem dX9_numberAt_16 : decode cX9_numberAt 16 = .ok (.iload 4, 2) := by decide +kernel
theorem dX9_numberAt_18 : decode cX9_numberAt 18 = .ok (.invokevirtual 35, 3) := by decide +kernel
theorem dX9_numberAt_21 : decode cX9_numberAt 21 = .ok (.iadd, 1) := by decide +kernel
theorem dX9_numberAt_22 : decode cX9_numberAt 22 = .ok (.bipush 48, 2) := by decide +kernel
theorem dX9_numberAt_24 : decode cX9_numberAt 24 = .ok (.isub, 1) := by decide +kernel
theorem dX9_numberAt_25 : decode cX9_numberAt 25 = .ok (.ldc 57, 2) := by decide +kernel
theorem dX9_numberAt_27 : decode cX9_numberAt 27 = .ok (.invokestatic 58, 3) := by decide +kernel
theorem dX9_numberAt_30 : decode cX9_numberAt 30 = .ok (.istore_n 3, 1) := by decide +kernel
theorem dX9_numberAt_31 : decode cX9_numberAt 31 = .ok (.iinc 4 1, 3) := by decide +kernel
theorem dX9_numberAt_34 : decode cX9_numberAt 34 = .ok (.goto (-29), 3) := by decide +kernel
theorem dX9_numberAt_37 : decode cX9_numberAt 37 = .ok (.iload_n 3, 1) := by decide +kernel
theorem dX9_numberAt_38 : decode cX9_numberAt 38 = .ok (.ireturn, 1) := by decide +kernel
theorem dX9_wordAt_0 : decode cX9_wordAt 0 = .ok (.iconst 0, 1) := by decide +kernel
theorem dX9_wordAt_1 : decode cX9_wordAt 1 = .ok (.istore_n 3, 1) := by decide +kernel
theorem dX9_wordAt_2 : decode cX9_wordAt 2 = .ok (.iconst 0, 1) := by decide +kernel
theorem dX9_wordAt_3 : decode cX9_wordAt 3 = .ok (.istore 4, 2) := by decide +kernel
theorem dX9_wordAt_5 : decode cX9_wordAt 5 = .ok (.iconst 0, 1) := by decide +kernel
theorem dX9_wordAt_6 : decode cX9_wordAt 6 = .ok (.istore 5, 2) := by decide +kernel
theorem dX9_wordAt_8 : decode cX9_wordAt 8 = .ok (.iload 5, 2) := by decide +kernel
theorem dX9_wordAt_10 : decode cX9_wordAt 10 = .ok (.ldc 64, 2) := by decide +kernel
theorem dX9_wordAt_12 : decode cX9_wordAt 12 = .ok (.invokevirtual 66, 3) := by decide +kernel
theorem dX9_wordAt_15 : decode cX9_wordAt 15 = .ok (.if_icmp .gt 65, 3) := by decide +kernel
theorem dX9_wordAt_18 : decode cX9_wordAt 18 = .ok (.iload 5, 2) := by decide +kernel
theorem dX9_wordAt_20 : decode cX9_wordAt 20 = .ok (.ldc 64, 2) := by decide +kernel
theorem dX9_wordAt_22 : decode cX9_wordAt 22 = .ok (.invokevirtual 66, 3) := by decide +kernel
theorem dX9_wordAt_25 : decode cX9_wordAt 25 = .ok (.if_icmp .eq 15, 3) := by decide +kernel
theorem dX9_wordAt_28 : decode cX9_wordAt 28 = .ok (.ldc 64, 2) := by decide +kernel
theorem dX9_wordAt_30 : decode cX9_wordAt 30 = .ok (.iload 5, 2) := by decide +kernel
theorem dX9_wordAt_32 : decode cX9_wordAt 32 = .ok (.invokevirtual 71, 3) := by decide +kernel
theorem dX9_wordAt_35 : decode cX9_wordAt 35 = .ok (.bipush 32, 2) := by decide +kernel
theorem dX9_wordAt_37 : decode cX9_wordAt 37 = .ok (.if_icmp .ne 37, 3) := by decide +kernel
theorem dX9_wordAt_40 : decode cX9_wordAt 40 = .ok (.iload 5, 2) := by decide +kernel
theorem dX9_wordAt_42 : decode cX9_wordAt 42 = .ok (.iload 4, 2) := by decide +kernel
theorem dX9_wordAt_44 : decode cX9_wordAt 44 = .ok (.isub, 1) := by decide +kernel
theorem dX9_wordAt_45 : decode cX9_wordAt 45 = .ok (.iload_n 2, 1) := by decide +kernel
theorem dX9_wordAt_46 : decode cX9_wordAt 46 = .ok (.iload_n 1, 1) := by decide +kernel
theorem dX9_wordAt_47 : decode cX9_wordAt 47 = .ok (.isub, 1) := by decide +kernel
theorem dX9_wordAt_48 : decode cX9_wordAt 48 = .ok (.if_icmp .ne 17, 3) := by decide +kernel
theorem dX9_wordAt_51 : decode cX9_wordAt 51 = .ok (.aload_n 0, 1) := by decide +kernel
theorem dX9_wordAt_52 : decode cX9_wordAt 52 = .ok (.iload_n 1, 1) := by decide +kernel
theorem dX9_wordAt_53 : decode cX9_wordAt 53 = .ok (.iload 4, 2) := by decide +kernel
theorem dX9_wordAt_55 : decode cX9_wordAt 55 = .ok (.iload 5, 2) := by decide +kernel
theorem dX9_wordAt_57 : decode cX9_wordAt 57 = .ok (.invokestatic 75, 3) := by decide +kernel
theorem dX9_wordAt_60 : decode cX9_wordAt 60 = .ok (.ifCond .eq 5, 3) := by decide +kernel
theorem dX9_wordAt_63 : decode cX9_wordAt 63 = .ok (.iload_n 3, 1) := by decide +kernel
theorem dX9_wordAt_64 : decode cX9_wordAt 64 = .ok (.ireturn, 1) := by decide +kernel
theorem dX9_wordAt_65 : decode cX9_wordAt 65 = .ok (.iinc 3 1, 3) := by decide +kernel
theorem dX9_wordAt_68 : decode cX9_wordAt 68 = .ok (.iload 5, 2) := by decide +kernel
theorem dX9_wordAt_70 : decode cX9_wordAt 70 = .ok (.iconst 1, 1) := by decide +kernel
theorem dX9_wordAt_71 : decode cX9_wordAt 71 = .ok (.iadd, 1) := by decide +kernel
theorem dX9_wordAt_72 : decode cX9_wordAt 72 = .ok (.istore 4, 2) := by decide +kernel
theorem dX9_wordAt_74 : decode cX9_wordAt 74 = .ok (.iinc 5 1, 3) := by decide +kernel
theorem dX9_wordAt_77 : decode cX9_wordAt 77 = .ok (.goto (-69), 3) := by decide +kernel
theorem dX9_wordAt_80 : decode cX9_wordAt 80 = .ok (.iconst (-1), 1) := by decide +kernel
theorem dX9_wordAt_81 : decode cX9_wordAt 81 = .ok (.ireturn, 1) := by decide +kernel
theorem dX9_isAlike_0 : decode cX9_isAlike 0 = .ok (.iload_n 2, 1) := by decide +kernel
theorem dX9_isAlike_1 : decode cX9_isAlike 1 = .ok (.istore 4, 2) := by decide +kernel
theorem dX9_isAlike_3 : decode cX9_isAlike 3 = .ok (.iload 4, 2) := by decide +kernel
theorem dX9_isAlike_5 : decode cX9_isAlike 5 = .ok (.iload_n 3, 1) := by decide +kernel
theorem dX9_isAlike_6 : decode cX9_isAlike 6 = .ok (.if_icmp .ge 41, 3) := by decide +kernel
theorem dX9_isAlike_9 : decode cX9_isAlike 9 = .ok (.iload 4, 2) := by decide +kernel
theorem dX9_isAlike_11 : decode cX9_isAlike 11 = .ok (.ldc 64, 2) := by decide +kernel
theorem dX9_isAlike_13 : decode cX9_isAlike 13 = .ok (.invokevirtual 66, 3) := by decide +kernel
theorem dX9_isAlike_16 : decode cX9_isAlike 16 = .ok (.if_icmp .ge 31, 3) := by decide +kernel
theorem dX9_isAlike_19 : decode cX9_isAlike 19 = .ok (.ldc 64, 2) := by decide +kernel
theorem dX9_isAlike_21 : decode cX9_isAlike 21 = .ok (.iload 4, 2) := by decide +kernel
theorem dX9_isAlike_23 : decode cX9_isAlike 23 = .ok (.invokevirtual 71, 3) := by decide +kernel
theorem dX9_isAlike_26 : decode cX9_isAlike 26 = .ok (.aload_n 0, 1) := by decide +kernel
theorem dX9_isAlike_27 : decode cX9_isAlike 27 = .ok (.iload_n 1, 1) := by decide +kernel
theorem dX9_isAlike_28 : decode cX9_isAlike 28 = .ok (.iload 4, 2) := by decide +kernel
theorem dX9_isAlike_30 : decode cX9_isAlike 30 = .ok (.iadd, 1) := by decide +kernel
theorem dX9_isAlike_31 : decode cX9_isAlike 31 = .ok (.iload_n 2, 1) := by decide +kernel
theorem dX9_isAlike_32 : decode cX9_isAlike 32 = .ok (.isub, 1) := by decide +kernel
theorem dX9_isAlike_33 : decode cX9_isAlike 33 = .ok (.invokevirtual 35, 3) := by decide +kernel
theorem dX9_isAlike_36 : decode cX9_isAlike 36 = .ok (.if_icmp .eq 5, 3) := by decide +kernel
theorem dX9_isAlike_39 : decode cX9_isAlike 39 = .ok (.iconst 0, 1) := by decide +kernel
theorem dX9_isAlike_40 : decode cX9_isAlike 40 = .ok (.ireturn, 1) := by decide +kernel
theorem dX9_isAlike_41 : decode cX9_isAlike 41 = .ok (.iinc 4 1, 3) := by decide +kernel
theorem dX9_isAlike_44 : decode cX9_isAlike 44 = .ok (.goto (-41), 3) := by decide +kernel
theorem dX9_isAlike_47 : decode cX9_isAlike 47 = .ok (.iconst 1, 1) := by decide +kernel
theorem dX9_isAlike_48 : decode cX9_isAlike 48 = .ok (.ireturn, 1) := by decide +kernel
theorem dX10_init_0 : decode cX10_init 0 = .ok (.aload_n 0, 1) := by decide +kernel
theorem dX10_init_1 : decode cX10_init 1 = .ok (.invokespecial 3, 3) := by decide +kernel
theorem dX10_init_4 : decode cX10_init 4 = .ok (.aload_n 0, 1) := by decide +kernel
theorem dX10_init_5 : decode cX10_init 5 = .ok (.new 9, 3) := by decide +kernel
theorem dX10_init_8 : decode cX10_init 8 = .ok (.dup, 1) := by decide +kernel
theorem dX10_init_9 : decode cX10_init 9 = .ok (.bipush 12, 2) := by decide +kernel
theorem dX10_init_11 : decode cX10_init 11 = .ok (.iconst 3, 1) := by decide +kernel
theorem dX10_init_12 : decode cX10_init 12 = .ok (.invokespecial 11, 3) := by decide +kernel
theorem dX10_init_15 : decode cX10_init 15 = .ok (.putfield 14, 3) := by decide +kernel
theorem dX10_init_18 : decode cX10_init 18 = .ok (.aload_n 0, 1) := by decide +kernel
theorem dX10_init_19 : decode cX10_init 19 = .ok (.iconst 0, 1) := by decide +kernel
theorem dX10_init_20 : decode cX10_init 20 = .ok (.putfield 20, 3) := by decide +kernel
theorem dX10_init_23 : decode cX10_init 23 = .ok (.aload_n 0, 1) := by decide +kernel
theorem dX10_init_24 : decode cX10_init 24 = .ok (.iconst 0, 1) := by decide +kernel
theorem dX10_init_25 : decode cX10_init 25 = .ok (.putfield 24, 3) := by decide +kernel
theorem dX10_init_28 : decode cX10_init 28 = .ok (.return_, 1) := by decide +kernel
theorem dX10_make_0 : decode cX10_make 0 = .ok (.aload_n 0, 1) := by decide +kernel
theorem dX10_make_1 : decode cX10_make 1 = .ok (.getfield 14, 3) := by decide +kernel
theorem dX10_make_4 : decode cX10_make 4 = .ok (.aload_n 1, 1) := by decide +kernel
theorem dX10_make_5 : decode cX10_make 5 = .ok (.getfield 28, 3) := by decide +kernel
theorem dX10_make_8 : decode cX10_make 8 = .ok (.invokevirtual 33, 3) := by decide +kernel
theorem dX10_make_11 : decode cX10_make 11 = .ok (.iconst 0, 1) := by decide +kernel
theorem dX10_make_12 : decode cX10_make 12 = .ok (.invokevirtual 37, 3) := by decide +kernel
theorem dX10_make_15 : decode cX10_make 15 = .ok (.aload_n 0, 1) := by decide +kernel
theorem dX10_make_16 : decode cX10_make 16 = .ok (.iconst 1, 1) := by decide +kernel
theorem dX10_make_17 : decode cX10_make 17 = .ok (.putfield 20, 3) := by decide +kernel
theorem dX10_make_20 : decode cX10_make 20 = .ok (.aload_n 0, 1) := by decide +kernel
theorem dX10_make_21 : decode cX10_make 21 = .ok (.iload 4, 2) := by decide +kernel
theorem dX10_make_23 : decode cX10_make 23 = .ok (.putfield 24, 3) := by decide +kernel
theorem dX10_make_26 : decode cX10_make 26 = .ok (.iconst 0, 1) := by decide +kernel
theorem dX10_make_27 : decode cX10_make 27 = .ok (.istore 5, 2) := by decide +kernel
theorem dX10_make_29 : decode cX10_make 29 = .ok (.iconst 0, 1) := by decide +kernel
theorem dX10_make_30 : decode cX10_make 30 = .ok (.istore 6, 2) := by decide +kernel
theorem dX10_make_32 : decode cX10_make 32 = .ok (.iload 6, 2) := by decide +kernel
theorem dX10_make_34 : decode cX10_make 34 = .ok (.iload_n 3, 1) := by decide +kernel
theorem dX10_make_35 : decode cX10_make 35 = .ok (.if_icmp .ge 101, 3) := by decide +kernel
theorem dX10_make_38 : decode cX10_make 38 = .ok (.iconst 0, 1) := by decide +kernel
theorem dX10_make_39 : decode cX10_make 39 = .ok (.istore 7, 2) := by decide +kernel
theorem dX10_make_41 : decode cX10_make 41 = .ok (.iload 7, 2) := by decide +kernel
theorem dX10_make_43 : decode cX10_make 43 = .ok (.aload_n 1, 1) := by decide +kernel
theorem dX10_make_44 : decode cX10_make 44 = .ok (.getfield 28, 3) := by decide +kernel
theorem dX10_make_47 : decode cX10_make 47 = .ok (.invokevirtual 33, 3) := by decide +kernel
theorem dX10_make_50 : decode cX10_make 50 = .ok (.if_icmp .ge 80, 3) := by decide +kernel
theorem dX10_make_53 : decode cX10_make 53 = .ok (.aload_n 1, 1) := by decide +kernel
theorem dX10_make_54 : decode cX10_make 54 = .ok (.getfield 28, 3) := by decide +kernel
theorem dX10_make_57 : decode cX10_make 57 = .ok (.iload 7, 2) := by decide +kernel
theorem dX10_make_59 : decode cX10_make 59 = .ok (.iconst 0, 1) := by decide +kernel
theorem dX10_make_60 : decode cX10_make 60 = .ok (.invokevirtual 40, 3) := by decide +kernel
theorem dX10_make_63 : decode cX10_make 63 = .ok (.istore 8, 2) := by decide +kernel
theorem dX10_make_65 : decode cX10_make 65 = .ok (.aload_n 0, 1) := by decide +kernel
theorem dX10_make_66 : decode cX10_make 66 = .ok (.bipush 100, 2) := by decide +kernel
theorem dX10_make_68 : decode cX10_make 68 = .ok (.invokevirtual 44, 3) := by decide +kernel
theorem dX10_make_71 : decode cX10_make 71 = .ok (.iload 8, 2) := by decide +kernel
theorem dX10_make_73 : decode cX10_make 73 = .ok (.aload_n 1, 1) := by decide +kernel
theorem dX10_make_74 : decode cX10_make 74 = .ok (.getfield 48, 3) := by decide +kernel
theorem dX10_make_77 : decode cX10_make 77 = .ok (.iload 6, 2) := by decide +kernel
theorem dX10_make_79 : decode cX10_make 79 = .ok (.iconst 2, 1) := by decide +kernel
theorem dX10_make_80 : decode cX10_make 80 = .ok (.invokevirtual 40, 3) := by decide +kernel
theorem dX10_make_83 : decode cX10_make 83 = .ok (.iadd, 1) := by decide +kernel
theorem dX10_make_84 : decode cX10_make 84 = .ok (.if_icmp .ge 40, 3) := by decide +kernel
theorem dX10_make_87 : decode cX10_make 87 = .ok (.iinc 5 1, 3) := by decide +kernel
theorem dX10_make_90 : decode cX10_make 90 = .ok (.aload_n 0, 1) := by decide +kernel
theorem dX10_make_91 : decode cX10_make 91 = .ok (.aload_n 1, 1) := by decide +kernel
theorem dX10_make_92 : decode cX10_make 92 = .ok (.iload_n 2, 1) := by decide +kernel
theorem dX10_make_93 : decode cX10_make 93 = .ok (.iload 6, 2) := by decide +kernel
theorem dX10_make_95 : decode cX10_make 95 = .ok (.invokevirtual 51, 3) := by decide +kernel
theorem dX10_make_98 : decode cX10_make 98 = .ok (.istore 9, 2) := by decide +kernel
theorem dX10_make_100 : decode cX10_make 100 = .ok (.aload_n 0, 1) := by decide +kernel
theorem dX10_make_101 : decode cX10_make 101 = .ok (.getfield 14, 3) := by decide +kernel
theorem dX10_make_104 : decode cX10_make 104 = .ok (.iload 7, 2) := by decide +kernel
theorem dX10_make_106 : decode cX10_make 106 = .ok (.iload 9, 2) := by decide +kernel
theorem dX10_make_108 : decode cX10_make 108 = .ok (.aload_n 0, 1) := by decide +kernel
theorem dX10_make_109 : decode cX10_make 109 = .ok (.getfield 14, 3) := by decide +kernel
theorem dX10_make_112 : decode cX10_make 112 = .ok (.iload 7, 2) := by decide +kernel
theorem dX10_make_114 : decode cX10_make 114 = .ok (.iload 9, 2) := by decide +kernel
theorem dX10_make_116 : decode cX10_make 116 = .ok (.invokevirtual 40, 3) := by decide +kernel
theorem dX10_make_119 : decode cX10_make 119 = .ok (.iconst 1, 1) := by decide +kernel
theorem dX10_make_120 : decode cX10_make 120 = .ok (.iadd, 1) := by decide +kernel
theorem dX10_make_121 : decode cX10_make 121 = .ok (.invokevirtual 55, 3) := by decide +kernel
theorem dX10_make_124 : decode cX10_make 124 = .ok (.iinc 7 1, 3) := by decide +kernel
theorem dX10_make_127 : decode cX10_make 127 = .ok (.goto (-86), 3) := by decide +kernel
theorem dX10_make_130 : decode cX10_make 130 = .ok (.iinc 6 1, 3) := by decide +kernel
theorem dX10_make_133 : decode cX10_make 133 = .ok (.goto (-101), 3) := by decide +kernel
theorem dX10_make_136 : decode cX10_make 136 = .ok (.iload 5, 2) := by decide +kernel
theorem dX10_make_138 : decode cX10_make 138 = .ok (.ireturn, 1) := by decide +kernel
theorem dX10_seenBy_0 : decode cX10_seenBy 0 = .ok (.aload_n 0, 1) := by decide +kernel
theorem dX10_seenBy_1 : decode cX10_seenBy 1 = .ok (.getfield 14, 3) := by decide +kernel
theorem dX10_seenBy_4 : decode cX10_seenBy 4 = .ok (.iload_n 1, 1) := by decide +kernel
theorem dX10_seenBy_5 : decode cX10_seenBy 5 = .ok (.invokevirtual 59, 3) := by decide +kernel
theorem dX10_seenBy_8 : decode cX10_seenBy 8 = .ok (.ifCond .eq 15, 3) := by decide +kernel
theorem dX10_seenBy_11 : decode cX10_seenBy 11 = .ok (.aload_n 0, 1) := by decide +kernel
theorem dX10_seenBy_12 : decode cX10_seenBy 12 = .ok (.getfield 14, 3) := by decide +kernel
theorem dX10_seenBy_15 : decode cX10_seenBy 15 = .ok (.iload_n 1, 1) := by decide +kernel
theorem dX10_seenBy_16 : decode cX10_seenBy 16 = .ok (.iload_n 2, 1) := by decide +kernel
theorem dX10_seenBy_17 : decode cX10_seenBy 17 = .ok (.invokevirtual 40, 3) := by decide +kernel
theorem dX10_seenBy_20 : decode cX10_seenBy 20 = .ok (.goto 4, 3) := by decide +kernel
theorem dX10_seenBy_23 : decode cX10_seenBy 23 = .ok (.iconst (-1), 1) := by decide +kernel
theorem dX10_seenBy_24 : decode cX10_seenBy 24 = .ok (.ireturn, 1) := by decide +kernel
theorem dX10_seenByAll_0 : decode cX10_seenByAll 0 = .ok (.iconst 0, 1) := by decide +kernel
theorem dX10_seenByAll_1 : decode cX10_seenByAll 1 = .ok (.istore_n 2, 1) := by decide +kernel
theorem dX10_seenByAll_2 : decode cX10_seenByAll 2 = .ok (.iconst 0, 1) := by decide +kernel
theorem dX10_seenByAll_3 : decode cX10_seenByAll 3 = .ok (.istore_n 3, 1) := by decide +kernel
theorem dX10_seenByAll_4 : decode cX10_seenByAll 4 = .ok (.iload_n 3, 1) := by decide +kernel
theorem dX10_seenByAll_5 : decode cX10_seenByAll 5 = .ok (.aload_n 0, 1) := by decide +kernel
theorem dX10_seenByAll_6 : decode cX10_seenByAll 6 = .ok (.getfield 14, 3) := by decide +kernel
theorem dX10_seenByAll_9 : decode cX10_seenByAll 9 = .ok (.invokevirtual 33, 3) := by decide +kernel
theorem dX10_seenByAll_12 : decode cX10_seenByAll 12 = .ok (.if_icmp .ge 21, 3) := by decide +kernel
theorem dX10_seenByAll_15 : decode cX10_seenByAll 15 = .ok (.iload_n 2, 1) := by decide +kernel
theorem dX10_seenByAll_16 : decode cX10_seenByAll 16 = .ok (.aload_n 0, 1) := by decide +kernel
theorem dX10_seenByAll_17 : decode cX10_seenByAll 17 = .ok (.getfield 14, 3) := by decide +kernel
theorem dX10_seenByAll_20 : decode cX10_seenByAll 20 = .ok (.iload_n 3, 1) := by decide +kernel
theorem dX10_seenByAll_21 : decode cX10_seenByAll 21 = .ok (.iload_n 1, 1) := by decide +kernel
theorem dX10_seenByAll_22 : decode cX10_seenByAll 22 = .ok (.invokevirtual 40, 3) := by decide +kernel
theorem dX10_seenByAll_25 : decode cX10_seenByAll 25 = .ok (.iadd, 1) := by decide +kernel
theorem dX10_seenByAll_26 : decode cX10_seenByAll 26 = .ok (.istore_n 2, 1) := by decide +kernel
theorem dX10_seenByAll_27 : decode cX10_seenByAll 27 = .ok (.iinc 3 1, 3) := by decide +kernel
theorem dX10_seenByAll_30 : decode cX10_seenByAll 30 = .ok (.goto (-26), 3) := by decide +kernel
theorem dX10_seenByAll_33 : decode cX10_seenByAll 33 = .ok (.aload_n 0, 1) := by decide +kernel
theorem dX10_seenByAll_34 : decode cX10_seenByAll 34 = .ok (.getfield 20, 3) := by decide +kernel
theorem dX10_seenByAll_37 : decode cX10_seenByAll 37 = .ok (.ifCond .eq 7, 3) := by decide +kernel
theorem dX10_seenByAll_40 : decode cX10_seenByAll 40 = .ok (.iload_n 2, 1) := by decide +kernel
theorem dX10_seenByAll_41 : decode cX10_seenByAll 41 = .ok (.goto 4, 3) := by decide +kernel
theorem dX10_seenByAll_44 : decode cX10_seenByAll 44 = .ok (.iconst (-1), 1) := by decide +kernel
theorem dX10_seenByAll_45 : decode cX10_seenByAll 45 = .ok (.ireturn, 1) := by decide +kernel
theorem dX10_look_0 : decode cX10_look 0 = .ok (.aload_n 0, 1) := by decide +kernel
theorem dX10_look_1 : decode cX10_look 1 = .ok (.sipush 1000, 3) := by decide +kernel
theorem dX10_look_4 : decode cX10_look 4 = .ok (.invokevirtual 44, 3) := by decide +kernel
theorem dX10_look_7 : decode cX10_look 7 = .ok (.aload_n 1, 1) := by decide +kernel
theorem dX10_look_8 : decode cX10_look 8 = .ok (.getfield 63, 3) := by decide +kernel
theorem dX10_look_11 : decode cX10_look 11 = .ok (.iload_n 2, 1) := by decide +kernel
theorem dX10_look_12 : decode cX10_look 12 = .ok (.iconst 1, 1) := by decide +kernel
theorem dX10_look_13 : decode cX10_look 13 = .ok (.invokevirtual 40, 3) := by decide +kernel
theorem dX10_look_16 : decode cX10_look 16 = .ok (.aload_n 1, 1) := by decide +kernel
theorem dX10_look_17 : decode cX10_look 17 = .ok (.getfield 63, 3) := by decide +kernel
theorem dX10_look_20 : decode cX10_look 20 = .ok (.iload_n 2, 1) := by decide +kernel
theorem dX10_look_21 : decode cX10_look 21 = .ok (.iconst 2, 1) := by decide +kernel
theorem dX10_look_22 : decode cX10_look 22 = .ok (.invokevirtual 40, 3) := by decide +kernel
theorem dX10_look_25 : decode cX10_look 25 = .ok (.imul, 1) := by decide +kernel
theorem dX10_look_26 : decode cX10_look 26 = .ok (.if_icmp .ge 5, 3) := by decide +kernel
theorem dX10_look_29 : decode cX10_look 29 = .ok (.iconst 0, 1) := by decide +kernel
theorem dX10_look_30 : decode cX10_look 30 = .ok (.ireturn, 1) := by decide +kernel
theorem dX10_look_31 : decode cX10_look 31 = .ok (.aload_n 1, 1) := by decide +kernel
theorem dX10_look_32 : decode cX10_look 32 = .ok (.iload_n 3, 1) := by decide +kernel
theorem dX10_look_33 : decode cX10_look 33 = .ok (.invokevirtual 66, 3) := by decide +kernel
theorem dX10_look_36 : decode cX10_look 36 = .ok (.ifCond .eq 23, 3) := by decide +kernel
theorem dX10_look_39 : decode cX10_look 39 = .ok (.aload_n 0, 1) := by decide +kernel
theorem dX10_look_40 : decode cX10_look 40 = .ok (.bipush 10, 2) := by decide +kernel
theorem dX10_look_42 : decode cX10_look 42 = .ok (.invokevirtual 44, 3) := by decide +kernel
theorem dX10_look_45 : decode cX10_look 45 = .ok (.aload_n 1, 1) := by decide +kernel
theorem dX10_look_46 : decode cX10_look 46 = .ok (.getfield 48, 3) := by decide +kernel
theorem dX10_look_49 : decode cX10_look 49 = .ok (.iload_n 3, 1) := by decide +kernel
theorem dX10_look_50 : decode cX10_look 50 = .ok (.iconst 0, 1) := by decide +kernel
theorem dX10_look_51 : decode cX10_look 51 = .ok (.invokevirtual 40, 3) := by decide +kernel
theorem dX10_look_54 : decode cX10_look 54 = .ok (.if_icmp .le 5, 3) := by decide +kernel
theorem dX10_look_57 : decode cX10_look 57 = .ok (.iconst 1, 1) := by decide +kernel
theorem dX10_look_58 : decode cX10_look 58 = .ok (.ireturn, 1) := by decide +kernel
theorem dX10_look_59 : decode cX10_look 59 = .ok (.iconst 2, 1) := by decide +kernel
theorem dX10_look_60 : decode cX10_look 60 = .ok (.ireturn, 1) := by decide +kernel
theorem dX10_draw_0 : decode cX10_draw 0 = .ok (.aload_n 0, 1) := by decide +kernel
theorem dX10_draw_1 : decode cX10_draw 1 = .ok (.aload_n 0, 1) := by decide +kernel
theorem dX10_draw_2 : decode cX10_draw 2 = .ok (.getfield 24, 3) := by decide +kernel
theorem dX10_draw_5 : decode cX10_draw 5 = .ok (.sipush 1103, 3) := by decide +kernel
theorem dX10_draw_8 : decode cX10_draw 8 = .ok (.imul, 1) := by decide +kernel
theorem dX10_draw_9 : decode cX10_draw 9 = .ok (.sipush 12345, 3) := by decide +kernel
theorem dX10_draw_12 : decode cX10_draw 12 = .ok (.iadd, 1) := by decide +kernel
theorem dX10_draw_13 : decode cX10_draw 13 = .ok (.ldc 69, 2) := by decide +kernel
theorem dX10_draw_15 : decode cX10_draw 15 = .ok (.irem, 1) := by decide +kernel
theorem dX10_draw_16 : decode cX10_draw 16 = .ok (.putfield 24, 3) := by decide +kernel
theorem dX10_draw_19 : decode cX10_draw 19 = .ok (.iload_n 1, 1) := by decide +kernel
theorem dX10_draw_20 : decode cX10_draw 20 = .ok (.ifCond .le 12, 3) := by decide +kernel
theorem dX10_draw_23 : decode cX10_draw 23 = .ok (.aload_n 0, 1) := by decide +kernel
theorem dX10_draw_24 : decode cX10_draw 24 = .ok (.getfield 24, 3) := by decide +kernel
theorem dX10_draw_27 : decode cX10_draw 27 = .ok (.iload_n 1, 1) := by decide +kernel
theorem dX10_draw_28 : decode cX10_draw 28 = .ok (.irem, 1) := by decide +kernel
theorem dX10_draw_29 : decode cX10_draw 29 = .ok (.goto 4, 3) := by decide +kernel
theorem dX10_draw_32 : decode cX10_draw 32 = .ok (.iconst 0, 1) := by decide +kernel
theorem dX10_draw_33 : decode cX10_draw 33 = .ok (.ireturn, 1) := by decide +kernel
theorem dX11_init_0 : decode cX11_init 0 = .ok (.aload_n 0, 1) := by decide +kernel
theorem dX11_init_1 : decode cX11_init 1 = .ok (.invokespecial 1, 3) := by decide +kernel
theorem dX11_init_4 : decode cX11_init 4 = .ok (.aload_n 0, 1) := by decide +kernel
theorem dX11_init_5 : decode cX11_init 5 = .ok (.new 7, 3) := by decide +kernel
theorem dX11_init_8 : decode cX11_init 8 = .ok (.dup, 1) := by decide +kernel
theorem dX11_init_9 : decode cX11_init 9 = .ok (.invokespecial 9, 3) := by decide +kernel
theorem dX11_init_12 : decode cX11_init 12 = .ok (.putfield 10, 3) := by decide +kernel
theorem dX11_init_15 : decode cX11_init 15 = .ok (.aload_n 0, 1) := by decide +kernel
theorem dX11_init_16 : decode cX11_init 16 = .ok (.iconst 2, 1) := by decide +kernel
theorem dX11_init_17 : decode cX11_init 17 = .ok (.anewarray 7, 3) := by decide +kernel
theorem dX11_init_20 : decode cX11_init 20 = .ok (.putfield 16, 3) := by decide +kernel
theorem dX11_init_23 : decode cX11_init 23 = .ok (.aload_n 0, 1) := by decide +kernel
theorem dX11_init_24 : decode cX11_init 24 = .ok (.iconst 2, 1) := by decide +kernel
theorem dX11_init_25 : decode cX11_init 25 = .ok (.newarray .boolean, 2) := by decide +kernel
theorem dX11_init_27 : decode cX11_init 27 = .ok (.putfield 20, 3) := by decide +kernel
theorem dX11_init_30 : decode cX11_init 30 = .ok (.aload_n 0, 1) := by decide +kernel
theorem dX11_init_31 : decode cX11_init 31 = .ok (.new 24, 3) := by decide +kernel
theorem dX11_init_34 : decode cX11_init 34 = .ok (.dup, 1) := by decide +kernel
theorem dX11_init_35 : decode cX11_init 35 = .ok (.invokespecial 26, 3) := by decide +kernel
theorem dX11_init_38 : decode cX11_init 38 = .ok (.putfield 27, 3) := by decide +kernel
theorem dX11_init_41 : decode cX11_init 41 = .ok (.aload_n 0, 1) := by decide +kernel
theorem dX11_init_42 : decode cX11_init 42 = .ok (.new 31, 3) := by decide +kernel
theorem dX11_init_45 : decode cX11_init 45 = .ok (.dup, 1) := by decide +kernel
theorem dX11_init_46 : decode cX11_init 46 = .ok (.invokespecial 33, 3) := by decide +kernel
theorem dX11_init_49 : decode cX11_init 49 = .ok (.putfield 34, 3) := by decide +kernel
theorem dX11_init_52 : decode cX11_init 52 = .ok (.aload_n 0, 1) := by decide +kernel
theorem dX11_init_53 : decode cX11_init 53 = .ok (.new 38, 3) := by decide +kernel
theorem dX11_init_56 : decode cX11_init 56 = .ok (.dup, 1) := by decide +kernel
theorem dX11_init_57 : decode cX11_init 57 = .ok (.invokespecial 40, 3) := by decide +kernel
theorem dX11_init_60 : decode cX11_init 60 = .ok (.putfield 41, 3) := by decide +kernel
theorem dX11_init_63 : decode cX11_init 63 = .ok (.aload_n 0, 1) := by decide +kernel
theorem dX11_init_64 : decode cX11_init 64 = .ok (.new 45, 3) := by decide +kernel
theorem dX11_init_67 : decode cX11_init 67 = .ok (.dup, 1) := by decide +kernel
theorem dX11_init_68 : decode cX11_init 68 = .ok (.invokespecial 47, 3) := by decide +kernel
theorem dX11_init_71 : decode cX11_init 71 = .ok (.putfield 48, 3) := by decide +kernel
theorem dX11_init_74 : decode cX11_init 74 = .ok (.aload_n 0, 1) := by decide +kernel
theorem dX11_init_75 : decode cX11_init 75 = .ok (.new 52, 3) := by decide +kernel
theorem dX11_init_78 : decode cX11_init 78 = .ok (.dup, 1) := by decide +kernel
theorem dX11_init_79 : decode cX11_init 79 = .ok (.invokespecial 54, 3) := by decide +kernel
theorem dX11_init_82 : decode cX11_init 82 = .ok (.putfield 55, 3) := by decide +kernel
theorem dX11_init_85 : decode cX11_init 85 = .ok (.aload_n 0, 1) := by decide +kernel
theorem dX11_init_86 : decode cX11_init 86 = .ok (.new 59, 3) := by decide +kernel
theorem dX11_init_89 : decode cX11_init 89 = .ok (.dup, 1) := by decide +kernel
theorem dX11_init_90 : decode cX11_init 90 = .ok (.invokespecial 61, 3) := by decide +kernel
theorem dX11_init_93 : decode cX11_init 93 = .ok (.putfield 62, 3) := by decide +kernel
theorem dX11_init_96 : decode cX11_init 96 = .ok (.aload_n 0, 1) := by decide +kernel
theorem dX11_init_97 : decode cX11_init 97 = .ok (.iconst 4, 1) := by decide +kernel
theorem dX11_init_98 : decode cX11_init 98 = .ok (.newarray .int, 2) := by decide +kernel
theorem dX11_init_100 : decode cX11_init 100 = .ok (.putfield 66, 3) := by decide +kernel
theorem dX11_init_103 : decode cX11_init 103 = .ok (.aload_n 0, 1) := by decide +kernel
theorem dX11_init_104 : decode cX11_init 104 = .ok (.iconst 0, 1) := by decide +kernel
theorem dX11_init_105 : decode cX11_init 105 = .ok (.putfield 70, 3) := by decide +kernel
theorem dX11_init_108 : decode cX11_init 108 = .ok (.aload_n 0, 1) := by decide +kernel
theorem dX11_init_109 : decode cX11_init 109 = .ok (.iconst (-1), 1) := by decide +kernel
theorem dX11_init_110 : decode cX11_init 110 = .ok (.putfield 74, 3) := by decide +kernel
theorem dX11_init_113 : decode cX11_init 113 = .ok (.aload_n 0, 1) := by decide +kernel
theorem dX11_init_114 : decode cX11_init 114 = .ok (.iconst 0, 1) := by decide +kernel
theorem dX11_init_115 : decode cX11_init 115 = .ok (.putfield 77, 3) := by decide +kernel
theorem dX11_init_118 : decode cX11_init 118 = .ok (.iconst 0, 1) := by decide +kernel
theorem dX11_init_119 : decode cX11_init 119 = .ok (.istore_n 1, 1) := by decide +kernel
theorem dX11_init_120 : decode cX11_init 120 = .ok (.iload_n 1, 1) := by decide +kernel
theorem dX11_init_121 : decode cX11_init 121 = .ok (.iconst 2, 1) := by decide +kernel
theorem dX11_init_122 : decode cX11_init 122 = .ok (.if_icmp .ge 22, 3) := by decide +kernel
theorem dX11_init_125 : decode cX11_init 125 = .ok (.aload_n 0, 1) := by decide +kernel
theorem dX11_init_126 : decode cX11_init 126 = .ok (.getfield 16, 3) := by decide +kernel
theorem dX11_init_129 : decode cX11_init 129 = .ok (.iload_n 1, 1) := by decide +kernel
theorem dX11_init_130 : decode cX11_init 130 = .ok (.new 7, 3) := by decide +kernel
theorem dX11_init_133 : decode cX11_init 133 = .ok (.dup, 1) := by decide +kernel
theorem dX11_init_134 : decode cX11_init 134 = .ok (.invokespecial 9, 3) := by decide +kernel
theorem dX11_init_137 : decode cX11_init 137 = .ok (.aastore, 1) := by decide +kernel
theorem dX11_init_138 : decode cX11_init 138 = .ok (.iinc 1 1, 3) := by decide +kernel
theorem dX11_init_141 : decode cX11_init 141 = .ok (.goto (-21), 3) := by decide +kernel
theorem dX11_init_144 : decode cX11_init 144 = .ok (.return_, 1) := by decide +kernel
theorem dX11_day_0 : decode cX11_day 0 = .ok (.iload_n 1, 1) := by decide +kernel
theorem dX11_day_1 : decode cX11_day 1 = .ok (.iconst 0, 1) := by decide +kernel
theorem dX11_day_2 : decode cX11_day 2 = .ok (.bipush 59, 2) := by decide +kernel
theorem dX11_day_4 : decode cX11_day 4 = .ok (.invokestatic 80, 3) := by decide +kernel
theorem dX11_day_7 : decode cX11_day 7 = .ok (.ifCond .eq 22, 3) := by decide +kernel
theorem dX11_day_10 : decode cX11_day 10 = .ok (.iload_n 2, 1) := by decide +kernel
theorem dX11_day_11 : decode cX11_day 11 = .ok (.iconst 0, 1) := by decide +kernel
theorem dX11_day_12 : decode cX11_day 12 = .ok (.iconst 2, 1) := by decide +kernel
theorem dX11_day_13 : decode cX11_day 13 = .ok (.invokestatic 80, 3) := by decide +kernel
theorem dX11_day_16 : decode cX11_day 16 = .ok (.ifCond .eq 13, 3) := by decide +kernel
theorem dX11_day_19 : decode cX11_day 19 = .ok (.iload_n 3, 1) := by decide +kernel
theorem dX11_day_20 : decode cX11_day 20 = .ok (.iconst 0, 1) := by decide +kernel
theorem dX11_day_21 : decode cX11_day 21 = .ok (.bipush 9, 2) := by decide +kernel
theorem dX11_day_23 : decode cX11_day 23 = .ok (.invokestatic 80, 3) := by decide +kernel
theorem dX11_day_26 : decode cX11_day 26 = .ok (.ifCond .ne 9, 3) := by decide +kernel
theorem dX11_day_29 : decode cX11_day 29 = .ok (.aload_n 0, 1) := by decide +kernel
theorem dX11_day_30 : decode cX11_day 30 = .ok (.iconst (-1), 1) := by decide +kernel
theorem dX11_day_31 : decode cX11_day 31 = .ok (.invokevirtual 84, 3) := by decide +kernel
theorem dX11_day_34 : decode cX11_day 34 = .ok (.ireturn, 1) := by decide +kernel
theorem dX11_day_35 : decode cX11_day 35 = .ok (.aload_n 0, 1) := by decide +kernel
theorem dX11_day_36 : decode cX11_day 36 = .ok (.aload_n 0, 1) := by decide +kernel
theorem dX11_day_37 : decode cX11_day 37 = .ok (.getfield 10, 3) := by decide +kernel
theorem dX11_day_40 : decode cX11_day 40 = .ok (.getfield 88, 3) := by decide +kernel
theorem dX11_day_43 : decode cX11_day 43 = .ok (.iload_n 1, 1) := by decide +kernel
theorem dX11_day_44 : decode cX11_day 44 = .ok (.iload_n 2, 1) := by decide +kernel
theorem dX11_day_45 : decode cX11_day 45 = .ok (.iload_n 3, 1) := by decide +kernel
theorem dX11_day_46 : decode cX11_day 46 = .ok (.invokevirtual 92, 3) := by decide +kernel
theorem dX11_day_49 : decode cX11_day 49 = .ok (.invokevirtual 98, 3) := by decide +kernel
theorem dX11_day_52 : decode cX11_day 52 = .ok (.ireturn, 1) := by decide +kernel
theorem dX11_boat_0 : decode cX11_boat 0 = .ok (.iload_n 1, 1) := by decide +kernel
theorem dX11_boat_1 : decode cX11_boat 1 = .ok (.iconst 0, 1) := by decide +kernel
theorem dX11_boat_2 : decode cX11_boat 2 = .ok (.bipush 59, 2) := by decide +kernel
theorem dX11_boat_4 : decode cX11_boat 4 = .ok (.invokestatic 80, 3) := by decide +kernel
theorem dX11_boat_7 : decode cX11_boat 7 = .ok (.ifCond .eq 34, 3) := by decide +kernel
theorem dX11_boat_10 : decode cX11_boat 10 = .ok (.iload_n 2, 1) := by decide +kernel
theorem dX11_boat_11 : decode cX11_boat 11 = .ok (.iconst 0, 1) := by decide +kernel
theorem dX11_boat_12 : decode cX11_boat 12 = .ok (.iconst 1, 1) := by decide +kernel
theorem dX11_boat_13 : decode cX11_boat 13 = .ok (.invokestatic 80, 3) := by decide +kernel
theorem dX11_boat_16 : decode cX11_boat 16 = .ok (.ifCond .eq 25, 3) := by decide +kernel
theorem dX11_boat_19 : decode cX11_boat 19 = .ok (.iload_n 3, 1) := by decide +kernel
theorem dX11_boat_20 : decode cX11_boat 20 = .ok (.iconst 0, 1) := by decide +kernel
theorem dX11_boat_21 : decode cX11_boat 21 = .ok (.sipush 1439, 3) := by decide +kernel
theorem dX11_boat_24 : decode cX11_boat 24 = .ok (.invokestatic 80, 3) := by decide +kernel
theorem dX11_boat_27 : decode cX11_boat 27 = .ok (.ifCond .eq 14, 3) := by decide +kernel
theorem dX11_boat_30 : decode cX11_boat 30 = .ok (.iload 4, 2) := by decide +kernel
theorem dX11_boat_32 : decode cX11_boat 32 = .ok (.iconst 1, 1) := by decide +kernel
theorem dX11_boat_33 : decode cX11_boat 33 = .ok (.bipush 24, 2) := by decide +kernel
theorem dX11_boat_35 : decode cX11_boat 35 = .ok (.invokestatic 80, 3) := by decide +kernel
theorem dX11_boat_38 : decode cX11_boat 38 = .ok (.ifCond .ne 9, 3) := by decide +kernel
theorem dX11_boat_41 : decode cX11_boat 41 = .ok (.aload_n 0, 1) := by decide +kernel
theorem dX11_boat_42 : decode cX11_boat 42 = .ok (.iconst (-1), 1) := by decide +kernel
theorem dX11_boat_43 : decode cX11_boat 43 = .ok (.invokevirtual 84, 3) := by decide +kernel
theorem dX11_boat_46 : decode cX11_boat 46 = .ok (.ireturn, 1) := by decide +kernel
theorem dX11_boat_47 : decode cX11_boat 47 = .ok (.aload_n 0, 1) := by decide +kernel
theorem dX11_boat_48 : decode cX11_boat 48 = .ok (.aload_n 0, 1) := by decide +kernel
theorem dX11_boat_49 : decode cX11_boat 49 = .ok (.getfield 10, 3) := by decide +kernel
theorem dX11_boat_52 : decode cX11_boat 52 = .ok (.getfield 101, 3) := by decide +kernel
theorem dX11_boat_55 : decode cX11_boat 55 = .ok (.iload_n 1, 1) := by decide +kernel
theorem dX11_boat_56 : decode cX11_boat 56 = .ok (.iload_n 2, 1) := by decide +kernel
theorem dX11_boat_57 : decode cX11_boat 57 = .ok (.iload_n 3, 1) := by decide +kernel
theorem dX11_boat_58 : decode cX11_boat 58 = .ok (.iload 4, 2) := by decide +kernel
theorem dX11_boat_60 : decode cX11_boat 60 = .ok (.invokevirtual 104, 3) := by decide +kernel
theorem dX11_boat_63 : decode cX11_boat 63 = .ok (.ireturn, 1) := by decide +kernel
theorem dX11_beast_0 : decode cX11_beast 0 = .ok (.iload_n 1, 1) := by decide +kernel
theorem dX11_beast_1 : decode cX11_beast 1 = .ok (.iconst 0, 1) := by decide +kernel
theorem dX11_beast_2 : decode cX11_beast 2 = .ok (.bipush 59, 2) := by decide +kernel
theorem dX11_beast_4 : decode cX11_beast 4 = .ok (.invokestatic 80, 3) := by decide +kernel
theorem dX11_beast_7 : decode cX11_beast 7 = .ok (.ifCond .eq 36, 3) := by decide +kernel
theorem dX11_beast_10 : decode cX11_beast 10 = .ok (.iload_n 2, 1) := by decide +kernel
theorem dX11_beast_11 : decode cX11_beast 11 = .ok (.iconst 0, 1) := by decide +kernel
theorem dX11_beast_12 : decode cX11_beast 12 = .ok (.bipush 23, 2) := by decide +kernel
theorem dX11_beast_14 : decode cX11_beast 14 = .ok (.invokestatic 80, 3) := by decide +kernel
theorem dX11_beast_17 : decode cX11_beast 17 = .ok (.ifCond .eq 26, 3) := by decide +kernel
theorem dX11_beast_20 : decode cX11_beast 20 = .ok (.iload_n 3, 1) := by decide +kernel
theorem dX11_beast_21 : decode cX11_beast 21 = .ok (.iconst 0, 1) := by decide +kernel
theorem dX11_beast_22 : decode cX11_beast 22 = .ok (.sipush 1439, 3) := by decide +kernel
theorem dX11_beast_25 : decode cX11_beast 25 = .ok (.invokestatic 80, 3) := by decide +kernel
theorem dX11_beast_28 : decode cX11_beast 28 = .ok (.ifCond .eq 15, 3) := by decide +kernel
theorem dX11_beast_31 : decode cX11_beast 31 = .ok (.iload 4, 2) := by decide +kernel
theorem dX11_beast_33 : decode cX11_beast 33 = .ok (.iload_n 3, 1) := by decide +kernel
theorem dX11_beast_34 : decode cX11_beast 34 = .ok (.sipush 1439, 3) := by decide +kernel
theorem dX11_beast_37 : decode cX11_beast 37 = .ok (.invokestatic 80, 3) := by decide +kernel
theorem dX11_beast_40 : decode cX11_beast 40 = .ok (.ifCond .ne 9, 3) := by decide +kernel
theorem dX11_beast_43 : decode cX11_beast 43 = .ok (.aload_n 0, 1) := by decide +kernel
theorem dX11_beast_44 : decode cX11_beast 44 = .ok (.iconst (-1), 1) := by decide +kernel
theorem dX11_beast_45 : decode cX11_beast 45 = .ok (.invokevirtual 84, 3) := by decide +kernel
theorem dX11_beast_48 : decode cX11_beast 48 = .ok (.ireturn, 1) := by decide +kernel
theorem dX11_beast_49 : decode cX11_beast 49 = .ok (.aload_n 0, 1) := by decide +kernel
theorem dX11_beast_50 : decode cX11_beast 50 = .ok (.aload_n 0, 1) := by decide +kernel
theorem dX11_beast_51 : decode cX11_beast 51 = .ok (.getfield 10, 3) := by decide +kernel
theorem dX11_beast_54 : decode cX11_beast 54 = .ok (.getfield 108, 3) := by decide +kernel
theorem dX11_beast_57 : decode cX11_beast 57 = .ok (.iload_n 1, 1) := by decide +kernel
theorem dX11_beast_58 : decode cX11_beast 58 = .ok (.iload_n 2, 1) := by decide +kernel
theorem dX11_beast_59 : decode cX11_beast 59 = .ok (.iload_n 3, 1) := by decide +kernel
theorem dX11_beast_60 : decode cX11_beast 60 = .ok (.iload 4, 2) := by decide +kernel
theorem dX11_beast_62 : decode cX11_beast 62 = .ok (.invokevirtual 104, 3) := by decide +kernel
theorem dX11_beast_65 : decode cX11_beast 65 = .ok (.ireturn, 1) := by decide +kernel
theorem dX11_log_0 : decode cX11_log 0 = .ok (.iload_n 1, 1) := by decide +kernel
theorem dX11_log_1 : decode cX11_log 1 = .ok (.iconst 0, 1) := by decide +kernel
theorem dX11_log_2 : decode cX11_log 2 = .ok (.bipush 59, 2) := by decide +kernel
theorem dX11_log_4 : decode cX11_log 4 = .ok (.invokestatic 80, 3) := by decide +kernel
theorem dX11_log_7 : decode cX11_log 7 = .ok (.ifCond .eq 13, 3) := by decide +kernel
theorem dX11_log_10 : decode cX11_log 10 = .ok (.iload_n 2, 1) := by decide +kernel
theorem dX11_log_11 : decode cX11_log 11 = .ok (.iconst 0, 1) := by decide +kernel
theorem dX11_log_12 : decode cX11_log 12 = .ok (.bipush 23, 2) := by decide +kernel
theorem dX11_log_14 : decode cX11_log 14 = .ok (.invokestatic 80, 3) := by decide +kernel
theorem dX11_log_17 : decode cX11_log 17 = .ok (.ifCond .ne 9, 3) := by decide +kernel
theorem dX11_log_20 : decode cX11_log 20 = .ok (.aload_n 0, 1) := by decide +kernel
theorem dX11_log_21 : decode cX11_log 21 = .ok (.iconst (-1), 1) := by decide +kernel
theorem dX11_log_22 : decode cX11_log 22 = .ok (.invokevirtual 84, 3) := by decide +kernel
theorem dX11_log_25 : decode cX11_log 25 = .ok (.ireturn, 1) := by decide +kernel
theorem dX11_log_26 : decode cX11_log 26 = .ok (.aload_n 0, 1) := by decide +kernel
theorem dX11_log_27 : decode cX11_log 27 = .ok (.aload_n 0, 1) := by decide +kernel
theorem dX11_log_28 : decode cX11_log 28 = .ok (.getfield 10, 3) := by decide +kernel
theorem dX11_log_31 : decode cX11_log 31 = .ok (.getfield 111, 3) := by decide +kernel
theorem dX11_log_34 : decode cX11_log 34 = .ok (.iload_n 1, 1) := by decide +kernel
theorem dX11_log_35 : decode cX11_log 35 = .ok (.iload_n 2, 1) := by decide +kernel
theorem dX11_log_36 : decode cX11_log 36 = .ok (.iconst 0, 1) := by decide +kernel
theorem dX11_log_37 : decode cX11_log 37 = .ok (.iconst 0, 1) := by decide +kernel
theorem dX11_log_38 : decode cX11_log 38 = .ok (.invokevirtual 104, 3) := by decide +kernel
theorem dX11_log_41 : decode cX11_log 41 = .ok (.ireturn, 1) := by decide +kernel
theorem dX11_watcher_0 : decode cX11_watcher 0 = .ok (.iload_n 1, 1) := by decide +kernel
theorem dX11_watcher_1 : decode cX11_watcher 1 = .ok (.iconst 0, 1) := by decide +kernel
theorem dX11_watcher_2 : decode cX11_watcher 2 = .ok (.bipush 100, 2) := by decide +kernel
theorem dX11_watcher_4 : decode cX11_watcher 4 = .ok (.invokestatic 80, 3) := by decide +kernel
theorem dX11_watcher_7 : decode cX11_watcher 7 = .ok (.ifCond .ne 9, 3) := by decide +kernel
theorem dX11_watcher_10 : decode cX11_watcher 10 = .ok (.aload_n 0, 1) := by decide +kernel
theorem dX11_watcher_11 : decode cX11_watcher 11 = .ok (.iconst (-1), 1) := by decide +kernel
theorem dX11_watcher_12 : decode cX11_watcher 12 = .ok (.invokevirtual 84, 3) := by decide +kernel
theorem dX11_watcher_15 : decode cX11_watcher 15 = .ok (.ireturn, 1) := by decide +kernel
theorem dX11_watcher_16 : decode cX11_watcher 16 = .ok (.aload_n 0, 1) := by decide +kernel
theorem dX11_watcher_17 : decode cX11_watcher 17 = .ok (.aload_n 0, 1) := by decide +kernel
theorem dX11_watcher_18 : decode cX11_watcher 18 = .ok (.getfield 10, 3) := by decide +kernel
theorem dX11_watcher_21 : decode cX11_watcher 21 = .ok (.getfield 114, 3) := by decide +kernel
theorem dX11_watcher_24 : decode cX11_watcher 24 = .ok (.iload_n 1, 1) := by decide +kernel
theorem dX11_watcher_25 : decode cX11_watcher 25 = .ok (.iconst 0, 1) := by decide +kernel
theorem dX11_watcher_26 : decode cX11_watcher 26 = .ok (.iconst 0, 1) := by decide +kernel
theorem dX11_watcher_27 : decode cX11_watcher 27 = .ok (.iconst 0, 1) := by decide +kernel
theorem dX11_watcher_28 : decode cX11_watcher 28 = .ok (.invokevirtual 104, 3) := by decide +kernel
theorem dX11_watcher_31 : decode cX11_watcher 31 = .ok (.ireturn, 1) := by decide +kernel
theorem dX11_pole_0 : decode cX11_pole 0 = .ok (.iload_n 2, 1) := by decide +kernel
theorem dX11_pole_1 : decode cX11_pole 1 = .ok (.iconst 1, 1) := by decide +kernel
theorem dX11_pole_2 : decode cX11_pole 2 = .ok (.bipush 99, 2) := by decide +kernel
theorem dX11_pole_4 : decode cX11_pole 4 = .ok (.invokestatic 80, 3) := by decide +kernel
theorem dX11_pole_7 : decode cX11_pole 7 = .ok (.ifCond .eq 14, 3) := by decide +kernel
theorem dX11_pole_10 : decode cX11_pole 10 = .ok (.iload_n 3, 1) := by decide +kernel
theorem dX11_pole_11 : decode cX11_pole 11 = .ok (.iconst 1, 1) := by decide +kernel
theorem dX11_pole_12 : decode cX11_pole 12 = .ok (.sipush 200, 3) := by decide +kernel
theorem dX11_pole_15 : decode cX11_pole 15 = .ok (.invokestatic 80, 3) := by decide +kernel
theorem dX11_pole_18 : decode cX11_pole 18 = .ok (.ifCond .ne 9, 3) := by decide +kernel
theorem dX11_pole_21 : decode cX11_pole 21 = .ok (.aload_n 0, 1) := by decide +kernel
theorem dX11_pole_22 : decode cX11_pole 22 = .ok (.iconst (-1), 1) := by decide +kernel
theorem dX11_pole_23 : decode cX11_pole 23 = .ok (.invokevirtual 84, 3) := by decide +kernel
theorem dX11_pole_26 : decode cX11_pole 26 = .ok (.ireturn, 1) := by decide +kernel
theorem dX11_pole_27 : decode cX11_pole 27 = .ok (.aload_n 0, 1) := by decide +kernel
theorem dX11_pole_28 : decode cX11_pole 28 = .ok (.getfield 10, 3) := by decide +kernel
theorem dX11_pole_31 : decode cX11_pole 31 = .ok (.getfield 114, 3) := by decide +kernel
theorem dX11_pole_34 : decode cX11_pole 34 = .ok (.iload_n 1, 1) := by decide +kernel
theorem dX11_pole_35 : decode cX11_pole 35 = .ok (.invokevirtual 117, 3) := by decide +kernel
theorem dX11_pole_38 : decode cX11_pole 38 = .ok (.ifCond .ne 10, 3) := by decide +kernel
theorem dX11_pole_41 : decode cX11_pole 41 = .ok (.aload_n 0, 1) := by decide +kernel
theorem dX11_pole_42 : decode cX11_pole 42 = .ok (.bipush (-2), 2) := by decide +kernel
theorem dX11_pole_44 : decode cX11_pole 44 = .ok (.invokevirtual 84, 3) := by decide +kernel
theorem dX11_pole_47 : decode cX11_pole 47 = .ok (.ireturn, 1) := by decide +kernel
theorem dX11_pole_48 : decode cX11_pole 48 = .ok (.aload_n 0, 1) := by decide +kernel
theorem dX11_pole_49 : decode cX11_pole 49 = .ok (.aload_n 0, 1) := by decide +kernel
theorem dX11_pole_50 : decode cX11_pole 50 = .ok (.getfield 10, 3) := by decide +kernel
theorem dX11_pole_53 : decode cX11_pole 53 = .ok (.getfield 121, 3) := by decide +kernel
theorem dX11_pole_56 : decode cX11_pole 56 = .ok (.iload_n 1, 1) := by decide +kernel
theorem dX11_pole_57 : decode cX11_pole 57 = .ok (.iload_n 2, 1) := by decide +kernel
theorem dX11_pole_58 : decode cX11_pole 58 = .ok (.iload_n 3, 1) := by decide +kernel
theorem dX11_pole_59 : decode cX11_pole 59 = .ok (.iconst 0, 1) := by decide +kernel
theorem dX11_pole_60 : decode cX11_pole 60 = .ok (.invokevirtual 104, 3) := by decide +kernel
theorem dX11_pole_63 : decode cX11_pole 63 = .ok (.ireturn, 1) := by decide +kernel
theorem dX11_sight_0 : decode cX11_sight 0 = .ok (.aload_n 0, 1) := by decide +kernel
theorem dX11_sight_1 : decode cX11_sight 1 = .ok (.getfield 10, 3) := by decide +kernel
theorem dX11_sight_4 : decode cX11_sight 4 = .ok (.iload_n 1, 1) := by decide +kernel
theorem dX11_sight_5 : decode cX11_sight 5 = .ok (.iload_n 2, 1) := by decide +kernel
theorem dX11_sight_6 : decode cX11_sight 6 = .ok (.iload_n 3, 1) := by decide +kernel
theorem dX11_sight_7 : decode cX11_sight 7 = .ok (.iload 4, 2) := by decide +kernel
theorem dX11_sight_9 : decode cX11_sight 9 = .ok (.iload 5, 2) := by decide +kernel
theorem dX11_sight_11 : decode cX11_sight 11 = .ok (.iload 6, 2) := by decide +kernel
theorem dX11_sight_13 : decode cX11_sight 13 = .ok (.iload 7, 2) := by decide +kernel
theorem dX11_sight_15 : decode cX11_sight 15 = .ok (.invokevirtual 124, 3) := by decide +kernel
theorem dX11_sight_18 : decode cX11_sight 18 = .ok (.istore 8, 2) := by decide +kernel
theorem dX11_sight_20 : decode cX11_sight 20 = .ok (.iload 8, 2) := by decide +kernel
theorem dX11_sight_22 : decode cX11_sight 22 = .ok (.ifCond .eq 10, 3) := by decide +kernel
theorem dX11_sight_25 : decode cX11_sight 25 = .ok (.aload_n 0, 1) := by decide +kernel
theorem dX11_sight_26 : decode cX11_sight 26 = .ok (.iload 8, 2) := by decide +kernel
theorem dX11_sight_28 : decode cX11_sight 28 = .ok (.invokevirtual 84, 3) := by decide +kernel
theorem dX11_sight_31 : decode cX11_sight 31 = .ok (.ireturn, 1) := by decide +kernel
theorem dX11_sight_32 : decode cX11_sight 32 = .ok (.aload_n 0, 1) := by decide +kernel
theorem dX11_sight_33 : decode cX11_sight 33 = .ok (.aload_n 0, 1) := by decide +kernel
theorem dX11_sight_34 : decode cX11_sight 34 = .ok (.getfield 10, 3) := by decide +kernel
theorem dX11_sight_37 : decode cX11_sight 37 = .ok (.iload_n 1, 1) := by decide +kernel
theorem dX11_sight_38 : decode cX11_sight 38 = .ok (.iload_n 2, 1) := by decide +kernel
theorem dX11_sight_39 : decode cX11_sight 39 = .ok (.iload_n 3, 1) := by decide +kernel
theorem dX11_sight_40 : decode cX11_sight 40 = .ok (.iload 4, 2) := by decide +kernel
theorem dX11_sight_42 : decode cX11_sight 42 = .ok (.iload 5, 2) := by decide +kernel
theorem dX11_sight_44 : decode cX11_sight 44 = .ok (.iload 6, 2) := by decide +kernel
theorem dX11_sight_46 : decode cX11_sight 46 = .ok (.iload 7, 2) := by decide +kernel
theorem dX11_sight_48 : decode cX11_sight 48 = .ok (.invokevirtual 128, 3) := by decide +kernel
theorem dX11_sight_51 : decode cX11_sight 51 = .ok (.invokevirtual 98, 3) := by decide +kernel
theorem dX11_sight_54 : decode cX11_sight 54 = .ok (.ireturn, 1) := by decide +kernel
theorem dX11_feed_0 : decode cX11_feed 0 = .ok (.aload_n 0, 1) := by decide +kernel
theorem dX11_feed_1 : decode cX11_feed 1 = .ok (.getfield 27, 3) := by decide +kernel
theorem dX11_feed_4 : decode cX11_feed 4 = .ok (.invokevirtual 131, 3) := by decide +kernel
theorem dX11_feed_7 : decode cX11_feed 7 = .ok (.ifCond .ne 5, 3) := by decide +kernel
theorem dX11_feed_10 : decode cX11_feed 10 = .ok (.iconst (-1), 1) := by decide +kernel
theorem dX11_feed_11 : decode cX11_feed 11 = .ok (.ireturn, 1) := by decide +kernel
theorem dX11_feed_12 : decode cX11_feed 12 = .ok (.aload_n 0, 1) := by decide +kernel
theorem dX11_feed_13 : decode cX11_feed 13 = .ok (.getfield 27, 3) := by decide +kernel
theorem dX11_feed_16 : decode cX11_feed 16 = .ok (.iload_n 1, 1) := by decide +kernel
theorem dX11_feed_17 : decode cX11_feed 17 = .ok (.invokevirtual 135, 3) := by decide +kernel
theorem dX11_feed_20 : decode cX11_feed 20 = .ok (.aload_n 0, 1) := by decide +kernel
theorem dX11_feed_21 : decode cX11_feed 21 = .ok (.getfield 27, 3) := by decide +kernel
theorem dX11_feed_24 : decode cX11_feed 24 = .ok (.iload_n 2, 1) := by decide +kernel
theorem dX11_feed_25 : decode cX11_feed 25 = .ok (.invokevirtual 135, 3) := by decide +kernel
theorem dX11_feed_28 : decode cX11_feed 28 = .ok (.aload_n 0, 1) := by decide +kernel
theorem dX11_feed_29 : decode cX11_feed 29 = .ok (.getfield 27, 3) := by decide +kernel
theorem dX11_feed_32 : decode cX11_feed 32 = .ok (.iload_n 3, 1) := by decide +kernel
theorem dX11_feed_33 : decode cX11_feed 33 = .ok (.invokevirtual 135, 3) := by decide +kernel
theorem dX11_feed_36 : decode cX11_feed 36 = .ok (.aload_n 0, 1) := by decide +kernel
theorem dX11_feed_37 : decode cX11_feed 37 = .ok (.getfield 27, 3) := by decide +kernel
theorem dX11_feed_40 : decode cX11_feed 40 = .ok (.iload 4, 2) := by decide +kernel
theorem dX11_feed_42 : decode cX11_feed 42 = .ok (.invokevirtual 135, 3) := by decide +kernel
theorem dX11_feed_45 : decode cX11_feed 45 = .ok (.aload_n 0, 1) := by decide +kernel
theorem dX11_feed_46 : decode cX11_feed 46 = .ok (.getfield 27, 3) := by decide +kernel
theorem dX11_feed_49 : decode cX11_feed 49 = .ok (.iload 5, 2) := by decide +kernel
theorem dX11_feed_51 : decode cX11_feed 51 = .ok (.invokevirtual 135, 3) := by decide +kernel
theorem dX11_feed_54 : decode cX11_feed 54 = .ok (.aload_n 0, 1) := by decide +kernel
theorem dX11_feed_55 : decode cX11_feed 55 = .ok (.getfield 27, 3) := by decide +kernel
theorem dX11_feed_58 : decode cX11_feed 58 = .ok (.invokevirtual 139, 3) := by decide +kernel
theorem dX11_feed_61 : decode cX11_feed 61 = .ok (.ireturn, 1) := by decide +kernel
theorem dX11_end_0 : decode cX11_end 0 = .ok (.iload_n 1, 1) := by decide +kernel
theorem dX11_end_1 : decode cX11_end 1 = .ok (.iconst 0, 1) := by decide +kernel
theorem dX11_end_2 : decode cX11_end 2 = .ok (.aload_n 0, 1) := by decide +kernel
theorem dX11_end_3 : decode cX11_end 3 = .ok (.getfield 27, 3) := by decide +kernel
theorem dX11_end_6 : decode cX11_end 6 = .ok (.invokevirtual 139, 3) := by decide +kernel
theorem dX11_end_9 : decode cX11_end 9 = .ok (.invokestatic 80, 3) := by decide +kernel
theorem dX11_end_12 : decode cX11_end 12 = .ok (.ifCond .ne 5, 3) := by decide +kernel
theorem dX11_end_15 : decode cX11_end 15 = .ok (.iconst (-1), 1) := by decide +kernel
theorem dX11_end_16 : decode cX11_end 16 = .ok (.ireturn, 1) := by decide +kernel
theorem dX11_end_17 : decode cX11_end 17 = .ok (.aload_n 0, 1) := by decide +kernel
theorem dX11_end_18 : decode cX11_end 18 = .ok (.getfield 27, 3) := by decide +kernel
theorem dX11_end_21 : decode cX11_end 21 = .ok (.iload_n 1, 1) := by decide +kernel
theorem dX11_end_22 : decode cX11_end 22 = .ok (.invokevirtual 143, 3) := by decide +kernel
theorem dX11_end_25 : decode cX11_end 25 = .ok (.iload_n 1, 1) := by decide +kernel
theorem dX11_end_26 : decode cX11_end 26 = .ok (.ireturn, 1) := by decide +kernel
theorem dX11_row_0 : decode cX11_row 0 = .ok (.aload_n 0, 1) := by decide +kernel
theorem dX11_row_1 : decode cX11_row 1 = .ok (.getfield 27, 3) := by decide +kernel
theorem dX11_row_4 : decode cX11_row 4 = .ok (.invokevirtual 139, 3) := by decide +kernel
theorem dX11_row_7 : decode cX11_row 7 = .ok (.ifCond .ne 10, 3) := by decide +kernel
theorem dX11_row_10 : decode cX11_row 10 = .ok (.aload_n 0, 1) := by decide +kernel
theorem dX11_row_11 : decode cX11_row 11 = .ok (.bipush (-6), 2) := by decide +kernel
theorem dX11_row_13 : decode cX11_row 13 = .ok (.invokevirtual 84, 3) := by decide +kernel
theorem dX11_row_16 : decode cX11_row 16 = .ok (.ireturn, 1) := by decide +kernel
theorem dX11_row_17 : decode cX11_row 17 = .ok (.iconst 0, 1) := by decide +kernel
theorem dX11_row_18 : decode cX11_row 18 = .ok (.istore_n 1, 1) := by decide +kernel
theorem dX11_row_19 : decode cX11_row 19 = .ok (.iconst 0, 1) := by decide +kernel
theorem dX11_row_20 : decode cX11_row 20 = .ok (.istore_n 2, 1) := by decide +kernel
theorem dX11_row_21 : decode cX11_row 21 = .ok (.iconst 0, 1) := by decide +kernel
theorem dX11_row_22 : decode cX11_row 22 = .ok (.istore_n 3, 1) := by decide +kernel
theorem dX11_row_23 : decode cX11_row 23 = .ok (.iload_n 3, 1) := by decide +kernel
theorem dX11_row_24 : decode cX11_row 24 = .ok (.aload_n 0, 1) := by decide +kernel
theorem dX11_row_25 : decode cX11_row 25 = .ok (.getfield 27, 3) := by decide +kernel
theorem dX11_row_28 : decode cX11_row 28 = .ok (.invokevirtual 139, 3) := by decide +kernel
theorem dX11_row_31 : decode cX11_row 31 = .ok (.if_icmp .ge 26, 3) := by decide +kernel
theorem dX11_row_34 : decode cX11_row 34 = .ok (.aload_n 0, 1) := by decide +kernel
theorem dX11_row_35 : decode cX11_row 35 = .ok (.iload_n 3, 1) := by decide +kernel
theorem dX11_row_36 : decode cX11_row 36 = .ok (.invokevirtual 146, 3) := by decide +kernel
theorem dX11_row_39 : decode cX11_row 39 = .ok (.ifCond .eq 9, 3) := by decide +kernel
theorem dX11_row_42 : decode cX11_row 42 = .ok (.iinc 1 1, 3) := by decide +kernel
theorem dX11_row_45 : decode cX11_row 45 = .ok (.goto 6, 3) := by decide +kernel
theorem dX11_row_48 : decode cX11_row 48 = .ok (.iinc 2 1, 3) := by decide +kernel
theorem dX11_row_51 : decode cX11_row 51 = .ok (.iinc 3 7, 3) := by decide +kernel
theorem dX11_row_54 : decode cX11_row 54 = .ok (.goto (-31), 3) := by decide +kernel
theorem dX11_row_57 : decode cX11_row 57 = .ok (.aload_n 0, 1) := by decide +kernel
theorem dX11_row_58 : decode cX11_row 58 = .ok (.getfield 27, 3) := by decide +kernel
theorem dX11_row_61 : decode cX11_row 61 = .ok (.iconst 0, 1) := by decide +kernel
theorem dX11_row_62 : decode cX11_row 62 = .ok (.invokevirtual 143, 3) := by decide +kernel
theorem dX11_row_65 : decode cX11_row 65 = .ok (.aload_n 0, 1) := by decide +kernel
theorem dX11_row_66 : decode cX11_row 66 = .ok (.iload_n 2, 1) := by decide +kernel
theorem dX11_row_67 : decode cX11_row 67 = .ok (.putfield 77, 3) := by decide +kernel
theorem dX11_row_70 : decode cX11_row 70 = .ok (.aload_n 0, 1) := by decide +kernel
theorem dX11_row_71 : decode cX11_row 71 = .ok (.iload_n 1, 1) := by decide +kernel
theorem dX11_row_72 : decode cX11_row 72 = .ok (.invokevirtual 98, 3) := by decide +kernel
theorem dX11_row_75 : decode cX11_row 75 = .ok (.ireturn, 1) := by decide +kernel
theorem dX11_cousins_0 : decode cX11_cousins 0 = .ok (.aload_n 0, 1) := by decide +kernel
theorem dX11_cousins_1 : decode cX11_cousins 1 = .ok (.getfield 77, 3) := by decide +kernel
theorem dX11_cousins_4 : decode cX11_cousins 4 = .ok (.ireturn, 1) := by decide +kernel
theorem dX11_law_0 : decode cX11_law 0 = .ok (.aload_n 0, 1) := by decide +kernel
theorem dX11_law_1 : decode cX11_law 1 = .ok (.getfield 34, 3) := by decide +kernel
theorem dX11_law_4 : decode cX11_law 4 = .ok (.aload_n 0, 1) := by decide +kernel
theorem dX11_law_5 : decode cX11_law 5 = .ok (.getfield 27, 3) := by decide +kernel
theorem dX11_law_8 : decode cX11_law 8 = .ok (.invokevirtual 149, 3) := by decide +kernel
theorem dX11_law_11 : decode cX11_law 11 = .ok (.aload_n 0, 1) := by decide +kernel
theorem dX11_law_12 : decode cX11_law 12 = .ok (.aload_n 0, 1) := by decide +kernel
theorem dX11_law_13 : decode cX11_law 13 = .ok (.getfield 34, 3) := by decide +kernel
theorem dX11_law_16 : decode cX11_law 16 = .ok (.invokevirtual 153, 3) := by decide +kernel
theorem dX11_law_19 : decode cX11_law 19 = .ok (.putfield 74, 3) := by decide +kernel
theorem dX11_law_22 : decode cX11_law 22 = .ok (.aload_n 0, 1) := by decide +kernel
theorem dX11_law_23 : decode cX11_law 23 = .ok (.getfield 27, 3) := by decide +kernel
theorem dX11_law_26 : decode cX11_law 26 = .ok (.iconst 0, 1) := by decide +kernel
theorem dX11_law_27 : decode cX11_law 27 = .ok (.invokevirtual 143, 3) := by decide +kernel
theorem dX11_law_30 : decode cX11_law 30 = .ok (.aload_n 0, 1) := by decide +kernel
theorem dX11_law_31 : decode cX11_law 31 = .ok (.getfield 74, 3) := by decide +kernel
theorem dX11_law_34 : decode cX11_law 34 = .ok (.iconst (-1), 1) := by decide +kernel
theorem dX11_law_35 : decode cX11_law 35 = .ok (.if_icmp .eq 10, 3) := by decide +kernel
theorem dX11_law_38 : decode cX11_law 38 = .ok (.aload_n 0, 1) := by decide +kernel
theorem dX11_law_39 : decode cX11_law 39 = .ok (.bipush (-6), 2) := by decide +kernel
theorem dX11_law_41 : decode cX11_law 41 = .ok (.invokevirtual 84, 3) := by decide +kernel
theorem dX11_law_44 : decode cX11_law 44 = .ok (.ireturn, 1) := by decide +kernel
theorem dX11_law_45 : decode cX11_law 45 = .ok (.aload_n 0, 1) := by decide +kernel
theorem dX11_law_46 : decode cX11_law 46 = .ok (.getfield 10, 3) := by decide +kernel
theorem dX11_law_49 : decode cX11_law 49 = .ok (.getfield 156, 3) := by decide +kernel
theorem dX11_law_52 : decode cX11_law 52 = .ok (.aload_n 0, 1) := by decide +kernel
theorem dX11_law_53 : decode cX11_law 53 = .ok (.getfield 34, 3) := by decide +kernel
theorem dX11_law_56 : decode cX11_law 56 = .ok (.invokevirtual 160, 3) := by decide +kernel
theorem dX11_law_59 : decode cX11_law 59 = .ok (.invokevirtual 164, 3) := by decide +kernel
theorem dX11_law_62 : decode cX11_law 62 = .ok (.aload_n 0, 1) := by decide +kernel
theorem dX11_law_63 : decode cX11_law 63 = .ok (.aload_n 0, 1) := by decide +kernel
theorem dX11_law_64 : decode cX11_law 64 = .ok (.getfield 10, 3) := by decide +kernel
theorem dX11_law_67 : decode cX11_law 67 = .ok (.getfield 156, 3) := by decide +kernel
theorem dX11_law_70 : decode cX11_law 70 = .ok (.invokevirtual 170, 3) := by decide +kernel
theorem dX11_law_73 : decode cX11_law 73 = .ok (.invokevirtual 98, 3) := by decide +kernel
theorem dX11_law_76 : decode cX11_law 76 = .ok (.ireturn, 1) := by decide +kernel
theorem dX11_fault_0 : decode cX11_fault 0 = .ok (.aload_n 0, 1) := by decide +kernel
theorem dX11_fault_1 : decode cX11_fault 1 = .ok (.getfield 74, 3) := by decide +kernel
theorem dX11_fault_4 : decode cX11_fault 4 = .ok (.ireturn, 1) := by decide +kernel
theorem dX11_of_0 : decode cX11_of 0 = .ok (.aload_n 0, 1) := by decide +kernel
theorem dX11_of_1 : decode cX11_of 1 = .ok (.getfield 10, 3) := by decide +kernel
theorem dX11_of_4 : decode cX11_of 4 = .ok (.getfield 171, 3) := by decide +kernel
theorem dX11_of_7 : decode cX11_of 7 = .ok (.iload_n 1, 1) := by decide +kernel
theorem dX11_of_8 : decode cX11_of 8 = .ok (.invokevirtual 117, 3) := by decide +kernel
theorem dX11_of_11 : decode cX11_of 11 = .ok (.ifCond .eq 13, 3) := by decide +kernel
theorem dX11_of_14 : decode cX11_of 14 = .ok (.iload_n 2, 1) := by decide +kernel
theorem dX11_of_15 : decode cX11_of 15 = .ok (.iconst 0, 1) := by decide +kernel
theorem dX11_of_16 : decode cX11_of 16 = .ok (.bipush 8, 2) := by decide +kernel
theorem dX11_of_18 : decode cX11_of 18 = .ok (.invokestatic 80, 3) := by decide +kernel
theorem dX11_of_21 : decode cX11_of 21 = .ok (.ifCond .ne 5, 3) := by decide +kernel
theorem dX11_of_24 : decode cX11_of 24 = .ok (.iconst (-1), 1) := by decide +kernel
theorem dX11_of_25 : decode cX11_of 25 = .ok (.ireturn, 1) := by decide +kernel
theorem dX11_of_26 : decode cX11_of 26 = .ok (.iload_n 2, 1) := by decide +kernel
theorem dX11_of_27 : decode cX11_of 27 = .ok (.bipush 7, 2) := by decide +kernel
theorem dX11_of_29 : decode cX11_of 29 = .ok (.if_icmp .ne 12, 3) := by decide +kernel
theorem dX11_of_32 : decode cX11_of 32 = .ok (.aload_n 0, 1) := by decide +kernel
theorem dX11_of_33 : decode cX11_of 33 = .ok (.getfield 10, 3) := by decide +kernel
theorem dX11_of_36 : decode cX11_of 36 = .ok (.iload_n 1, 1) := by decide +kernel
theorem dX11_of_37 : decode cX11_of 37 = .ok (.invokevirtual 174, 3) := by decide +kernel
theorem dX11_of_40 : decode cX11_of 40 = .ok (.ireturn, 1) := by decide +kernel
theorem dX11_of_41 : decode cX11_of 41 = .ok (.iload_n 2, 1) := by decide +kernel
theorem dX11_of_42 : decode cX11_of 42 = .ok (.bipush 8, 2) := by decide +kernel
theorem dX11_of_44 : decode cX11_of 44 = .ok (.if_icmp .ne 23, 3) := by decide +kernel
theorem dX11_of_47 : decode cX11_of 47 = .ok (.aload_n 0, 1) := by decide +kernel
theorem dX11_of_48 : decode cX11_of 48 = .ok (.getfield 41, 3) := by decide +kernel
theorem dX11_of_51 : decode cX11_of 51 = .ok (.aload_n 0, 1) := by decide +kernel
theorem dX11_of_52 : decode cX11_of 52 = .ok (.getfield 10, 3) := by decide +kernel
theorem dX11_of_55 : decode cX11_of 55 = .ok (.iload_n 1, 1) := by decide +kernel
theorem dX11_of_56 : decode cX11_of 56 = .ok (.invokevirtual 177, 3) := by decide +kernel
theorem dX11_of_59 : decode cX11_of 59 = .ok (.aload_n 0, 1) := by decide +kernel
theorem dX11_of_60 : decode cX11_of 60 = .ok (.getfield 41, 3) := by decide +kernel
theorem dX11_of_63 : decode cX11_of 63 = .ok (.invokevirtual 181, 3) := by decide +kernel
theorem dX11_of_66 : decode cX11_of 66 = .ok (.ireturn, 1) := by decide +kernel
theorem dX11_of_67 : decode cX11_of 67 = .ok (.aload_n 0, 1) := by decide +kernel
theorem dX11_of_68 : decode cX11_of 68 = .ok (.getfield 10, 3) := by decide +kernel
theorem dX11_of_71 : decode cX11_of 71 = .ok (.getfield 171, 3) := by decide +kernel
theorem dX11_of_74 : decode cX11_of 74 = .ok (.iload_n 1, 1) := by decide +kernel
theorem dX11_of_75 : decode cX11_of 75 = .ok (.iload_n 2, 1) := by decide +kernel
theorem dX11_of_76 : decode cX11_of 76 = .ok (.invokevirtual 184, 3) := by decide +kernel
theorem dX11_of_79 : decode cX11_of 79 = .ok (.ireturn, 1) := by decide +kernel
theorem dX11_there_0 : decode cX11_there 0 = .ok (.aload_n 0, 1) := by decide +kernel
theorem dX11_there_1 : decode cX11_there 1 = .ok (.getfield 10, 3) := by decide +kernel
theorem dX11_there_4 : decode cX11_there 4 = .ok (.getfield 171, 3) := by decide +kernel
theorem dX11_there_7 : decode cX11_there 7 = .ok (.iload_n 1, 1) := by decide +kernel
theorem dX11_there_8 : decode cX11_there 8 = .ok (.invokevirtual 117, 3) := by decide +kernel
theorem dX11_there_11 : decode cX11_there 11 = .ok (.ifCond .ne 5, 3) := by decide +kernel
theorem dX11_there_14 : decode cX11_there 14 = .ok (.iconst (-1), 1) := by decide +kernel
theorem dX11_there_15 : decode cX11_there 15 = .ok (.ireturn, 1) := by decide +kernel
theorem dX11_there_16 : decode cX11_there 16 = .ok (.aload_n 0, 1) := by decide +kernel
theorem dX11_there_17 : decode cX11_there 17 = .ok (.getfield 10, 3) := by decide +kernel
theorem dX11_there_20 : decode cX11_there 20 = .ok (.iload_n 1, 1) := by decide +kernel
theorem dX11_there_21 : decode cX11_there 21 = .ok (.invokevirtual 188, 3) := by decide +kernel
theorem dX11_there_24 : decode cX11_there 24 = .ok (.ireturn, 1) := by decide +kernel
theorem dX11_odds_0 : decode cX11_odds 0 = .ok (.aload_n 0, 1) := by decide +kernel
theorem dX11_odds_1 : decode cX11_odds 1 = .ok (.getfield 10, 3) := by decide +kernel
theorem dX11_odds_4 : decode cX11_odds 4 = .ok (.getfield 171, 3) := by decide +kernel
theorem dX11_odds_7 : decode cX11_odds 7 = .ok (.iload_n 1, 1) := by decide +kernel
theorem dX11_odds_8 : decode cX11_odds 8 = .ok (.invokevirtual 117, 3) := by decide +kernel
theorem dX11_odds_11 : decode cX11_odds 11 = .ok (.ifCond .eq 21, 3) := by decide +kernel
theorem dX11_odds_14 : decode cX11_odds 14 = .ok (.iload_n 2, 1) := by decide +kernel
theorem dX11_odds_15 : decode cX11_odds 15 = .ok (.iconst 0, 1) := by decide +kernel
theorem dX11_odds_16 : decode cX11_odds 16 = .ok (.iconst 4, 1) := by decide +kernel
theorem dX11_odds_17 : decode cX11_odds 17 = .ok (.invokestatic 80, 3) := by decide +kernel
theorem dX11_odds_20 : decode cX11_odds 20 = .ok (.ifCond .eq 12, 3) := by decide +kernel
theorem dX11_odds_23 : decode cX11_odds 23 = .ok (.iload_n 3, 1) := by decide +kernel
theorem dX11_odds_24 : decode cX11_odds 24 = .ok (.iconst 0, 1) := by decide +kernel
theorem dX11_odds_25 : decode cX11_odds 25 = .ok (.iconst 1, 1) := by decide +kernel
theorem dX11_odds_26 : decode cX11_odds 26 = .ok (.invokestatic 80, 3) := by decide +kernel
theorem dX11_odds_29 : decode cX11_odds 29 = .ok (.ifCond .ne 5, 3) := by decide +kernel
theorem dX11_odds_32 : decode cX11_odds 32 = .ok (.iconst (-1), 1) := by decide +kernel
theorem dX11_odds_33 : decode cX11_odds 33 = .ok (.ireturn, 1) := by decide +kernel
theorem dX11_odds_34 : decode cX11_odds 34 = .ok (.aload_n 0, 1) := by decide +kernel
theorem dX11_odds_35 : decode cX11_odds 35 = .ok (.getfield 41, 3) := by decide +kernel
theorem dX11_odds_38 : decode cX11_odds 38 = .ok (.aload_n 0, 1) := by decide +kernel
theorem dX11_odds_39 : decode cX11_odds 39 = .ok (.getfield 10, 3) := by decide +kernel
theorem dX11_odds_42 : decode cX11_odds 42 = .ok (.iload_n 1, 1) := by decide +kernel
theorem dX11_odds_43 : decode cX11_odds 43 = .ok (.invokevirtual 177, 3) := by decide +kernel
theorem dX11_odds_46 : decode cX11_odds 46 = .ok (.aload_n 0, 1) := by decide +kernel
theorem dX11_odds_47 : decode cX11_odds 47 = .ok (.getfield 41, 3) := by decide +kernel
theorem dX11_odds_50 : decode cX11_odds 50 = .ok (.invokevirtual 191, 3) := by decide +kernel
theorem dX11_odds_53 : decode cX11_odds 53 = .ok (.istore 4, 2) := by decide +kernel
theorem dX11_odds_55 : decode cX11_odds 55 = .ok (.aload_n 0, 1) := by decide +kernel
theorem dX11_odds_56 : decode cX11_odds 56 = .ok (.getfield 41, 3) := by decide +kernel
theorem dX11_odds_59 : decode cX11_odds 59 = .ok (.iload_n 2, 1) := by decide +kernel
theorem dX11_odds_60 : decode cX11_odds 60 = .ok (.invokevirtual 194, 3) := by decide +kernel
theorem dX11_odds_63 : decode cX11_odds 63 = .ok (.istore 5, 2) := by decide +kernel
theorem dX11_odds_65 : decode cX11_odds 65 = .ok (.iload 5, 2) := by decide +kernel
theorem dX11_odds_67 : decode cX11_odds 67 = .ok (.iload 4, 2) := by decide +kernel
theorem dX11_odds_69 : decode cX11_odds 69 = .ok (.invokestatic 197, 3) := by decide +kernel
theorem dX11_odds_72 : decode cX11_odds 72 = .ok (.istore 6, 2) := by decide +kernel
theorem dX11_odds_74 : decode cX11_odds 74 = .ok (.iload 4, 2) := by decide +kernel
theorem dX11_odds_76 : decode cX11_odds 76 = .ok (.ifCond .eq 8, 3) := by decide +kernel
theorem dX11_odds_79 : decode cX11_odds 79 = .ok (.iload 6, 2) := by decide +kernel
theorem dX11_odds_81 : decode cX11_odds 81 = .ok (.ifCond .ne 5, 3) := by decide +kernel
theorem dX11_odds_84 : decode cX11_odds 84 = .ok (.iconst (-1), 1) := by decide +kernel
theorem dX11_odds_85 : decode cX11_odds 85 = .ok (.ireturn, 1) := by decide +kernel
theorem dX11_odds_86 : decode cX11_odds 86 = .ok (.iload_n 3, 1) := by decide +kernel
theorem dX11_odds_87 : decode cX11_odds 87 = .ok (.ifCond .ne 11, 3) := by decide +kernel
theorem dX11_odds_90 : decode cX11_odds 90 = .ok (.iload 5, 2) := by decide +kernel
theorem dX11_odds_92 : decode cX11_odds 92 = .ok (.iload 6, 2) := by decide +kernel
theorem dX11_odds_94 : decode cX11_odds 94 = .ok (.idiv, 1) := by decide +kernel
theorem dX11_odds_95 : decode cX11_odds 95 = .ok (.goto 8, 3) := by decide +kernel
theorem dX11_odds_98 : decode cX11_odds 98 = .ok (.iload 4, 2) := by decide +kernel
theorem dX11_odds_100 : decode cX11_odds 100 = .ok (.iload 6, 2) := by decide +kernel
theorem dX11_odds_102 : decode cX11_odds 102 = .ok (.idiv, 1) := by decide +kernel
theorem dX11_odds_103 : decode cX11_odds 103 = .ok (.ireturn, 1) := by decide +kernel
theorem dX11_unknown_0 : decode cX11_unknown 0 = .ok (.iload_n 1, 1) := by decide +kernel
theorem dX11_unknown_1 : decode cX11_unknown 1 = .ok (.iconst 0, 1) := by decide +kernel
theorem dX11_unknown_2 : decode cX11_unknown 2 = .ok (.iconst 1, 1) := by decide +kernel
theorem dX11_unknown_3 : decode cX11_unknown 3 = .ok (.invokestatic 80, 3) := by decide +kernel
theorem dX11_unknown_6 : decode cX11_unknown 6 = .ok (.ifCond .ne 5, 3) := by decide +kernel
theorem dX11_unknown_9 : decode cX11_unknown 9 = .ok (.iconst (-1), 1) := by decide +kernel
theorem dX11_unknown_10 : decode cX11_unknown 10 = .ok (.ireturn, 1) := by decide +kernel
theorem dX11_unknown_11 : decode cX11_unknown 11 = .ok (.iconst 0, 1) := by decide +kernel
theorem dX11_unknown_12 : decode cX11_unknown 12 = .ok (.istore_n 3, 1) := by decide +kernel
theorem dX11_unknown_13 : decode cX11_unknown 13 = .ok (.iconst 0, 1) := by decide +kernel
theorem dX11_unknown_14 : decode cX11_unknown 14 = .ok (.istore 4, 2) := by decide +kernel
theorem dX11_unknown_16 : decode cX11_unknown 16 = .ok (.iload 4, 2) := by decide +kernel
theorem dX11_unknown_18 : decode cX11_unknown 18 = .ok (.aload_n 0, 1) := by decide +kernel
theorem dX11_unknown_19 : decode cX11_unknown 19 = .ok (.getfield 10, 3) := by decide +kernel
theorem dX11_unknown_22 : decode cX11_unknown 22 = .ok (.getfield 171, 3) := by decide +kernel
theorem dX11_unknown_25 : decode cX11_unknown 25 = .ok (.invokevirtual 200, 3) := by decide +kernel
theorem dX11_unknown_28 : decode cX11_unknown 28 = .ok (.if_icmp .ge 48, 3) := by decide +kernel
theorem dX11_unknown_31 : decode cX11_unknown 31 = .ok (.aload_n 0, 1) := by decide +kernel
theorem dX11_unknown_32 : decode cX11_unknown 32 = .ok (.getfield 41, 3) := by decide +kernel
theorem dX11_unknown_35 : decode cX11_unknown 35 = .ok (.aload_n 0, 1) := by decide +kernel
theorem dX11_unknown_36 : decode cX11_unknown 36 = .ok (.getfield 10, 3) := by decide +kernel
theorem dX11_unknown_39 : decode cX11_unknown 39 = .ok (.iload 4, 2) := by decide +kernel
theorem dX11_unknown_41 : decode cX11_unknown 41 = .ok (.invokevirtual 177, 3) := by decide +kernel
theorem dX11_unknown_44 : decode cX11_unknown 44 = .ok (.aload_n 0, 1) := by decide +kernel
theorem dX11_unknown_45 : decode cX11_unknown 45 = .ok (.getfield 41, 3) := by decide +kernel
theorem dX11_unknown_48 : decode cX11_unknown 48 = .ok (.invokevirtual 191, 3) := by decide +kernel
theorem dX11_unknown_51 : decode cX11_unknown 51 = .ok (.ifCond .ne 19, 3) := by decide +kernel
theorem dX11_unknown_54 : decode cX11_unknown 54 = .ok (.iload_n 1, 1) := by decide +kernel
theorem dX11_unknown_55 : decode cX11_unknown 55 = .ok (.iconst 1, 1) := by decide +kernel
theorem dX11_unknown_56 : decode cX11_unknown 56 = .ok (.if_icmp .ne 11, 3) := by decide +kernel
theorem dX11_unknown_59 : decode cX11_unknown 59 = .ok (.iload_n 3, 1) := by decide +kernel
theorem dX11_unknown_60 : decode cX11_unknown 60 = .ok (.iload_n 2, 1) := by decide +kernel
theorem dX11_unknown_61 : decode cX11_unknown 61 = .ok (.if_icmp .ne 6, 3) := by decide +kernel
theorem dX11_unknown_64 : decode cX11_unknown 64 = .ok (.iload 4, 2) := by decide +kernel
theorem dX11_unknown_66 : decode cX11_unknown 66 = .ok (.ireturn, 1) := by decide +kernel
theorem dX11_unknown_67 : decode cX11_unknown 67 = .ok (.iinc 3 1, 3) := by decide +kernel
theorem dX11_unknown_70 : decode cX11_unknown 70 = .ok (.iinc 4 1, 3) := by decide +kernel
theorem dX11_unknown_73 : decode cX11_unknown 73 = .ok (.goto (-57), 3) := by decide +kernel
theorem dX11_unknown_76 : decode cX11_unknown 76 = .ok (.iload_n 1, 1) := by decide +kernel
theorem dX11_unknown_77 : decode cX11_unknown 77 = .ok (.ifCond .ne 7, 3) := by decide +kernel
theorem dX11_unknown_80 : decode cX11_unknown 80 = .ok (.iload_n 3, 1) := by decide +kernel
theorem dX11_unknown_81 : decode cX11_unknown 81 = .ok (.goto 4, 3) := by decide +kernel
theorem dX11_unknown_84 : decode cX11_unknown 84 = .ok (.iconst (-1), 1) := by decide +kernel
theorem dX11_unknown_85 : decode cX11_unknown 85 = .ok (.ireturn, 1) := by decide +kernel
theorem dX11_span_0 : decode cX11_span 0 = .ok (.aload_n 0, 1) := by decide +kernel
theorem dX11_span_1 : decode cX11_span 1 = .ok (.getfield 10, 3) := by decide +kernel
theorem dX11_span_4 : decode cX11_span 4 = .ok (.getfield 171, 3) := by decide +kernel
theorem dX11_span_7 : decode cX11_span 7 = .ok (.iload_n 1, 1) := by decide +kernel
theorem dX11_span_8 : decode cX11_span 8 = .ok (.invokevirtual 117, 3) := by decide +kernel
theorem dX11_span_11 : decode cX11_span 11 = .ok (.ifCond .eq 12, 3) := by decide +kernel
theorem dX11_span_14 : decode cX11_span 14 = .ok (.iload_n 2, 1) := by decide +kernel
theorem dX11_span_15 : decode cX11_span 15 = .ok (.iconst 0, 1) := by decide +kernel
theorem dX11_span_16 : decode cX11_span 16 = .ok (.iconst 1, 1) := by decide +kernel
theorem dX11_span_17 : decode cX11_span 17 = .ok (.invokestatic 80, 3) := by decide +kernel
theorem dX11_span_20 : decode cX11_span 20 = .ok (.ifCond .ne 5, 3) := by decide +kernel
theorem dX11_span_23 : decode cX11_span 23 = .ok (.iconst (-1), 1) := by decide +kernel
theorem dX11_span_24 : decode cX11_span 24 = .ok (.ireturn, 1) := by decide +kernel
theorem dX11_span_25 : decode cX11_span 25 = .ok (.aload_n 0, 1) := by decide +kernel
theorem dX11_span_26 : decode cX11_span 26 = .ok (.getfield 41, 3) := by decide +kernel
theorem dX11_span_29 : decode cX11_span 29 = .ok (.aload_n 0, 1) := by decide +kernel
theorem dX11_span_30 : decode cX11_span 30 = .ok (.getfield 10, 3) := by decide +kernel
theorem dX11_span_33 : decode cX11_span 33 = .ok (.iload_n 1, 1) := by decide +kernel
theorem dX11_span_34 : decode cX11_span 34 = .ok (.invokevirtual 177, 3) := by decide +kernel
theorem dX11_span_37 : decode cX11_span 37 = .ok (.aload_n 0, 1) := by decide +kernel
theorem dX11_span_38 : decode cX11_span 38 = .ok (.getfield 10, 3) := by decide +kernel
theorem dX11_span_41 : decode cX11_span 41 = .ok (.iload_n 1, 1) := by decide +kernel
theorem dX11_span_42 : decode cX11_span 42 = .ok (.iload_n 2, 1) := by decide +kernel
theorem dX11_span_43 : decode cX11_span 43 = .ok (.aload_n 0, 1) := by decide +kernel
theorem dX11_span_44 : decode cX11_span 44 = .ok (.getfield 41, 3) := by decide +kernel
theorem dX11_span_47 : decode cX11_span 47 = .ok (.invokevirtual 181, 3) := by decide +kernel
theorem dX11_span_50 : decode cX11_span 50 = .ok (.invokevirtual 201, 3) := by decide +kernel
theorem dX11_span_53 : decode cX11_span 53 = .ok (.ireturn, 1) := by decide +kernel
theorem dX11_most_0 : decode cX11_most 0 = .ok (.iload_n 1, 1) := by decide +kernel
theorem dX11_most_1 : decode cX11_most 1 = .ok (.iconst 0, 1) := by decide +kernel
theorem dX11_most_2 : decode cX11_most 2 = .ok (.iconst 4, 1) := by decide +kernel
theorem dX11_most_3 : decode cX11_most 3 = .ok (.invokestatic 80, 3) := by decide +kernel
theorem dX11_most_6 : decode cX11_most 6 = .ok (.ifCond .ne 5, 3) := by decide +kernel
theorem dX11_most_9 : decode cX11_most 9 = .ok (.iconst (-1), 1) := by decide +kernel
theorem dX11_most_10 : decode cX11_most 10 = .ok (.ireturn, 1) := by decide +kernel
theorem dX11_most_11 : decode cX11_most 11 = .ok (.iconst 0, 1) := by decide +kernel
theorem dX11_most_12 : decode cX11_most 12 = .ok (.istore_n 2, 1) := by decide +kernel
theorem dX11_most_13 : decode cX11_most 13 = .ok (.iconst 0, 1) := by decide +kernel
theorem dX11_most_14 : decode cX11_most 14 = .ok (.istore_n 3, 1) := by decide +kernel
theorem dX11_most_15 : decode cX11_most 15 = .ok (.iload_n 3, 1) := by decide +kernel
theorem dX11_most_16 : decode cX11_most 16 = .ok (.aload_n 0, 1) := by decide +kernel
theorem dX11_most_17 : decode cX11_most 17 = .ok (.getfield 10, 3) := by decide +kernel
theorem dX11_most_20 : decode cX11_most 20 = .ok (.getfield 171, 3) := by decide +kernel
theorem dX11_most_23 : decode cX11_most 23 = .ok (.invokevirtual 200, 3) := by decide +kernel
theorem dX11_most_26 : decode cX11_most 26 = .ok (.if_icmp .ge 35, 3) := by decide +kernel
theorem dX11_most_29 : decode cX11_most 29 = .ok (.aload_n 0, 1) := by decide +kernel
theorem dX11_most_30 : decode cX11_most 30 = .ok (.getfield 41, 3) := by decide +kernel
theorem dX11_most_33 : decode cX11_most 33 = .ok (.aload_n 0, 1) := by decide +kernel
theorem dX11_most_34 : decode cX11_most 34 = .ok (.getfield 10, 3) := by decide +kernel
theorem dX11_most_37 : decode cX11_most 37 = .ok (.iload_n 3, 1) := by decide +kernel
theorem dX11_most_38 : decode cX11_most 38 = .ok (.invokevirtual 177, 3) := by decide +kernel
theorem dX11_most_41 : decode cX11_most 41 = .ok (.aload_n 0, 1) := by decide +kernel
theorem dX11_most_42 : decode cX11_most 42 = .ok (.getfield 41, 3) := by decide +kernel
theorem dX11_most_45 : decode cX11_most 45 = .ok (.invokevirtual 204, 3) := by decide +kernel
theorem dX11_most_48 : decode cX11_most 48 = .ok (.iload_n 1, 1) := by decide +kernel
theorem dX11_most_49 : decode cX11_most 49 = .ok (.if_icmp .ne 6, 3) := by decide +kernel
theorem dX11_most_52 : decode cX11_most 52 = .ok (.iinc 2 1, 3) := by decide +kernel
theorem dX11_most_55 : decode cX11_most 55 = .ok (.iinc 3 1, 3) := by decide +kernel
theorem dX11_most_58 : decode cX11_most 58 = .ok (.goto (-43), 3) := by decide +kernel
theorem dX11_most_61 : decode cX11_most 61 = .ok (.iload_n 2, 1) := by decide +kernel
theorem dX11_most_62 : decode cX11_most 62 = .ok (.ireturn, 1) := by decide +kernel
theorem dX11_story_0 : decode cX11_story 0 = .ok (.iload_n 1, 1) := by decide +kernel
theorem dX11_story_1 : decode cX11_story 1 = .ok (.iconst 0, 1) := by decide +kernel
theorem dX11_story_2 : decode cX11_story 2 = .ok (.bipush 100, 2) := by decide +kernel
theorem dX11_story_4 : decode cX11_story 4 = .ok (.invokestatic 80, 3) := by decide +kernel
theorem dX11_story_7 : decode cX11_story 7 = .ok (.ifCond .eq 23, 3) := by decide +kernel
theorem dX11_story_10 : decode cX11_story 10 = .ok (.iload_n 2, 1) := by decide +kernel
theorem dX11_story_11 : decode cX11_story 11 = .ok (.iconst 0, 1) := by decide +kernel
theorem dX11_story_12 : decode cX11_story 12 = .ok (.bipush 20, 2) := by decide +kernel
theorem dX11_story_14 : decode cX11_story 14 = .ok (.invokestatic 80, 3) := by decide +kernel
theorem dX11_story_17 : decode cX11_story 17 = .ok (.ifCond .eq 13, 3) := by decide +kernel
theorem dX11_story_20 : decode cX11_story 20 = .ok (.iload_n 3, 1) := by decide +kernel
theorem dX11_story_21 : decode cX11_story 21 = .ok (.iconst 1, 1) := by decide +kernel
theorem dX11_story_22 : decode cX11_story 22 = .ok (.bipush 60, 2) := by decide +kernel
theorem dX11_story_24 : decode cX11_story 24 = .ok (.invokestatic 80, 3) := by decide +kernel
theorem dX11_story_27 : decode cX11_story 27 = .ok (.ifCond .ne 9, 3) := by decide +kernel
theorem dX11_story_30 : decode cX11_story 30 = .ok (.aload_n 0, 1) := by decide +kernel
theorem dX11_story_31 : decode cX11_story 31 = .ok (.iconst (-1), 1) := by decide +kernel
theorem dX11_story_32 : decode cX11_story 32 = .ok (.invokevirtual 84, 3) := by decide +kernel
theorem dX11_story_35 : decode cX11_story 35 = .ok (.ireturn, 1) := by decide +kernel
theorem dX11_story_36 : decode cX11_story 36 = .ok (.aload_n 0, 1) := by decide +kernel
theorem dX11_story_37 : decode cX11_story 37 = .ok (.aload_n 0, 1) := by decide +kernel
theorem dX11_story_38 : decode cX11_story 38 = .ok (.getfield 10, 3) := by decide +kernel
theorem dX11_story_41 : decode cX11_story 41 = .ok (.getfield 207, 3) := by decide +kernel
theorem dX11_story_44 : decode cX11_story 44 = .ok (.iload_n 1, 1) := by decide +kernel
theorem dX11_story_45 : decode cX11_story 45 = .ok (.iload_n 2, 1) := by decide +kernel
theorem dX11_story_46 : decode cX11_story 46 = .ok (.iload_n 3, 1) := by decide +kernel
theorem dX11_story_47 : decode cX11_story 47 = .ok (.iconst 0, 1) := by decide +kernel
theorem dX11_story_48 : decode cX11_story 48 = .ok (.invokevirtual 104, 3) := by decide +kernel
theorem dX11_story_51 : decode cX11_story 51 = .ok (.ireturn, 1) := by decide +kernel
theorem dX11_sweep_0 : decode cX11_sweep 0 = .ok (.iload_n 1, 1) := by decide +kernel
theorem dX11_sweep_1 : decode cX11_sweep 1 = .ok (.iload_n 2, 1) := by decide +kernel
theorem dX11_sweep_2 : decode cX11_sweep 2 = .ok (.iload_n 3, 1) := by decide +kernel
theorem dX11_sweep_3 : decode cX11_sweep 3 = .ok (.invokestatic 210, 3) := by decide +kernel
theorem dX11_sweep_6 : decode cX11_sweep 6 = .ok (.ifCond .eq 13, 3) := by decide +kernel
theorem dX11_sweep_9 : decode cX11_sweep 9 = .ok (.iload 4, 2) := by decide +kernel
theorem dX11_sweep_11 : decode cX11_sweep 11 = .ok (.iconst 0, 1) := by decide +kernel
theorem dX11_sweep_12 : decode cX11_sweep 12 = .ok (.iconst 1, 1) := by decide +kernel
theorem dX11_sweep_13 : decode cX11_sweep 13 = .ok (.invokestatic 80, 3) := by decide +kernel
theorem dX11_sweep_16 : decode cX11_sweep 16 = .ok (.ifCond .ne 9, 3) := by decide +kernel
theorem dX11_sweep_19 : decode cX11_sweep 19 = .ok (.aload_n 0, 1) := by decide +kernel
theorem dX11_sweep_20 : decode cX11_sweep 20 = .ok (.iconst (-1), 1) := by decide +kernel
theorem dX11_sweep_21 : decode cX11_sweep 21 = .ok (.invokevirtual 84, 3) := by decide +kernel
theorem dX11_sweep_24 : decode cX11_sweep 24 = .ok (.ireturn, 1) := by decide +kernel
theorem dX11_sweep_25 : decode cX11_sweep 25 = .ok (.aload_n 0, 1) := by decide +kernel
theorem dX11_sweep_26 : decode cX11_sweep 26 = .ok (.aload_n 0, 1) := by decide +kernel
theorem dX11_sweep_27 : decode cX11_sweep 27 = .ok (.getfield 10, 3) := by decide +kernel
theorem dX11_sweep_30 : decode cX11_sweep 30 = .ok (.getfield 213, 3) := by decide +kernel
theorem dX11_sweep_33 : decode cX11_sweep 33 = .ok (.iload_n 1, 1) := by decide +kernel
theorem dX11_sweep_34 : decode cX11_sweep 34 = .ok (.iload_n 2, 1) := by decide +kernel
theorem dX11_sweep_35 : decode cX11_sweep 35 = .ok (.iload_n 3, 1) := by decide +kernel
theorem dX11_sweep_36 : decode cX11_sweep 36 = .ok (.iload 4, 2) := by decide +kernel
theorem dX11_sweep_38 : decode cX11_sweep 38 = .ok (.invokevirtual 104, 3) := by decide +kernel
theorem dX11_sweep_41 : decode cX11_sweep 41 = .ok (.ireturn, 1) := by decide +kernel
theorem dX11_likely_0 : decode cX11_likely 0 = .ok (.aload_n 0, 1) := by decide +kernel
theorem dX11_likely_1 : decode cX11_likely 1 = .ok (.getfield 10, 3) := by decide +kernel
theorem dX11_likely_4 : decode cX11_likely 4 = .ok (.getfield 207, 3) := by decide +kernel
theorem dX11_likely_7 : decode cX11_likely 7 = .ok (.iload_n 1, 1) := by decide +kernel
theorem dX11_likely_8 : decode cX11_likely 8 = .ok (.invokevirtual 117, 3) := by decide +kernel
theorem dX11_likely_11 : decode cX11_likely 11 = .ok (.ifCond .ne 5, 3) := by decide +kernel
theorem dX11_likely_14 : decode cX11_likely 14 = .ok (.iconst (-1), 1) := by decide +kernel
theorem dX11_likely_15 : decode cX11_likely 15 = .ok (.ireturn, 1) := by decide +kernel
theorem dX11_likely_16 : decode cX11_likely 16 = .ok (.aload_n 0, 1) := by decide +kernel
theorem dX11_likely_17 : decode cX11_likely 17 = .ok (.getfield 48, 3) := by decide +kernel
theorem dX11_likely_20 : decode cX11_likely 20 = .ok (.aload_n 0, 1) := by decide +kernel
theorem dX11_likely_21 : decode cX11_likely 21 = .ok (.getfield 10, 3) := by decide +kernel
theorem dX11_likely_24 : decode cX11_likely 24 = .ok (.iconst (-1), 1) := by decide +kernel
theorem dX11_likely_25 : decode cX11_likely 25 = .ok (.invokevirtual 216, 3) := by decide +kernel
theorem dX11_likely_28 : decode cX11_likely 28 = .ok (.aload_n 0, 1) := by decide +kernel
theorem dX11_likely_29 : decode cX11_likely 29 = .ok (.getfield 48, 3) := by decide +kernel
theorem dX11_likely_32 : decode cX11_likely 32 = .ok (.iload_n 1, 1) := by decide +kernel
theorem dX11_likely_33 : decode cX11_likely 33 = .ok (.invokevirtual 219, 3) := by decide +kernel
theorem dX11_likely_36 : decode cX11_likely 36 = .ok (.ireturn, 1) := by decide +kernel
theorem dX11_moved_0 : decode cX11_moved 0 = .ok (.aload_n 0, 1) := by decide +kernel
theorem dX11_moved_1 : decode cX11_moved 1 = .ok (.getfield 10, 3) := by decide +kernel
theorem dX11_moved_4 : decode cX11_moved 4 = .ok (.getfield 207, 3) := by decide +kernel
theorem dX11_moved_7 : decode cX11_moved 7 = .ok (.iload_n 1, 1) := by decide +kernel
theorem dX11_moved_8 : decode cX11_moved 8 = .ok (.invokevirtual 117, 3) := by decide +kernel
theorem dX11_moved_11 : decode cX11_moved 11 = .ok (.ifCond .eq 17, 3) := by decide +kernel
theorem dX11_moved_14 : decode cX11_moved 14 = .ok (.aload_n 0, 1) := by decide +kernel
theorem dX11_moved_15 : decode cX11_moved 15 = .ok (.getfield 10, 3) := by decide +kernel
theorem dX11_moved_18 : decode cX11_moved 18 = .ok (.getfield 213, 3) := by decide +kernel
theorem dX11_moved_21 : decode cX11_moved 21 = .ok (.iload_n 2, 1) := by decide +kernel
theorem dX11_moved_22 : decode cX11_moved 22 = .ok (.invokevirtual 117, 3) := by decide +kernel
theorem dX11_moved_25 : decode cX11_moved 25 = .ok (.ifCond .ne 6, 3) := by decide +kernel
theorem dX11_moved_28 : decode cX11_moved 28 = .ok (.ldc 222, 2) := by decide +kernel
theorem dX11_moved_30 : decode cX11_moved 30 = .ok (.ireturn, 1) := by decide +kernel
theorem dX11_moved_31 : decode cX11_moved 31 = .ok (.aload_n 0, 1) := by decide +kernel
theorem dX11_moved_32 : decode cX11_moved 32 = .ok (.getfield 48, 3) := by decide +kernel
theorem dX11_moved_35 : decode cX11_moved 35 = .ok (.aload_n 0, 1) := by decide +kernel
theorem dX11_moved_36 : decode cX11_moved 36 = .ok (.getfield 10, 3) := by decide +kernel
theorem dX11_moved_39 : decode cX11_moved 39 = .ok (.iconst (-1), 1) := by decide +kernel
theorem dX11_moved_40 : decode cX11_moved 40 = .ok (.invokevirtual 216, 3) := by decide +kernel
theorem dX11_moved_43 : decode cX11_moved 43 = .ok (.aload_n 0, 1) := by decide +kernel
theorem dX11_moved_44 : decode cX11_moved 44 = .ok (.getfield 48, 3) := by decide +kernel
theorem dX11_moved_47 : decode cX11_moved 47 = .ok (.iload_n 1, 1) := by decide +kernel
theorem dX11_moved_48 : decode cX11_moved 48 = .ok (.invokevirtual 219, 3) := by decide +kernel
theorem dX11_moved_51 : decode cX11_moved 51 = .ok (.istore_n 3, 1) := by decide +kernel
theorem dX11_moved_52 : decode cX11_moved 52 = .ok (.aload_n 0, 1) := by decide +kernel
theorem dX11_moved_53 : decode cX11_moved 53 = .ok (.getfield 48, 3) := by decide +kernel
theorem dX11_moved_56 : decode cX11_moved 56 = .ok (.aload_n 0, 1) := by decide +kernel
theorem dX11_moved_57 : decode cX11_moved 57 = .ok (.getfield 10, 3) := by decide +kernel
theorem dX11_moved_60 : decode cX11_moved 60 = .ok (.iload_n 2, 1) := by decide +kernel
theorem dX11_moved_61 : decode cX11_moved 61 = .ok (.invokevirtual 216, 3) := by decide +kernel
theorem dX11_moved_64 : decode cX11_moved 64 = .ok (.iload_n 3, 1) := by decide +kernel
theorem dX11_moved_65 : decode cX11_moved 65 = .ok (.aload_n 0, 1) := by decide +kernel
theorem dX11_moved_66 : decode cX11_moved 66 = .ok (.getfield 48, 3) := by decide +kernel
theorem dX11_moved_69 : decode cX11_moved 69 = .ok (.iload_n 1, 1) := by decide +kernel
theorem dX11_moved_70 : decode cX11_moved 70 = .ok (.invokevirtual 219, 3) := by decide +kernel
theorem dX11_moved_73 : decode cX11_moved 73 = .ok (.isub, 1) := by decide +kernel
theorem dX11_moved_74 : decode cX11_moved 74 = .ok (.ireturn, 1) := by decide +kernel
theorem dX11_kin_0 : decode cX11_kin 0 = .ok (.iload_n 1, 1) := by decide +kernel
theorem dX11_kin_1 : decode cX11_kin 1 = .ok (.iload_n 2, 1) := by decide +kernel
theorem dX11_kin_2 : decode cX11_kin 2 = .ok (.invokestatic 223, 3) := by decide +kernel
theorem dX11_kin_5 : decode cX11_kin 5 = .ok (.ifCond .ne 9, 3) := by decide +kernel
theorem dX11_kin_8 : decode cX11_kin 8 = .ok (.aload_n 0, 1) := by decide +kernel
theorem dX11_kin_9 : decode cX11_kin 9 = .ok (.iconst (-1), 1) := by decide +kernel
theorem dX11_kin_10 : decode cX11_kin 10 = .ok (.invokevirtual 84, 3) := by decide +kernel
theorem dX11_kin_13 : decode cX11_kin 13 = .ok (.ireturn, 1) := by decide +kernel
theorem dX11_kin_14 : decode cX11_kin 14 = .ok (.aload_n 0, 1) := by decide +kernel
theorem dX11_kin_15 : decode cX11_kin 15 = .ok (.aload_n 0, 1) := by decide +kernel
theorem dX11_kin_16 : decode cX11_kin 16 = .ok (.getfield 10, 3) := by decide +kernel
theorem dX11_kin_19 : decode cX11_kin 19 = .ok (.getfield 227, 3) := by decide +kernel
theorem dX11_kin_22 : decode cX11_kin 22 = .ok (.iconst 0, 1) := by decide +kernel
theorem dX11_kin_23 : decode cX11_kin 23 = .ok (.iload_n 1, 1) := by decide +kernel
theorem dX11_kin_24 : decode cX11_kin 24 = .ok (.iload_n 2, 1) := by decide +kernel
theorem dX11_kin_25 : decode cX11_kin 25 = .ok (.invokevirtual 92, 3) := by decide +kernel
theorem dX11_kin_28 : decode cX11_kin 28 = .ok (.invokevirtual 98, 3) := by decide +kernel
theorem dX11_kin_31 : decode cX11_kin 31 = .ok (.ireturn, 1) := by decide +kernel
theorem dX11_lot_0 : decode cX11_lot 0 = .ok (.iload_n 1, 1) := by decide +kernel
theorem dX11_lot_1 : decode cX11_lot 1 = .ok (.iconst 0, 1) := by decide +kernel
theorem dX11_lot_2 : decode cX11_lot 2 = .ok (.bipush 60, 2) := by decide +kernel
theorem dX11_lot_4 : decode cX11_lot 4 = .ok (.invokestatic 80, 3) := by decide +kernel
theorem dX11_lot_7 : decode cX11_lot 7 = .ok (.ifCond .ne 5, 3) := by decide +kernel
theorem dX11_lot_10 : decode cX11_lot 10 = .ok (.iconst (-1), 1) := by decide +kernel
theorem dX11_lot_11 : decode cX11_lot 11 = .ok (.ireturn, 1) := by decide +kernel
theorem dX11_lot_12 : decode cX11_lot 12 = .ok (.iload_n 1, 1) := by decide +kernel
theorem dX11_lot_13 : decode cX11_lot 13 = .ok (.ifCond .ne 13, 3) := by decide +kernel
theorem dX11_lot_16 : decode cX11_lot 16 = .ok (.aload_n 0, 1) := by decide +kernel
theorem dX11_lot_17 : decode cX11_lot 17 = .ok (.getfield 10, 3) := by decide +kernel
theorem dX11_lot_20 : decode cX11_lot 20 = .ok (.invokevirtual 230, 3) := by decide +kernel
theorem dX11_lot_23 : decode cX11_lot 23 = .ok (.goto 11, 3) := by decide +kernel
theorem dX11_lot_26 : decode cX11_lot 26 = .ok (.aload_n 0, 1) := by decide +kernel
theorem dX11_lot_27 : decode cX11_lot 27 = .ok (.getfield 10, 3) := by decide +kernel
theorem dX11_lot_30 : decode cX11_lot 30 = .ok (.iload_n 1, 1) := by decide +kernel
theorem dX11_lot_31 : decode cX11_lot 31 = .ok (.invokevirtual 233, 3) := by decide +kernel
theorem dX11_lot_34 : decode cX11_lot 34 = .ok (.ireturn, 1) := by decide +kernel
theorem dX11_offer_0 : decode cX11_offer 0 = .ok (.iload_n 1, 1) := by decide +kernel
theorem dX11_offer_1 : decode cX11_offer 1 = .ok (.iload_n 2, 1) := by decide +kernel
theorem dX11_offer_2 : decode cX11_offer 2 = .ok (.iload_n 3, 1) := by decide +kernel
theorem dX11_offer_3 : decode cX11_offer 3 = .ok (.invokestatic 210, 3) := by decide +kernel
theorem dX11_offer_6 : decode cX11_offer 6 = .ok (.ifCond .eq 14, 3) := by decide +kernel
theorem dX11_offer_9 : decode cX11_offer 9 = .ok (.iload 4, 2) := by decide +kernel
theorem dX11_offer_11 : decode cX11_offer 11 = .ok (.iconst 1, 1) := by decide +kernel
theorem dX11_offer_12 : decode cX11_offer 12 = .ok (.bipush 100, 2) := by decide +kernel
theorem dX11_offer_14 : decode cX11_offer 14 = .ok (.invokestatic 80, 3) := by decide +kernel
theorem dX11_offer_17 : decode cX11_offer 17 = .ok (.ifCond .ne 9, 3) := by decide +kernel
theorem dX11_offer_20 : decode cX11_offer 20 = .ok (.aload_n 0, 1) := by decide +kernel
theorem dX11_offer_21 : decode cX11_offer 21 = .ok (.iconst (-1), 1) := by decide +kernel
theorem dX11_offer_22 : decode cX11_offer 22 = .ok (.invokevirtual 84, 3) := by decide +kernel
theorem dX11_offer_25 : decode cX11_offer 25 = .ok (.ireturn, 1) := by decide +kernel
theorem dX11_offer_26 : decode cX11_offer 26 = .ok (.aload_n 0, 1) := by decide +kernel
theorem dX11_offer_27 : decode cX11_offer 27 = .ok (.aload_n 0, 1) := by decide +kernel
theorem dX11_offer_28 : decode cX11_offer 28 = .ok (.getfield 10, 3) := by decide +kernel
theorem dX11_offer_31 : decode cX11_offer 31 = .ok (.getfield 236, 3) := by decide +kernel
theorem dX11_offer_34 : decode cX11_offer 34 = .ok (.iload_n 1, 1) := by decide +kernel
theorem dX11_offer_35 : decode cX11_offer 35 = .ok (.iload_n 2, 1) := by decide +kernel
theorem dX11_offer_36 : decode cX11_offer 36 = .ok (.iload_n 3, 1) := by decide +kernel
theorem dX11_offer_37 : decode cX11_offer 37 = .ok (.iload 4, 2) := by decide +kernel
theorem dX11_offer_39 : decode cX11_offer 39 = .ok (.invokevirtual 104, 3) := by decide +kernel
theorem dX11_offer_42 : decode cX11_offer 42 = .ok (.ireturn, 1) := by decide +kernel
theorem dX11_says_0 : decode cX11_says 0 = .ok (.iload_n 1, 1) := by decide +kernel
theorem dX11_says_1 : decode cX11_says 1 = .ok (.iconst 0, 1) := by decide +kernel
theorem dX11_says_2 : decode cX11_says 2 = .ok (.iconst 1, 1) := by decide +kernel
theorem dX11_says_3 : decode cX11_says 3 = .ok (.aload_n 0, 1) := by decide +kernel
theorem dX11_says_4 : decode cX11_says 4 = .ok (.getfield 10, 3) := by decide +kernel
theorem dX11_says_7 : decode cX11_says 7 = .ok (.getfield 236, 3) := by decide +kernel
theorem dX11_says_10 : decode cX11_says 10 = .ok (.invokevirtual 200, 3) := by decide +kernel
theorem dX11_says_13 : decode cX11_says 13 = .ok (.ishl, 1) := by decide +kernel
theorem dX11_says_14 : decode cX11_says 14 = .ok (.iconst 1, 1) := by decide +kernel
theorem dX11_says_15 : decode cX11_says 15 = .ok (.isub, 1) := by decide +kernel
theorem dX11_says_16 : decode cX11_says 16 = .ok (.invokestatic 80, 3) := by decide +kernel
theorem dX11_says_19 : decode cX11_says 19 = .ok (.ifCond .ne 5, 3) := by decide +kernel
theorem dX11_says_22 : decode cX11_says 22 = .ok (.iconst (-1), 1) := by decide +kernel
theorem dX11_says_23 : decode cX11_says 23 = .ok (.ireturn, 1) := by decide +kernel
theorem dX11_says_24 : decode cX11_says 24 = .ok (.aload_n 0, 1) := by decide +kernel
theorem dX11_says_25 : decode cX11_says 25 = .ok (.getfield 48, 3) := by decide +kernel
theorem dX11_says_28 : decode cX11_says 28 = .ok (.aload_n 0, 1) := by decide +kernel
theorem dX11_says_29 : decode cX11_says 29 = .ok (.getfield 10, 3) := by decide +kernel
theorem dX11_says_32 : decode cX11_says 32 = .ok (.iconst (-1), 1) := by decide +kernel
theorem dX11_says_33 : decode cX11_says 33 = .ok (.invokevirtual 216, 3) := by decide +kernel
theorem dX11_says_36 : decode cX11_says 36 = .ok (.aload_n 0, 1) := by decide +kernel
theorem dX11_says_37 : decode cX11_says 37 = .ok (.getfield 55, 3) := by decide +kernel
theorem dX11_says_40 : decode cX11_says 40 = .ok (.aload_n 0, 1) := by decide +kernel
theorem dX11_says_41 : decode cX11_says 41 = .ok (.getfield 10, 3) := by decide +kernel
theorem dX11_says_44 : decode cX11_says 44 = .ok (.aload_n 0, 1) := by decide +kernel
theorem dX11_says_45 : decode cX11_says 45 = .ok (.getfield 48, 3) := by decide +kernel
theorem dX11_says_48 : decode cX11_says 48 = .ok (.iload_n 1, 1) := by decide +kernel
theorem dX11_says_49 : decode cX11_says 49 = .ok (.invokevirtual 239, 3) := by decide +kernel
theorem dX11_says_52 : decode cX11_says 52 = .ok (.ireturn, 1) := by decide +kernel
theorem dX11_plan_0 : decode cX11_plan 0 = .ok (.iload_n 1, 1) := by decide +kernel
theorem dX11_plan_1 : decode cX11_plan 1 = .ok (.iconst 0, 1) := by decide +kernel
theorem dX11_plan_2 : decode cX11_plan 2 = .ok (.sipush 1000, 3) := by decide +kernel
theorem dX11_plan_5 : decode cX11_plan 5 = .ok (.invokestatic 80, 3) := by decide +kernel
theorem dX11_plan_8 : decode cX11_plan 8 = .ok (.ifCond .ne 5, 3) := by decide +kernel
theorem dX11_plan_11 : decode cX11_plan 11 = .ok (.iconst (-1), 1) := by decide +kernel
theorem dX11_plan_12 : decode cX11_plan 12 = .ok (.ireturn, 1) := by decide +kernel
theorem dX11_plan_13 : decode cX11_plan 13 = .ok (.aload_n 0, 1) := by decide +kernel
theorem dX11_plan_14 : decode cX11_plan 14 = .ok (.getfield 48, 3) := by decide +kernel
theorem dX11_plan_17 : decode cX11_plan 17 = .ok (.aload_n 0, 1) := by decide +kernel
theorem dX11_plan_18 : decode cX11_plan 18 = .ok (.getfield 10, 3) := by decide +kernel
theorem dX11_plan_21 : decode cX11_plan 21 = .ok (.iconst (-1), 1) := by decide +kernel
theorem dX11_plan_22 : decode cX11_plan 22 = .ok (.invokevirtual 216, 3) := by decide +kernel
theorem dX11_plan_25 : decode cX11_plan 25 = .ok (.aload_n 0, 1) := by decide +kernel
theorem dX11_plan_26 : decode cX11_plan 26 = .ok (.getfield 55, 3) := by decide +kernel
theorem dX11_plan_29 : decode cX11_plan 29 = .ok (.aload_n 0, 1) := by decide +kernel
theorem dX11_plan_30 : decode cX11_plan 30 = .ok (.getfield 10, 3) := by decide +kernel
theorem dX11_plan_33 : decode cX11_plan 33 = .ok (.aload_n 0, 1) := by decide +kernel
theorem dX11_plan_34 : decode cX11_plan 34 = .ok (.getfield 48, 3) := by decide +kernel
theorem dX11_plan_37 : decode cX11_plan 37 = .ok (.iload_n 1, 1) := by decide +kernel
theorem dX11_plan_38 : decode cX11_plan 38 = .ok (.invokevirtual 243, 3) := by decide +kernel
theorem dX11_plan_41 : decode cX11_plan 41 = .ok (.ireturn, 1) := by decide +kernel
theorem dX11_year_0 : decode cX11_year 0 = .ok (.iload_n 1, 1) := by decide +kernel
theorem dX11_year_1 : decode cX11_year 1 = .ok (.iconst 0, 1) := by decide +kernel
theorem dX11_year_2 : decode cX11_year 2 = .ok (.bipush 29, 2) := by decide +kernel
theorem dX11_year_4 : decode cX11_year 4 = .ok (.invokestatic 80, 3) := by decide +kernel
theorem dX11_year_7 : decode cX11_year 7 = .ok (.ifCond .eq 25, 3) := by decide +kernel
theorem dX11_year_10 : decode cX11_year 10 = .ok (.iload_n 2, 1) := by decide +kernel
theorem dX11_year_11 : decode cX11_year 11 = .ok (.iconst 0, 1) := by decide +kernel
theorem dX11_year_12 : decode cX11_year 12 = .ok (.sipush 1000, 3) := by decide +kernel
theorem dX11_year_15 : decode cX11_year 15 = .ok (.invokestatic 80, 3) := by decide +kernel
theorem dX11_year_18 : decode cX11_year 18 = .ok (.ifCond .eq 14, 3) := by decide +kernel
theorem dX11_year_21 : decode cX11_year 21 = .ok (.iload_n 3, 1) := by decide +kernel
theorem dX11_year_22 : decode cX11_year 22 = .ok (.iconst 0, 1) := by decide +kernel
theorem dX11_year_23 : decode cX11_year 23 = .ok (.sipush 1000, 3) := by decide +kernel
theorem dX11_year_26 : decode cX11_year 26 = .ok (.invokestatic 80, 3) := by decide +kernel
theorem dX11_year_29 : decode cX11_year 29 = .ok (.ifCond .ne 9, 3) := by decide +kernel
theorem dX11_year_32 : decode cX11_year 32 = .ok (.aload_n 0, 1) := by decide +kernel
theorem dX11_year_33 : decode cX11_year 33 = .ok (.iconst (-1), 1) := by decide +kernel
theorem dX11_year_34 : decode cX11_year 34 = .ok (.invokevirtual 84, 3) := by decide +kernel
theorem dX11_year_37 : decode cX11_year 37 = .ok (.ireturn, 1) := by decide +kernel
theorem dX11_year_38 : decode cX11_year 38 = .ok (.aload_n 0, 1) := by decide +kernel
theorem dX11_year_39 : decode cX11_year 39 = .ok (.getfield 10, 3) := by decide +kernel
theorem dX11_year_42 : decode cX11_year 42 = .ok (.getfield 246, 3) := by decide +kernel
theorem dX11_year_45 : decode cX11_year 45 = .ok (.iload_n 1, 1) := by decide +kernel
theorem dX11_year_46 : decode cX11_year 46 = .ok (.iconst 0, 1) := by decide +kernel
theorem dX11_year_47 : decode cX11_year 47 = .ok (.iload_n 2, 1) := by decide +kernel
theorem dX11_year_48 : decode cX11_year 48 = .ok (.invokevirtual 249, 3) := by decide +kernel
theorem dX11_year_51 : decode cX11_year 51 = .ok (.aload_n 0, 1) := by decide +kernel
theorem dX11_year_52 : decode cX11_year 52 = .ok (.getfield 10, 3) := by decide +kernel
theorem dX11_year_55 : decode cX11_year 55 = .ok (.getfield 246, 3) := by decide +kernel
theorem dX11_year_58 : decode cX11_year 58 = .ok (.iload_n 1, 1) := by decide +kernel
theorem dX11_year_59 : decode cX11_year 59 = .ok (.iconst 1, 1) := by decide +kernel
theorem dX11_year_60 : decode cX11_year 60 = .ok (.iload_n 3, 1) := by decide +kernel
theorem dX11_year_61 : decode cX11_year 61 = .ok (.invokevirtual 249, 3) := by decide +kernel
theorem dX11_year_64 : decode cX11_year 64 = .ok (.aload_n 0, 1) := by decide +kernel
theorem dX11_year_65 : decode cX11_year 65 = .ok (.iconst 0, 1) := by decide +kernel
theorem dX11_year_66 : decode cX11_year 66 = .ok (.invokevirtual 98, 3) := by decide +kernel
theorem dX11_year_69 : decode cX11_year 69 = .ok (.ireturn, 1) := by decide +kernel
theorem dX11_more_0 : decode cX11_more 0 = .ok (.aload_n 0, 1) := by decide +kernel
theorem dX11_more_1 : decode cX11_more 1 = .ok (.iload_n 1, 1) := by decide +kernel
theorem dX11_more_2 : decode cX11_more 2 = .ok (.invokevirtual 253, 3) := by decide +kernel
theorem dX11_more_5 : decode cX11_more 5 = .ok (.ifCond .eq 22, 3) := by decide +kernel
theorem dX11_more_8 : decode cX11_more 8 = .ok (.iload_n 2, 1) := by decide +kernel
theorem dX11_more_9 : decode cX11_more 9 = .ok (.iconst 0, 1) := by decide +kernel
theorem dX11_more_10 : decode cX11_more 10 = .ok (.bipush 29, 2) := by decide +kernel
theorem dX11_more_12 : decode cX11_more 12 = .ok (.invokestatic 80, 3) := by decide +kernel
theorem dX11_more_15 : decode cX11_more 15 = .ok (.ifCond .eq 12, 3) := by decide +kernel
theorem dX11_more_18 : decode cX11_more 18 = .ok (.iload_n 3, 1) := by decide +kernel
theorem dX11_more_19 : decode cX11_more 19 = .ok (.iconst 0, 1) := by decide +kernel
theorem dX11_more_20 : decode cX11_more 20 = .ok (.iconst 1, 1) := by decide +kernel
theorem dX11_more_21 : decode cX11_more 21 = .ok (.invokestatic 80, 3) := by decide +kernel
theorem dX11_more_24 : decode cX11_more 24 = .ok (.ifCond .ne 6, 3) := by decide +kernel
theorem dX11_more_27 : decode cX11_more 27 = .ok (.ldc 222, 2) := by decide +kernel
theorem dX11_more_29 : decode cX11_more 29 = .ok (.ireturn, 1) := by decide +kernel
theorem dX11_more_30 : decode cX11_more 30 = .ok (.iload_n 3, 1) := by decide +kernel
theorem dX11_more_31 : decode cX11_more 31 = .ok (.ifCond .ne 15, 3) := by decide +kernel
theorem dX11_more_34 : decode cX11_more 34 = .ok (.aload_n 0, 1) := by decide +kernel
theorem dX11_more_35 : decode cX11_more 35 = .ok (.getfield 10, 3) := by decide +kernel
theorem dX11_more_38 : decode cX11_more 38 = .ok (.iload_n 1, 1) := by decide +kernel
theorem dX11_more_39 : decode cX11_more 39 = .ok (.iload_n 2, 1) := by decide +kernel
theorem dX11_more_40 : decode cX11_more 40 = .ok (.invokevirtual 256, 3) := by decide +kernel
theorem dX11_more_43 : decode cX11_more 43 = .ok (.goto 12, 3) := by decide +kernel
theorem dX11_more_46 : decode cX11_more 46 = .ok (.aload_n 0, 1) := by decide +kernel
theorem dX11_more_47 : decode cX11_more 47 = .ok (.getfield 10, 3) := by decide +kernel
theorem dX11_more_50 : decode cX11_more 50 = .ok (.iload_n 1, 1) := by decide +kernel
theorem dX11_more_51 : decode cX11_more 51 = .ok (.iload_n 2, 1) := by decide +kernel
theorem dX11_more_52 : decode cX11_more 52 = .ok (.invokevirtual 259, 3) := by decide +kernel
theorem dX11_more_55 : decode cX11_more 55 = .ok (.ireturn, 1) := by decide +kernel
theorem dX11_grew_0 : decode cX11_grew 0 = .ok (.aload_n 0, 1) := by decide +kernel
theorem dX11_grew_1 : decode cX11_grew 1 = .ok (.iload_n 1, 1) := by decide +kernel
theorem dX11_grew_2 : decode cX11_grew 2 = .ok (.invokevirtual 253, 3) := by decide +kernel
theorem dX11_grew_5 : decode cX11_grew 5 = .ok (.ifCond .ne 5, 3) := by decide +kernel
theorem dX11_grew_8 : decode cX11_grew 8 = .ok (.iconst (-1), 1) := by decide +kernel
theorem dX11_grew_9 : decode cX11_grew 9 = .ok (.ireturn, 1) := by decide +kernel
theorem dX11_grew_10 : decode cX11_grew 10 = .ok (.iconst 0, 1) := by decide +kernel
theorem dX11_grew_11 : decode cX11_grew 11 = .ok (.istore_n 2, 1) := by decide +kernel
theorem dX11_grew_12 : decode cX11_grew 12 = .ok (.iconst 1, 1) := by decide +kernel
theorem dX11_grew_13 : decode cX11_grew 13 = .ok (.istore_n 3, 1) := by decide +kernel
theorem dX11_grew_14 : decode cX11_grew 14 = .ok (.iload_n 3, 1) := by decide +kernel
theorem dX11_grew_15 : decode cX11_grew 15 = .ok (.bipush 30, 2) := by decide +kernel
theorem dX11_grew_17 : decode cX11_grew 17 = .ok (.if_icmp .ge 32, 3) := by decide +kernel
theorem dX11_grew_20 : decode cX11_grew 20 = .ok (.aload_n 0, 1) := by decide +kernel
theorem dX11_grew_21 : decode cX11_grew 21 = .ok (.getfield 10, 3) := by decide +kernel
theorem dX11_grew_24 : decode cX11_grew 24 = .ok (.iload_n 1, 1) := by decide +kernel
theorem dX11_grew_25 : decode cX11_grew 25 = .ok (.iload_n 3, 1) := by decide +kernel
theorem dX11_grew_26 : decode cX11_grew 26 = .ok (.invokevirtual 259, 3) := by decide +kernel
theorem dX11_grew_29 : decode cX11_grew 29 = .ok (.aload_n 0, 1) := by decide +kernel
theorem dX11_grew_30 : decode cX11_grew 30 = .ok (.getfield 10, 3) := by decide +kernel
theorem dX11_grew_33 : decode cX11_grew 33 = .ok (.iload_n 1, 1) := by decide +kernel
theorem dX11_grew_34 : decode cX11_grew 34 = .ok (.iload_n 2, 1) := by decide +kernel
theorem dX11_grew_35 : decode cX11_grew 35 = .ok (.invokevirtual 259, 3) := by decide +kernel
theorem dX11_grew_38 : decode cX11_grew 38 = .ok (.if_icmp .le 5, 3) := by decide +kernel
theorem dX11_grew_41 : decode cX11_grew 41 = .ok (.iload_n 3, 1) := by decide +kernel
theorem dX11_grew_42 : decode cX11_grew 42 = .ok (.istore_n 2, 1) := by decide +kernel
theorem dX11_grew_43 : decode cX11_grew 43 = .ok (.iinc 3 1, 3) := by decide +kernel
theorem dX11_grew_46 : decode cX11_grew 46 = .ok (.goto (-32), 3) := by decide +kernel
theorem dX11_grew_49 : decode cX11_grew 49 = .ok (.iload_n 2, 1) := by decide +kernel
theorem dX11_grew_50 : decode cX11_grew 50 = .ok (.ireturn, 1) := by decide +kernel
theorem dX11_ripple_0 : decode cX11_ripple 0 = .ok (.iload_n 1, 1) := by decide +kernel
theorem dX11_ripple_1 : decode cX11_ripple 1 = .ok (.iconst 0, 1) := by decide +kernel
theorem dX11_ripple_2 : decode cX11_ripple 2 = .ok (.bipush 9, 2) := by decide +kernel
theorem dX11_ripple_4 : decode cX11_ripple 4 = .ok (.invokestatic 80, 3) := by decide +kernel
theorem dX11_ripple_7 : decode cX11_ripple 7 = .ok (.ifCond .eq 23, 3) := by decide +kernel
theorem dX11_ripple_10 : decode cX11_ripple 10 = .ok (.iload_n 2, 1) := by decide +kernel
theorem dX11_ripple_11 : decode cX11_ripple 11 = .ok (.iconst 1, 1) := by decide +kernel
theorem dX11_ripple_12 : decode cX11_ripple 12 = .ok (.bipush 99, 2) := by decide +kernel
theorem dX11_ripple_14 : decode cX11_ripple 14 = .ok (.invokestatic 80, 3) := by decide +kernel
theorem dX11_ripple_17 : decode cX11_ripple 17 = .ok (.ifCond .eq 13, 3) := by decide +kernel
theorem dX11_ripple_20 : decode cX11_ripple 20 = .ok (.iload_n 3, 1) := by decide +kernel
theorem dX11_ripple_21 : decode cX11_ripple 21 = .ok (.iload_n 2, 1) := by decide +kernel
theorem dX11_ripple_22 : decode cX11_ripple 22 = .ok (.bipush 99, 2) := by decide +kernel
theorem dX11_ripple_24 : decode cX11_ripple 24 = .ok (.invokestatic 80, 3) := by decide +kernel
theorem dX11_ripple_27 : decode cX11_ripple 27 = .ok (.ifCond .ne 9, 3) := by decide +kernel
theorem dX11_ripple_30 : decode cX11_ripple 30 = .ok (.aload_n 0, 1) := by decide +kernel
theorem dX11_ripple_31 : decode cX11_ripple 31 = .ok (.iconst (-1), 1) := by decide +kernel
theorem dX11_ripple_32 : decode cX11_ripple 32 = .ok (.invokevirtual 84, 3) := by decide +kernel
theorem dX11_ripple_35 : decode cX11_ripple 35 = .ok (.ireturn, 1) := by decide +kernel
theorem dX11_ripple_36 : decode cX11_ripple 36 = .ok (.aload_n 0, 1) := by decide +kernel
theorem dX11_ripple_37 : decode cX11_ripple 37 = .ok (.getfield 10, 3) := by decide +kernel
theorem dX11_ripple_40 : decode cX11_ripple 40 = .ok (.getfield 262, 3) := by decide +kernel
theorem dX11_ripple_43 : decode cX11_ripple 43 = .ok (.iload_n 1, 1) := by decide +kernel
theorem dX11_ripple_44 : decode cX11_ripple 44 = .ok (.iconst 0, 1) := by decide +kernel
theorem dX11_ripple_45 : decode cX11_ripple 45 = .ok (.iload_n 2, 1) := by decide +kernel
theorem dX11_ripple_46 : decode cX11_ripple 46 = .ok (.invokevirtual 249, 3) := by decide +kernel
theorem dX11_ripple_49 : decode cX11_ripple 49 = .ok (.aload_n 0, 1) := by decide +kernel
theorem dX11_ripple_50 : decode cX11_ripple 50 = .ok (.getfield 10, 3) := by decide +kernel
theorem dX11_ripple_53 : decode cX11_ripple 53 = .ok (.getfield 262, 3) := by decide +kernel
theorem dX11_ripple_56 : decode cX11_ripple 56 = .ok (.iload_n 1, 1) := by decide +kernel
theorem dX11_ripple_57 : decode cX11_ripple 57 = .ok (.iconst 1, 1) := by decide +kernel
theorem dX11_ripple_58 : decode cX11_ripple 58 = .ok (.iload_n 3, 1) := by decide +kernel
theorem dX11_ripple_59 : decode cX11_ripple 59 = .ok (.invokevirtual 249, 3) := by decide +kernel
theorem dX11_ripple_62 : decode cX11_ripple 62 = .ok (.aload_n 0, 1) := by decide +kernel
theorem dX11_ripple_63 : decode cX11_ripple 63 = .ok (.iconst 0, 1) := by decide +kernel
theorem dX11_ripple_64 : decode cX11_ripple 64 = .ok (.invokevirtual 98, 3) := by decide +kernel
theorem dX11_ripple_67 : decode cX11_ripple 67 = .ok (.ireturn, 1) := by decide +kernel
theorem dX11_picture_0 : decode cX11_picture 0 = .ok (.iload_n 1, 1) := by decide +kernel
theorem dX11_picture_1 : decode cX11_picture 1 = .ok (.iconst 0, 1) := by decide +kernel
theorem dX11_picture_2 : decode cX11_picture 2 = .ok (.bipush 59, 2) := by decide +kernel
theorem dX11_picture_4 : decode cX11_picture 4 = .ok (.invokestatic 80, 3) := by decide +kernel
theorem dX11_picture_7 : decode cX11_picture 7 = .ok (.ifCond .eq 22, 3) := by decide +kernel
theorem dX11_picture_10 : decode cX11_picture 10 = .ok (.iload_n 2, 1) := by decide +kernel
theorem dX11_picture_11 : decode cX11_picture 11 = .ok (.iconst 0, 1) := by decide +kernel
theorem dX11_picture_12 : decode cX11_picture 12 = .ok (.bipush 50, 2) := by decide +kernel
theorem dX11_picture_14 : decode cX11_picture 14 = .ok (.invokestatic 80, 3) := by decide +kernel
theorem dX11_picture_17 : decode cX11_picture 17 = .ok (.ifCond .eq 12, 3) := by decide +kernel
theorem dX11_picture_20 : decode cX11_picture 20 = .ok (.iload_n 3, 1) := by decide +kernel
theorem dX11_picture_21 : decode cX11_picture 21 = .ok (.iconst 0, 1) := by decide +kernel
theorem dX11_picture_22 : decode cX11_picture 22 = .ok (.iconst 1, 1) := by decide +kernel
theorem dX11_picture_23 : decode cX11_picture 23 = .ok (.invokestatic 80, 3) := by decide +kernel
theorem dX11_picture_26 : decode cX11_picture 26 = .ok (.ifCond .ne 5, 3) := by decide +kernel
theorem dX11_picture_29 : decode cX11_picture 29 = .ok (.iconst (-1), 1) := by decide +kernel
theorem dX11_picture_30 : decode cX11_picture 30 = .ok (.ireturn, 1) := by decide +kernel
theorem dX11_picture_31 : decode cX11_picture 31 = .ok (.aload_n 0, 1) := by decide +kernel
theorem dX11_picture_32 : decode cX11_picture 32 = .ok (.getfield 10, 3) := by decide +kernel
theorem dX11_picture_35 : decode cX11_picture 35 = .ok (.getfield 88, 3) := by decide +kernel
theorem dX11_picture_38 : decode cX11_picture 38 = .ok (.iload_n 1, 1) := by decide +kernel
theorem dX11_picture_39 : decode cX11_picture 39 = .ok (.iconst 0, 1) := by decide +kernel
theorem dX11_picture_40 : decode cX11_picture 40 = .ok (.invokevirtual 184, 3) := by decide +kernel
theorem dX11_picture_43 : decode cX11_picture 43 = .ok (.istore 4, 2) := by decide +kernel
theorem dX11_picture_45 : decode cX11_picture 45 = .ok (.iload_n 3, 1) := by decide +kernel
theorem dX11_picture_46 : decode cX11_picture 46 = .ok (.ifCond .ne 21, 3) := by decide +kernel
theorem dX11_picture_49 : decode cX11_picture 49 = .ok (.iload_n 2, 1) := by decide +kernel
theorem dX11_picture_50 : decode cX11_picture 50 = .ok (.aload_n 0, 1) := by decide +kernel
theorem dX11_picture_51 : decode cX11_picture 51 = .ok (.getfield 10, 3) := by decide +kernel
theorem dX11_picture_54 : decode cX11_picture 54 = .ok (.getfield 262, 3) := by decide +kernel
theorem dX11_picture_57 : decode cX11_picture 57 = .ok (.iload 4, 2) := by decide +kernel
theorem dX11_picture_59 : decode cX11_picture 59 = .ok (.iconst 0, 1) := by decide +kernel
theorem dX11_picture_60 : decode cX11_picture 60 = .ok (.invokevirtual 184, 3) := by decide +kernel
theorem dX11_picture_63 : decode cX11_picture 63 = .ok (.imul, 1) := by decide +kernel
theorem dX11_picture_64 : decode cX11_picture 64 = .ok (.goto 20, 3) := by decide +kernel
theorem dX11_picture_67 : decode cX11_picture 67 = .ok (.iload_n 2, 1) := by decide +kernel
theorem dX11_picture_68 : decode cX11_picture 68 = .ok (.iconst 1, 1) := by decide +kernel
theorem dX11_picture_69 : decode cX11_picture 69 = .ok (.iadd, 1) := by decide +kernel
theorem dX11_picture_70 : decode cX11_picture 70 = .ok (.aload_n 0, 1) := by decide +kernel
theorem dX11_picture_71 : decode cX11_picture 71 = .ok (.getfield 10, 3) := by decide +kernel
theorem dX11_picture_74 : decode cX11_picture 74 = .ok (.getfield 262, 3) := by decide +kernel
theorem dX11_picture_77 : decode cX11_picture 77 = .ok (.iload 4, 2) := by decide +kernel
theorem dX11_picture_79 : decode cX11_picture 79 = .ok (.iconst 1, 1) := by decide +kernel
theorem dX11_picture_80 : decode cX11_picture 80 = .ok (.invokevirtual 184, 3) := by decide +kernel
theorem dX11_picture_83 : decode cX11_picture 83 = .ok (.imul, 1) := by decide +kernel
theorem dX11_picture_84 : decode cX11_picture 84 = .ok (.ireturn, 1) := by decide +kernel
theorem dX11_run_0 : decode cX11_run 0 = .ok (.iload_n 2, 1) := by decide +kernel
theorem dX11_run_1 : decode cX11_run 1 = .ok (.iconst 1, 1) := by decide +kernel
theorem dX11_run_2 : decode cX11_run 2 = .ok (.bipush 60, 2) := by decide +kernel
theorem dX11_run_4 : decode cX11_run 4 = .ok (.invokestatic 80, 3) := by decide +kernel
theorem dX11_run_7 : decode cX11_run 7 = .ok (.ifCond .eq 14, 3) := by decide +kernel
theorem dX11_run_10 : decode cX11_run 10 = .ok (.iload_n 3, 1) := by decide +kernel
theorem dX11_run_11 : decode cX11_run 11 = .ok (.iconst 0, 1) := by decide +kernel
theorem dX11_run_12 : decode cX11_run 12 = .ok (.ldc_w 265, 3) := by decide +kernel
theorem dX11_run_15 : decode cX11_run 15 = .ok (.invokestatic 80, 3) := by decide +kernel
theorem dX11_run_18 : decode cX11_run 18 = .ok (.ifCond .ne 9, 3) := by decide +kernel
theorem dX11_run_21 : decode cX11_run 21 = .ok (.aload_n 0, 1) := by decide +kernel
theorem dX11_run_22 : decode cX11_run 22 = .ok (.iconst (-1), 1) := by decide +kernel
theorem dX11_run_23 : decode cX11_run 23 = .ok (.invokevirtual 84, 3) := by decide +kernel
theorem dX11_run_26 : decode cX11_run 26 = .ok (.ireturn, 1) := by decide +kernel
theorem dX11_run_27 : decode cX11_run 27 = .ok (.aload_n 0, 1) := by decide +kernel
theorem dX11_run_28 : decode cX11_run 28 = .ok (.getfield 10, 3) := by decide +kernel
theorem dX11_run_31 : decode cX11_run 31 = .ok (.getfield 207, 3) := by decide +kernel
theorem dX11_run_34 : decode cX11_run 34 = .ok (.iload_n 1, 1) := by decide +kernel
theorem dX11_run_35 : decode cX11_run 35 = .ok (.invokevirtual 117, 3) := by decide +kernel
theorem dX11_run_38 : decode cX11_run 38 = .ok (.ifCond .ne 10, 3) := by decide +kernel
theorem dX11_run_41 : decode cX11_run 41 = .ok (.aload_n 0, 1) := by decide +kernel
theorem dX11_run_42 : decode cX11_run 42 = .ok (.bipush (-2), 2) := by decide +kernel
theorem dX11_run_44 : decode cX11_run 44 = .ok (.invokevirtual 84, 3) := by decide +kernel
theorem dX11_run_47 : decode cX11_run 47 = .ok (.ireturn, 1) := by decide +kernel
theorem dX11_run_48 : decode cX11_run 48 = .ok (.aload_n 0, 1) := by decide +kernel
theorem dX11_run_49 : decode cX11_run 49 = .ok (.aload_n 0, 1) := by decide +kernel
theorem dX11_run_50 : decode cX11_run 50 = .ok (.getfield 62, 3) := by decide +kernel
theorem dX11_run_53 : decode cX11_run 53 = .ok (.aload_n 0, 1) := by decide +kernel
theorem dX11_run_54 : decode cX11_run 54 = .ok (.getfield 10, 3) := by decide +kernel
theorem dX11_run_57 : decode cX11_run 57 = .ok (.iload_n 1, 1) := by decide +kernel
theorem dX11_run_58 : decode cX11_run 58 = .ok (.iload_n 2, 1) := by decide +kernel
theorem dX11_run_59 : decode cX11_run 59 = .ok (.iload_n 3, 1) := by decide +kernel
theorem dX11_run_60 : decode cX11_run 60 = .ok (.invokevirtual 266, 3) := by decide +kernel
theorem dX11_run_63 : decode cX11_run 63 = .ok (.invokevirtual 98, 3) := by decide +kernel
theorem dX11_run_66 : decode cX11_run 66 = .ok (.ireturn, 1) := by decide +kernel
theorem dX11_world_0 : decode cX11_world 0 = .ok (.iload_n 1, 1) := by decide +kernel
theorem dX11_world_1 : decode cX11_world 1 = .ok (.iconst 0, 1) := by decide +kernel
theorem dX11_world_2 : decode cX11_world 2 = .ok (.iconst 2, 1) := by decide +kernel
theorem dX11_world_3 : decode cX11_world 3 = .ok (.invokestatic 80, 3) := by decide +kernel
theorem dX11_world_6 : decode cX11_world 6 = .ok (.ifCond .ne 5, 3) := by decide +kernel
theorem dX11_world_9 : decode cX11_world 9 = .ok (.iconst (-1), 1) := by decide +kernel
theorem dX11_world_10 : decode cX11_world 10 = .ok (.ireturn, 1) := by decide +kernel
theorem dX11_world_11 : decode cX11_world 11 = .ok (.iload_n 2, 1) := by decide +kernel
theorem dX11_world_12 : decode cX11_world 12 = .ok (.iconst (-1), 1) := by decide +kernel
theorem dX11_world_13 : decode cX11_world 13 = .ok (.if_icmp .ne 14, 3) := by decide +kernel
theorem dX11_world_16 : decode cX11_world 16 = .ok (.aload_n 0, 1) := by decide +kernel
theorem dX11_world_17 : decode cX11_world 17 = .ok (.getfield 62, 3) := by decide +kernel
theorem dX11_world_20 : decode cX11_world 20 = .ok (.iload_n 1, 1) := by decide +kernel
theorem dX11_world_21 : decode cX11_world 21 = .ok (.invokevirtual 270, 3) := by decide +kernel
theorem dX11_world_24 : decode cX11_world 24 = .ok (.goto 12, 3) := by decide +kernel
theorem dX11_world_27 : decode cX11_world 27 = .ok (.aload_n 0, 1) := by decide +kernel
theorem dX11_world_28 : decode cX11_world 28 = .ok (.getfield 62, 3) := by decide +kernel
theorem dX11_world_31 : decode cX11_world 31 = .ok (.iload_n 2, 1) := by decide +kernel
theorem dX11_world_32 : decode cX11_world 32 = .ok (.iload_n 1, 1) := by decide +kernel
theorem dX11_world_33 : decode cX11_world 33 = .ok (.invokevirtual 273, 3) := by decide +kernel
theorem dX11_world_36 : decode cX11_world 36 = .ok (.ireturn, 1) := by decide +kernel
theorem dX11_image_0 : decode cX11_image 0 = .ok (.iload_n 1, 1) := by decide +kernel
theorem dX11_image_1 : decode cX11_image 1 = .ok (.iconst 0, 1) := by decide +kernel
theorem dX11_image_2 : decode cX11_image 2 = .ok (.iconst 1, 1) := by decide +kernel
theorem dX11_image_3 : decode cX11_image 3 = .ok (.invokestatic 80, 3) := by decide +kernel
theorem dX11_image_6 : decode cX11_image 6 = .ok (.ifCond .ne 9, 3) := by decide +kernel
theorem dX11_image_9 : decode cX11_image 9 = .ok (.aload_n 0, 1) := by decide +kernel
theorem dX11_image_10 : decode cX11_image 10 = .ok (.iconst (-1), 1) := by decide +kernel
theorem dX11_image_11 : decode cX11_image 11 = .ok (.invokevirtual 84, 3) := by decide +kernel
theorem dX11_image_14 : decode cX11_image 14 = .ok (.ireturn, 1) := by decide +kernel
theorem dX11_image_15 : decode cX11_image 15 = .ok (.aload_n 0, 1) := by decide +kernel
theorem dX11_image_16 : decode cX11_image 16 = .ok (.getfield 16, 3) := by decide +kernel
theorem dX11_image_19 : decode cX11_image 19 = .ok (.iload_n 1, 1) := by decide +kernel
theorem dX11_image_20 : decode cX11_image 20 = .ok (.aaload, 1) := by decide +kernel
theorem dX11_image_21 : decode cX11_image 21 = .ok (.aload_n 0, 1) := by decide +kernel
theorem dX11_image_22 : decode cX11_image 22 = .ok (.getfield 10, 3) := by decide +kernel
theorem dX11_image_25 : decode cX11_image 25 = .ok (.invokevirtual 276, 3) := by decide +kernel
theorem dX11_image_28 : decode cX11_image 28 = .ok (.aload_n 0, 1) := by decide +kernel
theorem dX11_image_29 : decode cX11_image 29 = .ok (.getfield 20, 3) := by decide +kernel
theorem dX11_image_32 : decode cX11_image 32 = .ok (.iload_n 1, 1) := by decide +kernel
theorem dX11_image_33 : decode cX11_image 33 = .ok (.iconst 1, 1) := by decide +kernel
theorem dX11_image_34 : decode cX11_image 34 = .ok (.bastore, 1) := by decide +kernel
theorem dX11_image_35 : decode cX11_image 35 = .ok (.aload_n 0, 1) := by decide +kernel
theorem dX11_image_36 : decode cX11_image 36 = .ok (.iconst 0, 1) := by decide +kernel
theorem dX11_image_37 : decode cX11_image 37 = .ok (.invokevirtual 98, 3) := by decide +kernel
theorem dX11_image_40 : decode cX11_image 40 = .ok (.ireturn, 1) := by decide +kernel
theorem dX11_back_0 : decode cX11_back 0 = .ok (.iload_n 1, 1) := by decide +kernel
theorem dX11_back_1 : decode cX11_back 1 = .ok (.iconst 0, 1) := by decide +kernel
theorem dX11_back_2 : decode cX11_back 2 = .ok (.iconst 1, 1) := by decide +kernel
theorem dX11_back_3 : decode cX11_back 3 = .ok (.invokestatic 80, 3) := by decide +kernel
theorem dX11_back_6 : decode cX11_back 6 = .ok (.ifCond .ne 9, 3) := by decide +kernel
theorem dX11_back_9 : decode cX11_back 9 = .ok (.aload_n 0, 1) := by decide +kernel
theorem dX11_back_10 : decode cX11_back 10 = .ok (.iconst (-1), 1) := by decide +kernel
theorem dX11_back_11 : decode cX11_back 11 = .ok (.invokevirtual 84, 3) := by decide +kernel
theorem dX11_back_14 : decode cX11_back 14 = .ok (.ireturn, 1) := by decide +kernel
theorem dX11_back_15 : decode cX11_back 15 = .ok (.aload_n 0, 1) := by decide +kernel
theorem dX11_back_16 : decode cX11_back 16 = .ok (.getfield 20, 3) := by decide +kernel
theorem dX11_back_19 : decode cX11_back 19 = .ok (.iload_n 1, 1) := by decide +kernel
theorem dX11_back_20 : decode cX11_back 20 = .ok (.baload, 1) := by decide +kernel
theorem dX11_back_21 : decode cX11_back 21 = .ok (.ifCond .ne 10, 3) := by decide +kernel
theorem dX11_back_24 : decode cX11_back 24 = .ok (.aload_n 0, 1) := by decide +kernel
theorem dX11_back_25 : decode cX11_back 25 = .ok (.bipush (-2), 2) := by decide +kernel
theorem dX11_back_27 : decode cX11_back 27 = .ok (.invokevirtual 84, 3) := by decide +kernel
theorem dX11_back_30 : decode cX11_back 30 = .ok (.ireturn, 1) := by decide +kernel
theorem dX11_back_31 : decode cX11_back 31 = .ok (.aload_n 0, 1) := by decide +kernel
theorem dX11_back_32 : decode cX11_back 32 = .ok (.getfield 10, 3) := by decide +kernel
theorem dX11_back_35 : decode cX11_back 35 = .ok (.aload_n 0, 1) := by decide +kernel
theorem dX11_back_36 : decode cX11_back 36 = .ok (.getfield 16, 3) := by decide +kernel
theorem dX11_back_39 : decode cX11_back 39 = .ok (.iload_n 1, 1) := by decide +kernel
theorem dX11_back_40 : decode cX11_back 40 = .ok (.aaload, 1) := by decide +kernel
theorem dX11_back_41 : decode cX11_back 41 = .ok (.invokevirtual 276, 3) := by decide +kernel
theorem dX11_back_44 : decode cX11_back 44 = .ok (.aload_n 0, 1) := by decide +kernel
theorem dX11_back_45 : decode cX11_back 45 = .ok (.iconst 0, 1) := by decide +kernel
theorem dX11_back_46 : decode cX11_back 46 = .ok (.invokevirtual 98, 3) := by decide +kernel
theorem dX11_back_49 : decode cX11_back 49 = .ok (.ireturn, 1) := by decide +kernel
theorem dX11_count_0 : decode cX11_count 0 = .ok (.iload_n 1, 1) := by decide +kernel
theorem dX11_count_1 : decode cX11_count 1 = .ok (.tableswitch 221 0 14 #[75, 86, 97, 108, 119, 130, 141, 152, 163, 174, 185, 193, 200, 207, 214], 75) := by decide +kernel
theorem dX11_count_76 : decode cX11_count 76 = .ok (.aload_n 0, 1) := by decide +kernel
theorem dX11_count_77 : decode cX11_count 77 = .ok (.getfield 10, 3) := by decide +kernel
theorem dX11_count_80 : decode cX11_count 80 = .ok (.getfield 101, 3) := by decide +kernel
theorem dX11_count_83 : decode cX11_count 83 = .ok (.invokevirtual 200, 3) := by decide +kernel
theorem dX11_count_86 : decode cX11_count 86 = .ok (.ireturn, 1) := by decide +kernel
theorem dX11_count_87 : decode cX11_count 87 = .ok (.aload_n 0, 1) := by decide +kernel
theorem dX11_count_88 : decode cX11_count 88 = .ok (.getfield 10, 3) := by decide +kernel
theorem dX11_count_91 : decode cX11_count 91 = .ok (.getfield 108, 3) := by decide +kernel
theorem dX11_count_94 : decode cX11_count 94 = .ok (.invokevirtual 200, 3) := by decide +kernel
theorem dX11_count_97 : decode cX11_count 97 = .ok (.ireturn, 1) := by decide +kernel
theorem dX11_count_98 : decode cX11_count 98 = .ok (.aload_n 0, 1) := by decide +kernel
theorem dX11_count_99 : decode cX11_count 99 = .ok (.getfield 10, 3) := by decide +kernel
theorem dX11_count_102 : decode cX11_count 102 = .ok (.getfield 111, 3) := by decide +kernel
theorem dX11_count_105 : decode cX11_count 105 = .ok (.invokevirtual 200, 3) := by decide +kernel
theorem dX11_count_108 : decode cX11_count 108 = .ok (.ireturn, 1) := by decide +kernel
theorem dX11_count_109 : decode cX11_count 109 = .ok (.aload_n 0, 1) := by decide +kernel
theorem dX11_count_110 : decode cX11_count 110 = .ok (.getfield 10, 3) := by decide +kernel
theorem dX11_count_113 : decode cX11_count 113 = .ok (.getfield 114, 3) := by decide +kernel
theorem dX11_count_116 : decode cX11_count 116 = .ok (.invokevirtual 200, 3) := by decide +kernel
theorem dX11_count_119 : decode cX11_count 119 = .ok (.ireturn, 1) := by decide +kernel
theorem dX11_count_120 : decode cX11_count 120 = .ok (.aload_n 0, 1) := by decide +kernel
theorem dX11_count_121 : decode cX11_count 121 = .ok (.getfield 10, 3) := by decide +kernel
theorem dX11_count_124 : decode cX11_count 124 = .ok (.getfield 121, 3) := by decide +kernel
theorem dX11_count_127 : decode cX11_count 127 = .ok (.invokevirtual 200, 3) := by decide +kernel
theorem dX11_count_130 : decode cX11_count 130 = .ok (.ireturn, 1) := by decide +kernel
theorem dX11_count_131 : decode cX11_count 131 = .ok (.aload_n 0, 1) := by decide +kernel
theorem dX11_count_132 : decode cX11_count 132 = .ok (.getfield 10, 3) := by decide +kernel
theorem dX11_count_135 : decode cX11_count 135 = .ok (.getfield 171, 3) := by decide +kernel
theorem dX11_count_138 : decode cX11_count 138 = .ok (.invokevirtual 200, 3) := by decide +kernel
theorem dX11_count_141 : decode cX11_count 141 = .ok (.ireturn, 1) := by decide +kernel
theorem dX11_count_142 : decode cX11_count 142 = .ok (.aload_n 0, 1) := by decide +kernel
theorem dX11_count_143 : decode cX11_count 143 = .ok (.getfield 10, 3) := by decide +kernel
theorem dX11_count_146 : decode cX11_count 146 = .ok (.getfield 156, 3) := by decide +kernel
theorem dX11_count_149 : decode cX11_count 149 = .ok (.invokevirtual 170, 3) := by decide +kernel
theorem dX11_count_152 : decode cX11_count 152 = .ok (.ireturn, 1) := by decide +kernel
theorem dX11_count_153 : decode cX11_count 153 = .ok (.aload_n 0, 1) := by decide +kernel
theorem dX11_count_154 : decode cX11_count 154 = .ok (.getfield 10, 3) := by decide +kernel
theorem dX11_count_157 : decode cX11_count 157 = .ok (.getfield 207, 3) := by decide +kernel
theorem dX11_count_160 : decode cX11_count 160 = .ok (.invokevirtual 200, 3) := by decide +kernel
theorem dX11_count_163 : decode cX11_count 163 = .ok (.ireturn, 1) := by decide +kernel
theorem dX11_count_164 : decode cX11_count 164 = .ok (.aload_n 0, 1) := by decide +kernel
theorem dX11_count_165 : decode cX11_count 165 = .ok (.getfield 10, 3) := by decide +kernel
theorem dX11_count_168 : decode cX11_count 168 = .ok (.getfield 213, 3) := by decide +kernel
theorem dX11_count_171 : decode cX11_count 171 = .ok (.invokevirtual 200, 3) := by decide +kernel
theorem dX11_count_174 : decode cX11_count 174 = .ok (.ireturn, 1) := by decide +kernel
theorem dX11_count_175 : decode cX11_count 175 = .ok (.aload_n 0, 1) := by decide +kernel
theorem dX11_count_176 : decode cX11_count 176 = .ok (.getfield 10, 3) := by decide +kernel
theorem dX11_count_179 : decode cX11_count 179 = .ok (.getfield 236, 3) := by decide +kernel
theorem dX11_count_182 : decode cX11_count 182 = .ok (.invokevirtual 200, 3) := by decide +kernel
theorem dX11_count_185 : decode cX11_count 185 = .ok (.ireturn, 1) := by decide +kernel
theorem dX11_count_186 : decode cX11_count 186 = .ok (.aload_n 0, 1) := by decide +kernel
theorem dX11_count_187 : decode cX11_count 187 = .ok (.getfield 27, 3) := by decide +kernel
theorem dX11_count_190 : decode cX11_count 190 = .ok (.invokevirtual 139, 3) := by decide +kernel
theorem dX11_count_193 : decode cX11_count 193 = .ok (.ireturn, 1) := by decide +kernel
theorem dX11_count_194 : decode cX11_count 194 = .ok (.aload_n 0, 1) := by decide +kernel
theorem dX11_count_195 : decode cX11_count 195 = .ok (.getfield 66, 3) := by decide +kernel
theorem dX11_count_198 : decode cX11_count 198 = .ok (.iconst 0, 1) := by decide +kernel
theorem dX11_count_199 : decode cX11_count 199 = .ok (.iaload, 1) := by decide +kernel
theorem dX11_count_200 : decode cX11_count 200 = .ok (.ireturn, 1) := by decide +kernel
theorem dX11_count_201 : decode cX11_count 201 = .ok (.aload_n 0, 1) := by decide +kernel
theorem dX11_count_202 : decode cX11_count 202 = .ok (.getfield 66, 3) := by decide +kernel
theorem dX11_count_205 : decode cX11_count 205 = .ok (.iconst 1, 1) := by decide +kernel
theorem dX11_count_206 : decode cX11_count 206 = .ok (.iaload, 1) := by decide +kernel
theorem dX11_count_207 : decode cX11_count 207 = .ok (.ireturn, 1) := by decide +kernel
theorem dX11_count_208 : decode cX11_count 208 = .ok (.aload_n 0, 1) := by decide +kernel
theorem dX11_count_209 : decode cX11_count 209 = .ok (.getfield 66, 3) := by decide +kernel
theorem dX11_count_212 : decode cX11_count 212 = .ok (.iconst 2, 1) := by decide +kernel
theorem dX11_count_213 : decode cX11_count 213 = .ok (.iaload, 1) := by decide +kernel
theorem dX11_count_214 : decode cX11_count 214 = .ok (.ireturn, 1) := by decide +kernel
theorem dX11_count_215 : decode cX11_count 215 = .ok (.aload_n 0, 1) := by decide +kernel
theorem dX11_count_216 : decode cX11_count 216 = .ok (.getfield 66, 3) := by decide +kernel
theorem dX11_count_219 : decode cX11_count 219 = .ok (.iconst 3, 1) := by decide +kernel
theorem dX11_count_220 : decode cX11_count 220 = .ok (.iaload, 1) := by decide +kernel
theorem dX11_count_221 : decode cX11_count 221 = .ok (.ireturn, 1) := by decide +kernel
theorem dX11_count_222 : decode cX11_count 222 = .ok (.iconst (-1), 1) := by decide +kernel
theorem dX11_count_223 : decode cX11_count 223 = .ok (.ireturn, 1) := by decide +kernel
theorem dX11_status_0 : decode cX11_status 0 = .ok (.aload_n 0, 1) := by decide +kernel
theorem dX11_status_1 : decode cX11_status 1 = .ok (.getfield 70, 3) := by decide +kernel
theorem dX11_status_4 : decode cX11_status 4 = .ok (.ireturn, 1) := by decide +kernel
theorem dX11_within_0 : decode cX11_within 0 = .ok (.iload_n 0, 1) := by decide +kernel
theorem dX11_within_1 : decode cX11_within 1 = .ok (.iload_n 1, 1) := by decide +kernel
theorem dX11_within_2 : decode cX11_within 2 = .ok (.if_icmp .lt 12, 3) := by decide +kernel
theorem dX11_within_5 : decode cX11_within 5 = .ok (.iload_n 0, 1) := by decide +kernel
theorem dX11_within_6 : decode cX11_within 6 = .ok (.iload_n 2, 1) := by decide +kernel
theorem dX11_within_7 : decode cX11_within 7 = .ok (.if_icmp .gt 7, 3) := by decide +kernel
theorem dX11_within_10 : decode cX11_within 10 = .ok (.iconst 1, 1) := by decide +kernel
theorem dX11_within_11 : decode cX11_within 11 = .ok (.goto 4, 3) := by decide +kernel
theorem dX11_within_14 : decode cX11_within 14 = .ok (.iconst 0, 1) := by decide +kernel
theorem dX11_within_15 : decode cX11_within 15 = .ok (.ireturn, 1) := by decide +kernel
theorem dX11_accept_0 : decode cX11_accept 0 = .ok (.aload_n 0, 1) := by decide +kernel
theorem dX11_accept_1 : decode cX11_accept 1 = .ok (.iconst 0, 1) := by decide +kernel
theorem dX11_accept_2 : decode cX11_accept 2 = .ok (.putfield 70, 3) := by decide +kernel
theorem dX11_accept_5 : decode cX11_accept 5 = .ok (.iload_n 1, 1) := by decide +kernel
theorem dX11_accept_6 : decode cX11_accept 6 = .ok (.ireturn, 1) := by decide +kernel
theorem dX11_refuse_0 : decode cX11_refuse 0 = .ok (.aload_n 0, 1) := by decide +kernel
theorem dX11_refuse_1 : decode cX11_refuse 1 = .ok (.iload_n 1, 1) := by decide +kernel
theorem dX11_refuse_2 : decode cX11_refuse 2 = .ok (.putfield 70, 3) := by decide +kernel
theorem dX11_refuse_5 : decode cX11_refuse 5 = .ok (.iload_n 1, 1) := by decide +kernel
theorem dX11_refuse_6 : decode cX11_refuse 6 = .ok (.tableswitch 73 (-5) (-1) #[60, 73, 73, 47, 34], 34) := by decide +kernel
theorem dX11_refuse_40 : decode cX11_refuse 40 = .ok (.aload_n 0, 1) := by decide +kernel
theorem dX11_refuse_41 : decode cX11_refuse 41 = .ok (.getfield 66, 3) := by decide +kernel
theorem dX11_refuse_44 : decode cX11_refuse 44 = .ok (.iconst 0, 1) := by decide +kernel
theorem dX11_refuse_45 : decode cX11_refuse 45 = .ok (.dup2, 1) := by decide +kernel
theorem dX11_refuse_46 : decode cX11_refuse 46 = .ok (.iaload, 1) := by decide +kernel
theorem dX11_refuse_47 : decode cX11_refuse 47 = .ok (.iconst 1, 1) := by decide +kernel
theorem dX11_refuse_48 : decode cX11_refuse 48 = .ok (.iadd, 1) := by decide +kernel
theorem dX11_refuse_49 : decode cX11_refuse 49 = .ok (.iastore, 1) := by decide +kernel
theorem dX11_refuse_50 : decode cX11_refuse 50 = .ok (.goto 39, 3) := by decide +kernel
theorem dX11_refuse_53 : decode cX11_refuse 53 = .ok (.aload_n 0, 1) := by decide +kernel
theorem dX11_refuse_54 : decode cX11_refuse 54 = .ok (.getfield 66, 3) := by decide +kernel
theorem dX11_refuse_57 : decode cX11_refuse 57 = .ok (.iconst 1, 1) := by decide +kernel
theorem dX11_refuse_58 : decode cX11_refuse 58 = .ok (.dup2, 1) := by decide +kernel
theorem dX11_refuse_59 : decode cX11_refuse 59 = .ok (.iaload, 1) := by decide +kernel
theorem dX11_refuse_60 : decode cX11_refuse 60 = .ok (.iconst 1, 1) := by decide +kernel
theorem dX11_refuse_61 : decode cX11_refuse 61 = .ok (.iadd, 1) := by decide +kernel
theorem dX11_refuse_62 : decode cX11_refuse 62 = .ok (.iastore, 1) := by decide +kernel
theorem dX11_refuse_63 : decode cX11_refuse 63 = .ok (.goto 26, 3) := by decide +kernel
theorem dX11_refuse_66 : decode cX11_refuse 66 = .ok (.aload_n 0, 1) := by decide +kernel
theorem dX11_refuse_67 : decode cX11_refuse 67 = .ok (.getfield 66, 3) := by decide +kernel
theorem dX11_refuse_70 : decode cX11_refuse 70 = .ok (.iconst 2, 1) := by decide +kernel
theorem dX11_refuse_71 : decode cX11_refuse 71 = .ok (.dup2, 1) := by decide +kernel
theorem dX11_refuse_72 : decode cX11_refuse 72 = .ok (.iaload, 1) := by decide +kernel
theorem dX11_refuse_73 : decode cX11_refuse 73 = .ok (.iconst 1, 1) := by decide +kernel
theorem dX11_refuse_74 : decode cX11_refuse 74 = .ok (.iadd, 1) := by decide +kernel
theorem dX11_refuse_75 : decode cX11_refuse 75 = .ok (.iastore, 1) := by decide +kernel
theorem dX11_refuse_76 : decode cX11_refuse 76 = .ok (.goto 13, 3) := by decide +kernel
theorem dX11_refuse_79 : decode cX11_refuse 79 = .ok (.aload_n 0, 1) := by decide +kernel
theorem dX11_refuse_80 : decode cX11_refuse 80 = .ok (.getfield 66, 3) := by decide +kernel
theorem dX11_refuse_83 : decode cX11_refuse 83 = .ok (.iconst 3, 1) := by decide +kernel
theorem dX11_refuse_84 : decode cX11_refuse 84 = .ok (.dup2, 1) := by decide +kernel
theorem dX11_refuse_85 : decode cX11_refuse 85 = .ok (.iaload, 1) := by decide +kernel
theorem dX11_refuse_86 : decode cX11_refuse 86 = .ok (.iconst 1, 1) := by decide +kernel
theorem dX11_refuse_87 : decode cX11_refuse 87 = .ok (.iadd, 1) := by decide +kernel
theorem dX11_refuse_88 : decode cX11_refuse 88 = .ok (.iastore, 1) := by decide +kernel
theorem dX11_refuse_89 : decode cX11_refuse 89 = .ok (.iload_n 1, 1) := by decide +kernel
theorem dX11_refuse_90 : decode cX11_refuse 90 = .ok (.ireturn, 1) := by decide +kernel
theorem dX11_addTo_0 : decode cX11_addTo 0 = .ok (.aload_n 1, 1) := by decide +kernel
theorem dX11_addTo_1 : decode cX11_addTo 1 = .ok (.invokevirtual 279, 3) := by decide +kernel
theorem dX11_addTo_4 : decode cX11_addTo 4 = .ok (.ifCond .eq 10, 3) := by decide +kernel
theorem dX11_addTo_7 : decode cX11_addTo 7 = .ok (.aload_n 0, 1) := by decide +kernel
theorem dX11_addTo_8 : decode cX11_addTo 8 = .ok (.bipush (-5), 2) := by decide +kernel
theorem dX11_addTo_10 : decode cX11_addTo 10 = .ok (.invokevirtual 84, 3) := by decide +kernel
theorem dX11_addTo_13 : decode cX11_addTo 13 = .ok (.ireturn, 1) := by decide +kernel
theorem dX11_addTo_14 : decode cX11_addTo 14 = .ok (.aload_n 0, 1) := by decide +kernel
theorem dX11_addTo_15 : decode cX11_addTo 15 = .ok (.aload_n 1, 1) := by decide +kernel
theorem dX11_addTo_16 : decode cX11_addTo 16 = .ok (.iload_n 2, 1) := by decide +kernel
theorem dX11_addTo_17 : decode cX11_addTo 17 = .ok (.iload_n 3, 1) := by decide +kernel
theorem dX11_addTo_18 : decode cX11_addTo 18 = .ok (.iload 4, 2) := by decide +kernel
theorem dX11_addTo_20 : decode cX11_addTo 20 = .ok (.iload 5, 2) := by decide +kernel
theorem dX11_addTo_22 : decode cX11_addTo 22 = .ok (.invokevirtual 282, 3) := by decide +kernel
theorem dX11_addTo_25 : decode cX11_addTo 25 = .ok (.invokevirtual 98, 3) := by decide +kernel
theorem dX11_addTo_28 : decode cX11_addTo 28 = .ok (.ireturn, 1) := by decide +kernel
theorem dX11_sightCameFrom_0 : decode cX11_sightCameFrom 0 = .ok (.aload_n 0, 1) := by decide +kernel
theorem dX11_sightCameFrom_1 : decode cX11_sightCameFrom 1 = .ok (.getfield 27, 3) := by decide +kernel
theorem dX11_sightCameFrom_4 : decode cX11_sightCameFrom 4 = .ok (.invokevirtual 139, 3) := by decide +kernel
theorem dX11_sightCameFrom_7 : decode cX11_sightCameFrom 7 = .ok (.iload_n 1, 1) := by decide +kernel
theorem dX11_sightCameFrom_8 : decode cX11_sightCameFrom 8 = .ok (.isub, 1) := by decide +kernel
theorem dX11_sightCameFrom_9 : decode cX11_sightCameFrom 9 = .ok (.bipush 7, 2) := by decide +kernel
theorem dX11_sightCameFrom_11 : decode cX11_sightCameFrom 11 = .ok (.if_icmp .ge 5, 3) := by decide +kernel
theorem dX11_sightCameFrom_14 : decode cX11_sightCameFrom 14 = .ok (.iconst 0, 1) := by decide +kernel
theorem dX11_sightCameFrom_15 : decode cX11_sightCameFrom 15 = .ok (.ireturn, 1) := by decide +kernel
theorem dX11_sightCameFrom_16 : decode cX11_sightCameFrom 16 = .ok (.aload_n 0, 1) := by decide +kernel
theorem dX11_sightCameFrom_17 : decode cX11_sightCameFrom 17 = .ok (.getfield 27, 3) := by decide +kernel
theorem dX11_sightCameFrom_20 : decode cX11_sightCameFrom 20 = .ok (.iload_n 1, 1) := by decide +kernel
theorem dX11_sightCameFrom_21 : decode cX11_sightCameFrom 21 = .ok (.invokevirtual 286, 3) := by decide +kernel
theorem dX11_sightCameFrom_24 : decode cX11_sightCameFrom 24 = .ok (.istore_n 2, 1) := by decide +kernel
theorem dX11_sightCameFrom_25 : decode cX11_sightCameFrom 25 = .ok (.aload_n 0, 1) := by decide +kernel
theorem dX11_sightCameFrom_26 : decode cX11_sightCameFrom 26 = .ok (.getfield 27, 3) := by decide +kernel
theorem dX11_sightCameFrom_29 : decode cX11_sightCameFrom 29 = .ok (.iload_n 1, 1) := by decide +kernel
theorem dX11_sightCameFrom_30 : decode cX11_sightCameFrom 30 = .ok (.iconst 1, 1) := by decide +kernel
theorem dX11_sightCameFrom_31 : decode cX11_sightCameFrom 31 = .ok (.iadd, 1) := by decide +kernel
theorem dX11_sightCameFrom_32 : decode cX11_sightCameFrom 32 = .ok (.invokevirtual 286, 3) := by decide +kernel
theorem dX11_sightCameFrom_35 : decode cX11_sightCameFrom 35 = .ok (.bipush 10, 2) := by decide +kernel
theorem dX11_sightCameFrom_37 : decode cX11_sightCameFrom 37 = .ok (.imul, 1) := by decide +kernel
theorem dX11_sightCameFrom_38 : decode cX11_sightCameFrom 38 = .ok (.istore_n 3, 1) := by decide +kernel
theorem dX11_sightCameFrom_39 : decode cX11_sightCameFrom 39 = .ok (.aload_n 0, 1) := by decide +kernel
theorem dX11_sightCameFrom_40 : decode cX11_sightCameFrom 40 = .ok (.getfield 27, 3) := by decide +kernel
theorem dX11_sightCameFrom_43 : decode cX11_sightCameFrom 43 = .ok (.iload_n 1, 1) := by decide +kernel
theorem dX11_sightCameFrom_44 : decode cX11_sightCameFrom 44 = .ok (.iconst 2, 1) := by decide +kernel
theorem dX11_sightCameFrom_45 : decode cX11_sightCameFrom 45 = .ok (.iadd, 1) := by decide +kernel
theorem dX11_sightCameFrom_46 : decode cX11_sightCameFrom 46 = .ok (.invokevirtual 286, 3) := by decide +kernel
theorem dX11_sightCameFrom_49 : decode cX11_sightCameFrom 49 = .ok (.istore 4, 2) := by decide +kernel
theorem dX11_sightCameFrom_51 : decode cX11_sightCameFrom 51 = .ok (.aload_n 0, 1) := by decide +kernel
theorem dX11_sightCameFrom_52 : decode cX11_sightCameFrom 52 = .ok (.getfield 27, 3) := by decide +kernel
theorem dX11_sightCameFrom_55 : decode cX11_sightCameFrom 55 = .ok (.iload_n 1, 1) := by decide +kernel
theorem dX11_sightCameFrom_56 : decode cX11_sightCameFrom 56 = .ok (.iconst 3, 1) := by decide +kernel
theorem dX11_sightCameFrom_57 : decode cX11_sightCameFrom 57 = .ok (.iadd, 1) := by decide +kernel
theorem dX11_sightCameFrom_58 : decode cX11_sightCameFrom 58 = .ok (.invokevirtual 286, 3) := by decide +kernel
theorem dX11_sightCameFrom_61 : decode cX11_sightCameFrom 61 = .ok (.istore 5, 2) := by decide +kernel
theorem dX11_sightCameFrom_63 : decode cX11_sightCameFrom 63 = .ok (.aload_n 0, 1) := by decide +kernel
theorem dX11_sightCameFrom_64 : decode cX11_sightCameFrom 64 = .ok (.getfield 27, 3) := by decide +kernel
theorem dX11_sightCameFrom_67 : decode cX11_sightCameFrom 67 = .ok (.iload_n 1, 1) := by decide +kernel
theorem dX11_sightCameFrom_68 : decode cX11_sightCameFrom 68 = .ok (.iconst 4, 1) := by decide +kernel
theorem dX11_sightCameFrom_69 : decode cX11_sightCameFrom 69 = .ok (.iadd, 1) := by decide +kernel
theorem dX11_sightCameFrom_70 : decode cX11_sightCameFrom 70 = .ok (.invokevirtual 286, 3) := by decide +kernel
theorem dX11_sightCameFrom_73 : decode cX11_sightCameFrom 73 = .ok (.istore 6, 2) := by decide +kernel
theorem dX11_sightCameFrom_75 : decode cX11_sightCameFrom 75 = .ok (.aload_n 0, 1) := by decide +kernel
theorem dX11_sightCameFrom_76 : decode cX11_sightCameFrom 76 = .ok (.getfield 27, 3) := by decide +kernel
theorem dX11_sightCameFrom_79 : decode cX11_sightCameFrom 79 = .ok (.iload_n 1, 1) := by decide +kernel
theorem dX11_sightCameFrom_80 : decode cX11_sightCameFrom 80 = .ok (.iconst 5, 1) := by decide +kernel
theorem dX11_sightCameFrom_81 : decode cX11_sightCameFrom 81 = .ok (.iadd, 1) := by decide +kernel
theorem dX11_sightCameFrom_82 : decode cX11_sightCameFrom 82 = .ok (.invokevirtual 286, 3) := by decide +kernel
theorem dX11_sightCameFrom_85 : decode cX11_sightCameFrom 85 = .ok (.istore 7, 2) := by decide +kernel
theorem dX11_sightCameFrom_87 : decode cX11_sightCameFrom 87 = .ok (.iload_n 2, 1) := by decide +kernel
theorem dX11_sightCameFrom_88 : decode cX11_sightCameFrom 88 = .ok (.aload_n 0, 1) := by decide +kernel
theorem dX11_sightCameFrom_89 : decode cX11_sightCameFrom 89 = .ok (.getfield 27, 3) := by decide +kernel
theorem dX11_sightCameFrom_92 : decode cX11_sightCameFrom 92 = .ok (.iload_n 1, 1) := by decide +kernel
theorem dX11_sightCameFrom_93 : decode cX11_sightCameFrom 93 = .ok (.bipush 6, 2) := by decide +kernel
theorem dX11_sightCameFrom_95 : decode cX11_sightCameFrom 95 = .ok (.iadd, 1) := by decide +kernel
theorem dX11_sightCameFrom_96 : decode cX11_sightCameFrom 96 = .ok (.invokevirtual 286, 3) := by decide +kernel
theorem dX11_sightCameFrom_99 : decode cX11_sightCameFrom 99 = .ok (.iadd, 1) := by decide +kernel
theorem dX11_sightCameFrom_100 : decode cX11_sightCameFrom 100 = .ok (.istore 8, 2) := by decide +kernel
theorem dX11_sightCameFrom_102 : decode cX11_sightCameFrom 102 = .ok (.aload_n 0, 1) := by decide +kernel
theorem dX11_sightCameFrom_103 : decode cX11_sightCameFrom 103 = .ok (.getfield 10, 3) := by decide +kernel
theorem dX11_sightCameFrom_106 : decode cX11_sightCameFrom 106 = .ok (.iload_n 2, 1) := by decide +kernel
theorem dX11_sightCameFrom_107 : decode cX11_sightCameFrom 107 = .ok (.iload_n 3, 1) := by decide +kernel
theorem dX11_sightCameFrom_108 : decode cX11_sightCameFrom 108 = .ok (.iload 4, 2) := by decide +kernel
theorem dX11_sightCameFrom_110 : decode cX11_sightCameFrom 110 = .ok (.iload 5, 2) := by decide +kernel
theorem dX11_sightCameFrom_112 : decode cX11_sightCameFrom 112 = .ok (.iload 6, 2) := by decide +kernel
theorem dX11_sightCameFrom_114 : decode cX11_sightCameFrom 114 = .ok (.iload 7, 2) := by decide +kernel
theorem dX11_sightCameFrom_116 : decode cX11_sightCameFrom 116 = .ok (.iload 8, 2) := by decide +kernel
theorem dX11_sightCameFrom_118 : decode cX11_sightCameFrom 118 = .ok (.invokevirtual 124, 3) := by decide +kernel
theorem dX11_sightCameFrom_121 : decode cX11_sightCameFrom 121 = .ok (.ifCond .eq 5, 3) := by decide +kernel
theorem dX11_sightCameFrom_124 : decode cX11_sightCameFrom 124 = .ok (.iconst 0, 1) := by decide +kernel
theorem dX11_sightCameFrom_125 : decode cX11_sightCameFrom 125 = .ok (.ireturn, 1) := by decide +kernel
theorem dX11_sightCameFrom_126 : decode cX11_sightCameFrom 126 = .ok (.aload_n 0, 1) := by decide +kernel
theorem dX11_sightCameFrom_127 : decode cX11_sightCameFrom 127 = .ok (.getfield 10, 3) := by decide +kernel
theorem dX11_sightCameFrom_130 : decode cX11_sightCameFrom 130 = .ok (.iload_n 2, 1) := by decide +kernel
theorem dX11_sightCameFrom_131 : decode cX11_sightCameFrom 131 = .ok (.iload_n 3, 1) := by decide +kernel
theorem dX11_sightCameFrom_132 : decode cX11_sightCameFrom 132 = .ok (.iload 4, 2) := by decide +kernel
theorem dX11_sightCameFrom_134 : decode cX11_sightCameFrom 134 = .ok (.iload 5, 2) := by decide +kernel
theorem dX11_sightCameFrom_136 : decode cX11_sightCameFrom 136 = .ok (.iload 6, 2) := by decide +kernel
theorem dX11_sightCameFrom_138 : decode cX11_sightCameFrom 138 = .ok (.iload 7, 2) := by decide +kernel
theorem dX11_sightCameFrom_140 : decode cX11_sightCameFrom 140 = .ok (.iload 8, 2) := by decide +kernel
theorem dX11_sightCameFrom_142 : decode cX11_sightCameFrom 142 = .ok (.invokevirtual 128, 3) := by decide +kernel
theorem dX11_sightCameFrom_145 : decode cX11_sightCameFrom 145 = .ok (.pop, 1) := by decide +kernel
theorem dX11_sightCameFrom_146 : decode cX11_sightCameFrom 146 = .ok (.iconst 1, 1) := by decide +kernel
theorem dX11_sightCameFrom_147 : decode cX11_sightCameFrom 147 = .ok (.ireturn, 1) := by decide +kernel
theorem dX11_canListen_0 : decode cX11_canListen 0 = .ok (.iload_n 0, 1) := by decide +kernel
theorem dX11_canListen_1 : decode cX11_canListen 1 = .ok (.iconst 0, 1) := by decide +kernel
theorem dX11_canListen_2 : decode cX11_canListen 2 = .ok (.bipush 100, 2) := by decide +kernel
theorem dX11_canListen_4 : decode cX11_canListen 4 = .ok (.invokestatic 80, 3) := by decide +kernel
theorem dX11_canListen_7 : decode cX11_canListen 7 = .ok (.ifCond .eq 27, 3) := by decide +kernel
theorem dX11_canListen_10 : decode cX11_canListen 10 = .ok (.iload_n 1, 1) := by decide +kernel
theorem dX11_canListen_11 : decode cX11_canListen 11 = .ok (.iconst 1, 1) := by decide +kernel
theorem dX11_canListen_12 : decode cX11_canListen 12 = .ok (.bipush 60, 2) := by decide +kernel
theorem dX11_canListen_14 : decode cX11_canListen 14 = .ok (.invokestatic 80, 3) := by decide +kernel
theorem dX11_canListen_17 : decode cX11_canListen 17 = .ok (.ifCond .eq 17, 3) := by decide +kernel
theorem dX11_canListen_20 : decode cX11_canListen 20 = .ok (.iload_n 2, 1) := by decide +kernel
theorem dX11_canListen_21 : decode cX11_canListen 21 = .ok (.iconst 0, 1) := by decide +kernel
theorem dX11_canListen_22 : decode cX11_canListen 22 = .ok (.bipush 99, 2) := by decide +kernel
theorem dX11_canListen_24 : decode cX11_canListen 24 = .ok (.invokestatic 80, 3) := by decide +kernel
theorem dX11_canListen_27 : decode cX11_canListen 27 = .ok (.ifCond .eq 7, 3) := by decide +kernel
theorem dX11_canListen_30 : decode cX11_canListen 30 = .ok (.iconst 1, 1) := by decide +kernel
theorem dX11_canListen_31 : decode cX11_canListen 31 = .ok (.goto 4, 3) := by decide +kernel
theorem dX11_canListen_34 : decode cX11_canListen 34 = .ok (.iconst 0, 1) := by decide +kernel
theorem dX11_canListen_35 : decode cX11_canListen 35 = .ok (.ireturn, 1) := by decide +kernel
theorem dX11_kinCanBe_0 : decode cX11_kinCanBe 0 = .ok (.iload_n 0, 1) := by decide +kernel
theorem dX11_kinCanBe_1 : decode cX11_kinCanBe 1 = .ok (.tableswitch 52 0 2 #[27, 35, 44], 27) := by decide +kernel
theorem dX11_kinCanBe_28 : decode cX11_kinCanBe 28 = .ok (.iload_n 1, 1) := by decide +kernel
theorem dX11_kinCanBe_29 : decode cX11_kinCanBe 29 = .ok (.iconst 0, 1) := by decide +kernel
theorem dX11_kinCanBe_30 : decode cX11_kinCanBe 30 = .ok (.bipush 50, 2) := by decide +kernel
theorem dX11_kinCanBe_32 : decode cX11_kinCanBe 32 = .ok (.invokestatic 80, 3) := by decide +kernel
theorem dX11_kinCanBe_35 : decode cX11_kinCanBe 35 = .ok (.ireturn, 1) := by decide +kernel
theorem dX11_kinCanBe_36 : decode cX11_kinCanBe 36 = .ok (.iload_n 1, 1) := by decide +kernel
theorem dX11_kinCanBe_37 : decode cX11_kinCanBe 37 = .ok (.iconst 0, 1) := by decide +kernel
theorem dX11_kinCanBe_38 : decode cX11_kinCanBe 38 = .ok (.sipush 10000, 3) := by decide +kernel
theorem dX11_kinCanBe_41 : decode cX11_kinCanBe 41 = .ok (.invokestatic 80, 3) := by decide +kernel
theorem dX11_kinCanBe_44 : decode cX11_kinCanBe 44 = .ok (.ireturn, 1) := by decide +kernel
theorem dX11_kinCanBe_45 : decode cX11_kinCanBe 45 = .ok (.iload_n 1, 1) := by decide +kernel
theorem dX11_kinCanBe_46 : decode cX11_kinCanBe 46 = .ok (.iconst 1, 1) := by decide +kernel
theorem dX11_kinCanBe_47 : decode cX11_kinCanBe 47 = .ok (.bipush 100, 2) := by decide +kernel
theorem dX11_kinCanBe_49 : decode cX11_kinCanBe 49 = .ok (.invokestatic 80, 3) := by decide +kernel
theorem dX11_kinCanBe_52 : decode cX11_kinCanBe 52 = .ok (.ireturn, 1) := by decide +kernel
theorem dX11_kinCanBe_53 : decode cX11_kinCanBe 53 = .ok (.iconst 0, 1) := by decide +kernel
theorem dX11_kinCanBe_54 : decode cX11_kinCanBe 54 = .ok (.ireturn, 1) := by decide +kernel
theorem dX11_isBase_0 : decode cX11_isBase 0 = .ok (.iload_n 1, 1) := by decide +kernel
theorem dX11_isBase_1 : decode cX11_isBase 1 = .ok (.iconst 0, 1) := by decide +kernel
theorem dX11_isBase_2 : decode cX11_isBase 2 = .ok (.bipush 29, 2) := by decide +kernel
theorem dX11_isBase_4 : decode cX11_isBase 4 = .ok (.invokestatic 80, 3) := by decide +kernel
theorem dX11_isBase_7 : decode cX11_isBase 7 = .ok (.ifCond .eq 22, 3) := by decide +kernel
theorem dX11_isBase_10 : decode cX11_isBase 10 = .ok (.aload_n 0, 1) := by decide +kernel
theorem dX11_isBase_11 : decode cX11_isBase 11 = .ok (.getfield 10, 3) := by decide +kernel
theorem dX11_isBase_14 : decode cX11_isBase 14 = .ok (.getfield 246, 3) := by decide +kernel
theorem dX11_isBase_17 : decode cX11_isBase 17 = .ok (.iload_n 1, 1) := by decide +kernel
theorem dX11_isBase_18 : decode cX11_isBase 18 = .ok (.iconst 0, 1) := by decide +kernel
theorem dX11_isBase_19 : decode cX11_isBase 19 = .ok (.invokevirtual 184, 3) := by decide +kernel
theorem dX11_isBase_22 : decode cX11_isBase 22 = .ok (.ifCond .le 7, 3) := by decide +kernel
theorem dX11_isBase_25 : decode cX11_isBase 25 = .ok (.iconst 1, 1) := by decide +kernel
theorem dX11_isBase_26 : decode cX11_isBase 26 = .ok (.goto 4, 3) := by decide +kernel
theorem dX11_isBase_29 : decode cX11_isBase 29 = .ok (.iconst 0, 1) := by decide +kernel
theorem dX11_isBase_30 : decode cX11_isBase 30 = .ok (.ireturn, 1) := by decide +kernel
theorem dX11_greatestDivisor_0 : decode cX11_greatestDivisor 0 = .ok (.iload_n 0, 1) := by decide +kernel
theorem dX11_greatestDivisor_1 : decode cX11_greatestDivisor 1 = .ok (.istore_n 2, 1) := by decide +kernel
theorem dX11_greatestDivisor_2 : decode cX11_greatestDivisor 2 = .ok (.iload_n 1, 1) := by decide +kernel
theorem dX11_greatestDivisor_3 : decode cX11_greatestDivisor 3 = .ok (.istore_n 3, 1) := by decide +kernel
theorem dX11_greatestDivisor_4 : decode cX11_greatestDivisor 4 = .ok (.iconst 0, 1) := by decide +kernel
theorem dX11_greatestDivisor_5 : decode cX11_greatestDivisor 5 = .ok (.istore 4, 2) := by decide +kernel
theorem dX11_greatestDivisor_7 : decode cX11_greatestDivisor 7 = .ok (.iload 4, 2) := by decide +kernel
theorem dX11_greatestDivisor_9 : decode cX11_greatestDivisor 9 = .ok (.bipush 64, 2) := by decide +kernel
theorem dX11_greatestDivisor_11 : decode cX11_greatestDivisor 11 = .ok (.if_icmp .ge 23, 3) := by decide +kernel
theorem dX11_greatestDivisor_14 : decode cX11_greatestDivisor 14 = .ok (.iload_n 3, 1) := by decide +kernel
theorem dX11_greatestDivisor_15 : decode cX11_greatestDivisor 15 = .ok (.ifCond .eq 19, 3) := by decide +kernel
theorem dX11_greatestDivisor_18 : decode cX11_greatestDivisor 18 = .ok (.iload_n 2, 1) := by decide +kernel
theorem dX11_greatestDivisor_19 : decode cX11_greatestDivisor 19 = .ok (.iload_n 3, 1) := by decide +kernel
theorem dX11_greatestDivisor_20 : decode cX11_greatestDivisor 20 = .ok (.irem, 1) := by decide +kernel
theorem dX11_greatestDivisor_21 : decode cX11_greatestDivisor 21 = .ok (.istore 5, 2) := by decide +kernel
theorem dX11_greatestDivisor_23 : decode cX11_greatestDivisor 23 = .ok (.iload_n 3, 1) := by decide +kernel
theorem dX11_greatestDivisor_24 : decode cX11_greatestDivisor 24 = .ok (.istore_n 2, 1) := by decide +kernel
theorem dX11_greatestDivisor_25 : decode cX11_greatestDivisor 25 = .ok (.iload 5, 2) := by decide +kernel
theorem dX11_greatestDivisor_27 : decode cX11_greatestDivisor 27 = .ok (.istore_n 3, 1) := by decide +kernel
theorem dX11_greatestDivisor_28 : decode cX11_greatestDivisor 28 = .ok (.iinc 4 1, 3) := by decide +kernel
theorem dX11_greatestDivisor_31 : decode cX11_greatestDivisor 31 = .ok (.goto (-24), 3) := by decide +kernel
theorem dX11_greatestDivisor_34 : decode cX11_greatestDivisor 34 = .ok (.iload_n 2, 1) := by decide +kernel
theorem dX11_greatestDivisor_35 : decode cX11_greatestDivisor 35 = .ok (.ireturn, 1) := by decide +kernel
theorem dX12_init_0 : decode cX12_init 0 = .ok (.aload_n 0, 1) := by decide +kernel
theorem dX12_init_1 : decode cX12_init 1 = .ok (.invokespecial 1, 3) := by decide +kernel
theorem dX12_init_4 : decode cX12_init 4 = .ok (.aload_n 0, 1) := by decide +kernel
theorem dX12_init_5 : decode cX12_init 5 = .ok (.bipush 7, 2) := by decide +kernel
theorem dX12_init_7 : decode cX12_init 7 = .ok (.newarray .int, 2) := by decide +kernel
theorem dX12_init_9 : decode cX12_init 9 = .ok (.putfield 7, 3) := by decide +kernel
theorem dX12_init_12 : decode cX12_init 12 = .ok (.aload_n 0, 1) := by decide +kernel
theorem dX12_init_13 : decode cX12_init 13 = .ok (.sipush 1800, 3) := by decide +kernel
theorem dX12_init_16 : decode cX12_init 16 = .ok (.newarray .int, 2) := by decide +kernel
theorem dX12_init_18 : decode cX12_init 18 = .ok (.putfield 13, 3) := by decide +kernel
theorem dX12_init_21 : decode cX12_init 21 = .ok (.aload_n 0, 1) := by decide +kernel
theorem dX12_init_22 : decode cX12_init 22 = .ok (.sipush 3600, 3) := by decide +kernel
theorem dX12_init_25 : decode cX12_init 25 = .ok (.newarray .int, 2) := by decide +kernel
theorem dX12_init_27 : decode cX12_init 27 = .ok (.putfield 16, 3) := by decide +kernel
theorem dX12_init_30 : decode cX12_init 30 = .ok (.aload_n 0, 1) := by decide +kernel
theorem dX12_init_31 : decode cX12_init 31 = .ok (.iconst 2, 1) := by decide +kernel
theorem dX12_init_32 : decode cX12_init 32 = .ok (.newarray .boolean, 2) := by decide +kernel
theorem dX12_init_34 : decode cX12_init 34 = .ok (.putfield 19, 3) := by decide +kernel
theorem dX12_init_37 : decode cX12_init 37 = .ok (.aload_n 0, 1) := by decide +kernel
theorem dX12_init_38 : decode cX12_init 38 = .ok (.sipush 400, 3) := by decide +kernel
theorem dX12_init_41 : decode cX12_init 41 = .ok (.newarray .int, 2) := by decide +kernel
theorem dX12_init_43 : decode cX12_init 43 = .ok (.putfield 23, 3) := by decide +kernel
theorem dX12_init_46 : decode cX12_init 46 = .ok (.aload_n 0, 1) := by decide +kernel
theorem dX12_init_47 : decode cX12_init 47 = .ok (.iconst (-1), 1) := by decide +kernel
theorem dX12_init_48 : decode cX12_init 48 = .ok (.putfield 26, 3) := by decide +kernel
theorem dX12_init_51 : decode cX12_init 51 = .ok (.aload_n 0, 1) := by decide +kernel
theorem dX12_init_52 : decode cX12_init 52 = .ok (.bipush 96, 2) := by decide +kernel
theorem dX12_init_54 : decode cX12_init 54 = .ok (.newarray .int, 2) := by decide +kernel
theorem dX12_init_56 : decode cX12_init 56 = .ok (.putfield 30, 3) := by decide +kernel
theorem dX12_init_59 : decode cX12_init 59 = .ok (.aload_n 0, 1) := by decide +kernel
theorem dX12_init_60 : decode cX12_init 60 = .ok (.sipush 400, 3) := by decide +kernel
theorem dX12_init_63 : decode cX12_init 63 = .ok (.newarray .int, 2) := by decide +kernel
theorem dX12_init_65 : decode cX12_init 65 = .ok (.putfield 33, 3) := by decide +kernel
theorem dX12_init_68 : decode cX12_init 68 = .ok (.aload_n 0, 1) := by decide +kernel
theorem dX12_init_69 : decode cX12_init 69 = .ok (.sipush 400, 3) := by decide +kernel
theorem dX12_init_72 : decode cX12_init 72 = .ok (.newarray .int, 2) := by decide +kernel
theorem dX12_init_74 : decode cX12_init 74 = .ok (.putfield 36, 3) := by decide +kernel
theorem dX12_init_77 : decode cX12_init 77 = .ok (.aload_n 0, 1) := by decide +kernel
theorem dX12_init_78 : decode cX12_init 78 = .ok (.sipush 400, 3) := by decide +kernel
theorem dX12_init_81 : decode cX12_init 81 = .ok (.newarray .int, 2) := by decide +kernel
theorem dX12_init_83 : decode cX12_init 83 = .ok (.putfield 39, 3) := by decide +kernel
theorem dX12_init_86 : decode cX12_init 86 = .ok (.aload_n 0, 1) := by decide +kernel
theorem dX12_init_87 : decode cX12_init 87 = .ok (.sipush 400, 3) := by decide +kernel
theorem dX12_init_90 : decode cX12_init 90 = .ok (.newarray .int, 2) := by decide +kernel
theorem dX12_init_92 : decode cX12_init 92 = .ok (.putfield 42, 3) := by decide +kernel
theorem dX12_init_95 : decode cX12_init 95 = .ok (.aload_n 0, 1) := by decide +kernel
theorem dX12_init_96 : decode cX12_init 96 = .ok (.bipush 10, 2) := by decide +kernel
theorem dX12_init_98 : decode cX12_init 98 = .ok (.newarray .long, 2) := by decide +kernel
theorem dX12_init_100 : decode cX12_init 100 = .ok (.putfield 45, 3) := by decide +kernel
theorem dX12_init_103 : decode cX12_init 103 = .ok (.aload_n 0, 1) := by decide +kernel
theorem dX12_init_104 : decode cX12_init 104 = .ok (.sipush 400, 3) := by decide +kernel
theorem dX12_init_107 : decode cX12_init 107 = .ok (.newarray .long, 2) := by decide +kernel
theorem dX12_init_109 : decode cX12_init 109 = .ok (.putfield 49, 3) := by decide +kernel
theorem dX12_init_112 : decode cX12_init 112 = .ok (.aload_n 0, 1) := by decide +kernel
theorem dX12_init_113 : decode cX12_init 113 = .ok (.bipush 100, 2) := by decide +kernel
theorem dX12_init_115 : decode cX12_init 115 = .ok (.newarray .long, 2) := by decide +kernel
theorem dX12_init_117 : decode cX12_init 117 = .ok (.putfield 52, 3) := by decide +kernel
theorem dX12_init_120 : decode cX12_init 120 = .ok (.aload_n 0, 1) := by decide +kernel
theorem dX12_init_121 : decode cX12_init 121 = .ok (.bipush 100, 2) := by decide +kernel
theorem dX12_init_123 : decode cX12_init 123 = .ok (.newarray .long, 2) := by decide +kernel
theorem dX12_init_125 : decode cX12_init 125 = .ok (.putfield 55, 3) := by decide +kernel
theorem dX12_init_128 : decode cX12_init 128 = .ok (.aload_n 0, 1) := by decide +kernel
theorem dX12_init_129 : decode cX12_init 129 = .ok (.sipush 200, 3) := by decide +kernel
theorem dX12_init_132 : decode cX12_init 132 = .ok (.newarray .long, 2) := by decide +kernel
theorem dX12_init_134 : decode cX12_init 134 = .ok (.putfield 58, 3) := by decide +kernel
theorem dX12_init_137 : decode cX12_init 137 = .ok (.aload_n 0, 1) := by decide +kernel
theorem dX12_init_138 : decode cX12_init 138 = .ok (.bipush 100, 2) := by decide +kernel
theorem dX12_init_140 : decode cX12_init 140 = .ok (.newarray .long, 2) := by decide +kernel
theorem dX12_init_142 : decode cX12_init 142 = .ok (.putfield 61, 3) := by decide +kernel
theorem dX12_init_145 : decode cX12_init 145 = .ok (.aload_n 0, 1) := by decide +kernel
theorem dX12_init_146 : decode cX12_init 146 = .ok (.bipush 100, 2) := by decide +kernel
theorem dX12_init_148 : decode cX12_init 148 = .ok (.newarray .long, 2) := by decide +kernel
theorem dX12_init_150 : decode cX12_init 150 = .ok (.putfield 64, 3) := by decide +kernel
theorem dX12_init_153 : decode cX12_init 153 = .ok (.aload_n 0, 1) := by decide +kernel
theorem dX12_init_154 : decode cX12_init 154 = .ok (.bipush 6, 2) := by decide +kernel
theorem dX12_init_156 : decode cX12_init 156 = .ok (.newarray .int, 2) := by decide +kernel
theorem dX12_init_158 : decode cX12_init 158 = .ok (.putfield 67, 3) := by decide +kernel
theorem dX12_init_161 : decode cX12_init 161 = .ok (.aload_n 0, 1) := by decide +kernel
theorem dX12_init_162 : decode cX12_init 162 = .ok (.iconst (-1), 1) := by decide +kernel
theorem dX12_init_163 : decode cX12_init 163 = .ok (.putfield 70, 3) := by decide +kernel
theorem dX12_init_166 : decode cX12_init 166 = .ok (.aload_n 0, 1) := by decide +kernel
theorem dX12_init_167 : decode cX12_init 167 = .ok (.bipush 36, 2) := by decide +kernel
theorem dX12_init_169 : decode cX12_init 169 = .ok (.newarray .int, 2) := by decide +kernel
theorem dX12_init_171 : decode cX12_init 171 = .ok (.putfield 73, 3) := by decide +kernel
theorem dX12_init_174 : decode cX12_init 174 = .ok (.aload_n 0, 1) := by decide +kernel
theorem dX12_init_175 : decode cX12_init 175 = .ok (.getfield 13, 3) := by decide +kernel
theorem dX12_init_178 : decode cX12_init 178 = .ok (.bipush 10, 2) := by decide +kernel
theorem dX12_init_180 : decode cX12_init 180 = .ok (.iconst 2, 1) := by decide +kernel
theorem dX12_init_181 : decode cX12_init 181 = .ok (.iastore, 1) := by decide +kernel
theorem dX12_init_182 : decode cX12_init 182 = .ok (.aload_n 0, 1) := by decide +kernel
theorem dX12_init_183 : decode cX12_init 183 = .ok (.getfield 13, 3) := by decide +kernel
theorem dX12_init_186 : decode cX12_init 186 = .ok (.bipush 11, 2) := by decide +kernel
theorem dX12_init_188 : decode cX12_init 188 = .ok (.bipush 100, 2) := by decide +kernel
theorem dX12_init_190 : decode cX12_init 190 = .ok (.iastore, 1) := by decide +kernel
theorem dX12_init_191 : decode cX12_init 191 = .ok (.aload_n 0, 1) := by decide +kernel
theorem dX12_init_192 : decode cX12_init 192 = .ok (.getfield 13, 3) := by decide +kernel
theorem dX12_init_195 : decode cX12_init 195 = .ok (.bipush 12, 2) := by decide +kernel
theorem dX12_init_197 : decode cX12_init 197 = .ok (.iconst 1, 1) := by decide +kernel
theorem dX12_init_198 : decode cX12_init 198 = .ok (.iastore, 1) := by decide +kernel
theorem dX12_init_199 : decode cX12_init 199 = .ok (.iconst 0, 1) := by decide +kernel
theorem dX12_init_200 : decode cX12_init 200 = .ok (.istore_n 1, 1) := by decide +kernel
theorem dX12_init_201 : decode cX12_init 201 = .ok (.iload_n 1, 1) := by decide +kernel
theorem dX12_init_202 : decode cX12_init 202 = .ok (.bipush 20, 2) := by decide +kernel
theorem dX12_init_204 : decode cX12_init 204 = .ok (.if_icmp .ge 20, 3) := by decide +kernel
theorem dX12_init_207 : decode cX12_init 207 = .ok (.aload_n 0, 1) := by decide +kernel
theorem dX12_init_208 : decode cX12_init 208 = .ok (.getfield 13, 3) := by decide +kernel
theorem dX12_init_211 : decode cX12_init 211 = .ok (.sipush 870, 3) := by decide +kernel
theorem dX12_init_214 : decode cX12_init 214 = .ok (.iload_n 1, 1) := by decide +kernel
theorem dX12_init_215 : decode cX12_init 215 = .ok (.iadd, 1) := by decide +kernel
theorem dX12_init_216 : decode cX12_init 216 = .ok (.iconst 1, 1) := by decide +kernel
theorem dX12_init_217 : decode cX12_init 217 = .ok (.iastore, 1) := by decide +kernel
theorem dX12_init_218 : decode cX12_init 218 = .ok (.iinc 1 1, 3) := by decide +kernel
theorem dX12_init_221 : decode cX12_init 221 = .ok (.goto (-20), 3) := by decide +kernel
theorem dX12_init_224 : decode cX12_init 224 = .ok (.return_, 1) := by decide +kernel
theorem dX12_in_0 : decode cX12_in 0 = .ok (.lload_n 0, 1) := by decide +kernel
theorem dX12_in_1 : decode cX12_in 1 = .ok (.lload_n 2, 1) := by decide +kernel
theorem dX12_in_2 : decode cX12_in 2 = .ok (.lcmp, 1) := by decide +kernel
theorem dX12_in_3 : decode cX12_in 3 = .ok (.ifCond .lt 14, 3) := by decide +kernel
theorem dX12_in_6 : decode cX12_in 6 = .ok (.lload_n 0, 1) := by decide +kernel
theorem dX12_in_7 : decode cX12_in 7 = .ok (.lload 4, 2) := by decide +kernel
theorem dX12_in_9 : decode cX12_in 9 = .ok (.lcmp, 1) := by decide +kernel
theorem dX12_in_10 : decode cX12_in 10 = .ok (.ifCond .gt 7, 3) := by decide +kernel
theorem dX12_in_13 : decode cX12_in 13 = .ok (.iconst 1, 1) := by decide +kernel
theorem dX12_in_14 : decode cX12_in 14 = .ok (.goto 4, 3) := by decide +kernel
theorem dX12_in_17 : decode cX12_in 17 = .ok (.iconst 0, 1) := by decide +kernel
theorem dX12_in_18 : decode cX12_in 18 = .ok (.ireturn, 1) := by decide +kernel
theorem dX12_tell_0 : decode cX12_tell 0 = .ok (.aload_n 0, 1) := by decide +kernel
theorem dX12_tell_1 : decode cX12_tell 1 = .ok (.iload_n 1, 1) := by decide +kernel
theorem dX12_tell_2 : decode cX12_tell 2 = .ok (.ifCond .ge 7, 3) := by decide +kernel
theorem dX12_tell_5 : decode cX12_tell 5 = .ok (.iload_n 1, 1) := by decide +kernel
theorem dX12_tell_6 : decode cX12_tell 6 = .ok (.goto 4, 3) := by decide +kernel
theorem dX12_tell_9 : decode cX12_tell 9 = .ok (.iconst 0, 1) := by decide +kernel
theorem dX12_tell_10 : decode cX12_tell 10 = .ok (.putfield 79, 3) := by decide +kernel
theorem dX12_tell_13 : decode cX12_tell 13 = .ok (.iload_n 1, 1) := by decide +kernel
theorem dX12_tell_14 : decode cX12_tell 14 = .ok (.ifCond .ge 14, 3) := by decide +kernel
theorem dX12_tell_17 : decode cX12_tell 17 = .ok (.aload_n 0, 1) := by decide +kernel
theorem dX12_tell_18 : decode cX12_tell 18 = .ok (.getfield 7, 3) := by decide +kernel
theorem dX12_tell_21 : decode cX12_tell 21 = .ok (.iload_n 1, 1) := by decide +kernel
theorem dX12_tell_22 : decode cX12_tell 22 = .ok (.ineg, 1) := by decide +kernel
theorem dX12_tell_23 : decode cX12_tell 23 = .ok (.dup2, 1) := by decide +kernel
theorem dX12_tell_24 : decode cX12_tell 24 = .ok (.iaload, 1) := by decide +kernel
theorem dX12_tell_25 : decode cX12_tell 25 = .ok (.iconst 1, 1) := by decide +kernel
theorem dX12_tell_26 : decode cX12_tell 26 = .ok (.iadd, 1) := by decide +kernel
theorem dX12_tell_27 : decode cX12_tell 27 = .ok (.iastore, 1) := by decide +kernel
theorem dX12_tell_28 : decode cX12_tell 28 = .ok (.iload_n 1, 1) := by decide +kernel
theorem dX12_tell_29 : decode cX12_tell 29 = .ok (.ireturn, 1) := by decide +kernel
theorem dX12_image_0 : decode cX12_image 0 = .ok (.aload_n 0, 1) := by decide +kernel
theorem dX12_image_1 : decode cX12_image 1 = .ok (.iconst 0, 1) := by decide +kernel
theorem dX12_image_2 : decode cX12_image 2 = .ok (.putfield 76, 3) := by decide +kernel
theorem dX12_image_5 : decode cX12_image 5 = .ok (.iload_n 1, 1) := by decide +kernel
theorem dX12_image_6 : decode cX12_image 6 = .ok (.i2l, 1) := by decide +kernel
theorem dX12_image_7 : decode cX12_image 7 = .ok (.lconst 0, 1) := by decide +kernel
theorem dX12_image_8 : decode cX12_image 8 = .ok (.lconst 1, 1) := by decide +kernel
theorem dX12_image_9 : decode cX12_image 9 = .ok (.invokestatic 82, 3) := by decide +kernel
theorem dX12_image_12 : decode cX12_image 12 = .ok (.ifCond .ne 9, 3) := by decide +kernel
theorem dX12_image_15 : decode cX12_image 15 = .ok (.aload_n 0, 1) := by decide +kernel
theorem dX12_image_16 : decode cX12_image 16 = .ok (.iconst (-1), 1) := by decide +kernel
theorem dX12_image_17 : decode cX12_image 17 = .ok (.invokevirtual 86, 3) := by decide +kernel
theorem dX12_image_20 : decode cX12_image 20 = .ok (.ireturn, 1) := by decide +kernel
theorem dX12_image_21 : decode cX12_image 21 = .ok (.iconst 0, 1) := by decide +kernel
theorem dX12_image_22 : decode cX12_image 22 = .ok (.istore_n 2, 1) := by decide +kernel
theorem dX12_image_23 : decode cX12_image 23 = .ok (.iload_n 2, 1) := by decide +kernel
theorem dX12_image_24 : decode cX12_image 24 = .ok (.sipush 1800, 3) := by decide +kernel
theorem dX12_image_27 : decode cX12_image 27 = .ok (.if_icmp .ge 27, 3) := by decide +kernel
theorem dX12_image_30 : decode cX12_image 30 = .ok (.aload_n 0, 1) := by decide +kernel
theorem dX12_image_31 : decode cX12_image 31 = .ok (.getfield 16, 3) := by decide +kernel
theorem dX12_image_34 : decode cX12_image 34 = .ok (.sipush 1800, 3) := by decide +kernel
theorem dX12_image_37 : decode cX12_image 37 = .ok (.iload_n 1, 1) := by decide +kernel
theorem dX12_image_38 : decode cX12_image 38 = .ok (.imul, 1) := by decide +kernel
theorem dX12_image_39 : decode cX12_image 39 = .ok (.iload_n 2, 1) := by decide +kernel
theorem dX12_image_40 : decode cX12_image 40 = .ok (.iadd, 1) := by decide +kernel
theorem dX12_image_41 : decode cX12_image 41 = .ok (.aload_n 0, 1) := by decide +kernel
theorem dX12_image_42 : decode cX12_image 42 = .ok (.getfield 13, 3) := by decide +kernel
theorem dX12_image_45 : decode cX12_image 45 = .ok (.iload_n 2, 1) := by decide +kernel
theorem dX12_image_46 : decode cX12_image 46 = .ok (.iaload, 1) := by decide +kernel
theorem dX12_image_47 : decode cX12_image 47 = .ok (.iastore, 1) := by decide +kernel
theorem dX12_image_48 : decode cX12_image 48 = .ok (.iinc 2 1, 3) := by decide +kernel
theorem dX12_image_51 : decode cX12_image 51 = .ok (.goto (-28), 3) := by decide +kernel
theorem dX12_image_54 : decode cX12_image 54 = .ok (.aload_n 0, 1) := by decide +kernel
theorem dX12_image_55 : decode cX12_image 55 = .ok (.getfield 19, 3) := by decide +kernel
theorem dX12_image_58 : decode cX12_image 58 = .ok (.iload_n 1, 1) := by decide +kernel
theorem dX12_image_59 : decode cX12_image 59 = .ok (.iconst 1, 1) := by decide +kernel
theorem dX12_image_60 : decode cX12_image 60 = .ok (.bastore, 1) := by decide +kernel
theorem dX12_image_61 : decode cX12_image 61 = .ok (.aload_n 0, 1) := by decide +kernel
theorem dX12_image_62 : decode cX12_image 62 = .ok (.iconst 0, 1) := by decide +kernel
theorem dX12_image_63 : decode cX12_image 63 = .ok (.invokevirtual 86, 3) := by decide +kernel
theorem dX12_image_66 : decode cX12_image 66 = .ok (.ireturn, 1) := by decide +kernel
theorem dX12_back_0 : decode cX12_back 0 = .ok (.aload_n 0, 1) := by decide +kernel
theorem dX12_back_1 : decode cX12_back 1 = .ok (.iconst 0, 1) := by decide +kernel
theorem dX12_back_2 : decode cX12_back 2 = .ok (.putfield 76, 3) := by decide +kernel
theorem dX12_back_5 : decode cX12_back 5 = .ok (.iload_n 1, 1) := by decide +kernel
theorem dX12_back_6 : decode cX12_back 6 = .ok (.i2l, 1) := by decide +kernel
theorem dX12_back_7 : decode cX12_back 7 = .ok (.lconst 0, 1) := by decide +kernel
theorem dX12_back_8 : decode cX12_back 8 = .ok (.lconst 1, 1) := by decide +kernel
theorem dX12_back_9 : decode cX12_back 9 = .ok (.invokestatic 82, 3) := by decide +kernel
theorem dX12_back_12 : decode cX12_back 12 = .ok (.ifCond .ne 9, 3) := by decide +kernel
theorem dX12_back_15 : decode cX12_back 15 = .ok (.aload_n 0, 1) := by decide +kernel
theorem dX12_back_16 : decode cX12_back 16 = .ok (.iconst (-1), 1) := by decide +kernel
theorem dX12_back_17 : decode cX12_back 17 = .ok (.invokevirtual 86, 3) := by decide +kernel
theorem dX12_back_20 : decode cX12_back 20 = .ok (.ireturn, 1) := by decide +kernel
theorem dX12_back_21 : decode cX12_back 21 = .ok (.aload_n 0, 1) := by decide +kernel
theorem dX12_back_22 : decode cX12_back 22 = .ok (.getfield 19, 3) := by decide +kernel
theorem dX12_back_25 : decode cX12_back 25 = .ok (.iload_n 1, 1) := by decide +kernel
theorem dX12_back_26 : decode cX12_back 26 = .ok (.baload, 1) := by decide +kernel
theorem dX12_back_27 : decode cX12_back 27 = .ok (.ifCond .ne 10, 3) := by decide +kernel
theorem dX12_back_30 : decode cX12_back 30 = .ok (.aload_n 0, 1) := by decide +kernel
theorem dX12_back_31 : decode cX12_back 31 = .ok (.bipush (-2), 2) := by decide +kernel
theorem dX12_back_33 : decode cX12_back 33 = .ok (.invokevirtual 86, 3) := by decide +kernel
theorem dX12_back_36 : decode cX12_back 36 = .ok (.ireturn, 1) := by decide +kernel
theorem dX12_back_37 : decode cX12_back 37 = .ok (.iconst 0, 1) := by decide +kernel
theorem dX12_back_38 : decode cX12_back 38 = .ok (.istore_n 2, 1) := by decide +kernel
theorem dX12_back_39 : decode cX12_back 39 = .ok (.iload_n 2, 1) := by decide +kernel
theorem dX12_back_40 : decode cX12_back 40 = .ok (.sipush 1800, 3) := by decide +kernel
theorem dX12_back_43 : decode cX12_back 43 = .ok (.if_icmp .ge 27, 3) := by decide +kernel
theorem dX12_back_46 : decode cX12_back 46 = .ok (.aload_n 0, 1) := by decide +kernel
theorem dX12_back_47 : decode cX12_back 47 = .ok (.getfield 13, 3) := by decide +kernel
theorem dX12_back_50 : decode cX12_back 50 = .ok (.iload_n 2, 1) := by decide +kernel
theorem dX12_back_51 : decode cX12_back 51 = .ok (.aload_n 0, 1) := by decide +kernel
theorem dX12_back_52 : decode cX12_back 52 = .ok (.getfield 16, 3) := by decide +kernel
theorem dX12_back_55 : decode cX12_back 55 = .ok (.sipush 1800, 3) := by decide +kernel
theorem dX12_back_58 : decode cX12_back 58 = .ok (.iload_n 1, 1) := by decide +kernel
theorem dX12_back_59 : decode cX12_back 59 = .ok (.imul, 1) := by decide +kernel
theorem dX12_back_60 : decode cX12_back 60 = .ok (.iload_n 2, 1) := by decide +kernel
theorem dX12_back_61 : decode cX12_back 61 = .ok (.iadd, 1) := by decide +kernel
theorem dX12_back_62 : decode cX12_back 62 = .ok (.iaload, 1) := by decide +kernel
theorem dX12_back_63 : decode cX12_back 63 = .ok (.iastore, 1) := by decide +kernel
theorem dX12_back_64 : decode cX12_back 64 = .ok (.iinc 2 1, 3) := by decide +kernel
theorem dX12_back_67 : decode cX12_back 67 = .ok (.goto (-28), 3) := by decide +kernel
theorem dX12_back_70 : decode cX12_back 70 = .ok (.aload_n 0, 1) := by decide +kernel
theorem dX12_back_71 : decode cX12_back 71 = .ok (.iconst 0, 1) := by decide +kernel
theorem dX12_back_72 : decode cX12_back 72 = .ok (.invokevirtual 86, 3) := by decide +kernel
theorem dX12_back_75 : decode cX12_back 75 = .ok (.ireturn, 1) := by decide +kernel
theorem dX12_isDay_0 : decode cX12_isDay 0 = .ok (.iload_n 0, 1) := by decide +kernel
theorem dX12_isDay_1 : decode cX12_isDay 1 = .ok (.i2l, 1) := by decide +kernel
theorem dX12_isDay_2 : decode cX12_isDay 2 = .ok (.lconst 0, 1) := by decide +kernel
theorem dX12_isDay_3 : decode cX12_isDay 3 = .ok (.ldc2_w 90, 3) := by decide +kernel
theorem dX12_isDay_6 : decode cX12_isDay 6 = .ok (.invokestatic 82, 3) := by decide +kernel
theorem dX12_isDay_9 : decode cX12_isDay 9 = .ok (.ireturn, 1) := by decide +kernel
theorem dX12_isMinute_0 : decode cX12_isMinute 0 = .ok (.iload_n 0, 1) := by decide +kernel
theorem dX12_isMinute_1 : decode cX12_isMinute 1 = .ok (.i2l, 1) := by decide +kernel
theorem dX12_isMinute_2 : decode cX12_isMinute 2 = .ok (.lconst 0, 1) := by decide +kernel
theorem dX12_isMinute_3 : decode cX12_isMinute 3 = .ok (.ldc2_w 92, 3) := by decide +kernel
theorem dX12_isMinute_6 : decode cX12_isMinute 6 = .ok (.invokestatic 82, 3) := by decide +kernel
theorem dX12_isMinute_9 : decode cX12_isMinute 9 = .ok (.ireturn, 1) := by decide +kernel
theorem dX12_isPlace_0 : decode cX12_isPlace 0 = .ok (.iload_n 0, 1) := by decide +kernel
theorem dX12_isPlace_1 : decode cX12_isPlace 1 = .ok (.i2l, 1) := by decide +kernel
theorem dX12_isPlace_2 : decode cX12_isPlace 2 = .ok (.lconst 0, 1) := by decide +kernel
theorem dX12_isPlace_3 : decode cX12_isPlace 3 = .ok (.ldc2_w 94, 3) := by decide +kernel
theorem dX12_isPlace_6 : decode cX12_isPlace 6 = .ok (.invokestatic 82, 3) := by decide +kernel
theorem dX12_isPlace_9 : decode cX12_isPlace 9 = .ok (.ireturn, 1) := by decide +kernel
theorem dX12_is_0 : decode cX12_is 0 = .ok (.iload_n 2, 1) := by decide +kernel
theorem dX12_is_1 : decode cX12_is 1 = .ok (.i2l, 1) := by decide +kernel
theorem dX12_is_2 : decode cX12_is 2 = .ok (.lconst 0, 1) := by decide +kernel
theorem dX12_is_3 : decode cX12_is 3 = .ok (.aload_n 0, 1) := by decide +kernel
theorem dX12_is_4 : decode cX12_is 4 = .ok (.getfield 13, 3) := by decide +kernel
theorem dX12_is_7 : decode cX12_is 7 = .ok (.iload_n 1, 1) := by decide +kernel
theorem dX12_is_8 : decode cX12_is 8 = .ok (.iaload, 1) := by decide +kernel
theorem dX12_is_9 : decode cX12_is 9 = .ok (.i2l, 1) := by decide +kernel
theorem dX12_is_10 : decode cX12_is 10 = .ok (.lconst 1, 1) := by decide +kernel
theorem dX12_is_11 : decode cX12_is 11 = .ok (.lsub, 1) := by decide +kernel
theorem dX12_is_12 : decode cX12_is 12 = .ok (.invokestatic 82, 3) := by decide +kernel
theorem dX12_is_15 : decode cX12_is 15 = .ok (.ireturn, 1) := by decide +kernel
theorem dX12_add_0 : decode cX12_add 0 = .ok (.aload_n 0, 1) := by decide +kernel
theorem dX12_add_1 : decode cX12_add 1 = .ok (.getfield 13, 3) := by decide +kernel
theorem dX12_add_4 : decode cX12_add 4 = .ok (.iload_n 1, 1) := by decide +kernel
theorem dX12_add_5 : decode cX12_add 5 = .ok (.iaload, 1) := by decide +kernel
theorem dX12_add_6 : decode cX12_add 6 = .ok (.iload_n 2, 1) := by decide +kernel
theorem dX12_add_7 : decode cX12_add 7 = .ok (.if_icmp .ne 10, 3) := by decide +kernel
theorem dX12_add_10 : decode cX12_add 10 = .ok (.aload_n 0, 1) := by decide +kernel
theorem dX12_add_11 : decode cX12_add 11 = .ok (.bipush (-5), 2) := by decide +kernel
theorem dX12_add_13 : decode cX12_add 13 = .ok (.invokevirtual 86, 3) := by decide +kernel
theorem dX12_add_16 : decode cX12_add 16 = .ok (.ireturn, 1) := by decide +kernel
theorem dX12_add_17 : decode cX12_add 17 = .ok (.iload_n 3, 1) := by decide +kernel
theorem dX12_add_18 : decode cX12_add 18 = .ok (.iload 4, 2) := by decide +kernel
theorem dX12_add_20 : decode cX12_add 20 = .ok (.aload_n 0, 1) := by decide +kernel
theorem dX12_add_21 : decode cX12_add 21 = .ok (.getfield 13, 3) := by decide +kernel
theorem dX12_add_24 : decode cX12_add 24 = .ok (.iload_n 1, 1) := by decide +kernel
theorem dX12_add_25 : decode cX12_add 25 = .ok (.iaload, 1) := by decide +kernel
theorem dX12_add_26 : decode cX12_add 26 = .ok (.imul, 1) := by decide +kernel
theorem dX12_add_27 : decode cX12_add 27 = .ok (.iadd, 1) := by decide +kernel
theorem dX12_add_28 : decode cX12_add 28 = .ok (.istore 9, 2) := by decide +kernel
theorem dX12_add_30 : decode cX12_add 30 = .ok (.aload_n 0, 1) := by decide +kernel
theorem dX12_add_31 : decode cX12_add 31 = .ok (.getfield 13, 3) := by decide +kernel
theorem dX12_add_34 : decode cX12_add 34 = .ok (.iload 9, 2) := by decide +kernel
theorem dX12_add_36 : decode cX12_add 36 = .ok (.iload 5, 2) := by decide +kernel
theorem dX12_add_38 : decode cX12_add 38 = .ok (.iastore, 1) := by decide +kernel
theorem dX12_add_39 : decode cX12_add 39 = .ok (.iload 4, 2) := by decide +kernel
theorem dX12_add_41 : decode cX12_add 41 = .ok (.iconst 1, 1) := by decide +kernel
theorem dX12_add_42 : decode cX12_add 42 = .ok (.if_icmp .le 14, 3) := by decide +kernel
theorem dX12_add_45 : decode cX12_add 45 = .ok (.aload_n 0, 1) := by decide +kernel
theorem dX12_add_46 : decode cX12_add 46 = .ok (.getfield 13, 3) := by decide +kernel
theorem dX12_add_49 : decode cX12_add 49 = .ok (.iload 9, 2) := by decide +kernel
theorem dX12_add_51 : decode cX12_add 51 = .ok (.iconst 1, 1) := by decide +kernel
theorem dX12_add_52 : decode cX12_add 52 = .ok (.iadd, 1) := by decide +kernel
theorem dX12_add_53 : decode cX12_add 53 = .ok (.iload 6, 2) := by decide +kernel
theorem dX12_add_55 : decode cX12_add 55 = .ok (.iastore, 1) := by decide +kernel
theorem dX12_add_56 : decode cX12_add 56 = .ok (.iload 4, 2) := by decide +kernel
theorem dX12_add_58 : decode cX12_add 58 = .ok (.iconst 2, 1) := by decide +kernel
theorem dX12_add_59 : decode cX12_add 59 = .ok (.if_icmp .le 14, 3) := by decide +kernel
theorem dX12_add_62 : decode cX12_add 62 = .ok (.aload_n 0, 1) := by decide +kernel
theorem dX12_add_63 : decode cX12_add 63 = .ok (.getfield 13, 3) := by decide +kernel
theorem dX12_add_66 : decode cX12_add 66 = .ok (.iload 9, 2) := by decide +kernel
theorem dX12_add_68 : decode cX12_add 68 = .ok (.iconst 2, 1) := by decide +kernel
theorem dX12_add_69 : decode cX12_add 69 = .ok (.iadd, 1) := by decide +kernel
theorem dX12_add_70 : decode cX12_add 70 = .ok (.iload 7, 2) := by decide +kernel
theorem dX12_add_72 : decode cX12_add 72 = .ok (.iastore, 1) := by decide +kernel
theorem dX12_add_73 : decode cX12_add 73 = .ok (.iload 4, 2) := by decide +kernel
theorem dX12_add_75 : decode cX12_add 75 = .ok (.iconst 3, 1) := by decide +kernel
theorem dX12_add_76 : decode cX12_add 76 = .ok (.if_icmp .le 14, 3) := by decide +kernel
theorem dX12_add_79 : decode cX12_add 79 = .ok (.aload_n 0, 1) := by decide +kernel
theorem dX12_add_80 : decode cX12_add 80 = .ok (.getfield 13, 3) := by decide +kernel
theorem dX12_add_83 : decode cX12_add 83 = .ok (.iload 9, 2) := by decide +kernel
theorem dX12_add_85 : decode cX12_add 85 = .ok (.iconst 3, 1) := by decide +kernel
theorem dX12_add_86 : decode cX12_add 86 = .ok (.iadd, 1) := by decide +kernel
theorem dX12_add_87 : decode cX12_add 87 = .ok (.iload 8, 2) := by decide +kernel
theorem dX12_add_89 : decode cX12_add 89 = .ok (.iastore, 1) := by decide +kernel
theorem dX12_add_90 : decode cX12_add 90 = .ok (.aload_n 0, 1) := by decide +kernel
theorem dX12_add_91 : decode cX12_add 91 = .ok (.getfield 13, 3) := by decide +kernel
theorem dX12_add_94 : decode cX12_add 94 = .ok (.iload_n 1, 1) := by decide +kernel
theorem dX12_add_95 : decode cX12_add 95 = .ok (.dup2, 1) := by decide +kernel
theorem dX12_add_96 : decode cX12_add 96 = .ok (.iaload, 1) := by decide +kernel
theorem dX12_add_97 : decode cX12_add 97 = .ok (.iconst 1, 1) := by decide +kernel
theorem dX12_add_98 : decode cX12_add 98 = .ok (.iadd, 1) := by decide +kernel
theorem dX12_add_99 : decode cX12_add 99 = .ok (.iastore, 1) := by decide +kernel
theorem dX12_add_100 : decode cX12_add 100 = .ok (.aload_n 0, 1) := by decide +kernel
theorem dX12_add_101 : decode cX12_add 101 = .ok (.aload_n 0, 1) := by decide +kernel
theorem dX12_add_102 : decode cX12_add 102 = .ok (.getfield 13, 3) := by decide +kernel
theorem dX12_add_105 : decode cX12_add 105 = .ok (.iload_n 1, 1) := by decide +kernel
theorem dX12_add_106 : decode cX12_add 106 = .ok (.iaload, 1) := by decide +kernel
theorem dX12_add_107 : decode cX12_add 107 = .ok (.iconst 1, 1) := by decide +kernel
theorem dX12_add_108 : decode cX12_add 108 = .ok (.isub, 1) := by decide +kernel
theorem dX12_add_109 : decode cX12_add 109 = .ok (.invokevirtual 86, 3) := by decide +kernel
theorem dX12_add_112 : decode cX12_add 112 = .ok (.ireturn, 1) := by decide +kernel
theorem dX12_day_0 : decode cX12_day 0 = .ok (.aload_n 0, 1) := by decide +kernel
theorem dX12_day_1 : decode cX12_day 1 = .ok (.iconst 0, 1) := by decide +kernel
theorem dX12_day_2 : decode cX12_day 2 = .ok (.putfield 76, 3) := by decide +kernel
theorem dX12_day_5 : decode cX12_day 5 = .ok (.iload_n 1, 1) := by decide +kernel
theorem dX12_day_6 : decode cX12_day 6 = .ok (.invokestatic 96, 3) := by decide +kernel
theorem dX12_day_9 : decode cX12_day 9 = .ok (.ifCond .eq 27, 3) := by decide +kernel
theorem dX12_day_12 : decode cX12_day 12 = .ok (.iload_n 2, 1) := by decide +kernel
theorem dX12_day_13 : decode cX12_day 13 = .ok (.i2l, 1) := by decide +kernel
theorem dX12_day_14 : decode cX12_day 14 = .ok (.lconst 0, 1) := by decide +kernel
theorem dX12_day_15 : decode cX12_day 15 = .ok (.ldc2_w 100, 3) := by decide +kernel
theorem dX12_day_18 : decode cX12_day 18 = .ok (.invokestatic 82, 3) := by decide +kernel
theorem dX12_day_21 : decode cX12_day 21 = .ok (.ifCond .eq 15, 3) := by decide +kernel
theorem dX12_day_24 : decode cX12_day 24 = .ok (.iload_n 3, 1) := by decide +kernel
theorem dX12_day_25 : decode cX12_day 25 = .ok (.i2l, 1) := by decide +kernel
theorem dX12_day_26 : decode cX12_day 26 = .ok (.lconst 0, 1) := by decide +kernel
theorem dX12_day_27 : decode cX12_day 27 = .ok (.ldc2_w 102, 3) := by decide +kernel
theorem dX12_day_30 : decode cX12_day 30 = .ok (.invokestatic 82, 3) := by decide +kernel
theorem dX12_day_33 : decode cX12_day 33 = .ok (.ifCond .ne 9, 3) := by decide +kernel
theorem dX12_day_36 : decode cX12_day 36 = .ok (.aload_n 0, 1) := by decide +kernel
theorem dX12_day_37 : decode cX12_day 37 = .ok (.iconst (-1), 1) := by decide +kernel
theorem dX12_day_38 : decode cX12_day 38 = .ok (.invokevirtual 86, 3) := by decide +kernel
theorem dX12_day_41 : decode cX12_day 41 = .ok (.ireturn, 1) := by decide +kernel
theorem dX12_day_42 : decode cX12_day 42 = .ok (.aload_n 0, 1) := by decide +kernel
theorem dX12_day_43 : decode cX12_day 43 = .ok (.getfield 13, 3) := by decide +kernel
theorem dX12_day_46 : decode cX12_day 46 = .ok (.bipush 20, 2) := by decide +kernel
theorem dX12_day_48 : decode cX12_day 48 = .ok (.iconst 3, 1) := by decide +kernel
theorem dX12_day_49 : decode cX12_day 49 = .ok (.iload_n 1, 1) := by decide +kernel
theorem dX12_day_50 : decode cX12_day 50 = .ok (.imul, 1) := by decide +kernel
theorem dX12_day_51 : decode cX12_day 51 = .ok (.iadd, 1) := by decide +kernel
theorem dX12_day_52 : decode cX12_day 52 = .ok (.iload_n 2, 1) := by decide +kernel
theorem dX12_day_53 : decode cX12_day 53 = .ok (.iadd, 1) := by decide +kernel
theorem dX12_day_54 : decode cX12_day 54 = .ok (.iaload, 1) := by decide +kernel
theorem dX12_day_55 : decode cX12_day 55 = .ok (.istore 4, 2) := by decide +kernel
theorem dX12_day_57 : decode cX12_day 57 = .ok (.aload_n 0, 1) := by decide +kernel
theorem dX12_day_58 : decode cX12_day 58 = .ok (.getfield 13, 3) := by decide +kernel
theorem dX12_day_61 : decode cX12_day 61 = .ok (.bipush 20, 2) := by decide +kernel
theorem dX12_day_63 : decode cX12_day 63 = .ok (.iconst 3, 1) := by decide +kernel
theorem dX12_day_64 : decode cX12_day 64 = .ok (.iload_n 1, 1) := by decide +kernel
theorem dX12_day_65 : decode cX12_day 65 = .ok (.imul, 1) := by decide +kernel
theorem dX12_day_66 : decode cX12_day 66 = .ok (.iadd, 1) := by decide +kernel
theorem dX12_day_67 : decode cX12_day 67 = .ok (.iload_n 2, 1) := by decide +kernel
theorem dX12_day_68 : decode cX12_day 68 = .ok (.iadd, 1) := by decide +kernel
theorem dX12_day_69 : decode cX12_day 69 = .ok (.iload_n 3, 1) := by decide +kernel
theorem dX12_day_70 : decode cX12_day 70 = .ok (.iastore, 1) := by decide +kernel
theorem dX12_day_71 : decode cX12_day 71 = .ok (.aload_n 0, 1) := by decide +kernel
theorem dX12_day_72 : decode cX12_day 72 = .ok (.iload 4, 2) := by decide +kernel
theorem dX12_day_74 : decode cX12_day 74 = .ok (.invokevirtual 86, 3) := by decide +kernel
theorem dX12_day_77 : decode cX12_day 77 = .ok (.ireturn, 1) := by decide +kernel
theorem dX12_boat_0 : decode cX12_boat 0 = .ok (.aload_n 0, 1) := by decide +kernel
theorem dX12_boat_1 : decode cX12_boat 1 = .ok (.iconst 0, 1) := by decide +kernel
theorem dX12_boat_2 : decode cX12_boat 2 = .ok (.putfield 76, 3) := by decide +kernel
theorem dX12_boat_5 : decode cX12_boat 5 = .ok (.iload_n 1, 1) := by decide +kernel
theorem dX12_boat_6 : decode cX12_boat 6 = .ok (.invokestatic 96, 3) := by decide +kernel
theorem dX12_boat_9 : decode cX12_boat 9 = .ok (.ifCond .eq 33, 3) := by decide +kernel
theorem dX12_boat_12 : decode cX12_boat 12 = .ok (.iload_n 2, 1) := by decide +kernel
theorem dX12_boat_13 : decode cX12_boat 13 = .ok (.i2l, 1) := by decide +kernel
theorem dX12_boat_14 : decode cX12_boat 14 = .ok (.lconst 0, 1) := by decide +kernel
theorem dX12_boat_15 : decode cX12_boat 15 = .ok (.lconst 1, 1) := by decide +kernel
theorem dX12_boat_16 : decode cX12_boat 16 = .ok (.invokestatic 82, 3) := by decide +kernel
theorem dX12_boat_19 : decode cX12_boat 19 = .ok (.ifCond .eq 23, 3) := by decide +kernel
theorem dX12_boat_22 : decode cX12_boat 22 = .ok (.iload_n 3, 1) := by decide +kernel
theorem dX12_boat_23 : decode cX12_boat 23 = .ok (.invokestatic 104, 3) := by decide +kernel
theorem dX12_boat_26 : decode cX12_boat 26 = .ok (.ifCond .eq 16, 3) := by decide +kernel
theorem dX12_boat_29 : decode cX12_boat 29 = .ok (.iload 4, 2) := by decide +kernel
theorem dX12_boat_31 : decode cX12_boat 31 = .ok (.i2l, 1) := by decide +kernel
theorem dX12_boat_32 : decode cX12_boat 32 = .ok (.lconst 1, 1) := by decide +kernel
theorem dX12_boat_33 : decode cX12_boat 33 = .ok (.ldc2_w 107, 3) := by decide +kernel
theorem dX12_boat_36 : decode cX12_boat 36 = .ok (.invokestatic 82, 3) := by decide +kernel
theorem dX12_boat_39 : decode cX12_boat 39 = .ok (.ifCond .ne 9, 3) := by decide +kernel
theorem dX12_boat_42 : decode cX12_boat 42 = .ok (.aload_n 0, 1) := by decide +kernel
theorem dX12_boat_43 : decode cX12_boat 43 = .ok (.iconst (-1), 1) := by decide +kernel
theorem dX12_boat_44 : decode cX12_boat 44 = .ok (.invokevirtual 86, 3) := by decide +kernel
theorem dX12_boat_47 : decode cX12_boat 47 = .ok (.ireturn, 1) := by decide +kernel
theorem dX12_boat_48 : decode cX12_boat 48 = .ok (.aload_n 0, 1) := by decide +kernel
theorem dX12_boat_49 : decode cX12_boat 49 = .ok (.iconst 0, 1) := by decide +kernel
theorem dX12_boat_50 : decode cX12_boat 50 = .ok (.bipush 12, 2) := by decide +kernel
theorem dX12_boat_52 : decode cX12_boat 52 = .ok (.sipush 200, 3) := by decide +kernel
theorem dX12_boat_55 : decode cX12_boat 55 = .ok (.iconst 4, 1) := by decide +kernel
theorem dX12_boat_56 : decode cX12_boat 56 = .ok (.iload_n 1, 1) := by decide +kernel
theorem dX12_boat_57 : decode cX12_boat 57 = .ok (.iload_n 2, 1) := by decide +kernel
theorem dX12_boat_58 : decode cX12_boat 58 = .ok (.iload_n 3, 1) := by decide +kernel
theorem dX12_boat_59 : decode cX12_boat 59 = .ok (.iload 4, 2) := by decide +kernel
theorem dX12_boat_61 : decode cX12_boat 61 = .ok (.invokevirtual 109, 3) := by decide +kernel
theorem dX12_boat_64 : decode cX12_boat 64 = .ok (.ireturn, 1) := by decide +kernel
theorem dX12_beast_0 : decode cX12_beast 0 = .ok (.aload_n 0, 1) := by decide +kernel
theorem dX12_beast_1 : decode cX12_beast 1 = .ok (.iconst 0, 1) := by decide +kernel
theorem dX12_beast_2 : decode cX12_beast 2 = .ok (.putfield 76, 3) := by decide +kernel
theorem dX12_beast_5 : decode cX12_beast 5 = .ok (.iload_n 1, 1) := by decide +kernel
theorem dX12_beast_6 : decode cX12_beast 6 = .ok (.invokestatic 96, 3) := by decide +kernel
theorem dX12_beast_9 : decode cX12_beast 9 = .ok (.ifCond .eq 31, 3) := by decide +kernel
theorem dX12_beast_12 : decode cX12_beast 12 = .ok (.iload_n 2, 1) := by decide +kernel
theorem dX12_beast_13 : decode cX12_beast 13 = .ok (.invokestatic 113, 3) := by decide +kernel
theorem dX12_beast_16 : decode cX12_beast 16 = .ok (.ifCond .eq 24, 3) := by decide +kernel
theorem dX12_beast_19 : decode cX12_beast 19 = .ok (.iload_n 3, 1) := by decide +kernel
theorem dX12_beast_20 : decode cX12_beast 20 = .ok (.invokestatic 104, 3) := by decide +kernel
theorem dX12_beast_23 : decode cX12_beast 23 = .ok (.ifCond .eq 17, 3) := by decide +kernel
theorem dX12_beast_26 : decode cX12_beast 26 = .ok (.iload 4, 2) := by decide +kernel
theorem dX12_beast_28 : decode cX12_beast 28 = .ok (.invokestatic 104, 3) := by decide +kernel
theorem dX12_beast_31 : decode cX12_beast 31 = .ok (.ifCond .eq 9, 3) := by decide +kernel
theorem dX12_beast_34 : decode cX12_beast 34 = .ok (.iload 4, 2) := by decide +kernel
theorem dX12_beast_36 : decode cX12_beast 36 = .ok (.iload_n 3, 1) := by decide +kernel
theorem dX12_beast_37 : decode cX12_beast 37 = .ok (.if_icmp .ge 9, 3) := by decide +kernel
theorem dX12_beast_40 : decode cX12_beast 40 = .ok (.aload_n 0, 1) := by decide +kernel
theorem dX12_beast_41 : decode cX12_beast 41 = .ok (.iconst (-1), 1) := by decide +kernel
theorem dX12_beast_42 : decode cX12_beast 42 = .ok (.invokevirtual 86, 3) := by decide +kernel
theorem dX12_beast_45 : decode cX12_beast 45 = .ok (.ireturn, 1) := by decide +kernel
theorem dX12_beast_46 : decode cX12_beast 46 = .ok (.aload_n 0, 1) := by decide +kernel
theorem dX12_beast_47 : decode cX12_beast 47 = .ok (.iconst 1, 1) := by decide +kernel
theorem dX12_beast_48 : decode cX12_beast 48 = .ok (.bipush 12, 2) := by decide +kernel
theorem dX12_beast_50 : decode cX12_beast 50 = .ok (.sipush 250, 3) := by decide +kernel
theorem dX12_beast_53 : decode cX12_beast 53 = .ok (.iconst 4, 1) := by decide +kernel
theorem dX12_beast_54 : decode cX12_beast 54 = .ok (.iload_n 1, 1) := by decide +kernel
theorem dX12_beast_55 : decode cX12_beast 55 = .ok (.iload_n 2, 1) := by decide +kernel
theorem dX12_beast_56 : decode cX12_beast 56 = .ok (.iload_n 3, 1) := by decide +kernel
theorem dX12_beast_57 : decode cX12_beast 57 = .ok (.iload 4, 2) := by decide +kernel
theorem dX12_beast_59 : decode cX12_beast 59 = .ok (.invokevirtual 109, 3) := by decide +kernel
theorem dX12_beast_62 : decode cX12_beast 62 = .ok (.ireturn, 1) := by decide +kernel
theorem dX12_log_0 : decode cX12_log 0 = .ok (.aload_n 0, 1) := by decide +kernel
theorem dX12_log_1 : decode cX12_log 1 = .ok (.iconst 0, 1) := by decide +kernel
theorem dX12_log_2 : decode cX12_log 2 = .ok (.putfield 76, 3) := by decide +kernel
theorem dX12_log_5 : decode cX12_log 5 = .ok (.iload_n 1, 1) := by decide +kernel
theorem dX12_log_6 : decode cX12_log 6 = .ok (.invokestatic 96, 3) := by decide +kernel
theorem dX12_log_9 : decode cX12_log 9 = .ok (.ifCond .eq 10, 3) := by decide +kernel
theorem dX12_log_12 : decode cX12_log 12 = .ok (.iload_n 2, 1) := by decide +kernel
theorem dX12_log_13 : decode cX12_log 13 = .ok (.invokestatic 113, 3) := by decide +kernel
theorem dX12_log_16 : decode cX12_log 16 = .ok (.ifCond .ne 9, 3) := by decide +kernel
theorem dX12_log_19 : decode cX12_log 19 = .ok (.aload_n 0, 1) := by decide +kernel
theorem dX12_log_20 : decode cX12_log 20 = .ok (.iconst (-1), 1) := by decide +kernel
theorem dX12_log_21 : decode cX12_log 21 = .ok (.invokevirtual 86, 3) := by decide +kernel
theorem dX12_log_24 : decode cX12_log 24 = .ok (.ireturn, 1) := by decide +kernel
theorem dX12_log_25 : decode cX12_log 25 = .ok (.aload_n 0, 1) := by decide +kernel
theorem dX12_log_26 : decode cX12_log 26 = .ok (.iconst 2, 1) := by decide +kernel
theorem dX12_log_27 : decode cX12_log 27 = .ok (.bipush 12, 2) := by decide +kernel
theorem dX12_log_29 : decode cX12_log 29 = .ok (.sipush 300, 3) := by decide +kernel
theorem dX12_log_32 : decode cX12_log 32 = .ok (.iconst 2, 1) := by decide +kernel
theorem dX12_log_33 : decode cX12_log 33 = .ok (.iload_n 1, 1) := by decide +kernel
theorem dX12_log_34 : decode cX12_log 34 = .ok (.iload_n 2, 1) := by decide +kernel
theorem dX12_log_35 : decode cX12_log 35 = .ok (.iconst 0, 1) := by decide +kernel
theorem dX12_log_36 : decode cX12_log 36 = .ok (.iconst 0, 1) := by decide +kernel
theorem dX12_log_37 : decode cX12_log 37 = .ok (.invokevirtual 109, 3) := by decide +kernel
theorem dX12_log_40 : decode cX12_log 40 = .ok (.ireturn, 1) := by decide +kernel
theorem dX12_watcher_0 : decode cX12_watcher 0 = .ok (.aload_n 0, 1) := by decide +kernel
theorem dX12_watcher_1 : decode cX12_watcher 1 = .ok (.iconst 0, 1) := by decide +kernel
theorem dX12_watcher_2 : decode cX12_watcher 2 = .ok (.putfield 76, 3) := by decide +kernel
theorem dX12_watcher_5 : decode cX12_watcher 5 = .ok (.iload_n 1, 1) := by decide +kernel
theorem dX12_watcher_6 : decode cX12_watcher 6 = .ok (.i2l, 1) := by decide +kernel
theorem dX12_watcher_7 : decode cX12_watcher 7 = .ok (.lconst 0, 1) := by decide +kernel
theorem dX12_watcher_8 : decode cX12_watcher 8 = .ok (.ldc2_w 116, 3) := by decide +kernel
theorem dX12_watcher_11 : decode cX12_watcher 11 = .ok (.invokestatic 82, 3) := by decide +kernel
theorem dX12_watcher_14 : decode cX12_watcher 14 = .ok (.ifCond .ne 9, 3) := by decide +kernel
theorem dX12_watcher_17 : decode cX12_watcher 17 = .ok (.aload_n 0, 1) := by decide +kernel
theorem dX12_watcher_18 : decode cX12_watcher 18 = .ok (.iconst (-1), 1) := by decide +kernel
theorem dX12_watcher_19 : decode cX12_watcher 19 = .ok (.invokevirtual 86, 3) := by decide +kernel
theorem dX12_watcher_22 : decode cX12_watcher 22 = .ok (.ireturn, 1) := by decide +kernel
theorem dX12_watcher_23 : decode cX12_watcher 23 = .ok (.aload_n 0, 1) := by decide +kernel
theorem dX12_watcher_24 : decode cX12_watcher 24 = .ok (.iconst 3, 1) := by decide +kernel
theorem dX12_watcher_25 : decode cX12_watcher 25 = .ok (.bipush 12, 2) := by decide +kernel
theorem dX12_watcher_27 : decode cX12_watcher 27 = .ok (.sipush 330, 3) := by decide +kernel
theorem dX12_watcher_30 : decode cX12_watcher 30 = .ok (.iconst 1, 1) := by decide +kernel
theorem dX12_watcher_31 : decode cX12_watcher 31 = .ok (.iload_n 1, 1) := by decide +kernel
