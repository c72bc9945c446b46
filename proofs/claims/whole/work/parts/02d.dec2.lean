theorem dX12_watcher_32 : decode cX12_watcher 32 = .ok (.iconst 0, 1) := by decide +kernel
theorem dX12_watcher_33 : decode cX12_watcher 33 = .ok (.iconst 0, 1) := by decide +kernel
theorem dX12_watcher_34 : decode cX12_watcher 34 = .ok (.iconst 0, 1) := by decide +kernel
theorem dX12_watcher_35 : decode cX12_watcher 35 = .ok (.invokevirtual 109, 3) := by decide +kernel
theorem dX12_watcher_38 : decode cX12_watcher 38 = .ok (.ireturn, 1) := by decide +kernel
theorem dX12_pole_0 : decode cX12_pole 0 = .ok (.aload_n 0, 1) := by decide +kernel
theorem dX12_pole_1 : decode cX12_pole 1 = .ok (.iconst 0, 1) := by decide +kernel
theorem dX12_pole_2 : decode cX12_pole 2 = .ok (.putfield 76, 3) := by decide +kernel
theorem dX12_pole_5 : decode cX12_pole 5 = .ok (.iload_n 2, 1) := by decide +kernel
theorem dX12_pole_6 : decode cX12_pole 6 = .ok (.i2l, 1) := by decide +kernel
theorem dX12_pole_7 : decode cX12_pole 7 = .ok (.lconst 1, 1) := by decide +kernel
theorem dX12_pole_8 : decode cX12_pole 8 = .ok (.ldc2_w 118, 3) := by decide +kernel
theorem dX12_pole_11 : decode cX12_pole 11 = .ok (.invokestatic 82, 3) := by decide +kernel
theorem dX12_pole_14 : decode cX12_pole 14 = .ok (.ifCond .eq 15, 3) := by decide +kernel
theorem dX12_pole_17 : decode cX12_pole 17 = .ok (.iload_n 3, 1) := by decide +kernel
theorem dX12_pole_18 : decode cX12_pole 18 = .ok (.i2l, 1) := by decide +kernel
theorem dX12_pole_19 : decode cX12_pole 19 = .ok (.lconst 1, 1) := by decide +kernel
theorem dX12_pole_20 : decode cX12_pole 20 = .ok (.ldc2_w 120, 3) := by decide +kernel
theorem dX12_pole_23 : decode cX12_pole 23 = .ok (.invokestatic 82, 3) := by decide +kernel
theorem dX12_pole_26 : decode cX12_pole 26 = .ok (.ifCond .ne 9, 3) := by decide +kernel
theorem dX12_pole_29 : decode cX12_pole 29 = .ok (.aload_n 0, 1) := by decide +kernel
theorem dX12_pole_30 : decode cX12_pole 30 = .ok (.iconst (-1), 1) := by decide +kernel
theorem dX12_pole_31 : decode cX12_pole 31 = .ok (.invokevirtual 86, 3) := by decide +kernel
theorem dX12_pole_34 : decode cX12_pole 34 = .ok (.ireturn, 1) := by decide +kernel
theorem dX12_pole_35 : decode cX12_pole 35 = .ok (.aload_n 0, 1) := by decide +kernel
theorem dX12_pole_36 : decode cX12_pole 36 = .ok (.iconst 3, 1) := by decide +kernel
theorem dX12_pole_37 : decode cX12_pole 37 = .ok (.iload_n 1, 1) := by decide +kernel
theorem dX12_pole_38 : decode cX12_pole 38 = .ok (.invokevirtual 122, 3) := by decide +kernel
theorem dX12_pole_41 : decode cX12_pole 41 = .ok (.ifCond .ne 10, 3) := by decide +kernel
theorem dX12_pole_44 : decode cX12_pole 44 = .ok (.aload_n 0, 1) := by decide +kernel
theorem dX12_pole_45 : decode cX12_pole 45 = .ok (.bipush (-2), 2) := by decide +kernel
theorem dX12_pole_47 : decode cX12_pole 47 = .ok (.invokevirtual 86, 3) := by decide +kernel
theorem dX12_pole_50 : decode cX12_pole 50 = .ok (.ireturn, 1) := by decide +kernel
theorem dX12_pole_51 : decode cX12_pole 51 = .ok (.aload_n 0, 1) := by decide +kernel
theorem dX12_pole_52 : decode cX12_pole 52 = .ok (.iconst 4, 1) := by decide +kernel
theorem dX12_pole_53 : decode cX12_pole 53 = .ok (.bipush 20, 2) := by decide +kernel
theorem dX12_pole_55 : decode cX12_pole 55 = .ok (.sipush 350, 3) := by decide +kernel
theorem dX12_pole_58 : decode cX12_pole 58 = .ok (.iconst 3, 1) := by decide +kernel
theorem dX12_pole_59 : decode cX12_pole 59 = .ok (.iload_n 1, 1) := by decide +kernel
theorem dX12_pole_60 : decode cX12_pole 60 = .ok (.iload_n 2, 1) := by decide +kernel
theorem dX12_pole_61 : decode cX12_pole 61 = .ok (.iload_n 3, 1) := by decide +kernel
theorem dX12_pole_62 : decode cX12_pole 62 = .ok (.iconst 0, 1) := by decide +kernel
theorem dX12_pole_63 : decode cX12_pole 63 = .ok (.invokevirtual 109, 3) := by decide +kernel
theorem dX12_pole_66 : decode cX12_pole 66 = .ok (.ireturn, 1) := by decide +kernel
theorem dX12_canBe_0 : decode cX12_canBe 0 = .ok (.iload_n 0, 1) := by decide +kernel
theorem dX12_canBe_1 : decode cX12_canBe 1 = .ok (.invokestatic 96, 3) := by decide +kernel
theorem dX12_canBe_4 : decode cX12_canBe 4 = .ok (.ifCond .eq 60, 3) := by decide +kernel
theorem dX12_canBe_7 : decode cX12_canBe 7 = .ok (.iload_n 1, 1) := by decide +kernel
theorem dX12_canBe_8 : decode cX12_canBe 8 = .ok (.invokestatic 104, 3) := by decide +kernel
theorem dX12_canBe_11 : decode cX12_canBe 11 = .ok (.ifCond .eq 53, 3) := by decide +kernel
theorem dX12_canBe_14 : decode cX12_canBe 14 = .ok (.iload_n 2, 1) := by decide +kernel
theorem dX12_canBe_15 : decode cX12_canBe 15 = .ok (.invokestatic 113, 3) := by decide +kernel
theorem dX12_canBe_18 : decode cX12_canBe 18 = .ok (.ifCond .eq 46, 3) := by decide +kernel
theorem dX12_canBe_21 : decode cX12_canBe 21 = .ok (.iload_n 3, 1) := by decide +kernel
theorem dX12_canBe_22 : decode cX12_canBe 22 = .ok (.i2l, 1) := by decide +kernel
theorem dX12_canBe_23 : decode cX12_canBe 23 = .ok (.lconst 0, 1) := by decide +kernel
theorem dX12_canBe_24 : decode cX12_canBe 24 = .ok (.ldc2_w 102, 3) := by decide +kernel
theorem dX12_canBe_27 : decode cX12_canBe 27 = .ok (.invokestatic 82, 3) := by decide +kernel
theorem dX12_canBe_30 : decode cX12_canBe 30 = .ok (.ifCond .eq 34, 3) := by decide +kernel
theorem dX12_canBe_33 : decode cX12_canBe 33 = .ok (.iload 4, 2) := by decide +kernel
theorem dX12_canBe_35 : decode cX12_canBe 35 = .ok (.i2l, 1) := by decide +kernel
theorem dX12_canBe_36 : decode cX12_canBe 36 = .ok (.lconst 1, 1) := by decide +kernel
theorem dX12_canBe_37 : decode cX12_canBe 37 = .ok (.ldc2_w 120, 3) := by decide +kernel
theorem dX12_canBe_40 : decode cX12_canBe 40 = .ok (.invokestatic 82, 3) := by decide +kernel
theorem dX12_canBe_43 : decode cX12_canBe 43 = .ok (.ifCond .eq 21, 3) := by decide +kernel
theorem dX12_canBe_46 : decode cX12_canBe 46 = .ok (.iload 5, 2) := by decide +kernel
theorem dX12_canBe_48 : decode cX12_canBe 48 = .ok (.invokestatic 96, 3) := by decide +kernel
theorem dX12_canBe_51 : decode cX12_canBe 51 = .ok (.ifCond .eq 13, 3) := by decide +kernel
theorem dX12_canBe_54 : decode cX12_canBe 54 = .ok (.iload 5, 2) := by decide +kernel
theorem dX12_canBe_56 : decode cX12_canBe 56 = .ok (.iload_n 0, 1) := by decide +kernel
theorem dX12_canBe_57 : decode cX12_canBe 57 = .ok (.if_icmp .lt 7, 3) := by decide +kernel
theorem dX12_canBe_60 : decode cX12_canBe 60 = .ok (.iconst 1, 1) := by decide +kernel
theorem dX12_canBe_61 : decode cX12_canBe 61 = .ok (.goto 4, 3) := by decide +kernel
theorem dX12_canBe_64 : decode cX12_canBe 64 = .ok (.iconst 0, 1) := by decide +kernel
theorem dX12_canBe_65 : decode cX12_canBe 65 = .ok (.ireturn, 1) := by decide +kernel
theorem dX12_put_0 : decode cX12_put 0 = .ok (.sipush 420, 3) := by decide +kernel
theorem dX12_put_3 : decode cX12_put 3 = .ok (.bipush 7, 2) := by decide +kernel
theorem dX12_put_5 : decode cX12_put 5 = .ok (.aload_n 0, 1) := by decide +kernel
theorem dX12_put_6 : decode cX12_put 6 = .ok (.getfield 13, 3) := by decide +kernel
theorem dX12_put_9 : decode cX12_put 9 = .ok (.iconst 5, 1) := by decide +kernel
theorem dX12_put_10 : decode cX12_put 10 = .ok (.iaload, 1) := by decide +kernel
theorem dX12_put_11 : decode cX12_put 11 = .ok (.imul, 1) := by decide +kernel
theorem dX12_put_12 : decode cX12_put 12 = .ok (.iadd, 1) := by decide +kernel
theorem dX12_put_13 : decode cX12_put 13 = .ok (.istore 8, 2) := by decide +kernel
theorem dX12_put_15 : decode cX12_put 15 = .ok (.aload_n 0, 1) := by decide +kernel
theorem dX12_put_16 : decode cX12_put 16 = .ok (.getfield 13, 3) := by decide +kernel
theorem dX12_put_19 : decode cX12_put 19 = .ok (.iload 8, 2) := by decide +kernel
theorem dX12_put_21 : decode cX12_put 21 = .ok (.iload_n 1, 1) := by decide +kernel
theorem dX12_put_22 : decode cX12_put 22 = .ok (.iastore, 1) := by decide +kernel
theorem dX12_put_23 : decode cX12_put 23 = .ok (.aload_n 0, 1) := by decide +kernel
theorem dX12_put_24 : decode cX12_put 24 = .ok (.getfield 13, 3) := by decide +kernel
theorem dX12_put_27 : decode cX12_put 27 = .ok (.iload 8, 2) := by decide +kernel
theorem dX12_put_29 : decode cX12_put 29 = .ok (.iconst 1, 1) := by decide +kernel
theorem dX12_put_30 : decode cX12_put 30 = .ok (.iadd, 1) := by decide +kernel
theorem dX12_put_31 : decode cX12_put 31 = .ok (.iload_n 2, 1) := by decide +kernel
theorem dX12_put_32 : decode cX12_put 32 = .ok (.iastore, 1) := by decide +kernel
theorem dX12_put_33 : decode cX12_put 33 = .ok (.aload_n 0, 1) := by decide +kernel
theorem dX12_put_34 : decode cX12_put 34 = .ok (.getfield 13, 3) := by decide +kernel
theorem dX12_put_37 : decode cX12_put 37 = .ok (.iload 8, 2) := by decide +kernel
theorem dX12_put_39 : decode cX12_put 39 = .ok (.iconst 2, 1) := by decide +kernel
theorem dX12_put_40 : decode cX12_put 40 = .ok (.iadd, 1) := by decide +kernel
theorem dX12_put_41 : decode cX12_put 41 = .ok (.iload_n 3, 1) := by decide +kernel
theorem dX12_put_42 : decode cX12_put 42 = .ok (.iastore, 1) := by decide +kernel
theorem dX12_put_43 : decode cX12_put 43 = .ok (.aload_n 0, 1) := by decide +kernel
theorem dX12_put_44 : decode cX12_put 44 = .ok (.getfield 13, 3) := by decide +kernel
theorem dX12_put_47 : decode cX12_put 47 = .ok (.iload 8, 2) := by decide +kernel
theorem dX12_put_49 : decode cX12_put 49 = .ok (.iconst 3, 1) := by decide +kernel
theorem dX12_put_50 : decode cX12_put 50 = .ok (.iadd, 1) := by decide +kernel
theorem dX12_put_51 : decode cX12_put 51 = .ok (.iload 4, 2) := by decide +kernel
theorem dX12_put_53 : decode cX12_put 53 = .ok (.iastore, 1) := by decide +kernel
theorem dX12_put_54 : decode cX12_put 54 = .ok (.aload_n 0, 1) := by decide +kernel
theorem dX12_put_55 : decode cX12_put 55 = .ok (.getfield 13, 3) := by decide +kernel
theorem dX12_put_58 : decode cX12_put 58 = .ok (.iload 8, 2) := by decide +kernel
theorem dX12_put_60 : decode cX12_put 60 = .ok (.iconst 4, 1) := by decide +kernel
theorem dX12_put_61 : decode cX12_put 61 = .ok (.iadd, 1) := by decide +kernel
theorem dX12_put_62 : decode cX12_put 62 = .ok (.iload 5, 2) := by decide +kernel
theorem dX12_put_64 : decode cX12_put 64 = .ok (.iastore, 1) := by decide +kernel
theorem dX12_put_65 : decode cX12_put 65 = .ok (.aload_n 0, 1) := by decide +kernel
theorem dX12_put_66 : decode cX12_put 66 = .ok (.getfield 13, 3) := by decide +kernel
theorem dX12_put_69 : decode cX12_put 69 = .ok (.iload 8, 2) := by decide +kernel
theorem dX12_put_71 : decode cX12_put 71 = .ok (.iconst 5, 1) := by decide +kernel
theorem dX12_put_72 : decode cX12_put 72 = .ok (.iadd, 1) := by decide +kernel
theorem dX12_put_73 : decode cX12_put 73 = .ok (.iload 6, 2) := by decide +kernel
theorem dX12_put_75 : decode cX12_put 75 = .ok (.iastore, 1) := by decide +kernel
theorem dX12_put_76 : decode cX12_put 76 = .ok (.aload_n 0, 1) := by decide +kernel
theorem dX12_put_77 : decode cX12_put 77 = .ok (.getfield 13, 3) := by decide +kernel
theorem dX12_put_80 : decode cX12_put 80 = .ok (.iload 8, 2) := by decide +kernel
theorem dX12_put_82 : decode cX12_put 82 = .ok (.bipush 6, 2) := by decide +kernel
theorem dX12_put_84 : decode cX12_put 84 = .ok (.iadd, 1) := by decide +kernel
theorem dX12_put_85 : decode cX12_put 85 = .ok (.iload 7, 2) := by decide +kernel
theorem dX12_put_87 : decode cX12_put 87 = .ok (.iastore, 1) := by decide +kernel
theorem dX12_put_88 : decode cX12_put 88 = .ok (.aload_n 0, 1) := by decide +kernel
theorem dX12_put_89 : decode cX12_put 89 = .ok (.getfield 13, 3) := by decide +kernel
theorem dX12_put_92 : decode cX12_put 92 = .ok (.iconst 5, 1) := by decide +kernel
theorem dX12_put_93 : decode cX12_put 93 = .ok (.dup2, 1) := by decide +kernel
theorem dX12_put_94 : decode cX12_put 94 = .ok (.iaload, 1) := by decide +kernel
theorem dX12_put_95 : decode cX12_put 95 = .ok (.iconst 1, 1) := by decide +kernel
theorem dX12_put_96 : decode cX12_put 96 = .ok (.iadd, 1) := by decide +kernel
theorem dX12_put_97 : decode cX12_put 97 = .ok (.iastore, 1) := by decide +kernel
theorem dX12_put_98 : decode cX12_put 98 = .ok (.return_, 1) := by decide +kernel
theorem dX12_sight_0 : decode cX12_sight 0 = .ok (.aload_n 0, 1) := by decide +kernel
theorem dX12_sight_1 : decode cX12_sight 1 = .ok (.iconst 0, 1) := by decide +kernel
theorem dX12_sight_2 : decode cX12_sight 2 = .ok (.putfield 76, 3) := by decide +kernel
theorem dX12_sight_5 : decode cX12_sight 5 = .ok (.iload_n 1, 1) := by decide +kernel
theorem dX12_sight_6 : decode cX12_sight 6 = .ok (.iload_n 2, 1) := by decide +kernel
theorem dX12_sight_7 : decode cX12_sight 7 = .ok (.iload_n 3, 1) := by decide +kernel
theorem dX12_sight_8 : decode cX12_sight 8 = .ok (.iload 5, 2) := by decide +kernel
theorem dX12_sight_10 : decode cX12_sight 10 = .ok (.iload 6, 2) := by decide +kernel
theorem dX12_sight_12 : decode cX12_sight 12 = .ok (.iload 7, 2) := by decide +kernel
theorem dX12_sight_14 : decode cX12_sight 14 = .ok (.invokestatic 126, 3) := by decide +kernel
theorem dX12_sight_17 : decode cX12_sight 17 = .ok (.ifCond .ne 9, 3) := by decide +kernel
theorem dX12_sight_20 : decode cX12_sight 20 = .ok (.aload_n 0, 1) := by decide +kernel
theorem dX12_sight_21 : decode cX12_sight 21 = .ok (.iconst (-1), 1) := by decide +kernel
theorem dX12_sight_22 : decode cX12_sight 22 = .ok (.invokevirtual 86, 3) := by decide +kernel
theorem dX12_sight_25 : decode cX12_sight 25 = .ok (.ireturn, 1) := by decide +kernel
theorem dX12_sight_26 : decode cX12_sight 26 = .ok (.aload_n 0, 1) := by decide +kernel
theorem dX12_sight_27 : decode cX12_sight 27 = .ok (.iconst 3, 1) := by decide +kernel
theorem dX12_sight_28 : decode cX12_sight 28 = .ok (.iload 4, 2) := by decide +kernel
theorem dX12_sight_30 : decode cX12_sight 30 = .ok (.invokevirtual 122, 3) := by decide +kernel
theorem dX12_sight_33 : decode cX12_sight 33 = .ok (.ifCond .ne 10, 3) := by decide +kernel
theorem dX12_sight_36 : decode cX12_sight 36 = .ok (.aload_n 0, 1) := by decide +kernel
theorem dX12_sight_37 : decode cX12_sight 37 = .ok (.bipush (-2), 2) := by decide +kernel
theorem dX12_sight_39 : decode cX12_sight 39 = .ok (.invokevirtual 86, 3) := by decide +kernel
theorem dX12_sight_42 : decode cX12_sight 42 = .ok (.ireturn, 1) := by decide +kernel
theorem dX12_sight_43 : decode cX12_sight 43 = .ok (.aload_n 0, 1) := by decide +kernel
theorem dX12_sight_44 : decode cX12_sight 44 = .ok (.getfield 13, 3) := by decide +kernel
theorem dX12_sight_47 : decode cX12_sight 47 = .ok (.iconst 5, 1) := by decide +kernel
theorem dX12_sight_48 : decode cX12_sight 48 = .ok (.iaload, 1) := by decide +kernel
theorem dX12_sight_49 : decode cX12_sight 49 = .ok (.bipush 40, 2) := by decide +kernel
theorem dX12_sight_51 : decode cX12_sight 51 = .ok (.if_icmp .ne 10, 3) := by decide +kernel
theorem dX12_sight_54 : decode cX12_sight 54 = .ok (.aload_n 0, 1) := by decide +kernel
theorem dX12_sight_55 : decode cX12_sight 55 = .ok (.bipush (-5), 2) := by decide +kernel
theorem dX12_sight_57 : decode cX12_sight 57 = .ok (.invokevirtual 86, 3) := by decide +kernel
theorem dX12_sight_60 : decode cX12_sight 60 = .ok (.ireturn, 1) := by decide +kernel
theorem dX12_sight_61 : decode cX12_sight 61 = .ok (.aload_n 0, 1) := by decide +kernel
theorem dX12_sight_62 : decode cX12_sight 62 = .ok (.iload_n 1, 1) := by decide +kernel
theorem dX12_sight_63 : decode cX12_sight 63 = .ok (.iload_n 2, 1) := by decide +kernel
theorem dX12_sight_64 : decode cX12_sight 64 = .ok (.iload_n 3, 1) := by decide +kernel
theorem dX12_sight_65 : decode cX12_sight 65 = .ok (.iload 4, 2) := by decide +kernel
theorem dX12_sight_67 : decode cX12_sight 67 = .ok (.iload 5, 2) := by decide +kernel
theorem dX12_sight_69 : decode cX12_sight 69 = .ok (.iload 6, 2) := by decide +kernel
theorem dX12_sight_71 : decode cX12_sight 71 = .ok (.iload 7, 2) := by decide +kernel
theorem dX12_sight_73 : decode cX12_sight 73 = .ok (.invokevirtual 130, 3) := by decide +kernel
theorem dX12_sight_76 : decode cX12_sight 76 = .ok (.aload_n 0, 1) := by decide +kernel
theorem dX12_sight_77 : decode cX12_sight 77 = .ok (.aload_n 0, 1) := by decide +kernel
theorem dX12_sight_78 : decode cX12_sight 78 = .ok (.getfield 13, 3) := by decide +kernel
theorem dX12_sight_81 : decode cX12_sight 81 = .ok (.iconst 5, 1) := by decide +kernel
theorem dX12_sight_82 : decode cX12_sight 82 = .ok (.iaload, 1) := by decide +kernel
theorem dX12_sight_83 : decode cX12_sight 83 = .ok (.iconst 1, 1) := by decide +kernel
theorem dX12_sight_84 : decode cX12_sight 84 = .ok (.isub, 1) := by decide +kernel
theorem dX12_sight_85 : decode cX12_sight 85 = .ok (.invokevirtual 86, 3) := by decide +kernel
theorem dX12_sight_88 : decode cX12_sight 88 = .ok (.ireturn, 1) := by decide +kernel
theorem dX12_row_0 : decode cX12_row 0 = .ok (.aload_n 0, 1) := by decide +kernel
theorem dX12_row_1 : decode cX12_row 1 = .ok (.iconst 0, 1) := by decide +kernel
theorem dX12_row_2 : decode cX12_row 2 = .ok (.putfield 76, 3) := by decide +kernel
theorem dX12_row_5 : decode cX12_row 5 = .ok (.aload_n 0, 1) := by decide +kernel
theorem dX12_row_6 : decode cX12_row 6 = .ok (.getfield 134, 3) := by decide +kernel
theorem dX12_row_9 : decode cX12_row 9 = .ok (.istore_n 1, 1) := by decide +kernel
theorem dX12_row_10 : decode cX12_row 10 = .ok (.aload_n 0, 1) := by decide +kernel
theorem dX12_row_11 : decode cX12_row 11 = .ok (.iconst 0, 1) := by decide +kernel
theorem dX12_row_12 : decode cX12_row 12 = .ok (.putfield 134, 3) := by decide +kernel
theorem dX12_row_15 : decode cX12_row 15 = .ok (.iload_n 1, 1) := by decide +kernel
theorem dX12_row_16 : decode cX12_row 16 = .ok (.ifCond .ne 10, 3) := by decide +kernel
theorem dX12_row_19 : decode cX12_row 19 = .ok (.aload_n 0, 1) := by decide +kernel
theorem dX12_row_20 : decode cX12_row 20 = .ok (.bipush (-6), 2) := by decide +kernel
theorem dX12_row_22 : decode cX12_row 22 = .ok (.invokevirtual 86, 3) := by decide +kernel
theorem dX12_row_25 : decode cX12_row 25 = .ok (.ireturn, 1) := by decide +kernel
theorem dX12_row_26 : decode cX12_row 26 = .ok (.iconst 0, 1) := by decide +kernel
theorem dX12_row_27 : decode cX12_row 27 = .ok (.istore_n 2, 1) := by decide +kernel
theorem dX12_row_28 : decode cX12_row 28 = .ok (.iconst 0, 1) := by decide +kernel
theorem dX12_row_29 : decode cX12_row 29 = .ok (.istore_n 3, 1) := by decide +kernel
theorem dX12_row_30 : decode cX12_row 30 = .ok (.iconst 0, 1) := by decide +kernel
theorem dX12_row_31 : decode cX12_row 31 = .ok (.istore 4, 2) := by decide +kernel
theorem dX12_row_33 : decode cX12_row 33 = .ok (.iload 4, 2) := by decide +kernel
theorem dX12_row_35 : decode cX12_row 35 = .ok (.iload_n 1, 1) := by decide +kernel
theorem dX12_row_36 : decode cX12_row 36 = .ok (.if_icmp .ge 214, 3) := by decide +kernel
theorem dX12_row_39 : decode cX12_row 39 = .ok (.iload 4, 2) := by decide +kernel
theorem dX12_row_41 : decode cX12_row 41 = .ok (.bipush 7, 2) := by decide +kernel
theorem dX12_row_43 : decode cX12_row 43 = .ok (.iadd, 1) := by decide +kernel
theorem dX12_row_44 : decode cX12_row 44 = .ok (.iload_n 1, 1) := by decide +kernel
theorem dX12_row_45 : decode cX12_row 45 = .ok (.if_icmp .gt 105, 3) := by decide +kernel
theorem dX12_row_48 : decode cX12_row 48 = .ok (.aload_n 0, 1) := by decide +kernel
theorem dX12_row_49 : decode cX12_row 49 = .ok (.getfield 13, 3) := by decide +kernel
theorem dX12_row_52 : decode cX12_row 52 = .ok (.iconst 5, 1) := by decide +kernel
theorem dX12_row_53 : decode cX12_row 53 = .ok (.iaload, 1) := by decide +kernel
theorem dX12_row_54 : decode cX12_row 54 = .ok (.bipush 40, 2) := by decide +kernel
theorem dX12_row_56 : decode cX12_row 56 = .ok (.if_icmp .ge 94, 3) := by decide +kernel
theorem dX12_row_59 : decode cX12_row 59 = .ok (.aload_n 0, 1) := by decide +kernel
theorem dX12_row_60 : decode cX12_row 60 = .ok (.iconst 3, 1) := by decide +kernel
theorem dX12_row_61 : decode cX12_row 61 = .ok (.aload_n 0, 1) := by decide +kernel
theorem dX12_row_62 : decode cX12_row 62 = .ok (.getfield 23, 3) := by decide +kernel
theorem dX12_row_65 : decode cX12_row 65 = .ok (.iload 4, 2) := by decide +kernel
theorem dX12_row_67 : decode cX12_row 67 = .ok (.iconst 3, 1) := by decide +kernel
theorem dX12_row_68 : decode cX12_row 68 = .ok (.iadd, 1) := by decide +kernel
theorem dX12_row_69 : decode cX12_row 69 = .ok (.iaload, 1) := by decide +kernel
theorem dX12_row_70 : decode cX12_row 70 = .ok (.invokevirtual 122, 3) := by decide +kernel
theorem dX12_row_73 : decode cX12_row 73 = .ok (.ifCond .eq 77, 3) := by decide +kernel
theorem dX12_row_76 : decode cX12_row 76 = .ok (.aload_n 0, 1) := by decide +kernel
theorem dX12_row_77 : decode cX12_row 77 = .ok (.getfield 23, 3) := by decide +kernel
theorem dX12_row_80 : decode cX12_row 80 = .ok (.iload 4, 2) := by decide +kernel
theorem dX12_row_82 : decode cX12_row 82 = .ok (.iaload, 1) := by decide +kernel
theorem dX12_row_83 : decode cX12_row 83 = .ok (.bipush 10, 2) := by decide +kernel
theorem dX12_row_85 : decode cX12_row 85 = .ok (.aload_n 0, 1) := by decide +kernel
theorem dX12_row_86 : decode cX12_row 86 = .ok (.getfield 23, 3) := by decide +kernel
theorem dX12_row_89 : decode cX12_row 89 = .ok (.iload 4, 2) := by decide +kernel
theorem dX12_row_91 : decode cX12_row 91 = .ok (.iconst 1, 1) := by decide +kernel
theorem dX12_row_92 : decode cX12_row 92 = .ok (.iadd, 1) := by decide +kernel
theorem dX12_row_93 : decode cX12_row 93 = .ok (.iaload, 1) := by decide +kernel
theorem dX12_row_94 : decode cX12_row 94 = .ok (.imul, 1) := by decide +kernel
theorem dX12_row_95 : decode cX12_row 95 = .ok (.aload_n 0, 1) := by decide +kernel
theorem dX12_row_96 : decode cX12_row 96 = .ok (.getfield 23, 3) := by decide +kernel
theorem dX12_row_99 : decode cX12_row 99 = .ok (.iload 4, 2) := by decide +kernel
theorem dX12_row_101 : decode cX12_row 101 = .ok (.iconst 2, 1) := by decide +kernel
theorem dX12_row_102 : decode cX12_row 102 = .ok (.iadd, 1) := by decide +kernel
theorem dX12_row_103 : decode cX12_row 103 = .ok (.iaload, 1) := by decide +kernel
theorem dX12_row_104 : decode cX12_row 104 = .ok (.aload_n 0, 1) := by decide +kernel
theorem dX12_row_105 : decode cX12_row 105 = .ok (.getfield 23, 3) := by decide +kernel
theorem dX12_row_108 : decode cX12_row 108 = .ok (.iload 4, 2) := by decide +kernel
theorem dX12_row_110 : decode cX12_row 110 = .ok (.iconst 4, 1) := by decide +kernel
theorem dX12_row_111 : decode cX12_row 111 = .ok (.iadd, 1) := by decide +kernel
theorem dX12_row_112 : decode cX12_row 112 = .ok (.iaload, 1) := by decide +kernel
theorem dX12_row_113 : decode cX12_row 113 = .ok (.aload_n 0, 1) := by decide +kernel
theorem dX12_row_114 : decode cX12_row 114 = .ok (.getfield 23, 3) := by decide +kernel
theorem dX12_row_117 : decode cX12_row 117 = .ok (.iload 4, 2) := by decide +kernel
theorem dX12_row_119 : decode cX12_row 119 = .ok (.iconst 5, 1) := by decide +kernel
theorem dX12_row_120 : decode cX12_row 120 = .ok (.iadd, 1) := by decide +kernel
theorem dX12_row_121 : decode cX12_row 121 = .ok (.iaload, 1) := by decide +kernel
theorem dX12_row_122 : decode cX12_row 122 = .ok (.aload_n 0, 1) := by decide +kernel
theorem dX12_row_123 : decode cX12_row 123 = .ok (.getfield 23, 3) := by decide +kernel
theorem dX12_row_126 : decode cX12_row 126 = .ok (.iload 4, 2) := by decide +kernel
theorem dX12_row_128 : decode cX12_row 128 = .ok (.iaload, 1) := by decide +kernel
theorem dX12_row_129 : decode cX12_row 129 = .ok (.aload_n 0, 1) := by decide +kernel
theorem dX12_row_130 : decode cX12_row 130 = .ok (.getfield 23, 3) := by decide +kernel
theorem dX12_row_133 : decode cX12_row 133 = .ok (.iload 4, 2) := by decide +kernel
theorem dX12_row_135 : decode cX12_row 135 = .ok (.bipush 6, 2) := by decide +kernel
theorem dX12_row_137 : decode cX12_row 137 = .ok (.iadd, 1) := by decide +kernel
theorem dX12_row_138 : decode cX12_row 138 = .ok (.iaload, 1) := by decide +kernel
theorem dX12_row_139 : decode cX12_row 139 = .ok (.iadd, 1) := by decide +kernel
theorem dX12_row_140 : decode cX12_row 140 = .ok (.invokestatic 126, 3) := by decide +kernel
theorem dX12_row_143 : decode cX12_row 143 = .ok (.ifCond .eq 7, 3) := by decide +kernel
theorem dX12_row_146 : decode cX12_row 146 = .ok (.iconst 1, 1) := by decide +kernel
theorem dX12_row_147 : decode cX12_row 147 = .ok (.goto 4, 3) := by decide +kernel
theorem dX12_row_150 : decode cX12_row 150 = .ok (.iconst 0, 1) := by decide +kernel
theorem dX12_row_151 : decode cX12_row 151 = .ok (.istore 5, 2) := by decide +kernel
theorem dX12_row_153 : decode cX12_row 153 = .ok (.iload 5, 2) := by decide +kernel
theorem dX12_row_155 : decode cX12_row 155 = .ok (.ifCond .eq 86, 3) := by decide +kernel
theorem dX12_row_158 : decode cX12_row 158 = .ok (.aload_n 0, 1) := by decide +kernel
theorem dX12_row_159 : decode cX12_row 159 = .ok (.aload_n 0, 1) := by decide +kernel
theorem dX12_row_160 : decode cX12_row 160 = .ok (.getfield 23, 3) := by decide +kernel
theorem dX12_row_163 : decode cX12_row 163 = .ok (.iload 4, 2) := by decide +kernel
theorem dX12_row_165 : decode cX12_row 165 = .ok (.iaload, 1) := by decide +kernel
theorem dX12_row_166 : decode cX12_row 166 = .ok (.bipush 10, 2) := by decide +kernel
theorem dX12_row_168 : decode cX12_row 168 = .ok (.aload_n 0, 1) := by decide +kernel
theorem dX12_row_169 : decode cX12_row 169 = .ok (.getfield 23, 3) := by decide +kernel
theorem dX12_row_172 : decode cX12_row 172 = .ok (.iload 4, 2) := by decide +kernel
theorem dX12_row_174 : decode cX12_row 174 = .ok (.iconst 1, 1) := by decide +kernel
theorem dX12_row_175 : decode cX12_row 175 = .ok (.iadd, 1) := by decide +kernel
theorem dX12_row_176 : decode cX12_row 176 = .ok (.iaload, 1) := by decide +kernel
theorem dX12_row_177 : decode cX12_row 177 = .ok (.imul, 1) := by decide +kernel
theorem dX12_row_178 : decode cX12_row 178 = .ok (.aload_n 0, 1) := by decide +kernel
theorem dX12_row_179 : decode cX12_row 179 = .ok (.getfield 23, 3) := by decide +kernel
theorem dX12_row_182 : decode cX12_row 182 = .ok (.iload 4, 2) := by decide +kernel
theorem dX12_row_184 : decode cX12_row 184 = .ok (.iconst 2, 1) := by decide +kernel
theorem dX12_row_185 : decode cX12_row 185 = .ok (.iadd, 1) := by decide +kernel
theorem dX12_row_186 : decode cX12_row 186 = .ok (.iaload, 1) := by decide +kernel
theorem dX12_row_187 : decode cX12_row 187 = .ok (.aload_n 0, 1) := by decide +kernel
theorem dX12_row_188 : decode cX12_row 188 = .ok (.getfield 23, 3) := by decide +kernel
theorem dX12_row_191 : decode cX12_row 191 = .ok (.iload 4, 2) := by decide +kernel
theorem dX12_row_193 : decode cX12_row 193 = .ok (.iconst 3, 1) := by decide +kernel
theorem dX12_row_194 : decode cX12_row 194 = .ok (.iadd, 1) := by decide +kernel
theorem dX12_row_195 : decode cX12_row 195 = .ok (.iaload, 1) := by decide +kernel
theorem dX12_row_196 : decode cX12_row 196 = .ok (.aload_n 0, 1) := by decide +kernel
theorem dX12_row_197 : decode cX12_row 197 = .ok (.getfield 23, 3) := by decide +kernel
theorem dX12_row_200 : decode cX12_row 200 = .ok (.iload 4, 2) := by decide +kernel
theorem dX12_row_202 : decode cX12_row 202 = .ok (.iconst 4, 1) := by decide +kernel
theorem dX12_row_203 : decode cX12_row 203 = .ok (.iadd, 1) := by decide +kernel
theorem dX12_row_204 : decode cX12_row 204 = .ok (.iaload, 1) := by decide +kernel
theorem dX12_row_205 : decode cX12_row 205 = .ok (.aload_n 0, 1) := by decide +kernel
theorem dX12_row_206 : decode cX12_row 206 = .ok (.getfield 23, 3) := by decide +kernel
theorem dX12_row_209 : decode cX12_row 209 = .ok (.iload 4, 2) := by decide +kernel
theorem dX12_row_211 : decode cX12_row 211 = .ok (.iconst 5, 1) := by decide +kernel
theorem dX12_row_212 : decode cX12_row 212 = .ok (.iadd, 1) := by decide +kernel
theorem dX12_row_213 : decode cX12_row 213 = .ok (.iaload, 1) := by decide +kernel
theorem dX12_row_214 : decode cX12_row 214 = .ok (.aload_n 0, 1) := by decide +kernel
theorem dX12_row_215 : decode cX12_row 215 = .ok (.getfield 23, 3) := by decide +kernel
theorem dX12_row_218 : decode cX12_row 218 = .ok (.iload 4, 2) := by decide +kernel
theorem dX12_row_220 : decode cX12_row 220 = .ok (.iaload, 1) := by decide +kernel
theorem dX12_row_221 : decode cX12_row 221 = .ok (.aload_n 0, 1) := by decide +kernel
theorem dX12_row_222 : decode cX12_row 222 = .ok (.getfield 23, 3) := by decide +kernel
theorem dX12_row_225 : decode cX12_row 225 = .ok (.iload 4, 2) := by decide +kernel
theorem dX12_row_227 : decode cX12_row 227 = .ok (.bipush 6, 2) := by decide +kernel
theorem dX12_row_229 : decode cX12_row 229 = .ok (.iadd, 1) := by decide +kernel
theorem dX12_row_230 : decode cX12_row 230 = .ok (.iaload, 1) := by decide +kernel
theorem dX12_row_231 : decode cX12_row 231 = .ok (.iadd, 1) := by decide +kernel
theorem dX12_row_232 : decode cX12_row 232 = .ok (.invokevirtual 130, 3) := by decide +kernel
theorem dX12_row_235 : decode cX12_row 235 = .ok (.iinc 2 1, 3) := by decide +kernel
theorem dX12_row_238 : decode cX12_row 238 = .ok (.goto 6, 3) := by decide +kernel
theorem dX12_row_241 : decode cX12_row 241 = .ok (.iinc 3 1, 3) := by decide +kernel
theorem dX12_row_244 : decode cX12_row 244 = .ok (.iinc 4 7, 3) := by decide +kernel
theorem dX12_row_247 : decode cX12_row 247 = .ok (.goto (-214), 3) := by decide +kernel
theorem dX12_row_250 : decode cX12_row 250 = .ok (.aload_n 0, 1) := by decide +kernel
theorem dX12_row_251 : decode cX12_row 251 = .ok (.iload_n 3, 1) := by decide +kernel
theorem dX12_row_252 : decode cX12_row 252 = .ok (.putfield 137, 3) := by decide +kernel
theorem dX12_row_255 : decode cX12_row 255 = .ok (.aload_n 0, 1) := by decide +kernel
theorem dX12_row_256 : decode cX12_row 256 = .ok (.iload_n 2, 1) := by decide +kernel
theorem dX12_row_257 : decode cX12_row 257 = .ok (.invokevirtual 86, 3) := by decide +kernel
theorem dX12_row_260 : decode cX12_row 260 = .ok (.ireturn, 1) := by decide +kernel
theorem dX12_cousins_0 : decode cX12_cousins 0 = .ok (.aload_n 0, 1) := by decide +kernel
theorem dX12_cousins_1 : decode cX12_cousins 1 = .ok (.iconst 0, 1) := by decide +kernel
theorem dX12_cousins_2 : decode cX12_cousins 2 = .ok (.putfield 76, 3) := by decide +kernel
theorem dX12_cousins_5 : decode cX12_cousins 5 = .ok (.aload_n 0, 1) := by decide +kernel
theorem dX12_cousins_6 : decode cX12_cousins 6 = .ok (.getfield 137, 3) := by decide +kernel
theorem dX12_cousins_9 : decode cX12_cousins 9 = .ok (.ireturn, 1) := by decide +kernel
theorem dX12_four_0 : decode cX12_four 0 = .ok (.bipush 24, 2) := by decide +kernel
theorem dX12_four_2 : decode cX12_four 2 = .ok (.istore_n 2, 1) := by decide +kernel
theorem dX12_four_3 : decode cX12_four 3 = .ok (.iload_n 2, 1) := by decide +kernel
theorem dX12_four_4 : decode cX12_four 4 = .ok (.ifCond .lt 35, 3) := by decide +kernel
theorem dX12_four_7 : decode cX12_four 7 = .ok (.aload_n 0, 1) := by decide +kernel
theorem dX12_four_8 : decode cX12_four 8 = .ok (.getfield 23, 3) := by decide +kernel
theorem dX12_four_11 : decode cX12_four 11 = .ok (.aload_n 0, 1) := by decide +kernel
theorem dX12_four_12 : decode cX12_four 12 = .ok (.getfield 134, 3) := by decide +kernel
theorem dX12_four_15 : decode cX12_four 15 = .ok (.iload_n 1, 1) := by decide +kernel
theorem dX12_four_16 : decode cX12_four 16 = .ok (.iload_n 2, 1) := by decide +kernel
theorem dX12_four_17 : decode cX12_four 17 = .ok (.ishr, 1) := by decide +kernel
theorem dX12_four_18 : decode cX12_four 18 = .ok (.sipush 255, 3) := by decide +kernel
theorem dX12_four_21 : decode cX12_four 21 = .ok (.iand, 1) := by decide +kernel
theorem dX12_four_22 : decode cX12_four 22 = .ok (.iastore, 1) := by decide +kernel
theorem dX12_four_23 : decode cX12_four 23 = .ok (.aload_n 0, 1) := by decide +kernel
theorem dX12_four_24 : decode cX12_four 24 = .ok (.dup, 1) := by decide +kernel
theorem dX12_four_25 : decode cX12_four 25 = .ok (.getfield 134, 3) := by decide +kernel
theorem dX12_four_28 : decode cX12_four 28 = .ok (.iconst 1, 1) := by decide +kernel
theorem dX12_four_29 : decode cX12_four 29 = .ok (.iadd, 1) := by decide +kernel
theorem dX12_four_30 : decode cX12_four 30 = .ok (.putfield 134, 3) := by decide +kernel
theorem dX12_four_33 : decode cX12_four 33 = .ok (.iinc 2 (-8), 3) := by decide +kernel
theorem dX12_four_36 : decode cX12_four 36 = .ok (.goto (-33), 3) := by decide +kernel
theorem dX12_four_39 : decode cX12_four 39 = .ok (.return_, 1) := by decide +kernel
theorem dX12_feed_0 : decode cX12_feed 0 = .ok (.aload_n 0, 1) := by decide +kernel
theorem dX12_feed_1 : decode cX12_feed 1 = .ok (.iconst 0, 1) := by decide +kernel
theorem dX12_feed_2 : decode cX12_feed 2 = .ok (.putfield 76, 3) := by decide +kernel
theorem dX12_feed_5 : decode cX12_feed 5 = .ok (.aload_n 0, 1) := by decide +kernel
theorem dX12_feed_6 : decode cX12_feed 6 = .ok (.getfield 134, 3) := by decide +kernel
theorem dX12_feed_9 : decode cX12_feed 9 = .ok (.bipush 20, 2) := by decide +kernel
theorem dX12_feed_11 : decode cX12_feed 11 = .ok (.iadd, 1) := by decide +kernel
theorem dX12_feed_12 : decode cX12_feed 12 = .ok (.sipush 400, 3) := by decide +kernel
theorem dX12_feed_15 : decode cX12_feed 15 = .ok (.if_icmp .le 5, 3) := by decide +kernel
theorem dX12_feed_18 : decode cX12_feed 18 = .ok (.iconst (-1), 1) := by decide +kernel
theorem dX12_feed_19 : decode cX12_feed 19 = .ok (.ireturn, 1) := by decide +kernel
theorem dX12_feed_20 : decode cX12_feed 20 = .ok (.aload_n 0, 1) := by decide +kernel
theorem dX12_feed_21 : decode cX12_feed 21 = .ok (.iload_n 1, 1) := by decide +kernel
theorem dX12_feed_22 : decode cX12_feed 22 = .ok (.invokevirtual 140, 3) := by decide +kernel
theorem dX12_feed_25 : decode cX12_feed 25 = .ok (.aload_n 0, 1) := by decide +kernel
theorem dX12_feed_26 : decode cX12_feed 26 = .ok (.iload_n 2, 1) := by decide +kernel
theorem dX12_feed_27 : decode cX12_feed 27 = .ok (.invokevirtual 140, 3) := by decide +kernel
theorem dX12_feed_30 : decode cX12_feed 30 = .ok (.aload_n 0, 1) := by decide +kernel
theorem dX12_feed_31 : decode cX12_feed 31 = .ok (.iload_n 3, 1) := by decide +kernel
theorem dX12_feed_32 : decode cX12_feed 32 = .ok (.invokevirtual 140, 3) := by decide +kernel
theorem dX12_feed_35 : decode cX12_feed 35 = .ok (.aload_n 0, 1) := by decide +kernel
theorem dX12_feed_36 : decode cX12_feed 36 = .ok (.iload 4, 2) := by decide +kernel
theorem dX12_feed_38 : decode cX12_feed 38 = .ok (.invokevirtual 140, 3) := by decide +kernel
theorem dX12_feed_41 : decode cX12_feed 41 = .ok (.aload_n 0, 1) := by decide +kernel
theorem dX12_feed_42 : decode cX12_feed 42 = .ok (.iload 5, 2) := by decide +kernel
theorem dX12_feed_44 : decode cX12_feed 44 = .ok (.invokevirtual 140, 3) := by decide +kernel
theorem dX12_feed_47 : decode cX12_feed 47 = .ok (.aload_n 0, 1) := by decide +kernel
theorem dX12_feed_48 : decode cX12_feed 48 = .ok (.getfield 134, 3) := by decide +kernel
theorem dX12_feed_51 : decode cX12_feed 51 = .ok (.ireturn, 1) := by decide +kernel
theorem dX12_end_0 : decode cX12_end 0 = .ok (.aload_n 0, 1) := by decide +kernel
theorem dX12_end_1 : decode cX12_end 1 = .ok (.iconst 0, 1) := by decide +kernel
theorem dX12_end_2 : decode cX12_end 2 = .ok (.putfield 76, 3) := by decide +kernel
theorem dX12_end_5 : decode cX12_end 5 = .ok (.iload_n 1, 1) := by decide +kernel
theorem dX12_end_6 : decode cX12_end 6 = .ok (.ifCond .lt 11, 3) := by decide +kernel
theorem dX12_end_9 : decode cX12_end 9 = .ok (.iload_n 1, 1) := by decide +kernel
theorem dX12_end_10 : decode cX12_end 10 = .ok (.aload_n 0, 1) := by decide +kernel
theorem dX12_end_11 : decode cX12_end 11 = .ok (.getfield 134, 3) := by decide +kernel
theorem dX12_end_14 : decode cX12_end 14 = .ok (.if_icmp .le 5, 3) := by decide +kernel
theorem dX12_end_17 : decode cX12_end 17 = .ok (.iconst (-1), 1) := by decide +kernel
theorem dX12_end_18 : decode cX12_end 18 = .ok (.ireturn, 1) := by decide +kernel
theorem dX12_end_19 : decode cX12_end 19 = .ok (.aload_n 0, 1) := by decide +kernel
theorem dX12_end_20 : decode cX12_end 20 = .ok (.iload_n 1, 1) := by decide +kernel
theorem dX12_end_21 : decode cX12_end 21 = .ok (.putfield 134, 3) := by decide +kernel
theorem dX12_end_24 : decode cX12_end 24 = .ok (.iload_n 1, 1) := by decide +kernel
theorem dX12_end_25 : decode cX12_end 25 = .ok (.ireturn, 1) := by decide +kernel
theorem dX12_isSmall_0 : decode cX12_isSmall 0 = .ok (.iload_n 0, 1) := by decide +kernel
theorem dX12_isSmall_1 : decode cX12_isSmall 1 = .ok (.bipush 97, 2) := by decide +kernel
theorem dX12_isSmall_3 : decode cX12_isSmall 3 = .ok (.if_icmp .lt 13, 3) := by decide +kernel
theorem dX12_isSmall_6 : decode cX12_isSmall 6 = .ok (.iload_n 0, 1) := by decide +kernel
theorem dX12_isSmall_7 : decode cX12_isSmall 7 = .ok (.bipush 122, 2) := by decide +kernel
theorem dX12_isSmall_9 : decode cX12_isSmall 9 = .ok (.if_icmp .gt 7, 3) := by decide +kernel
theorem dX12_isSmall_12 : decode cX12_isSmall 12 = .ok (.iconst 1, 1) := by decide +kernel
theorem dX12_isSmall_13 : decode cX12_isSmall 13 = .ok (.goto 4, 3) := by decide +kernel
theorem dX12_isSmall_16 : decode cX12_isSmall 16 = .ok (.iconst 0, 1) := by decide +kernel
theorem dX12_isSmall_17 : decode cX12_isSmall 17 = .ok (.ireturn, 1) := by decide +kernel
theorem dX12_isDigit_0 : decode cX12_isDigit 0 = .ok (.iload_n 0, 1) := by decide +kernel
theorem dX12_isDigit_1 : decode cX12_isDigit 1 = .ok (.bipush 48, 2) := by decide +kernel
theorem dX12_isDigit_3 : decode cX12_isDigit 3 = .ok (.if_icmp .lt 13, 3) := by decide +kernel
theorem dX12_isDigit_6 : decode cX12_isDigit 6 = .ok (.iload_n 0, 1) := by decide +kernel
theorem dX12_isDigit_7 : decode cX12_isDigit 7 = .ok (.bipush 57, 2) := by decide +kernel
theorem dX12_isDigit_9 : decode cX12_isDigit 9 = .ok (.if_icmp .gt 7, 3) := by decide +kernel
theorem dX12_isDigit_12 : decode cX12_isDigit 12 = .ok (.iconst 1, 1) := by decide +kernel
theorem dX12_isDigit_13 : decode cX12_isDigit 13 = .ok (.goto 4, 3) := by decide +kernel
theorem dX12_isDigit_16 : decode cX12_isDigit 16 = .ok (.iconst 0, 1) := by decide +kernel
theorem dX12_isDigit_17 : decode cX12_isDigit 17 = .ok (.ireturn, 1) := by decide +kernel
theorem dX12_begin_0 : decode cX12_begin 0 = .ok (.aload_n 0, 1) := by decide +kernel
theorem dX12_begin_1 : decode cX12_begin 1 = .ok (.iconst 0, 1) := by decide +kernel
theorem dX12_begin_2 : decode cX12_begin 2 = .ok (.putfield 144, 3) := by decide +kernel
theorem dX12_begin_5 : decode cX12_begin 5 = .ok (.aload_n 0, 1) := by decide +kernel
theorem dX12_begin_6 : decode cX12_begin 6 = .ok (.iconst 0, 1) := by decide +kernel
theorem dX12_begin_7 : decode cX12_begin 7 = .ok (.putfield 147, 3) := by decide +kernel
theorem dX12_begin_10 : decode cX12_begin 10 = .ok (.aload_n 0, 1) := by decide +kernel
theorem dX12_begin_11 : decode cX12_begin 11 = .ok (.iconst (-1), 1) := by decide +kernel
theorem dX12_begin_12 : decode cX12_begin 12 = .ok (.putfield 26, 3) := by decide +kernel
theorem dX12_begin_15 : decode cX12_begin 15 = .ok (.aload_n 0, 1) := by decide +kernel
theorem dX12_begin_16 : decode cX12_begin 16 = .ok (.invokevirtual 151, 3) := by decide +kernel
theorem dX12_begin_19 : decode cX12_begin 19 = .ok (.return_, 1) := by decide +kernel
theorem dX12_next_0 : decode cX12_next 0 = .ok (.aload_n 0, 1) := by decide +kernel
theorem dX12_next_1 : decode cX12_next 1 = .ok (.aload_n 0, 1) := by decide +kernel
theorem dX12_next_2 : decode cX12_next 2 = .ok (.getfield 144, 3) := by decide +kernel
theorem dX12_next_5 : decode cX12_next 5 = .ok (.putfield 154, 3) := by decide +kernel
theorem dX12_next_8 : decode cX12_next 8 = .ok (.aload_n 0, 1) := by decide +kernel
theorem dX12_next_9 : decode cX12_next 9 = .ok (.getfield 154, 3) := by decide +kernel
theorem dX12_next_12 : decode cX12_next 12 = .ok (.aload_n 0, 1) := by decide +kernel
theorem dX12_next_13 : decode cX12_next 13 = .ok (.getfield 134, 3) := by decide +kernel
theorem dX12_next_16 : decode cX12_next 16 = .ok (.if_icmp .ge 30, 3) := by decide +kernel
theorem dX12_next_19 : decode cX12_next 19 = .ok (.aload_n 0, 1) := by decide +kernel
theorem dX12_next_20 : decode cX12_next 20 = .ok (.getfield 23, 3) := by decide +kernel
theorem dX12_next_23 : decode cX12_next 23 = .ok (.aload_n 0, 1) := by decide +kernel
theorem dX12_next_24 : decode cX12_next 24 = .ok (.getfield 154, 3) := by decide +kernel
theorem dX12_next_27 : decode cX12_next 27 = .ok (.iaload, 1) := by decide +kernel
theorem dX12_next_28 : decode cX12_next 28 = .ok (.bipush 32, 2) := by decide +kernel
theorem dX12_next_30 : decode cX12_next 30 = .ok (.if_icmp .ne 16, 3) := by decide +kernel
theorem dX12_next_33 : decode cX12_next 33 = .ok (.aload_n 0, 1) := by decide +kernel
theorem dX12_next_34 : decode cX12_next 34 = .ok (.dup, 1) := by decide +kernel
theorem dX12_next_35 : decode cX12_next 35 = .ok (.getfield 154, 3) := by decide +kernel
theorem dX12_next_38 : decode cX12_next 38 = .ok (.iconst 1, 1) := by decide +kernel
theorem dX12_next_39 : decode cX12_next 39 = .ok (.iadd, 1) := by decide +kernel
theorem dX12_next_40 : decode cX12_next 40 = .ok (.putfield 154, 3) := by decide +kernel
theorem dX12_next_43 : decode cX12_next 43 = .ok (.goto (-35), 3) := by decide +kernel
theorem dX12_next_46 : decode cX12_next 46 = .ok (.aload_n 0, 1) := by decide +kernel
theorem dX12_next_47 : decode cX12_next 47 = .ok (.aload_n 0, 1) := by decide +kernel
theorem dX12_next_48 : decode cX12_next 48 = .ok (.getfield 154, 3) := by decide +kernel
theorem dX12_next_51 : decode cX12_next 51 = .ok (.putfield 144, 3) := by decide +kernel
theorem dX12_next_54 : decode cX12_next 54 = .ok (.aload_n 0, 1) := by decide +kernel
theorem dX12_next_55 : decode cX12_next 55 = .ok (.lconst 0, 1) := by decide +kernel
theorem dX12_next_56 : decode cX12_next 56 = .ok (.putfield 157, 3) := by decide +kernel
theorem dX12_next_59 : decode cX12_next 59 = .ok (.aload_n 0, 1) := by decide +kernel
theorem dX12_next_60 : decode cX12_next 60 = .ok (.aload_n 0, 1) := by decide +kernel
theorem dX12_next_61 : decode cX12_next 61 = .ok (.getfield 154, 3) := by decide +kernel
theorem dX12_next_64 : decode cX12_next 64 = .ok (.aload_n 0, 1) := by decide +kernel
theorem dX12_next_65 : decode cX12_next 65 = .ok (.getfield 134, 3) := by decide +kernel
theorem dX12_next_68 : decode cX12_next 68 = .ok (.if_icmp .ne 7, 3) := by decide +kernel
theorem dX12_next_71 : decode cX12_next 71 = .ok (.iconst 0, 1) := by decide +kernel
theorem dX12_next_72 : decode cX12_next 72 = .ok (.goto 42, 3) := by decide +kernel
theorem dX12_next_75 : decode cX12_next 75 = .ok (.aload_n 0, 1) := by decide +kernel
theorem dX12_next_76 : decode cX12_next 76 = .ok (.getfield 23, 3) := by decide +kernel
theorem dX12_next_79 : decode cX12_next 79 = .ok (.aload_n 0, 1) := by decide +kernel
theorem dX12_next_80 : decode cX12_next 80 = .ok (.getfield 154, 3) := by decide +kernel
theorem dX12_next_83 : decode cX12_next 83 = .ok (.iaload, 1) := by decide +kernel
theorem dX12_next_84 : decode cX12_next 84 = .ok (.invokestatic 161, 3) := by decide +kernel
theorem dX12_next_87 : decode cX12_next 87 = .ok (.ifCond .eq 7, 3) := by decide +kernel
theorem dX12_next_90 : decode cX12_next 90 = .ok (.iconst 1, 1) := by decide +kernel
theorem dX12_next_91 : decode cX12_next 91 = .ok (.goto 23, 3) := by decide +kernel
theorem dX12_next_94 : decode cX12_next 94 = .ok (.aload_n 0, 1) := by decide +kernel
theorem dX12_next_95 : decode cX12_next 95 = .ok (.getfield 23, 3) := by decide +kernel
theorem dX12_next_98 : decode cX12_next 98 = .ok (.aload_n 0, 1) := by decide +kernel
theorem dX12_next_99 : decode cX12_next 99 = .ok (.getfield 154, 3) := by decide +kernel
theorem dX12_next_102 : decode cX12_next 102 = .ok (.iaload, 1) := by decide +kernel
theorem dX12_next_103 : decode cX12_next 103 = .ok (.invokestatic 164, 3) := by decide +kernel
theorem dX12_next_106 : decode cX12_next 106 = .ok (.ifCond .eq 7, 3) := by decide +kernel
theorem dX12_next_109 : decode cX12_next 109 = .ok (.iconst 2, 1) := by decide +kernel
theorem dX12_next_110 : decode cX12_next 110 = .ok (.goto 4, 3) := by decide +kernel
theorem dX12_next_113 : decode cX12_next 113 = .ok (.iconst 3, 1) := by decide +kernel
theorem dX12_next_114 : decode cX12_next 114 = .ok (.putfield 167, 3) := by decide +kernel
theorem dX12_next_117 : decode cX12_next 117 = .ok (.aload_n 0, 1) := by decide +kernel
theorem dX12_next_118 : decode cX12_next 118 = .ok (.getfield 167, 3) := by decide +kernel
theorem dX12_next_121 : decode cX12_next 121 = .ok (.iconst 3, 1) := by decide +kernel
theorem dX12_next_122 : decode cX12_next 122 = .ok (.if_icmp .ne 27, 3) := by decide +kernel
theorem dX12_next_125 : decode cX12_next 125 = .ok (.aload_n 0, 1) := by decide +kernel
theorem dX12_next_126 : decode cX12_next 126 = .ok (.aload_n 0, 1) := by decide +kernel
theorem dX12_next_127 : decode cX12_next 127 = .ok (.getfield 23, 3) := by decide +kernel
theorem dX12_next_130 : decode cX12_next 130 = .ok (.aload_n 0, 1) := by decide +kernel
theorem dX12_next_131 : decode cX12_next 131 = .ok (.getfield 154, 3) := by decide +kernel
theorem dX12_next_134 : decode cX12_next 134 = .ok (.iaload, 1) := by decide +kernel
theorem dX12_next_135 : decode cX12_next 135 = .ok (.i2l, 1) := by decide +kernel
theorem dX12_next_136 : decode cX12_next 136 = .ok (.putfield 157, 3) := by decide +kernel
theorem dX12_next_139 : decode cX12_next 139 = .ok (.aload_n 0, 1) := by decide +kernel
theorem dX12_next_140 : decode cX12_next 140 = .ok (.dup, 1) := by decide +kernel
theorem dX12_next_141 : decode cX12_next 141 = .ok (.getfield 144, 3) := by decide +kernel
theorem dX12_next_144 : decode cX12_next 144 = .ok (.iconst 1, 1) := by decide +kernel
theorem dX12_next_145 : decode cX12_next 145 = .ok (.iadd, 1) := by decide +kernel
theorem dX12_next_146 : decode cX12_next 146 = .ok (.putfield 144, 3) := by decide +kernel
theorem dX12_next_149 : decode cX12_next 149 = .ok (.aload_n 0, 1) := by decide +kernel
theorem dX12_next_150 : decode cX12_next 150 = .ok (.getfield 167, 3) := by decide +kernel
theorem dX12_next_153 : decode cX12_next 153 = .ok (.iconst 1, 1) := by decide +kernel
theorem dX12_next_154 : decode cX12_next 154 = .ok (.if_icmp .ne 89, 3) := by decide +kernel
theorem dX12_next_157 : decode cX12_next 157 = .ok (.aload_n 0, 1) := by decide +kernel
theorem dX12_next_158 : decode cX12_next 158 = .ok (.getfield 144, 3) := by decide +kernel
theorem dX12_next_161 : decode cX12_next 161 = .ok (.aload_n 0, 1) := by decide +kernel
theorem dX12_next_162 : decode cX12_next 162 = .ok (.getfield 134, 3) := by decide +kernel
theorem dX12_next_165 : decode cX12_next 165 = .ok (.if_icmp .ge 78, 3) := by decide +kernel
theorem dX12_next_168 : decode cX12_next 168 = .ok (.aload_n 0, 1) := by decide +kernel
theorem dX12_next_169 : decode cX12_next 169 = .ok (.getfield 23, 3) := by decide +kernel
theorem dX12_next_172 : decode cX12_next 172 = .ok (.aload_n 0, 1) := by decide +kernel
theorem dX12_next_173 : decode cX12_next 173 = .ok (.getfield 144, 3) := by decide +kernel
theorem dX12_next_176 : decode cX12_next 176 = .ok (.iaload, 1) := by decide +kernel
theorem dX12_next_177 : decode cX12_next 177 = .ok (.invokestatic 161, 3) := by decide +kernel
theorem dX12_next_180 : decode cX12_next 180 = .ok (.ifCond .eq 63, 3) := by decide +kernel
theorem dX12_next_183 : decode cX12_next 183 = .ok (.aload_n 0, 1) := by decide +kernel
theorem dX12_next_184 : decode cX12_next 184 = .ok (.aload_n 0, 1) := by decide +kernel
theorem dX12_next_185 : decode cX12_next 185 = .ok (.getfield 144, 3) := by decide +kernel
theorem dX12_next_188 : decode cX12_next 188 = .ok (.aload_n 0, 1) := by decide +kernel
theorem dX12_next_189 : decode cX12_next 189 = .ok (.getfield 154, 3) := by decide +kernel
theorem dX12_next_192 : decode cX12_next 192 = .ok (.isub, 1) := by decide +kernel
theorem dX12_next_193 : decode cX12_next 193 = .ok (.bipush 10, 2) := by decide +kernel
theorem dX12_next_195 : decode cX12_next 195 = .ok (.if_icmp .ge 29, 3) := by decide +kernel
theorem dX12_next_198 : decode cX12_next 198 = .ok (.aload_n 0, 1) := by decide +kernel
theorem dX12_next_199 : decode cX12_next 199 = .ok (.getfield 157, 3) := by decide +kernel
theorem dX12_next_202 : decode cX12_next 202 = .ok (.ldc2_w 170, 3) := by decide +kernel
theorem dX12_next_205 : decode cX12_next 205 = .ok (.lmul, 1) := by decide +kernel
theorem dX12_next_206 : decode cX12_next 206 = .ok (.aload_n 0, 1) := by decide +kernel
theorem dX12_next_207 : decode cX12_next 207 = .ok (.getfield 23, 3) := by decide +kernel
theorem dX12_next_210 : decode cX12_next 210 = .ok (.aload_n 0, 1) := by decide +kernel
theorem dX12_next_211 : decode cX12_next 211 = .ok (.getfield 144, 3) := by decide +kernel
theorem dX12_next_214 : decode cX12_next 214 = .ok (.iaload, 1) := by decide +kernel
theorem dX12_next_215 : decode cX12_next 215 = .ok (.i2l, 1) := by decide +kernel
theorem dX12_next_216 : decode cX12_next 216 = .ok (.ladd, 1) := by decide +kernel
theorem dX12_next_217 : decode cX12_next 217 = .ok (.ldc2_w 172, 3) := by decide +kernel
theorem dX12_next_220 : decode cX12_next 220 = .ok (.lsub, 1) := by decide +kernel
theorem dX12_next_221 : decode cX12_next 221 = .ok (.goto 6, 3) := by decide +kernel
theorem dX12_next_224 : decode cX12_next 224 = .ok (.ldc2_w 174, 3) := by decide +kernel
theorem dX12_next_227 : decode cX12_next 227 = .ok (.putfield 157, 3) := by decide +kernel
theorem dX12_next_230 : decode cX12_next 230 = .ok (.aload_n 0, 1) := by decide +kernel
theorem dX12_next_231 : decode cX12_next 231 = .ok (.dup, 1) := by decide +kernel
theorem dX12_next_232 : decode cX12_next 232 = .ok (.getfield 144, 3) := by decide +kernel
theorem dX12_next_235 : decode cX12_next 235 = .ok (.iconst 1, 1) := by decide +kernel
theorem dX12_next_236 : decode cX12_next 236 = .ok (.iadd, 1) := by decide +kernel
theorem dX12_next_237 : decode cX12_next 237 = .ok (.putfield 144, 3) := by decide +kernel
theorem dX12_next_240 : decode cX12_next 240 = .ok (.goto (-91), 3) := by decide +kernel
theorem dX12_next_243 : decode cX12_next 243 = .ok (.aload_n 0, 1) := by decide +kernel
theorem dX12_next_244 : decode cX12_next 244 = .ok (.getfield 167, 3) := by decide +kernel
theorem dX12_next_247 : decode cX12_next 247 = .ok (.iconst 2, 1) := by decide +kernel
theorem dX12_next_248 : decode cX12_next 248 = .ok (.if_icmp .ne 87, 3) := by decide +kernel
theorem dX12_next_251 : decode cX12_next 251 = .ok (.aload_n 0, 1) := by decide +kernel
theorem dX12_next_252 : decode cX12_next 252 = .ok (.getfield 144, 3) := by decide +kernel
theorem dX12_next_255 : decode cX12_next 255 = .ok (.aload_n 0, 1) := by decide +kernel
theorem dX12_next_256 : decode cX12_next 256 = .ok (.getfield 134, 3) := by decide +kernel
theorem dX12_next_259 : decode cX12_next 259 = .ok (.if_icmp .ge 76, 3) := by decide +kernel
theorem dX12_next_262 : decode cX12_next 262 = .ok (.aload_n 0, 1) := by decide +kernel
theorem dX12_next_263 : decode cX12_next 263 = .ok (.getfield 23, 3) := by decide +kernel
theorem dX12_next_266 : decode cX12_next 266 = .ok (.aload_n 0, 1) := by decide +kernel
theorem dX12_next_267 : decode cX12_next 267 = .ok (.getfield 144, 3) := by decide +kernel
theorem dX12_next_270 : decode cX12_next 270 = .ok (.iaload, 1) := by decide +kernel
theorem dX12_next_271 : decode cX12_next 271 = .ok (.invokestatic 164, 3) := by decide +kernel
theorem dX12_next_274 : decode cX12_next 274 = .ok (.ifCond .eq 61, 3) := by decide +kernel
theorem dX12_next_277 : decode cX12_next 277 = .ok (.aload_n 0, 1) := by decide +kernel
theorem dX12_next_278 : decode cX12_next 278 = .ok (.aload_n 0, 1) := by decide +kernel
theorem dX12_next_279 : decode cX12_next 279 = .ok (.getfield 157, 3) := by decide +kernel
theorem dX12_next_282 : decode cX12_next 282 = .ok (.ldc2_w 176, 3) := by decide +kernel
theorem dX12_next_285 : decode cX12_next 285 = .ok (.lcmp, 1) := by decide +kernel
theorem dX12_next_286 : decode cX12_next 286 = .ok (.ifCond .le 10, 3) := by decide +kernel
theorem dX12_next_289 : decode cX12_next 289 = .ok (.aload_n 0, 1) := by decide +kernel
theorem dX12_next_290 : decode cX12_next 290 = .ok (.getfield 157, 3) := by decide +kernel
theorem dX12_next_293 : decode cX12_next 293 = .ok (.goto 26, 3) := by decide +kernel
theorem dX12_next_296 : decode cX12_next 296 = .ok (.aload_n 0, 1) := by decide +kernel
theorem dX12_next_297 : decode cX12_next 297 = .ok (.getfield 157, 3) := by decide +kernel
theorem dX12_next_300 : decode cX12_next 300 = .ok (.ldc2_w 178, 3) := by decide +kernel
theorem dX12_next_303 : decode cX12_next 303 = .ok (.lmul, 1) := by decide +kernel
theorem dX12_next_304 : decode cX12_next 304 = .ok (.aload_n 0, 1) := by decide +kernel
theorem dX12_next_305 : decode cX12_next 305 = .ok (.getfield 23, 3) := by decide +kernel
theorem dX12_next_308 : decode cX12_next 308 = .ok (.aload_n 0, 1) := by decide +kernel
theorem dX12_next_309 : decode cX12_next 309 = .ok (.getfield 144, 3) := by decide +kernel
theorem dX12_next_312 : decode cX12_next 312 = .ok (.iaload, 1) := by decide +kernel
theorem dX12_next_313 : decode cX12_next 313 = .ok (.i2l, 1) := by decide +kernel
theorem dX12_next_314 : decode cX12_next 314 = .ok (.ladd, 1) := by decide +kernel
theorem dX12_next_315 : decode cX12_next 315 = .ok (.ldc2_w 180, 3) := by decide +kernel
theorem dX12_next_318 : decode cX12_next 318 = .ok (.lsub, 1) := by decide +kernel
theorem dX12_next_319 : decode cX12_next 319 = .ok (.putfield 157, 3) := by decide +kernel
theorem dX12_next_322 : decode cX12_next 322 = .ok (.aload_n 0, 1) := by decide +kernel
theorem dX12_next_323 : decode cX12_next 323 = .ok (.dup, 1) := by decide +kernel
theorem dX12_next_324 : decode cX12_next 324 = .ok (.getfield 144, 3) := by decide +kernel
theorem dX12_next_327 : decode cX12_next 327 = .ok (.iconst 1, 1) := by decide +kernel
theorem dX12_next_328 : decode cX12_next 328 = .ok (.iadd, 1) := by decide +kernel
theorem dX12_next_329 : decode cX12_next 329 = .ok (.putfield 144, 3) := by decide +kernel
theorem dX12_next_332 : decode cX12_next 332 = .ok (.goto (-89), 3) := by decide +kernel
theorem dX12_next_335 : decode cX12_next 335 = .ok (.return_, 1) := by decide +kernel
theorem dX12_isWord_0 : decode cX12_isWord 0 = .ok (.aload_n 0, 1) := by decide +kernel
theorem dX12_isWord_1 : decode cX12_isWord 1 = .ok (.getfield 167, 3) := by decide +kernel
theorem dX12_isWord_4 : decode cX12_isWord 4 = .ok (.iconst 1, 1) := by decide +kernel
theorem dX12_isWord_5 : decode cX12_isWord 5 = .ok (.if_icmp .ne 16, 3) := by decide +kernel
theorem dX12_isWord_8 : decode cX12_isWord 8 = .ok (.aload_n 0, 1) := by decide +kernel
theorem dX12_isWord_9 : decode cX12_isWord 9 = .ok (.getfield 157, 3) := by decide +kernel
theorem dX12_isWord_12 : decode cX12_isWord 12 = .ok (.lload_n 1, 1) := by decide +kernel
theorem dX12_isWord_13 : decode cX12_isWord 13 = .ok (.lcmp, 1) := by decide +kernel
theorem dX12_isWord_14 : decode cX12_isWord 14 = .ok (.ifCond .ne 7, 3) := by decide +kernel
theorem dX12_isWord_17 : decode cX12_isWord 17 = .ok (.iconst 1, 1) := by decide +kernel
theorem dX12_isWord_18 : decode cX12_isWord 18 = .ok (.goto 4, 3) := by decide +kernel
theorem dX12_isWord_21 : decode cX12_isWord 21 = .ok (.iconst 0, 1) := by decide +kernel
theorem dX12_isWord_22 : decode cX12_isWord 22 = .ok (.ireturn, 1) := by decide +kernel
theorem dX12_isSign_0 : decode cX12_isSign 0 = .ok (.aload_n 0, 1) := by decide +kernel
theorem dX12_isSign_1 : decode cX12_isSign 1 = .ok (.getfield 167, 3) := by decide +kernel
theorem dX12_isSign_4 : decode cX12_isSign 4 = .ok (.iconst 3, 1) := by decide +kernel
theorem dX12_isSign_5 : decode cX12_isSign 5 = .ok (.if_icmp .ne 17, 3) := by decide +kernel
theorem dX12_isSign_8 : decode cX12_isSign 8 = .ok (.aload_n 0, 1) := by decide +kernel
theorem dX12_isSign_9 : decode cX12_isSign 9 = .ok (.getfield 157, 3) := by decide +kernel
theorem dX12_isSign_12 : decode cX12_isSign 12 = .ok (.iload_n 1, 1) := by decide +kernel
theorem dX12_isSign_13 : decode cX12_isSign 13 = .ok (.i2l, 1) := by decide +kernel
theorem dX12_isSign_14 : decode cX12_isSign 14 = .ok (.lcmp, 1) := by decide +kernel
theorem dX12_isSign_15 : decode cX12_isSign 15 = .ok (.ifCond .ne 7, 3) := by decide +kernel
theorem dX12_isSign_18 : decode cX12_isSign 18 = .ok (.iconst 1, 1) := by decide +kernel
theorem dX12_isSign_19 : decode cX12_isSign 19 = .ok (.goto 4, 3) := by decide +kernel
theorem dX12_isSign_22 : decode cX12_isSign 22 = .ok (.iconst 0, 1) := by decide +kernel
theorem dX12_isSign_23 : decode cX12_isSign 23 = .ok (.ireturn, 1) := by decide +kernel
theorem dX12_must_0 : decode cX12_must 0 = .ok (.aload_n 0, 1) := by decide +kernel
theorem dX12_must_1 : decode cX12_must 1 = .ok (.getfield 147, 3) := by decide +kernel
theorem dX12_must_4 : decode cX12_must 4 = .ok (.ifCond .ne 20, 3) := by decide +kernel
theorem dX12_must_7 : decode cX12_must 7 = .ok (.iload_n 1, 1) := by decide +kernel
theorem dX12_must_8 : decode cX12_must 8 = .ok (.ifCond .ne 16, 3) := by decide +kernel
theorem dX12_must_11 : decode cX12_must 11 = .ok (.aload_n 0, 1) := by decide +kernel
theorem dX12_must_12 : decode cX12_must 12 = .ok (.iconst 1, 1) := by decide +kernel
theorem dX12_must_13 : decode cX12_must 13 = .ok (.putfield 147, 3) := by decide +kernel
theorem dX12_must_16 : decode cX12_must 16 = .ok (.aload_n 0, 1) := by decide +kernel
theorem dX12_must_17 : decode cX12_must 17 = .ok (.aload_n 0, 1) := by decide +kernel
theorem dX12_must_18 : decode cX12_must 18 = .ok (.getfield 154, 3) := by decide +kernel
theorem dX12_must_21 : decode cX12_must 21 = .ok (.putfield 26, 3) := by decide +kernel
theorem dX12_must_24 : decode cX12_must 24 = .ok (.aload_n 0, 1) := by decide +kernel
theorem dX12_must_25 : decode cX12_must 25 = .ok (.getfield 147, 3) := by decide +kernel
theorem dX12_must_28 : decode cX12_must 28 = .ok (.ifCond .ne 7, 3) := by decide +kernel
theorem dX12_must_31 : decode cX12_must 31 = .ok (.aload_n 0, 1) := by decide +kernel
theorem dX12_must_32 : decode cX12_must 32 = .ok (.invokevirtual 151, 3) := by decide +kernel
theorem dX12_must_35 : decode cX12_must 35 = .ok (.return_, 1) := by decide +kernel
theorem dX12_fault_0 : decode cX12_fault 0 = .ok (.aload_n 0, 1) := by decide +kernel
theorem dX12_fault_1 : decode cX12_fault 1 = .ok (.iconst 0, 1) := by decide +kernel
theorem dX12_fault_2 : decode cX12_fault 2 = .ok (.putfield 76, 3) := by decide +kernel
theorem dX12_fault_5 : decode cX12_fault 5 = .ok (.aload_n 0, 1) := by decide +kernel
theorem dX12_fault_6 : decode cX12_fault 6 = .ok (.getfield 26, 3) := by decide +kernel
theorem dX12_fault_9 : decode cX12_fault 9 = .ok (.ireturn, 1) := by decide +kernel
theorem dX12_emit_0 : decode cX12_emit 0 = .ok (.aload_n 0, 1) := by decide +kernel
theorem dX12_emit_1 : decode cX12_emit 1 = .ok (.getfield 33, 3) := by decide +kernel
theorem dX12_emit_4 : decode cX12_emit 4 = .ok (.aload_n 0, 1) := by decide +kernel
theorem dX12_emit_5 : decode cX12_emit 5 = .ok (.getfield 186, 3) := by decide +kernel
theorem dX12_emit_8 : decode cX12_emit 8 = .ok (.iload_n 1, 1) := by decide +kernel
theorem dX12_emit_9 : decode cX12_emit 9 = .ok (.iastore, 1) := by decide +kernel
theorem dX12_emit_10 : decode cX12_emit 10 = .ok (.aload_n 0, 1) := by decide +kernel
theorem dX12_emit_11 : decode cX12_emit 11 = .ok (.getfield 36, 3) := by decide +kernel
theorem dX12_emit_14 : decode cX12_emit 14 = .ok (.aload_n 0, 1) := by decide +kernel
theorem dX12_emit_15 : decode cX12_emit 15 = .ok (.getfield 186, 3) := by decide +kernel
theorem dX12_emit_18 : decode cX12_emit 18 = .ok (.iload_n 2, 1) := by decide +kernel
theorem dX12_emit_19 : decode cX12_emit 19 = .ok (.iastore, 1) := by decide +kernel
theorem dX12_emit_20 : decode cX12_emit 20 = .ok (.aload_n 0, 1) := by decide +kernel
theorem dX12_emit_21 : decode cX12_emit 21 = .ok (.dup, 1) := by decide +kernel
theorem dX12_emit_22 : decode cX12_emit 22 = .ok (.getfield 186, 3) := by decide +kernel
theorem dX12_emit_25 : decode cX12_emit 25 = .ok (.iconst 1, 1) := by decide +kernel
theorem dX12_emit_26 : decode cX12_emit 26 = .ok (.iadd, 1) := by decide +kernel
theorem dX12_emit_27 : decode cX12_emit 27 = .ok (.putfield 186, 3) := by decide +kernel
theorem dX12_emit_30 : decode cX12_emit 30 = .ok (.return_, 1) := by decide +kernel
theorem dX12_push_0 : decode cX12_push 0 = .ok (.aload_n 0, 1) := by decide +kernel
theorem dX12_push_1 : decode cX12_push 1 = .ok (.getfield 39, 3) := by decide +kernel
theorem dX12_push_4 : decode cX12_push 4 = .ok (.aload_n 0, 1) := by decide +kernel
theorem dX12_push_5 : decode cX12_push 5 = .ok (.getfield 189, 3) := by decide +kernel
theorem dX12_push_8 : decode cX12_push 8 = .ok (.iload_n 1, 1) := by decide +kernel
theorem dX12_push_9 : decode cX12_push 9 = .ok (.iastore, 1) := by decide +kernel
theorem dX12_push_10 : decode cX12_push 10 = .ok (.aload_n 0, 1) := by decide +kernel
theorem dX12_push_11 : decode cX12_push 11 = .ok (.getfield 42, 3) := by decide +kernel
theorem dX12_push_14 : decode cX12_push 14 = .ok (.aload_n 0, 1) := by decide +kernel
theorem dX12_push_15 : decode cX12_push 15 = .ok (.getfield 189, 3) := by decide +kernel
theorem dX12_push_18 : decode cX12_push 18 = .ok (.iload_n 2, 1) := by decide +kernel
theorem dX12_push_19 : decode cX12_push 19 = .ok (.iastore, 1) := by decide +kernel
theorem dX12_push_20 : decode cX12_push 20 = .ok (.aload_n 0, 1) := by decide +kernel
theorem dX12_push_21 : decode cX12_push 21 = .ok (.dup, 1) := by decide +kernel
theorem dX12_push_22 : decode cX12_push 22 = .ok (.getfield 189, 3) := by decide +kernel
theorem dX12_push_25 : decode cX12_push 25 = .ok (.iconst 1, 1) := by decide +kernel
theorem dX12_push_26 : decode cX12_push 26 = .ok (.iadd, 1) := by decide +kernel
theorem dX12_push_27 : decode cX12_push 27 = .ok (.putfield 189, 3) := by decide +kernel
theorem dX12_push_30 : decode cX12_push 30 = .ok (.return_, 1) := by decide +kernel
theorem dX12_binds_0 : decode cX12_binds 0 = .ok (.iload_n 0, 1) := by decide +kernel
theorem dX12_binds_1 : decode cX12_binds 1 = .ok (.bipush 30, 2) := by decide +kernel
theorem dX12_binds_3 : decode cX12_binds 3 = .ok (.if_icmp .lt 7, 3) := by decide +kernel
theorem dX12_binds_6 : decode cX12_binds 6 = .ok (.iconst 0, 1) := by decide +kernel
theorem dX12_binds_7 : decode cX12_binds 7 = .ok (.goto 55, 3) := by decide +kernel
theorem dX12_binds_10 : decode cX12_binds 10 = .ok (.iload_n 0, 1) := by decide +kernel
theorem dX12_binds_11 : decode cX12_binds 11 = .ok (.bipush 29, 2) := by decide +kernel
theorem dX12_binds_13 : decode cX12_binds 13 = .ok (.if_icmp .ne 7, 3) := by decide +kernel
theorem dX12_binds_16 : decode cX12_binds 16 = .ok (.iconst 1, 1) := by decide +kernel
theorem dX12_binds_17 : decode cX12_binds 17 = .ok (.goto 45, 3) := by decide +kernel
theorem dX12_binds_20 : decode cX12_binds 20 = .ok (.iload_n 0, 1) := by decide +kernel
theorem dX12_binds_21 : decode cX12_binds 21 = .ok (.bipush 28, 2) := by decide +kernel
theorem dX12_binds_23 : decode cX12_binds 23 = .ok (.if_icmp .ne 7, 3) := by decide +kernel
theorem dX12_binds_26 : decode cX12_binds 26 = .ok (.iconst 2, 1) := by decide +kernel
theorem dX12_binds_27 : decode cX12_binds 27 = .ok (.goto 35, 3) := by decide +kernel
theorem dX12_binds_30 : decode cX12_binds 30 = .ok (.iload_n 0, 1) := by decide +kernel
theorem dX12_binds_31 : decode cX12_binds 31 = .ok (.bipush 27, 2) := by decide +kernel
theorem dX12_binds_33 : decode cX12_binds 33 = .ok (.if_icmp .ne 7, 3) := by decide +kernel
theorem dX12_binds_36 : decode cX12_binds 36 = .ok (.iconst 3, 1) := by decide +kernel
theorem dX12_binds_37 : decode cX12_binds 37 = .ok (.goto 25, 3) := by decide +kernel
theorem dX12_binds_40 : decode cX12_binds 40 = .ok (.iload_n 0, 1) := by decide +kernel
theorem dX12_binds_41 : decode cX12_binds 41 = .ok (.bipush 24, 2) := by decide +kernel
theorem dX12_binds_43 : decode cX12_binds 43 = .ok (.if_icmp .lt 7, 3) := by decide +kernel
theorem dX12_binds_46 : decode cX12_binds 46 = .ok (.iconst 4, 1) := by decide +kernel
theorem dX12_binds_47 : decode cX12_binds 47 = .ok (.goto 15, 3) := by decide +kernel
theorem dX12_binds_50 : decode cX12_binds 50 = .ok (.iload_n 0, 1) := by decide +kernel
theorem dX12_binds_51 : decode cX12_binds 51 = .ok (.bipush 22, 2) := by decide +kernel
theorem dX12_binds_53 : decode cX12_binds 53 = .ok (.if_icmp .lt 8, 3) := by decide +kernel
theorem dX12_binds_56 : decode cX12_binds 56 = .ok (.bipush 6, 2) := by decide +kernel
theorem dX12_binds_58 : decode cX12_binds 58 = .ok (.goto 4, 3) := by decide +kernel
theorem dX12_binds_61 : decode cX12_binds 61 = .ok (.iconst 5, 1) := by decide +kernel
theorem dX12_binds_62 : decode cX12_binds 62 = .ok (.ireturn, 1) := by decide +kernel
theorem dX12_settle_0 : decode cX12_settle 0 = .ok (.aload_n 0, 1) := by decide +kernel
theorem dX12_settle_1 : decode cX12_settle 1 = .ok (.getfield 189, 3) := by decide +kernel
theorem dX12_settle_4 : decode cX12_settle 4 = .ok (.ifCond .le 97, 3) := by decide +kernel
theorem dX12_settle_7 : decode cX12_settle 7 = .ok (.aload_n 0, 1) := by decide +kernel
theorem dX12_settle_8 : decode cX12_settle 8 = .ok (.getfield 39, 3) := by decide +kernel
theorem dX12_settle_11 : decode cX12_settle 11 = .ok (.aload_n 0, 1) := by decide +kernel
theorem dX12_settle_12 : decode cX12_settle 12 = .ok (.getfield 189, 3) := by decide +kernel
theorem dX12_settle_15 : decode cX12_settle 15 = .ok (.iconst 1, 1) := by decide +kernel
theorem dX12_settle_16 : decode cX12_settle 16 = .ok (.isub, 1) := by decide +kernel
theorem dX12_settle_17 : decode cX12_settle 17 = .ok (.iaload, 1) := by decide +kernel
theorem dX12_settle_18 : decode cX12_settle 18 = .ok (.invokestatic 192, 3) := by decide +kernel
theorem dX12_settle_21 : decode cX12_settle 21 = .ok (.iload_n 1, 1) := by decide +kernel
theorem dX12_settle_22 : decode cX12_settle 22 = .ok (.if_icmp .lt 79, 3) := by decide +kernel
theorem dX12_settle_25 : decode cX12_settle 25 = .ok (.aload_n 0, 1) := by decide +kernel
theorem dX12_settle_26 : decode cX12_settle 26 = .ok (.dup, 1) := by decide +kernel
theorem dX12_settle_27 : decode cX12_settle 27 = .ok (.getfield 189, 3) := by decide +kernel
theorem dX12_settle_30 : decode cX12_settle 30 = .ok (.iconst 1, 1) := by decide +kernel
theorem dX12_settle_31 : decode cX12_settle 31 = .ok (.isub, 1) := by decide +kernel
theorem dX12_settle_32 : decode cX12_settle 32 = .ok (.putfield 189, 3) := by decide +kernel
theorem dX12_settle_35 : decode cX12_settle 35 = .ok (.aload_n 0, 1) := by decide +kernel
theorem dX12_settle_36 : decode cX12_settle 36 = .ok (.getfield 39, 3) := by decide +kernel
theorem dX12_settle_39 : decode cX12_settle 39 = .ok (.aload_n 0, 1) := by decide +kernel
theorem dX12_settle_40 : decode cX12_settle 40 = .ok (.getfield 189, 3) := by decide +kernel
theorem dX12_settle_43 : decode cX12_settle 43 = .ok (.iaload, 1) := by decide +kernel
theorem dX12_settle_44 : decode cX12_settle 44 = .ok (.bipush 28, 2) := by decide +kernel
theorem dX12_settle_46 : decode cX12_settle 46 = .ok (.if_icmp .eq 17, 3) := by decide +kernel
theorem dX12_settle_49 : decode cX12_settle 49 = .ok (.aload_n 0, 1) := by decide +kernel
theorem dX12_settle_50 : decode cX12_settle 50 = .ok (.getfield 39, 3) := by decide +kernel
theorem dX12_settle_53 : decode cX12_settle 53 = .ok (.aload_n 0, 1) := by decide +kernel
theorem dX12_settle_54 : decode cX12_settle 54 = .ok (.getfield 189, 3) := by decide +kernel
theorem dX12_settle_57 : decode cX12_settle 57 = .ok (.iaload, 1) := by decide +kernel
theorem dX12_settle_58 : decode cX12_settle 58 = .ok (.bipush 29, 2) := by decide +kernel
theorem dX12_settle_60 : decode cX12_settle 60 = .ok (.if_icmp .ne 24, 3) := by decide +kernel
theorem dX12_settle_63 : decode cX12_settle 63 = .ok (.aload_n 0, 1) := by decide +kernel
theorem dX12_settle_64 : decode cX12_settle 64 = .ok (.getfield 36, 3) := by decide +kernel
theorem dX12_settle_67 : decode cX12_settle 67 = .ok (.aload_n 0, 1) := by decide +kernel
theorem dX12_settle_68 : decode cX12_settle 68 = .ok (.getfield 42, 3) := by decide +kernel
theorem dX12_settle_71 : decode cX12_settle 71 = .ok (.aload_n 0, 1) := by decide +kernel
theorem dX12_settle_72 : decode cX12_settle 72 = .ok (.getfield 189, 3) := by decide +kernel
theorem dX12_settle_75 : decode cX12_settle 75 = .ok (.iaload, 1) := by decide +kernel
theorem dX12_settle_76 : decode cX12_settle 76 = .ok (.aload_n 0, 1) := by decide +kernel
theorem dX12_settle_77 : decode cX12_settle 77 = .ok (.getfield 186, 3) := by decide +kernel
theorem dX12_settle_80 : decode cX12_settle 80 = .ok (.iastore, 1) := by decide +kernel
theorem dX12_settle_81 : decode cX12_settle 81 = .ok (.goto (-81), 3) := by decide +kernel
theorem dX12_settle_84 : decode cX12_settle 84 = .ok (.aload_n 0, 1) := by decide +kernel
theorem dX12_settle_85 : decode cX12_settle 85 = .ok (.aload_n 0, 1) := by decide +kernel
theorem dX12_settle_86 : decode cX12_settle 86 = .ok (.getfield 39, 3) := by decide +kernel
theorem dX12_settle_89 : decode cX12_settle 89 = .ok (.aload_n 0, 1) := by decide +kernel
theorem dX12_settle_90 : decode cX12_settle 90 = .ok (.getfield 189, 3) := by decide +kernel
theorem dX12_settle_93 : decode cX12_settle 93 = .ok (.iaload, 1) := by decide +kernel
theorem dX12_settle_94 : decode cX12_settle 94 = .ok (.iconst 0, 1) := by decide +kernel
theorem dX12_settle_95 : decode cX12_settle 95 = .ok (.invokevirtual 195, 3) := by decide +kernel
theorem dX12_settle_98 : decode cX12_settle 98 = .ok (.goto (-98), 3) := by decide +kernel
theorem dX12_settle_101 : decode cX12_settle 101 = .ok (.return_, 1) := by decide +kernel
theorem dX12_inner_0 : decode cX12_inner 0 = .ok (.iconst (-1), 1) := by decide +kernel
theorem dX12_inner_1 : decode cX12_inner 1 = .ok (.istore_n 1, 1) := by decide +kernel
theorem dX12_inner_2 : decode cX12_inner 2 = .ok (.iconst 0, 1) := by decide +kernel
theorem dX12_inner_3 : decode cX12_inner 3 = .ok (.istore_n 2, 1) := by decide +kernel
theorem dX12_inner_4 : decode cX12_inner 4 = .ok (.iload_n 2, 1) := by decide +kernel
theorem dX12_inner_5 : decode cX12_inner 5 = .ok (.aload_n 0, 1) := by decide +kernel
theorem dX12_inner_6 : decode cX12_inner 6 = .ok (.getfield 189, 3) := by decide +kernel
theorem dX12_inner_9 : decode cX12_inner 9 = .ok (.if_icmp .ge 31, 3) := by decide +kernel
theorem dX12_inner_12 : decode cX12_inner 12 = .ok (.aload_n 0, 1) := by decide +kernel
theorem dX12_inner_13 : decode cX12_inner 13 = .ok (.getfield 39, 3) := by decide +kernel
theorem dX12_inner_16 : decode cX12_inner 16 = .ok (.iload_n 2, 1) := by decide +kernel
theorem dX12_inner_17 : decode cX12_inner 17 = .ok (.iaload, 1) := by decide +kernel
theorem dX12_inner_18 : decode cX12_inner 18 = .ok (.bipush 30, 2) := by decide +kernel
theorem dX12_inner_20 : decode cX12_inner 20 = .ok (.if_icmp .lt 12, 3) := by decide +kernel
theorem dX12_inner_23 : decode cX12_inner 23 = .ok (.aload_n 0, 1) := by decide +kernel
theorem dX12_inner_24 : decode cX12_inner 24 = .ok (.getfield 39, 3) := by decide +kernel
theorem dX12_inner_27 : decode cX12_inner 27 = .ok (.iload_n 2, 1) := by decide +kernel
theorem dX12_inner_28 : decode cX12_inner 28 = .ok (.iaload, 1) := by decide +kernel
theorem dX12_inner_29 : decode cX12_inner 29 = .ok (.goto 4, 3) := by decide +kernel
theorem dX12_inner_32 : decode cX12_inner 32 = .ok (.iload_n 1, 1) := by decide +kernel
theorem dX12_inner_33 : decode cX12_inner 33 = .ok (.istore_n 1, 1) := by decide +kernel
theorem dX12_inner_34 : decode cX12_inner 34 = .ok (.iinc 2 1, 3) := by decide +kernel
theorem dX12_inner_37 : decode cX12_inner 37 = .ok (.goto (-33), 3) := by decide +kernel
theorem dX12_inner_40 : decode cX12_inner 40 = .ok (.iload_n 1, 1) := by decide +kernel
theorem dX12_inner_41 : decode cX12_inner 41 = .ok (.ireturn, 1) := by decide +kernel
theorem dX12_isCompared_0 : decode cX12_isCompared 0 = .ok (.aload_n 0, 1) := by decide +kernel
theorem dX12_isCompared_1 : decode cX12_isCompared 1 = .ok (.getfield 189, 3) := by decide +kernel
theorem dX12_isCompared_4 : decode cX12_isCompared 4 = .ok (.iconst 1, 1) := by decide +kernel
theorem dX12_isCompared_5 : decode cX12_isCompared 5 = .ok (.isub, 1) := by decide +kernel
theorem dX12_isCompared_6 : decode cX12_isCompared 6 = .ok (.istore_n 1, 1) := by decide +kernel
theorem dX12_isCompared_7 : decode cX12_isCompared 7 = .ok (.iload_n 1, 1) := by decide +kernel
theorem dX12_isCompared_8 : decode cX12_isCompared 8 = .ok (.ifCond .lt 28, 3) := by decide +kernel
theorem dX12_isCompared_11 : decode cX12_isCompared 11 = .ok (.aload_n 0, 1) := by decide +kernel
theorem dX12_isCompared_12 : decode cX12_isCompared 12 = .ok (.getfield 39, 3) := by decide +kernel
theorem dX12_isCompared_15 : decode cX12_isCompared 15 = .ok (.iload_n 1, 1) := by decide +kernel
theorem dX12_isCompared_16 : decode cX12_isCompared 16 = .ok (.iaload, 1) := by decide +kernel
theorem dX12_isCompared_17 : decode cX12_isCompared 17 = .ok (.i2l, 1) := by decide +kernel
theorem dX12_isCompared_18 : decode cX12_isCompared 18 = .ok (.ldc2_w 199, 3) := by decide +kernel
theorem dX12_isCompared_21 : decode cX12_isCompared 21 = .ok (.ldc2_w 94, 3) := by decide +kernel
theorem dX12_isCompared_24 : decode cX12_isCompared 24 = .ok (.invokestatic 82, 3) := by decide +kernel
theorem dX12_isCompared_27 : decode cX12_isCompared 27 = .ok (.ifCond .eq 9, 3) := by decide +kernel
theorem dX12_isCompared_30 : decode cX12_isCompared 30 = .ok (.iinc 1 (-1), 3) := by decide +kernel
theorem dX12_isCompared_33 : decode cX12_isCompared 33 = .ok (.goto (-26), 3) := by decide +kernel
theorem dX12_isCompared_36 : decode cX12_isCompared 36 = .ok (.iload_n 1, 1) := by decide +kernel
theorem dX12_isCompared_37 : decode cX12_isCompared 37 = .ok (.ifCond .lt 26, 3) := by decide +kernel
theorem dX12_isCompared_40 : decode cX12_isCompared 40 = .ok (.aload_n 0, 1) := by decide +kernel
theorem dX12_isCompared_41 : decode cX12_isCompared 41 = .ok (.getfield 39, 3) := by decide +kernel
theorem dX12_isCompared_44 : decode cX12_isCompared 44 = .ok (.iload_n 1, 1) := by decide +kernel
theorem dX12_isCompared_45 : decode cX12_isCompared 45 = .ok (.iaload, 1) := by decide +kernel
theorem dX12_isCompared_46 : decode cX12_isCompared 46 = .ok (.i2l, 1) := by decide +kernel
theorem dX12_isCompared_47 : decode cX12_isCompared 47 = .ok (.ldc2_w 107, 3) := by decide +kernel
theorem dX12_isCompared_50 : decode cX12_isCompared 50 = .ok (.ldc2_w 201, 3) := by decide +kernel
theorem dX12_isCompared_53 : decode cX12_isCompared 53 = .ok (.invokestatic 82, 3) := by decide +kernel
theorem dX12_isCompared_56 : decode cX12_isCompared 56 = .ok (.ifCond .eq 7, 3) := by decide +kernel
theorem dX12_isCompared_59 : decode cX12_isCompared 59 = .ok (.iconst 1, 1) := by decide +kernel
theorem dX12_isCompared_60 : decode cX12_isCompared 60 = .ok (.goto 4, 3) := by decide +kernel
theorem dX12_isCompared_63 : decode cX12_isCompared 63 = .ok (.iconst 0, 1) := by decide +kernel
theorem dX12_isCompared_64 : decode cX12_isCompared 64 = .ok (.ireturn, 1) := by decide +kernel
theorem dX12_partAt_0 : decode cX12_partAt 0 = .ok (.aload_n 0, 1) := by decide +kernel
theorem dX12_partAt_1 : decode cX12_partAt 1 = .ok (.ldc2_w 203, 3) := by decide +kernel
theorem dX12_partAt_4 : decode cX12_partAt 4 = .ok (.invokevirtual 205, 3) := by decide +kernel
theorem dX12_partAt_7 : decode cX12_partAt 7 = .ok (.ifCond .ne 23, 3) := by decide +kernel
theorem dX12_partAt_10 : decode cX12_partAt 10 = .ok (.aload_n 0, 1) := by decide +kernel
theorem dX12_partAt_11 : decode cX12_partAt 11 = .ok (.ldc2_w 209, 3) := by decide +kernel
theorem dX12_partAt_14 : decode cX12_partAt 14 = .ok (.invokevirtual 205, 3) := by decide +kernel
theorem dX12_partAt_17 : decode cX12_partAt 17 = .ok (.ifCond .ne 13, 3) := by decide +kernel
theorem dX12_partAt_20 : decode cX12_partAt 20 = .ok (.aload_n 0, 1) := by decide +kernel
theorem dX12_partAt_21 : decode cX12_partAt 21 = .ok (.ldc2_w 211, 3) := by decide +kernel
theorem dX12_partAt_24 : decode cX12_partAt 24 = .ok (.invokevirtual 205, 3) := by decide +kernel
theorem dX12_partAt_27 : decode cX12_partAt 27 = .ok (.ifCond .eq 33, 3) := by decide +kernel
theorem dX12_partAt_30 : decode cX12_partAt 30 = .ok (.aload_n 0, 1) := by decide +kernel
theorem dX12_partAt_31 : decode cX12_partAt 31 = .ok (.ldc2_w 203, 3) := by decide +kernel
theorem dX12_partAt_34 : decode cX12_partAt 34 = .ok (.invokevirtual 205, 3) := by decide +kernel
theorem dX12_partAt_37 : decode cX12_partAt 37 = .ok (.ifCond .eq 7, 3) := by decide +kernel
theorem dX12_partAt_40 : decode cX12_partAt 40 = .ok (.iconst 1, 1) := by decide +kernel
theorem dX12_partAt_41 : decode cX12_partAt 41 = .ok (.goto 18, 3) := by decide +kernel
theorem dX12_partAt_44 : decode cX12_partAt 44 = .ok (.aload_n 0, 1) := by decide +kernel
theorem dX12_partAt_45 : decode cX12_partAt 45 = .ok (.ldc2_w 209, 3) := by decide +kernel
theorem dX12_partAt_48 : decode cX12_partAt 48 = .ok (.invokevirtual 205, 3) := by decide +kernel
theorem dX12_partAt_51 : decode cX12_partAt 51 = .ok (.ifCond .eq 7, 3) := by decide +kernel
theorem dX12_partAt_54 : decode cX12_partAt 54 = .ok (.iconst 2, 1) := by decide +kernel
theorem dX12_partAt_55 : decode cX12_partAt 55 = .ok (.goto 4, 3) := by decide +kernel
theorem dX12_partAt_58 : decode cX12_partAt 58 = .ok (.iconst 3, 1) := by decide +kernel
theorem dX12_partAt_59 : decode cX12_partAt 59 = .ok (.ireturn, 1) := by decide +kernel
theorem dX12_partAt_60 : decode cX12_partAt 60 = .ok (.aload_n 0, 1) := by decide +kernel
theorem dX12_partAt_61 : decode cX12_partAt 61 = .ok (.ldc2_w 213, 3) := by decide +kernel
theorem dX12_partAt_64 : decode cX12_partAt 64 = .ok (.invokevirtual 205, 3) := by decide +kernel
theorem dX12_partAt_67 : decode cX12_partAt 67 = .ok (.ifCond .ne 23, 3) := by decide +kernel
theorem dX12_partAt_70 : decode cX12_partAt 70 = .ok (.aload_n 0, 1) := by decide +kernel
theorem dX12_partAt_71 : decode cX12_partAt 71 = .ok (.ldc2_w 215, 3) := by decide +kernel
theorem dX12_partAt_74 : decode cX12_partAt 74 = .ok (.invokevirtual 205, 3) := by decide +kernel
theorem dX12_partAt_77 : decode cX12_partAt 77 = .ok (.ifCond .ne 13, 3) := by decide +kernel
theorem dX12_partAt_80 : decode cX12_partAt 80 = .ok (.aload_n 0, 1) := by decide +kernel
theorem dX12_partAt_81 : decode cX12_partAt 81 = .ok (.ldc2_w 217, 3) := by decide +kernel
theorem dX12_partAt_84 : decode cX12_partAt 84 = .ok (.invokevirtual 205, 3) := by decide +kernel
theorem dX12_partAt_87 : decode cX12_partAt 87 = .ok (.ifCond .eq 34, 3) := by decide +kernel
theorem dX12_partAt_90 : decode cX12_partAt 90 = .ok (.aload_n 0, 1) := by decide +kernel
theorem dX12_partAt_91 : decode cX12_partAt 91 = .ok (.ldc2_w 213, 3) := by decide +kernel
theorem dX12_partAt_94 : decode cX12_partAt 94 = .ok (.invokevirtual 205, 3) := by decide +kernel
theorem dX12_partAt_97 : decode cX12_partAt 97 = .ok (.ifCond .eq 7, 3) := by decide +kernel
theorem dX12_partAt_100 : decode cX12_partAt 100 = .ok (.iconst 4, 1) := by decide +kernel
theorem dX12_partAt_101 : decode cX12_partAt 101 = .ok (.goto 19, 3) := by decide +kernel
theorem dX12_partAt_104 : decode cX12_partAt 104 = .ok (.aload_n 0, 1) := by decide +kernel
theorem dX12_partAt_105 : decode cX12_partAt 105 = .ok (.ldc2_w 215, 3) := by decide +kernel
theorem dX12_partAt_108 : decode cX12_partAt 108 = .ok (.invokevirtual 205, 3) := by decide +kernel
theorem dX12_partAt_111 : decode cX12_partAt 111 = .ok (.ifCond .eq 7, 3) := by decide +kernel
theorem dX12_partAt_114 : decode cX12_partAt 114 = .ok (.iconst 5, 1) := by decide +kernel
theorem dX12_partAt_115 : decode cX12_partAt 115 = .ok (.goto 5, 3) := by decide +kernel
theorem dX12_partAt_118 : decode cX12_partAt 118 = .ok (.bipush 6, 2) := by decide +kernel
theorem dX12_partAt_120 : decode cX12_partAt 120 = .ok (.ireturn, 1) := by decide +kernel
theorem dX12_partAt_121 : decode cX12_partAt 121 = .ok (.aload_n 0, 1) := by decide +kernel
theorem dX12_partAt_122 : decode cX12_partAt 122 = .ok (.ldc2_w 219, 3) := by decide +kernel
theorem dX12_partAt_125 : decode cX12_partAt 125 = .ok (.invokevirtual 205, 3) := by decide +kernel
theorem dX12_partAt_128 : decode cX12_partAt 128 = .ok (.ifCond .eq 8, 3) := by decide +kernel
theorem dX12_partAt_131 : decode cX12_partAt 131 = .ok (.bipush 7, 2) := by decide +kernel
theorem dX12_partAt_133 : decode cX12_partAt 133 = .ok (.goto 34, 3) := by decide +kernel
theorem dX12_partAt_136 : decode cX12_partAt 136 = .ok (.aload_n 0, 1) := by decide +kernel
theorem dX12_partAt_137 : decode cX12_partAt 137 = .ok (.ldc2_w 221, 3) := by decide +kernel
theorem dX12_partAt_140 : decode cX12_partAt 140 = .ok (.invokevirtual 205, 3) := by decide +kernel
theorem dX12_partAt_143 : decode cX12_partAt 143 = .ok (.ifCond .eq 8, 3) := by decide +kernel
theorem dX12_partAt_146 : decode cX12_partAt 146 = .ok (.bipush 8, 2) := by decide +kernel
theorem dX12_partAt_148 : decode cX12_partAt 148 = .ok (.goto 19, 3) := by decide +kernel
theorem dX12_partAt_151 : decode cX12_partAt 151 = .ok (.aload_n 0, 1) := by decide +kernel
theorem dX12_partAt_152 : decode cX12_partAt 152 = .ok (.ldc2_w 223, 3) := by decide +kernel
theorem dX12_partAt_155 : decode cX12_partAt 155 = .ok (.invokevirtual 205, 3) := by decide +kernel
theorem dX12_partAt_158 : decode cX12_partAt 158 = .ok (.ifCond .eq 8, 3) := by decide +kernel
theorem dX12_partAt_161 : decode cX12_partAt 161 = .ok (.bipush 9, 2) := by decide +kernel
theorem dX12_partAt_163 : decode cX12_partAt 163 = .ok (.goto 4, 3) := by decide +kernel
theorem dX12_partAt_166 : decode cX12_partAt 166 = .ok (.iconst (-1), 1) := by decide +kernel
theorem dX12_partAt_167 : decode cX12_partAt 167 = .ok (.ireturn, 1) := by decide +kernel
theorem dX12_openBracket_0 : decode cX12_openBracket 0 = .ok (.aload_n 0, 1) := by decide +kernel
theorem dX12_openBracket_1 : decode cX12_openBracket 1 = .ok (.aload_n 0, 1) := by decide +kernel
theorem dX12_openBracket_2 : decode cX12_openBracket 2 = .ok (.getfield 225, 3) := by decide +kernel
theorem dX12_openBracket_5 : decode cX12_openBracket 5 = .ok (.bipush 8, 2) := by decide +kernel
theorem dX12_openBracket_7 : decode cX12_openBracket 7 = .ok (.if_icmp .ge 7, 3) := by decide +kernel
theorem dX12_openBracket_10 : decode cX12_openBracket 10 = .ok (.iconst 1, 1) := by decide +kernel
theorem dX12_openBracket_11 : decode cX12_openBracket 11 = .ok (.goto 4, 3) := by decide +kernel
theorem dX12_openBracket_14 : decode cX12_openBracket 14 = .ok (.iconst 0, 1) := by decide +kernel
theorem dX12_openBracket_15 : decode cX12_openBracket 15 = .ok (.invokevirtual 182, 3) := by decide +kernel
theorem dX12_openBracket_18 : decode cX12_openBracket 18 = .ok (.aload_n 0, 1) := by decide +kernel
theorem dX12_openBracket_19 : decode cX12_openBracket 19 = .ok (.getfield 147, 3) := by decide +kernel
theorem dX12_openBracket_22 : decode cX12_openBracket 22 = .ok (.ifCond .ne 19, 3) := by decide +kernel
theorem dX12_openBracket_25 : decode cX12_openBracket 25 = .ok (.aload_n 0, 1) := by decide +kernel
theorem dX12_openBracket_26 : decode cX12_openBracket 26 = .ok (.dup, 1) := by decide +kernel
theorem dX12_openBracket_27 : decode cX12_openBracket 27 = .ok (.getfield 225, 3) := by decide +kernel
theorem dX12_openBracket_30 : decode cX12_openBracket 30 = .ok (.iconst 1, 1) := by decide +kernel
theorem dX12_openBracket_31 : decode cX12_openBracket 31 = .ok (.iadd, 1) := by decide +kernel
theorem dX12_openBracket_32 : decode cX12_openBracket 32 = .ok (.putfield 225, 3) := by decide +kernel
theorem dX12_openBracket_35 : decode cX12_openBracket 35 = .ok (.aload_n 0, 1) := by decide +kernel
theorem dX12_openBracket_36 : decode cX12_openBracket 36 = .ok (.iload_n 1, 1) := by decide +kernel
theorem dX12_openBracket_37 : decode cX12_openBracket 37 = .ok (.iconst 0, 1) := by decide +kernel
theorem dX12_openBracket_38 : decode cX12_openBracket 38 = .ok (.invokevirtual 228, 3) := by decide +kernel
theorem dX12_openBracket_41 : decode cX12_openBracket 41 = .ok (.return_, 1) := by decide +kernel
theorem dX12_leaf_0 : decode cX12_leaf 0 = .ok (.aload_n 0, 1) := by decide +kernel
theorem dX12_leaf_1 : decode cX12_leaf 1 = .ok (.iload_n 1, 1) := by decide +kernel
theorem dX12_leaf_2 : decode cX12_leaf 2 = .ok (.ifCond .eq 16, 3) := by decide +kernel
theorem dX12_leaf_5 : decode cX12_leaf 5 = .ok (.aload_n 0, 1) := by decide +kernel
theorem dX12_leaf_6 : decode cX12_leaf 6 = .ok (.getfield 231, 3) := by decide +kernel
theorem dX12_leaf_9 : decode cX12_leaf 9 = .ok (.bipush 50, 2) := by decide +kernel
theorem dX12_leaf_11 : decode cX12_leaf 11 = .ok (.if_icmp .ge 7, 3) := by decide +kernel
theorem dX12_leaf_14 : decode cX12_leaf 14 = .ok (.iconst 1, 1) := by decide +kernel
theorem dX12_leaf_15 : decode cX12_leaf 15 = .ok (.goto 4, 3) := by decide +kernel
theorem dX12_leaf_18 : decode cX12_leaf 18 = .ok (.iconst 0, 1) := by decide +kernel
theorem dX12_leaf_19 : decode cX12_leaf 19 = .ok (.invokevirtual 182, 3) := by decide +kernel
theorem dX12_leaf_22 : decode cX12_leaf 22 = .ok (.aload_n 0, 1) := by decide +kernel
theorem dX12_leaf_23 : decode cX12_leaf 23 = .ok (.getfield 147, 3) := by decide +kernel
theorem dX12_leaf_26 : decode cX12_leaf 26 = .ok (.ifCond .ne 19, 3) := by decide +kernel
theorem dX12_leaf_29 : decode cX12_leaf 29 = .ok (.aload_n 0, 1) := by decide +kernel
theorem dX12_leaf_30 : decode cX12_leaf 30 = .ok (.iload_n 2, 1) := by decide +kernel
theorem dX12_leaf_31 : decode cX12_leaf 31 = .ok (.iload_n 3, 1) := by decide +kernel
theorem dX12_leaf_32 : decode cX12_leaf 32 = .ok (.invokevirtual 195, 3) := by decide +kernel
theorem dX12_leaf_35 : decode cX12_leaf 35 = .ok (.aload_n 0, 1) := by decide +kernel
theorem dX12_leaf_36 : decode cX12_leaf 36 = .ok (.dup, 1) := by decide +kernel
theorem dX12_leaf_37 : decode cX12_leaf 37 = .ok (.getfield 231, 3) := by decide +kernel
theorem dX12_leaf_40 : decode cX12_leaf 40 = .ok (.iconst 1, 1) := by decide +kernel
theorem dX12_leaf_41 : decode cX12_leaf 41 = .ok (.iadd, 1) := by decide +kernel
theorem dX12_leaf_42 : decode cX12_leaf 42 = .ok (.putfield 231, 3) := by decide +kernel
theorem dX12_leaf_45 : decode cX12_leaf 45 = .ok (.return_, 1) := by decide +kernel
theorem dX12_readPart_0 : decode cX12_readPart 0 = .ok (.aload_n 0, 1) := by decide +kernel
theorem dX12_readPart_1 : decode cX12_readPart 1 = .ok (.bipush 91, 2) := by decide +kernel
theorem dX12_readPart_3 : decode cX12_readPart 3 = .ok (.invokevirtual 234, 3) := by decide +kernel
theorem dX12_readPart_6 : decode cX12_readPart 6 = .ok (.ifCond .eq 11, 3) := by decide +kernel
theorem dX12_readPart_9 : decode cX12_readPart 9 = .ok (.aload_n 0, 1) := by decide +kernel
theorem dX12_readPart_10 : decode cX12_readPart 10 = .ok (.bipush 31, 2) := by decide +kernel
theorem dX12_readPart_12 : decode cX12_readPart 12 = .ok (.invokevirtual 237, 3) := by decide +kernel
theorem dX12_readPart_15 : decode cX12_readPart 15 = .ok (.iconst 1, 1) := by decide +kernel
theorem dX12_readPart_16 : decode cX12_readPart 16 = .ok (.ireturn, 1) := by decide +kernel
theorem dX12_readPart_17 : decode cX12_readPart 17 = .ok (.aload_n 0, 1) := by decide +kernel
theorem dX12_readPart_18 : decode cX12_readPart 18 = .ok (.invokevirtual 240, 3) := by decide +kernel
theorem dX12_readPart_21 : decode cX12_readPart 21 = .ok (.istore_n 1, 1) := by decide +kernel
theorem dX12_readPart_22 : decode cX12_readPart 22 = .ok (.aload_n 0, 1) := by decide +kernel
theorem dX12_readPart_23 : decode cX12_readPart 23 = .ok (.getfield 167, 3) := by decide +kernel
theorem dX12_readPart_26 : decode cX12_readPart 26 = .ok (.iconst 2, 1) := by decide +kernel
theorem dX12_readPart_27 : decode cX12_readPart 27 = .ok (.if_icmp .ne 18, 3) := by decide +kernel
theorem dX12_readPart_30 : decode cX12_readPart 30 = .ok (.aload_n 0, 1) := by decide +kernel
theorem dX12_readPart_31 : decode cX12_readPart 31 = .ok (.getfield 157, 3) := by decide +kernel
theorem dX12_readPart_34 : decode cX12_readPart 34 = .ok (.ldc2_w 244, 3) := by decide +kernel
theorem dX12_readPart_37 : decode cX12_readPart 37 = .ok (.lcmp, 1) := by decide +kernel
theorem dX12_readPart_38 : decode cX12_readPart 38 = .ok (.ifCond .gt 7, 3) := by decide +kernel
theorem dX12_readPart_41 : decode cX12_readPart 41 = .ok (.iconst 1, 1) := by decide +kernel
theorem dX12_readPart_42 : decode cX12_readPart 42 = .ok (.goto 4, 3) := by decide +kernel
theorem dX12_readPart_45 : decode cX12_readPart 45 = .ok (.iconst 0, 1) := by decide +kernel
theorem dX12_readPart_46 : decode cX12_readPart 46 = .ok (.istore_n 2, 1) := by decide +kernel
theorem dX12_readPart_47 : decode cX12_readPart 47 = .ok (.aload_n 0, 1) := by decide +kernel
theorem dX12_readPart_48 : decode cX12_readPart 48 = .ok (.iload_n 1, 1) := by decide +kernel
theorem dX12_readPart_49 : decode cX12_readPart 49 = .ok (.iconst (-1), 1) := by decide +kernel
theorem dX12_readPart_50 : decode cX12_readPart 50 = .ok (.if_icmp .ne 7, 3) := by decide +kernel
theorem dX12_readPart_53 : decode cX12_readPart 53 = .ok (.iload_n 2, 1) := by decide +kernel
theorem dX12_readPart_54 : decode cX12_readPart 54 = .ok (.ifCond .eq 7, 3) := by decide +kernel
theorem dX12_readPart_57 : decode cX12_readPart 57 = .ok (.iconst 1, 1) := by decide +kernel
theorem dX12_readPart_58 : decode cX12_readPart 58 = .ok (.goto 4, 3) := by decide +kernel
theorem dX12_readPart_61 : decode cX12_readPart 61 = .ok (.iconst 0, 1) := by decide +kernel
theorem dX12_readPart_62 : decode cX12_readPart 62 = .ok (.iload_n 1, 1) := by decide +kernel
theorem dX12_readPart_63 : decode cX12_readPart 63 = .ok (.iconst (-1), 1) := by decide +kernel
theorem dX12_readPart_64 : decode cX12_readPart 64 = .ok (.if_icmp .ne 7, 3) := by decide +kernel
theorem dX12_readPart_67 : decode cX12_readPart 67 = .ok (.iconst 0, 1) := by decide +kernel
theorem dX12_readPart_68 : decode cX12_readPart 68 = .ok (.goto 4, 3) := by decide +kernel
theorem dX12_readPart_71 : decode cX12_readPart 71 = .ok (.iload_n 1, 1) := by decide +kernel
theorem dX12_readPart_72 : decode cX12_readPart 72 = .ok (.iload_n 2, 1) := by decide +kernel
theorem dX12_readPart_73 : decode cX12_readPart 73 = .ok (.ifCond .eq 11, 3) := by decide +kernel
theorem dX12_readPart_76 : decode cX12_readPart 76 = .ok (.aload_n 0, 1) := by decide +kernel
theorem dX12_readPart_77 : decode cX12_readPart 77 = .ok (.getfield 157, 3) := by decide +kernel
theorem dX12_readPart_80 : decode cX12_readPart 80 = .ok (.l2i, 1) := by decide +kernel
theorem dX12_readPart_81 : decode cX12_readPart 81 = .ok (.goto 4, 3) := by decide +kernel
theorem dX12_readPart_84 : decode cX12_readPart 84 = .ok (.iconst 0, 1) := by decide +kernel
theorem dX12_readPart_85 : decode cX12_readPart 85 = .ok (.invokevirtual 246, 3) := by decide +kernel
theorem dX12_readPart_88 : decode cX12_readPart 88 = .ok (.iconst 3, 1) := by decide +kernel
theorem dX12_readPart_89 : decode cX12_readPart 89 = .ok (.ireturn, 1) := by decide +kernel
theorem dX12_readPlain_0 : decode cX12_readPlain 0 = .ok (.aload_n 0, 1) := by decide +kernel
theorem dX12_readPlain_1 : decode cX12_readPlain 1 = .ok (.ldc2_w 250, 3) := by decide +kernel
theorem dX12_readPlain_4 : decode cX12_readPlain 4 = .ok (.invokevirtual 205, 3) := by decide +kernel
theorem dX12_readPlain_7 : decode cX12_readPlain 7 = .ok (.ifCond .eq 16, 3) := by decide +kernel
theorem dX12_readPlain_10 : decode cX12_readPlain 10 = .ok (.aload_n 0, 1) := by decide +kernel
theorem dX12_readPlain_11 : decode cX12_readPlain 11 = .ok (.bipush 27, 2) := by decide +kernel
theorem dX12_readPlain_13 : decode cX12_readPlain 13 = .ok (.iconst 0, 1) := by decide +kernel
theorem dX12_readPlain_14 : decode cX12_readPlain 14 = .ok (.invokevirtual 228, 3) := by decide +kernel
theorem dX12_readPlain_17 : decode cX12_readPlain 17 = .ok (.aload_n 0, 1) := by decide +kernel
theorem dX12_readPlain_18 : decode cX12_readPlain 18 = .ok (.invokevirtual 151, 3) := by decide +kernel
theorem dX12_readPlain_21 : decode cX12_readPlain 21 = .ok (.iconst 0, 1) := by decide +kernel
theorem dX12_readPlain_22 : decode cX12_readPlain 22 = .ok (.ireturn, 1) := by decide +kernel
theorem dX12_readPlain_23 : decode cX12_readPlain 23 = .ok (.aload_n 0, 1) := by decide +kernel
theorem dX12_readPlain_24 : decode cX12_readPlain 24 = .ok (.bipush 40, 2) := by decide +kernel
theorem dX12_readPlain_26 : decode cX12_readPlain 26 = .ok (.invokevirtual 234, 3) := by decide +kernel
theorem dX12_readPlain_29 : decode cX12_readPlain 29 = .ok (.ifCond .eq 11, 3) := by decide +kernel
theorem dX12_readPlain_32 : decode cX12_readPlain 32 = .ok (.aload_n 0, 1) := by decide +kernel
theorem dX12_readPlain_33 : decode cX12_readPlain 33 = .ok (.bipush 30, 2) := by decide +kernel
theorem dX12_readPlain_35 : decode cX12_readPlain 35 = .ok (.invokevirtual 237, 3) := by decide +kernel
theorem dX12_readPlain_38 : decode cX12_readPlain 38 = .ok (.iconst 0, 1) := by decide +kernel
theorem dX12_readPlain_39 : decode cX12_readPlain 39 = .ok (.ireturn, 1) := by decide +kernel
theorem dX12_readPlain_40 : decode cX12_readPlain 40 = .ok (.aload_n 0, 1) := by decide +kernel
theorem dX12_readPlain_41 : decode cX12_readPlain 41 = .ok (.invokevirtual 252, 3) := by decide +kernel
theorem dX12_readPlain_44 : decode cX12_readPlain 44 = .ok (.ireturn, 1) := by decide +kernel
theorem dX12_behindSum_0 : decode cX12_behindSum 0 = .ok (.aload_n 0, 1) := by decide +kernel
theorem dX12_behindSum_1 : decode cX12_behindSum 1 = .ok (.bipush 43, 2) := by decide +kernel
theorem dX12_behindSum_3 : decode cX12_behindSum 3 = .ok (.invokevirtual 234, 3) := by decide +kernel
theorem dX12_behindSum_6 : decode cX12_behindSum 6 = .ok (.ifCond .eq 8, 3) := by decide +kernel
theorem dX12_behindSum_9 : decode cX12_behindSum 9 = .ok (.bipush 20, 2) := by decide +kernel
theorem dX12_behindSum_11 : decode cX12_behindSum 11 = .ok (.goto 46, 3) := by decide +kernel
theorem dX12_behindSum_14 : decode cX12_behindSum 14 = .ok (.aload_n 0, 1) := by decide +kernel
theorem dX12_behindSum_15 : decode cX12_behindSum 15 = .ok (.bipush 45, 2) := by decide +kernel
theorem dX12_behindSum_17 : decode cX12_behindSum 17 = .ok (.invokevirtual 234, 3) := by decide +kernel
theorem dX12_behindSum_20 : decode cX12_behindSum 20 = .ok (.ifCond .eq 8, 3) := by decide +kernel
theorem dX12_behindSum_23 : decode cX12_behindSum 23 = .ok (.bipush 21, 2) := by decide +kernel
theorem dX12_behindSum_25 : decode cX12_behindSum 25 = .ok (.goto 32, 3) := by decide +kernel
theorem dX12_behindSum_28 : decode cX12_behindSum 28 = .ok (.aload_n 0, 1) := by decide +kernel
theorem dX12_behindSum_29 : decode cX12_behindSum 29 = .ok (.bipush 42, 2) := by decide +kernel
theorem dX12_behindSum_31 : decode cX12_behindSum 31 = .ok (.invokevirtual 234, 3) := by decide +kernel
theorem dX12_behindSum_34 : decode cX12_behindSum 34 = .ok (.ifCond .eq 8, 3) := by decide +kernel
theorem dX12_behindSum_37 : decode cX12_behindSum 37 = .ok (.bipush 22, 2) := by decide +kernel
theorem dX12_behindSum_39 : decode cX12_behindSum 39 = .ok (.goto 18, 3) := by decide +kernel
theorem dX12_behindSum_42 : decode cX12_behindSum 42 = .ok (.aload_n 0, 1) := by decide +kernel
theorem dX12_behindSum_43 : decode cX12_behindSum 43 = .ok (.bipush 47, 2) := by decide +kernel
theorem dX12_behindSum_45 : decode cX12_behindSum 45 = .ok (.invokevirtual 234, 3) := by decide +kernel
theorem dX12_behindSum_48 : decode cX12_behindSum 48 = .ok (.ifCond .eq 8, 3) := by decide +kernel
theorem dX12_behindSum_51 : decode cX12_behindSum 51 = .ok (.bipush 23, 2) := by decide +kernel
theorem dX12_behindSum_53 : decode cX12_behindSum 53 = .ok (.goto 4, 3) := by decide +kernel
theorem dX12_behindSum_56 : decode cX12_behindSum 56 = .ok (.iconst (-1), 1) := by decide +kernel
theorem dX12_behindSum_57 : decode cX12_behindSum 57 = .ok (.istore_n 2, 1) := by decide +kernel
theorem dX12_behindSum_58 : decode cX12_behindSum 58 = .ok (.iload_n 2, 1) := by decide +kernel
theorem dX12_behindSum_59 : decode cX12_behindSum 59 = .ok (.iconst (-1), 1) := by decide +kernel
theorem dX12_behindSum_60 : decode cX12_behindSum 60 = .ok (.if_icmp .eq 23, 3) := by decide +kernel
theorem dX12_behindSum_63 : decode cX12_behindSum 63 = .ok (.aload_n 0, 1) := by decide +kernel
theorem dX12_behindSum_64 : decode cX12_behindSum 64 = .ok (.iload_n 2, 1) := by decide +kernel
theorem dX12_behindSum_65 : decode cX12_behindSum 65 = .ok (.invokestatic 192, 3) := by decide +kernel
theorem dX12_behindSum_68 : decode cX12_behindSum 68 = .ok (.invokevirtual 255, 3) := by decide +kernel
theorem dX12_behindSum_71 : decode cX12_behindSum 71 = .ok (.aload_n 0, 1) := by decide +kernel
theorem dX12_behindSum_72 : decode cX12_behindSum 72 = .ok (.iload_n 2, 1) := by decide +kernel
theorem dX12_behindSum_73 : decode cX12_behindSum 73 = .ok (.iconst 0, 1) := by decide +kernel
theorem dX12_behindSum_74 : decode cX12_behindSum 74 = .ok (.invokevirtual 228, 3) := by decide +kernel
theorem dX12_behindSum_77 : decode cX12_behindSum 77 = .ok (.aload_n 0, 1) := by decide +kernel
theorem dX12_behindSum_78 : decode cX12_behindSum 78 = .ok (.invokevirtual 151, 3) := by decide +kernel
theorem dX12_behindSum_81 : decode cX12_behindSum 81 = .ok (.iconst 1, 1) := by decide +kernel
theorem dX12_behindSum_82 : decode cX12_behindSum 82 = .ok (.ireturn, 1) := by decide +kernel
theorem dX12_behindSum_83 : decode cX12_behindSum 83 = .ok (.aload_n 0, 1) := by decide +kernel
theorem dX12_behindSum_84 : decode cX12_behindSum 84 = .ok (.invokevirtual 258, 3) := by decide +kernel
theorem dX12_behindSum_87 : decode cX12_behindSum 87 = .ok (.istore_n 3, 1) := by decide +kernel
theorem dX12_behindSum_88 : decode cX12_behindSum 88 = .ok (.iload_n 3, 1) := by decide +kernel
theorem dX12_behindSum_89 : decode cX12_behindSum 89 = .ok (.bipush 31, 2) := by decide +kernel
theorem dX12_behindSum_91 : decode cX12_behindSum 91 = .ok (.if_icmp .ne 47, 3) := by decide +kernel
theorem dX12_behindSum_94 : decode cX12_behindSum 94 = .ok (.aload_n 0, 1) := by decide +kernel
theorem dX12_behindSum_95 : decode cX12_behindSum 95 = .ok (.aload_n 0, 1) := by decide +kernel
theorem dX12_behindSum_96 : decode cX12_behindSum 96 = .ok (.bipush 93, 2) := by decide +kernel
theorem dX12_behindSum_98 : decode cX12_behindSum 98 = .ok (.invokevirtual 234, 3) := by decide +kernel
theorem dX12_behindSum_101 : decode cX12_behindSum 101 = .ok (.invokevirtual 182, 3) := by decide +kernel
theorem dX12_behindSum_104 : decode cX12_behindSum 104 = .ok (.aload_n 0, 1) := by decide +kernel
theorem dX12_behindSum_105 : decode cX12_behindSum 105 = .ok (.getfield 147, 3) := by decide +kernel
theorem dX12_behindSum_108 : decode cX12_behindSum 108 = .ok (.ifCond .ne 28, 3) := by decide +kernel
theorem dX12_behindSum_111 : decode cX12_behindSum 111 = .ok (.aload_n 0, 1) := by decide +kernel
theorem dX12_behindSum_112 : decode cX12_behindSum 112 = .ok (.iconst 5, 1) := by decide +kernel
theorem dX12_behindSum_113 : decode cX12_behindSum 113 = .ok (.invokevirtual 255, 3) := by decide +kernel
theorem dX12_behindSum_116 : decode cX12_behindSum 116 = .ok (.aload_n 0, 1) := by decide +kernel
theorem dX12_behindSum_117 : decode cX12_behindSum 117 = .ok (.dup, 1) := by decide +kernel
theorem dX12_behindSum_118 : decode cX12_behindSum 118 = .ok (.getfield 189, 3) := by decide +kernel
theorem dX12_behindSum_121 : decode cX12_behindSum 121 = .ok (.iconst 1, 1) := by decide +kernel
theorem dX12_behindSum_122 : decode cX12_behindSum 122 = .ok (.isub, 1) := by decide +kernel
theorem dX12_behindSum_123 : decode cX12_behindSum 123 = .ok (.putfield 189, 3) := by decide +kernel
theorem dX12_behindSum_126 : decode cX12_behindSum 126 = .ok (.aload_n 0, 1) := by decide +kernel
theorem dX12_behindSum_127 : decode cX12_behindSum 127 = .ok (.dup, 1) := by decide +kernel
theorem dX12_behindSum_128 : decode cX12_behindSum 128 = .ok (.getfield 225, 3) := by decide +kernel
theorem dX12_behindSum_131 : decode cX12_behindSum 131 = .ok (.iconst 1, 1) := by decide +kernel
theorem dX12_behindSum_132 : decode cX12_behindSum 132 = .ok (.isub, 1) := by decide +kernel
theorem dX12_behindSum_133 : decode cX12_behindSum 133 = .ok (.putfield 225, 3) := by decide +kernel
theorem dX12_behindSum_136 : decode cX12_behindSum 136 = .ok (.iconst 3, 1) := by decide +kernel
theorem dX12_behindSum_137 : decode cX12_behindSum 137 = .ok (.ireturn, 1) := by decide +kernel
theorem dX12_behindSum_138 : decode cX12_behindSum 138 = .ok (.iload_n 3, 1) := by decide +kernel
theorem dX12_behindSum_139 : decode cX12_behindSum 139 = .ok (.iconst (-1), 1) := by decide +kernel
theorem dX12_behindSum_140 : decode cX12_behindSum 140 = .ok (.if_icmp .ne 9, 3) := by decide +kernel
theorem dX12_behindSum_143 : decode cX12_behindSum 143 = .ok (.iload_n 1, 1) := by decide +kernel
theorem dX12_behindSum_144 : decode cX12_behindSum 144 = .ok (.ifCond .ne 5, 3) := by decide +kernel
theorem dX12_behindSum_147 : decode cX12_behindSum 147 = .ok (.iconst 4, 1) := by decide +kernel
theorem dX12_behindSum_148 : decode cX12_behindSum 148 = .ok (.ireturn, 1) := by decide +kernel
theorem dX12_behindSum_149 : decode cX12_behindSum 149 = .ok (.aload_n 0, 1) := by decide +kernel
theorem dX12_behindSum_150 : decode cX12_behindSum 150 = .ok (.invokevirtual 261, 3) := by decide +kernel
theorem dX12_behindSum_153 : decode cX12_behindSum 153 = .ok (.ifCond .eq 5, 3) := by decide +kernel
theorem dX12_behindSum_156 : decode cX12_behindSum 156 = .ok (.iconst 2, 1) := by decide +kernel
theorem dX12_behindSum_157 : decode cX12_behindSum 157 = .ok (.ireturn, 1) := by decide +kernel
theorem dX12_behindSum_158 : decode cX12_behindSum 158 = .ok (.aload_n 0, 1) := by decide +kernel
theorem dX12_behindSum_159 : decode cX12_behindSum 159 = .ok (.bipush 60, 2) := by decide +kernel
theorem dX12_behindSum_161 : decode cX12_behindSum 161 = .ok (.invokevirtual 234, 3) := by decide +kernel
theorem dX12_behindSum_164 : decode cX12_behindSum 164 = .ok (.ifCond .eq 8, 3) := by decide +kernel
theorem dX12_behindSum_167 : decode cX12_behindSum 167 = .ok (.bipush 24, 2) := by decide +kernel
theorem dX12_behindSum_169 : decode cX12_behindSum 169 = .ok (.goto 19, 3) := by decide +kernel
theorem dX12_behindSum_172 : decode cX12_behindSum 172 = .ok (.aload_n 0, 1) := by decide +kernel
theorem dX12_behindSum_173 : decode cX12_behindSum 173 = .ok (.bipush 62, 2) := by decide +kernel
theorem dX12_behindSum_175 : decode cX12_behindSum 175 = .ok (.invokevirtual 234, 3) := by decide +kernel
theorem dX12_behindSum_178 : decode cX12_behindSum 178 = .ok (.ifCond .eq 8, 3) := by decide +kernel
theorem dX12_behindSum_181 : decode cX12_behindSum 181 = .ok (.bipush 25, 2) := by decide +kernel
theorem dX12_behindSum_183 : decode cX12_behindSum 183 = .ok (.goto 5, 3) := by decide +kernel
theorem dX12_behindSum_186 : decode cX12_behindSum 186 = .ok (.bipush 26, 2) := by decide +kernel
theorem dX12_behindSum_188 : decode cX12_behindSum 188 = .ok (.istore_n 2, 1) := by decide +kernel
theorem dX12_behindSum_189 : decode cX12_behindSum 189 = .ok (.aload_n 0, 1) := by decide +kernel
theorem dX12_behindSum_190 : decode cX12_behindSum 190 = .ok (.iload_n 2, 1) := by decide +kernel
theorem dX12_behindSum_191 : decode cX12_behindSum 191 = .ok (.bipush 26, 2) := by decide +kernel
theorem dX12_behindSum_193 : decode cX12_behindSum 193 = .ok (.if_icmp .ne 12, 3) := by decide +kernel
theorem dX12_behindSum_196 : decode cX12_behindSum 196 = .ok (.aload_n 0, 1) := by decide +kernel
theorem dX12_behindSum_197 : decode cX12_behindSum 197 = .ok (.bipush 61, 2) := by decide +kernel
theorem dX12_behindSum_199 : decode cX12_behindSum 199 = .ok (.invokevirtual 234, 3) := by decide +kernel
theorem dX12_behindSum_202 : decode cX12_behindSum 202 = .ok (.ifCond .eq 7, 3) := by decide +kernel
theorem dX12_behindSum_205 : decode cX12_behindSum 205 = .ok (.iconst 1, 1) := by decide +kernel
theorem dX12_behindSum_206 : decode cX12_behindSum 206 = .ok (.goto 4, 3) := by decide +kernel
theorem dX12_behindSum_209 : decode cX12_behindSum 209 = .ok (.iconst 0, 1) := by decide +kernel
theorem dX12_behindSum_210 : decode cX12_behindSum 210 = .ok (.invokevirtual 182, 3) := by decide +kernel
theorem dX12_behindSum_213 : decode cX12_behindSum 213 = .ok (.aload_n 0, 1) := by decide +kernel
theorem dX12_behindSum_214 : decode cX12_behindSum 214 = .ok (.getfield 147, 3) := by decide +kernel
theorem dX12_behindSum_217 : decode cX12_behindSum 217 = .ok (.ifCond .ne 14, 3) := by decide +kernel
theorem dX12_behindSum_220 : decode cX12_behindSum 220 = .ok (.aload_n 0, 1) := by decide +kernel
theorem dX12_behindSum_221 : decode cX12_behindSum 221 = .ok (.iconst 5, 1) := by decide +kernel
theorem dX12_behindSum_222 : decode cX12_behindSum 222 = .ok (.invokevirtual 255, 3) := by decide +kernel
theorem dX12_behindSum_225 : decode cX12_behindSum 225 = .ok (.aload_n 0, 1) := by decide +kernel
theorem dX12_behindSum_226 : decode cX12_behindSum 226 = .ok (.iload_n 2, 1) := by decide +kernel
theorem dX12_behindSum_227 : decode cX12_behindSum 227 = .ok (.iconst 0, 1) := by decide +kernel
theorem dX12_behindSum_228 : decode cX12_behindSum 228 = .ok (.invokevirtual 228, 3) := by decide +kernel
theorem dX12_behindSum_231 : decode cX12_behindSum 231 = .ok (.iconst 1, 1) := by decide +kernel
theorem dX12_behindSum_232 : decode cX12_behindSum 232 = .ok (.ireturn, 1) := by decide +kernel
theorem dX12_behindTest_0 : decode cX12_behindTest 0 = .ok (.aload_n 0, 1) := by decide +kernel
theorem dX12_behindTest_1 : decode cX12_behindTest 1 = .ok (.ldc2_w 265, 3) := by decide +kernel
theorem dX12_behindTest_4 : decode cX12_behindTest 4 = .ok (.invokevirtual 205, 3) := by decide +kernel
theorem dX12_behindTest_7 : decode cX12_behindTest 7 = .ok (.istore_n 1, 1) := by decide +kernel
theorem dX12_behindTest_8 : decode cX12_behindTest 8 = .ok (.iload_n 1, 1) := by decide +kernel
theorem dX12_behindTest_9 : decode cX12_behindTest 9 = .ok (.ifCond .ne 13, 3) := by decide +kernel
theorem dX12_behindTest_12 : decode cX12_behindTest 12 = .ok (.aload_n 0, 1) := by decide +kernel
theorem dX12_behindTest_13 : decode cX12_behindTest 13 = .ok (.ldc2_w 267, 3) := by decide +kernel
theorem dX12_behindTest_16 : decode cX12_behindTest 16 = .ok (.invokevirtual 205, 3) := by decide +kernel
theorem dX12_behindTest_19 : decode cX12_behindTest 19 = .ok (.ifCond .eq 57, 3) := by decide +kernel
theorem dX12_behindTest_22 : decode cX12_behindTest 22 = .ok (.aload_n 0, 1) := by decide +kernel
theorem dX12_behindTest_23 : decode cX12_behindTest 23 = .ok (.iload_n 1, 1) := by decide +kernel
theorem dX12_behindTest_24 : decode cX12_behindTest 24 = .ok (.ifCond .eq 7, 3) := by decide +kernel
theorem dX12_behindTest_27 : decode cX12_behindTest 27 = .ok (.iconst 2, 1) := by decide +kernel
theorem dX12_behindTest_28 : decode cX12_behindTest 28 = .ok (.goto 4, 3) := by decide +kernel
theorem dX12_behindTest_31 : decode cX12_behindTest 31 = .ok (.iconst 1, 1) := by decide +kernel
theorem dX12_behindTest_32 : decode cX12_behindTest 32 = .ok (.invokevirtual 255, 3) := by decide +kernel
theorem dX12_behindTest_35 : decode cX12_behindTest 35 = .ok (.aload_n 0, 1) := by decide +kernel
theorem dX12_behindTest_36 : decode cX12_behindTest 36 = .ok (.iload_n 1, 1) := by decide +kernel
theorem dX12_behindTest_37 : decode cX12_behindTest 37 = .ok (.ifCond .eq 8, 3) := by decide +kernel
theorem dX12_behindTest_40 : decode cX12_behindTest 40 = .ok (.bipush 28, 2) := by decide +kernel
theorem dX12_behindTest_42 : decode cX12_behindTest 42 = .ok (.goto 5, 3) := by decide +kernel
theorem dX12_behindTest_45 : decode cX12_behindTest 45 = .ok (.bipush 29, 2) := by decide +kernel
theorem dX12_behindTest_47 : decode cX12_behindTest 47 = .ok (.aload_n 0, 1) := by decide +kernel
theorem dX12_behindTest_48 : decode cX12_behindTest 48 = .ok (.getfield 186, 3) := by decide +kernel
theorem dX12_behindTest_51 : decode cX12_behindTest 51 = .ok (.invokevirtual 228, 3) := by decide +kernel
theorem dX12_behindTest_54 : decode cX12_behindTest 54 = .ok (.aload_n 0, 1) := by decide +kernel
theorem dX12_behindTest_55 : decode cX12_behindTest 55 = .ok (.iload_n 1, 1) := by decide +kernel
theorem dX12_behindTest_56 : decode cX12_behindTest 56 = .ok (.ifCond .eq 8, 3) := by decide +kernel
theorem dX12_behindTest_59 : decode cX12_behindTest 59 = .ok (.bipush 28, 2) := by decide +kernel
theorem dX12_behindTest_61 : decode cX12_behindTest 61 = .ok (.goto 5, 3) := by decide +kernel
theorem dX12_behindTest_64 : decode cX12_behindTest 64 = .ok (.bipush 29, 2) := by decide +kernel
theorem dX12_behindTest_66 : decode cX12_behindTest 66 = .ok (.iconst 0, 1) := by decide +kernel
theorem dX12_behindTest_67 : decode cX12_behindTest 67 = .ok (.invokevirtual 195, 3) := by decide +kernel
theorem dX12_behindTest_70 : decode cX12_behindTest 70 = .ok (.aload_n 0, 1) := by decide +kernel
theorem dX12_behindTest_71 : decode cX12_behindTest 71 = .ok (.invokevirtual 151, 3) := by decide +kernel
theorem dX12_behindTest_74 : decode cX12_behindTest 74 = .ok (.iconst 0, 1) := by decide +kernel
theorem dX12_behindTest_75 : decode cX12_behindTest 75 = .ok (.ireturn, 1) := by decide +kernel
theorem dX12_behindTest_76 : decode cX12_behindTest 76 = .ok (.aload_n 0, 1) := by decide +kernel
theorem dX12_behindTest_77 : decode cX12_behindTest 77 = .ok (.invokevirtual 258, 3) := by decide +kernel
theorem dX12_behindTest_80 : decode cX12_behindTest 80 = .ok (.iconst (-1), 1) := by decide +kernel
theorem dX12_behindTest_81 : decode cX12_behindTest 81 = .ok (.if_icmp .ne 5, 3) := by decide +kernel
theorem dX12_behindTest_84 : decode cX12_behindTest 84 = .ok (.iconst 4, 1) := by decide +kernel
theorem dX12_behindTest_85 : decode cX12_behindTest 85 = .ok (.ireturn, 1) := by decide +kernel
theorem dX12_behindTest_86 : decode cX12_behindTest 86 = .ok (.aload_n 0, 1) := by decide +kernel
theorem dX12_behindTest_87 : decode cX12_behindTest 87 = .ok (.aload_n 0, 1) := by decide +kernel
theorem dX12_behindTest_88 : decode cX12_behindTest 88 = .ok (.bipush 41, 2) := by decide +kernel
theorem dX12_behindTest_90 : decode cX12_behindTest 90 = .ok (.invokevirtual 234, 3) := by decide +kernel
theorem dX12_behindTest_93 : decode cX12_behindTest 93 = .ok (.invokevirtual 182, 3) := by decide +kernel
theorem dX12_behindTest_96 : decode cX12_behindTest 96 = .ok (.aload_n 0, 1) := by decide +kernel
theorem dX12_behindTest_97 : decode cX12_behindTest 97 = .ok (.getfield 147, 3) := by decide +kernel
theorem dX12_behindTest_100 : decode cX12_behindTest 100 = .ok (.ifCond .ne 28, 3) := by decide +kernel
theorem dX12_behindTest_103 : decode cX12_behindTest 103 = .ok (.aload_n 0, 1) := by decide +kernel
theorem dX12_behindTest_104 : decode cX12_behindTest 104 = .ok (.iconst 1, 1) := by decide +kernel
theorem dX12_behindTest_105 : decode cX12_behindTest 105 = .ok (.invokevirtual 255, 3) := by decide +kernel
theorem dX12_behindTest_108 : decode cX12_behindTest 108 = .ok (.aload_n 0, 1) := by decide +kernel
theorem dX12_behindTest_109 : decode cX12_behindTest 109 = .ok (.dup, 1) := by decide +kernel
theorem dX12_behindTest_110 : decode cX12_behindTest 110 = .ok (.getfield 189, 3) := by decide +kernel
theorem dX12_behindTest_113 : decode cX12_behindTest 113 = .ok (.iconst 1, 1) := by decide +kernel
theorem dX12_behindTest_114 : decode cX12_behindTest 114 = .ok (.isub, 1) := by decide +kernel
theorem dX12_behindTest_115 : decode cX12_behindTest 115 = .ok (.putfield 189, 3) := by decide +kernel
theorem dX12_behindTest_118 : decode cX12_behindTest 118 = .ok (.aload_n 0, 1) := by decide +kernel
theorem dX12_behindTest_119 : decode cX12_behindTest 119 = .ok (.dup, 1) := by decide +kernel
theorem dX12_behindTest_120 : decode cX12_behindTest 120 = .ok (.getfield 225, 3) := by decide +kernel
theorem dX12_behindTest_123 : decode cX12_behindTest 123 = .ok (.iconst 1, 1) := by decide +kernel
theorem dX12_behindTest_124 : decode cX12_behindTest 124 = .ok (.isub, 1) := by decide +kernel
theorem dX12_behindTest_125 : decode cX12_behindTest 125 = .ok (.putfield 225, 3) := by decide +kernel
theorem dX12_behindTest_128 : decode cX12_behindTest 128 = .ok (.iconst 2, 1) := by decide +kernel
theorem dX12_behindTest_129 : decode cX12_behindTest 129 = .ok (.ireturn, 1) := by decide +kernel
theorem dX12_readExpression_0 : decode cX12_readExpression 0 = .ok (.aload_n 0, 1) := by decide +kernel
theorem dX12_readExpression_1 : decode cX12_readExpression 1 = .ok (.iconst 0, 1) := by decide +kernel
theorem dX12_readExpression_2 : decode cX12_readExpression 2 = .ok (.putfield 189, 3) := by decide +kernel
theorem dX12_readExpression_5 : decode cX12_readExpression 5 = .ok (.aload_n 0, 1) := by decide +kernel
theorem dX12_readExpression_6 : decode cX12_readExpression 6 = .ok (.iconst 0, 1) := by decide +kernel
theorem dX12_readExpression_7 : decode cX12_readExpression 7 = .ok (.putfield 225, 3) := by decide +kernel
theorem dX12_readExpression_10 : decode cX12_readExpression 10 = .ok (.iload_n 1, 1) := by decide +kernel
theorem dX12_readExpression_11 : decode cX12_readExpression 11 = .ok (.ifCond .eq 7, 3) := by decide +kernel
theorem dX12_readExpression_14 : decode cX12_readExpression 14 = .ok (.iconst 0, 1) := by decide +kernel
theorem dX12_readExpression_15 : decode cX12_readExpression 15 = .ok (.goto 4, 3) := by decide +kernel
theorem dX12_readExpression_18 : decode cX12_readExpression 18 = .ok (.iconst 1, 1) := by decide +kernel
theorem dX12_readExpression_19 : decode cX12_readExpression 19 = .ok (.istore_n 2, 1) := by decide +kernel
theorem dX12_readExpression_20 : decode cX12_readExpression 20 = .ok (.aload_n 0, 1) := by decide +kernel
theorem dX12_readExpression_21 : decode cX12_readExpression 21 = .ok (.getfield 147, 3) := by decide +kernel
theorem dX12_readExpression_24 : decode cX12_readExpression 24 = .ok (.ifCond .ne 52, 3) := by decide +kernel
theorem dX12_readExpression_27 : decode cX12_readExpression 27 = .ok (.iload_n 2, 1) := by decide +kernel
theorem dX12_readExpression_28 : decode cX12_readExpression 28 = .ok (.iconst 4, 1) := by decide +kernel
theorem dX12_readExpression_29 : decode cX12_readExpression 29 = .ok (.if_icmp .eq 47, 3) := by decide +kernel
theorem dX12_readExpression_32 : decode cX12_readExpression 32 = .ok (.iload_n 2, 1) := by decide +kernel
theorem dX12_readExpression_33 : decode cX12_readExpression 33 = .ok (.ifCond .ne 10, 3) := by decide +kernel
theorem dX12_readExpression_36 : decode cX12_readExpression 36 = .ok (.aload_n 0, 1) := by decide +kernel
theorem dX12_readExpression_37 : decode cX12_readExpression 37 = .ok (.invokevirtual 269, 3) := by decide +kernel
theorem dX12_readExpression_40 : decode cX12_readExpression 40 = .ok (.goto 32, 3) := by decide +kernel
theorem dX12_readExpression_43 : decode cX12_readExpression 43 = .ok (.iload_n 2, 1) := by decide +kernel
theorem dX12_readExpression_44 : decode cX12_readExpression 44 = .ok (.iconst 1, 1) := by decide +kernel
theorem dX12_readExpression_45 : decode cX12_readExpression 45 = .ok (.if_icmp .ne 10, 3) := by decide +kernel
theorem dX12_readExpression_48 : decode cX12_readExpression 48 = .ok (.aload_n 0, 1) := by decide +kernel
theorem dX12_readExpression_49 : decode cX12_readExpression 49 = .ok (.invokevirtual 252, 3) := by decide +kernel
theorem dX12_readExpression_52 : decode cX12_readExpression 52 = .ok (.goto 20, 3) := by decide +kernel
theorem dX12_readExpression_55 : decode cX12_readExpression 55 = .ok (.iload_n 2, 1) := by decide +kernel
theorem dX12_readExpression_56 : decode cX12_readExpression 56 = .ok (.iconst 3, 1) := by decide +kernel
theorem dX12_readExpression_57 : decode cX12_readExpression 57 = .ok (.if_icmp .ne 11, 3) := by decide +kernel
theorem dX12_readExpression_60 : decode cX12_readExpression 60 = .ok (.aload_n 0, 1) := by decide +kernel
theorem dX12_readExpression_61 : decode cX12_readExpression 61 = .ok (.iload_n 1, 1) := by decide +kernel
theorem dX12_readExpression_62 : decode cX12_readExpression 62 = .ok (.invokevirtual 272, 3) := by decide +kernel
theorem dX12_readExpression_65 : decode cX12_readExpression 65 = .ok (.goto 7, 3) := by decide +kernel
theorem dX12_readExpression_68 : decode cX12_readExpression 68 = .ok (.aload_n 0, 1) := by decide +kernel
theorem dX12_readExpression_69 : decode cX12_readExpression 69 = .ok (.invokevirtual 276, 3) := by decide +kernel
theorem dX12_readExpression_72 : decode cX12_readExpression 72 = .ok (.istore_n 2, 1) := by decide +kernel
theorem dX12_readExpression_73 : decode cX12_readExpression 73 = .ok (.goto (-53), 3) := by decide +kernel
theorem dX12_readExpression_76 : decode cX12_readExpression 76 = .ok (.aload_n 0, 1) := by decide +kernel
theorem dX12_readExpression_77 : decode cX12_readExpression 77 = .ok (.iconst 1, 1) := by decide +kernel
theorem dX12_readExpression_78 : decode cX12_readExpression 78 = .ok (.invokevirtual 255, 3) := by decide +kernel
theorem dX12_readExpression_81 : decode cX12_readExpression 81 = .ok (.return_, 1) := by decide +kernel
theorem dX12_headAt_0 : decode cX12_headAt 0 = .ok (.aload_n 0, 1) := by decide +kernel
theorem dX12_headAt_1 : decode cX12_headAt 1 = .ok (.ldc2_w 279, 3) := by decide +kernel
theorem dX12_headAt_4 : decode cX12_headAt 4 = .ok (.invokevirtual 205, 3) := by decide +kernel
theorem dX12_headAt_7 : decode cX12_headAt 7 = .ok (.ifCond .ne 23, 3) := by decide +kernel
theorem dX12_headAt_10 : decode cX12_headAt 10 = .ok (.aload_n 0, 1) := by decide +kernel
theorem dX12_headAt_11 : decode cX12_headAt 11 = .ok (.ldc2_w 281, 3) := by decide +kernel
theorem dX12_headAt_14 : decode cX12_headAt 14 = .ok (.invokevirtual 205, 3) := by decide +kernel
theorem dX12_headAt_17 : decode cX12_headAt 17 = .ok (.ifCond .ne 13, 3) := by decide +kernel
theorem dX12_headAt_20 : decode cX12_headAt 20 = .ok (.aload_n 0, 1) := by decide +kernel
theorem dX12_headAt_21 : decode cX12_headAt 21 = .ok (.ldc2_w 283, 3) := by decide +kernel
theorem dX12_headAt_24 : decode cX12_headAt 24 = .ok (.invokevirtual 205, 3) := by decide +kernel
theorem dX12_headAt_27 : decode cX12_headAt 27 = .ok (.ifCond .eq 33, 3) := by decide +kernel
theorem dX12_headAt_30 : decode cX12_headAt 30 = .ok (.aload_n 0, 1) := by decide +kernel
theorem dX12_headAt_31 : decode cX12_headAt 31 = .ok (.ldc2_w 279, 3) := by decide +kernel
theorem dX12_headAt_34 : decode cX12_headAt 34 = .ok (.invokevirtual 205, 3) := by decide +kernel
theorem dX12_headAt_37 : decode cX12_headAt 37 = .ok (.ifCond .eq 7, 3) := by decide +kernel
theorem dX12_headAt_40 : decode cX12_headAt 40 = .ok (.iconst 0, 1) := by decide +kernel
theorem dX12_headAt_41 : decode cX12_headAt 41 = .ok (.goto 18, 3) := by decide +kernel
theorem dX12_headAt_44 : decode cX12_headAt 44 = .ok (.aload_n 0, 1) := by decide +kernel
theorem dX12_headAt_45 : decode cX12_headAt 45 = .ok (.ldc2_w 281, 3) := by decide +kernel
theorem dX12_headAt_48 : decode cX12_headAt 48 = .ok (.invokevirtual 205, 3) := by decide +kernel
theorem dX12_headAt_51 : decode cX12_headAt 51 = .ok (.ifCond .eq 7, 3) := by decide +kernel
theorem dX12_headAt_54 : decode cX12_headAt 54 = .ok (.iconst 1, 1) := by decide +kernel
theorem dX12_headAt_55 : decode cX12_headAt 55 = .ok (.goto 4, 3) := by decide +kernel
theorem dX12_headAt_58 : decode cX12_headAt 58 = .ok (.iconst 2, 1) := by decide +kernel
theorem dX12_headAt_59 : decode cX12_headAt 59 = .ok (.ireturn, 1) := by decide +kernel
theorem dX12_headAt_60 : decode cX12_headAt 60 = .ok (.aload_n 0, 1) := by decide +kernel
theorem dX12_headAt_61 : decode cX12_headAt 61 = .ok (.ldc2_w 285, 3) := by decide +kernel
theorem dX12_headAt_64 : decode cX12_headAt 64 = .ok (.invokevirtual 205, 3) := by decide +kernel
theorem dX12_headAt_67 : decode cX12_headAt 67 = .ok (.ifCond .eq 7, 3) := by decide +kernel
theorem dX12_headAt_70 : decode cX12_headAt 70 = .ok (.iconst 3, 1) := by decide +kernel
theorem dX12_headAt_71 : decode cX12_headAt 71 = .ok (.goto 32, 3) := by decide +kernel
theorem dX12_headAt_74 : decode cX12_headAt 74 = .ok (.aload_n 0, 1) := by decide +kernel
theorem dX12_headAt_75 : decode cX12_headAt 75 = .ok (.ldc2_w 287, 3) := by decide +kernel
theorem dX12_headAt_78 : decode cX12_headAt 78 = .ok (.invokevirtual 205, 3) := by decide +kernel
theorem dX12_headAt_81 : decode cX12_headAt 81 = .ok (.ifCond .eq 7, 3) := by decide +kernel
theorem dX12_headAt_84 : decode cX12_headAt 84 = .ok (.iconst 4, 1) := by decide +kernel
theorem dX12_headAt_85 : decode cX12_headAt 85 = .ok (.goto 18, 3) := by decide +kernel
theorem dX12_headAt_88 : decode cX12_headAt 88 = .ok (.aload_n 0, 1) := by decide +kernel
theorem dX12_headAt_89 : decode cX12_headAt 89 = .ok (.ldc2_w 289, 3) := by decide +kernel
theorem dX12_headAt_92 : decode cX12_headAt 92 = .ok (.invokevirtual 205, 3) := by decide +kernel
theorem dX12_headAt_95 : decode cX12_headAt 95 = .ok (.ifCond .eq 7, 3) := by decide +kernel
theorem dX12_headAt_98 : decode cX12_headAt 98 = .ok (.iconst 5, 1) := by decide +kernel
theorem dX12_headAt_99 : decode cX12_headAt 99 = .ok (.goto 4, 3) := by decide +kernel
theorem dX12_headAt_102 : decode cX12_headAt 102 = .ok (.iconst (-1), 1) := by decide +kernel
theorem dX12_headAt_103 : decode cX12_headAt 103 = .ok (.ireturn, 1) := by decide +kernel
theorem dX12_readClause_0 : decode cX12_readClause 0 = .ok (.aload_n 0, 1) := by decide +kernel
theorem dX12_readClause_1 : decode cX12_readClause 1 = .ok (.invokevirtual 291, 3) := by decide +kernel
theorem dX12_readClause_4 : decode cX12_readClause 4 = .ok (.istore_n 1, 1) := by decide +kernel
theorem dX12_readClause_5 : decode cX12_readClause 5 = .ok (.aload_n 0, 1) := by decide +kernel
theorem dX12_readClause_6 : decode cX12_readClause 6 = .ok (.iload_n 1, 1) := by decide +kernel
theorem dX12_readClause_7 : decode cX12_readClause 7 = .ok (.iconst (-1), 1) := by decide +kernel
theorem dX12_readClause_8 : decode cX12_readClause 8 = .ok (.if_icmp .eq 16, 3) := by decide +kernel
theorem dX12_readClause_11 : decode cX12_readClause 11 = .ok (.aload_n 0, 1) := by decide +kernel
theorem dX12_readClause_12 : decode cX12_readClause 12 = .ok (.getfield 294, 3) := by decide +kernel
theorem dX12_readClause_15 : decode cX12_readClause 15 = .ok (.bipush 12, 2) := by decide +kernel
theorem dX12_readClause_17 : decode cX12_readClause 17 = .ok (.if_icmp .ge 7, 3) := by decide +kernel
theorem dX12_readClause_20 : decode cX12_readClause 20 = .ok (.iconst 1, 1) := by decide +kernel
theorem dX12_readClause_21 : decode cX12_readClause 21 = .ok (.goto 4, 3) := by decide +kernel
theorem dX12_readClause_24 : decode cX12_readClause 24 = .ok (.iconst 0, 1) := by decide +kernel
theorem dX12_readClause_25 : decode cX12_readClause 25 = .ok (.invokevirtual 182, 3) := by decide +kernel
theorem dX12_readClause_28 : decode cX12_readClause 28 = .ok (.aload_n 0, 1) := by decide +kernel
theorem dX12_readClause_29 : decode cX12_readClause 29 = .ok (.getfield 147, 3) := by decide +kernel
theorem dX12_readClause_32 : decode cX12_readClause 32 = .ok (.ifCond .eq 4, 3) := by decide +kernel
theorem dX12_readClause_35 : decode cX12_readClause 35 = .ok (.return_, 1) := by decide +kernel
theorem dX12_readClause_36 : decode cX12_readClause 36 = .ok (.bipush 8, 2) := by decide +kernel
theorem dX12_readClause_38 : decode cX12_readClause 38 = .ok (.aload_n 0, 1) := by decide +kernel
theorem dX12_readClause_39 : decode cX12_readClause 39 = .ok (.getfield 294, 3) := by decide +kernel
theorem dX12_readClause_42 : decode cX12_readClause 42 = .ok (.imul, 1) := by decide +kernel
theorem dX12_readClause_43 : decode cX12_readClause 43 = .ok (.istore_n 2, 1) := by decide +kernel
theorem dX12_readClause_44 : decode cX12_readClause 44 = .ok (.iconst 0, 1) := by decide +kernel
theorem dX12_readClause_45 : decode cX12_readClause 45 = .ok (.istore_n 3, 1) := by decide +kernel
theorem dX12_readClause_46 : decode cX12_readClause 46 = .ok (.iload_n 3, 1) := by decide +kernel
theorem dX12_readClause_47 : decode cX12_readClause 47 = .ok (.bipush 8, 2) := by decide +kernel
theorem dX12_readClause_49 : decode cX12_readClause 49 = .ok (.if_icmp .ge 18, 3) := by decide +kernel
theorem dX12_readClause_52 : decode cX12_readClause 52 = .ok (.aload_n 0, 1) := by decide +kernel
theorem dX12_readClause_53 : decode cX12_readClause 53 = .ok (.getfield 30, 3) := by decide +kernel
theorem dX12_readClause_56 : decode cX12_readClause 56 = .ok (.iload_n 2, 1) := by decide +kernel
theorem dX12_readClause_57 : decode cX12_readClause 57 = .ok (.iload_n 3, 1) := by decide +kernel
theorem dX12_readClause_58 : decode cX12_readClause 58 = .ok (.iadd, 1) := by decide +kernel
theorem dX12_readClause_59 : decode cX12_readClause 59 = .ok (.iconst 0, 1) := by decide +kernel
theorem dX12_readClause_60 : decode cX12_readClause 60 = .ok (.iastore, 1) := by decide +kernel
theorem dX12_readClause_61 : decode cX12_readClause 61 = .ok (.iinc 3 1, 3) := by decide +kernel
theorem dX12_readClause_64 : decode cX12_readClause 64 = .ok (.goto (-18), 3) := by decide +kernel
theorem dX12_readClause_67 : decode cX12_readClause 67 = .ok (.aload_n 0, 1) := by decide +kernel
theorem dX12_readClause_68 : decode cX12_readClause 68 = .ok (.getfield 30, 3) := by decide +kernel
theorem dX12_readClause_71 : decode cX12_readClause 71 = .ok (.iload_n 2, 1) := by decide +kernel
theorem dX12_readClause_72 : decode cX12_readClause 72 = .ok (.iload_n 1, 1) := by decide +kernel
theorem dX12_readClause_73 : decode cX12_readClause 73 = .ok (.iastore, 1) := by decide +kernel
theorem dX12_readClause_74 : decode cX12_readClause 74 = .ok (.aload_n 0, 1) := by decide +kernel
theorem dX12_readClause_75 : decode cX12_readClause 75 = .ok (.dup, 1) := by decide +kernel
theorem dX12_readClause_76 : decode cX12_readClause 76 = .ok (.getfield 294, 3) := by decide +kernel
theorem dX12_readClause_79 : decode cX12_readClause 79 = .ok (.iconst 1, 1) := by decide +kernel
theorem dX12_readClause_80 : decode cX12_readClause 80 = .ok (.iadd, 1) := by decide +kernel
theorem dX12_readClause_81 : decode cX12_readClause 81 = .ok (.putfield 294, 3) := by decide +kernel
theorem dX12_readClause_84 : decode cX12_readClause 84 = .ok (.aload_n 0, 1) := by decide +kernel
theorem dX12_readClause_85 : decode cX12_readClause 85 = .ok (.getfield 30, 3) := by decide +kernel
theorem dX12_readClause_88 : decode cX12_readClause 88 = .ok (.iload_n 2, 1) := by decide +kernel
theorem dX12_readClause_89 : decode cX12_readClause 89 = .ok (.iconst 3, 1) := by decide +kernel
theorem dX12_readClause_90 : decode cX12_readClause 90 = .ok (.iadd, 1) := by decide +kernel
theorem dX12_readClause_91 : decode cX12_readClause 91 = .ok (.aload_n 0, 1) := by decide +kernel
theorem dX12_readClause_92 : decode cX12_readClause 92 = .ok (.getfield 186, 3) := by decide +kernel
theorem dX12_readClause_95 : decode cX12_readClause 95 = .ok (.iastore, 1) := by decide +kernel
theorem dX12_readClause_96 : decode cX12_readClause 96 = .ok (.aload_n 0, 1) := by decide +kernel
theorem dX12_readClause_97 : decode cX12_readClause 97 = .ok (.iconst 0, 1) := by decide +kernel
theorem dX12_readClause_98 : decode cX12_readClause 98 = .ok (.invokevirtual 297, 3) := by decide +kernel
theorem dX12_readClause_101 : decode cX12_readClause 101 = .ok (.aload_n 0, 1) := by decide +kernel
theorem dX12_readClause_102 : decode cX12_readClause 102 = .ok (.getfield 30, 3) := by decide +kernel
theorem dX12_readClause_105 : decode cX12_readClause 105 = .ok (.iload_n 2, 1) := by decide +kernel
theorem dX12_readClause_106 : decode cX12_readClause 106 = .ok (.iconst 4, 1) := by decide +kernel
theorem dX12_readClause_107 : decode cX12_readClause 107 = .ok (.iadd, 1) := by decide +kernel
theorem dX12_readClause_108 : decode cX12_readClause 108 = .ok (.aload_n 0, 1) := by decide +kernel
theorem dX12_readClause_109 : decode cX12_readClause 109 = .ok (.getfield 186, 3) := by decide +kernel
theorem dX12_readClause_112 : decode cX12_readClause 112 = .ok (.iastore, 1) := by decide +kernel
theorem dX12_readClause_113 : decode cX12_readClause 113 = .ok (.aload_n 0, 1) := by decide +kernel
theorem dX12_readClause_114 : decode cX12_readClause 114 = .ok (.getfield 30, 3) := by decide +kernel
theorem dX12_readClause_117 : decode cX12_readClause 117 = .ok (.iload_n 2, 1) := by decide +kernel
theorem dX12_readClause_118 : decode cX12_readClause 118 = .ok (.iconst 5, 1) := by decide +kernel
theorem dX12_readClause_119 : decode cX12_readClause 119 = .ok (.iadd, 1) := by decide +kernel
theorem dX12_readClause_120 : decode cX12_readClause 120 = .ok (.aload_n 0, 1) := by decide +kernel
theorem dX12_readClause_121 : decode cX12_readClause 121 = .ok (.getfield 186, 3) := by decide +kernel
theorem dX12_readClause_124 : decode cX12_readClause 124 = .ok (.iastore, 1) := by decide +kernel
theorem dX12_readClause_125 : decode cX12_readClause 125 = .ok (.aload_n 0, 1) := by decide +kernel
theorem dX12_readClause_126 : decode cX12_readClause 126 = .ok (.getfield 147, 3) := by decide +kernel
theorem dX12_readClause_129 : decode cX12_readClause 129 = .ok (.ifCond .ne 22, 3) := by decide +kernel
theorem dX12_readClause_132 : decode cX12_readClause 132 = .ok (.aload_n 0, 1) := by decide +kernel
theorem dX12_readClause_133 : decode cX12_readClause 133 = .ok (.ldc2_w 300, 3) := by decide +kernel
theorem dX12_readClause_136 : decode cX12_readClause 136 = .ok (.invokevirtual 205, 3) := by decide +kernel
theorem dX12_readClause_139 : decode cX12_readClause 139 = .ok (.ifCond .eq 12, 3) := by decide +kernel
theorem dX12_readClause_142 : decode cX12_readClause 142 = .ok (.aload_n 0, 1) := by decide +kernel
theorem dX12_readClause_143 : decode cX12_readClause 143 = .ok (.invokevirtual 151, 3) := by decide +kernel
theorem dX12_readClause_146 : decode cX12_readClause 146 = .ok (.aload_n 0, 1) := by decide +kernel
theorem dX12_readClause_147 : decode cX12_readClause 147 = .ok (.iconst 1, 1) := by decide +kernel
theorem dX12_readClause_148 : decode cX12_readClause 148 = .ok (.invokevirtual 297, 3) := by decide +kernel
theorem dX12_readClause_151 : decode cX12_readClause 151 = .ok (.aload_n 0, 1) := by decide +kernel
theorem dX12_readClause_152 : decode cX12_readClause 152 = .ok (.getfield 30, 3) := by decide +kernel
theorem dX12_readClause_155 : decode cX12_readClause 155 = .ok (.iload_n 2, 1) := by decide +kernel
theorem dX12_readClause_156 : decode cX12_readClause 156 = .ok (.bipush 6, 2) := by decide +kernel
theorem dX12_readClause_158 : decode cX12_readClause 158 = .ok (.iadd, 1) := by decide +kernel
theorem dX12_readClause_159 : decode cX12_readClause 159 = .ok (.aload_n 0, 1) := by decide +kernel
theorem dX12_readClause_160 : decode cX12_readClause 160 = .ok (.getfield 186, 3) := by decide +kernel
theorem dX12_readClause_163 : decode cX12_readClause 163 = .ok (.iastore, 1) := by decide +kernel
theorem dX12_readClause_164 : decode cX12_readClause 164 = .ok (.return_, 1) := by decide +kernel
theorem dX12_law_0 : decode cX12_law 0 = .ok (.aload_n 0, 1) := by decide +kernel
theorem dX12_law_1 : decode cX12_law 1 = .ok (.iconst 0, 1) := by decide +kernel
theorem dX12_law_2 : decode cX12_law 2 = .ok (.putfield 76, 3) := by decide +kernel
theorem dX12_law_5 : decode cX12_law 5 = .ok (.aload_n 0, 1) := by decide +kernel
theorem dX12_law_6 : decode cX12_law 6 = .ok (.invokevirtual 302, 3) := by decide +kernel
theorem dX12_law_9 : decode cX12_law 9 = .ok (.aload_n 0, 1) := by decide +kernel
theorem dX12_law_10 : decode cX12_law 10 = .ok (.iconst 0, 1) := by decide +kernel
theorem dX12_law_11 : decode cX12_law 11 = .ok (.putfield 294, 3) := by decide +kernel
theorem dX12_law_14 : decode cX12_law 14 = .ok (.aload_n 0, 1) := by decide +kernel
theorem dX12_law_15 : decode cX12_law 15 = .ok (.iconst 0, 1) := by decide +kernel
theorem dX12_law_16 : decode cX12_law 16 = .ok (.putfield 186, 3) := by decide +kernel
theorem dX12_law_19 : decode cX12_law 19 = .ok (.aload_n 0, 1) := by decide +kernel
theorem dX12_law_20 : decode cX12_law 20 = .ok (.iconst 0, 1) := by decide +kernel
theorem dX12_law_21 : decode cX12_law 21 = .ok (.putfield 231, 3) := by decide +kernel
theorem dX12_law_24 : decode cX12_law 24 = .ok (.aload_n 0, 1) := by decide +kernel
theorem dX12_law_25 : decode cX12_law 25 = .ok (.invokevirtual 305, 3) := by decide +kernel
theorem dX12_law_28 : decode cX12_law 28 = .ok (.aload_n 0, 1) := by decide +kernel
theorem dX12_law_29 : decode cX12_law 29 = .ok (.getfield 147, 3) := by decide +kernel
theorem dX12_law_32 : decode cX12_law 32 = .ok (.ifCond .ne 23, 3) := by decide +kernel
theorem dX12_law_35 : decode cX12_law 35 = .ok (.aload_n 0, 1) := by decide +kernel
theorem dX12_law_36 : decode cX12_law 36 = .ok (.bipush 59, 2) := by decide +kernel
theorem dX12_law_38 : decode cX12_law 38 = .ok (.invokevirtual 234, 3) := by decide +kernel
theorem dX12_law_41 : decode cX12_law 41 = .ok (.ifCond .eq 14, 3) := by decide +kernel
theorem dX12_law_44 : decode cX12_law 44 = .ok (.aload_n 0, 1) := by decide +kernel
theorem dX12_law_45 : decode cX12_law 45 = .ok (.invokevirtual 151, 3) := by decide +kernel
theorem dX12_law_48 : decode cX12_law 48 = .ok (.aload_n 0, 1) := by decide +kernel
theorem dX12_law_49 : decode cX12_law 49 = .ok (.invokevirtual 305, 3) := by decide +kernel
theorem dX12_law_52 : decode cX12_law 52 = .ok (.goto (-24), 3) := by decide +kernel
theorem dX12_law_55 : decode cX12_law 55 = .ok (.aload_n 0, 1) := by decide +kernel
theorem dX12_law_56 : decode cX12_law 56 = .ok (.getfield 147, 3) := by decide +kernel
theorem dX12_law_59 : decode cX12_law 59 = .ok (.ifCond .ne 15, 3) := by decide +kernel
theorem dX12_law_62 : decode cX12_law 62 = .ok (.aload_n 0, 1) := by decide +kernel
theorem dX12_law_63 : decode cX12_law 63 = .ok (.getfield 167, 3) := by decide +kernel
theorem dX12_law_66 : decode cX12_law 66 = .ok (.ifCond .eq 8, 3) := by decide +kernel
theorem dX12_law_69 : decode cX12_law 69 = .ok (.aload_n 0, 1) := by decide +kernel
theorem dX12_law_70 : decode cX12_law 70 = .ok (.iconst 0, 1) := by decide +kernel
theorem dX12_law_71 : decode cX12_law 71 = .ok (.invokevirtual 182, 3) := by decide +kernel
theorem dX12_law_74 : decode cX12_law 74 = .ok (.aload_n 0, 1) := by decide +kernel
theorem dX12_law_75 : decode cX12_law 75 = .ok (.iconst 0, 1) := by decide +kernel
theorem dX12_law_76 : decode cX12_law 76 = .ok (.putfield 134, 3) := by decide +kernel
theorem dX12_law_79 : decode cX12_law 79 = .ok (.aload_n 0, 1) := by decide +kernel
theorem dX12_law_80 : decode cX12_law 80 = .ok (.getfield 147, 3) := by decide +kernel
theorem dX12_law_83 : decode cX12_law 83 = .ok (.ifCond .eq 10, 3) := by decide +kernel
theorem dX12_law_86 : decode cX12_law 86 = .ok (.aload_n 0, 1) := by decide +kernel
theorem dX12_law_87 : decode cX12_law 87 = .ok (.bipush (-6), 2) := by decide +kernel
theorem dX12_law_89 : decode cX12_law 89 = .ok (.invokevirtual 86, 3) := by decide +kernel
theorem dX12_law_92 : decode cX12_law 92 = .ok (.ireturn, 1) := by decide +kernel
theorem dX12_law_93 : decode cX12_law 93 = .ok (.aload_n 0, 1) := by decide +kernel
theorem dX12_law_94 : decode cX12_law 94 = .ok (.getfield 13, 3) := by decide +kernel
theorem dX12_law_97 : decode cX12_law 97 = .ok (.sipush 901, 3) := by decide +kernel
theorem dX12_law_100 : decode cX12_law 100 = .ok (.aload_n 0, 1) := by decide +kernel
theorem dX12_law_101 : decode cX12_law 101 = .ok (.getfield 294, 3) := by decide +kernel
theorem dX12_law_104 : decode cX12_law 104 = .ok (.iastore, 1) := by decide +kernel
theorem dX12_law_105 : decode cX12_law 105 = .ok (.iconst 0, 1) := by decide +kernel
theorem dX12_law_106 : decode cX12_law 106 = .ok (.istore_n 1, 1) := by decide +kernel
theorem dX12_law_107 : decode cX12_law 107 = .ok (.iload_n 1, 1) := by decide +kernel
theorem dX12_law_108 : decode cX12_law 108 = .ok (.bipush 8, 2) := by decide +kernel
theorem dX12_law_110 : decode cX12_law 110 = .ok (.aload_n 0, 1) := by decide +kernel
theorem dX12_law_111 : decode cX12_law 111 = .ok (.getfield 294, 3) := by decide +kernel
theorem dX12_law_114 : decode cX12_law 114 = .ok (.imul, 1) := by decide +kernel
theorem dX12_law_115 : decode cX12_law 115 = .ok (.if_icmp .ge 25, 3) := by decide +kernel
theorem dX12_law_118 : decode cX12_law 118 = .ok (.aload_n 0, 1) := by decide +kernel
theorem dX12_law_119 : decode cX12_law 119 = .ok (.getfield 13, 3) := by decide +kernel
theorem dX12_law_122 : decode cX12_law 122 = .ok (.sipush 902, 3) := by decide +kernel
theorem dX12_law_125 : decode cX12_law 125 = .ok (.iload_n 1, 1) := by decide +kernel
theorem dX12_law_126 : decode cX12_law 126 = .ok (.iadd, 1) := by decide +kernel
theorem dX12_law_127 : decode cX12_law 127 = .ok (.aload_n 0, 1) := by decide +kernel
theorem dX12_law_128 : decode cX12_law 128 = .ok (.getfield 30, 3) := by decide +kernel
theorem dX12_law_131 : decode cX12_law 131 = .ok (.iload_n 1, 1) := by decide +kernel
theorem dX12_law_132 : decode cX12_law 132 = .ok (.iaload, 1) := by decide +kernel
theorem dX12_law_133 : decode cX12_law 133 = .ok (.iastore, 1) := by decide +kernel
theorem dX12_law_134 : decode cX12_law 134 = .ok (.iinc 1 1, 3) := by decide +kernel
theorem dX12_law_137 : decode cX12_law 137 = .ok (.goto (-30), 3) := by decide +kernel
theorem dX12_law_140 : decode cX12_law 140 = .ok (.iconst 0, 1) := by decide +kernel
theorem dX12_law_141 : decode cX12_law 141 = .ok (.istore_n 1, 1) := by decide +kernel
theorem dX12_law_142 : decode cX12_law 142 = .ok (.iload_n 1, 1) := by decide +kernel
theorem dX12_law_143 : decode cX12_law 143 = .ok (.aload_n 0, 1) := by decide +kernel
theorem dX12_law_144 : decode cX12_law 144 = .ok (.getfield 186, 3) := by decide +kernel
theorem dX12_law_147 : decode cX12_law 147 = .ok (.if_icmp .ge 47, 3) := by decide +kernel
theorem dX12_law_150 : decode cX12_law 150 = .ok (.aload_n 0, 1) := by decide +kernel
theorem dX12_law_151 : decode cX12_law 151 = .ok (.getfield 13, 3) := by decide +kernel
theorem dX12_law_154 : decode cX12_law 154 = .ok (.sipush 998, 3) := by decide +kernel
theorem dX12_law_157 : decode cX12_law 157 = .ok (.iconst 2, 1) := by decide +kernel
theorem dX12_law_158 : decode cX12_law 158 = .ok (.iload_n 1, 1) := by decide +kernel
theorem dX12_law_159 : decode cX12_law 159 = .ok (.imul, 1) := by decide +kernel
theorem dX12_law_160 : decode cX12_law 160 = .ok (.iadd, 1) := by decide +kernel
theorem dX12_law_161 : decode cX12_law 161 = .ok (.aload_n 0, 1) := by decide +kernel
theorem dX12_law_162 : decode cX12_law 162 = .ok (.getfield 33, 3) := by decide +kernel
theorem dX12_law_165 : decode cX12_law 165 = .ok (.iload_n 1, 1) := by decide +kernel
theorem dX12_law_166 : decode cX12_law 166 = .ok (.iaload, 1) := by decide +kernel
theorem dX12_law_167 : decode cX12_law 167 = .ok (.iastore, 1) := by decide +kernel
theorem dX12_law_168 : decode cX12_law 168 = .ok (.aload_n 0, 1) := by decide +kernel
theorem dX12_law_169 : decode cX12_law 169 = .ok (.getfield 13, 3) := by decide +kernel
theorem dX12_law_172 : decode cX12_law 172 = .ok (.sipush 998, 3) := by decide +kernel
theorem dX12_law_175 : decode cX12_law 175 = .ok (.iconst 2, 1) := by decide +kernel
theorem dX12_law_176 : decode cX12_law 176 = .ok (.iload_n 1, 1) := by decide +kernel
theorem dX12_law_177 : decode cX12_law 177 = .ok (.imul, 1) := by decide +kernel
theorem dX12_law_178 : decode cX12_law 178 = .ok (.iadd, 1) := by decide +kernel
theorem dX12_law_179 : decode cX12_law 179 = .ok (.iconst 1, 1) := by decide +kernel
theorem dX12_law_180 : decode cX12_law 180 = .ok (.iadd, 1) := by decide +kernel
theorem dX12_law_181 : decode cX12_law 181 = .ok (.aload_n 0, 1) := by decide +kernel
theorem dX12_law_182 : decode cX12_law 182 = .ok (.getfield 36, 3) := by decide +kernel
theorem dX12_law_185 : decode cX12_law 185 = .ok (.iload_n 1, 1) := by decide +kernel
theorem dX12_law_186 : decode cX12_law 186 = .ok (.iaload, 1) := by decide +kernel
theorem dX12_law_187 : decode cX12_law 187 = .ok (.iastore, 1) := by decide +kernel
theorem dX12_law_188 : decode cX12_law 188 = .ok (.iinc 1 1, 3) := by decide +kernel
theorem dX12_law_191 : decode cX12_law 191 = .ok (.goto (-49), 3) := by decide +kernel
theorem dX12_law_194 : decode cX12_law 194 = .ok (.aload_n 0, 1) := by decide +kernel
theorem dX12_law_195 : decode cX12_law 195 = .ok (.aload_n 0, 1) := by decide +kernel
theorem dX12_law_196 : decode cX12_law 196 = .ok (.getfield 294, 3) := by decide +kernel
theorem dX12_law_199 : decode cX12_law 199 = .ok (.invokevirtual 86, 3) := by decide +kernel
theorem dX12_law_202 : decode cX12_law 202 = .ok (.ireturn, 1) := by decide +kernel
theorem dX12_reckon_0 : decode cX12_reckon 0 = .ok (.iload_n 1, 1) := by decide +kernel
theorem dX12_reckon_1 : decode cX12_reckon 1 = .ok (.tableswitch 112 20 25 #[39, 44, 49, 54, 86, 99], 39) := by decide +kernel
theorem dX12_reckon_40 : decode cX12_reckon 40 = .ok (.lload_n 2, 1) := by decide +kernel
theorem dX12_reckon_41 : decode cX12_reckon 41 = .ok (.lload 4, 2) := by decide +kernel
theorem dX12_reckon_43 : decode cX12_reckon 43 = .ok (.ladd, 1) := by decide +kernel
theorem dX12_reckon_44 : decode cX12_reckon 44 = .ok (.lreturn, 1) := by decide +kernel
theorem dX12_reckon_45 : decode cX12_reckon 45 = .ok (.lload_n 2, 1) := by decide +kernel
theorem dX12_reckon_46 : decode cX12_reckon 46 = .ok (.lload 4, 2) := by decide +kernel
theorem dX12_reckon_48 : decode cX12_reckon 48 = .ok (.lsub, 1) := by decide +kernel
theorem dX12_reckon_49 : decode cX12_reckon 49 = .ok (.lreturn, 1) := by decide +kernel
theorem dX12_reckon_50 : decode cX12_reckon 50 = .ok (.lload_n 2, 1) := by decide +kernel
theorem dX12_reckon_51 : decode cX12_reckon 51 = .ok (.lload 4, 2) := by decide +kernel
theorem dX12_reckon_53 : decode cX12_reckon 53 = .ok (.lmul, 1) := by decide +kernel
theorem dX12_reckon_54 : decode cX12_reckon 54 = .ok (.lreturn, 1) := by decide +kernel
theorem dX12_reckon_55 : decode cX12_reckon 55 = .ok (.aload_n 0, 1) := by decide +kernel
theorem dX12_reckon_56 : decode cX12_reckon 56 = .ok (.lload 4, 2) := by decide +kernel
theorem dX12_reckon_58 : decode cX12_reckon 58 = .ok (.lconst 0, 1) := by decide +kernel
theorem dX12_reckon_59 : decode cX12_reckon 59 = .ok (.lcmp, 1) := by decide +kernel
theorem dX12_reckon_60 : decode cX12_reckon 60 = .ok (.ifCond .ne 7, 3) := by decide +kernel
theorem dX12_reckon_63 : decode cX12_reckon 63 = .ok (.iconst 1, 1) := by decide +kernel
theorem dX12_reckon_64 : decode cX12_reckon 64 = .ok (.goto 4, 3) := by decide +kernel
theorem dX12_reckon_67 : decode cX12_reckon 67 = .ok (.iconst 0, 1) := by decide +kernel
theorem dX12_reckon_68 : decode cX12_reckon 68 = .ok (.putfield 308, 3) := by decide +kernel
theorem dX12_reckon_71 : decode cX12_reckon 71 = .ok (.aload_n 0, 1) := by decide +kernel
theorem dX12_reckon_72 : decode cX12_reckon 72 = .ok (.getfield 308, 3) := by decide +kernel
theorem dX12_reckon_75 : decode cX12_reckon 75 = .ok (.ifCond .eq 7, 3) := by decide +kernel
theorem dX12_reckon_78 : decode cX12_reckon 78 = .ok (.lconst 0, 1) := by decide +kernel
theorem dX12_reckon_79 : decode cX12_reckon 79 = .ok (.goto 7, 3) := by decide +kernel
theorem dX12_reckon_82 : decode cX12_reckon 82 = .ok (.lload_n 2, 1) := by decide +kernel
theorem dX12_reckon_83 : decode cX12_reckon 83 = .ok (.lload 4, 2) := by decide +kernel
theorem dX12_reckon_85 : decode cX12_reckon 85 = .ok (.ldiv, 1) := by decide +kernel
theorem dX12_reckon_86 : decode cX12_reckon 86 = .ok (.lreturn, 1) := by decide +kernel
theorem dX12_reckon_87 : decode cX12_reckon 87 = .ok (.lload_n 2, 1) := by decide +kernel
theorem dX12_reckon_88 : decode cX12_reckon 88 = .ok (.lload 4, 2) := by decide +kernel
theorem dX12_reckon_90 : decode cX12_reckon 90 = .ok (.lcmp, 1) := by decide +kernel
theorem dX12_reckon_91 : decode cX12_reckon 91 = .ok (.ifCond .ge 7, 3) := by decide +kernel
theorem dX12_reckon_94 : decode cX12_reckon 94 = .ok (.lconst 1, 1) := by decide +kernel
theorem dX12_reckon_95 : decode cX12_reckon 95 = .ok (.goto 4, 3) := by decide +kernel
theorem dX12_reckon_98 : decode cX12_reckon 98 = .ok (.lconst 0, 1) := by decide +kernel
theorem dX12_reckon_99 : decode cX12_reckon 99 = .ok (.lreturn, 1) := by decide +kernel
theorem dX12_reckon_100 : decode cX12_reckon 100 = .ok (.lload_n 2, 1) := by decide +kernel
theorem dX12_reckon_101 : decode cX12_reckon 101 = .ok (.lload 4, 2) := by decide +kernel
theorem dX12_reckon_103 : decode cX12_reckon 103 = .ok (.lcmp, 1) := by decide +kernel
theorem dX12_reckon_104 : decode cX12_reckon 104 = .ok (.ifCond .le 7, 3) := by decide +kernel
theorem dX12_reckon_107 : decode cX12_reckon 107 = .ok (.lconst 1, 1) := by decide +kernel
theorem dX12_reckon_108 : decode cX12_reckon 108 = .ok (.goto 4, 3) := by decide +kernel
theorem dX12_reckon_111 : decode cX12_reckon 111 = .ok (.lconst 0, 1) := by decide +kernel
theorem dX12_reckon_112 : decode cX12_reckon 112 = .ok (.lreturn, 1) := by decide +kernel
theorem dX12_reckon_113 : decode cX12_reckon 113 = .ok (.lload_n 2, 1) := by decide +kernel
theorem dX12_reckon_114 : decode cX12_reckon 114 = .ok (.lload 4, 2) := by decide +kernel
theorem dX12_reckon_116 : decode cX12_reckon 116 = .ok (.lcmp, 1) := by decide +kernel
theorem dX12_reckon_117 : decode cX12_reckon 117 = .ok (.ifCond .ne 7, 3) := by decide +kernel
theorem dX12_reckon_120 : decode cX12_reckon 120 = .ok (.lconst 1, 1) := by decide +kernel
theorem dX12_reckon_121 : decode cX12_reckon 121 = .ok (.goto 4, 3) := by decide +kernel
theorem dX12_reckon_124 : decode cX12_reckon 124 = .ok (.lconst 0, 1) := by decide +kernel
theorem dX12_reckon_125 : decode cX12_reckon 125 = .ok (.lreturn, 1) := by decide +kernel
theorem dX12_reckonAll_0 : decode cX12_reckonAll 0 = .ok (.aload_n 0, 1) := by decide +kernel
theorem dX12_reckonAll_1 : decode cX12_reckonAll 1 = .ok (.iconst 0, 1) := by decide +kernel
theorem dX12_reckonAll_2 : decode cX12_reckonAll 2 = .ok (.putfield 308, 3) := by decide +kernel
theorem dX12_reckonAll_5 : decode cX12_reckonAll 5 = .ok (.iconst 0, 1) := by decide +kernel
theorem dX12_reckonAll_6 : decode cX12_reckonAll 6 = .ok (.istore_n 3, 1) := by decide +kernel
theorem dX12_reckonAll_7 : decode cX12_reckonAll 7 = .ok (.iload_n 1, 1) := by decide +kernel
theorem dX12_reckonAll_8 : decode cX12_reckonAll 8 = .ok (.istore 4, 2) := by decide +kernel
theorem dX12_reckonAll_10 : decode cX12_reckonAll 10 = .ok (.iload 4, 2) := by decide +kernel
theorem dX12_reckonAll_12 : decode cX12_reckonAll 12 = .ok (.iload_n 2, 1) := by decide +kernel
theorem dX12_reckonAll_13 : decode cX12_reckonAll 13 = .ok (.if_icmp .ge 224, 3) := by decide +kernel
theorem dX12_reckonAll_16 : decode cX12_reckonAll 16 = .ok (.aload_n 0, 1) := by decide +kernel
theorem dX12_reckonAll_17 : decode cX12_reckonAll 17 = .ok (.getfield 308, 3) := by decide +kernel
theorem dX12_reckonAll_20 : decode cX12_reckonAll 20 = .ok (.ifCond .ne 217, 3) := by decide +kernel
theorem dX12_reckonAll_23 : decode cX12_reckonAll 23 = .ok (.aload_n 0, 1) := by decide +kernel
theorem dX12_reckonAll_24 : decode cX12_reckonAll 24 = .ok (.getfield 13, 3) := by decide +kernel
theorem dX12_reckonAll_27 : decode cX12_reckonAll 27 = .ok (.sipush 998, 3) := by decide +kernel
theorem dX12_reckonAll_30 : decode cX12_reckonAll 30 = .ok (.iconst 2, 1) := by decide +kernel
theorem dX12_reckonAll_31 : decode cX12_reckonAll 31 = .ok (.iload 4, 2) := by decide +kernel
theorem dX12_reckonAll_33 : decode cX12_reckonAll 33 = .ok (.imul, 1) := by decide +kernel
theorem dX12_reckonAll_34 : decode cX12_reckonAll 34 = .ok (.iadd, 1) := by decide +kernel
theorem dX12_reckonAll_35 : decode cX12_reckonAll 35 = .ok (.iaload, 1) := by decide +kernel
theorem dX12_reckonAll_36 : decode cX12_reckonAll 36 = .ok (.istore 5, 2) := by decide +kernel
theorem dX12_reckonAll_38 : decode cX12_reckonAll 38 = .ok (.aload_n 0, 1) := by decide +kernel
theorem dX12_reckonAll_39 : decode cX12_reckonAll 39 = .ok (.getfield 13, 3) := by decide +kernel
theorem dX12_reckonAll_42 : decode cX12_reckonAll 42 = .ok (.sipush 998, 3) := by decide +kernel
theorem dX12_reckonAll_45 : decode cX12_reckonAll 45 = .ok (.iconst 2, 1) := by decide +kernel
theorem dX12_reckonAll_46 : decode cX12_reckonAll 46 = .ok (.iload 4, 2) := by decide +kernel
theorem dX12_reckonAll_48 : decode cX12_reckonAll 48 = .ok (.imul, 1) := by decide +kernel
theorem dX12_reckonAll_49 : decode cX12_reckonAll 49 = .ok (.iadd, 1) := by decide +kernel
theorem dX12_reckonAll_50 : decode cX12_reckonAll 50 = .ok (.iconst 1, 1) := by decide +kernel
theorem dX12_reckonAll_51 : decode cX12_reckonAll 51 = .ok (.iadd, 1) := by decide +kernel
theorem dX12_reckonAll_52 : decode cX12_reckonAll 52 = .ok (.iaload, 1) := by decide +kernel
theorem dX12_reckonAll_53 : decode cX12_reckonAll 53 = .ok (.istore 6, 2) := by decide +kernel
theorem dX12_reckonAll_55 : decode cX12_reckonAll 55 = .ok (.iinc 4 1, 3) := by decide +kernel
theorem dX12_reckonAll_58 : decode cX12_reckonAll 58 = .ok (.iload 5, 2) := by decide +kernel
theorem dX12_reckonAll_60 : decode cX12_reckonAll 60 = .ok (.bipush 20, 2) := by decide +kernel
theorem dX12_reckonAll_62 : decode cX12_reckonAll 62 = .ok (.if_icmp .ge 33, 3) := by decide +kernel
theorem dX12_reckonAll_65 : decode cX12_reckonAll 65 = .ok (.aload_n 0, 1) := by decide +kernel
theorem dX12_reckonAll_66 : decode cX12_reckonAll 66 = .ok (.getfield 49, 3) := by decide +kernel
theorem dX12_reckonAll_69 : decode cX12_reckonAll 69 = .ok (.iload_n 3, 1) := by decide +kernel
theorem dX12_reckonAll_70 : decode cX12_reckonAll 70 = .ok (.iload 5, 2) := by decide +kernel
theorem dX12_reckonAll_72 : decode cX12_reckonAll 72 = .ok (.ifCond .ne 9, 3) := by decide +kernel
theorem dX12_reckonAll_75 : decode cX12_reckonAll 75 = .ok (.iload 6, 2) := by decide +kernel
theorem dX12_reckonAll_77 : decode cX12_reckonAll 77 = .ok (.i2l, 1) := by decide +kernel
theorem dX12_reckonAll_78 : decode cX12_reckonAll 78 = .ok (.goto 10, 3) := by decide +kernel
theorem dX12_reckonAll_81 : decode cX12_reckonAll 81 = .ok (.aload_n 0, 1) := by decide +kernel
theorem dX12_reckonAll_82 : decode cX12_reckonAll 82 = .ok (.getfield 45, 3) := by decide +kernel
theorem dX12_reckonAll_85 : decode cX12_reckonAll 85 = .ok (.iload 5, 2) := by decide +kernel
theorem dX12_reckonAll_87 : decode cX12_reckonAll 87 = .ok (.laload, 1) := by decide +kernel
theorem dX12_reckonAll_88 : decode cX12_reckonAll 88 = .ok (.lastore, 1) := by decide +kernel
theorem dX12_reckonAll_89 : decode cX12_reckonAll 89 = .ok (.iinc 3 1, 3) := by decide +kernel
theorem dX12_reckonAll_92 : decode cX12_reckonAll 92 = .ok (.goto 142, 3) := by decide +kernel
theorem dX12_reckonAll_95 : decode cX12_reckonAll 95 = .ok (.iload 5, 2) := by decide +kernel
theorem dX12_reckonAll_97 : decode cX12_reckonAll 97 = .ok (.bipush 27, 2) := by decide +kernel
theorem dX12_reckonAll_99 : decode cX12_reckonAll 99 = .ok (.if_icmp .ge 73, 3) := by decide +kernel
theorem dX12_reckonAll_102 : decode cX12_reckonAll 102 = .ok (.iinc 3 (-1), 3) := by decide +kernel
theorem dX12_reckonAll_105 : decode cX12_reckonAll 105 = .ok (.aload_n 0, 1) := by decide +kernel
theorem dX12_reckonAll_106 : decode cX12_reckonAll 106 = .ok (.getfield 49, 3) := by decide +kernel
theorem dX12_reckonAll_109 : decode cX12_reckonAll 109 = .ok (.iload_n 3, 1) := by decide +kernel
theorem dX12_reckonAll_110 : decode cX12_reckonAll 110 = .ok (.iconst 1, 1) := by decide +kernel
theorem dX12_reckonAll_111 : decode cX12_reckonAll 111 = .ok (.isub, 1) := by decide +kernel
theorem dX12_reckonAll_112 : decode cX12_reckonAll 112 = .ok (.aload_n 0, 1) := by decide +kernel
theorem dX12_reckonAll_113 : decode cX12_reckonAll 113 = .ok (.iload 5, 2) := by decide +kernel
theorem dX12_reckonAll_115 : decode cX12_reckonAll 115 = .ok (.aload_n 0, 1) := by decide +kernel
theorem dX12_reckonAll_116 : decode cX12_reckonAll 116 = .ok (.getfield 49, 3) := by decide +kernel
theorem dX12_reckonAll_119 : decode cX12_reckonAll 119 = .ok (.iload_n 3, 1) := by decide +kernel
theorem dX12_reckonAll_120 : decode cX12_reckonAll 120 = .ok (.iconst 1, 1) := by decide +kernel
theorem dX12_reckonAll_121 : decode cX12_reckonAll 121 = .ok (.isub, 1) := by decide +kernel
theorem dX12_reckonAll_122 : decode cX12_reckonAll 122 = .ok (.laload, 1) := by decide +kernel
theorem dX12_reckonAll_123 : decode cX12_reckonAll 123 = .ok (.aload_n 0, 1) := by decide +kernel
theorem dX12_reckonAll_124 : decode cX12_reckonAll 124 = .ok (.getfield 49, 3) := by decide +kernel
theorem dX12_reckonAll_127 : decode cX12_reckonAll 127 = .ok (.iload_n 3, 1) := by decide +kernel
theorem dX12_reckonAll_128 : decode cX12_reckonAll 128 = .ok (.laload, 1) := by decide +kernel
theorem dX12_reckonAll_129 : decode cX12_reckonAll 129 = .ok (.invokevirtual 311, 3) := by decide +kernel
theorem dX12_reckonAll_132 : decode cX12_reckonAll 132 = .ok (.lastore, 1) := by decide +kernel
theorem dX12_reckonAll_133 : decode cX12_reckonAll 133 = .ok (.aload_n 0, 1) := by decide +kernel
theorem dX12_reckonAll_134 : decode cX12_reckonAll 134 = .ok (.aload_n 0, 1) := by decide +kernel
theorem dX12_reckonAll_135 : decode cX12_reckonAll 135 = .ok (.getfield 308, 3) := by decide +kernel
theorem dX12_reckonAll_138 : decode cX12_reckonAll 138 = .ok (.ifCond .ne 23, 3) := by decide +kernel
theorem dX12_reckonAll_141 : decode cX12_reckonAll 141 = .ok (.aload_n 0, 1) := by decide +kernel
theorem dX12_reckonAll_142 : decode cX12_reckonAll 142 = .ok (.getfield 49, 3) := by decide +kernel
theorem dX12_reckonAll_145 : decode cX12_reckonAll 145 = .ok (.iload_n 3, 1) := by decide +kernel
theorem dX12_reckonAll_146 : decode cX12_reckonAll 146 = .ok (.iconst 1, 1) := by decide +kernel
theorem dX12_reckonAll_147 : decode cX12_reckonAll 147 = .ok (.isub, 1) := by decide +kernel
theorem dX12_reckonAll_148 : decode cX12_reckonAll 148 = .ok (.laload, 1) := by decide +kernel
theorem dX12_reckonAll_149 : decode cX12_reckonAll 149 = .ok (.ldc2_w 315, 3) := by decide +kernel
theorem dX12_reckonAll_152 : decode cX12_reckonAll 152 = .ok (.ldc2_w 317, 3) := by decide +kernel
theorem dX12_reckonAll_155 : decode cX12_reckonAll 155 = .ok (.invokestatic 82, 3) := by decide +kernel
theorem dX12_reckonAll_158 : decode cX12_reckonAll 158 = .ok (.ifCond .ne 7, 3) := by decide +kernel
theorem dX12_reckonAll_161 : decode cX12_reckonAll 161 = .ok (.iconst 1, 1) := by decide +kernel
theorem dX12_reckonAll_162 : decode cX12_reckonAll 162 = .ok (.goto 4, 3) := by decide +kernel
theorem dX12_reckonAll_165 : decode cX12_reckonAll 165 = .ok (.iconst 0, 1) := by decide +kernel
theorem dX12_reckonAll_166 : decode cX12_reckonAll 166 = .ok (.putfield 308, 3) := by decide +kernel
theorem dX12_reckonAll_169 : decode cX12_reckonAll 169 = .ok (.goto 65, 3) := by decide +kernel
theorem dX12_reckonAll_172 : decode cX12_reckonAll 172 = .ok (.iload 5, 2) := by decide +kernel
theorem dX12_reckonAll_174 : decode cX12_reckonAll 174 = .ok (.bipush 27, 2) := by decide +kernel
theorem dX12_reckonAll_176 : decode cX12_reckonAll 176 = .ok (.if_icmp .ne 24, 3) := by decide +kernel
theorem dX12_reckonAll_179 : decode cX12_reckonAll 179 = .ok (.aload_n 0, 1) := by decide +kernel
theorem dX12_reckonAll_180 : decode cX12_reckonAll 180 = .ok (.getfield 49, 3) := by decide +kernel
theorem dX12_reckonAll_183 : decode cX12_reckonAll 183 = .ok (.iload_n 3, 1) := by decide +kernel
theorem dX12_reckonAll_184 : decode cX12_reckonAll 184 = .ok (.iconst 1, 1) := by decide +kernel
theorem dX12_reckonAll_185 : decode cX12_reckonAll 185 = .ok (.isub, 1) := by decide +kernel
theorem dX12_reckonAll_186 : decode cX12_reckonAll 186 = .ok (.lconst 1, 1) := by decide +kernel
theorem dX12_reckonAll_187 : decode cX12_reckonAll 187 = .ok (.aload_n 0, 1) := by decide +kernel
theorem dX12_reckonAll_188 : decode cX12_reckonAll 188 = .ok (.getfield 49, 3) := by decide +kernel
theorem dX12_reckonAll_191 : decode cX12_reckonAll 191 = .ok (.iload_n 3, 1) := by decide +kernel
theorem dX12_reckonAll_192 : decode cX12_reckonAll 192 = .ok (.iconst 1, 1) := by decide +kernel
theorem dX12_reckonAll_193 : decode cX12_reckonAll 193 = .ok (.isub, 1) := by decide +kernel
theorem dX12_reckonAll_194 : decode cX12_reckonAll 194 = .ok (.laload, 1) := by decide +kernel
theorem dX12_reckonAll_195 : decode cX12_reckonAll 195 = .ok (.lsub, 1) := by decide +kernel
theorem dX12_reckonAll_196 : decode cX12_reckonAll 196 = .ok (.lastore, 1) := by decide +kernel
theorem dX12_reckonAll_197 : decode cX12_reckonAll 197 = .ok (.goto 37, 3) := by decide +kernel
theorem dX12_reckonAll_200 : decode cX12_reckonAll 200 = .ok (.aload_n 0, 1) := by decide +kernel
theorem dX12_reckonAll_201 : decode cX12_reckonAll 201 = .ok (.getfield 49, 3) := by decide +kernel
theorem dX12_reckonAll_204 : decode cX12_reckonAll 204 = .ok (.iload_n 3, 1) := by decide +kernel
theorem dX12_reckonAll_205 : decode cX12_reckonAll 205 = .ok (.iconst 1, 1) := by decide +kernel
theorem dX12_reckonAll_206 : decode cX12_reckonAll 206 = .ok (.isub, 1) := by decide +kernel
theorem dX12_reckonAll_207 : decode cX12_reckonAll 207 = .ok (.laload, 1) := by decide +kernel
theorem dX12_reckonAll_208 : decode cX12_reckonAll 208 = .ok (.iload 5, 2) := by decide +kernel
theorem dX12_reckonAll_210 : decode cX12_reckonAll 210 = .ok (.bipush 28, 2) := by decide +kernel
theorem dX12_reckonAll_212 : decode cX12_reckonAll 212 = .ok (.if_icmp .ne 7, 3) := by decide +kernel
theorem dX12_reckonAll_215 : decode cX12_reckonAll 215 = .ok (.lconst 0, 1) := by decide +kernel
theorem dX12_reckonAll_216 : decode cX12_reckonAll 216 = .ok (.goto 4, 3) := by decide +kernel
theorem dX12_reckonAll_219 : decode cX12_reckonAll 219 = .ok (.lconst 1, 1) := by decide +kernel
theorem dX12_reckonAll_220 : decode cX12_reckonAll 220 = .ok (.lcmp, 1) := by decide +kernel
theorem dX12_reckonAll_221 : decode cX12_reckonAll 221 = .ok (.ifCond .ne 10, 3) := by decide +kernel
theorem dX12_reckonAll_224 : decode cX12_reckonAll 224 = .ok (.iload 6, 2) := by decide +kernel
theorem dX12_reckonAll_226 : decode cX12_reckonAll 226 = .ok (.istore 4, 2) := by decide +kernel
theorem dX12_reckonAll_228 : decode cX12_reckonAll 228 = .ok (.goto 6, 3) := by decide +kernel
theorem dX12_reckonAll_231 : decode cX12_reckonAll 231 = .ok (.iinc 3 (-1), 3) := by decide +kernel
theorem dX12_reckonAll_234 : decode cX12_reckonAll 234 = .ok (.goto (-224), 3) := by decide +kernel
theorem dX12_reckonAll_237 : decode cX12_reckonAll 237 = .ok (.aload_n 0, 1) := by decide +kernel
theorem dX12_reckonAll_238 : decode cX12_reckonAll 238 = .ok (.iload_n 3, 1) := by decide +kernel
theorem dX12_reckonAll_239 : decode cX12_reckonAll 239 = .ok (.ifCond .le 12, 3) := by decide +kernel
theorem dX12_reckonAll_242 : decode cX12_reckonAll 242 = .ok (.aload_n 0, 1) := by decide +kernel
theorem dX12_reckonAll_243 : decode cX12_reckonAll 243 = .ok (.getfield 49, 3) := by decide +kernel
theorem dX12_reckonAll_246 : decode cX12_reckonAll 246 = .ok (.iconst 0, 1) := by decide +kernel
theorem dX12_reckonAll_247 : decode cX12_reckonAll 247 = .ok (.laload, 1) := by decide +kernel
theorem dX12_reckonAll_248 : decode cX12_reckonAll 248 = .ok (.goto 4, 3) := by decide +kernel
theorem dX12_reckonAll_251 : decode cX12_reckonAll 251 = .ok (.lconst 0, 1) := by decide +kernel
theorem dX12_reckonAll_252 : decode cX12_reckonAll 252 = .ok (.putfield 319, 3) := by decide +kernel
theorem dX12_reckonAll_255 : decode cX12_reckonAll 255 = .ok (.return_, 1) := by decide +kernel
theorem dX12_isSo_0 : decode cX12_isSo 0 = .ok (.aload_n 0, 1) := by decide +kernel
theorem dX12_isSo_1 : decode cX12_isSo 1 = .ok (.getfield 13, 3) := by decide +kernel
theorem dX12_isSo_4 : decode cX12_isSo 4 = .ok (.iload_n 1, 1) := by decide +kernel
theorem dX12_isSo_5 : decode cX12_isSo 5 = .ok (.iconst 5, 1) := by decide +kernel
theorem dX12_isSo_6 : decode cX12_isSo 6 = .ok (.iadd, 1) := by decide +kernel
theorem dX12_isSo_7 : decode cX12_isSo 7 = .ok (.iaload, 1) := by decide +kernel
theorem dX12_isSo_8 : decode cX12_isSo 8 = .ok (.aload_n 0, 1) := by decide +kernel
theorem dX12_isSo_9 : decode cX12_isSo 9 = .ok (.getfield 13, 3) := by decide +kernel
theorem dX12_isSo_12 : decode cX12_isSo 12 = .ok (.iload_n 1, 1) := by decide +kernel
theorem dX12_isSo_13 : decode cX12_isSo 13 = .ok (.bipush 6, 2) := by decide +kernel
theorem dX12_isSo_15 : decode cX12_isSo 15 = .ok (.iadd, 1) := by decide +kernel
theorem dX12_isSo_16 : decode cX12_isSo 16 = .ok (.iaload, 1) := by decide +kernel
theorem dX12_isSo_17 : decode cX12_isSo 17 = .ok (.if_icmp .ge 42, 3) := by decide +kernel
theorem dX12_isSo_20 : decode cX12_isSo 20 = .ok (.aload_n 0, 1) := by decide +kernel
theorem dX12_isSo_21 : decode cX12_isSo 21 = .ok (.aload_n 0, 1) := by decide +kernel
theorem dX12_isSo_22 : decode cX12_isSo 22 = .ok (.getfield 13, 3) := by decide +kernel
theorem dX12_isSo_25 : decode cX12_isSo 25 = .ok (.iload_n 1, 1) := by decide +kernel
theorem dX12_isSo_26 : decode cX12_isSo 26 = .ok (.iconst 5, 1) := by decide +kernel
theorem dX12_isSo_27 : decode cX12_isSo 27 = .ok (.iadd, 1) := by decide +kernel
theorem dX12_isSo_28 : decode cX12_isSo 28 = .ok (.iaload, 1) := by decide +kernel
theorem dX12_isSo_29 : decode cX12_isSo 29 = .ok (.aload_n 0, 1) := by decide +kernel
theorem dX12_isSo_30 : decode cX12_isSo 30 = .ok (.getfield 13, 3) := by decide +kernel
theorem dX12_isSo_33 : decode cX12_isSo 33 = .ok (.iload_n 1, 1) := by decide +kernel
theorem dX12_isSo_34 : decode cX12_isSo 34 = .ok (.bipush 6, 2) := by decide +kernel
theorem dX12_isSo_36 : decode cX12_isSo 36 = .ok (.iadd, 1) := by decide +kernel
theorem dX12_isSo_37 : decode cX12_isSo 37 = .ok (.iaload, 1) := by decide +kernel
theorem dX12_isSo_38 : decode cX12_isSo 38 = .ok (.invokevirtual 322, 3) := by decide +kernel
theorem dX12_isSo_41 : decode cX12_isSo 41 = .ok (.aload_n 0, 1) := by decide +kernel
theorem dX12_isSo_42 : decode cX12_isSo 42 = .ok (.getfield 308, 3) := by decide +kernel
theorem dX12_isSo_45 : decode cX12_isSo 45 = .ok (.ifCond .ne 12, 3) := by decide +kernel
theorem dX12_isSo_48 : decode cX12_isSo 48 = .ok (.aload_n 0, 1) := by decide +kernel
theorem dX12_isSo_49 : decode cX12_isSo 49 = .ok (.getfield 319, 3) := by decide +kernel
theorem dX12_isSo_52 : decode cX12_isSo 52 = .ok (.lconst 0, 1) := by decide +kernel
theorem dX12_isSo_53 : decode cX12_isSo 53 = .ok (.lcmp, 1) := by decide +kernel
theorem dX12_isSo_54 : decode cX12_isSo 54 = .ok (.ifCond .ne 5, 3) := by decide +kernel
theorem dX12_isSo_57 : decode cX12_isSo 57 = .ok (.iconst 0, 1) := by decide +kernel
theorem dX12_isSo_58 : decode cX12_isSo 58 = .ok (.ireturn, 1) := by decide +kernel
theorem dX12_isSo_59 : decode cX12_isSo 59 = .ok (.aload_n 0, 1) := by decide +kernel
theorem dX12_isSo_60 : decode cX12_isSo 60 = .ok (.aload_n 0, 1) := by decide +kernel
theorem dX12_isSo_61 : decode cX12_isSo 61 = .ok (.getfield 13, 3) := by decide +kernel
theorem dX12_isSo_64 : decode cX12_isSo 64 = .ok (.iload_n 1, 1) := by decide +kernel
theorem dX12_isSo_65 : decode cX12_isSo 65 = .ok (.iconst 3, 1) := by decide +kernel
theorem dX12_isSo_66 : decode cX12_isSo 66 = .ok (.iadd, 1) := by decide +kernel
theorem dX12_isSo_67 : decode cX12_isSo 67 = .ok (.iaload, 1) := by decide +kernel
theorem dX12_isSo_68 : decode cX12_isSo 68 = .ok (.aload_n 0, 1) := by decide +kernel
theorem dX12_isSo_69 : decode cX12_isSo 69 = .ok (.getfield 13, 3) := by decide +kernel
theorem dX12_isSo_72 : decode cX12_isSo 72 = .ok (.iload_n 1, 1) := by decide +kernel
theorem dX12_isSo_73 : decode cX12_isSo 73 = .ok (.iconst 4, 1) := by decide +kernel
theorem dX12_isSo_74 : decode cX12_isSo 74 = .ok (.iadd, 1) := by decide +kernel
theorem dX12_isSo_75 : decode cX12_isSo 75 = .ok (.iaload, 1) := by decide +kernel
theorem dX12_isSo_76 : decode cX12_isSo 76 = .ok (.invokevirtual 322, 3) := by decide +kernel
theorem dX12_isSo_79 : decode cX12_isSo 79 = .ok (.aload_n 0, 1) := by decide +kernel
theorem dX12_isSo_80 : decode cX12_isSo 80 = .ok (.aload_n 0, 1) := by decide +kernel
theorem dX12_isSo_81 : decode cX12_isSo 81 = .ok (.getfield 319, 3) := by decide +kernel
theorem dX12_isSo_84 : decode cX12_isSo 84 = .ok (.putfield 325, 3) := by decide +kernel
theorem dX12_isSo_87 : decode cX12_isSo 87 = .ok (.aload_n 0, 1) := by decide +kernel
theorem dX12_isSo_88 : decode cX12_isSo 88 = .ok (.getfield 308, 3) := by decide +kernel
theorem dX12_isSo_91 : decode cX12_isSo 91 = .ok (.ifCond .ne 7, 3) := by decide +kernel
theorem dX12_isSo_94 : decode cX12_isSo 94 = .ok (.iconst 1, 1) := by decide +kernel
theorem dX12_isSo_95 : decode cX12_isSo 95 = .ok (.goto 4, 3) := by decide +kernel
theorem dX12_isSo_98 : decode cX12_isSo 98 = .ok (.iconst 0, 1) := by decide +kernel
theorem dX12_isSo_99 : decode cX12_isSo 99 = .ok (.ireturn, 1) := by decide +kernel
theorem dX12_find_0 : decode cX12_find 0 = .ok (.iload_n 2, 1) := by decide +kernel
theorem dX12_find_1 : decode cX12_find 1 = .ok (.i2l, 1) := by decide +kernel
theorem dX12_find_2 : decode cX12_find 2 = .ok (.lstore 5, 2) := by decide +kernel
theorem dX12_find_4 : decode cX12_find 4 = .ok (.iconst 0, 1) := by decide +kernel
theorem dX12_find_5 : decode cX12_find 5 = .ok (.istore 7, 2) := by decide +kernel
theorem dX12_find_7 : decode cX12_find 7 = .ok (.iload 7, 2) := by decide +kernel
theorem dX12_find_9 : decode cX12_find 9 = .ok (.aload_n 0, 1) := by decide +kernel
theorem dX12_find_10 : decode cX12_find 10 = .ok (.getfield 13, 3) := by decide +kernel
theorem dX12_find_13 : decode cX12_find 13 = .ok (.sipush 901, 3) := by decide +kernel
theorem dX12_find_16 : decode cX12_find 16 = .ok (.iaload, 1) := by decide +kernel
theorem dX12_find_17 : decode cX12_find 17 = .ok (.if_icmp .ge 46, 3) := by decide +kernel
theorem dX12_find_20 : decode cX12_find 20 = .ok (.sipush 902, 3) := by decide +kernel
theorem dX12_find_23 : decode cX12_find 23 = .ok (.bipush 8, 2) := by decide +kernel
theorem dX12_find_25 : decode cX12_find 25 = .ok (.iload 7, 2) := by decide +kernel
theorem dX12_find_27 : decode cX12_find 27 = .ok (.imul, 1) := by decide +kernel
theorem dX12_find_28 : decode cX12_find 28 = .ok (.iadd, 1) := by decide +kernel
theorem dX12_find_29 : decode cX12_find 29 = .ok (.istore 8, 2) := by decide +kernel
theorem dX12_find_31 : decode cX12_find 31 = .ok (.aload_n 0, 1) := by decide +kernel
theorem dX12_find_32 : decode cX12_find 32 = .ok (.getfield 13, 3) := by decide +kernel
theorem dX12_find_35 : decode cX12_find 35 = .ok (.iload 8, 2) := by decide +kernel
theorem dX12_find_37 : decode cX12_find 37 = .ok (.iaload, 1) := by decide +kernel
theorem dX12_find_38 : decode cX12_find 38 = .ok (.iload_n 1, 1) := by decide +kernel
theorem dX12_find_39 : decode cX12_find 39 = .ok (.if_icmp .ne 18, 3) := by decide +kernel
theorem dX12_find_42 : decode cX12_find 42 = .ok (.aload_n 0, 1) := by decide +kernel
theorem dX12_find_43 : decode cX12_find 43 = .ok (.iload 8, 2) := by decide +kernel
theorem dX12_find_45 : decode cX12_find 45 = .ok (.invokevirtual 328, 3) := by decide +kernel
theorem dX12_find_48 : decode cX12_find 48 = .ok (.ifCond .eq 9, 3) := by decide +kernel
theorem dX12_find_51 : decode cX12_find 51 = .ok (.aload_n 0, 1) := by decide +kernel
theorem dX12_find_52 : decode cX12_find 52 = .ok (.getfield 325, 3) := by decide +kernel
theorem dX12_find_55 : decode cX12_find 55 = .ok (.lstore 5, 2) := by decide +kernel
theorem dX12_find_57 : decode cX12_find 57 = .ok (.iinc 7 1, 3) := by decide +kernel
theorem dX12_find_60 : decode cX12_find 60 = .ok (.goto (-53), 3) := by decide +kernel
theorem dX12_find_63 : decode cX12_find 63 = .ok (.lload 5, 2) := by decide +kernel
theorem dX12_find_65 : decode cX12_find 65 = .ok (.iload_n 3, 1) := by decide +kernel
theorem dX12_find_66 : decode cX12_find 66 = .ok (.i2l, 1) := by decide +kernel
theorem dX12_find_67 : decode cX12_find 67 = .ok (.lcmp, 1) := by decide +kernel
theorem dX12_find_68 : decode cX12_find 68 = .ok (.ifCond .ge 7, 3) := by decide +kernel
theorem dX12_find_71 : decode cX12_find 71 = .ok (.iload_n 3, 1) := by decide +kernel
theorem dX12_find_72 : decode cX12_find 72 = .ok (.goto 20, 3) := by decide +kernel
theorem dX12_find_75 : decode cX12_find 75 = .ok (.lload 5, 2) := by decide +kernel
theorem dX12_find_77 : decode cX12_find 77 = .ok (.iload 4, 2) := by decide +kernel
theorem dX12_find_79 : decode cX12_find 79 = .ok (.i2l, 1) := by decide +kernel
theorem dX12_find_80 : decode cX12_find 80 = .ok (.lcmp, 1) := by decide +kernel
theorem dX12_find_81 : decode cX12_find 81 = .ok (.ifCond .le 8, 3) := by decide +kernel
theorem dX12_find_84 : decode cX12_find 84 = .ok (.iload 4, 2) := by decide +kernel
theorem dX12_find_86 : decode cX12_find 86 = .ok (.goto 6, 3) := by decide +kernel
theorem dX12_find_89 : decode cX12_find 89 = .ok (.lload 5, 2) := by decide +kernel
theorem dX12_find_91 : decode cX12_find 91 = .ok (.l2i, 1) := by decide +kernel
theorem dX12_find_92 : decode cX12_find 92 = .ok (.ireturn, 1) := by decide +kernel
theorem dX12_goneOf_0 : decode cX12_goneOf 0 = .ok (.iconst (-1), 1) := by decide +kernel
theorem dX12_goneOf_1 : decode cX12_goneOf 1 = .ok (.istore_n 2, 1) := by decide +kernel
theorem dX12_goneOf_2 : decode cX12_goneOf 2 = .ok (.iconst 0, 1) := by decide +kernel
theorem dX12_goneOf_3 : decode cX12_goneOf 3 = .ok (.istore_n 3, 1) := by decide +kernel
theorem dX12_goneOf_4 : decode cX12_goneOf 4 = .ok (.iload_n 3, 1) := by decide +kernel
theorem dX12_goneOf_5 : decode cX12_goneOf 5 = .ok (.aload_n 0, 1) := by decide +kernel
theorem dX12_goneOf_6 : decode cX12_goneOf 6 = .ok (.getfield 13, 3) := by decide +kernel
theorem dX12_goneOf_9 : decode cX12_goneOf 9 = .ok (.iconst 0, 1) := by decide +kernel
theorem dX12_goneOf_10 : decode cX12_goneOf 10 = .ok (.iaload, 1) := by decide +kernel
theorem dX12_goneOf_11 : decode cX12_goneOf 11 = .ok (.if_icmp .ge 120, 3) := by decide +kernel
theorem dX12_goneOf_14 : decode cX12_goneOf 14 = .ok (.sipush 200, 3) := by decide +kernel
theorem dX12_goneOf_17 : decode cX12_goneOf 17 = .ok (.iconst 4, 1) := by decide +kernel
theorem dX12_goneOf_18 : decode cX12_goneOf 18 = .ok (.iload_n 3, 1) := by decide +kernel
theorem dX12_goneOf_19 : decode cX12_goneOf 19 = .ok (.imul, 1) := by decide +kernel
theorem dX12_goneOf_20 : decode cX12_goneOf 20 = .ok (.iadd, 1) := by decide +kernel
theorem dX12_goneOf_21 : decode cX12_goneOf 21 = .ok (.istore 4, 2) := by decide +kernel
theorem dX12_goneOf_23 : decode cX12_goneOf 23 = .ok (.aload_n 0, 1) := by decide +kernel
theorem dX12_goneOf_24 : decode cX12_goneOf 24 = .ok (.getfield 13, 3) := by decide +kernel
theorem dX12_goneOf_27 : decode cX12_goneOf 27 = .ok (.iload 4, 2) := by decide +kernel
theorem dX12_goneOf_29 : decode cX12_goneOf 29 = .ok (.iconst 1, 1) := by decide +kernel
theorem dX12_goneOf_30 : decode cX12_goneOf 30 = .ok (.iadd, 1) := by decide +kernel
theorem dX12_goneOf_31 : decode cX12_goneOf 31 = .ok (.iaload, 1) := by decide +kernel
theorem dX12_goneOf_32 : decode cX12_goneOf 32 = .ok (.ifCond .ne 14, 3) := by decide +kernel
theorem dX12_goneOf_35 : decode cX12_goneOf 35 = .ok (.aload_n 0, 1) := by decide +kernel
theorem dX12_goneOf_36 : decode cX12_goneOf 36 = .ok (.getfield 13, 3) := by decide +kernel
theorem dX12_goneOf_39 : decode cX12_goneOf 39 = .ok (.iload_n 1, 1) := by decide +kernel
theorem dX12_goneOf_40 : decode cX12_goneOf 40 = .ok (.iconst 2, 1) := by decide +kernel
theorem dX12_goneOf_41 : decode cX12_goneOf 41 = .ok (.iadd, 1) := by decide +kernel
theorem dX12_goneOf_42 : decode cX12_goneOf 42 = .ok (.iaload, 1) := by decide +kernel
theorem dX12_goneOf_43 : decode cX12_goneOf 43 = .ok (.goto 14, 3) := by decide +kernel
theorem dX12_goneOf_46 : decode cX12_goneOf 46 = .ok (.bipush 23, 2) := by decide +kernel
theorem dX12_goneOf_48 : decode cX12_goneOf 48 = .ok (.aload_n 0, 1) := by decide +kernel
theorem dX12_goneOf_49 : decode cX12_goneOf 49 = .ok (.getfield 13, 3) := by decide +kernel
theorem dX12_goneOf_52 : decode cX12_goneOf 52 = .ok (.iload_n 1, 1) := by decide +kernel
theorem dX12_goneOf_53 : decode cX12_goneOf 53 = .ok (.iconst 2, 1) := by decide +kernel
theorem dX12_goneOf_54 : decode cX12_goneOf 54 = .ok (.iadd, 1) := by decide +kernel
theorem dX12_goneOf_55 : decode cX12_goneOf 55 = .ok (.iaload, 1) := by decide +kernel
theorem dX12_goneOf_56 : decode cX12_goneOf 56 = .ok (.isub, 1) := by decide +kernel
theorem dX12_goneOf_57 : decode cX12_goneOf 57 = .ok (.istore 5, 2) := by decide +kernel
theorem dX12_goneOf_59 : decode cX12_goneOf 59 = .ok (.aload_n 0, 1) := by decide +kernel
theorem dX12_goneOf_60 : decode cX12_goneOf 60 = .ok (.getfield 13, 3) := by decide +kernel
theorem dX12_goneOf_63 : decode cX12_goneOf 63 = .ok (.iload 4, 2) := by decide +kernel
theorem dX12_goneOf_65 : decode cX12_goneOf 65 = .ok (.iconst 2, 1) := by decide +kernel
theorem dX12_goneOf_66 : decode cX12_goneOf 66 = .ok (.iadd, 1) := by decide +kernel
theorem dX12_goneOf_67 : decode cX12_goneOf 67 = .ok (.iaload, 1) := by decide +kernel
theorem dX12_goneOf_68 : decode cX12_goneOf 68 = .ok (.iload 5, 2) := by decide +kernel
theorem dX12_goneOf_70 : decode cX12_goneOf 70 = .ok (.aload_n 0, 1) := by decide +kernel
theorem dX12_goneOf_71 : decode cX12_goneOf 71 = .ok (.getfield 13, 3) := by decide +kernel
theorem dX12_goneOf_74 : decode cX12_goneOf 74 = .ok (.iload 4, 2) := by decide +kernel
theorem dX12_goneOf_76 : decode cX12_goneOf 76 = .ok (.iconst 3, 1) := by decide +kernel
theorem dX12_goneOf_77 : decode cX12_goneOf 77 = .ok (.iadd, 1) := by decide +kernel
theorem dX12_goneOf_78 : decode cX12_goneOf 78 = .ok (.iaload, 1) := by decide +kernel
theorem dX12_goneOf_79 : decode cX12_goneOf 79 = .ok (.imul, 1) := by decide +kernel
theorem dX12_goneOf_80 : decode cX12_goneOf 80 = .ok (.iadd, 1) := by decide +kernel
theorem dX12_goneOf_81 : decode cX12_goneOf 81 = .ok (.istore 6, 2) := by decide +kernel
theorem dX12_goneOf_83 : decode cX12_goneOf 83 = .ok (.aload_n 0, 1) := by decide +kernel
theorem dX12_goneOf_84 : decode cX12_goneOf 84 = .ok (.getfield 13, 3) := by decide +kernel
theorem dX12_goneOf_87 : decode cX12_goneOf 87 = .ok (.iload 4, 2) := by decide +kernel
theorem dX12_goneOf_89 : decode cX12_goneOf 89 = .ok (.iaload, 1) := by decide +kernel
theorem dX12_goneOf_90 : decode cX12_goneOf 90 = .ok (.aload_n 0, 1) := by decide +kernel
theorem dX12_goneOf_91 : decode cX12_goneOf 91 = .ok (.getfield 13, 3) := by decide +kernel
theorem dX12_goneOf_94 : decode cX12_goneOf 94 = .ok (.iload_n 1, 1) := by decide +kernel
theorem dX12_goneOf_95 : decode cX12_goneOf 95 = .ok (.iaload, 1) := by decide +kernel
theorem dX12_goneOf_96 : decode cX12_goneOf 96 = .ok (.if_icmp .ne 27, 3) := by decide +kernel
theorem dX12_goneOf_99 : decode cX12_goneOf 99 = .ok (.iload 6, 2) := by decide +kernel
theorem dX12_goneOf_101 : decode cX12_goneOf 101 = .ok (.aload_n 0, 1) := by decide +kernel
theorem dX12_goneOf_102 : decode cX12_goneOf 102 = .ok (.getfield 13, 3) := by decide +kernel
theorem dX12_goneOf_105 : decode cX12_goneOf 105 = .ok (.iload_n 1, 1) := by decide +kernel
theorem dX12_goneOf_106 : decode cX12_goneOf 106 = .ok (.iconst 1, 1) := by decide +kernel
theorem dX12_goneOf_107 : decode cX12_goneOf 107 = .ok (.iadd, 1) := by decide +kernel
theorem dX12_goneOf_108 : decode cX12_goneOf 108 = .ok (.iaload, 1) := by decide +kernel
theorem dX12_goneOf_109 : decode cX12_goneOf 109 = .ok (.if_icmp .gt 14, 3) := by decide +kernel
theorem dX12_goneOf_112 : decode cX12_goneOf 112 = .ok (.iload 6, 2) := by decide +kernel
theorem dX12_goneOf_114 : decode cX12_goneOf 114 = .ok (.iload_n 2, 1) := by decide +kernel
theorem dX12_goneOf_115 : decode cX12_goneOf 115 = .ok (.if_icmp .le 8, 3) := by decide +kernel
theorem dX12_goneOf_118 : decode cX12_goneOf 118 = .ok (.iload 6, 2) := by decide +kernel
theorem dX12_goneOf_120 : decode cX12_goneOf 120 = .ok (.goto 4, 3) := by decide +kernel
theorem dX12_goneOf_123 : decode cX12_goneOf 123 = .ok (.iload_n 2, 1) := by decide +kernel
theorem dX12_goneOf_124 : decode cX12_goneOf 124 = .ok (.istore_n 2, 1) := by decide +kernel
theorem dX12_goneOf_125 : decode cX12_goneOf 125 = .ok (.iinc 3 1, 3) := by decide +kernel
theorem dX12_goneOf_128 : decode cX12_goneOf 128 = .ok (.goto (-124), 3) := by decide +kernel
theorem dX12_goneOf_131 : decode cX12_goneOf 131 = .ok (.iload_n 2, 1) := by decide +kernel
theorem dX12_goneOf_132 : decode cX12_goneOf 132 = .ok (.iconst (-1), 1) := by decide +kernel
theorem dX12_goneOf_133 : decode cX12_goneOf 133 = .ok (.if_icmp .ne 7, 3) := by decide +kernel
theorem dX12_goneOf_136 : decode cX12_goneOf 136 = .ok (.iconst 0, 1) := by decide +kernel
theorem dX12_goneOf_137 : decode cX12_goneOf 137 = .ok (.goto 13, 3) := by decide +kernel
theorem dX12_goneOf_140 : decode cX12_goneOf 140 = .ok (.aload_n 0, 1) := by decide +kernel
theorem dX12_goneOf_141 : decode cX12_goneOf 141 = .ok (.getfield 13, 3) := by decide +kernel
theorem dX12_goneOf_144 : decode cX12_goneOf 144 = .ok (.iload_n 1, 1) := by decide +kernel
theorem dX12_goneOf_145 : decode cX12_goneOf 145 = .ok (.iconst 1, 1) := by decide +kernel
theorem dX12_goneOf_146 : decode cX12_goneOf 146 = .ok (.iadd, 1) := by decide +kernel
theorem dX12_goneOf_147 : decode cX12_goneOf 147 = .ok (.iaload, 1) := by decide +kernel
theorem dX12_goneOf_148 : decode cX12_goneOf 148 = .ok (.iload_n 2, 1) := by decide +kernel
theorem dX12_goneOf_149 : decode cX12_goneOf 149 = .ok (.isub, 1) := by decide +kernel
theorem dX12_goneOf_150 : decode cX12_goneOf 150 = .ok (.ireturn, 1) := by decide +kernel
theorem dX12_isBeast_0 : decode cX12_isBeast 0 = .ok (.iconst 0, 1) := by decide +kernel
theorem dX12_isBeast_1 : decode cX12_isBeast 1 = .ok (.istore_n 2, 1) := by decide +kernel
theorem dX12_isBeast_2 : decode cX12_isBeast 2 = .ok (.iconst 0, 1) := by decide +kernel
theorem dX12_isBeast_3 : decode cX12_isBeast 3 = .ok (.istore_n 3, 1) := by decide +kernel
theorem dX12_isBeast_4 : decode cX12_isBeast 4 = .ok (.iload_n 3, 1) := by decide +kernel
theorem dX12_isBeast_5 : decode cX12_isBeast 5 = .ok (.aload_n 0, 1) := by decide +kernel
theorem dX12_isBeast_6 : decode cX12_isBeast 6 = .ok (.getfield 13, 3) := by decide +kernel
theorem dX12_isBeast_9 : decode cX12_isBeast 9 = .ok (.iconst 1, 1) := by decide +kernel
theorem dX12_isBeast_10 : decode cX12_isBeast 10 = .ok (.iaload, 1) := by decide +kernel
theorem dX12_isBeast_11 : decode cX12_isBeast 11 = .ok (.if_icmp .ge 108, 3) := by decide +kernel
theorem dX12_isBeast_14 : decode cX12_isBeast 14 = .ok (.sipush 250, 3) := by decide +kernel
theorem dX12_isBeast_17 : decode cX12_isBeast 17 = .ok (.iconst 4, 1) := by decide +kernel
theorem dX12_isBeast_18 : decode cX12_isBeast 18 = .ok (.iload_n 3, 1) := by decide +kernel
theorem dX12_isBeast_19 : decode cX12_isBeast 19 = .ok (.imul, 1) := by decide +kernel
theorem dX12_isBeast_20 : decode cX12_isBeast 20 = .ok (.iadd, 1) := by decide +kernel
theorem dX12_isBeast_21 : decode cX12_isBeast 21 = .ok (.istore 4, 2) := by decide +kernel
theorem dX12_isBeast_23 : decode cX12_isBeast 23 = .ok (.iload_n 2, 1) := by decide +kernel
theorem dX12_isBeast_24 : decode cX12_isBeast 24 = .ok (.ifCond .ne 83, 3) := by decide +kernel
theorem dX12_isBeast_27 : decode cX12_isBeast 27 = .ok (.aload_n 0, 1) := by decide +kernel
theorem dX12_isBeast_28 : decode cX12_isBeast 28 = .ok (.getfield 13, 3) := by decide +kernel
theorem dX12_isBeast_31 : decode cX12_isBeast 31 = .ok (.iload 4, 2) := by decide +kernel
theorem dX12_isBeast_33 : decode cX12_isBeast 33 = .ok (.iaload, 1) := by decide +kernel
theorem dX12_isBeast_34 : decode cX12_isBeast 34 = .ok (.aload_n 0, 1) := by decide +kernel
theorem dX12_isBeast_35 : decode cX12_isBeast 35 = .ok (.getfield 13, 3) := by decide +kernel
theorem dX12_isBeast_38 : decode cX12_isBeast 38 = .ok (.iload_n 1, 1) := by decide +kernel
theorem dX12_isBeast_39 : decode cX12_isBeast 39 = .ok (.iaload, 1) := by decide +kernel
theorem dX12_isBeast_40 : decode cX12_isBeast 40 = .ok (.if_icmp .ne 71, 3) := by decide +kernel
theorem dX12_isBeast_43 : decode cX12_isBeast 43 = .ok (.aload_n 0, 1) := by decide +kernel
theorem dX12_isBeast_44 : decode cX12_isBeast 44 = .ok (.getfield 13, 3) := by decide +kernel
theorem dX12_isBeast_47 : decode cX12_isBeast 47 = .ok (.iload_n 1, 1) := by decide +kernel
theorem dX12_isBeast_48 : decode cX12_isBeast 48 = .ok (.iconst 2, 1) := by decide +kernel
theorem dX12_isBeast_49 : decode cX12_isBeast 49 = .ok (.iadd, 1) := by decide +kernel
theorem dX12_isBeast_50 : decode cX12_isBeast 50 = .ok (.iaload, 1) := by decide +kernel
theorem dX12_isBeast_51 : decode cX12_isBeast 51 = .ok (.aload_n 0, 1) := by decide +kernel
theorem dX12_isBeast_52 : decode cX12_isBeast 52 = .ok (.getfield 13, 3) := by decide +kernel
theorem dX12_isBeast_55 : decode cX12_isBeast 55 = .ok (.iload 4, 2) := by decide +kernel
theorem dX12_isBeast_57 : decode cX12_isBeast 57 = .ok (.iconst 1, 1) := by decide +kernel
theorem dX12_isBeast_58 : decode cX12_isBeast 58 = .ok (.iadd, 1) := by decide +kernel
theorem dX12_isBeast_59 : decode cX12_isBeast 59 = .ok (.iaload, 1) := by decide +kernel
theorem dX12_isBeast_60 : decode cX12_isBeast 60 = .ok (.isub, 1) := by decide +kernel
theorem dX12_isBeast_61 : decode cX12_isBeast 61 = .ok (.i2l, 1) := by decide +kernel
theorem dX12_isBeast_62 : decode cX12_isBeast 62 = .ok (.ldc2_w 174, 3) := by decide +kernel
theorem dX12_isBeast_65 : decode cX12_isBeast 65 = .ok (.lconst 1, 1) := by decide +kernel
theorem dX12_isBeast_66 : decode cX12_isBeast 66 = .ok (.invokestatic 82, 3) := by decide +kernel
theorem dX12_isBeast_69 : decode cX12_isBeast 69 = .ok (.ifCond .eq 42, 3) := by decide +kernel
theorem dX12_isBeast_72 : decode cX12_isBeast 72 = .ok (.aload_n 0, 1) := by decide +kernel
theorem dX12_isBeast_73 : decode cX12_isBeast 73 = .ok (.getfield 13, 3) := by decide +kernel
theorem dX12_isBeast_76 : decode cX12_isBeast 76 = .ok (.iload_n 1, 1) := by decide +kernel
theorem dX12_isBeast_77 : decode cX12_isBeast 77 = .ok (.iconst 1, 1) := by decide +kernel
theorem dX12_isBeast_78 : decode cX12_isBeast 78 = .ok (.iadd, 1) := by decide +kernel
theorem dX12_isBeast_79 : decode cX12_isBeast 79 = .ok (.iaload, 1) := by decide +kernel
theorem dX12_isBeast_80 : decode cX12_isBeast 80 = .ok (.i2l, 1) := by decide +kernel
theorem dX12_isBeast_81 : decode cX12_isBeast 81 = .ok (.aload_n 0, 1) := by decide +kernel
theorem dX12_isBeast_82 : decode cX12_isBeast 82 = .ok (.getfield 13, 3) := by decide +kernel
theorem dX12_isBeast_85 : decode cX12_isBeast 85 = .ok (.iload 4, 2) := by decide +kernel
theorem dX12_isBeast_87 : decode cX12_isBeast 87 = .ok (.iconst 2, 1) := by decide +kernel
theorem dX12_isBeast_88 : decode cX12_isBeast 88 = .ok (.iadd, 1) := by decide +kernel
theorem dX12_isBeast_89 : decode cX12_isBeast 89 = .ok (.iaload, 1) := by decide +kernel
theorem dX12_isBeast_90 : decode cX12_isBeast 90 = .ok (.i2l, 1) := by decide +kernel
theorem dX12_isBeast_91 : decode cX12_isBeast 91 = .ok (.aload_n 0, 1) := by decide +kernel
theorem dX12_isBeast_92 : decode cX12_isBeast 92 = .ok (.getfield 13, 3) := by decide +kernel
theorem dX12_isBeast_95 : decode cX12_isBeast 95 = .ok (.iload 4, 2) := by decide +kernel
theorem dX12_isBeast_97 : decode cX12_isBeast 97 = .ok (.iconst 3, 1) := by decide +kernel
theorem dX12_isBeast_98 : decode cX12_isBeast 98 = .ok (.iadd, 1) := by decide +kernel
theorem dX12_isBeast_99 : decode cX12_isBeast 99 = .ok (.iaload, 1) := by decide +kernel
theorem dX12_isBeast_100 : decode cX12_isBeast 100 = .ok (.i2l, 1) := by decide +kernel
theorem dX12_isBeast_101 : decode cX12_isBeast 101 = .ok (.invokestatic 82, 3) := by decide +kernel
theorem dX12_isBeast_104 : decode cX12_isBeast 104 = .ok (.ifCond .eq 7, 3) := by decide +kernel
theorem dX12_isBeast_107 : decode cX12_isBeast 107 = .ok (.iconst 1, 1) := by decide +kernel
theorem dX12_isBeast_108 : decode cX12_isBeast 108 = .ok (.goto 4, 3) := by decide +kernel
theorem dX12_isBeast_111 : decode cX12_isBeast 111 = .ok (.iconst 0, 1) := by decide +kernel
theorem dX12_isBeast_112 : decode cX12_isBeast 112 = .ok (.istore_n 2, 1) := by decide +kernel
theorem dX12_isBeast_113 : decode cX12_isBeast 113 = .ok (.iinc 3 1, 3) := by decide +kernel
theorem dX12_isBeast_116 : decode cX12_isBeast 116 = .ok (.goto (-112), 3) := by decide +kernel
theorem dX12_isBeast_119 : decode cX12_isBeast 119 = .ok (.iload_n 2, 1) := by decide +kernel
theorem dX12_isBeast_120 : decode cX12_isBeast 120 = .ok (.ireturn, 1) := by decide +kernel
theorem dX12_isLog_0 : decode cX12_isLog 0 = .ok (.iconst 0, 1) := by decide +kernel
theorem dX12_isLog_1 : decode cX12_isLog 1 = .ok (.istore_n 2, 1) := by decide +kernel
theorem dX12_isLog_2 : decode cX12_isLog 2 = .ok (.iconst 0, 1) := by decide +kernel
theorem dX12_isLog_3 : decode cX12_isLog 3 = .ok (.istore_n 3, 1) := by decide +kernel
theorem dX12_isLog_4 : decode cX12_isLog 4 = .ok (.iload_n 3, 1) := by decide +kernel
theorem dX12_isLog_5 : decode cX12_isLog 5 = .ok (.aload_n 0, 1) := by decide +kernel
theorem dX12_isLog_6 : decode cX12_isLog 6 = .ok (.getfield 13, 3) := by decide +kernel
theorem dX12_isLog_9 : decode cX12_isLog 9 = .ok (.iconst 2, 1) := by decide +kernel
theorem dX12_isLog_10 : decode cX12_isLog 10 = .ok (.iaload, 1) := by decide +kernel
theorem dX12_isLog_11 : decode cX12_isLog 11 = .ok (.if_icmp .ge 65, 3) := by decide +kernel
theorem dX12_isLog_14 : decode cX12_isLog 14 = .ok (.iload_n 2, 1) := by decide +kernel
theorem dX12_isLog_15 : decode cX12_isLog 15 = .ok (.ifCond .ne 49, 3) := by decide +kernel
theorem dX12_isLog_18 : decode cX12_isLog 18 = .ok (.aload_n 0, 1) := by decide +kernel
theorem dX12_isLog_19 : decode cX12_isLog 19 = .ok (.getfield 13, 3) := by decide +kernel
theorem dX12_isLog_22 : decode cX12_isLog 22 = .ok (.sipush 300, 3) := by decide +kernel
theorem dX12_isLog_25 : decode cX12_isLog 25 = .ok (.iconst 2, 1) := by decide +kernel
theorem dX12_isLog_26 : decode cX12_isLog 26 = .ok (.iload_n 3, 1) := by decide +kernel
theorem dX12_isLog_27 : decode cX12_isLog 27 = .ok (.imul, 1) := by decide +kernel
theorem dX12_isLog_28 : decode cX12_isLog 28 = .ok (.iadd, 1) := by decide +kernel
theorem dX12_isLog_29 : decode cX12_isLog 29 = .ok (.iaload, 1) := by decide +kernel
theorem dX12_isLog_30 : decode cX12_isLog 30 = .ok (.aload_n 0, 1) := by decide +kernel
theorem dX12_isLog_31 : decode cX12_isLog 31 = .ok (.getfield 13, 3) := by decide +kernel
theorem dX12_isLog_34 : decode cX12_isLog 34 = .ok (.iload_n 1, 1) := by decide +kernel
theorem dX12_isLog_35 : decode cX12_isLog 35 = .ok (.iaload, 1) := by decide +kernel
theorem dX12_isLog_36 : decode cX12_isLog 36 = .ok (.if_icmp .ne 32, 3) := by decide +kernel
theorem dX12_isLog_39 : decode cX12_isLog 39 = .ok (.aload_n 0, 1) := by decide +kernel
theorem dX12_isLog_40 : decode cX12_isLog 40 = .ok (.getfield 13, 3) := by decide +kernel
theorem dX12_isLog_43 : decode cX12_isLog 43 = .ok (.sipush 300, 3) := by decide +kernel
theorem dX12_isLog_46 : decode cX12_isLog 46 = .ok (.iconst 2, 1) := by decide +kernel
theorem dX12_isLog_47 : decode cX12_isLog 47 = .ok (.iload_n 3, 1) := by decide +kernel
theorem dX12_isLog_48 : decode cX12_isLog 48 = .ok (.imul, 1) := by decide +kernel
theorem dX12_isLog_49 : decode cX12_isLog 49 = .ok (.iadd, 1) := by decide +kernel
theorem dX12_isLog_50 : decode cX12_isLog 50 = .ok (.iconst 1, 1) := by decide +kernel
theorem dX12_isLog_51 : decode cX12_isLog 51 = .ok (.iadd, 1) := by decide +kernel
theorem dX12_isLog_52 : decode cX12_isLog 52 = .ok (.iaload, 1) := by decide +kernel
theorem dX12_isLog_53 : decode cX12_isLog 53 = .ok (.aload_n 0, 1) := by decide +kernel
theorem dX12_isLog_54 : decode cX12_isLog 54 = .ok (.getfield 13, 3) := by decide +kernel
theorem dX12_isLog_57 : decode cX12_isLog 57 = .ok (.iload_n 1, 1) := by decide +kernel
theorem dX12_isLog_58 : decode cX12_isLog 58 = .ok (.iconst 2, 1) := by decide +kernel
theorem dX12_isLog_59 : decode cX12_isLog 59 = .ok (.iadd, 1) := by decide +kernel
theorem dX12_isLog_60 : decode cX12_isLog 60 = .ok (.iaload, 1) := by decide +kernel
theorem dX12_isLog_61 : decode cX12_isLog 61 = .ok (.if_icmp .ne 7, 3) := by decide +kernel
theorem dX12_isLog_64 : decode cX12_isLog 64 = .ok (.iconst 1, 1) := by decide +kernel
theorem dX12_isLog_65 : decode cX12_isLog 65 = .ok (.goto 4, 3) := by decide +kernel
theorem dX12_isLog_68 : decode cX12_isLog 68 = .ok (.iconst 0, 1) := by decide +kernel
theorem dX12_isLog_69 : decode cX12_isLog 69 = .ok (.istore_n 2, 1) := by decide +kernel
theorem dX12_isLog_70 : decode cX12_isLog 70 = .ok (.iinc 3 1, 3) := by decide +kernel
theorem dX12_isLog_73 : decode cX12_isLog 73 = .ok (.goto (-69), 3) := by decide +kernel
theorem dX12_isLog_76 : decode cX12_isLog 76 = .ok (.iload_n 2, 1) := by decide +kernel
theorem dX12_isLog_77 : decode cX12_isLog 77 = .ok (.ireturn, 1) := by decide +kernel
theorem dX12_isThere_0 : decode cX12_isThere 0 = .ok (.iload_n 2, 1) := by decide +kernel
theorem dX12_isThere_1 : decode cX12_isThere 1 = .ok (.tableswitch 84 0 3 #[31, 45, 51, 57], 31) := by decide +kernel
theorem dX12_isThere_32 : decode cX12_isThere 32 = .ok (.aload_n 0, 1) := by decide +kernel
theorem dX12_isThere_33 : decode cX12_isThere 33 = .ok (.iload_n 1, 1) := by decide +kernel
theorem dX12_isThere_34 : decode cX12_isThere 34 = .ok (.invokevirtual 331, 3) := by decide +kernel
theorem dX12_isThere_37 : decode cX12_isThere 37 = .ok (.i2l, 1) := by decide +kernel
theorem dX12_isThere_38 : decode cX12_isThere 38 = .ok (.lconst 1, 1) := by decide +kernel
theorem dX12_isThere_39 : decode cX12_isThere 39 = .ok (.ldc2_w 334, 3) := by decide +kernel
theorem dX12_isThere_42 : decode cX12_isThere 42 = .ok (.invokestatic 82, 3) := by decide +kernel
theorem dX12_isThere_45 : decode cX12_isThere 45 = .ok (.ireturn, 1) := by decide +kernel
theorem dX12_isThere_46 : decode cX12_isThere 46 = .ok (.aload_n 0, 1) := by decide +kernel
theorem dX12_isThere_47 : decode cX12_isThere 47 = .ok (.iload_n 1, 1) := by decide +kernel
theorem dX12_isThere_48 : decode cX12_isThere 48 = .ok (.invokevirtual 336, 3) := by decide +kernel
theorem dX12_isThere_51 : decode cX12_isThere 51 = .ok (.ireturn, 1) := by decide +kernel
theorem dX12_isThere_52 : decode cX12_isThere 52 = .ok (.aload_n 0, 1) := by decide +kernel
theorem dX12_isThere_53 : decode cX12_isThere 53 = .ok (.iload_n 1, 1) := by decide +kernel
theorem dX12_isThere_54 : decode cX12_isThere 54 = .ok (.invokevirtual 339, 3) := by decide +kernel
theorem dX12_isThere_57 : decode cX12_isThere 57 = .ok (.ireturn, 1) := by decide +kernel
theorem dX12_isThere_58 : decode cX12_isThere 58 = .ok (.aload_n 0, 1) := by decide +kernel
theorem dX12_isThere_59 : decode cX12_isThere 59 = .ok (.getfield 13, 3) := by decide +kernel
theorem dX12_isThere_62 : decode cX12_isThere 62 = .ok (.bipush 20, 2) := by decide +kernel
theorem dX12_isThere_64 : decode cX12_isThere 64 = .ok (.iconst 3, 1) := by decide +kernel
theorem dX12_isThere_65 : decode cX12_isThere 65 = .ok (.aload_n 0, 1) := by decide +kernel
theorem dX12_isThere_66 : decode cX12_isThere 66 = .ok (.getfield 13, 3) := by decide +kernel
theorem dX12_isThere_69 : decode cX12_isThere 69 = .ok (.iload_n 1, 1) := by decide +kernel
theorem dX12_isThere_70 : decode cX12_isThere 70 = .ok (.iaload, 1) := by decide +kernel
theorem dX12_isThere_71 : decode cX12_isThere 71 = .ok (.imul, 1) := by decide +kernel
theorem dX12_isThere_72 : decode cX12_isThere 72 = .ok (.iadd, 1) := by decide +kernel
theorem dX12_isThere_73 : decode cX12_isThere 73 = .ok (.iconst 1, 1) := by decide +kernel
theorem dX12_isThere_74 : decode cX12_isThere 74 = .ok (.iadd, 1) := by decide +kernel
theorem dX12_isThere_75 : decode cX12_isThere 75 = .ok (.iaload, 1) := by decide +kernel
theorem dX12_isThere_76 : decode cX12_isThere 76 = .ok (.ifCond .le 7, 3) := by decide +kernel
theorem dX12_isThere_79 : decode cX12_isThere 79 = .ok (.iconst 1, 1) := by decide +kernel
theorem dX12_isThere_80 : decode cX12_isThere 80 = .ok (.goto 4, 3) := by decide +kernel
theorem dX12_isThere_83 : decode cX12_isThere 83 = .ok (.iconst 0, 1) := by decide +kernel
theorem dX12_isThere_84 : decode cX12_isThere 84 = .ok (.ireturn, 1) := by decide +kernel
theorem dX12_isThere_85 : decode cX12_isThere 85 = .ok (.iconst 1, 1) := by decide +kernel
theorem dX12_isThere_86 : decode cX12_isThere 86 = .ok (.ireturn, 1) := by decide +kernel
theorem dX12_ask_0 : decode cX12_ask 0 = .ok (.aload_n 0, 1) := by decide +kernel
theorem dX12_ask_1 : decode cX12_ask 1 = .ok (.getfield 45, 3) := by decide +kernel
theorem dX12_ask_4 : decode cX12_ask 4 = .ok (.iconst 1, 1) := by decide +kernel
theorem dX12_ask_5 : decode cX12_ask 5 = .ok (.aload_n 0, 1) := by decide +kernel
theorem dX12_ask_6 : decode cX12_ask 6 = .ok (.getfield 13, 3) := by decide +kernel
theorem dX12_ask_9 : decode cX12_ask 9 = .ok (.iload_n 1, 1) := by decide +kernel
theorem dX12_ask_10 : decode cX12_ask 10 = .ok (.iconst 4, 1) := by decide +kernel
theorem dX12_ask_11 : decode cX12_ask 11 = .ok (.iadd, 1) := by decide +kernel
theorem dX12_ask_12 : decode cX12_ask 12 = .ok (.iaload, 1) := by decide +kernel
theorem dX12_ask_13 : decode cX12_ask 13 = .ok (.i2l, 1) := by decide +kernel
theorem dX12_ask_14 : decode cX12_ask 14 = .ok (.lastore, 1) := by decide +kernel
theorem dX12_ask_15 : decode cX12_ask 15 = .ok (.aload_n 0, 1) := by decide +kernel
theorem dX12_ask_16 : decode cX12_ask 16 = .ok (.getfield 45, 3) := by decide +kernel
theorem dX12_ask_19 : decode cX12_ask 19 = .ok (.iconst 2, 1) := by decide +kernel
theorem dX12_ask_20 : decode cX12_ask 20 = .ok (.aload_n 0, 1) := by decide +kernel
theorem dX12_ask_21 : decode cX12_ask 21 = .ok (.getfield 13, 3) := by decide +kernel
theorem dX12_ask_24 : decode cX12_ask 24 = .ok (.iload_n 1, 1) := by decide +kernel
theorem dX12_ask_25 : decode cX12_ask 25 = .ok (.iconst 5, 1) := by decide +kernel
theorem dX12_ask_26 : decode cX12_ask 26 = .ok (.iadd, 1) := by decide +kernel
theorem dX12_ask_27 : decode cX12_ask 27 = .ok (.iaload, 1) := by decide +kernel
theorem dX12_ask_28 : decode cX12_ask 28 = .ok (.i2l, 1) := by decide +kernel
theorem dX12_ask_29 : decode cX12_ask 29 = .ok (.lastore, 1) := by decide +kernel
theorem dX12_ask_30 : decode cX12_ask 30 = .ok (.aload_n 0, 1) := by decide +kernel
theorem dX12_ask_31 : decode cX12_ask 31 = .ok (.getfield 45, 3) := by decide +kernel
theorem dX12_ask_34 : decode cX12_ask 34 = .ok (.iconst 3, 1) := by decide +kernel
theorem dX12_ask_35 : decode cX12_ask 35 = .ok (.aload_n 0, 1) := by decide +kernel
theorem dX12_ask_36 : decode cX12_ask 36 = .ok (.getfield 13, 3) := by decide +kernel
theorem dX12_ask_39 : decode cX12_ask 39 = .ok (.bipush 20, 2) := by decide +kernel
theorem dX12_ask_41 : decode cX12_ask 41 = .ok (.iconst 3, 1) := by decide +kernel
theorem dX12_ask_42 : decode cX12_ask 42 = .ok (.aload_n 0, 1) := by decide +kernel
theorem dX12_ask_43 : decode cX12_ask 43 = .ok (.getfield 13, 3) := by decide +kernel
theorem dX12_ask_46 : decode cX12_ask 46 = .ok (.iload_n 1, 1) := by decide +kernel
theorem dX12_ask_47 : decode cX12_ask 47 = .ok (.iaload, 1) := by decide +kernel
theorem dX12_ask_48 : decode cX12_ask 48 = .ok (.imul, 1) := by decide +kernel
theorem dX12_ask_49 : decode cX12_ask 49 = .ok (.iadd, 1) := by decide +kernel
theorem dX12_ask_50 : decode cX12_ask 50 = .ok (.iaload, 1) := by decide +kernel
theorem dX12_ask_51 : decode cX12_ask 51 = .ok (.i2l, 1) := by decide +kernel
theorem dX12_ask_52 : decode cX12_ask 52 = .ok (.lastore, 1) := by decide +kernel
theorem dX12_ask_53 : decode cX12_ask 53 = .ok (.aload_n 0, 1) := by decide +kernel
theorem dX12_ask_54 : decode cX12_ask 54 = .ok (.getfield 45, 3) := by decide +kernel
theorem dX12_ask_57 : decode cX12_ask 57 = .ok (.iconst 4, 1) := by decide +kernel
theorem dX12_ask_58 : decode cX12_ask 58 = .ok (.aload_n 0, 1) := by decide +kernel
theorem dX12_ask_59 : decode cX12_ask 59 = .ok (.getfield 13, 3) := by decide +kernel
theorem dX12_ask_62 : decode cX12_ask 62 = .ok (.bipush 20, 2) := by decide +kernel
theorem dX12_ask_64 : decode cX12_ask 64 = .ok (.iconst 3, 1) := by decide +kernel
theorem dX12_ask_65 : decode cX12_ask 65 = .ok (.aload_n 0, 1) := by decide +kernel
theorem dX12_ask_66 : decode cX12_ask 66 = .ok (.getfield 13, 3) := by decide +kernel
theorem dX12_ask_69 : decode cX12_ask 69 = .ok (.iload_n 1, 1) := by decide +kernel
theorem dX12_ask_70 : decode cX12_ask 70 = .ok (.iaload, 1) := by decide +kernel
theorem dX12_ask_71 : decode cX12_ask 71 = .ok (.imul, 1) := by decide +kernel
theorem dX12_ask_72 : decode cX12_ask 72 = .ok (.iadd, 1) := by decide +kernel
theorem dX12_ask_73 : decode cX12_ask 73 = .ok (.iconst 1, 1) := by decide +kernel
theorem dX12_ask_74 : decode cX12_ask 74 = .ok (.iadd, 1) := by decide +kernel
theorem dX12_ask_75 : decode cX12_ask 75 = .ok (.iaload, 1) := by decide +kernel
theorem dX12_ask_76 : decode cX12_ask 76 = .ok (.i2l, 1) := by decide +kernel
theorem dX12_ask_77 : decode cX12_ask 77 = .ok (.lastore, 1) := by decide +kernel
theorem dX12_ask_78 : decode cX12_ask 78 = .ok (.aload_n 0, 1) := by decide +kernel
theorem dX12_ask_79 : decode cX12_ask 79 = .ok (.getfield 45, 3) := by decide +kernel
theorem dX12_ask_82 : decode cX12_ask 82 = .ok (.iconst 5, 1) := by decide +kernel
theorem dX12_ask_83 : decode cX12_ask 83 = .ok (.aload_n 0, 1) := by decide +kernel
theorem dX12_ask_84 : decode cX12_ask 84 = .ok (.getfield 13, 3) := by decide +kernel
theorem dX12_ask_87 : decode cX12_ask 87 = .ok (.bipush 20, 2) := by decide +kernel
theorem dX12_ask_89 : decode cX12_ask 89 = .ok (.iconst 3, 1) := by decide +kernel
theorem dX12_ask_90 : decode cX12_ask 90 = .ok (.aload_n 0, 1) := by decide +kernel
theorem dX12_ask_91 : decode cX12_ask 91 = .ok (.getfield 13, 3) := by decide +kernel
theorem dX12_ask_94 : decode cX12_ask 94 = .ok (.iload_n 1, 1) := by decide +kernel
theorem dX12_ask_95 : decode cX12_ask 95 = .ok (.iaload, 1) := by decide +kernel
theorem dX12_ask_96 : decode cX12_ask 96 = .ok (.imul, 1) := by decide +kernel
theorem dX12_ask_97 : decode cX12_ask 97 = .ok (.iadd, 1) := by decide +kernel
theorem dX12_ask_98 : decode cX12_ask 98 = .ok (.iconst 2, 1) := by decide +kernel
theorem dX12_ask_99 : decode cX12_ask 99 = .ok (.iadd, 1) := by decide +kernel
theorem dX12_ask_100 : decode cX12_ask 100 = .ok (.iaload, 1) := by decide +kernel
theorem dX12_ask_101 : decode cX12_ask 101 = .ok (.i2l, 1) := by decide +kernel
theorem dX12_ask_102 : decode cX12_ask 102 = .ok (.lastore, 1) := by decide +kernel
theorem dX12_ask_103 : decode cX12_ask 103 = .ok (.aload_n 0, 1) := by decide +kernel
theorem dX12_ask_104 : decode cX12_ask 104 = .ok (.getfield 45, 3) := by decide +kernel
theorem dX12_ask_107 : decode cX12_ask 107 = .ok (.bipush 6, 2) := by decide +kernel
theorem dX12_ask_109 : decode cX12_ask 109 = .ok (.aload_n 0, 1) := by decide +kernel
theorem dX12_ask_110 : decode cX12_ask 110 = .ok (.iload_n 1, 1) := by decide +kernel
theorem dX12_ask_111 : decode cX12_ask 111 = .ok (.invokevirtual 331, 3) := by decide +kernel
theorem dX12_ask_114 : decode cX12_ask 114 = .ok (.i2l, 1) := by decide +kernel
theorem dX12_ask_115 : decode cX12_ask 115 = .ok (.lastore, 1) := by decide +kernel
theorem dX12_ask_116 : decode cX12_ask 116 = .ok (.aload_n 0, 1) := by decide +kernel
theorem dX12_ask_117 : decode cX12_ask 117 = .ok (.getfield 45, 3) := by decide +kernel
theorem dX12_ask_120 : decode cX12_ask 120 = .ok (.bipush 7, 2) := by decide +kernel
theorem dX12_ask_122 : decode cX12_ask 122 = .ok (.aload_n 0, 1) := by decide +kernel
theorem dX12_ask_123 : decode cX12_ask 123 = .ok (.getfield 13, 3) := by decide +kernel
theorem dX12_ask_126 : decode cX12_ask 126 = .ok (.iload_n 1, 1) := by decide +kernel
theorem dX12_ask_127 : decode cX12_ask 127 = .ok (.iconst 2, 1) := by decide +kernel
theorem dX12_ask_128 : decode cX12_ask 128 = .ok (.iadd, 1) := by decide +kernel
theorem dX12_ask_129 : decode cX12_ask 129 = .ok (.iaload, 1) := by decide +kernel
theorem dX12_ask_130 : decode cX12_ask 130 = .ok (.i2l, 1) := by decide +kernel
theorem dX12_ask_131 : decode cX12_ask 131 = .ok (.lastore, 1) := by decide +kernel
theorem dX12_ask_132 : decode cX12_ask 132 = .ok (.aload_n 0, 1) := by decide +kernel
theorem dX12_ask_133 : decode cX12_ask 133 = .ok (.getfield 45, 3) := by decide +kernel
theorem dX12_ask_136 : decode cX12_ask 136 = .ok (.bipush 8, 2) := by decide +kernel
theorem dX12_ask_138 : decode cX12_ask 138 = .ok (.aload_n 0, 1) := by decide +kernel
theorem dX12_ask_139 : decode cX12_ask 139 = .ok (.getfield 13, 3) := by decide +kernel
theorem dX12_ask_142 : decode cX12_ask 142 = .ok (.iload_n 1, 1) := by decide +kernel
theorem dX12_ask_143 : decode cX12_ask 143 = .ok (.iconst 1, 1) := by decide +kernel
theorem dX12_ask_144 : decode cX12_ask 144 = .ok (.iadd, 1) := by decide +kernel
theorem dX12_ask_145 : decode cX12_ask 145 = .ok (.iaload, 1) := by decide +kernel
theorem dX12_ask_146 : decode cX12_ask 146 = .ok (.i2l, 1) := by decide +kernel
theorem dX12_ask_147 : decode cX12_ask 147 = .ok (.lastore, 1) := by decide +kernel
theorem dX12_ask_148 : decode cX12_ask 148 = .ok (.aload_n 0, 1) := by decide +kernel
theorem dX12_ask_149 : decode cX12_ask 149 = .ok (.getfield 45, 3) := by decide +kernel
theorem dX12_ask_152 : decode cX12_ask 152 = .ok (.bipush 9, 2) := by decide +kernel
theorem dX12_ask_154 : decode cX12_ask 154 = .ok (.aload_n 0, 1) := by decide +kernel
theorem dX12_ask_155 : decode cX12_ask 155 = .ok (.getfield 13, 3) := by decide +kernel
theorem dX12_ask_158 : decode cX12_ask 158 = .ok (.iload_n 1, 1) := by decide +kernel
theorem dX12_ask_159 : decode cX12_ask 159 = .ok (.bipush 6, 2) := by decide +kernel
theorem dX12_ask_161 : decode cX12_ask 161 = .ok (.iadd, 1) := by decide +kernel
theorem dX12_ask_162 : decode cX12_ask 162 = .ok (.iaload, 1) := by decide +kernel
theorem dX12_ask_163 : decode cX12_ask 163 = .ok (.aload_n 0, 1) := by decide +kernel
theorem dX12_ask_164 : decode cX12_ask 164 = .ok (.getfield 13, 3) := by decide +kernel
theorem dX12_ask_167 : decode cX12_ask 167 = .ok (.iload_n 1, 1) := by decide +kernel
theorem dX12_ask_168 : decode cX12_ask 168 = .ok (.iaload, 1) := by decide +kernel
theorem dX12_ask_169 : decode cX12_ask 169 = .ok (.isub, 1) := by decide +kernel
theorem dX12_ask_170 : decode cX12_ask 170 = .ok (.i2l, 1) := by decide +kernel
theorem dX12_ask_171 : decode cX12_ask 171 = .ok (.lastore, 1) := by decide +kernel
theorem dX12_ask_172 : decode cX12_ask 172 = .ok (.return_, 1) := by decide +kernel
theorem dX12_weightOf_0 : decode cX12_weightOf 0 = .ok (.aload_n 0, 1) := by decide +kernel
theorem dX12_weightOf_1 : decode cX12_weightOf 1 = .ok (.iload_n 1, 1) := by decide +kernel
theorem dX12_weightOf_2 : decode cX12_weightOf 2 = .ok (.iload_n 2, 1) := by decide +kernel
theorem dX12_weightOf_3 : decode cX12_weightOf 3 = .ok (.invokevirtual 342, 3) := by decide +kernel
theorem dX12_weightOf_6 : decode cX12_weightOf 6 = .ok (.ifCond .ne 5, 3) := by decide +kernel
theorem dX12_weightOf_9 : decode cX12_weightOf 9 = .ok (.iconst 0, 1) := by decide +kernel
theorem dX12_weightOf_10 : decode cX12_weightOf 10 = .ok (.ireturn, 1) := by decide +kernel
theorem dX12_weightOf_11 : decode cX12_weightOf 11 = .ok (.aload_n 0, 1) := by decide +kernel
theorem dX12_weightOf_12 : decode cX12_weightOf 12 = .ok (.iload_n 1, 1) := by decide +kernel
theorem dX12_weightOf_13 : decode cX12_weightOf 13 = .ok (.invokevirtual 345, 3) := by decide +kernel
theorem dX12_weightOf_16 : decode cX12_weightOf 16 = .ok (.aload_n 0, 1) := by decide +kernel
theorem dX12_weightOf_17 : decode cX12_weightOf 17 = .ok (.iload_n 2, 1) := by decide +kernel
theorem dX12_weightOf_18 : decode cX12_weightOf 18 = .ok (.iconst 0, 1) := by decide +kernel
theorem dX12_weightOf_19 : decode cX12_weightOf 19 = .ok (.iconst 0, 1) := by decide +kernel
theorem dX12_weightOf_20 : decode cX12_weightOf 20 = .ok (.sipush 1000, 3) := by decide +kernel
theorem dX12_weightOf_23 : decode cX12_weightOf 23 = .ok (.invokevirtual 348, 3) := by decide +kernel
theorem dX12_weightOf_26 : decode cX12_weightOf 26 = .ok (.ireturn, 1) := by decide +kernel
theorem dX12_weights_0 : decode cX12_weights 0 = .ok (.iconst 0, 1) := by decide +kernel
theorem dX12_weights_1 : decode cX12_weights 1 = .ok (.istore_n 2, 1) := by decide +kernel
theorem dX12_weights_2 : decode cX12_weights 2 = .ok (.iconst 0, 1) := by decide +kernel
theorem dX12_weights_3 : decode cX12_weights 3 = .ok (.istore_n 3, 1) := by decide +kernel
theorem dX12_weights_4 : decode cX12_weights 4 = .ok (.iload_n 3, 1) := by decide +kernel
theorem dX12_weights_5 : decode cX12_weights 5 = .ok (.iconst 5, 1) := by decide +kernel
theorem dX12_weights_6 : decode cX12_weights 6 = .ok (.if_icmp .ge 18, 3) := by decide +kernel
theorem dX12_weights_9 : decode cX12_weights 9 = .ok (.iload_n 2, 1) := by decide +kernel
theorem dX12_weights_10 : decode cX12_weights 10 = .ok (.aload_n 0, 1) := by decide +kernel
theorem dX12_weights_11 : decode cX12_weights 11 = .ok (.iload_n 1, 1) := by decide +kernel
theorem dX12_weights_12 : decode cX12_weights 12 = .ok (.iload_n 3, 1) := by decide +kernel
theorem dX12_weights_13 : decode cX12_weights 13 = .ok (.invokevirtual 352, 3) := by decide +kernel
theorem dX12_weights_16 : decode cX12_weights 16 = .ok (.iadd, 1) := by decide +kernel
theorem dX12_weights_17 : decode cX12_weights 17 = .ok (.istore_n 2, 1) := by decide +kernel
theorem dX12_weights_18 : decode cX12_weights 18 = .ok (.iinc 3 1, 3) := by decide +kernel
theorem dX12_weights_21 : decode cX12_weights 21 = .ok (.goto (-17), 3) := by decide +kernel
theorem dX12_weights_24 : decode cX12_weights 24 = .ok (.iload_n 2, 1) := by decide +kernel
theorem dX12_weights_25 : decode cX12_weights 25 = .ok (.ireturn, 1) := by decide +kernel
theorem dX12_growOf_0 : decode cX12_growOf 0 = .ok (.aload_n 0, 1) := by decide +kernel
theorem dX12_growOf_1 : decode cX12_growOf 1 = .ok (.iload_n 1, 1) := by decide +kernel
theorem dX12_growOf_2 : decode cX12_growOf 2 = .ok (.invokevirtual 345, 3) := by decide +kernel
theorem dX12_growOf_5 : decode cX12_growOf 5 = .ok (.aload_n 0, 1) := by decide +kernel
theorem dX12_growOf_6 : decode cX12_growOf 6 = .ok (.iconst 5, 1) := by decide +kernel
theorem dX12_growOf_7 : decode cX12_growOf 7 = .ok (.bipush 100, 2) := by decide +kernel
theorem dX12_growOf_9 : decode cX12_growOf 9 = .ok (.iconst 1, 1) := by decide +kernel
theorem dX12_growOf_10 : decode cX12_growOf 10 = .ok (.sipush 1000, 3) := by decide +kernel
theorem dX12_growOf_13 : decode cX12_growOf 13 = .ok (.invokevirtual 348, 3) := by decide +kernel
theorem dX12_growOf_16 : decode cX12_growOf 16 = .ok (.ireturn, 1) := by decide +kernel
theorem dX12_sightAt_0 : decode cX12_sightAt 0 = .ok (.sipush 420, 3) := by decide +kernel
theorem dX12_sightAt_3 : decode cX12_sightAt 3 = .ok (.bipush 7, 2) := by decide +kernel
theorem dX12_sightAt_5 : decode cX12_sightAt 5 = .ok (.iload_n 0, 1) := by decide +kernel
theorem dX12_sightAt_6 : decode cX12_sightAt 6 = .ok (.imul, 1) := by decide +kernel
theorem dX12_sightAt_7 : decode cX12_sightAt 7 = .ok (.iadd, 1) := by decide +kernel
theorem dX12_sightAt_8 : decode cX12_sightAt 8 = .ok (.ireturn, 1) := by decide +kernel
theorem dX12_of_0 : decode cX12_of 0 = .ok (.aload_n 0, 1) := by decide +kernel
theorem dX12_of_1 : decode cX12_of 1 = .ok (.iconst 0, 1) := by decide +kernel
theorem dX12_of_2 : decode cX12_of 2 = .ok (.putfield 76, 3) := by decide +kernel
theorem dX12_of_5 : decode cX12_of 5 = .ok (.aload_n 0, 1) := by decide +kernel
theorem dX12_of_6 : decode cX12_of 6 = .ok (.iconst 5, 1) := by decide +kernel
theorem dX12_of_7 : decode cX12_of 7 = .ok (.iload_n 1, 1) := by decide +kernel
theorem dX12_of_8 : decode cX12_of 8 = .ok (.invokevirtual 122, 3) := by decide +kernel
theorem dX12_of_11 : decode cX12_of 11 = .ok (.ifCond .eq 15, 3) := by decide +kernel
theorem dX12_of_14 : decode cX12_of 14 = .ok (.iload_n 2, 1) := by decide +kernel
theorem dX12_of_15 : decode cX12_of 15 = .ok (.i2l, 1) := by decide +kernel
theorem dX12_of_16 : decode cX12_of 16 = .ok (.lconst 0, 1) := by decide +kernel
theorem dX12_of_17 : decode cX12_of 17 = .ok (.ldc2_w 356, 3) := by decide +kernel
theorem dX12_of_20 : decode cX12_of 20 = .ok (.invokestatic 82, 3) := by decide +kernel
theorem dX12_of_23 : decode cX12_of 23 = .ok (.ifCond .ne 5, 3) := by decide +kernel
theorem dX12_of_26 : decode cX12_of 26 = .ok (.iconst (-1), 1) := by decide +kernel
theorem dX12_of_27 : decode cX12_of 27 = .ok (.ireturn, 1) := by decide +kernel
theorem dX12_of_28 : decode cX12_of 28 = .ok (.iload_n 1, 1) := by decide +kernel
theorem dX12_of_29 : decode cX12_of 29 = .ok (.invokestatic 358, 3) := by decide +kernel
theorem dX12_of_32 : decode cX12_of 32 = .ok (.istore_n 3, 1) := by decide +kernel
theorem dX12_of_33 : decode cX12_of 33 = .ok (.iload_n 2, 1) := by decide +kernel
theorem dX12_of_34 : decode cX12_of 34 = .ok (.bipush 7, 2) := by decide +kernel
theorem dX12_of_36 : decode cX12_of 36 = .ok (.if_icmp .ne 11, 3) := by decide +kernel
theorem dX12_of_39 : decode cX12_of 39 = .ok (.aload_n 0, 1) := by decide +kernel
theorem dX12_of_40 : decode cX12_of 40 = .ok (.iload_n 3, 1) := by decide +kernel
theorem dX12_of_41 : decode cX12_of 41 = .ok (.invokevirtual 331, 3) := by decide +kernel
theorem dX12_of_44 : decode cX12_of 44 = .ok (.goto 25, 3) := by decide +kernel
theorem dX12_of_47 : decode cX12_of 47 = .ok (.iload_n 2, 1) := by decide +kernel
theorem dX12_of_48 : decode cX12_of 48 = .ok (.bipush 8, 2) := by decide +kernel
theorem dX12_of_50 : decode cX12_of 50 = .ok (.if_icmp .ne 11, 3) := by decide +kernel
theorem dX12_of_53 : decode cX12_of 53 = .ok (.aload_n 0, 1) := by decide +kernel
theorem dX12_of_54 : decode cX12_of 54 = .ok (.iload_n 3, 1) := by decide +kernel
theorem dX12_of_55 : decode cX12_of 55 = .ok (.invokevirtual 361, 3) := by decide +kernel
theorem dX12_of_58 : decode cX12_of 58 = .ok (.goto 11, 3) := by decide +kernel
theorem dX12_of_61 : decode cX12_of 61 = .ok (.aload_n 0, 1) := by decide +kernel
theorem dX12_of_62 : decode cX12_of 62 = .ok (.getfield 13, 3) := by decide +kernel
theorem dX12_of_65 : decode cX12_of 65 = .ok (.iload_n 3, 1) := by decide +kernel
theorem dX12_of_66 : decode cX12_of 66 = .ok (.iload_n 2, 1) := by decide +kernel
theorem dX12_of_67 : decode cX12_of 67 = .ok (.iadd, 1) := by decide +kernel
theorem dX12_of_68 : decode cX12_of 68 = .ok (.iaload, 1) := by decide +kernel
theorem dX12_of_69 : decode cX12_of 69 = .ok (.ireturn, 1) := by decide +kernel
theorem dX12_there_0 : decode cX12_there 0 = .ok (.aload_n 0, 1) := by decide +kernel
theorem dX12_there_1 : decode cX12_there 1 = .ok (.iconst 0, 1) := by decide +kernel
theorem dX12_there_2 : decode cX12_there 2 = .ok (.putfield 76, 3) := by decide +kernel
theorem dX12_there_5 : decode cX12_there 5 = .ok (.aload_n 0, 1) := by decide +kernel
theorem dX12_there_6 : decode cX12_there 6 = .ok (.iconst 5, 1) := by decide +kernel
theorem dX12_there_7 : decode cX12_there 7 = .ok (.iload_n 1, 1) := by decide +kernel
theorem dX12_there_8 : decode cX12_there 8 = .ok (.invokevirtual 122, 3) := by decide +kernel
theorem dX12_there_11 : decode cX12_there 11 = .ok (.ifCond .ne 5, 3) := by decide +kernel
theorem dX12_there_14 : decode cX12_there 14 = .ok (.iconst (-1), 1) := by decide +kernel
theorem dX12_there_15 : decode cX12_there 15 = .ok (.ireturn, 1) := by decide +kernel
theorem dX12_there_16 : decode cX12_there 16 = .ok (.iconst 0, 1) := by decide +kernel
theorem dX12_there_17 : decode cX12_there 17 = .ok (.istore_n 2, 1) := by decide +kernel
theorem dX12_there_18 : decode cX12_there 18 = .ok (.iconst 0, 1) := by decide +kernel
theorem dX12_there_19 : decode cX12_there 19 = .ok (.istore_n 3, 1) := by decide +kernel
theorem dX12_there_20 : decode cX12_there 20 = .ok (.iload_n 3, 1) := by decide +kernel
theorem dX12_there_21 : decode cX12_there 21 = .ok (.iconst 5, 1) := by decide +kernel
theorem dX12_there_22 : decode cX12_there 22 = .ok (.if_icmp .ge 31, 3) := by decide +kernel
theorem dX12_there_25 : decode cX12_there 25 = .ok (.iload_n 2, 1) := by decide +kernel
theorem dX12_there_26 : decode cX12_there 26 = .ok (.aload_n 0, 1) := by decide +kernel
theorem dX12_there_27 : decode cX12_there 27 = .ok (.iload_n 1, 1) := by decide +kernel
theorem dX12_there_28 : decode cX12_there 28 = .ok (.invokestatic 358, 3) := by decide +kernel
theorem dX12_there_31 : decode cX12_there 31 = .ok (.iload_n 3, 1) := by decide +kernel
theorem dX12_there_32 : decode cX12_there 32 = .ok (.invokevirtual 342, 3) := by decide +kernel
theorem dX12_there_35 : decode cX12_there 35 = .ok (.ifCond .eq 9, 3) := by decide +kernel
theorem dX12_there_38 : decode cX12_there 38 = .ok (.iconst 1, 1) := by decide +kernel
theorem dX12_there_39 : decode cX12_there 39 = .ok (.iload_n 3, 1) := by decide +kernel
theorem dX12_there_40 : decode cX12_there 40 = .ok (.ishl, 1) := by decide +kernel
theorem dX12_there_41 : decode cX12_there 41 = .ok (.goto 4, 3) := by decide +kernel
theorem dX12_there_44 : decode cX12_there 44 = .ok (.iconst 0, 1) := by decide +kernel
theorem dX12_there_45 : decode cX12_there 45 = .ok (.ior, 1) := by decide +kernel
theorem dX12_there_46 : decode cX12_there 46 = .ok (.istore_n 2, 1) := by decide +kernel
theorem dX12_there_47 : decode cX12_there 47 = .ok (.iinc 3 1, 3) := by decide +kernel
theorem dX12_there_50 : decode cX12_there 50 = .ok (.goto (-30), 3) := by decide +kernel
theorem dX12_there_53 : decode cX12_there 53 = .ok (.iload_n 2, 1) := by decide +kernel
theorem dX12_there_54 : decode cX12_there 54 = .ok (.ireturn, 1) := by decide +kernel
theorem dX12_odds_0 : decode cX12_odds 0 = .ok (.aload_n 0, 1) := by decide +kernel
theorem dX12_odds_1 : decode cX12_odds 1 = .ok (.iconst 0, 1) := by decide +kernel
theorem dX12_odds_2 : decode cX12_odds 2 = .ok (.putfield 76, 3) := by decide +kernel
theorem dX12_odds_5 : decode cX12_odds 5 = .ok (.aload_n 0, 1) := by decide +kernel
theorem dX12_odds_6 : decode cX12_odds 6 = .ok (.iconst 5, 1) := by decide +kernel
theorem dX12_odds_7 : decode cX12_odds 7 = .ok (.iload_n 1, 1) := by decide +kernel
theorem dX12_odds_8 : decode cX12_odds 8 = .ok (.invokevirtual 122, 3) := by decide +kernel
theorem dX12_odds_11 : decode cX12_odds 11 = .ok (.ifCond .eq 25, 3) := by decide +kernel
theorem dX12_odds_14 : decode cX12_odds 14 = .ok (.iload_n 2, 1) := by decide +kernel
theorem dX12_odds_15 : decode cX12_odds 15 = .ok (.i2l, 1) := by decide +kernel
theorem dX12_odds_16 : decode cX12_odds 16 = .ok (.lconst 0, 1) := by decide +kernel
theorem dX12_odds_17 : decode cX12_odds 17 = .ok (.ldc2_w 364, 3) := by decide +kernel
theorem dX12_odds_20 : decode cX12_odds 20 = .ok (.invokestatic 82, 3) := by decide +kernel
theorem dX12_odds_23 : decode cX12_odds 23 = .ok (.ifCond .eq 13, 3) := by decide +kernel
theorem dX12_odds_26 : decode cX12_odds 26 = .ok (.iload_n 3, 1) := by decide +kernel
theorem dX12_odds_27 : decode cX12_odds 27 = .ok (.i2l, 1) := by decide +kernel
theorem dX12_odds_28 : decode cX12_odds 28 = .ok (.lconst 0, 1) := by decide +kernel
theorem dX12_odds_29 : decode cX12_odds 29 = .ok (.lconst 1, 1) := by decide +kernel
theorem dX12_odds_30 : decode cX12_odds 30 = .ok (.invokestatic 82, 3) := by decide +kernel
theorem dX12_odds_33 : decode cX12_odds 33 = .ok (.ifCond .ne 5, 3) := by decide +kernel
theorem dX12_odds_36 : decode cX12_odds 36 = .ok (.iconst (-1), 1) := by decide +kernel
theorem dX12_odds_37 : decode cX12_odds 37 = .ok (.ireturn, 1) := by decide +kernel
theorem dX12_odds_38 : decode cX12_odds 38 = .ok (.aload_n 0, 1) := by decide +kernel
theorem dX12_odds_39 : decode cX12_odds 39 = .ok (.iload_n 1, 1) := by decide +kernel
theorem dX12_odds_40 : decode cX12_odds 40 = .ok (.invokestatic 358, 3) := by decide +kernel
theorem dX12_odds_43 : decode cX12_odds 43 = .ok (.invokevirtual 366, 3) := by decide +kernel
theorem dX12_odds_46 : decode cX12_odds 46 = .ok (.istore 4, 2) := by decide +kernel
theorem dX12_odds_48 : decode cX12_odds 48 = .ok (.aload_n 0, 1) := by decide +kernel
theorem dX12_odds_49 : decode cX12_odds 49 = .ok (.iload_n 1, 1) := by decide +kernel
theorem dX12_odds_50 : decode cX12_odds 50 = .ok (.invokestatic 358, 3) := by decide +kernel
theorem dX12_odds_53 : decode cX12_odds 53 = .ok (.iload_n 2, 1) := by decide +kernel
theorem dX12_odds_54 : decode cX12_odds 54 = .ok (.invokevirtual 352, 3) := by decide +kernel
theorem dX12_odds_57 : decode cX12_odds 57 = .ok (.istore 5, 2) := by decide +kernel
theorem dX12_odds_59 : decode cX12_odds 59 = .ok (.iload 4, 2) := by decide +kernel
theorem dX12_odds_61 : decode cX12_odds 61 = .ok (.ifCond .ne 5, 3) := by decide +kernel
theorem dX12_odds_64 : decode cX12_odds 64 = .ok (.iconst (-1), 1) := by decide +kernel
theorem dX12_odds_65 : decode cX12_odds 65 = .ok (.ireturn, 1) := by decide +kernel
theorem dX12_odds_66 : decode cX12_odds 66 = .ok (.iload 4, 2) := by decide +kernel
theorem dX12_odds_68 : decode cX12_odds 68 = .ok (.istore 6, 2) := by decide +kernel
theorem dX12_odds_70 : decode cX12_odds 70 = .ok (.iload 5, 2) := by decide +kernel
theorem dX12_odds_72 : decode cX12_odds 72 = .ok (.istore 7, 2) := by decide +kernel
theorem dX12_odds_74 : decode cX12_odds 74 = .ok (.iload 7, 2) := by decide +kernel
theorem dX12_odds_76 : decode cX12_odds 76 = .ok (.ifCond .le 21, 3) := by decide +kernel
theorem dX12_odds_79 : decode cX12_odds 79 = .ok (.iload 6, 2) := by decide +kernel
theorem dX12_odds_81 : decode cX12_odds 81 = .ok (.iload 7, 2) := by decide +kernel
theorem dX12_odds_83 : decode cX12_odds 83 = .ok (.irem, 1) := by decide +kernel
theorem dX12_odds_84 : decode cX12_odds 84 = .ok (.istore 8, 2) := by decide +kernel
theorem dX12_odds_86 : decode cX12_odds 86 = .ok (.iload 7, 2) := by decide +kernel
theorem dX12_odds_88 : decode cX12_odds 88 = .ok (.istore 6, 2) := by decide +kernel
theorem dX12_odds_90 : decode cX12_odds 90 = .ok (.iload 8, 2) := by decide +kernel
theorem dX12_odds_92 : decode cX12_odds 92 = .ok (.istore 7, 2) := by decide +kernel
theorem dX12_odds_94 : decode cX12_odds 94 = .ok (.goto (-20), 3) := by decide +kernel
theorem dX12_odds_97 : decode cX12_odds 97 = .ok (.iload_n 3, 1) := by decide +kernel
theorem dX12_odds_98 : decode cX12_odds 98 = .ok (.ifCond .ne 11, 3) := by decide +kernel
theorem dX12_odds_101 : decode cX12_odds 101 = .ok (.iload 5, 2) := by decide +kernel
theorem dX12_odds_103 : decode cX12_odds 103 = .ok (.iload 6, 2) := by decide +kernel
theorem dX12_odds_105 : decode cX12_odds 105 = .ok (.idiv, 1) := by decide +kernel
theorem dX12_odds_106 : decode cX12_odds 106 = .ok (.goto 8, 3) := by decide +kernel
theorem dX12_odds_109 : decode cX12_odds 109 = .ok (.iload 4, 2) := by decide +kernel
theorem dX12_odds_111 : decode cX12_odds 111 = .ok (.iload 6, 2) := by decide +kernel
theorem dX12_odds_113 : decode cX12_odds 113 = .ok (.idiv, 1) := by decide +kernel
theorem dX12_odds_114 : decode cX12_odds 114 = .ok (.ireturn, 1) := by decide +kernel
theorem dX12_unknown_0 : decode cX12_unknown 0 = .ok (.aload_n 0, 1) := by decide +kernel
theorem dX12_unknown_1 : decode cX12_unknown 1 = .ok (.iconst 0, 1) := by decide +kernel
theorem dX12_unknown_2 : decode cX12_unknown 2 = .ok (.putfield 76, 3) := by decide +kernel
theorem dX12_unknown_5 : decode cX12_unknown 5 = .ok (.iload_n 1, 1) := by decide +kernel
theorem dX12_unknown_6 : decode cX12_unknown 6 = .ok (.i2l, 1) := by decide +kernel
theorem dX12_unknown_7 : decode cX12_unknown 7 = .ok (.lconst 0, 1) := by decide +kernel
theorem dX12_unknown_8 : decode cX12_unknown 8 = .ok (.lconst 1, 1) := by decide +kernel
theorem dX12_unknown_9 : decode cX12_unknown 9 = .ok (.invokestatic 82, 3) := by decide +kernel
theorem dX12_unknown_12 : decode cX12_unknown 12 = .ok (.ifCond .ne 5, 3) := by decide +kernel
theorem dX12_unknown_15 : decode cX12_unknown 15 = .ok (.iconst (-1), 1) := by decide +kernel
theorem dX12_unknown_16 : decode cX12_unknown 16 = .ok (.ireturn, 1) := by decide +kernel
theorem dX12_unknown_17 : decode cX12_unknown 17 = .ok (.iconst 0, 1) := by decide +kernel
theorem dX12_unknown_18 : decode cX12_unknown 18 = .ok (.istore_n 3, 1) := by decide +kernel
theorem dX12_unknown_19 : decode cX12_unknown 19 = .ok (.iconst (-1), 1) := by decide +kernel
theorem dX12_unknown_20 : decode cX12_unknown 20 = .ok (.istore 4, 2) := by decide +kernel
theorem dX12_unknown_22 : decode cX12_unknown 22 = .ok (.iconst 0, 1) := by decide +kernel
theorem dX12_unknown_23 : decode cX12_unknown 23 = .ok (.istore 5, 2) := by decide +kernel
theorem dX12_unknown_25 : decode cX12_unknown 25 = .ok (.iload 5, 2) := by decide +kernel
theorem dX12_unknown_27 : decode cX12_unknown 27 = .ok (.aload_n 0, 1) := by decide +kernel
theorem dX12_unknown_28 : decode cX12_unknown 28 = .ok (.getfield 13, 3) := by decide +kernel
theorem dX12_unknown_31 : decode cX12_unknown 31 = .ok (.iconst 5, 1) := by decide +kernel
theorem dX12_unknown_32 : decode cX12_unknown 32 = .ok (.iaload, 1) := by decide +kernel
theorem dX12_unknown_33 : decode cX12_unknown 33 = .ok (.if_icmp .ge 38, 3) := by decide +kernel
theorem dX12_unknown_36 : decode cX12_unknown 36 = .ok (.aload_n 0, 1) := by decide +kernel
theorem dX12_unknown_37 : decode cX12_unknown 37 = .ok (.iload 5, 2) := by decide +kernel
theorem dX12_unknown_39 : decode cX12_unknown 39 = .ok (.invokestatic 358, 3) := by decide +kernel
theorem dX12_unknown_42 : decode cX12_unknown 42 = .ok (.invokevirtual 366, 3) := by decide +kernel
theorem dX12_unknown_45 : decode cX12_unknown 45 = .ok (.ifCond .ne 20, 3) := by decide +kernel
theorem dX12_unknown_48 : decode cX12_unknown 48 = .ok (.iload_n 3, 1) := by decide +kernel
theorem dX12_unknown_49 : decode cX12_unknown 49 = .ok (.iload_n 2, 1) := by decide +kernel
theorem dX12_unknown_50 : decode cX12_unknown 50 = .ok (.if_icmp .ne 8, 3) := by decide +kernel
theorem dX12_unknown_53 : decode cX12_unknown 53 = .ok (.iload 5, 2) := by decide +kernel
theorem dX12_unknown_55 : decode cX12_unknown 55 = .ok (.goto 5, 3) := by decide +kernel
theorem dX12_unknown_58 : decode cX12_unknown 58 = .ok (.iload 4, 2) := by decide +kernel
theorem dX12_unknown_60 : decode cX12_unknown 60 = .ok (.istore 4, 2) := by decide +kernel
theorem dX12_unknown_62 : decode cX12_unknown 62 = .ok (.iinc 3 1, 3) := by decide +kernel
theorem dX12_unknown_65 : decode cX12_unknown 65 = .ok (.iinc 5 1, 3) := by decide +kernel
theorem dX12_unknown_68 : decode cX12_unknown 68 = .ok (.goto (-43), 3) := by decide +kernel
theorem dX12_unknown_71 : decode cX12_unknown 71 = .ok (.iload_n 1, 1) := by decide +kernel
theorem dX12_unknown_72 : decode cX12_unknown 72 = .ok (.ifCond .ne 7, 3) := by decide +kernel
theorem dX12_unknown_75 : decode cX12_unknown 75 = .ok (.iload_n 3, 1) := by decide +kernel
theorem dX12_unknown_76 : decode cX12_unknown 76 = .ok (.goto 5, 3) := by decide +kernel
theorem dX12_unknown_79 : decode cX12_unknown 79 = .ok (.iload 4, 2) := by decide +kernel
theorem dX12_unknown_81 : decode cX12_unknown 81 = .ok (.ireturn, 1) := by decide +kernel
theorem dX12_span_0 : decode cX12_span 0 = .ok (.aload_n 0, 1) := by decide +kernel
theorem dX12_span_1 : decode cX12_span 1 = .ok (.iconst 0, 1) := by decide +kernel
theorem dX12_span_2 : decode cX12_span 2 = .ok (.putfield 76, 3) := by decide +kernel
theorem dX12_span_5 : decode cX12_span 5 = .ok (.aload_n 0, 1) := by decide +kernel
theorem dX12_span_6 : decode cX12_span 6 = .ok (.iconst 5, 1) := by decide +kernel
theorem dX12_span_7 : decode cX12_span 7 = .ok (.iload_n 1, 1) := by decide +kernel
theorem dX12_span_8 : decode cX12_span 8 = .ok (.invokevirtual 122, 3) := by decide +kernel
theorem dX12_span_11 : decode cX12_span 11 = .ok (.ifCond .eq 13, 3) := by decide +kernel
theorem dX12_span_14 : decode cX12_span 14 = .ok (.iload_n 2, 1) := by decide +kernel
theorem dX12_span_15 : decode cX12_span 15 = .ok (.i2l, 1) := by decide +kernel
theorem dX12_span_16 : decode cX12_span 16 = .ok (.lconst 0, 1) := by decide +kernel
theorem dX12_span_17 : decode cX12_span 17 = .ok (.lconst 1, 1) := by decide +kernel
theorem dX12_span_18 : decode cX12_span 18 = .ok (.invokestatic 82, 3) := by decide +kernel
theorem dX12_span_21 : decode cX12_span 21 = .ok (.ifCond .ne 5, 3) := by decide +kernel
theorem dX12_span_24 : decode cX12_span 24 = .ok (.iconst (-1), 1) := by decide +kernel
theorem dX12_span_25 : decode cX12_span 25 = .ok (.ireturn, 1) := by decide +kernel
theorem dX12_span_26 : decode cX12_span 26 = .ok (.iload_n 1, 1) := by decide +kernel
theorem dX12_span_27 : decode cX12_span 27 = .ok (.invokestatic 358, 3) := by decide +kernel
theorem dX12_span_30 : decode cX12_span 30 = .ok (.istore_n 3, 1) := by decide +kernel
theorem dX12_span_31 : decode cX12_span 31 = .ok (.iconst 0, 1) := by decide +kernel
theorem dX12_span_32 : decode cX12_span 32 = .ok (.istore 4, 2) := by decide +kernel
theorem dX12_span_34 : decode cX12_span 34 = .ok (.iconst 0, 1) := by decide +kernel
theorem dX12_span_35 : decode cX12_span 35 = .ok (.istore 5, 2) := by decide +kernel
theorem dX12_span_37 : decode cX12_span 37 = .ok (.iload 5, 2) := by decide +kernel
theorem dX12_span_39 : decode cX12_span 39 = .ok (.aload_n 0, 1) := by decide +kernel
theorem dX12_span_40 : decode cX12_span 40 = .ok (.getfield 13, 3) := by decide +kernel
theorem dX12_span_43 : decode cX12_span 43 = .ok (.iconst 4, 1) := by decide +kernel
theorem dX12_span_44 : decode cX12_span 44 = .ok (.iaload, 1) := by decide +kernel
theorem dX12_span_45 : decode cX12_span 45 = .ok (.if_icmp .ge 43, 3) := by decide +kernel
theorem dX12_span_48 : decode cX12_span 48 = .ok (.iload 4, 2) := by decide +kernel
theorem dX12_span_50 : decode cX12_span 50 = .ok (.aload_n 0, 1) := by decide +kernel
theorem dX12_span_51 : decode cX12_span 51 = .ok (.getfield 13, 3) := by decide +kernel
theorem dX12_span_54 : decode cX12_span 54 = .ok (.sipush 350, 3) := by decide +kernel
theorem dX12_span_57 : decode cX12_span 57 = .ok (.iconst 3, 1) := by decide +kernel
theorem dX12_span_58 : decode cX12_span 58 = .ok (.iload 5, 2) := by decide +kernel
theorem dX12_span_60 : decode cX12_span 60 = .ok (.imul, 1) := by decide +kernel
theorem dX12_span_61 : decode cX12_span 61 = .ok (.iadd, 1) := by decide +kernel
theorem dX12_span_62 : decode cX12_span 62 = .ok (.iaload, 1) := by decide +kernel
theorem dX12_span_63 : decode cX12_span 63 = .ok (.aload_n 0, 1) := by decide +kernel
theorem dX12_span_64 : decode cX12_span 64 = .ok (.getfield 13, 3) := by decide +kernel
theorem dX12_span_67 : decode cX12_span 67 = .ok (.iload_n 3, 1) := by decide +kernel
theorem dX12_span_68 : decode cX12_span 68 = .ok (.iconst 3, 1) := by decide +kernel
theorem dX12_span_69 : decode cX12_span 69 = .ok (.iadd, 1) := by decide +kernel
theorem dX12_span_70 : decode cX12_span 70 = .ok (.iaload, 1) := by decide +kernel
theorem dX12_span_71 : decode cX12_span 71 = .ok (.if_icmp .ne 7, 3) := by decide +kernel
theorem dX12_span_74 : decode cX12_span 74 = .ok (.iconst 1, 1) := by decide +kernel
theorem dX12_span_75 : decode cX12_span 75 = .ok (.goto 4, 3) := by decide +kernel
theorem dX12_span_78 : decode cX12_span 78 = .ok (.iconst 0, 1) := by decide +kernel
theorem dX12_span_79 : decode cX12_span 79 = .ok (.iadd, 1) := by decide +kernel
theorem dX12_span_80 : decode cX12_span 80 = .ok (.istore 4, 2) := by decide +kernel
theorem dX12_span_82 : decode cX12_span 82 = .ok (.iinc 5 1, 3) := by decide +kernel
theorem dX12_span_85 : decode cX12_span 85 = .ok (.goto (-48), 3) := by decide +kernel
theorem dX12_span_88 : decode cX12_span 88 = .ok (.aload_n 0, 1) := by decide +kernel
theorem dX12_span_89 : decode cX12_span 89 = .ok (.iload_n 3, 1) := by decide +kernel
theorem dX12_span_90 : decode cX12_span 90 = .ok (.invokevirtual 361, 3) := by decide +kernel
theorem dX12_span_93 : decode cX12_span 93 = .ok (.istore 5, 2) := by decide +kernel
theorem dX12_span_95 : decode cX12_span 95 = .ok (.iconst (-1), 1) := by decide +kernel
theorem dX12_span_96 : decode cX12_span 96 = .ok (.istore 6, 2) := by decide +kernel
theorem dX12_span_98 : decode cX12_span 98 = .ok (.iconst (-1), 1) := by decide +kernel
theorem dX12_span_99 : decode cX12_span 99 = .ok (.istore 7, 2) := by decide +kernel
theorem dX12_span_101 : decode cX12_span 101 = .ok (.iconst 0, 1) := by decide +kernel
theorem dX12_span_102 : decode cX12_span 102 = .ok (.istore 8, 2) := by decide +kernel
theorem dX12_span_104 : decode cX12_span 104 = .ok (.iload 8, 2) := by decide +kernel
theorem dX12_span_106 : decode cX12_span 106 = .ok (.aload_n 0, 1) := by decide +kernel
theorem dX12_span_107 : decode cX12_span 107 = .ok (.getfield 13, 3) := by decide +kernel
theorem dX12_span_110 : decode cX12_span 110 = .ok (.iconst 4, 1) := by decide +kernel
theorem dX12_span_111 : decode cX12_span 111 = .ok (.iaload, 1) := by decide +kernel
theorem dX12_span_112 : decode cX12_span 112 = .ok (.if_icmp .ge 124, 3) := by decide +kernel
theorem dX12_span_115 : decode cX12_span 115 = .ok (.iload 4, 2) := by decide +kernel
theorem dX12_span_117 : decode cX12_span 117 = .ok (.ifCond .eq 27, 3) := by decide +kernel
theorem dX12_span_120 : decode cX12_span 120 = .ok (.aload_n 0, 1) := by decide +kernel
theorem dX12_span_121 : decode cX12_span 121 = .ok (.getfield 13, 3) := by decide +kernel
theorem dX12_span_124 : decode cX12_span 124 = .ok (.sipush 350, 3) := by decide +kernel
theorem dX12_span_127 : decode cX12_span 127 = .ok (.iconst 3, 1) := by decide +kernel
theorem dX12_span_128 : decode cX12_span 128 = .ok (.iload 8, 2) := by decide +kernel
theorem dX12_span_130 : decode cX12_span 130 = .ok (.imul, 1) := by decide +kernel
theorem dX12_span_131 : decode cX12_span 131 = .ok (.iadd, 1) := by decide +kernel
theorem dX12_span_132 : decode cX12_span 132 = .ok (.iaload, 1) := by decide +kernel
theorem dX12_span_133 : decode cX12_span 133 = .ok (.aload_n 0, 1) := by decide +kernel
theorem dX12_span_134 : decode cX12_span 134 = .ok (.getfield 13, 3) := by decide +kernel
theorem dX12_span_137 : decode cX12_span 137 = .ok (.iload_n 3, 1) := by decide +kernel
theorem dX12_span_138 : decode cX12_span 138 = .ok (.iconst 3, 1) := by decide +kernel
theorem dX12_span_139 : decode cX12_span 139 = .ok (.iadd, 1) := by decide +kernel
theorem dX12_span_140 : decode cX12_span 140 = .ok (.iaload, 1) := by decide +kernel
theorem dX12_span_141 : decode cX12_span 141 = .ok (.if_icmp .ne 89, 3) := by decide +kernel
theorem dX12_span_144 : decode cX12_span 144 = .ok (.aload_n 0, 1) := by decide +kernel
theorem dX12_span_145 : decode cX12_span 145 = .ok (.getfield 13, 3) := by decide +kernel
theorem dX12_span_148 : decode cX12_span 148 = .ok (.iload_n 3, 1) := by decide +kernel
theorem dX12_span_149 : decode cX12_span 149 = .ok (.iconst 5, 1) := by decide +kernel
theorem dX12_span_150 : decode cX12_span 150 = .ok (.iadd, 1) := by decide +kernel
theorem dX12_span_151 : decode cX12_span 151 = .ok (.iaload, 1) := by decide +kernel
theorem dX12_span_152 : decode cX12_span 152 = .ok (.bipush 100, 2) := by decide +kernel
theorem dX12_span_154 : decode cX12_span 154 = .ok (.imul, 1) := by decide +kernel
theorem dX12_span_155 : decode cX12_span 155 = .ok (.aload_n 0, 1) := by decide +kernel
theorem dX12_span_156 : decode cX12_span 156 = .ok (.getfield 13, 3) := by decide +kernel
theorem dX12_span_159 : decode cX12_span 159 = .ok (.sipush 350, 3) := by decide +kernel
theorem dX12_span_162 : decode cX12_span 162 = .ok (.iconst 3, 1) := by decide +kernel
theorem dX12_span_163 : decode cX12_span 163 = .ok (.iload 8, 2) := by decide +kernel
theorem dX12_span_165 : decode cX12_span 165 = .ok (.imul, 1) := by decide +kernel
theorem dX12_span_166 : decode cX12_span 166 = .ok (.iadd, 1) := by decide +kernel
theorem dX12_span_167 : decode cX12_span 167 = .ok (.iconst 1, 1) := by decide +kernel
theorem dX12_span_168 : decode cX12_span 168 = .ok (.iadd, 1) := by decide +kernel
theorem dX12_span_169 : decode cX12_span 169 = .ok (.iaload, 1) := by decide +kernel
theorem dX12_span_170 : decode cX12_span 170 = .ok (.imul, 1) := by decide +kernel
theorem dX12_span_171 : decode cX12_span 171 = .ok (.iload 5, 2) := by decide +kernel
theorem dX12_span_173 : decode cX12_span 173 = .ok (.aload_n 0, 1) := by decide +kernel
theorem dX12_span_174 : decode cX12_span 174 = .ok (.getfield 13, 3) := by decide +kernel
theorem dX12_span_177 : decode cX12_span 177 = .ok (.sipush 350, 3) := by decide +kernel
theorem dX12_span_180 : decode cX12_span 180 = .ok (.iconst 3, 1) := by decide +kernel
theorem dX12_span_181 : decode cX12_span 181 = .ok (.iload 8, 2) := by decide +kernel
theorem dX12_span_183 : decode cX12_span 183 = .ok (.imul, 1) := by decide +kernel
theorem dX12_span_184 : decode cX12_span 184 = .ok (.iadd, 1) := by decide +kernel
theorem dX12_span_185 : decode cX12_span 185 = .ok (.iconst 2, 1) := by decide +kernel
theorem dX12_span_186 : decode cX12_span 186 = .ok (.iadd, 1) := by decide +kernel
theorem dX12_span_187 : decode cX12_span 187 = .ok (.iaload, 1) := by decide +kernel
theorem dX12_span_188 : decode cX12_span 188 = .ok (.imul, 1) := by decide +kernel
theorem dX12_span_189 : decode cX12_span 189 = .ok (.idiv, 1) := by decide +kernel
theorem dX12_span_190 : decode cX12_span 190 = .ok (.istore 9, 2) := by decide +kernel
theorem dX12_span_192 : decode cX12_span 192 = .ok (.iload 6, 2) := by decide +kernel
theorem dX12_span_194 : decode cX12_span 194 = .ok (.iconst (-1), 1) := by decide +kernel
theorem dX12_span_195 : decode cX12_span 195 = .ok (.if_icmp .eq 10, 3) := by decide +kernel
theorem dX12_span_198 : decode cX12_span 198 = .ok (.iload 9, 2) := by decide +kernel
theorem dX12_span_200 : decode cX12_span 200 = .ok (.iload 6, 2) := by decide +kernel
theorem dX12_span_202 : decode cX12_span 202 = .ok (.if_icmp .ge 8, 3) := by decide +kernel
theorem dX12_span_205 : decode cX12_span 205 = .ok (.iload 9, 2) := by decide +kernel
theorem dX12_span_207 : decode cX12_span 207 = .ok (.goto 5, 3) := by decide +kernel
theorem dX12_span_210 : decode cX12_span 210 = .ok (.iload 6, 2) := by decide +kernel
theorem dX12_span_212 : decode cX12_span 212 = .ok (.istore 6, 2) := by decide +kernel
theorem dX12_span_214 : decode cX12_span 214 = .ok (.iload 9, 2) := by decide +kernel
theorem dX12_span_216 : decode cX12_span 216 = .ok (.iload 7, 2) := by decide +kernel
theorem dX12_span_218 : decode cX12_span 218 = .ok (.if_icmp .le 8, 3) := by decide +kernel
theorem dX12_span_221 : decode cX12_span 221 = .ok (.iload 9, 2) := by decide +kernel
theorem dX12_span_223 : decode cX12_span 223 = .ok (.goto 5, 3) := by decide +kernel
theorem dX12_span_226 : decode cX12_span 226 = .ok (.iload 7, 2) := by decide +kernel
theorem dX12_span_228 : decode cX12_span 228 = .ok (.istore 7, 2) := by decide +kernel
theorem dX12_span_230 : decode cX12_span 230 = .ok (.iinc 8 1, 3) := by decide +kernel
theorem dX12_span_233 : decode cX12_span 233 = .ok (.goto (-129), 3) := by decide +kernel
theorem dX12_span_236 : decode cX12_span 236 = .ok (.iload 6, 2) := by decide +kernel
theorem dX12_span_238 : decode cX12_span 238 = .ok (.iconst (-1), 1) := by decide +kernel
theorem dX12_span_239 : decode cX12_span 239 = .ok (.if_icmp .ne 20, 3) := by decide +kernel
theorem dX12_span_242 : decode cX12_span 242 = .ok (.aload_n 0, 1) := by decide +kernel
theorem dX12_span_243 : decode cX12_span 243 = .ok (.getfield 13, 3) := by decide +kernel
theorem dX12_span_246 : decode cX12_span 246 = .ok (.iload_n 3, 1) := by decide +kernel
theorem dX12_span_247 : decode cX12_span 247 = .ok (.iconst 5, 1) := by decide +kernel
theorem dX12_span_248 : decode cX12_span 248 = .ok (.iadd, 1) := by decide +kernel
theorem dX12_span_249 : decode cX12_span 249 = .ok (.iaload, 1) := by decide +kernel
theorem dX12_span_250 : decode cX12_span 250 = .ok (.bipush 100, 2) := by decide +kernel
theorem dX12_span_252 : decode cX12_span 252 = .ok (.imul, 1) := by decide +kernel
theorem dX12_span_253 : decode cX12_span 253 = .ok (.iload 5, 2) := by decide +kernel
theorem dX12_span_255 : decode cX12_span 255 = .ok (.idiv, 1) := by decide +kernel
theorem dX12_span_256 : decode cX12_span 256 = .ok (.goto 14, 3) := by decide +kernel
theorem dX12_span_259 : decode cX12_span 259 = .ok (.iload_n 2, 1) := by decide +kernel
theorem dX12_span_260 : decode cX12_span 260 = .ok (.ifCond .ne 8, 3) := by decide +kernel
theorem dX12_span_263 : decode cX12_span 263 = .ok (.iload 6, 2) := by decide +kernel
theorem dX12_span_265 : decode cX12_span 265 = .ok (.goto 5, 3) := by decide +kernel
theorem dX12_span_268 : decode cX12_span 268 = .ok (.iload 7, 2) := by decide +kernel
theorem dX12_span_270 : decode cX12_span 270 = .ok (.ireturn, 1) := by decide +kernel
theorem dX12_most_0 : decode cX12_most 0 = .ok (.aload_n 0, 1) := by decide +kernel
theorem dX12_most_1 : decode cX12_most 1 = .ok (.iconst 0, 1) := by decide +kernel
theorem dX12_most_2 : decode cX12_most 2 = .ok (.putfield 76, 3) := by decide +kernel
theorem dX12_most_5 : decode cX12_most 5 = .ok (.iload_n 1, 1) := by decide +kernel
theorem dX12_most_6 : decode cX12_most 6 = .ok (.i2l, 1) := by decide +kernel
theorem dX12_most_7 : decode cX12_most 7 = .ok (.lconst 0, 1) := by decide +kernel
theorem dX12_most_8 : decode cX12_most 8 = .ok (.ldc2_w 364, 3) := by decide +kernel
theorem dX12_most_11 : decode cX12_most 11 = .ok (.invokestatic 82, 3) := by decide +kernel
theorem dX12_most_14 : decode cX12_most 14 = .ok (.ifCond .ne 5, 3) := by decide +kernel
theorem dX12_most_17 : decode cX12_most 17 = .ok (.iconst (-1), 1) := by decide +kernel
theorem dX12_most_18 : decode cX12_most 18 = .ok (.ireturn, 1) := by decide +kernel
theorem dX12_most_19 : decode cX12_most 19 = .ok (.iconst 0, 1) := by decide +kernel
theorem dX12_most_20 : decode cX12_most 20 = .ok (.istore_n 2, 1) := by decide +kernel
theorem dX12_most_21 : decode cX12_most 21 = .ok (.iconst 0, 1) := by decide +kernel
theorem dX12_most_22 : decode cX12_most 22 = .ok (.istore_n 3, 1) := by decide +kernel
theorem dX12_most_23 : decode cX12_most 23 = .ok (.iload_n 3, 1) := by decide +kernel
theorem dX12_most_24 : decode cX12_most 24 = .ok (.aload_n 0, 1) := by decide +kernel
theorem dX12_most_25 : decode cX12_most 25 = .ok (.getfield 13, 3) := by decide +kernel
theorem dX12_most_28 : decode cX12_most 28 = .ok (.iconst 5, 1) := by decide +kernel
theorem dX12_most_29 : decode cX12_most 29 = .ok (.iaload, 1) := by decide +kernel
theorem dX12_most_30 : decode cX12_most 30 = .ok (.if_icmp .ge 88, 3) := by decide +kernel
theorem dX12_most_33 : decode cX12_most 33 = .ok (.iconst (-1), 1) := by decide +kernel
theorem dX12_most_34 : decode cX12_most 34 = .ok (.istore 4, 2) := by decide +kernel
theorem dX12_most_36 : decode cX12_most 36 = .ok (.iconst 0, 1) := by decide +kernel
theorem dX12_most_37 : decode cX12_most 37 = .ok (.istore 5, 2) := by decide +kernel
theorem dX12_most_39 : decode cX12_most 39 = .ok (.iconst 0, 1) := by decide +kernel
theorem dX12_most_40 : decode cX12_most 40 = .ok (.istore 6, 2) := by decide +kernel
theorem dX12_most_42 : decode cX12_most 42 = .ok (.iload 6, 2) := by decide +kernel
theorem dX12_most_44 : decode cX12_most 44 = .ok (.iconst 5, 1) := by decide +kernel
theorem dX12_most_45 : decode cX12_most 45 = .ok (.if_icmp .ge 53, 3) := by decide +kernel
theorem dX12_most_48 : decode cX12_most 48 = .ok (.aload_n 0, 1) := by decide +kernel
theorem dX12_most_49 : decode cX12_most 49 = .ok (.iload_n 3, 1) := by decide +kernel
theorem dX12_most_50 : decode cX12_most 50 = .ok (.invokestatic 358, 3) := by decide +kernel
theorem dX12_most_53 : decode cX12_most 53 = .ok (.iload 6, 2) := by decide +kernel
theorem dX12_most_55 : decode cX12_most 55 = .ok (.invokevirtual 352, 3) := by decide +kernel
theorem dX12_most_58 : decode cX12_most 58 = .ok (.istore 7, 2) := by decide +kernel
theorem dX12_most_60 : decode cX12_most 60 = .ok (.iload 7, 2) := by decide +kernel
theorem dX12_most_62 : decode cX12_most 62 = .ok (.iload 5, 2) := by decide +kernel
theorem dX12_most_64 : decode cX12_most 64 = .ok (.if_icmp .le 8, 3) := by decide +kernel
theorem dX12_most_67 : decode cX12_most 67 = .ok (.iload 6, 2) := by decide +kernel
theorem dX12_most_69 : decode cX12_most 69 = .ok (.goto 5, 3) := by decide +kernel
theorem dX12_most_72 : decode cX12_most 72 = .ok (.iload 4, 2) := by decide +kernel
theorem dX12_most_74 : decode cX12_most 74 = .ok (.istore 4, 2) := by decide +kernel
theorem dX12_most_76 : decode cX12_most 76 = .ok (.iload 7, 2) := by decide +kernel
theorem dX12_most_78 : decode cX12_most 78 = .ok (.iload 5, 2) := by decide +kernel
theorem dX12_most_80 : decode cX12_most 80 = .ok (.if_icmp .le 8, 3) := by decide +kernel
theorem dX12_most_83 : decode cX12_most 83 = .ok (.iload 7, 2) := by decide +kernel
theorem dX12_most_85 : decode cX12_most 85 = .ok (.goto 5, 3) := by decide +kernel
theorem dX12_most_88 : decode cX12_most 88 = .ok (.iload 5, 2) := by decide +kernel
theorem dX12_most_90 : decode cX12_most 90 = .ok (.istore 5, 2) := by decide +kernel
theorem dX12_most_92 : decode cX12_most 92 = .ok (.iinc 6 1, 3) := by decide +kernel
theorem dX12_most_95 : decode cX12_most 95 = .ok (.goto (-53), 3) := by decide +kernel
theorem dX12_most_98 : decode cX12_most 98 = .ok (.iload_n 2, 1) := by decide +kernel
theorem dX12_most_99 : decode cX12_most 99 = .ok (.iload 4, 2) := by decide +kernel
theorem dX12_most_101 : decode cX12_most 101 = .ok (.iload_n 1, 1) := by decide +kernel
theorem dX12_most_102 : decode cX12_most 102 = .ok (.if_icmp .ne 7, 3) := by decide +kernel
theorem dX12_most_105 : decode cX12_most 105 = .ok (.iconst 1, 1) := by decide +kernel
theorem dX12_most_106 : decode cX12_most 106 = .ok (.goto 4, 3) := by decide +kernel
theorem dX12_most_109 : decode cX12_most 109 = .ok (.iconst 0, 1) := by decide +kernel
theorem dX12_most_110 : decode cX12_most 110 = .ok (.iadd, 1) := by decide +kernel
theorem dX12_most_111 : decode cX12_most 111 = .ok (.istore_n 2, 1) := by decide +kernel
theorem dX12_most_112 : decode cX12_most 112 = .ok (.iinc 3 1, 3) := by decide +kernel
theorem dX12_most_115 : decode cX12_most 115 = .ok (.goto (-92), 3) := by decide +kernel
theorem dX12_most_118 : decode cX12_most 118 = .ok (.iload_n 2, 1) := by decide +kernel
theorem dX12_most_119 : decode cX12_most 119 = .ok (.ireturn, 1) := by decide +kernel
theorem dX12_setTo_0 : decode cX12_setTo 0 = .ok (.iconst 0, 1) := by decide +kernel
theorem dX12_setTo_1 : decode cX12_setTo 1 = .ok (.istore_n 3, 1) := by decide +kernel
theorem dX12_setTo_2 : decode cX12_setTo 2 = .ok (.iload_n 3, 1) := by decide +kernel
theorem dX12_setTo_3 : decode cX12_setTo 3 = .ok (.bipush 100, 2) := by decide +kernel
theorem dX12_setTo_5 : decode cX12_setTo 5 = .ok (.if_icmp .ge 13, 3) := by decide +kernel
theorem dX12_setTo_8 : decode cX12_setTo 8 = .ok (.aload_n 0, 1) := by decide +kernel
theorem dX12_setTo_9 : decode cX12_setTo 9 = .ok (.iload_n 3, 1) := by decide +kernel
theorem dX12_setTo_10 : decode cX12_setTo 10 = .ok (.lconst 0, 1) := by decide +kernel
theorem dX12_setTo_11 : decode cX12_setTo 11 = .ok (.lastore, 1) := by decide +kernel
theorem dX12_setTo_12 : decode cX12_setTo 12 = .ok (.iinc 3 1, 3) := by decide +kernel
theorem dX12_setTo_15 : decode cX12_setTo 15 = .ok (.goto (-13), 3) := by decide +kernel
theorem dX12_setTo_18 : decode cX12_setTo 18 = .ok (.aload_n 0, 1) := by decide +kernel
theorem dX12_setTo_19 : decode cX12_setTo 19 = .ok (.iconst 0, 1) := by decide +kernel
theorem dX12_setTo_20 : decode cX12_setTo 20 = .ok (.lload_n 1, 1) := by decide +kernel
theorem dX12_setTo_21 : decode cX12_setTo 21 = .ok (.ldc2_w 176, 3) := by decide +kernel
theorem dX12_setTo_24 : decode cX12_setTo 24 = .ok (.lrem, 1) := by decide +kernel
theorem dX12_setTo_25 : decode cX12_setTo 25 = .ok (.lastore, 1) := by decide +kernel
theorem dX12_setTo_26 : decode cX12_setTo 26 = .ok (.aload_n 0, 1) := by decide +kernel
theorem dX12_setTo_27 : decode cX12_setTo 27 = .ok (.iconst 1, 1) := by decide +kernel
theorem dX12_setTo_28 : decode cX12_setTo 28 = .ok (.lload_n 1, 1) := by decide +kernel
theorem dX12_setTo_29 : decode cX12_setTo 29 = .ok (.ldc2_w 176, 3) := by decide +kernel
theorem dX12_setTo_32 : decode cX12_setTo 32 = .ok (.ldiv, 1) := by decide +kernel
theorem dX12_setTo_33 : decode cX12_setTo 33 = .ok (.lastore, 1) := by decide +kernel
theorem dX12_setTo_34 : decode cX12_setTo 34 = .ok (.return_, 1) := by decide +kernel
theorem dX12_multiply_0 : decode cX12_multiply 0 = .ok (.lconst 0, 1) := by decide +kernel
theorem dX12_multiply_1 : decode cX12_multiply 1 = .ok (.lstore_n 3, 1) := by decide +kernel
theorem dX12_multiply_2 : decode cX12_multiply 2 = .ok (.iconst 0, 1) := by decide +kernel
theorem dX12_multiply_3 : decode cX12_multiply 3 = .ok (.istore 5, 2) := by decide +kernel
theorem dX12_multiply_5 : decode cX12_multiply 5 = .ok (.iload 5, 2) := by decide +kernel
theorem dX12_multiply_7 : decode cX12_multiply 7 = .ok (.bipush 100, 2) := by decide +kernel
theorem dX12_multiply_9 : decode cX12_multiply 9 = .ok (.if_icmp .ge 36, 3) := by decide +kernel
theorem dX12_multiply_12 : decode cX12_multiply 12 = .ok (.aload_n 0, 1) := by decide +kernel
theorem dX12_multiply_13 : decode cX12_multiply 13 = .ok (.iload 5, 2) := by decide +kernel
theorem dX12_multiply_15 : decode cX12_multiply 15 = .ok (.laload, 1) := by decide +kernel
theorem dX12_multiply_16 : decode cX12_multiply 16 = .ok (.lload_n 1, 1) := by decide +kernel
theorem dX12_multiply_17 : decode cX12_multiply 17 = .ok (.lmul, 1) := by decide +kernel
theorem dX12_multiply_18 : decode cX12_multiply 18 = .ok (.lload_n 3, 1) := by decide +kernel
theorem dX12_multiply_19 : decode cX12_multiply 19 = .ok (.ladd, 1) := by decide +kernel
theorem dX12_multiply_20 : decode cX12_multiply 20 = .ok (.lstore 6, 2) := by decide +kernel
theorem dX12_multiply_22 : decode cX12_multiply 22 = .ok (.aload_n 0, 1) := by decide +kernel
theorem dX12_multiply_23 : decode cX12_multiply 23 = .ok (.iload 5, 2) := by decide +kernel
theorem dX12_multiply_25 : decode cX12_multiply 25 = .ok (.lload 6, 2) := by decide +kernel
theorem dX12_multiply_27 : decode cX12_multiply 27 = .ok (.ldc2_w 176, 3) := by decide +kernel
theorem dX12_multiply_30 : decode cX12_multiply 30 = .ok (.lrem, 1) := by decide +kernel
theorem dX12_multiply_31 : decode cX12_multiply 31 = .ok (.lastore, 1) := by decide +kernel
theorem dX12_multiply_32 : decode cX12_multiply 32 = .ok (.lload 6, 2) := by decide +kernel
theorem dX12_multiply_34 : decode cX12_multiply 34 = .ok (.ldc2_w 176, 3) := by decide +kernel
theorem dX12_multiply_37 : decode cX12_multiply 37 = .ok (.ldiv, 1) := by decide +kernel
theorem dX12_multiply_38 : decode cX12_multiply 38 = .ok (.lstore_n 3, 1) := by decide +kernel
theorem dX12_multiply_39 : decode cX12_multiply 39 = .ok (.iinc 5 1, 3) := by decide +kernel
theorem dX12_multiply_42 : decode cX12_multiply 42 = .ok (.goto (-37), 3) := by decide +kernel
theorem dX12_multiply_45 : decode cX12_multiply 45 = .ok (.return_, 1) := by decide +kernel
theorem dX12_multiplyBoth_0 : decode cX12_multiplyBoth 0 = .ok (.iconst 0, 1) := by decide +kernel
theorem dX12_multiplyBoth_1 : decode cX12_multiplyBoth 1 = .ok (.istore_n 1, 1) := by decide +kernel
theorem dX12_multiplyBoth_2 : decode cX12_multiplyBoth 2 = .ok (.iload_n 1, 1) := by decide +kernel
theorem dX12_multiplyBoth_3 : decode cX12_multiplyBoth 3 = .ok (.sipush 200, 3) := by decide +kernel
theorem dX12_multiplyBoth_6 : decode cX12_multiplyBoth 6 = .ok (.if_icmp .ge 16, 3) := by decide +kernel
theorem dX12_multiplyBoth_9 : decode cX12_multiplyBoth 9 = .ok (.aload_n 0, 1) := by decide +kernel
theorem dX12_multiplyBoth_10 : decode cX12_multiplyBoth 10 = .ok (.getfield 58, 3) := by decide +kernel
theorem dX12_multiplyBoth_13 : decode cX12_multiplyBoth 13 = .ok (.iload_n 1, 1) := by decide +kernel
theorem dX12_multiplyBoth_14 : decode cX12_multiplyBoth 14 = .ok (.lconst 0, 1) := by decide +kernel
theorem dX12_multiplyBoth_15 : decode cX12_multiplyBoth 15 = .ok (.lastore, 1) := by decide +kernel
theorem dX12_multiplyBoth_16 : decode cX12_multiplyBoth 16 = .ok (.iinc 1 1, 3) := by decide +kernel
theorem dX12_multiplyBoth_19 : decode cX12_multiplyBoth 19 = .ok (.goto (-17), 3) := by decide +kernel
theorem dX12_multiplyBoth_22 : decode cX12_multiplyBoth 22 = .ok (.iconst 0, 1) := by decide +kernel
theorem dX12_multiplyBoth_23 : decode cX12_multiplyBoth 23 = .ok (.istore_n 1, 1) := by decide +kernel
theorem dX12_multiplyBoth_24 : decode cX12_multiplyBoth 24 = .ok (.iload_n 1, 1) := by decide +kernel
theorem dX12_multiplyBoth_25 : decode cX12_multiplyBoth 25 = .ok (.bipush 100, 2) := by decide +kernel
theorem dX12_multiplyBoth_27 : decode cX12_multiplyBoth 27 = .ok (.if_icmp .ge 90, 3) := by decide +kernel
theorem dX12_multiplyBoth_30 : decode cX12_multiplyBoth 30 = .ok (.lconst 0, 1) := by decide +kernel
theorem dX12_multiplyBoth_31 : decode cX12_multiplyBoth 31 = .ok (.lstore_n 2, 1) := by decide +kernel
theorem dX12_multiplyBoth_32 : decode cX12_multiplyBoth 32 = .ok (.iconst 0, 1) := by decide +kernel
theorem dX12_multiplyBoth_33 : decode cX12_multiplyBoth 33 = .ok (.istore 4, 2) := by decide +kernel
theorem dX12_multiplyBoth_35 : decode cX12_multiplyBoth 35 = .ok (.iload 4, 2) := by decide +kernel
theorem dX12_multiplyBoth_37 : decode cX12_multiplyBoth 37 = .ok (.bipush 10, 2) := by decide +kernel
theorem dX12_multiplyBoth_39 : decode cX12_multiplyBoth 39 = .ok (.if_icmp .ge 59, 3) := by decide +kernel
theorem dX12_multiplyBoth_42 : decode cX12_multiplyBoth 42 = .ok (.aload_n 0, 1) := by decide +kernel
theorem dX12_multiplyBoth_43 : decode cX12_multiplyBoth 43 = .ok (.getfield 58, 3) := by decide +kernel
theorem dX12_multiplyBoth_46 : decode cX12_multiplyBoth 46 = .ok (.iload_n 1, 1) := by decide +kernel
theorem dX12_multiplyBoth_47 : decode cX12_multiplyBoth 47 = .ok (.iload 4, 2) := by decide +kernel
theorem dX12_multiplyBoth_49 : decode cX12_multiplyBoth 49 = .ok (.iadd, 1) := by decide +kernel
theorem dX12_multiplyBoth_50 : decode cX12_multiplyBoth 50 = .ok (.laload, 1) := by decide +kernel
theorem dX12_multiplyBoth_51 : decode cX12_multiplyBoth 51 = .ok (.aload_n 0, 1) := by decide +kernel
theorem dX12_multiplyBoth_52 : decode cX12_multiplyBoth 52 = .ok (.getfield 52, 3) := by decide +kernel
theorem dX12_multiplyBoth_55 : decode cX12_multiplyBoth 55 = .ok (.iload_n 1, 1) := by decide +kernel
theorem dX12_multiplyBoth_56 : decode cX12_multiplyBoth 56 = .ok (.laload, 1) := by decide +kernel
theorem dX12_multiplyBoth_57 : decode cX12_multiplyBoth 57 = .ok (.aload_n 0, 1) := by decide +kernel
theorem dX12_multiplyBoth_58 : decode cX12_multiplyBoth 58 = .ok (.getfield 55, 3) := by decide +kernel
theorem dX12_multiplyBoth_61 : decode cX12_multiplyBoth 61 = .ok (.iload 4, 2) := by decide +kernel
theorem dX12_multiplyBoth_63 : decode cX12_multiplyBoth 63 = .ok (.laload, 1) := by decide +kernel
theorem dX12_multiplyBoth_64 : decode cX12_multiplyBoth 64 = .ok (.lmul, 1) := by decide +kernel
theorem dX12_multiplyBoth_65 : decode cX12_multiplyBoth 65 = .ok (.ladd, 1) := by decide +kernel
theorem dX12_multiplyBoth_66 : decode cX12_multiplyBoth 66 = .ok (.lload_n 2, 1) := by decide +kernel
theorem dX12_multiplyBoth_67 : decode cX12_multiplyBoth 67 = .ok (.ladd, 1) := by decide +kernel
theorem dX12_multiplyBoth_68 : decode cX12_multiplyBoth 68 = .ok (.lstore 5, 2) := by decide +kernel
theorem dX12_multiplyBoth_70 : decode cX12_multiplyBoth 70 = .ok (.aload_n 0, 1) := by decide +kernel
theorem dX12_multiplyBoth_71 : decode cX12_multiplyBoth 71 = .ok (.getfield 58, 3) := by decide +kernel
theorem dX12_multiplyBoth_74 : decode cX12_multiplyBoth 74 = .ok (.iload_n 1, 1) := by decide +kernel
theorem dX12_multiplyBoth_75 : decode cX12_multiplyBoth 75 = .ok (.iload 4, 2) := by decide +kernel
theorem dX12_multiplyBoth_77 : decode cX12_multiplyBoth 77 = .ok (.iadd, 1) := by decide +kernel
theorem dX12_multiplyBoth_78 : decode cX12_multiplyBoth 78 = .ok (.lload 5, 2) := by decide +kernel
theorem dX12_multiplyBoth_80 : decode cX12_multiplyBoth 80 = .ok (.ldc2_w 176, 3) := by decide +kernel
theorem dX12_multiplyBoth_83 : decode cX12_multiplyBoth 83 = .ok (.lrem, 1) := by decide +kernel
