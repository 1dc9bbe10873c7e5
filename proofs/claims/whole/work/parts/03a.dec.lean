theorem dX0_init_0 : decode cX0_init 0 = .ok (.aload_n 0, 1) := by decide +kernel
theorem dX0_init_1 : decode cX0_init 1 = .ok (.invokespecial 3, 3) := by decide +kernel
theorem dX0_init_4 : decode cX0_init 4 = .ok (.aload_n 0, 1) := by decide +kernel
theorem dX0_init_5 : decode cX0_init 5 = .ok (.sipush 3840, 3) := by decide +kernel
theorem dX0_init_8 : decode cX0_init 8 = .ok (.newarray .int, 2) := by decide +kernel
theorem dX0_init_10 : decode cX0_init 10 = .ok (.putfield 9, 3) := by decide +kernel
theorem dX0_init_13 : decode cX0_init 13 = .ok (.aload_n 0, 1) := by decide +kernel
theorem dX0_init_14 : decode cX0_init 14 = .ok (.aload_n 1, 1) := by decide +kernel
theorem dX0_init_15 : decode cX0_init 15 = .ok (.putfield 15, 3) := by decide +kernel
theorem dX0_init_18 : decode cX0_init 18 = .ok (.return_, 1) := by decide +kernel
theorem dX0_forget_0 : decode cX0_forget 0 = .ok (.aload_n 0, 1) := by decide +kernel
theorem dX0_forget_1 : decode cX0_forget 1 = .ok (.iconst 0, 1) := by decide +kernel
theorem dX0_forget_2 : decode cX0_forget 2 = .ok (.putfield 19, 3) := by decide +kernel
theorem dX0_forget_5 : decode cX0_forget 5 = .ok (.return_, 1) := by decide +kernel
theorem dX0_learn_0 : decode cX0_learn 0 = .ok (.aload_n 0, 1) := by decide +kernel
theorem dX0_learn_1 : decode cX0_learn 1 = .ok (.getfield 19, 3) := by decide +kernel
theorem dX0_learn_4 : decode cX0_learn 4 = .ok (.ifCond .eq 4, 3) := by decide +kernel
theorem dX0_learn_7 : decode cX0_learn 7 = .ok (.return_, 1) := by decide +kernel
theorem dX0_learn_8 : decode cX0_learn 8 = .ok (.aload_n 0, 1) := by decide +kernel
theorem dX0_learn_9 : decode cX0_learn 9 = .ok (.iconst 1, 1) := by decide +kernel
theorem dX0_learn_10 : decode cX0_learn 10 = .ok (.putfield 19, 3) := by decide +kernel
theorem dX0_learn_13 : decode cX0_learn 13 = .ok (.aload_n 0, 1) := by decide +kernel
theorem dX0_learn_14 : decode cX0_learn 14 = .ok (.getfield 9, 3) := by decide +kernel
theorem dX0_learn_17 : decode cX0_learn 17 = .ok (.iconst (-1), 1) := by decide +kernel
theorem dX0_learn_18 : decode cX0_learn 18 = .ok (.invokestatic 23, 3) := by decide +kernel
theorem dX0_learn_21 : decode cX0_learn 21 = .ok (.aload_n 0, 1) := by decide +kernel
theorem dX0_learn_22 : decode cX0_learn 22 = .ok (.getfield 9, 3) := by decide +kernel
theorem dX0_learn_25 : decode cX0_learn 25 = .ok (.aload_n 0, 1) := by decide +kernel
theorem dX0_learn_26 : decode cX0_learn 26 = .ok (.getfield 15, 3) := by decide +kernel
theorem dX0_learn_29 : decode cX0_learn 29 = .ok (.invokevirtual 29, 3) := by decide +kernel
theorem dX0_learn_32 : decode cX0_learn 32 = .ok (.iconst 0, 1) := by decide +kernel
theorem dX0_learn_33 : decode cX0_learn 33 = .ok (.invokestatic 35, 3) := by decide +kernel
theorem dX0_learn_36 : decode cX0_learn 36 = .ok (.iconst 0, 1) := by decide +kernel
theorem dX0_learn_37 : decode cX0_learn 37 = .ok (.istore_n 1, 1) := by decide +kernel
theorem dX0_learn_38 : decode cX0_learn 38 = .ok (.iconst 0, 1) := by decide +kernel
theorem dX0_learn_39 : decode cX0_learn 39 = .ok (.istore_n 2, 1) := by decide +kernel
theorem dX0_learn_40 : decode cX0_learn 40 = .ok (.iload_n 2, 1) := by decide +kernel
theorem dX0_learn_41 : decode cX0_learn 41 = .ok (.iload_n 1, 1) := by decide +kernel
theorem dX0_learn_42 : decode cX0_learn 42 = .ok (.if_icmp .gt 57, 3) := by decide +kernel
theorem dX0_learn_45 : decode cX0_learn 45 = .ok (.iload_n 2, 1) := by decide +kernel
theorem dX0_learn_46 : decode cX0_learn 46 = .ok (.ldc 39, 2) := by decide +kernel
theorem dX0_learn_48 : decode cX0_learn 48 = .ok (.if_icmp .gt 51, 3) := by decide +kernel
theorem dX0_learn_51 : decode cX0_learn 51 = .ok (.iconst 0, 1) := by decide +kernel
theorem dX0_learn_52 : decode cX0_learn 52 = .ok (.istore_n 3, 1) := by decide +kernel
theorem dX0_learn_53 : decode cX0_learn 53 = .ok (.iload_n 3, 1) := by decide +kernel
theorem dX0_learn_54 : decode cX0_learn 54 = .ok (.aload_n 0, 1) := by decide +kernel
theorem dX0_learn_55 : decode cX0_learn 55 = .ok (.getfield 15, 3) := by decide +kernel
theorem dX0_learn_58 : decode cX0_learn 58 = .ok (.invokevirtual 40, 3) := by decide +kernel
theorem dX0_learn_61 : decode cX0_learn 61 = .ok (.if_icmp .ge 32, 3) := by decide +kernel
theorem dX0_learn_64 : decode cX0_learn 64 = .ok (.aload_n 0, 1) := by decide +kernel
theorem dX0_learn_65 : decode cX0_learn 65 = .ok (.getfield 9, 3) := by decide +kernel
theorem dX0_learn_68 : decode cX0_learn 68 = .ok (.iload_n 3, 1) := by decide +kernel
theorem dX0_learn_69 : decode cX0_learn 69 = .ok (.invokestatic 43, 3) := by decide +kernel
theorem dX0_learn_72 : decode cX0_learn 72 = .ok (.iload_n 2, 1) := by decide +kernel
theorem dX0_learn_73 : decode cX0_learn 73 = .ok (.if_icmp .ne 14, 3) := by decide +kernel
theorem dX0_learn_76 : decode cX0_learn 76 = .ok (.iload_n 1, 1) := by decide +kernel
theorem dX0_learn_77 : decode cX0_learn 77 = .ok (.aload_n 0, 1) := by decide +kernel
theorem dX0_learn_78 : decode cX0_learn 78 = .ok (.iload_n 3, 1) := by decide +kernel
theorem dX0_learn_79 : decode cX0_learn 79 = .ok (.iload_n 2, 1) := by decide +kernel
theorem dX0_learn_80 : decode cX0_learn 80 = .ok (.invokevirtual 47, 3) := by decide +kernel
theorem dX0_learn_83 : decode cX0_learn 83 = .ok (.invokestatic 51, 3) := by decide +kernel
theorem dX0_learn_86 : decode cX0_learn 86 = .ok (.istore_n 1, 1) := by decide +kernel
theorem dX0_learn_87 : decode cX0_learn 87 = .ok (.iinc 3 1, 3) := by decide +kernel
theorem dX0_learn_90 : decode cX0_learn 90 = .ok (.goto (-37), 3) := by decide +kernel
theorem dX0_learn_93 : decode cX0_learn 93 = .ok (.iinc 2 1, 3) := by decide +kernel
theorem dX0_learn_96 : decode cX0_learn 96 = .ok (.goto (-56), 3) := by decide +kernel
theorem dX0_learn_99 : decode cX0_learn 99 = .ok (.return_, 1) := by decide +kernel
theorem dX0_learnBehind_0 : decode cX0_learnBehind 0 = .ok (.iconst 0, 1) := by decide +kernel
theorem dX0_learnBehind_1 : decode cX0_learnBehind 1 = .ok (.istore_n 3, 1) := by decide +kernel
theorem dX0_learnBehind_2 : decode cX0_learnBehind 2 = .ok (.iconst 1, 1) := by decide +kernel
theorem dX0_learnBehind_3 : decode cX0_learnBehind 3 = .ok (.istore 4, 2) := by decide +kernel
theorem dX0_learnBehind_5 : decode cX0_learnBehind 5 = .ok (.iload 4, 2) := by decide +kernel
theorem dX0_learnBehind_7 : decode cX0_learnBehind 7 = .ok (.aload_n 0, 1) := by decide +kernel
theorem dX0_learnBehind_8 : decode cX0_learnBehind 8 = .ok (.getfield 15, 3) := by decide +kernel
theorem dX0_learnBehind_11 : decode cX0_learnBehind 11 = .ok (.invokevirtual 56, 3) := by decide +kernel
theorem dX0_learnBehind_14 : decode cX0_learnBehind 14 = .ok (.if_icmp .gt 107, 3) := by decide +kernel
theorem dX0_learnBehind_17 : decode cX0_learnBehind 17 = .ok (.aload_n 0, 1) := by decide +kernel
theorem dX0_learnBehind_18 : decode cX0_learnBehind 18 = .ok (.getfield 15, 3) := by decide +kernel
theorem dX0_learnBehind_21 : decode cX0_learnBehind 21 = .ok (.iload_n 1, 1) := by decide +kernel
theorem dX0_learnBehind_22 : decode cX0_learnBehind 22 = .ok (.iload 4, 2) := by decide +kernel
theorem dX0_learnBehind_24 : decode cX0_learnBehind 24 = .ok (.invokevirtual 59, 3) := by decide +kernel
theorem dX0_learnBehind_27 : decode cX0_learnBehind 27 = .ok (.istore 5, 2) := by decide +kernel
theorem dX0_learnBehind_29 : decode cX0_learnBehind 29 = .ok (.iload_n 2, 1) := by decide +kernel
theorem dX0_learnBehind_30 : decode cX0_learnBehind 30 = .ok (.aload_n 0, 1) := by decide +kernel
theorem dX0_learnBehind_31 : decode cX0_learnBehind 31 = .ok (.getfield 15, 3) := by decide +kernel
theorem dX0_learnBehind_34 : decode cX0_learnBehind 34 = .ok (.iload 5, 2) := by decide +kernel
theorem dX0_learnBehind_36 : decode cX0_learnBehind 36 = .ok (.iload 4, 2) := by decide +kernel
theorem dX0_learnBehind_38 : decode cX0_learnBehind 38 = .ok (.invokevirtual 62, 3) := by decide +kernel
theorem dX0_learnBehind_41 : decode cX0_learnBehind 41 = .ok (.iadd, 1) := by decide +kernel
theorem dX0_learnBehind_42 : decode cX0_learnBehind 42 = .ok (.istore 6, 2) := by decide +kernel
theorem dX0_learnBehind_44 : decode cX0_learnBehind 44 = .ok (.aload_n 0, 1) := by decide +kernel
theorem dX0_learnBehind_45 : decode cX0_learnBehind 45 = .ok (.getfield 9, 3) := by decide +kernel
theorem dX0_learnBehind_48 : decode cX0_learnBehind 48 = .ok (.iload 5, 2) := by decide +kernel
theorem dX0_learnBehind_50 : decode cX0_learnBehind 50 = .ok (.invokestatic 43, 3) := by decide +kernel
theorem dX0_learnBehind_53 : decode cX0_learnBehind 53 = .ok (.iconst (-1), 1) := by decide +kernel
theorem dX0_learnBehind_54 : decode cX0_learnBehind 54 = .ok (.if_icmp .eq 17, 3) := by decide +kernel
theorem dX0_learnBehind_57 : decode cX0_learnBehind 57 = .ok (.iload 6, 2) := by decide +kernel
theorem dX0_learnBehind_59 : decode cX0_learnBehind 59 = .ok (.aload_n 0, 1) := by decide +kernel
theorem dX0_learnBehind_60 : decode cX0_learnBehind 60 = .ok (.getfield 9, 3) := by decide +kernel
theorem dX0_learnBehind_63 : decode cX0_learnBehind 63 = .ok (.iload 5, 2) := by decide +kernel
theorem dX0_learnBehind_65 : decode cX0_learnBehind 65 = .ok (.invokestatic 43, 3) := by decide +kernel
theorem dX0_learnBehind_68 : decode cX0_learnBehind 68 = .ok (.if_icmp .ge 7, 3) := by decide +kernel
theorem dX0_learnBehind_71 : decode cX0_learnBehind 71 = .ok (.iconst 1, 1) := by decide +kernel
theorem dX0_learnBehind_72 : decode cX0_learnBehind 72 = .ok (.goto 4, 3) := by decide +kernel
theorem dX0_learnBehind_75 : decode cX0_learnBehind 75 = .ok (.iconst 0, 1) := by decide +kernel
theorem dX0_learnBehind_76 : decode cX0_learnBehind 76 = .ok (.istore 7, 2) := by decide +kernel
theorem dX0_learnBehind_78 : decode cX0_learnBehind 78 = .ok (.iload 7, 2) := by decide +kernel
theorem dX0_learnBehind_80 : decode cX0_learnBehind 80 = .ok (.ifCond .eq 35, 3) := by decide +kernel
theorem dX0_learnBehind_83 : decode cX0_learnBehind 83 = .ok (.aload_n 0, 1) := by decide +kernel
theorem dX0_learnBehind_84 : decode cX0_learnBehind 84 = .ok (.getfield 15, 3) := by decide +kernel
theorem dX0_learnBehind_87 : decode cX0_learnBehind 87 = .ok (.iload 5, 2) := by decide +kernel
theorem dX0_learnBehind_89 : decode cX0_learnBehind 89 = .ok (.iload 4, 2) := by decide +kernel
theorem dX0_learnBehind_91 : decode cX0_learnBehind 91 = .ok (.invokevirtual 65, 3) := by decide +kernel
theorem dX0_learnBehind_94 : decode cX0_learnBehind 94 = .ok (.ifCond .eq 21, 3) := by decide +kernel
theorem dX0_learnBehind_97 : decode cX0_learnBehind 97 = .ok (.aload_n 0, 1) := by decide +kernel
theorem dX0_learnBehind_98 : decode cX0_learnBehind 98 = .ok (.getfield 9, 3) := by decide +kernel
theorem dX0_learnBehind_101 : decode cX0_learnBehind 101 = .ok (.iload 5, 2) := by decide +kernel
theorem dX0_learnBehind_103 : decode cX0_learnBehind 103 = .ok (.iload 6, 2) := by decide +kernel
theorem dX0_learnBehind_105 : decode cX0_learnBehind 105 = .ok (.invokestatic 35, 3) := by decide +kernel
theorem dX0_learnBehind_108 : decode cX0_learnBehind 108 = .ok (.iload_n 3, 1) := by decide +kernel
theorem dX0_learnBehind_109 : decode cX0_learnBehind 109 = .ok (.iload 6, 2) := by decide +kernel
theorem dX0_learnBehind_111 : decode cX0_learnBehind 111 = .ok (.invokestatic 51, 3) := by decide +kernel
theorem dX0_learnBehind_114 : decode cX0_learnBehind 114 = .ok (.istore_n 3, 1) := by decide +kernel
theorem dX0_learnBehind_115 : decode cX0_learnBehind 115 = .ok (.iinc 4 1, 3) := by decide +kernel
theorem dX0_learnBehind_118 : decode cX0_learnBehind 118 = .ok (.goto (-113), 3) := by decide +kernel
theorem dX0_learnBehind_121 : decode cX0_learnBehind 121 = .ok (.iload_n 3, 1) := by decide +kernel
theorem dX0_learnBehind_122 : decode cX0_learnBehind 122 = .ok (.ireturn, 1) := by decide +kernel
theorem dX0_sumOf_0 : decode cX0_sumOf 0 = .ok (.aload_n 0, 1) := by decide +kernel
theorem dX0_sumOf_1 : decode cX0_sumOf 1 = .ok (.getfield 9, 3) := by decide +kernel
theorem dX0_sumOf_4 : decode cX0_sumOf 4 = .ok (.iload_n 1, 1) := by decide +kernel
theorem dX0_sumOf_5 : decode cX0_sumOf 5 = .ok (.invokestatic 43, 3) := by decide +kernel
theorem dX0_sumOf_8 : decode cX0_sumOf 8 = .ok (.ireturn, 1) := by decide +kernel
theorem dX0_mostSum_0 : decode cX0_mostSum 0 = .ok (.iconst 0, 1) := by decide +kernel
theorem dX0_mostSum_1 : decode cX0_mostSum 1 = .ok (.istore_n 1, 1) := by decide +kernel
theorem dX0_mostSum_2 : decode cX0_mostSum 2 = .ok (.iconst 0, 1) := by decide +kernel
theorem dX0_mostSum_3 : decode cX0_mostSum 3 = .ok (.istore_n 2, 1) := by decide +kernel
theorem dX0_mostSum_4 : decode cX0_mostSum 4 = .ok (.iload_n 2, 1) := by decide +kernel
theorem dX0_mostSum_5 : decode cX0_mostSum 5 = .ok (.aload_n 0, 1) := by decide +kernel
theorem dX0_mostSum_6 : decode cX0_mostSum 6 = .ok (.getfield 15, 3) := by decide +kernel
theorem dX0_mostSum_9 : decode cX0_mostSum 9 = .ok (.invokevirtual 40, 3) := by decide +kernel
theorem dX0_mostSum_12 : decode cX0_mostSum 12 = .ok (.if_icmp .ge 22, 3) := by decide +kernel
theorem dX0_mostSum_15 : decode cX0_mostSum 15 = .ok (.iload_n 1, 1) := by decide +kernel
theorem dX0_mostSum_16 : decode cX0_mostSum 16 = .ok (.aload_n 0, 1) := by decide +kernel
theorem dX0_mostSum_17 : decode cX0_mostSum 17 = .ok (.getfield 9, 3) := by decide +kernel
theorem dX0_mostSum_20 : decode cX0_mostSum 20 = .ok (.iload_n 2, 1) := by decide +kernel
theorem dX0_mostSum_21 : decode cX0_mostSum 21 = .ok (.invokestatic 43, 3) := by decide +kernel
theorem dX0_mostSum_24 : decode cX0_mostSum 24 = .ok (.invokestatic 51, 3) := by decide +kernel
theorem dX0_mostSum_27 : decode cX0_mostSum 27 = .ok (.istore_n 1, 1) := by decide +kernel
theorem dX0_mostSum_28 : decode cX0_mostSum 28 = .ok (.iinc 2 1, 3) := by decide +kernel
theorem dX0_mostSum_31 : decode cX0_mostSum 31 = .ok (.goto (-27), 3) := by decide +kernel
theorem dX0_mostSum_34 : decode cX0_mostSum 34 = .ok (.iload_n 1, 1) := by decide +kernel
theorem dX0_mostSum_35 : decode cX0_mostSum 35 = .ok (.ireturn, 1) := by decide +kernel
theorem dX0_firstTurn_0 : decode cX0_firstTurn 0 = .ok (.aload_n 0, 1) := by decide +kernel
theorem dX0_firstTurn_1 : decode cX0_firstTurn 1 = .ok (.getfield 9, 3) := by decide +kernel
theorem dX0_firstTurn_4 : decode cX0_firstTurn 4 = .ok (.iload_n 1, 1) := by decide +kernel
theorem dX0_firstTurn_5 : decode cX0_firstTurn 5 = .ok (.invokestatic 43, 3) := by decide +kernel
theorem dX0_firstTurn_8 : decode cX0_firstTurn 8 = .ok (.istore_n 2, 1) := by decide +kernel
theorem dX0_firstTurn_9 : decode cX0_firstTurn 9 = .ok (.iconst 1, 1) := by decide +kernel
theorem dX0_firstTurn_10 : decode cX0_firstTurn 10 = .ok (.istore_n 3, 1) := by decide +kernel
theorem dX0_firstTurn_11 : decode cX0_firstTurn 11 = .ok (.iload_n 2, 1) := by decide +kernel
theorem dX0_firstTurn_12 : decode cX0_firstTurn 12 = .ok (.ifCond .le 86, 3) := by decide +kernel
theorem dX0_firstTurn_15 : decode cX0_firstTurn 15 = .ok (.iload_n 3, 1) := by decide +kernel
theorem dX0_firstTurn_16 : decode cX0_firstTurn 16 = .ok (.aload_n 0, 1) := by decide +kernel
theorem dX0_firstTurn_17 : decode cX0_firstTurn 17 = .ok (.getfield 15, 3) := by decide +kernel
theorem dX0_firstTurn_20 : decode cX0_firstTurn 20 = .ok (.invokevirtual 56, 3) := by decide +kernel
theorem dX0_firstTurn_23 : decode cX0_firstTurn 23 = .ok (.if_icmp .gt 75, 3) := by decide +kernel
theorem dX0_firstTurn_26 : decode cX0_firstTurn 26 = .ok (.aload_n 0, 1) := by decide +kernel
theorem dX0_firstTurn_27 : decode cX0_firstTurn 27 = .ok (.getfield 9, 3) := by decide +kernel
theorem dX0_firstTurn_30 : decode cX0_firstTurn 30 = .ok (.aload_n 0, 1) := by decide +kernel
theorem dX0_firstTurn_31 : decode cX0_firstTurn 31 = .ok (.getfield 15, 3) := by decide +kernel
theorem dX0_firstTurn_34 : decode cX0_firstTurn 34 = .ok (.iload_n 1, 1) := by decide +kernel
theorem dX0_firstTurn_35 : decode cX0_firstTurn 35 = .ok (.iload_n 3, 1) := by decide +kernel
theorem dX0_firstTurn_36 : decode cX0_firstTurn 36 = .ok (.invokevirtual 59, 3) := by decide +kernel
theorem dX0_firstTurn_39 : decode cX0_firstTurn 39 = .ok (.invokestatic 43, 3) := by decide +kernel
theorem dX0_firstTurn_42 : decode cX0_firstTurn 42 = .ok (.istore 4, 2) := by decide +kernel
theorem dX0_firstTurn_44 : decode cX0_firstTurn 44 = .ok (.iload 4, 2) := by decide +kernel
theorem dX0_firstTurn_46 : decode cX0_firstTurn 46 = .ok (.iconst (-1), 1) := by decide +kernel
theorem dX0_firstTurn_47 : decode cX0_firstTurn 47 = .ok (.if_icmp .eq 23, 3) := by decide +kernel
theorem dX0_firstTurn_50 : decode cX0_firstTurn 50 = .ok (.iload 4, 2) := by decide +kernel
theorem dX0_firstTurn_52 : decode cX0_firstTurn 52 = .ok (.aload_n 0, 1) := by decide +kernel
theorem dX0_firstTurn_53 : decode cX0_firstTurn 53 = .ok (.getfield 15, 3) := by decide +kernel
theorem dX0_firstTurn_56 : decode cX0_firstTurn 56 = .ok (.iload_n 1, 1) := by decide +kernel
theorem dX0_firstTurn_57 : decode cX0_firstTurn 57 = .ok (.iload_n 3, 1) := by decide +kernel
theorem dX0_firstTurn_58 : decode cX0_firstTurn 58 = .ok (.invokevirtual 62, 3) := by decide +kernel
theorem dX0_firstTurn_61 : decode cX0_firstTurn 61 = .ok (.iadd, 1) := by decide +kernel
theorem dX0_firstTurn_62 : decode cX0_firstTurn 62 = .ok (.iload_n 2, 1) := by decide +kernel
theorem dX0_firstTurn_63 : decode cX0_firstTurn 63 = .ok (.if_icmp .ne 7, 3) := by decide +kernel
theorem dX0_firstTurn_66 : decode cX0_firstTurn 66 = .ok (.iconst 1, 1) := by decide +kernel
theorem dX0_firstTurn_67 : decode cX0_firstTurn 67 = .ok (.goto 4, 3) := by decide +kernel
theorem dX0_firstTurn_70 : decode cX0_firstTurn 70 = .ok (.iconst 0, 1) := by decide +kernel
theorem dX0_firstTurn_71 : decode cX0_firstTurn 71 = .ok (.istore 5, 2) := by decide +kernel
theorem dX0_firstTurn_73 : decode cX0_firstTurn 73 = .ok (.iload 5, 2) := by decide +kernel
theorem dX0_firstTurn_75 : decode cX0_firstTurn 75 = .ok (.ifCond .eq 17, 3) := by decide +kernel
theorem dX0_firstTurn_78 : decode cX0_firstTurn 78 = .ok (.aload_n 0, 1) := by decide +kernel
theorem dX0_firstTurn_79 : decode cX0_firstTurn 79 = .ok (.getfield 15, 3) := by decide +kernel
theorem dX0_firstTurn_82 : decode cX0_firstTurn 82 = .ok (.iload_n 1, 1) := by decide +kernel
theorem dX0_firstTurn_83 : decode cX0_firstTurn 83 = .ok (.iload_n 3, 1) := by decide +kernel
theorem dX0_firstTurn_84 : decode cX0_firstTurn 84 = .ok (.invokevirtual 65, 3) := by decide +kernel
theorem dX0_firstTurn_87 : decode cX0_firstTurn 87 = .ok (.ifCond .eq 5, 3) := by decide +kernel
theorem dX0_firstTurn_90 : decode cX0_firstTurn 90 = .ok (.iload_n 3, 1) := by decide +kernel
theorem dX0_firstTurn_91 : decode cX0_firstTurn 91 = .ok (.ireturn, 1) := by decide +kernel
theorem dX0_firstTurn_92 : decode cX0_firstTurn 92 = .ok (.iinc 3 1, 3) := by decide +kernel
theorem dX0_firstTurn_95 : decode cX0_firstTurn 95 = .ok (.goto (-84), 3) := by decide +kernel
theorem dX0_firstTurn_98 : decode cX0_firstTurn 98 = .ok (.iconst (-1), 1) := by decide +kernel
theorem dX0_firstTurn_99 : decode cX0_firstTurn 99 = .ok (.ireturn, 1) := by decide +kernel
theorem dX1_init_0 : decode cX1_init 0 = .ok (.aload_n 0, 1) := by decide +kernel
theorem dX1_init_1 : decode cX1_init 1 = .ok (.invokespecial 3, 3) := by decide +kernel
theorem dX1_init_4 : decode cX1_init 4 = .ok (.aload_n 0, 1) := by decide +kernel
theorem dX1_init_5 : decode cX1_init 5 = .ok (.sipush 3840, 3) := by decide +kernel
theorem dX1_init_8 : decode cX1_init 8 = .ok (.newarray .int, 2) := by decide +kernel
theorem dX1_init_10 : decode cX1_init 10 = .ok (.putfield 9, 3) := by decide +kernel
theorem dX1_init_13 : decode cX1_init 13 = .ok (.aload_n 0, 1) := by decide +kernel
theorem dX1_init_14 : decode cX1_init 14 = .ok (.aload_n 1, 1) := by decide +kernel
theorem dX1_init_15 : decode cX1_init 15 = .ok (.putfield 15, 3) := by decide +kernel
theorem dX1_init_18 : decode cX1_init 18 = .ok (.return_, 1) := by decide +kernel
theorem dX1_forget_0 : decode cX1_forget 0 = .ok (.aload_n 0, 1) := by decide +kernel
theorem dX1_forget_1 : decode cX1_forget 1 = .ok (.iconst 0, 1) := by decide +kernel
theorem dX1_forget_2 : decode cX1_forget 2 = .ok (.putfield 19, 3) := by decide +kernel
theorem dX1_forget_5 : decode cX1_forget 5 = .ok (.return_, 1) := by decide +kernel
theorem dX1_learn_0 : decode cX1_learn 0 = .ok (.aload_n 0, 1) := by decide +kernel
theorem dX1_learn_1 : decode cX1_learn 1 = .ok (.getfield 19, 3) := by decide +kernel
theorem dX1_learn_4 : decode cX1_learn 4 = .ok (.ifCond .eq 4, 3) := by decide +kernel
theorem dX1_learn_7 : decode cX1_learn 7 = .ok (.return_, 1) := by decide +kernel
theorem dX1_learn_8 : decode cX1_learn 8 = .ok (.aload_n 0, 1) := by decide +kernel
theorem dX1_learn_9 : decode cX1_learn 9 = .ok (.iconst 1, 1) := by decide +kernel
theorem dX1_learn_10 : decode cX1_learn 10 = .ok (.putfield 19, 3) := by decide +kernel
theorem dX1_learn_13 : decode cX1_learn 13 = .ok (.aload_n 0, 1) := by decide +kernel
theorem dX1_learn_14 : decode cX1_learn 14 = .ok (.getfield 9, 3) := by decide +kernel
theorem dX1_learn_17 : decode cX1_learn 17 = .ok (.iconst (-1), 1) := by decide +kernel
theorem dX1_learn_18 : decode cX1_learn 18 = .ok (.invokestatic 23, 3) := by decide +kernel
theorem dX1_learn_21 : decode cX1_learn 21 = .ok (.aload_n 0, 1) := by decide +kernel
theorem dX1_learn_22 : decode cX1_learn 22 = .ok (.getfield 15, 3) := by decide +kernel
theorem dX1_learn_25 : decode cX1_learn 25 = .ok (.invokevirtual 29, 3) := by decide +kernel
theorem dX1_learn_28 : decode cX1_learn 28 = .ok (.astore_n 1, 1) := by decide +kernel
theorem dX1_learn_29 : decode cX1_learn 29 = .ok (.aload_n 0, 1) := by decide +kernel
theorem dX1_learn_30 : decode cX1_learn 30 = .ok (.getfield 15, 3) := by decide +kernel
theorem dX1_learn_33 : decode cX1_learn 33 = .ok (.invokevirtual 35, 3) := by decide +kernel
theorem dX1_learn_36 : decode cX1_learn 36 = .ok (.astore_n 2, 1) := by decide +kernel
theorem dX1_learn_37 : decode cX1_learn 37 = .ok (.iconst 0, 1) := by decide +kernel
theorem dX1_learn_38 : decode cX1_learn 38 = .ok (.istore_n 3, 1) := by decide +kernel
theorem dX1_learn_39 : decode cX1_learn 39 = .ok (.iconst 0, 1) := by decide +kernel
theorem dX1_learn_40 : decode cX1_learn 40 = .ok (.istore 4, 2) := by decide +kernel
theorem dX1_learn_42 : decode cX1_learn 42 = .ok (.iload 4, 2) := by decide +kernel
theorem dX1_learn_44 : decode cX1_learn 44 = .ok (.aload_n 0, 1) := by decide +kernel
theorem dX1_learn_45 : decode cX1_learn 45 = .ok (.getfield 15, 3) := by decide +kernel
theorem dX1_learn_48 : decode cX1_learn 48 = .ok (.invokevirtual 38, 3) := by decide +kernel
theorem dX1_learn_51 : decode cX1_learn 51 = .ok (.if_icmp .ge 62, 3) := by decide +kernel
theorem dX1_learn_54 : decode cX1_learn 54 = .ok (.aload_n 2, 1) := by decide +kernel
theorem dX1_learn_55 : decode cX1_learn 55 = .ok (.iload 4, 2) := by decide +kernel
theorem dX1_learn_57 : decode cX1_learn 57 = .ok (.aload_n 0, 1) := by decide +kernel
theorem dX1_learn_58 : decode cX1_learn 58 = .ok (.iload 4, 2) := by decide +kernel
theorem dX1_learn_60 : decode cX1_learn 60 = .ok (.invokevirtual 42, 3) := by decide +kernel
theorem dX1_learn_63 : decode cX1_learn 63 = .ok (.invokestatic 46, 3) := by decide +kernel
theorem dX1_learn_66 : decode cX1_learn 66 = .ok (.iload 4, 2) := by decide +kernel
theorem dX1_learn_68 : decode cX1_learn 68 = .ok (.aload_n 0, 1) := by decide +kernel
theorem dX1_learn_69 : decode cX1_learn 69 = .ok (.getfield 15, 3) := by decide +kernel
theorem dX1_learn_72 : decode cX1_learn 72 = .ok (.invokevirtual 50, 3) := by decide +kernel
theorem dX1_learn_75 : decode cX1_learn 75 = .ok (.if_icmp .eq 12, 3) := by decide +kernel
theorem dX1_learn_78 : decode cX1_learn 78 = .ok (.aload_n 2, 1) := by decide +kernel
theorem dX1_learn_79 : decode cX1_learn 79 = .ok (.iload 4, 2) := by decide +kernel
theorem dX1_learn_81 : decode cX1_learn 81 = .ok (.invokestatic 53, 3) := by decide +kernel
theorem dX1_learn_84 : decode cX1_learn 84 = .ok (.ifCond .ne 23, 3) := by decide +kernel
theorem dX1_learn_87 : decode cX1_learn 87 = .ok (.aload_n 0, 1) := by decide +kernel
theorem dX1_learn_88 : decode cX1_learn 88 = .ok (.getfield 9, 3) := by decide +kernel
theorem dX1_learn_91 : decode cX1_learn 91 = .ok (.iload 4, 2) := by decide +kernel
theorem dX1_learn_93 : decode cX1_learn 93 = .ok (.iconst 0, 1) := by decide +kernel
theorem dX1_learn_94 : decode cX1_learn 94 = .ok (.invokestatic 46, 3) := by decide +kernel
theorem dX1_learn_97 : decode cX1_learn 97 = .ok (.aload_n 1, 1) := by decide +kernel
theorem dX1_learn_98 : decode cX1_learn 98 = .ok (.iload_n 3, 1) := by decide +kernel
theorem dX1_learn_99 : decode cX1_learn 99 = .ok (.iload 4, 2) := by decide +kernel
theorem dX1_learn_101 : decode cX1_learn 101 = .ok (.invokestatic 46, 3) := by decide +kernel
theorem dX1_learn_104 : decode cX1_learn 104 = .ok (.iinc 3 1, 3) := by decide +kernel
theorem dX1_learn_107 : decode cX1_learn 107 = .ok (.iinc 4 1, 3) := by decide +kernel
theorem dX1_learn_110 : decode cX1_learn 110 = .ok (.goto (-68), 3) := by decide +kernel
theorem dX1_learn_113 : decode cX1_learn 113 = .ok (.iconst 0, 1) := by decide +kernel
theorem dX1_learn_114 : decode cX1_learn 114 = .ok (.istore 4, 2) := by decide +kernel
theorem dX1_learn_116 : decode cX1_learn 116 = .ok (.iload 4, 2) := by decide +kernel
theorem dX1_learn_118 : decode cX1_learn 118 = .ok (.iload_n 3, 1) := by decide +kernel
theorem dX1_learn_119 : decode cX1_learn 119 = .ok (.if_icmp .ge 26, 3) := by decide +kernel
theorem dX1_learn_122 : decode cX1_learn 122 = .ok (.iload 4, 2) := by decide +kernel
theorem dX1_learn_124 : decode cX1_learn 124 = .ok (.aload_n 1, 1) := by decide +kernel
theorem dX1_learn_125 : decode cX1_learn 125 = .ok (.arraylength, 1) := by decide +kernel
theorem dX1_learn_126 : decode cX1_learn 126 = .ok (.if_icmp .ge 19, 3) := by decide +kernel
theorem dX1_learn_129 : decode cX1_learn 129 = .ok (.aload_n 0, 1) := by decide +kernel
theorem dX1_learn_130 : decode cX1_learn 130 = .ok (.aload_n 1, 1) := by decide +kernel
theorem dX1_learn_131 : decode cX1_learn 131 = .ok (.iload 4, 2) := by decide +kernel
theorem dX1_learn_133 : decode cX1_learn 133 = .ok (.iaload, 1) := by decide +kernel
theorem dX1_learn_134 : decode cX1_learn 134 = .ok (.iload_n 3, 1) := by decide +kernel
theorem dX1_learn_135 : decode cX1_learn 135 = .ok (.invokevirtual 57, 3) := by decide +kernel
theorem dX1_learn_138 : decode cX1_learn 138 = .ok (.istore_n 3, 1) := by decide +kernel
theorem dX1_learn_139 : decode cX1_learn 139 = .ok (.iinc 4 1, 3) := by decide +kernel
theorem dX1_learn_142 : decode cX1_learn 142 = .ok (.goto (-26), 3) := by decide +kernel
theorem dX1_learn_145 : decode cX1_learn 145 = .ok (.return_, 1) := by decide +kernel
theorem dX1_openTurns_0 : decode cX1_openTurns 0 = .ok (.iconst 0, 1) := by decide +kernel
theorem dX1_openTurns_1 : decode cX1_openTurns 1 = .ok (.istore_n 2, 1) := by decide +kernel
theorem dX1_openTurns_2 : decode cX1_openTurns 2 = .ok (.iconst 1, 1) := by decide +kernel
theorem dX1_openTurns_3 : decode cX1_openTurns 3 = .ok (.istore_n 3, 1) := by decide +kernel
theorem dX1_openTurns_4 : decode cX1_openTurns 4 = .ok (.iload_n 3, 1) := by decide +kernel
theorem dX1_openTurns_5 : decode cX1_openTurns 5 = .ok (.aload_n 0, 1) := by decide +kernel
theorem dX1_openTurns_6 : decode cX1_openTurns 6 = .ok (.getfield 15, 3) := by decide +kernel
theorem dX1_openTurns_9 : decode cX1_openTurns 9 = .ok (.invokevirtual 61, 3) := by decide +kernel
theorem dX1_openTurns_12 : decode cX1_openTurns 12 = .ok (.if_icmp .gt 29, 3) := by decide +kernel
theorem dX1_openTurns_15 : decode cX1_openTurns 15 = .ok (.iload_n 2, 1) := by decide +kernel
theorem dX1_openTurns_16 : decode cX1_openTurns 16 = .ok (.aload_n 0, 1) := by decide +kernel
theorem dX1_openTurns_17 : decode cX1_openTurns 17 = .ok (.getfield 15, 3) := by decide +kernel
theorem dX1_openTurns_20 : decode cX1_openTurns 20 = .ok (.iload_n 1, 1) := by decide +kernel
theorem dX1_openTurns_21 : decode cX1_openTurns 21 = .ok (.iload_n 3, 1) := by decide +kernel
theorem dX1_openTurns_22 : decode cX1_openTurns 22 = .ok (.invokevirtual 64, 3) := by decide +kernel
theorem dX1_openTurns_25 : decode cX1_openTurns 25 = .ok (.ifCond .eq 7, 3) := by decide +kernel
theorem dX1_openTurns_28 : decode cX1_openTurns 28 = .ok (.iconst 1, 1) := by decide +kernel
theorem dX1_openTurns_29 : decode cX1_openTurns 29 = .ok (.goto 4, 3) := by decide +kernel
theorem dX1_openTurns_32 : decode cX1_openTurns 32 = .ok (.iconst 0, 1) := by decide +kernel
theorem dX1_openTurns_33 : decode cX1_openTurns 33 = .ok (.iadd, 1) := by decide +kernel
theorem dX1_openTurns_34 : decode cX1_openTurns 34 = .ok (.istore_n 2, 1) := by decide +kernel
theorem dX1_openTurns_35 : decode cX1_openTurns 35 = .ok (.iinc 3 1, 3) := by decide +kernel
theorem dX1_openTurns_38 : decode cX1_openTurns 38 = .ok (.goto (-34), 3) := by decide +kernel
theorem dX1_openTurns_41 : decode cX1_openTurns 41 = .ok (.iload_n 2, 1) := by decide +kernel
theorem dX1_openTurns_42 : decode cX1_openTurns 42 = .ok (.ireturn, 1) := by decide +kernel
theorem dX1_learnRound_0 : decode cX1_learnRound 0 = .ok (.aload_n 0, 1) := by decide +kernel
theorem dX1_learnRound_1 : decode cX1_learnRound 1 = .ok (.getfield 15, 3) := by decide +kernel
theorem dX1_learnRound_4 : decode cX1_learnRound 4 = .ok (.invokevirtual 29, 3) := by decide +kernel
theorem dX1_learnRound_7 : decode cX1_learnRound 7 = .ok (.astore_n 3, 1) := by decide +kernel
theorem dX1_learnRound_8 : decode cX1_learnRound 8 = .ok (.aload_n 0, 1) := by decide +kernel
theorem dX1_learnRound_9 : decode cX1_learnRound 9 = .ok (.getfield 15, 3) := by decide +kernel
theorem dX1_learnRound_12 : decode cX1_learnRound 12 = .ok (.invokevirtual 35, 3) := by decide +kernel
theorem dX1_learnRound_15 : decode cX1_learnRound 15 = .ok (.astore 4, 2) := by decide +kernel
theorem dX1_learnRound_17 : decode cX1_learnRound 17 = .ok (.iload_n 2, 1) := by decide +kernel
theorem dX1_learnRound_18 : decode cX1_learnRound 18 = .ok (.istore 5, 2) := by decide +kernel
theorem dX1_learnRound_20 : decode cX1_learnRound 20 = .ok (.aload_n 0, 1) := by decide +kernel
theorem dX1_learnRound_21 : decode cX1_learnRound 21 = .ok (.getfield 9, 3) := by decide +kernel
theorem dX1_learnRound_24 : decode cX1_learnRound 24 = .ok (.iload_n 1, 1) := by decide +kernel
theorem dX1_learnRound_25 : decode cX1_learnRound 25 = .ok (.invokestatic 53, 3) := by decide +kernel
theorem dX1_learnRound_28 : decode cX1_learnRound 28 = .ok (.iconst 2, 1) := by decide +kernel
theorem dX1_learnRound_29 : decode cX1_learnRound 29 = .ok (.irem, 1) := by decide +kernel
theorem dX1_learnRound_30 : decode cX1_learnRound 30 = .ok (.ifCond .ne 7, 3) := by decide +kernel
theorem dX1_learnRound_33 : decode cX1_learnRound 33 = .ok (.iconst 1, 1) := by decide +kernel
theorem dX1_learnRound_34 : decode cX1_learnRound 34 = .ok (.goto 4, 3) := by decide +kernel
theorem dX1_learnRound_37 : decode cX1_learnRound 37 = .ok (.iconst 0, 1) := by decide +kernel
theorem dX1_learnRound_38 : decode cX1_learnRound 38 = .ok (.istore 6, 2) := by decide +kernel
theorem dX1_learnRound_40 : decode cX1_learnRound 40 = .ok (.iconst 1, 1) := by decide +kernel
theorem dX1_learnRound_41 : decode cX1_learnRound 41 = .ok (.istore 7, 2) := by decide +kernel
theorem dX1_learnRound_43 : decode cX1_learnRound 43 = .ok (.iload 7, 2) := by decide +kernel
theorem dX1_learnRound_45 : decode cX1_learnRound 45 = .ok (.aload_n 0, 1) := by decide +kernel
theorem dX1_learnRound_46 : decode cX1_learnRound 46 = .ok (.getfield 15, 3) := by decide +kernel
theorem dX1_learnRound_49 : decode cX1_learnRound 49 = .ok (.invokevirtual 61, 3) := by decide +kernel
theorem dX1_learnRound_52 : decode cX1_learnRound 52 = .ok (.if_icmp .gt 112, 3) := by decide +kernel
theorem dX1_learnRound_55 : decode cX1_learnRound 55 = .ok (.aload_n 0, 1) := by decide +kernel
theorem dX1_learnRound_56 : decode cX1_learnRound 56 = .ok (.getfield 15, 3) := by decide +kernel
theorem dX1_learnRound_59 : decode cX1_learnRound 59 = .ok (.iload_n 1, 1) := by decide +kernel
theorem dX1_learnRound_60 : decode cX1_learnRound 60 = .ok (.iload 7, 2) := by decide +kernel
theorem dX1_learnRound_62 : decode cX1_learnRound 62 = .ok (.invokevirtual 68, 3) := by decide +kernel
theorem dX1_learnRound_65 : decode cX1_learnRound 65 = .ok (.istore 8, 2) := by decide +kernel
theorem dX1_learnRound_67 : decode cX1_learnRound 67 = .ok (.aload_n 0, 1) := by decide +kernel
theorem dX1_learnRound_68 : decode cX1_learnRound 68 = .ok (.getfield 9, 3) := by decide +kernel
theorem dX1_learnRound_71 : decode cX1_learnRound 71 = .ok (.iload 8, 2) := by decide +kernel
theorem dX1_learnRound_73 : decode cX1_learnRound 73 = .ok (.invokestatic 53, 3) := by decide +kernel
theorem dX1_learnRound_76 : decode cX1_learnRound 76 = .ok (.iconst (-1), 1) := by decide +kernel
theorem dX1_learnRound_77 : decode cX1_learnRound 77 = .ok (.if_icmp .ne 81, 3) := by decide +kernel
theorem dX1_learnRound_80 : decode cX1_learnRound 80 = .ok (.aload_n 0, 1) := by decide +kernel
theorem dX1_learnRound_81 : decode cX1_learnRound 81 = .ok (.getfield 15, 3) := by decide +kernel
theorem dX1_learnRound_84 : decode cX1_learnRound 84 = .ok (.iload 8, 2) := by decide +kernel
theorem dX1_learnRound_86 : decode cX1_learnRound 86 = .ok (.iload 7, 2) := by decide +kernel
theorem dX1_learnRound_88 : decode cX1_learnRound 88 = .ok (.invokevirtual 64, 3) := by decide +kernel
theorem dX1_learnRound_91 : decode cX1_learnRound 91 = .ok (.ifCond .ne 6, 3) := by decide +kernel
theorem dX1_learnRound_94 : decode cX1_learnRound 94 = .ok (.goto 64, 3) := by decide +kernel
theorem dX1_learnRound_97 : decode cX1_learnRound 97 = .ok (.aload 4, 2) := by decide +kernel
theorem dX1_learnRound_99 : decode cX1_learnRound 99 = .ok (.iload 8, 2) := by decide +kernel
theorem dX1_learnRound_101 : decode cX1_learnRound 101 = .ok (.aload 4, 2) := by decide +kernel
theorem dX1_learnRound_103 : decode cX1_learnRound 103 = .ok (.iload 8, 2) := by decide +kernel
theorem dX1_learnRound_105 : decode cX1_learnRound 105 = .ok (.invokestatic 53, 3) := by decide +kernel
theorem dX1_learnRound_108 : decode cX1_learnRound 108 = .ok (.iconst 1, 1) := by decide +kernel
theorem dX1_learnRound_109 : decode cX1_learnRound 109 = .ok (.isub, 1) := by decide +kernel
theorem dX1_learnRound_110 : decode cX1_learnRound 110 = .ok (.invokestatic 46, 3) := by decide +kernel
theorem dX1_learnRound_113 : decode cX1_learnRound 113 = .ok (.iload 6, 2) := by decide +kernel
theorem dX1_learnRound_115 : decode cX1_learnRound 115 = .ok (.ifCond .ne 13, 3) := by decide +kernel
theorem dX1_learnRound_118 : decode cX1_learnRound 118 = .ok (.aload 4, 2) := by decide +kernel
theorem dX1_learnRound_120 : decode cX1_learnRound 120 = .ok (.iload 8, 2) := by decide +kernel
theorem dX1_learnRound_122 : decode cX1_learnRound 122 = .ok (.invokestatic 53, 3) := by decide +kernel
theorem dX1_learnRound_125 : decode cX1_learnRound 125 = .ok (.ifCond .ne 33, 3) := by decide +kernel
theorem dX1_learnRound_128 : decode cX1_learnRound 128 = .ok (.aload_n 0, 1) := by decide +kernel
theorem dX1_learnRound_129 : decode cX1_learnRound 129 = .ok (.getfield 9, 3) := by decide +kernel
theorem dX1_learnRound_132 : decode cX1_learnRound 132 = .ok (.iload 8, 2) := by decide +kernel
theorem dX1_learnRound_134 : decode cX1_learnRound 134 = .ok (.aload_n 0, 1) := by decide +kernel
theorem dX1_learnRound_135 : decode cX1_learnRound 135 = .ok (.getfield 9, 3) := by decide +kernel
theorem dX1_learnRound_138 : decode cX1_learnRound 138 = .ok (.iload_n 1, 1) := by decide +kernel
theorem dX1_learnRound_139 : decode cX1_learnRound 139 = .ok (.invokestatic 53, 3) := by decide +kernel
theorem dX1_learnRound_142 : decode cX1_learnRound 142 = .ok (.iconst 1, 1) := by decide +kernel
theorem dX1_learnRound_143 : decode cX1_learnRound 143 = .ok (.iadd, 1) := by decide +kernel
theorem dX1_learnRound_144 : decode cX1_learnRound 144 = .ok (.invokestatic 46, 3) := by decide +kernel
theorem dX1_learnRound_147 : decode cX1_learnRound 147 = .ok (.aload_n 3, 1) := by decide +kernel
theorem dX1_learnRound_148 : decode cX1_learnRound 148 = .ok (.iload 5, 2) := by decide +kernel
theorem dX1_learnRound_150 : decode cX1_learnRound 150 = .ok (.iload 8, 2) := by decide +kernel
theorem dX1_learnRound_152 : decode cX1_learnRound 152 = .ok (.invokestatic 46, 3) := by decide +kernel
theorem dX1_learnRound_155 : decode cX1_learnRound 155 = .ok (.iinc 5 1, 3) := by decide +kernel
theorem dX1_learnRound_158 : decode cX1_learnRound 158 = .ok (.iinc 7 1, 3) := by decide +kernel
theorem dX1_learnRound_161 : decode cX1_learnRound 161 = .ok (.goto (-118), 3) := by decide +kernel
theorem dX1_learnRound_164 : decode cX1_learnRound 164 = .ok (.iload 5, 2) := by decide +kernel
theorem dX1_learnRound_166 : decode cX1_learnRound 166 = .ok (.ireturn, 1) := by decide +kernel
theorem dX1_turnsOf_0 : decode cX1_turnsOf 0 = .ok (.aload_n 0, 1) := by decide +kernel
theorem dX1_turnsOf_1 : decode cX1_turnsOf 1 = .ok (.getfield 9, 3) := by decide +kernel
theorem dX1_turnsOf_4 : decode cX1_turnsOf 4 = .ok (.iload_n 1, 1) := by decide +kernel
theorem dX1_turnsOf_5 : decode cX1_turnsOf 5 = .ok (.invokestatic 53, 3) := by decide +kernel
theorem dX1_turnsOf_8 : decode cX1_turnsOf 8 = .ok (.ireturn, 1) := by decide +kernel
theorem dX1_winnerOf_0 : decode cX1_winnerOf 0 = .ok (.aload_n 0, 1) := by decide +kernel
theorem dX1_winnerOf_1 : decode cX1_winnerOf 1 = .ok (.getfield 9, 3) := by decide +kernel
theorem dX1_winnerOf_4 : decode cX1_winnerOf 4 = .ok (.iload_n 1, 1) := by decide +kernel
theorem dX1_winnerOf_5 : decode cX1_winnerOf 5 = .ok (.invokestatic 53, 3) := by decide +kernel
theorem dX1_winnerOf_8 : decode cX1_winnerOf 8 = .ok (.istore_n 2, 1) := by decide +kernel
theorem dX1_winnerOf_9 : decode cX1_winnerOf 9 = .ok (.iload_n 2, 1) := by decide +kernel
theorem dX1_winnerOf_10 : decode cX1_winnerOf 10 = .ok (.iconst (-1), 1) := by decide +kernel
theorem dX1_winnerOf_11 : decode cX1_winnerOf 11 = .ok (.if_icmp .ne 7, 3) := by decide +kernel
theorem dX1_winnerOf_14 : decode cX1_winnerOf 14 = .ok (.iconst 2, 1) := by decide +kernel
theorem dX1_winnerOf_15 : decode cX1_winnerOf 15 = .ok (.goto 6, 3) := by decide +kernel
theorem dX1_winnerOf_18 : decode cX1_winnerOf 18 = .ok (.iload_n 2, 1) := by decide +kernel
theorem dX1_winnerOf_19 : decode cX1_winnerOf 19 = .ok (.iconst 2, 1) := by decide +kernel
theorem dX1_winnerOf_20 : decode cX1_winnerOf 20 = .ok (.irem, 1) := by decide +kernel
theorem dX1_winnerOf_21 : decode cX1_winnerOf 21 = .ok (.ireturn, 1) := by decide +kernel
theorem dX1_bestTurn_0 : decode cX1_bestTurn 0 = .ok (.aload_n 0, 1) := by decide +kernel
theorem dX1_bestTurn_1 : decode cX1_bestTurn 1 = .ok (.getfield 9, 3) := by decide +kernel
theorem dX1_bestTurn_4 : decode cX1_bestTurn 4 = .ok (.iload_n 1, 1) := by decide +kernel
theorem dX1_bestTurn_5 : decode cX1_bestTurn 5 = .ok (.invokestatic 53, 3) := by decide +kernel
theorem dX1_bestTurn_8 : decode cX1_bestTurn 8 = .ok (.istore_n 2, 1) := by decide +kernel
theorem dX1_bestTurn_9 : decode cX1_bestTurn 9 = .ok (.iload_n 2, 1) := by decide +kernel
theorem dX1_bestTurn_10 : decode cX1_bestTurn 10 = .ok (.iconst (-1), 1) := by decide +kernel
theorem dX1_bestTurn_11 : decode cX1_bestTurn 11 = .ok (.if_icmp .ne 7, 3) := by decide +kernel
theorem dX1_bestTurn_14 : decode cX1_bestTurn 14 = .ok (.iconst (-1), 1) := by decide +kernel
theorem dX1_bestTurn_15 : decode cX1_bestTurn 15 = .ok (.goto 6, 3) := by decide +kernel
theorem dX1_bestTurn_18 : decode cX1_bestTurn 18 = .ok (.iload_n 2, 1) := by decide +kernel
theorem dX1_bestTurn_19 : decode cX1_bestTurn 19 = .ok (.iconst 1, 1) := by decide +kernel
theorem dX1_bestTurn_20 : decode cX1_bestTurn 20 = .ok (.isub, 1) := by decide +kernel
theorem dX1_bestTurn_21 : decode cX1_bestTurn 21 = .ok (.istore_n 3, 1) := by decide +kernel
theorem dX1_bestTurn_22 : decode cX1_bestTurn 22 = .ok (.iconst 1, 1) := by decide +kernel
theorem dX1_bestTurn_23 : decode cX1_bestTurn 23 = .ok (.istore 4, 2) := by decide +kernel
theorem dX1_bestTurn_25 : decode cX1_bestTurn 25 = .ok (.iload_n 2, 1) := by decide +kernel
theorem dX1_bestTurn_26 : decode cX1_bestTurn 26 = .ok (.ifCond .eq 58, 3) := by decide +kernel
theorem dX1_bestTurn_29 : decode cX1_bestTurn 29 = .ok (.iload 4, 2) := by decide +kernel
theorem dX1_bestTurn_31 : decode cX1_bestTurn 31 = .ok (.aload_n 0, 1) := by decide +kernel
theorem dX1_bestTurn_32 : decode cX1_bestTurn 32 = .ok (.getfield 15, 3) := by decide +kernel
theorem dX1_bestTurn_35 : decode cX1_bestTurn 35 = .ok (.invokevirtual 61, 3) := by decide +kernel
theorem dX1_bestTurn_38 : decode cX1_bestTurn 38 = .ok (.if_icmp .gt 46, 3) := by decide +kernel
theorem dX1_bestTurn_41 : decode cX1_bestTurn 41 = .ok (.aload_n 0, 1) := by decide +kernel
theorem dX1_bestTurn_42 : decode cX1_bestTurn 42 = .ok (.getfield 15, 3) := by decide +kernel
theorem dX1_bestTurn_45 : decode cX1_bestTurn 45 = .ok (.iload_n 1, 1) := by decide +kernel
theorem dX1_bestTurn_46 : decode cX1_bestTurn 46 = .ok (.iload 4, 2) := by decide +kernel
theorem dX1_bestTurn_48 : decode cX1_bestTurn 48 = .ok (.invokevirtual 64, 3) := by decide +kernel
theorem dX1_bestTurn_51 : decode cX1_bestTurn 51 = .ok (.ifCond .eq 27, 3) := by decide +kernel
theorem dX1_bestTurn_54 : decode cX1_bestTurn 54 = .ok (.aload_n 0, 1) := by decide +kernel
theorem dX1_bestTurn_55 : decode cX1_bestTurn 55 = .ok (.getfield 9, 3) := by decide +kernel
theorem dX1_bestTurn_58 : decode cX1_bestTurn 58 = .ok (.aload_n 0, 1) := by decide +kernel
theorem dX1_bestTurn_59 : decode cX1_bestTurn 59 = .ok (.getfield 15, 3) := by decide +kernel
theorem dX1_bestTurn_62 : decode cX1_bestTurn 62 = .ok (.iload_n 1, 1) := by decide +kernel
theorem dX1_bestTurn_63 : decode cX1_bestTurn 63 = .ok (.iload 4, 2) := by decide +kernel
theorem dX1_bestTurn_65 : decode cX1_bestTurn 65 = .ok (.invokevirtual 68, 3) := by decide +kernel
theorem dX1_bestTurn_68 : decode cX1_bestTurn 68 = .ok (.invokestatic 53, 3) := by decide +kernel
theorem dX1_bestTurn_71 : decode cX1_bestTurn 71 = .ok (.iload_n 3, 1) := by decide +kernel
theorem dX1_bestTurn_72 : decode cX1_bestTurn 72 = .ok (.if_icmp .ne 6, 3) := by decide +kernel
theorem dX1_bestTurn_75 : decode cX1_bestTurn 75 = .ok (.iload 4, 2) := by decide +kernel
theorem dX1_bestTurn_77 : decode cX1_bestTurn 77 = .ok (.ireturn, 1) := by decide +kernel
theorem dX1_bestTurn_78 : decode cX1_bestTurn 78 = .ok (.iinc 4 1, 3) := by decide +kernel
theorem dX1_bestTurn_81 : decode cX1_bestTurn 81 = .ok (.goto (-56), 3) := by decide +kernel
theorem dX1_bestTurn_84 : decode cX1_bestTurn 84 = .ok (.iconst (-1), 1) := by decide +kernel
theorem dX1_bestTurn_85 : decode cX1_bestTurn 85 = .ok (.ireturn, 1) := by decide +kernel
theorem dX2_init_0 : decode cX2_init 0 = .ok (.aload_n 0, 1) := by decide +kernel
theorem dX2_init_1 : decode cX2_init 1 = .ok (.invokespecial 3, 3) := by decide +kernel
theorem dX2_init_4 : decode cX2_init 4 = .ok (.aload_n 0, 1) := by decide +kernel
theorem dX2_init_5 : decode cX2_init 5 = .ok (.iconst 5, 1) := by decide +kernel
theorem dX2_init_6 : decode cX2_init 6 = .ok (.newarray .long, 2) := by decide +kernel
theorem dX2_init_8 : decode cX2_init 8 = .ok (.putfield 9, 3) := by decide +kernel
theorem dX2_init_11 : decode cX2_init 11 = .ok (.aload_n 0, 1) := by decide +kernel
theorem dX2_init_12 : decode cX2_init 12 = .ok (.iconst 5, 1) := by decide +kernel
theorem dX2_init_13 : decode cX2_init 13 = .ok (.newarray .int, 2) := by decide +kernel
theorem dX2_init_15 : decode cX2_init 15 = .ok (.putfield 15, 3) := by decide +kernel
theorem dX2_init_18 : decode cX2_init 18 = .ok (.aload_n 0, 1) := by decide +kernel
theorem dX2_init_19 : decode cX2_init 19 = .ok (.iconst 5, 1) := by decide +kernel
theorem dX2_init_20 : decode cX2_init 20 = .ok (.newarray .int, 2) := by decide +kernel
theorem dX2_init_22 : decode cX2_init 22 = .ok (.putfield 19, 3) := by decide +kernel
theorem dX2_init_25 : decode cX2_init 25 = .ok (.aload_n 0, 1) := by decide +kernel
theorem dX2_init_26 : decode cX2_init 26 = .ok (.new 22, 3) := by decide +kernel
theorem dX2_init_29 : decode cX2_init 29 = .ok (.dup, 1) := by decide +kernel
theorem dX2_init_30 : decode cX2_init 30 = .ok (.iconst 0, 1) := by decide +kernel
theorem dX2_init_31 : decode cX2_init 31 = .ok (.invokespecial 24, 3) := by decide +kernel
theorem dX2_init_34 : decode cX2_init 34 = .ok (.putfield 27, 3) := by decide +kernel
theorem dX2_init_37 : decode cX2_init 37 = .ok (.aload_n 0, 1) := by decide +kernel
theorem dX2_init_38 : decode cX2_init 38 = .ok (.new 22, 3) := by decide +kernel
theorem dX2_init_41 : decode cX2_init 41 = .ok (.dup, 1) := by decide +kernel
theorem dX2_init_42 : decode cX2_init 42 = .ok (.iconst 1, 1) := by decide +kernel
theorem dX2_init_43 : decode cX2_init 43 = .ok (.invokespecial 24, 3) := by decide +kernel
theorem dX2_init_46 : decode cX2_init 46 = .ok (.putfield 31, 3) := by decide +kernel
theorem dX2_init_49 : decode cX2_init 49 = .ok (.return_, 1) := by decide +kernel
theorem dX2_clear_0 : decode cX2_clear 0 = .ok (.aload_n 0, 1) := by decide +kernel
theorem dX2_clear_1 : decode cX2_clear 1 = .ok (.iconst 0, 1) := by decide +kernel
theorem dX2_clear_2 : decode cX2_clear 2 = .ok (.putfield 34, 3) := by decide +kernel
theorem dX2_clear_5 : decode cX2_clear 5 = .ok (.aload_n 0, 1) := by decide +kernel
theorem dX2_clear_6 : decode cX2_clear 6 = .ok (.iconst 0, 1) := by decide +kernel
theorem dX2_clear_7 : decode cX2_clear 7 = .ok (.putfield 38, 3) := by decide +kernel
theorem dX2_clear_10 : decode cX2_clear 10 = .ok (.aload_n 0, 1) := by decide +kernel
theorem dX2_clear_11 : decode cX2_clear 11 = .ok (.getfield 27, 3) := by decide +kernel
theorem dX2_clear_14 : decode cX2_clear 14 = .ok (.invokevirtual 41, 3) := by decide +kernel
theorem dX2_clear_17 : decode cX2_clear 17 = .ok (.aload_n 0, 1) := by decide +kernel
theorem dX2_clear_18 : decode cX2_clear 18 = .ok (.getfield 31, 3) := by decide +kernel
theorem dX2_clear_21 : decode cX2_clear 21 = .ok (.invokevirtual 41, 3) := by decide +kernel
theorem dX2_clear_24 : decode cX2_clear 24 = .ok (.return_, 1) := by decide +kernel
theorem dX2_add_0 : decode cX2_add 0 = .ok (.aload_n 0, 1) := by decide +kernel
theorem dX2_add_1 : decode cX2_add 1 = .ok (.getfield 34, 3) := by decide +kernel
theorem dX2_add_4 : decode cX2_add 4 = .ok (.ifCond .lt 15, 3) := by decide +kernel
theorem dX2_add_7 : decode cX2_add 7 = .ok (.aload_n 0, 1) := by decide +kernel
theorem dX2_add_8 : decode cX2_add 8 = .ok (.getfield 34, 3) := by decide +kernel
theorem dX2_add_11 : decode cX2_add 11 = .ok (.aload_n 0, 1) := by decide +kernel
theorem dX2_add_12 : decode cX2_add 12 = .ok (.getfield 9, 3) := by decide +kernel
theorem dX2_add_15 : decode cX2_add 15 = .ok (.arraylength, 1) := by decide +kernel
theorem dX2_add_16 : decode cX2_add 16 = .ok (.if_icmp .lt 4, 3) := by decide +kernel
theorem dX2_add_19 : decode cX2_add 19 = .ok (.return_, 1) := by decide +kernel
theorem dX2_add_20 : decode cX2_add 20 = .ok (.aload_n 0, 1) := by decide +kernel
theorem dX2_add_21 : decode cX2_add 21 = .ok (.getfield 9, 3) := by decide +kernel
theorem dX2_add_24 : decode cX2_add 24 = .ok (.aload_n 0, 1) := by decide +kernel
theorem dX2_add_25 : decode cX2_add 25 = .ok (.getfield 34, 3) := by decide +kernel
theorem dX2_add_28 : decode cX2_add 28 = .ok (.lload_n 1, 1) := by decide +kernel
theorem dX2_add_29 : decode cX2_add 29 = .ok (.lastore, 1) := by decide +kernel
theorem dX2_add_30 : decode cX2_add 30 = .ok (.aload_n 0, 1) := by decide +kernel
theorem dX2_add_31 : decode cX2_add 31 = .ok (.getfield 15, 3) := by decide +kernel
theorem dX2_add_34 : decode cX2_add 34 = .ok (.aload_n 0, 1) := by decide +kernel
theorem dX2_add_35 : decode cX2_add 35 = .ok (.getfield 34, 3) := by decide +kernel
theorem dX2_add_38 : decode cX2_add 38 = .ok (.iload_n 3, 1) := by decide +kernel
theorem dX2_add_39 : decode cX2_add 39 = .ok (.invokestatic 44, 3) := by decide +kernel
theorem dX2_add_42 : decode cX2_add 42 = .ok (.aload_n 0, 1) := by decide +kernel
theorem dX2_add_43 : decode cX2_add 43 = .ok (.getfield 19, 3) := by decide +kernel
theorem dX2_add_46 : decode cX2_add 46 = .ok (.aload_n 0, 1) := by decide +kernel
theorem dX2_add_47 : decode cX2_add 47 = .ok (.getfield 34, 3) := by decide +kernel
theorem dX2_add_50 : decode cX2_add 50 = .ok (.iload 4, 2) := by decide +kernel
theorem dX2_add_52 : decode cX2_add 52 = .ok (.invokestatic 44, 3) := by decide +kernel
theorem dX2_add_55 : decode cX2_add 55 = .ok (.aload_n 0, 1) := by decide +kernel
theorem dX2_add_56 : decode cX2_add 56 = .ok (.dup, 1) := by decide +kernel
theorem dX2_add_57 : decode cX2_add 57 = .ok (.getfield 38, 3) := by decide +kernel
theorem dX2_add_60 : decode cX2_add 60 = .ok (.iload 5, 2) := by decide +kernel
theorem dX2_add_62 : decode cX2_add 62 = .ok (.ifCond .eq 12, 3) := by decide +kernel
theorem dX2_add_65 : decode cX2_add 65 = .ok (.iconst 1, 1) := by decide +kernel
theorem dX2_add_66 : decode cX2_add 66 = .ok (.aload_n 0, 1) := by decide +kernel
theorem dX2_add_67 : decode cX2_add 67 = .ok (.getfield 34, 3) := by decide +kernel
theorem dX2_add_70 : decode cX2_add 70 = .ok (.ishl, 1) := by decide +kernel
theorem dX2_add_71 : decode cX2_add 71 = .ok (.goto 4, 3) := by decide +kernel
theorem dX2_add_74 : decode cX2_add 74 = .ok (.iconst 0, 1) := by decide +kernel
theorem dX2_add_75 : decode cX2_add 75 = .ok (.ior, 1) := by decide +kernel
theorem dX2_add_76 : decode cX2_add 76 = .ok (.putfield 38, 3) := by decide +kernel
theorem dX2_add_79 : decode cX2_add 79 = .ok (.aload_n 0, 1) := by decide +kernel
theorem dX2_add_80 : decode cX2_add 80 = .ok (.dup, 1) := by decide +kernel
theorem dX2_add_81 : decode cX2_add 81 = .ok (.getfield 34, 3) := by decide +kernel
theorem dX2_add_84 : decode cX2_add 84 = .ok (.iconst 1, 1) := by decide +kernel
theorem dX2_add_85 : decode cX2_add 85 = .ok (.iadd, 1) := by decide +kernel
theorem dX2_add_86 : decode cX2_add 86 = .ok (.putfield 34, 3) := by decide +kernel
theorem dX2_add_89 : decode cX2_add 89 = .ok (.return_, 1) := by decide +kernel
theorem dX2_find_0 : decode cX2_find 0 = .ok (.iconst 0, 1) := by decide +kernel
theorem dX2_find_1 : decode cX2_find 1 = .ok (.istore_n 3, 1) := by decide +kernel
theorem dX2_find_2 : decode cX2_find 2 = .ok (.iload_n 3, 1) := by decide +kernel
theorem dX2_find_3 : decode cX2_find 3 = .ok (.aload_n 0, 1) := by decide +kernel
theorem dX2_find_4 : decode cX2_find 4 = .ok (.getfield 34, 3) := by decide +kernel
theorem dX2_find_7 : decode cX2_find 7 = .ok (.if_icmp .ge 31, 3) := by decide +kernel
theorem dX2_find_10 : decode cX2_find 10 = .ok (.iload_n 3, 1) := by decide +kernel
theorem dX2_find_11 : decode cX2_find 11 = .ok (.aload_n 0, 1) := by decide +kernel
theorem dX2_find_12 : decode cX2_find 12 = .ok (.getfield 9, 3) := by decide +kernel
theorem dX2_find_15 : decode cX2_find 15 = .ok (.arraylength, 1) := by decide +kernel
theorem dX2_find_16 : decode cX2_find 16 = .ok (.if_icmp .ge 22, 3) := by decide +kernel
theorem dX2_find_19 : decode cX2_find 19 = .ok (.aload_n 0, 1) := by decide +kernel
theorem dX2_find_20 : decode cX2_find 20 = .ok (.getfield 9, 3) := by decide +kernel
theorem dX2_find_23 : decode cX2_find 23 = .ok (.iload_n 3, 1) := by decide +kernel
theorem dX2_find_24 : decode cX2_find 24 = .ok (.laload, 1) := by decide +kernel
theorem dX2_find_25 : decode cX2_find 25 = .ok (.lload_n 1, 1) := by decide +kernel
theorem dX2_find_26 : decode cX2_find 26 = .ok (.lcmp, 1) := by decide +kernel
theorem dX2_find_27 : decode cX2_find 27 = .ok (.ifCond .ne 5, 3) := by decide +kernel
theorem dX2_find_30 : decode cX2_find 30 = .ok (.iload_n 3, 1) := by decide +kernel
theorem dX2_find_31 : decode cX2_find 31 = .ok (.ireturn, 1) := by decide +kernel
theorem dX2_find_32 : decode cX2_find 32 = .ok (.iinc 3 1, 3) := by decide +kernel
theorem dX2_find_35 : decode cX2_find 35 = .ok (.goto (-33), 3) := by decide +kernel
theorem dX2_find_38 : decode cX2_find 38 = .ok (.iconst (-1), 1) := by decide +kernel
theorem dX2_find_39 : decode cX2_find 39 = .ok (.ireturn, 1) := by decide +kernel
theorem dX2_hasWidth_0 : decode cX2_hasWidth 0 = .ok (.iconst 0, 1) := by decide +kernel
theorem dX2_hasWidth_1 : decode cX2_hasWidth 1 = .ok (.istore_n 2, 1) := by decide +kernel
theorem dX2_hasWidth_2 : decode cX2_hasWidth 2 = .ok (.iload_n 2, 1) := by decide +kernel
theorem dX2_hasWidth_3 : decode cX2_hasWidth 3 = .ok (.aload_n 0, 1) := by decide +kernel
theorem dX2_hasWidth_4 : decode cX2_hasWidth 4 = .ok (.getfield 34, 3) := by decide +kernel
theorem dX2_hasWidth_7 : decode cX2_hasWidth 7 = .ok (.if_icmp .ge 20, 3) := by decide +kernel
theorem dX2_hasWidth_10 : decode cX2_hasWidth 10 = .ok (.aload_n 0, 1) := by decide +kernel
theorem dX2_hasWidth_11 : decode cX2_hasWidth 11 = .ok (.iload_n 2, 1) := by decide +kernel
theorem dX2_hasWidth_12 : decode cX2_hasWidth 12 = .ok (.invokevirtual 48, 3) := by decide +kernel
theorem dX2_hasWidth_15 : decode cX2_hasWidth 15 = .ok (.iload_n 1, 1) := by decide +kernel
theorem dX2_hasWidth_16 : decode cX2_hasWidth 16 = .ok (.if_icmp .ne 5, 3) := by decide +kernel
theorem dX2_hasWidth_19 : decode cX2_hasWidth 19 = .ok (.iconst 1, 1) := by decide +kernel
theorem dX2_hasWidth_20 : decode cX2_hasWidth 20 = .ok (.ireturn, 1) := by decide +kernel
theorem dX2_hasWidth_21 : decode cX2_hasWidth 21 = .ok (.iinc 2 1, 3) := by decide +kernel
theorem dX2_hasWidth_24 : decode cX2_hasWidth 24 = .ok (.goto (-22), 3) := by decide +kernel
theorem dX2_hasWidth_27 : decode cX2_hasWidth 27 = .ok (.iconst 0, 1) := by decide +kernel
theorem dX2_hasWidth_28 : decode cX2_hasWidth 28 = .ok (.ireturn, 1) := by decide +kernel
theorem dX2_size_0 : decode cX2_size 0 = .ok (.aload_n 0, 1) := by decide +kernel
theorem dX2_size_1 : decode cX2_size 1 = .ok (.getfield 34, 3) := by decide +kernel
theorem dX2_size_4 : decode cX2_size 4 = .ok (.ireturn, 1) := by decide +kernel
theorem dX2_ups_0 : decode cX2_ups 0 = .ok (.aload_n 0, 1) := by decide +kernel
theorem dX2_ups_1 : decode cX2_ups 1 = .ok (.getfield 38, 3) := by decide +kernel
theorem dX2_ups_4 : decode cX2_ups 4 = .ok (.ireturn, 1) := by decide +kernel
theorem dX2_kindOf_0 : decode cX2_kindOf 0 = .ok (.aload_n 0, 1) := by decide +kernel
theorem dX2_kindOf_1 : decode cX2_kindOf 1 = .ok (.getfield 15, 3) := by decide +kernel
theorem dX2_kindOf_4 : decode cX2_kindOf 4 = .ok (.iload_n 1, 1) := by decide +kernel
theorem dX2_kindOf_5 : decode cX2_kindOf 5 = .ok (.invokestatic 52, 3) := by decide +kernel
theorem dX2_kindOf_8 : decode cX2_kindOf 8 = .ok (.ireturn, 1) := by decide +kernel
theorem dX2_widthOf_0 : decode cX2_widthOf 0 = .ok (.aload_n 0, 1) := by decide +kernel
theorem dX2_widthOf_1 : decode cX2_widthOf 1 = .ok (.getfield 19, 3) := by decide +kernel
theorem dX2_widthOf_4 : decode cX2_widthOf 4 = .ok (.iload_n 1, 1) := by decide +kernel
theorem dX2_widthOf_5 : decode cX2_widthOf 5 = .ok (.invokestatic 52, 3) := by decide +kernel
theorem dX2_widthOf_8 : decode cX2_widthOf 8 = .ok (.ireturn, 1) := by decide +kernel
theorem dX2_hasSide_0 : decode cX2_hasSide 0 = .ok (.aload_n 0, 1) := by decide +kernel
theorem dX2_hasSide_1 : decode cX2_hasSide 1 = .ok (.iload_n 1, 1) := by decide +kernel
theorem dX2_hasSide_2 : decode cX2_hasSide 2 = .ok (.invokevirtual 56, 3) := by decide +kernel
theorem dX2_hasSide_5 : decode cX2_hasSide 5 = .ok (.istore_n 2, 1) := by decide +kernel
theorem dX2_hasSide_6 : decode cX2_hasSide 6 = .ok (.iload_n 2, 1) := by decide +kernel
theorem dX2_hasSide_7 : decode cX2_hasSide 7 = .ok (.iconst 1, 1) := by decide +kernel
theorem dX2_hasSide_8 : decode cX2_hasSide 8 = .ok (.if_icmp .eq 8, 3) := by decide +kernel
theorem dX2_hasSide_11 : decode cX2_hasSide 11 = .ok (.iload_n 2, 1) := by decide +kernel
theorem dX2_hasSide_12 : decode cX2_hasSide 12 = .ok (.iconst 3, 1) := by decide +kernel
theorem dX2_hasSide_13 : decode cX2_hasSide 13 = .ok (.if_icmp .ne 7, 3) := by decide +kernel
theorem dX2_hasSide_16 : decode cX2_hasSide 16 = .ok (.iconst 1, 1) := by decide +kernel
theorem dX2_hasSide_17 : decode cX2_hasSide 17 = .ok (.goto 4, 3) := by decide +kernel
theorem dX2_hasSide_20 : decode cX2_hasSide 20 = .ok (.iconst 0, 1) := by decide +kernel
theorem dX2_hasSide_21 : decode cX2_hasSide 21 = .ok (.ireturn, 1) := by decide +kernel
theorem dX2_weightOf_0 : decode cX2_weightOf 0 = .ok (.aload_n 0, 1) := by decide +kernel
theorem dX2_weightOf_1 : decode cX2_weightOf 1 = .ok (.iload_n 1, 1) := by decide +kernel
theorem dX2_weightOf_2 : decode cX2_weightOf 2 = .ok (.invokevirtual 56, 3) := by decide +kernel
theorem dX2_weightOf_5 : decode cX2_weightOf 5 = .ok (.iconst 2, 1) := by decide +kernel
theorem dX2_weightOf_6 : decode cX2_weightOf 6 = .ok (.if_icmp .ne 13, 3) := by decide +kernel
theorem dX2_weightOf_9 : decode cX2_weightOf 9 = .ok (.iconst 2, 1) := by decide +kernel
theorem dX2_weightOf_10 : decode cX2_weightOf 10 = .ok (.aload_n 0, 1) := by decide +kernel
theorem dX2_weightOf_11 : decode cX2_weightOf 11 = .ok (.iload_n 1, 1) := by decide +kernel
theorem dX2_weightOf_12 : decode cX2_weightOf 12 = .ok (.invokevirtual 48, 3) := by decide +kernel
theorem dX2_weightOf_15 : decode cX2_weightOf 15 = .ok (.imul, 1) := by decide +kernel
theorem dX2_weightOf_16 : decode cX2_weightOf 16 = .ok (.goto 8, 3) := by decide +kernel
theorem dX2_weightOf_19 : decode cX2_weightOf 19 = .ok (.aload_n 0, 1) := by decide +kernel
theorem dX2_weightOf_20 : decode cX2_weightOf 20 = .ok (.iload_n 1, 1) := by decide +kernel
theorem dX2_weightOf_21 : decode cX2_weightOf 21 = .ok (.invokevirtual 48, 3) := by decide +kernel
theorem dX2_weightOf_24 : decode cX2_weightOf 24 = .ok (.ireturn, 1) := by decide +kernel
theorem dX2_rankOf_0 : decode cX2_rankOf 0 = .ok (.iconst 0, 1) := by decide +kernel
theorem dX2_rankOf_1 : decode cX2_rankOf 1 = .ok (.istore_n 2, 1) := by decide +kernel
theorem dX2_rankOf_2 : decode cX2_rankOf 2 = .ok (.iconst 0, 1) := by decide +kernel
theorem dX2_rankOf_3 : decode cX2_rankOf 3 = .ok (.istore_n 3, 1) := by decide +kernel
theorem dX2_rankOf_4 : decode cX2_rankOf 4 = .ok (.iload_n 3, 1) := by decide +kernel
theorem dX2_rankOf_5 : decode cX2_rankOf 5 = .ok (.aload_n 0, 1) := by decide +kernel
theorem dX2_rankOf_6 : decode cX2_rankOf 6 = .ok (.getfield 34, 3) := by decide +kernel
theorem dX2_rankOf_9 : decode cX2_rankOf 9 = .ok (.if_icmp .ge 25, 3) := by decide +kernel
theorem dX2_rankOf_12 : decode cX2_rankOf 12 = .ok (.aload_n 0, 1) := by decide +kernel
theorem dX2_rankOf_13 : decode cX2_rankOf 13 = .ok (.iload_n 3, 1) := by decide +kernel
theorem dX2_rankOf_14 : decode cX2_rankOf 14 = .ok (.invokevirtual 48, 3) := by decide +kernel
theorem dX2_rankOf_17 : decode cX2_rankOf 17 = .ok (.aload_n 0, 1) := by decide +kernel
theorem dX2_rankOf_18 : decode cX2_rankOf 18 = .ok (.iload_n 1, 1) := by decide +kernel
theorem dX2_rankOf_19 : decode cX2_rankOf 19 = .ok (.invokevirtual 48, 3) := by decide +kernel
theorem dX2_rankOf_22 : decode cX2_rankOf 22 = .ok (.if_icmp .ge 6, 3) := by decide +kernel
theorem dX2_rankOf_25 : decode cX2_rankOf 25 = .ok (.iinc 2 1, 3) := by decide +kernel
theorem dX2_rankOf_28 : decode cX2_rankOf 28 = .ok (.iinc 3 1, 3) := by decide +kernel
theorem dX2_rankOf_31 : decode cX2_rankOf 31 = .ok (.goto (-27), 3) := by decide +kernel
theorem dX2_rankOf_34 : decode cX2_rankOf 34 = .ok (.iload_n 2, 1) := by decide +kernel
theorem dX2_rankOf_35 : decode cX2_rankOf 35 = .ok (.ireturn, 1) := by decide +kernel
theorem dX2_bars_0 : decode cX2_bars 0 = .ok (.aload_n 0, 1) := by decide +kernel
theorem dX2_bars_1 : decode cX2_bars 1 = .ok (.getfield 27, 3) := by decide +kernel
theorem dX2_bars_4 : decode cX2_bars 4 = .ok (.areturn, 1) := by decide +kernel
theorem dX2_costs_0 : decode cX2_costs 0 = .ok (.aload_n 0, 1) := by decide +kernel
theorem dX2_costs_1 : decode cX2_costs 1 = .ok (.getfield 31, 3) := by decide +kernel
theorem dX2_costs_4 : decode cX2_costs 4 = .ok (.areturn, 1) := by decide +kernel
theorem dX3_init_0 : decode cX3_init 0 = .ok (.aload_n 0, 1) := by decide +kernel
theorem dX3_init_1 : decode cX3_init 1 = .ok (.invokespecial 3, 3) := by decide +kernel
theorem dX3_init_4 : decode cX3_init 4 = .ok (.aload_n 0, 1) := by decide +kernel
theorem dX3_init_5 : decode cX3_init 5 = .ok (.sipush 1000, 3) := by decide +kernel
theorem dX3_init_8 : decode cX3_init 8 = .ok (.newarray .int, 2) := by decide +kernel
theorem dX3_init_10 : decode cX3_init 10 = .ok (.putfield 9, 3) := by decide +kernel
theorem dX3_init_13 : decode cX3_init 13 = .ok (.aload_n 0, 1) := by decide +kernel
theorem dX3_init_14 : decode cX3_init 14 = .ok (.bipush 32, 2) := by decide +kernel
theorem dX3_init_16 : decode cX3_init 16 = .ok (.newarray .int, 2) := by decide +kernel
theorem dX3_init_18 : decode cX3_init 18 = .ok (.putfield 15, 3) := by decide +kernel
theorem dX3_init_21 : decode cX3_init 21 = .ok (.aload_n 0, 1) := by decide +kernel
theorem dX3_init_22 : decode cX3_init 22 = .ok (.iload_n 1, 1) := by decide +kernel
theorem dX3_init_23 : decode cX3_init 23 = .ok (.putfield 18, 3) := by decide +kernel
theorem dX3_init_26 : decode cX3_init 26 = .ok (.return_, 1) := by decide +kernel
theorem dX3_clear_0 : decode cX3_clear 0 = .ok (.aload_n 0, 1) := by decide +kernel
theorem dX3_clear_1 : decode cX3_clear 1 = .ok (.iconst 0, 1) := by decide +kernel
theorem dX3_clear_2 : decode cX3_clear 2 = .ok (.putfield 22, 3) := by decide +kernel
theorem dX3_clear_5 : decode cX3_clear 5 = .ok (.aload_n 0, 1) := by decide +kernel
theorem dX3_clear_6 : decode cX3_clear 6 = .ok (.iconst 0, 1) := by decide +kernel
theorem dX3_clear_7 : decode cX3_clear 7 = .ok (.putfield 25, 3) := by decide +kernel
theorem dX3_clear_10 : decode cX3_clear 10 = .ok (.return_, 1) := by decide +kernel
theorem dX3_tell_0 : decode cX3_tell 0 = .ok (.aload_n 0, 1) := by decide +kernel
theorem dX3_tell_1 : decode cX3_tell 1 = .ok (.iconst 1, 1) := by decide +kernel
theorem dX3_tell_2 : decode cX3_tell 2 = .ok (.putfield 25, 3) := by decide +kernel
theorem dX3_tell_5 : decode cX3_tell 5 = .ok (.return_, 1) := by decide +kernel
theorem dX3_isTold_0 : decode cX3_isTold 0 = .ok (.aload_n 0, 1) := by decide +kernel
theorem dX3_isTold_1 : decode cX3_isTold 1 = .ok (.getfield 25, 3) := by decide +kernel
theorem dX3_isTold_4 : decode cX3_isTold 4 = .ok (.ireturn, 1) := by decide +kernel
theorem dX3_add_0 : decode cX3_add 0 = .ok (.aload_n 0, 1) := by decide +kernel
theorem dX3_add_1 : decode cX3_add 1 = .ok (.getfield 22, 3) := by decide +kernel
theorem dX3_add_4 : decode cX3_add 4 = .ok (.aload_n 0, 1) := by decide +kernel
theorem dX3_add_5 : decode cX3_add 5 = .ok (.getfield 9, 3) := by decide +kernel
theorem dX3_add_8 : decode cX3_add 8 = .ok (.arraylength, 1) := by decide +kernel
theorem dX3_add_9 : decode cX3_add 9 = .ok (.if_icmp .ge 25, 3) := by decide +kernel
theorem dX3_add_12 : decode cX3_add 12 = .ok (.aload_n 0, 1) := by decide +kernel
theorem dX3_add_13 : decode cX3_add 13 = .ok (.getfield 9, 3) := by decide +kernel
theorem dX3_add_16 : decode cX3_add 16 = .ok (.aload_n 0, 1) := by decide +kernel
theorem dX3_add_17 : decode cX3_add 17 = .ok (.getfield 22, 3) := by decide +kernel
theorem dX3_add_20 : decode cX3_add 20 = .ok (.iload_n 1, 1) := by decide +kernel
theorem dX3_add_21 : decode cX3_add 21 = .ok (.invokestatic 29, 3) := by decide +kernel
theorem dX3_add_24 : decode cX3_add 24 = .ok (.aload_n 0, 1) := by decide +kernel
theorem dX3_add_25 : decode cX3_add 25 = .ok (.dup, 1) := by decide +kernel
theorem dX3_add_26 : decode cX3_add 26 = .ok (.getfield 22, 3) := by decide +kernel
theorem dX3_add_29 : decode cX3_add 29 = .ok (.iconst 1, 1) := by decide +kernel
theorem dX3_add_30 : decode cX3_add 30 = .ok (.iadd, 1) := by decide +kernel
theorem dX3_add_31 : decode cX3_add 31 = .ok (.putfield 22, 3) := by decide +kernel
theorem dX3_add_34 : decode cX3_add 34 = .ok (.return_, 1) := by decide +kernel
theorem dX3_value_0 : decode cX3_value 0 = .ok (.aload_n 0, 1) := by decide +kernel
theorem dX3_value_1 : decode cX3_value 1 = .ok (.getfield 25, 3) := by decide +kernel
theorem dX3_value_4 : decode cX3_value 4 = .ok (.ifCond .ne 8, 3) := by decide +kernel
theorem dX3_value_7 : decode cX3_value 7 = .ok (.aload_n 0, 1) := by decide +kernel
theorem dX3_value_8 : decode cX3_value 8 = .ok (.getfield 18, 3) := by decide +kernel
theorem dX3_value_11 : decode cX3_value 11 = .ok (.ireturn, 1) := by decide +kernel
theorem dX3_value_12 : decode cX3_value 12 = .ok (.aload_n 0, 1) := by decide +kernel
theorem dX3_value_13 : decode cX3_value 13 = .ok (.iconst 0, 1) := by decide +kernel
theorem dX3_value_14 : decode cX3_value 14 = .ok (.putfield 33, 3) := by decide +kernel
theorem dX3_value_17 : decode cX3_value 17 = .ok (.iconst 0, 1) := by decide +kernel
theorem dX3_value_18 : decode cX3_value 18 = .ok (.istore 5, 2) := by decide +kernel
theorem dX3_value_20 : decode cX3_value 20 = .ok (.iload 5, 2) := by decide +kernel
theorem dX3_value_22 : decode cX3_value 22 = .ok (.aload_n 0, 1) := by decide +kernel
theorem dX3_value_23 : decode cX3_value 23 = .ok (.getfield 22, 3) := by decide +kernel
theorem dX3_value_26 : decode cX3_value 26 = .ok (.if_icmp .ge 143, 3) := by decide +kernel
theorem dX3_value_29 : decode cX3_value 29 = .ok (.aload_n 0, 1) := by decide +kernel
theorem dX3_value_30 : decode cX3_value 30 = .ok (.getfield 9, 3) := by decide +kernel
theorem dX3_value_33 : decode cX3_value 33 = .ok (.iload 5, 2) := by decide +kernel
theorem dX3_value_35 : decode cX3_value 35 = .ok (.invokestatic 36, 3) := by decide +kernel
theorem dX3_value_38 : decode cX3_value 38 = .ok (.istore 6, 2) := by decide +kernel
theorem dX3_value_40 : decode cX3_value 40 = .ok (.iload 6, 2) := by decide +kernel
theorem dX3_value_42 : decode cX3_value 42 = .ok (.tableswitch 86 (-5) (-1) #[67, 58, 50, 42, 34], 34) := by decide +kernel
theorem dX3_value_76 : decode cX3_value 76 = .ok (.aload_n 0, 1) := by decide +kernel
theorem dX3_value_77 : decode cX3_value 77 = .ok (.iload_n 1, 1) := by decide +kernel
theorem dX3_value_78 : decode cX3_value 78 = .ok (.invokevirtual 40, 3) := by decide +kernel
theorem dX3_value_81 : decode cX3_value 81 = .ok (.goto 82, 3) := by decide +kernel
theorem dX3_value_84 : decode cX3_value 84 = .ok (.aload_n 0, 1) := by decide +kernel
theorem dX3_value_85 : decode cX3_value 85 = .ok (.iload_n 2, 1) := by decide +kernel
theorem dX3_value_86 : decode cX3_value 86 = .ok (.invokevirtual 40, 3) := by decide +kernel
theorem dX3_value_89 : decode cX3_value 89 = .ok (.goto 74, 3) := by decide +kernel
theorem dX3_value_92 : decode cX3_value 92 = .ok (.aload_n 0, 1) := by decide +kernel
theorem dX3_value_93 : decode cX3_value 93 = .ok (.iload_n 3, 1) := by decide +kernel
theorem dX3_value_94 : decode cX3_value 94 = .ok (.invokevirtual 40, 3) := by decide +kernel
theorem dX3_value_97 : decode cX3_value 97 = .ok (.goto 66, 3) := by decide +kernel
theorem dX3_value_100 : decode cX3_value 100 = .ok (.aload_n 0, 1) := by decide +kernel
theorem dX3_value_101 : decode cX3_value 101 = .ok (.iload 4, 2) := by decide +kernel
theorem dX3_value_103 : decode cX3_value 103 = .ok (.invokevirtual 40, 3) := by decide +kernel
theorem dX3_value_106 : decode cX3_value 106 = .ok (.goto 57, 3) := by decide +kernel
theorem dX3_value_109 : decode cX3_value 109 = .ok (.aload_n 0, 1) := by decide +kernel
theorem dX3_value_110 : decode cX3_value 110 = .ok (.aload_n 0, 1) := by decide +kernel
theorem dX3_value_111 : decode cX3_value 111 = .ok (.invokevirtual 44, 3) := by decide +kernel
theorem dX3_value_114 : decode cX3_value 114 = .ok (.ifCond .ne 7, 3) := by decide +kernel
theorem dX3_value_117 : decode cX3_value 117 = .ok (.iconst 1, 1) := by decide +kernel
theorem dX3_value_118 : decode cX3_value 118 = .ok (.goto 4, 3) := by decide +kernel
theorem dX3_value_121 : decode cX3_value 121 = .ok (.iconst 0, 1) := by decide +kernel
theorem dX3_value_122 : decode cX3_value 122 = .ok (.invokevirtual 40, 3) := by decide +kernel
theorem dX3_value_125 : decode cX3_value 125 = .ok (.goto 38, 3) := by decide +kernel
theorem dX3_value_128 : decode cX3_value 128 = .ok (.iload 6, 2) := by decide +kernel
theorem dX3_value_130 : decode cX3_value 130 = .ok (.ifCond .lt 12, 3) := by decide +kernel
theorem dX3_value_133 : decode cX3_value 133 = .ok (.aload_n 0, 1) := by decide +kernel
theorem dX3_value_134 : decode cX3_value 134 = .ok (.iload 6, 2) := by decide +kernel
theorem dX3_value_136 : decode cX3_value 136 = .ok (.invokevirtual 40, 3) := by decide +kernel
theorem dX3_value_139 : decode cX3_value 139 = .ok (.goto 24, 3) := by decide +kernel
theorem dX3_value_142 : decode cX3_value 142 = .ok (.aload_n 0, 1) := by decide +kernel
theorem dX3_value_143 : decode cX3_value 143 = .ok (.invokevirtual 44, 3) := by decide +kernel
theorem dX3_value_146 : decode cX3_value 146 = .ok (.istore 7, 2) := by decide +kernel
theorem dX3_value_148 : decode cX3_value 148 = .ok (.aload_n 0, 1) := by decide +kernel
theorem dX3_value_149 : decode cX3_value 149 = .ok (.iload 6, 2) := by decide +kernel
theorem dX3_value_151 : decode cX3_value 151 = .ok (.aload_n 0, 1) := by decide +kernel
theorem dX3_value_152 : decode cX3_value 152 = .ok (.invokevirtual 44, 3) := by decide +kernel
theorem dX3_value_155 : decode cX3_value 155 = .ok (.iload 7, 2) := by decide +kernel
theorem dX3_value_157 : decode cX3_value 157 = .ok (.invokestatic 48, 3) := by decide +kernel
theorem dX3_value_160 : decode cX3_value 160 = .ok (.invokevirtual 40, 3) := by decide +kernel
theorem dX3_value_163 : decode cX3_value 163 = .ok (.iinc 5 1, 3) := by decide +kernel
theorem dX3_value_166 : decode cX3_value 166 = .ok (.goto (-146), 3) := by decide +kernel
theorem dX3_value_169 : decode cX3_value 169 = .ok (.aload_n 0, 1) := by decide +kernel
theorem dX3_value_170 : decode cX3_value 170 = .ok (.invokevirtual 44, 3) := by decide +kernel
theorem dX3_value_173 : decode cX3_value 173 = .ok (.ireturn, 1) := by decide +kernel
theorem dX3_joined_0 : decode cX3_joined 0 = .ok (.iload_n 0, 1) := by decide +kernel
theorem dX3_joined_1 : decode cX3_joined 1 = .ok (.tableswitch 97 (-11) (-6) #[93, 89, 78, 67, 53, 39], 39) := by decide +kernel
theorem dX3_joined_40 : decode cX3_joined 40 = .ok (.iload_n 1, 1) := by decide +kernel
theorem dX3_joined_41 : decode cX3_joined 41 = .ok (.ifCond .eq 11, 3) := by decide +kernel
theorem dX3_joined_44 : decode cX3_joined 44 = .ok (.iload_n 2, 1) := by decide +kernel
theorem dX3_joined_45 : decode cX3_joined 45 = .ok (.ifCond .eq 7, 3) := by decide +kernel
theorem dX3_joined_48 : decode cX3_joined 48 = .ok (.iconst 1, 1) := by decide +kernel
theorem dX3_joined_49 : decode cX3_joined 49 = .ok (.goto 4, 3) := by decide +kernel
theorem dX3_joined_52 : decode cX3_joined 52 = .ok (.iconst 0, 1) := by decide +kernel
theorem dX3_joined_53 : decode cX3_joined 53 = .ok (.ireturn, 1) := by decide +kernel
theorem dX3_joined_54 : decode cX3_joined 54 = .ok (.iload_n 1, 1) := by decide +kernel
theorem dX3_joined_55 : decode cX3_joined 55 = .ok (.ifCond .ne 7, 3) := by decide +kernel
theorem dX3_joined_58 : decode cX3_joined 58 = .ok (.iload_n 2, 1) := by decide +kernel
theorem dX3_joined_59 : decode cX3_joined 59 = .ok (.ifCond .eq 7, 3) := by decide +kernel
theorem dX3_joined_62 : decode cX3_joined 62 = .ok (.iconst 1, 1) := by decide +kernel
theorem dX3_joined_63 : decode cX3_joined 63 = .ok (.goto 4, 3) := by decide +kernel
theorem dX3_joined_66 : decode cX3_joined 66 = .ok (.iconst 0, 1) := by decide +kernel
theorem dX3_joined_67 : decode cX3_joined 67 = .ok (.ireturn, 1) := by decide +kernel
theorem dX3_joined_68 : decode cX3_joined 68 = .ok (.iload_n 1, 1) := by decide +kernel
theorem dX3_joined_69 : decode cX3_joined 69 = .ok (.iload_n 2, 1) := by decide +kernel
theorem dX3_joined_70 : decode cX3_joined 70 = .ok (.if_icmp .ge 7, 3) := by decide +kernel
theorem dX3_joined_73 : decode cX3_joined 73 = .ok (.iconst 1, 1) := by decide +kernel
theorem dX3_joined_74 : decode cX3_joined 74 = .ok (.goto 4, 3) := by decide +kernel
theorem dX3_joined_77 : decode cX3_joined 77 = .ok (.iconst 0, 1) := by decide +kernel
theorem dX3_joined_78 : decode cX3_joined 78 = .ok (.ireturn, 1) := by decide +kernel
theorem dX3_joined_79 : decode cX3_joined 79 = .ok (.iload_n 1, 1) := by decide +kernel
theorem dX3_joined_80 : decode cX3_joined 80 = .ok (.iload_n 2, 1) := by decide +kernel
theorem dX3_joined_81 : decode cX3_joined 81 = .ok (.if_icmp .ne 7, 3) := by decide +kernel
theorem dX3_joined_84 : decode cX3_joined 84 = .ok (.iconst 1, 1) := by decide +kernel
theorem dX3_joined_85 : decode cX3_joined 85 = .ok (.goto 4, 3) := by decide +kernel
theorem dX3_joined_88 : decode cX3_joined 88 = .ok (.iconst 0, 1) := by decide +kernel
theorem dX3_joined_89 : decode cX3_joined 89 = .ok (.ireturn, 1) := by decide +kernel
theorem dX3_joined_90 : decode cX3_joined 90 = .ok (.iload_n 1, 1) := by decide +kernel
theorem dX3_joined_91 : decode cX3_joined 91 = .ok (.iload_n 2, 1) := by decide +kernel
theorem dX3_joined_92 : decode cX3_joined 92 = .ok (.iadd, 1) := by decide +kernel
theorem dX3_joined_93 : decode cX3_joined 93 = .ok (.ireturn, 1) := by decide +kernel
theorem dX3_joined_94 : decode cX3_joined 94 = .ok (.iload_n 1, 1) := by decide +kernel
theorem dX3_joined_95 : decode cX3_joined 95 = .ok (.iload_n 2, 1) := by decide +kernel
theorem dX3_joined_96 : decode cX3_joined 96 = .ok (.isub, 1) := by decide +kernel
theorem dX3_joined_97 : decode cX3_joined 97 = .ok (.ireturn, 1) := by decide +kernel
theorem dX3_joined_98 : decode cX3_joined 98 = .ok (.iload_n 1, 1) := by decide +kernel
theorem dX3_joined_99 : decode cX3_joined 99 = .ok (.iload_n 2, 1) := by decide +kernel
theorem dX3_joined_100 : decode cX3_joined 100 = .ok (.imul, 1) := by decide +kernel
theorem dX3_joined_101 : decode cX3_joined 101 = .ok (.ireturn, 1) := by decide +kernel
theorem dX3_push_0 : decode cX3_push 0 = .ok (.aload_n 0, 1) := by decide +kernel
theorem dX3_push_1 : decode cX3_push 1 = .ok (.getfield 33, 3) := by decide +kernel
theorem dX3_push_4 : decode cX3_push 4 = .ok (.aload_n 0, 1) := by decide +kernel
theorem dX3_push_5 : decode cX3_push 5 = .ok (.getfield 15, 3) := by decide +kernel
theorem dX3_push_8 : decode cX3_push 8 = .ok (.arraylength, 1) := by decide +kernel
theorem dX3_push_9 : decode cX3_push 9 = .ok (.if_icmp .ge 25, 3) := by decide +kernel
theorem dX3_push_12 : decode cX3_push 12 = .ok (.aload_n 0, 1) := by decide +kernel
theorem dX3_push_13 : decode cX3_push 13 = .ok (.getfield 15, 3) := by decide +kernel
theorem dX3_push_16 : decode cX3_push 16 = .ok (.aload_n 0, 1) := by decide +kernel
theorem dX3_push_17 : decode cX3_push 17 = .ok (.getfield 33, 3) := by decide +kernel
theorem dX3_push_20 : decode cX3_push 20 = .ok (.iload_n 1, 1) := by decide +kernel
theorem dX3_push_21 : decode cX3_push 21 = .ok (.invokestatic 29, 3) := by decide +kernel
theorem dX3_push_24 : decode cX3_push 24 = .ok (.aload_n 0, 1) := by decide +kernel
theorem dX3_push_25 : decode cX3_push 25 = .ok (.dup, 1) := by decide +kernel
theorem dX3_push_26 : decode cX3_push 26 = .ok (.getfield 33, 3) := by decide +kernel
theorem dX3_push_29 : decode cX3_push 29 = .ok (.iconst 1, 1) := by decide +kernel
theorem dX3_push_30 : decode cX3_push 30 = .ok (.iadd, 1) := by decide +kernel
theorem dX3_push_31 : decode cX3_push 31 = .ok (.putfield 33, 3) := by decide +kernel
theorem dX3_push_34 : decode cX3_push 34 = .ok (.return_, 1) := by decide +kernel
theorem dX3_pop_0 : decode cX3_pop 0 = .ok (.aload_n 0, 1) := by decide +kernel
theorem dX3_pop_1 : decode cX3_pop 1 = .ok (.getfield 33, 3) := by decide +kernel
theorem dX3_pop_4 : decode cX3_pop 4 = .ok (.ifCond .le 25, 3) := by decide +kernel
theorem dX3_pop_7 : decode cX3_pop 7 = .ok (.aload_n 0, 1) := by decide +kernel
theorem dX3_pop_8 : decode cX3_pop 8 = .ok (.dup, 1) := by decide +kernel
theorem dX3_pop_9 : decode cX3_pop 9 = .ok (.getfield 33, 3) := by decide +kernel
theorem dX3_pop_12 : decode cX3_pop 12 = .ok (.iconst 1, 1) := by decide +kernel
theorem dX3_pop_13 : decode cX3_pop 13 = .ok (.isub, 1) := by decide +kernel
theorem dX3_pop_14 : decode cX3_pop 14 = .ok (.putfield 33, 3) := by decide +kernel
theorem dX3_pop_17 : decode cX3_pop 17 = .ok (.aload_n 0, 1) := by decide +kernel
theorem dX3_pop_18 : decode cX3_pop 18 = .ok (.getfield 15, 3) := by decide +kernel
theorem dX3_pop_21 : decode cX3_pop 21 = .ok (.aload_n 0, 1) := by decide +kernel
theorem dX3_pop_22 : decode cX3_pop 22 = .ok (.getfield 33, 3) := by decide +kernel
theorem dX3_pop_25 : decode cX3_pop 25 = .ok (.invokestatic 36, 3) := by decide +kernel
theorem dX3_pop_28 : decode cX3_pop 28 = .ok (.ireturn, 1) := by decide +kernel
theorem dX3_pop_29 : decode cX3_pop 29 = .ok (.iconst 0, 1) := by decide +kernel
theorem dX3_pop_30 : decode cX3_pop 30 = .ok (.ireturn, 1) := by decide +kernel
theorem dX4_init_0 : decode cX4_init 0 = .ok (.aload_n 0, 1) := by decide +kernel
theorem dX4_init_1 : decode cX4_init 1 = .ok (.invokespecial 3, 3) := by decide +kernel
theorem dX4_init_4 : decode cX4_init 4 = .ok (.aload_n 0, 1) := by decide +kernel
theorem dX4_init_5 : decode cX4_init 5 = .ok (.bipush 40, 2) := by decide +kernel
theorem dX4_init_7 : decode cX4_init 7 = .ok (.newarray .int, 2) := by decide +kernel
theorem dX4_init_9 : decode cX4_init 9 = .ok (.putfield 9, 3) := by decide +kernel
theorem dX4_init_12 : decode cX4_init 12 = .ok (.return_, 1) := by decide +kernel
theorem dX4_clear_0 : decode cX4_clear 0 = .ok (.aload_n 0, 1) := by decide +kernel
theorem dX4_clear_1 : decode cX4_clear 1 = .ok (.iconst 0, 1) := by decide +kernel
theorem dX4_clear_2 : decode cX4_clear 2 = .ok (.putfield 15, 3) := by decide +kernel
theorem dX4_clear_5 : decode cX4_clear 5 = .ok (.return_, 1) := by decide +kernel
theorem dX4_become_0 : decode cX4_become 0 = .ok (.aload_n 0, 1) := by decide +kernel
theorem dX4_become_1 : decode cX4_become 1 = .ok (.iload_n 2, 1) := by decide +kernel
theorem dX4_become_2 : decode cX4_become 2 = .ok (.bipush 40, 2) := by decide +kernel
theorem dX4_become_4 : decode cX4_become 4 = .ok (.invokestatic 19, 3) := by decide +kernel
theorem dX4_become_7 : decode cX4_become 7 = .ok (.putfield 15, 3) := by decide +kernel
theorem dX4_become_10 : decode cX4_become 10 = .ok (.iconst 0, 1) := by decide +kernel
theorem dX4_become_11 : decode cX4_become 11 = .ok (.istore_n 3, 1) := by decide +kernel
theorem dX4_become_12 : decode cX4_become 12 = .ok (.iload_n 3, 1) := by decide +kernel
theorem dX4_become_13 : decode cX4_become 13 = .ok (.aload_n 0, 1) := by decide +kernel
theorem dX4_become_14 : decode cX4_become 14 = .ok (.getfield 15, 3) := by decide +kernel
theorem dX4_become_17 : decode cX4_become 17 = .ok (.if_icmp .ge 22, 3) := by decide +kernel
theorem dX4_become_20 : decode cX4_become 20 = .ok (.aload_n 0, 1) := by decide +kernel
theorem dX4_become_21 : decode cX4_become 21 = .ok (.getfield 9, 3) := by decide +kernel
theorem dX4_become_24 : decode cX4_become 24 = .ok (.iload_n 3, 1) := by decide +kernel
theorem dX4_become_25 : decode cX4_become 25 = .ok (.aload_n 1, 1) := by decide +kernel
theorem dX4_become_26 : decode cX4_become 26 = .ok (.iload_n 3, 1) := by decide +kernel
theorem dX4_become_27 : decode cX4_become 27 = .ok (.invokestatic 25, 3) := by decide +kernel
theorem dX4_become_30 : decode cX4_become 30 = .ok (.invokestatic 29, 3) := by decide +kernel
theorem dX4_become_33 : decode cX4_become 33 = .ok (.iinc 3 1, 3) := by decide +kernel
theorem dX4_become_36 : decode cX4_become 36 = .ok (.goto (-24), 3) := by decide +kernel
theorem dX4_become_39 : decode cX4_become 39 = .ok (.return_, 1) := by decide +kernel
theorem dX4_size_0 : decode cX4_size 0 = .ok (.aload_n 0, 1) := by decide +kernel
theorem dX4_size_1 : decode cX4_size 1 = .ok (.getfield 15, 3) := by decide +kernel
theorem dX4_size_4 : decode cX4_size 4 = .ok (.ireturn, 1) := by decide +kernel
theorem dX4_doneFrom_0 : decode cX4_doneFrom 0 = .ok (.iload_n 2, 1) := by decide +kernel
theorem dX4_doneFrom_1 : decode cX4_doneFrom 1 = .ok (.istore 4, 2) := by decide +kernel
theorem dX4_doneFrom_3 : decode cX4_doneFrom 3 = .ok (.iconst 0, 1) := by decide +kernel
theorem dX4_doneFrom_4 : decode cX4_doneFrom 4 = .ok (.istore 5, 2) := by decide +kernel
theorem dX4_doneFrom_6 : decode cX4_doneFrom 6 = .ok (.iload 5, 2) := by decide +kernel
theorem dX4_doneFrom_8 : decode cX4_doneFrom 8 = .ok (.aload_n 0, 1) := by decide +kernel
theorem dX4_doneFrom_9 : decode cX4_doneFrom 9 = .ok (.getfield 15, 3) := by decide +kernel
theorem dX4_doneFrom_12 : decode cX4_doneFrom 12 = .ok (.if_icmp .ge 47, 3) := by decide +kernel
theorem dX4_doneFrom_15 : decode cX4_doneFrom 15 = .ok (.aload_n 0, 1) := by decide +kernel
theorem dX4_doneFrom_16 : decode cX4_doneFrom 16 = .ok (.getfield 9, 3) := by decide +kernel
theorem dX4_doneFrom_19 : decode cX4_doneFrom 19 = .ok (.iload 5, 2) := by decide +kernel
theorem dX4_doneFrom_21 : decode cX4_doneFrom 21 = .ok (.invokestatic 25, 3) := by decide +kernel
theorem dX4_doneFrom_24 : decode cX4_doneFrom 24 = .ok (.istore 6, 2) := by decide +kernel
theorem dX4_doneFrom_26 : decode cX4_doneFrom 26 = .ok (.iload 5, 2) := by decide +kernel
theorem dX4_doneFrom_28 : decode cX4_doneFrom 28 = .ok (.iload_n 3, 1) := by decide +kernel
theorem dX4_doneFrom_29 : decode cX4_doneFrom 29 = .ok (.if_icmp .eq 24, 3) := by decide +kernel
theorem dX4_doneFrom_32 : decode cX4_doneFrom 32 = .ok (.aload_n 1, 1) := by decide +kernel
theorem dX4_doneFrom_33 : decode cX4_doneFrom 33 = .ok (.iload 4, 2) := by decide +kernel
theorem dX4_doneFrom_35 : decode cX4_doneFrom 35 = .ok (.iload 6, 2) := by decide +kernel
theorem dX4_doneFrom_37 : decode cX4_doneFrom 37 = .ok (.invokevirtual 33, 3) := by decide +kernel
theorem dX4_doneFrom_40 : decode cX4_doneFrom 40 = .ok (.ifCond .eq 13, 3) := by decide +kernel
theorem dX4_doneFrom_43 : decode cX4_doneFrom 43 = .ok (.aload_n 1, 1) := by decide +kernel
theorem dX4_doneFrom_44 : decode cX4_doneFrom 44 = .ok (.iload 4, 2) := by decide +kernel
theorem dX4_doneFrom_46 : decode cX4_doneFrom 46 = .ok (.iload 6, 2) := by decide +kernel
theorem dX4_doneFrom_48 : decode cX4_doneFrom 48 = .ok (.invokevirtual 39, 3) := by decide +kernel
theorem dX4_doneFrom_51 : decode cX4_doneFrom 51 = .ok (.istore 4, 2) := by decide +kernel
theorem dX4_doneFrom_53 : decode cX4_doneFrom 53 = .ok (.iinc 5 1, 3) := by decide +kernel
theorem dX4_doneFrom_56 : decode cX4_doneFrom 56 = .ok (.goto (-50), 3) := by decide +kernel
theorem dX4_doneFrom_59 : decode cX4_doneFrom 59 = .ok (.iload 4, 2) := by decide +kernel
theorem dX4_doneFrom_61 : decode cX4_doneFrom 61 = .ok (.ireturn, 1) := by decide +kernel
theorem dX4_doneWhole_0 : decode cX4_doneWhole 0 = .ok (.iload_n 2, 1) := by decide +kernel
theorem dX4_doneWhole_1 : decode cX4_doneWhole 1 = .ok (.istore_n 3, 1) := by decide +kernel
theorem dX4_doneWhole_2 : decode cX4_doneWhole 2 = .ok (.iconst 0, 1) := by decide +kernel
theorem dX4_doneWhole_3 : decode cX4_doneWhole 3 = .ok (.istore 4, 2) := by decide +kernel
theorem dX4_doneWhole_5 : decode cX4_doneWhole 5 = .ok (.iload 4, 2) := by decide +kernel
theorem dX4_doneWhole_7 : decode cX4_doneWhole 7 = .ok (.aload_n 0, 1) := by decide +kernel
theorem dX4_doneWhole_8 : decode cX4_doneWhole 8 = .ok (.getfield 15, 3) := by decide +kernel
theorem dX4_doneWhole_11 : decode cX4_doneWhole 11 = .ok (.if_icmp .ge 40, 3) := by decide +kernel
theorem dX4_doneWhole_14 : decode cX4_doneWhole 14 = .ok (.aload_n 0, 1) := by decide +kernel
theorem dX4_doneWhole_15 : decode cX4_doneWhole 15 = .ok (.getfield 9, 3) := by decide +kernel
theorem dX4_doneWhole_18 : decode cX4_doneWhole 18 = .ok (.iload 4, 2) := by decide +kernel
theorem dX4_doneWhole_20 : decode cX4_doneWhole 20 = .ok (.invokestatic 25, 3) := by decide +kernel
theorem dX4_doneWhole_23 : decode cX4_doneWhole 23 = .ok (.istore 5, 2) := by decide +kernel
theorem dX4_doneWhole_25 : decode cX4_doneWhole 25 = .ok (.aload_n 1, 1) := by decide +kernel
theorem dX4_doneWhole_26 : decode cX4_doneWhole 26 = .ok (.iload_n 3, 1) := by decide +kernel
theorem dX4_doneWhole_27 : decode cX4_doneWhole 27 = .ok (.iload 5, 2) := by decide +kernel
theorem dX4_doneWhole_29 : decode cX4_doneWhole 29 = .ok (.invokevirtual 33, 3) := by decide +kernel
theorem dX4_doneWhole_32 : decode cX4_doneWhole 32 = .ok (.ifCond .ne 5, 3) := by decide +kernel
theorem dX4_doneWhole_35 : decode cX4_doneWhole 35 = .ok (.iconst (-1), 1) := by decide +kernel
theorem dX4_doneWhole_36 : decode cX4_doneWhole 36 = .ok (.ireturn, 1) := by decide +kernel
theorem dX4_doneWhole_37 : decode cX4_doneWhole 37 = .ok (.aload_n 1, 1) := by decide +kernel
theorem dX4_doneWhole_38 : decode cX4_doneWhole 38 = .ok (.iload_n 3, 1) := by decide +kernel
theorem dX4_doneWhole_39 : decode cX4_doneWhole 39 = .ok (.iload 5, 2) := by decide +kernel
theorem dX4_doneWhole_41 : decode cX4_doneWhole 41 = .ok (.invokevirtual 39, 3) := by decide +kernel
theorem dX4_doneWhole_44 : decode cX4_doneWhole 44 = .ok (.istore_n 3, 1) := by decide +kernel
theorem dX4_doneWhole_45 : decode cX4_doneWhole 45 = .ok (.iinc 4 1, 3) := by decide +kernel
theorem dX4_doneWhole_48 : decode cX4_doneWhole 48 = .ok (.goto (-43), 3) := by decide +kernel
theorem dX4_doneWhole_51 : decode cX4_doneWhole 51 = .ok (.iload_n 3, 1) := by decide +kernel
theorem dX4_doneWhole_52 : decode cX4_doneWhole 52 = .ok (.ireturn, 1) := by decide +kernel
theorem dX4_judge_0 : decode cX4_judge 0 = .ok (.aload_n 1, 1) := by decide +kernel
theorem dX4_judge_1 : decode cX4_judge 1 = .ok (.invokevirtual 42, 3) := by decide +kernel
theorem dX4_judge_4 : decode cX4_judge 4 = .ok (.istore_n 3, 1) := by decide +kernel
theorem dX4_judge_5 : decode cX4_judge 5 = .ok (.iconst (-1), 1) := by decide +kernel
theorem dX4_judge_6 : decode cX4_judge 6 = .ok (.istore 4, 2) := by decide +kernel
theorem dX4_judge_8 : decode cX4_judge 8 = .ok (.iconst (-1), 1) := by decide +kernel
theorem dX4_judge_9 : decode cX4_judge 9 = .ok (.istore 5, 2) := by decide +kernel
theorem dX4_judge_11 : decode cX4_judge 11 = .ok (.iconst 0, 1) := by decide +kernel
theorem dX4_judge_12 : decode cX4_judge 12 = .ok (.istore 6, 2) := by decide +kernel
theorem dX4_judge_14 : decode cX4_judge 14 = .ok (.iconst 0, 1) := by decide +kernel
theorem dX4_judge_15 : decode cX4_judge 15 = .ok (.istore 7, 2) := by decide +kernel
theorem dX4_judge_17 : decode cX4_judge 17 = .ok (.iload 7, 2) := by decide +kernel
theorem dX4_judge_19 : decode cX4_judge 19 = .ok (.aload_n 0, 1) := by decide +kernel
theorem dX4_judge_20 : decode cX4_judge 20 = .ok (.getfield 15, 3) := by decide +kernel
theorem dX4_judge_23 : decode cX4_judge 23 = .ok (.if_icmp .ge 81, 3) := by decide +kernel
theorem dX4_judge_26 : decode cX4_judge 26 = .ok (.aload_n 0, 1) := by decide +kernel
theorem dX4_judge_27 : decode cX4_judge 27 = .ok (.getfield 9, 3) := by decide +kernel
theorem dX4_judge_30 : decode cX4_judge 30 = .ok (.iload 7, 2) := by decide +kernel
theorem dX4_judge_32 : decode cX4_judge 32 = .ok (.invokestatic 25, 3) := by decide +kernel
theorem dX4_judge_35 : decode cX4_judge 35 = .ok (.istore 8, 2) := by decide +kernel
theorem dX4_judge_37 : decode cX4_judge 37 = .ok (.aload_n 1, 1) := by decide +kernel
theorem dX4_judge_38 : decode cX4_judge 38 = .ok (.iload_n 3, 1) := by decide +kernel
theorem dX4_judge_39 : decode cX4_judge 39 = .ok (.iload 8, 2) := by decide +kernel
theorem dX4_judge_41 : decode cX4_judge 41 = .ok (.invokevirtual 33, 3) := by decide +kernel
theorem dX4_judge_44 : decode cX4_judge 44 = .ok (.ifCond .eq 26, 3) := by decide +kernel
theorem dX4_judge_47 : decode cX4_judge 47 = .ok (.iload 6, 2) := by decide +kernel
theorem dX4_judge_49 : decode cX4_judge 49 = .ok (.aload_n 1, 1) := by decide +kernel
theorem dX4_judge_50 : decode cX4_judge 50 = .ok (.iload_n 3, 1) := by decide +kernel
theorem dX4_judge_51 : decode cX4_judge 51 = .ok (.iload 8, 2) := by decide +kernel
theorem dX4_judge_53 : decode cX4_judge 53 = .ok (.invokevirtual 46, 3) := by decide +kernel
theorem dX4_judge_56 : decode cX4_judge 56 = .ok (.iadd, 1) := by decide +kernel
theorem dX4_judge_57 : decode cX4_judge 57 = .ok (.istore 6, 2) := by decide +kernel
theorem dX4_judge_59 : decode cX4_judge 59 = .ok (.aload_n 1, 1) := by decide +kernel
theorem dX4_judge_60 : decode cX4_judge 60 = .ok (.iload_n 3, 1) := by decide +kernel
theorem dX4_judge_61 : decode cX4_judge 61 = .ok (.iload 8, 2) := by decide +kernel
theorem dX4_judge_63 : decode cX4_judge 63 = .ok (.invokevirtual 39, 3) := by decide +kernel
theorem dX4_judge_66 : decode cX4_judge 66 = .ok (.istore_n 3, 1) := by decide +kernel
theorem dX4_judge_67 : decode cX4_judge 67 = .ok (.goto 13, 3) := by decide +kernel
theorem dX4_judge_70 : decode cX4_judge 70 = .ok (.iload 4, 2) := by decide +kernel
theorem dX4_judge_72 : decode cX4_judge 72 = .ok (.iconst (-1), 1) := by decide +kernel
theorem dX4_judge_73 : decode cX4_judge 73 = .ok (.if_icmp .ne 7, 3) := by decide +kernel
theorem dX4_judge_76 : decode cX4_judge 76 = .ok (.iload 7, 2) := by decide +kernel
theorem dX4_judge_78 : decode cX4_judge 78 = .ok (.istore 4, 2) := by decide +kernel
theorem dX4_judge_80 : decode cX4_judge 80 = .ok (.iload 5, 2) := by decide +kernel
theorem dX4_judge_82 : decode cX4_judge 82 = .ok (.iconst (-1), 1) := by decide +kernel
theorem dX4_judge_83 : decode cX4_judge 83 = .ok (.if_icmp .ne 15, 3) := by decide +kernel
theorem dX4_judge_86 : decode cX4_judge 86 = .ok (.iload_n 3, 1) := by decide +kernel
theorem dX4_judge_87 : decode cX4_judge 87 = .ok (.aload_n 1, 1) := by decide +kernel
theorem dX4_judge_88 : decode cX4_judge 88 = .ok (.invokevirtual 49, 3) := by decide +kernel
theorem dX4_judge_91 : decode cX4_judge 91 = .ok (.if_icmp .ne 7, 3) := by decide +kernel
theorem dX4_judge_94 : decode cX4_judge 94 = .ok (.iload 7, 2) := by decide +kernel
theorem dX4_judge_96 : decode cX4_judge 96 = .ok (.istore 5, 2) := by decide +kernel
theorem dX4_judge_98 : decode cX4_judge 98 = .ok (.iinc 7 1, 3) := by decide +kernel
theorem dX4_judge_101 : decode cX4_judge 101 = .ok (.goto (-84), 3) := by decide +kernel
theorem dX4_judge_104 : decode cX4_judge 104 = .ok (.iload_n 2, 1) := by decide +kernel
theorem dX4_judge_105 : decode cX4_judge 105 = .ok (.lookupswitch 33 #[(0, 27), (1, 30)], 27) := by decide +kernel
theorem dX4_judge_132 : decode cX4_judge 132 = .ok (.iload 4, 2) := by decide +kernel
theorem dX4_judge_134 : decode cX4_judge 134 = .ok (.ireturn, 1) := by decide +kernel
theorem dX4_judge_135 : decode cX4_judge 135 = .ok (.iload 5, 2) := by decide +kernel
theorem dX4_judge_137 : decode cX4_judge 137 = .ok (.ireturn, 1) := by decide +kernel
theorem dX4_judge_138 : decode cX4_judge 138 = .ok (.iload 6, 2) := by decide +kernel
theorem dX4_judge_140 : decode cX4_judge 140 = .ok (.ireturn, 1) := by decide +kernel
theorem dX5_init_0 : decode cX5_init 0 = .ok (.aload_n 0, 1) := by decide +kernel
theorem dX5_init_1 : decode cX5_init 1 = .ok (.invokespecial 3, 3) := by decide +kernel
theorem dX5_init_4 : decode cX5_init 4 = .ok (.aload_n 0, 1) := by decide +kernel
theorem dX5_init_5 : decode cX5_init 5 = .ok (.bipush 8, 2) := by decide +kernel
theorem dX5_init_7 : decode cX5_init 7 = .ok (.newarray .int, 2) := by decide +kernel
theorem dX5_init_9 : decode cX5_init 9 = .ok (.putfield 9, 3) := by decide +kernel
theorem dX5_init_12 : decode cX5_init 12 = .ok (.return_, 1) := by decide +kernel
theorem dX5_clear_0 : decode cX5_clear 0 = .ok (.aload_n 0, 1) := by decide +kernel
theorem dX5_clear_1 : decode cX5_clear 1 = .ok (.iconst 0, 1) := by decide +kernel
theorem dX5_clear_2 : decode cX5_clear 2 = .ok (.putfield 15, 3) := by decide +kernel
theorem dX5_clear_5 : decode cX5_clear 5 = .ok (.return_, 1) := by decide +kernel
theorem dX5_isLaid_0 : decode cX5_isLaid 0 = .ok (.aload_n 0, 1) := by decide +kernel
theorem dX5_isLaid_1 : decode cX5_isLaid 1 = .ok (.getfield 15, 3) := by decide +kernel
theorem dX5_isLaid_4 : decode cX5_isLaid 4 = .ok (.ireturn, 1) := by decide +kernel
theorem dX5_begin_0 : decode cX5_begin 0 = .ok (.aload_n 0, 1) := by decide +kernel
theorem dX5_begin_1 : decode cX5_begin 1 = .ok (.iload_n 1, 1) := by decide +kernel
theorem dX5_begin_2 : decode cX5_begin 2 = .ok (.putfield 19, 3) := by decide +kernel
theorem dX5_begin_5 : decode cX5_begin 5 = .ok (.aload_n 0, 1) := by decide +kernel
theorem dX5_begin_6 : decode cX5_begin 6 = .ok (.iconst 0, 1) := by decide +kernel
theorem dX5_begin_7 : decode cX5_begin 7 = .ok (.putfield 23, 3) := by decide +kernel
theorem dX5_begin_10 : decode cX5_begin 10 = .ok (.aload_n 0, 1) := by decide +kernel
theorem dX5_begin_11 : decode cX5_begin 11 = .ok (.iconst 0, 1) := by decide +kernel
theorem dX5_begin_12 : decode cX5_begin 12 = .ok (.putfield 26, 3) := by decide +kernel
theorem dX5_begin_15 : decode cX5_begin 15 = .ok (.aload_n 0, 1) := by decide +kernel
theorem dX5_begin_16 : decode cX5_begin 16 = .ok (.iconst 0, 1) := by decide +kernel
theorem dX5_begin_17 : decode cX5_begin 17 = .ok (.putfield 29, 3) := by decide +kernel
theorem dX5_begin_20 : decode cX5_begin 20 = .ok (.return_, 1) := by decide +kernel
theorem dX5_become_0 : decode cX5_become 0 = .ok (.aload_n 0, 1) := by decide +kernel
theorem dX5_become_1 : decode cX5_become 1 = .ok (.iconst 1, 1) := by decide +kernel
theorem dX5_become_2 : decode cX5_become 2 = .ok (.putfield 15, 3) := by decide +kernel
theorem dX5_become_5 : decode cX5_become 5 = .ok (.aload_n 0, 1) := by decide +kernel
theorem dX5_become_6 : decode cX5_become 6 = .ok (.aload_n 1, 1) := by decide +kernel
theorem dX5_become_7 : decode cX5_become 7 = .ok (.getfield 19, 3) := by decide +kernel
theorem dX5_become_10 : decode cX5_become 10 = .ok (.putfield 19, 3) := by decide +kernel
theorem dX5_become_13 : decode cX5_become 13 = .ok (.aload_n 0, 1) := by decide +kernel
theorem dX5_become_14 : decode cX5_become 14 = .ok (.aload_n 1, 1) := by decide +kernel
theorem dX5_become_15 : decode cX5_become 15 = .ok (.getfield 23, 3) := by decide +kernel
theorem dX5_become_18 : decode cX5_become 18 = .ok (.putfield 23, 3) := by decide +kernel
theorem dX5_become_21 : decode cX5_become 21 = .ok (.aload_n 0, 1) := by decide +kernel
theorem dX5_become_22 : decode cX5_become 22 = .ok (.aload_n 1, 1) := by decide +kernel
theorem dX5_become_23 : decode cX5_become 23 = .ok (.getfield 26, 3) := by decide +kernel
theorem dX5_become_26 : decode cX5_become 26 = .ok (.putfield 26, 3) := by decide +kernel
theorem dX5_become_29 : decode cX5_become 29 = .ok (.aload_n 0, 1) := by decide +kernel
theorem dX5_become_30 : decode cX5_become 30 = .ok (.aload_n 1, 1) := by decide +kernel
theorem dX5_become_31 : decode cX5_become 31 = .ok (.getfield 29, 3) := by decide +kernel
theorem dX5_become_34 : decode cX5_become 34 = .ok (.putfield 29, 3) := by decide +kernel
theorem dX5_become_37 : decode cX5_become 37 = .ok (.iconst 0, 1) := by decide +kernel
theorem dX5_become_38 : decode cX5_become 38 = .ok (.istore_n 2, 1) := by decide +kernel
theorem dX5_become_39 : decode cX5_become 39 = .ok (.iload_n 2, 1) := by decide +kernel
theorem dX5_become_40 : decode cX5_become 40 = .ok (.aload_n 0, 1) := by decide +kernel
theorem dX5_become_41 : decode cX5_become 41 = .ok (.getfield 29, 3) := by decide +kernel
theorem dX5_become_44 : decode cX5_become 44 = .ok (.if_icmp .ge 25, 3) := by decide +kernel
theorem dX5_become_47 : decode cX5_become 47 = .ok (.aload_n 0, 1) := by decide +kernel
theorem dX5_become_48 : decode cX5_become 48 = .ok (.getfield 9, 3) := by decide +kernel
theorem dX5_become_51 : decode cX5_become 51 = .ok (.iload_n 2, 1) := by decide +kernel
theorem dX5_become_52 : decode cX5_become 52 = .ok (.aload_n 1, 1) := by decide +kernel
theorem dX5_become_53 : decode cX5_become 53 = .ok (.getfield 9, 3) := by decide +kernel
theorem dX5_become_56 : decode cX5_become 56 = .ok (.iload_n 2, 1) := by decide +kernel
theorem dX5_become_57 : decode cX5_become 57 = .ok (.invokestatic 32, 3) := by decide +kernel
theorem dX5_become_60 : decode cX5_become 60 = .ok (.invokestatic 36, 3) := by decide +kernel
theorem dX5_become_63 : decode cX5_become 63 = .ok (.iinc 2 1, 3) := by decide +kernel
theorem dX5_become_66 : decode cX5_become 66 = .ok (.goto (-27), 3) := by decide +kernel
theorem dX5_become_69 : decode cX5_become 69 = .ok (.return_, 1) := by decide +kernel
theorem dX5_move_0 : decode cX5_move 0 = .ok (.aload_n 0, 1) := by decide +kernel
theorem dX5_move_1 : decode cX5_move 1 = .ok (.iload_n 1, 1) := by decide +kernel
theorem dX5_move_2 : decode cX5_move 2 = .ok (.putfield 19, 3) := by decide +kernel
theorem dX5_move_5 : decode cX5_move 5 = .ok (.aload_n 0, 1) := by decide +kernel
theorem dX5_move_6 : decode cX5_move 6 = .ok (.dup, 1) := by decide +kernel
theorem dX5_move_7 : decode cX5_move 7 = .ok (.getfield 23, 3) := by decide +kernel
theorem dX5_move_10 : decode cX5_move 10 = .ok (.iload_n 2, 1) := by decide +kernel
theorem dX5_move_11 : decode cX5_move 11 = .ok (.iadd, 1) := by decide +kernel
theorem dX5_move_12 : decode cX5_move 12 = .ok (.putfield 23, 3) := by decide +kernel
theorem dX5_move_15 : decode cX5_move 15 = .ok (.aload_n 0, 1) := by decide +kernel
theorem dX5_move_16 : decode cX5_move 16 = .ok (.dup, 1) := by decide +kernel
theorem dX5_move_17 : decode cX5_move 17 = .ok (.getfield 26, 3) := by decide +kernel
theorem dX5_move_20 : decode cX5_move 20 = .ok (.iload_n 3, 1) := by decide +kernel
theorem dX5_move_21 : decode cX5_move 21 = .ok (.iadd, 1) := by decide +kernel
theorem dX5_move_22 : decode cX5_move 22 = .ok (.putfield 26, 3) := by decide +kernel
theorem dX5_move_25 : decode cX5_move 25 = .ok (.return_, 1) := by decide +kernel
theorem dX5_stack_0 : decode cX5_stack 0 = .ok (.aload_n 0, 1) := by decide +kernel
theorem dX5_stack_1 : decode cX5_stack 1 = .ok (.getfield 19, 3) := by decide +kernel
theorem dX5_stack_4 : decode cX5_stack 4 = .ok (.ireturn, 1) := by decide +kernel
theorem dX5_turns_0 : decode cX5_turns 0 = .ok (.aload_n 0, 1) := by decide +kernel
theorem dX5_turns_1 : decode cX5_turns 1 = .ok (.getfield 23, 3) := by decide +kernel
theorem dX5_turns_4 : decode cX5_turns 4 = .ok (.ireturn, 1) := by decide +kernel
theorem dX5_spent_0 : decode cX5_spent 0 = .ok (.aload_n 0, 1) := by decide +kernel
theorem dX5_spent_1 : decode cX5_spent 1 = .ok (.getfield 26, 3) := by decide +kernel
theorem dX5_spent_4 : decode cX5_spent 4 = .ok (.ireturn, 1) := by decide +kernel
theorem dX5_seen_0 : decode cX5_seen 0 = .ok (.aload_n 0, 1) := by decide +kernel
theorem dX5_seen_1 : decode cX5_seen 1 = .ok (.getfield 29, 3) := by decide +kernel
theorem dX5_seen_4 : decode cX5_seen 4 = .ok (.ireturn, 1) := by decide +kernel
theorem dX5_addClue_0 : decode cX5_addClue 0 = .ok (.aload_n 0, 1) := by decide +kernel
theorem dX5_addClue_1 : decode cX5_addClue 1 = .ok (.getfield 29, 3) := by decide +kernel
theorem dX5_addClue_4 : decode cX5_addClue 4 = .ok (.bipush 8, 2) := by decide +kernel
theorem dX5_addClue_6 : decode cX5_addClue 6 = .ok (.if_icmp .lt 5, 3) := by decide +kernel
theorem dX5_addClue_9 : decode cX5_addClue 9 = .ok (.iconst 0, 1) := by decide +kernel
theorem dX5_addClue_10 : decode cX5_addClue 10 = .ok (.ireturn, 1) := by decide +kernel
theorem dX5_addClue_11 : decode cX5_addClue 11 = .ok (.aload_n 0, 1) := by decide +kernel
theorem dX5_addClue_12 : decode cX5_addClue 12 = .ok (.getfield 9, 3) := by decide +kernel
theorem dX5_addClue_15 : decode cX5_addClue 15 = .ok (.aload_n 0, 1) := by decide +kernel
theorem dX5_addClue_16 : decode cX5_addClue 16 = .ok (.getfield 29, 3) := by decide +kernel
theorem dX5_addClue_19 : decode cX5_addClue 19 = .ok (.iload_n 1, 1) := by decide +kernel
theorem dX5_addClue_20 : decode cX5_addClue 20 = .ok (.bipush 8, 2) := by decide +kernel
theorem dX5_addClue_22 : decode cX5_addClue 22 = .ok (.imul, 1) := by decide +kernel
theorem dX5_addClue_23 : decode cX5_addClue 23 = .ok (.iload_n 2, 1) := by decide +kernel
theorem dX5_addClue_24 : decode cX5_addClue 24 = .ok (.iadd, 1) := by decide +kernel
theorem dX5_addClue_25 : decode cX5_addClue 25 = .ok (.iconst 1, 1) := by decide +kernel
theorem dX5_addClue_26 : decode cX5_addClue 26 = .ok (.iadd, 1) := by decide +kernel
theorem dX5_addClue_27 : decode cX5_addClue 27 = .ok (.iconst 2, 1) := by decide +kernel
theorem dX5_addClue_28 : decode cX5_addClue 28 = .ok (.imul, 1) := by decide +kernel
theorem dX5_addClue_29 : decode cX5_addClue 29 = .ok (.iload_n 3, 1) := by decide +kernel
theorem dX5_addClue_30 : decode cX5_addClue 30 = .ok (.ifCond .eq 7, 3) := by decide +kernel
theorem dX5_addClue_33 : decode cX5_addClue 33 = .ok (.iconst 1, 1) := by decide +kernel
theorem dX5_addClue_34 : decode cX5_addClue 34 = .ok (.goto 4, 3) := by decide +kernel
theorem dX5_addClue_37 : decode cX5_addClue 37 = .ok (.iconst 0, 1) := by decide +kernel
theorem dX5_addClue_38 : decode cX5_addClue 38 = .ok (.iadd, 1) := by decide +kernel
theorem dX5_addClue_39 : decode cX5_addClue 39 = .ok (.invokestatic 36, 3) := by decide +kernel
theorem dX5_addClue_42 : decode cX5_addClue 42 = .ok (.aload_n 0, 1) := by decide +kernel
theorem dX5_addClue_43 : decode cX5_addClue 43 = .ok (.dup, 1) := by decide +kernel
theorem dX5_addClue_44 : decode cX5_addClue 44 = .ok (.getfield 29, 3) := by decide +kernel
theorem dX5_addClue_47 : decode cX5_addClue 47 = .ok (.iconst 1, 1) := by decide +kernel
theorem dX5_addClue_48 : decode cX5_addClue 48 = .ok (.iadd, 1) := by decide +kernel
theorem dX5_addClue_49 : decode cX5_addClue 49 = .ok (.putfield 29, 3) := by decide +kernel
theorem dX5_addClue_52 : decode cX5_addClue 52 = .ok (.iconst 1, 1) := by decide +kernel
theorem dX5_addClue_53 : decode cX5_addClue 53 = .ok (.ireturn, 1) := by decide +kernel
theorem dX5_fits_0 : decode cX5_fits 0 = .ok (.iconst 0, 1) := by decide +kernel
theorem dX5_fits_1 : decode cX5_fits 1 = .ok (.istore_n 3, 1) := by decide +kernel
theorem dX5_fits_2 : decode cX5_fits 2 = .ok (.iload_n 3, 1) := by decide +kernel
theorem dX5_fits_3 : decode cX5_fits 3 = .ok (.aload_n 0, 1) := by decide +kernel
theorem dX5_fits_4 : decode cX5_fits 4 = .ok (.getfield 29, 3) := by decide +kernel
theorem dX5_fits_7 : decode cX5_fits 7 = .ok (.if_icmp .ge 27, 3) := by decide +kernel
theorem dX5_fits_10 : decode cX5_fits 10 = .ok (.aload_n 1, 1) := by decide +kernel
theorem dX5_fits_11 : decode cX5_fits 11 = .ok (.iload_n 2, 1) := by decide +kernel
theorem dX5_fits_12 : decode cX5_fits 12 = .ok (.aload_n 0, 1) := by decide +kernel
theorem dX5_fits_13 : decode cX5_fits 13 = .ok (.getfield 9, 3) := by decide +kernel
theorem dX5_fits_16 : decode cX5_fits 16 = .ok (.iload_n 3, 1) := by decide +kernel
theorem dX5_fits_17 : decode cX5_fits 17 = .ok (.invokestatic 32, 3) := by decide +kernel
theorem dX5_fits_20 : decode cX5_fits 20 = .ok (.invokestatic 40, 3) := by decide +kernel
theorem dX5_fits_23 : decode cX5_fits 23 = .ok (.ifCond .ne 5, 3) := by decide +kernel
theorem dX5_fits_26 : decode cX5_fits 26 = .ok (.iconst 0, 1) := by decide +kernel
theorem dX5_fits_27 : decode cX5_fits 27 = .ok (.ireturn, 1) := by decide +kernel
theorem dX5_fits_28 : decode cX5_fits 28 = .ok (.iinc 3 1, 3) := by decide +kernel
theorem dX5_fits_31 : decode cX5_fits 31 = .ok (.goto (-29), 3) := by decide +kernel
theorem dX5_fits_34 : decode cX5_fits 34 = .ok (.iconst 1, 1) := by decide +kernel
theorem dX5_fits_35 : decode cX5_fits 35 = .ok (.ireturn, 1) := by decide +kernel
theorem dX5_holds_0 : decode cX5_holds 0 = .ok (.aload_n 0, 1) := by decide +kernel
theorem dX5_holds_1 : decode cX5_holds 1 = .ok (.iload_n 1, 1) := by decide +kernel
theorem dX5_holds_2 : decode cX5_holds 2 = .ok (.iload_n 2, 1) := by decide +kernel
theorem dX5_holds_3 : decode cX5_holds 3 = .ok (.iconst 4, 1) := by decide +kernel
theorem dX5_holds_4 : decode cX5_holds 4 = .ok (.ishr, 1) := by decide +kernel
theorem dX5_holds_5 : decode cX5_holds 5 = .ok (.invokevirtual 44, 3) := by decide +kernel
theorem dX5_holds_8 : decode cX5_holds 8 = .ok (.istore_n 3, 1) := by decide +kernel
theorem dX5_holds_9 : decode cX5_holds 9 = .ok (.iload_n 2, 1) := by decide +kernel
theorem dX5_holds_10 : decode cX5_holds 10 = .ok (.iconst 1, 1) := by decide +kernel
theorem dX5_holds_11 : decode cX5_holds 11 = .ok (.ishr, 1) := by decide +kernel
theorem dX5_holds_12 : decode cX5_holds 12 = .ok (.bipush 7, 2) := by decide +kernel
theorem dX5_holds_14 : decode cX5_holds 14 = .ok (.iand, 1) := by decide +kernel
theorem dX5_holds_15 : decode cX5_holds 15 = .ok (.iconst 1, 1) := by decide +kernel
theorem dX5_holds_16 : decode cX5_holds 16 = .ok (.isub, 1) := by decide +kernel
theorem dX5_holds_17 : decode cX5_holds 17 = .ok (.istore 4, 2) := by decide +kernel
theorem dX5_holds_19 : decode cX5_holds 19 = .ok (.iload_n 2, 1) := by decide +kernel
theorem dX5_holds_20 : decode cX5_holds 20 = .ok (.iconst 1, 1) := by decide +kernel
theorem dX5_holds_21 : decode cX5_holds 21 = .ok (.iand, 1) := by decide +kernel
theorem dX5_holds_22 : decode cX5_holds 22 = .ok (.iconst 1, 1) := by decide +kernel
theorem dX5_holds_23 : decode cX5_holds 23 = .ok (.if_icmp .ne 7, 3) := by decide +kernel
theorem dX5_holds_26 : decode cX5_holds 26 = .ok (.iconst 1, 1) := by decide +kernel
theorem dX5_holds_27 : decode cX5_holds 27 = .ok (.goto 4, 3) := by decide +kernel
theorem dX5_holds_30 : decode cX5_holds 30 = .ok (.iconst 0, 1) := by decide +kernel
theorem dX5_holds_31 : decode cX5_holds 31 = .ok (.istore 5, 2) := by decide +kernel
theorem dX5_holds_33 : decode cX5_holds 33 = .ok (.iload 4, 2) := by decide +kernel
theorem dX5_holds_35 : decode cX5_holds 35 = .ok (.iconst (-1), 1) := by decide +kernel
theorem dX5_holds_36 : decode cX5_holds 36 = .ok (.if_icmp .ne 12, 3) := by decide +kernel
theorem dX5_holds_39 : decode cX5_holds 39 = .ok (.aload_n 0, 1) := by decide +kernel
theorem dX5_holds_40 : decode cX5_holds 40 = .ok (.iload_n 1, 1) := by decide +kernel
theorem dX5_holds_41 : decode cX5_holds 41 = .ok (.iload_n 3, 1) := by decide +kernel
theorem dX5_holds_42 : decode cX5_holds 42 = .ok (.invokevirtual 50, 3) := by decide +kernel
theorem dX5_holds_45 : decode cX5_holds 45 = .ok (.goto 14, 3) := by decide +kernel
theorem dX5_holds_48 : decode cX5_holds 48 = .ok (.iload_n 3, 1) := by decide +kernel
theorem dX5_holds_49 : decode cX5_holds 49 = .ok (.iload 4, 2) := by decide +kernel
theorem dX5_holds_51 : decode cX5_holds 51 = .ok (.if_icmp .ne 7, 3) := by decide +kernel
theorem dX5_holds_54 : decode cX5_holds 54 = .ok (.iconst 1, 1) := by decide +kernel
theorem dX5_holds_55 : decode cX5_holds 55 = .ok (.goto 4, 3) := by decide +kernel
theorem dX5_holds_58 : decode cX5_holds 58 = .ok (.iconst 0, 1) := by decide +kernel
theorem dX5_holds_59 : decode cX5_holds 59 = .ok (.iload 5, 2) := by decide +kernel
theorem dX5_holds_61 : decode cX5_holds 61 = .ok (.if_icmp .ne 7, 3) := by decide +kernel
theorem dX5_holds_64 : decode cX5_holds 64 = .ok (.iconst 1, 1) := by decide +kernel
theorem dX5_holds_65 : decode cX5_holds 65 = .ok (.goto 4, 3) := by decide +kernel
theorem dX5_holds_68 : decode cX5_holds 68 = .ok (.iconst 0, 1) := by decide +kernel
theorem dX5_holds_69 : decode cX5_holds 69 = .ok (.ireturn, 1) := by decide +kernel
theorem dX6_init_0 : decode cX6_init 0 = .ok (.aload_n 0, 1) := by decide +kernel
theorem dX6_init_1 : decode cX6_init 1 = .ok (.invokespecial 3, 3) := by decide +kernel
theorem dX6_init_4 : decode cX6_init 4 = .ok (.aload_n 0, 1) := by decide +kernel
theorem dX6_init_5 : decode cX6_init 5 = .ok (.bipush 40, 2) := by decide +kernel
theorem dX6_init_7 : decode cX6_init 7 = .ok (.newarray .int, 2) := by decide +kernel
theorem dX6_init_9 : decode cX6_init 9 = .ok (.putfield 9, 3) := by decide +kernel
theorem dX6_init_12 : decode cX6_init 12 = .ok (.aload_n 0, 1) := by decide +kernel
theorem dX6_init_13 : decode cX6_init 13 = .ok (.aload_n 1, 1) := by decide +kernel
theorem dX6_init_14 : decode cX6_init 14 = .ok (.putfield 15, 3) := by decide +kernel
theorem dX6_init_17 : decode cX6_init 17 = .ok (.return_, 1) := by decide +kernel
theorem dX6_read_0 : decode cX6_read 0 = .ok (.aload_n 0, 1) := by decide +kernel
theorem dX6_read_1 : decode cX6_read 1 = .ok (.getfield 9, 3) := by decide +kernel
theorem dX6_read_4 : decode cX6_read 4 = .ok (.areturn, 1) := by decide +kernel
theorem dX6_readSize_0 : decode cX6_readSize 0 = .ok (.aload_n 0, 1) := by decide +kernel
theorem dX6_readSize_1 : decode cX6_readSize 1 = .ok (.getfield 19, 3) := by decide +kernel
theorem dX6_readSize_4 : decode cX6_readSize 4 = .ok (.ireturn, 1) := by decide +kernel
theorem dX6_readUps_0 : decode cX6_readUps 0 = .ok (.aload_n 0, 1) := by decide +kernel
theorem dX6_readUps_1 : decode cX6_readUps 1 = .ok (.getfield 23, 3) := by decide +kernel
theorem dX6_readUps_4 : decode cX6_readUps 4 = .ok (.ireturn, 1) := by decide +kernel
theorem dX6_readGriddle_0 : decode cX6_readGriddle 0 = .ok (.aload_n 1, 1) := by decide +kernel
theorem dX6_readGriddle_1 : decode cX6_readGriddle 1 = .ok (.invokevirtual 26, 3) := by decide +kernel
theorem dX6_readGriddle_4 : decode cX6_readGriddle 4 = .ok (.aload_n 0, 1) := by decide +kernel
theorem dX6_readGriddle_5 : decode cX6_readGriddle 5 = .ok (.invokevirtual 31, 3) := by decide +kernel
theorem dX6_readGriddle_8 : decode cX6_readGriddle 8 = .ok (.iconst 0, 1) := by decide +kernel
theorem dX6_readGriddle_9 : decode cX6_readGriddle 9 = .ok (.istore_n 2, 1) := by decide +kernel
theorem dX6_readGriddle_10 : decode cX6_readGriddle 10 = .ok (.iload_n 2, 1) := by decide +kernel
theorem dX6_readGriddle_11 : decode cX6_readGriddle 11 = .ok (.sipush 1000, 3) := by decide +kernel
theorem dX6_readGriddle_14 : decode cX6_readGriddle 14 = .ok (.if_icmp .ge 106, 3) := by decide +kernel
theorem dX6_readGriddle_17 : decode cX6_readGriddle 17 = .ok (.aload_n 0, 1) := by decide +kernel
theorem dX6_readGriddle_18 : decode cX6_readGriddle 18 = .ok (.getfield 34, 3) := by decide +kernel
theorem dX6_readGriddle_21 : decode cX6_readGriddle 21 = .ok (.ifCond .ne 99, 3) := by decide +kernel
theorem dX6_readGriddle_24 : decode cX6_readGriddle 24 = .ok (.aload_n 0, 1) := by decide +kernel
theorem dX6_readGriddle_25 : decode cX6_readGriddle 25 = .ok (.getfield 15, 3) := by decide +kernel
theorem dX6_readGriddle_28 : decode cX6_readGriddle 28 = .ok (.bipush 101, 2) := by decide +kernel
theorem dX6_readGriddle_30 : decode cX6_readGriddle 30 = .ok (.invokevirtual 37, 3) := by decide +kernel
theorem dX6_readGriddle_33 : decode cX6_readGriddle 33 = .ok (.ifCond .ne 87, 3) := by decide +kernel
theorem dX6_readGriddle_36 : decode cX6_readGriddle 36 = .ok (.aload_n 0, 1) := by decide +kernel
theorem dX6_readGriddle_37 : decode cX6_readGriddle 37 = .ok (.getfield 15, 3) := by decide +kernel
theorem dX6_readGriddle_40 : decode cX6_readGriddle 40 = .ok (.getstatic 43, 3) := by decide +kernel
theorem dX6_readGriddle_43 : decode cX6_readGriddle 43 = .ok (.invokevirtual 49, 3) := by decide +kernel
theorem dX6_readGriddle_46 : decode cX6_readGriddle 46 = .ok (.ifCond .eq 12, 3) := by decide +kernel
theorem dX6_readGriddle_49 : decode cX6_readGriddle 49 = .ok (.aload_n 0, 1) := by decide +kernel
theorem dX6_readGriddle_50 : decode cX6_readGriddle 50 = .ok (.aload_n 1, 1) := by decide +kernel
theorem dX6_readGriddle_51 : decode cX6_readGriddle 51 = .ok (.invokevirtual 53, 3) := by decide +kernel
theorem dX6_readGriddle_54 : decode cX6_readGriddle 54 = .ok (.pop, 1) := by decide +kernel
theorem dX6_readGriddle_55 : decode cX6_readGriddle 55 = .ok (.goto 59, 3) := by decide +kernel
theorem dX6_readGriddle_58 : decode cX6_readGriddle 58 = .ok (.aload_n 0, 1) := by decide +kernel
theorem dX6_readGriddle_59 : decode cX6_readGriddle 59 = .ok (.getfield 15, 3) := by decide +kernel
theorem dX6_readGriddle_62 : decode cX6_readGriddle 62 = .ok (.getstatic 57, 3) := by decide +kernel
theorem dX6_readGriddle_65 : decode cX6_readGriddle 65 = .ok (.invokevirtual 49, 3) := by decide +kernel
theorem dX6_readGriddle_68 : decode cX6_readGriddle 68 = .ok (.ifCond .eq 15, 3) := by decide +kernel
theorem dX6_readGriddle_71 : decode cX6_readGriddle 71 = .ok (.aload_n 0, 1) := by decide +kernel
theorem dX6_readGriddle_72 : decode cX6_readGriddle 72 = .ok (.aload_n 1, 1) := by decide +kernel
theorem dX6_readGriddle_73 : decode cX6_readGriddle 73 = .ok (.invokevirtual 60, 3) := by decide +kernel
theorem dX6_readGriddle_76 : decode cX6_readGriddle 76 = .ok (.invokevirtual 64, 3) := by decide +kernel
theorem dX6_readGriddle_79 : decode cX6_readGriddle 79 = .ok (.pop, 1) := by decide +kernel
theorem dX6_readGriddle_80 : decode cX6_readGriddle 80 = .ok (.goto 34, 3) := by decide +kernel
theorem dX6_readGriddle_83 : decode cX6_readGriddle 83 = .ok (.aload_n 0, 1) := by decide +kernel
theorem dX6_readGriddle_84 : decode cX6_readGriddle 84 = .ok (.getfield 15, 3) := by decide +kernel
theorem dX6_readGriddle_87 : decode cX6_readGriddle 87 = .ok (.getstatic 68, 3) := by decide +kernel
theorem dX6_readGriddle_90 : decode cX6_readGriddle 90 = .ok (.invokevirtual 49, 3) := by decide +kernel
theorem dX6_readGriddle_93 : decode cX6_readGriddle 93 = .ok (.ifCond .eq 15, 3) := by decide +kernel
theorem dX6_readGriddle_96 : decode cX6_readGriddle 96 = .ok (.aload_n 0, 1) := by decide +kernel
theorem dX6_readGriddle_97 : decode cX6_readGriddle 97 = .ok (.aload_n 1, 1) := by decide +kernel
theorem dX6_readGriddle_98 : decode cX6_readGriddle 98 = .ok (.invokevirtual 71, 3) := by decide +kernel
theorem dX6_readGriddle_101 : decode cX6_readGriddle 101 = .ok (.invokevirtual 64, 3) := by decide +kernel
theorem dX6_readGriddle_104 : decode cX6_readGriddle 104 = .ok (.pop, 1) := by decide +kernel
theorem dX6_readGriddle_105 : decode cX6_readGriddle 105 = .ok (.goto 9, 3) := by decide +kernel
theorem dX6_readGriddle_108 : decode cX6_readGriddle 108 = .ok (.aload_n 0, 1) := by decide +kernel
theorem dX6_readGriddle_109 : decode cX6_readGriddle 109 = .ok (.iconst 1, 1) := by decide +kernel
theorem dX6_readGriddle_110 : decode cX6_readGriddle 110 = .ok (.invokevirtual 74, 3) := by decide +kernel
theorem dX6_readGriddle_113 : decode cX6_readGriddle 113 = .ok (.pop, 1) := by decide +kernel
theorem dX6_readGriddle_114 : decode cX6_readGriddle 114 = .ok (.iinc 2 1, 3) := by decide +kernel
theorem dX6_readGriddle_117 : decode cX6_readGriddle 117 = .ok (.goto (-107), 3) := by decide +kernel
theorem dX6_readGriddle_120 : decode cX6_readGriddle 120 = .ok (.aload_n 0, 1) := by decide +kernel
theorem dX6_readGriddle_121 : decode cX6_readGriddle 121 = .ok (.invokevirtual 78, 3) := by decide +kernel
theorem dX6_readGriddle_124 : decode cX6_readGriddle 124 = .ok (.ireturn, 1) := by decide +kernel
theorem dX6_readPlan_0 : decode cX6_readPlan 0 = .ok (.aload_n 0, 1) := by decide +kernel
theorem dX6_readPlan_1 : decode cX6_readPlan 1 = .ok (.invokevirtual 31, 3) := by decide +kernel
theorem dX6_readPlan_4 : decode cX6_readPlan 4 = .ok (.iconst 0, 1) := by decide +kernel
theorem dX6_readPlan_5 : decode cX6_readPlan 5 = .ok (.istore_n 2, 1) := by decide +kernel
theorem dX6_readPlan_6 : decode cX6_readPlan 6 = .ok (.iload_n 2, 1) := by decide +kernel
theorem dX6_readPlan_7 : decode cX6_readPlan 7 = .ok (.sipush 1000, 3) := by decide +kernel
theorem dX6_readPlan_10 : decode cX6_readPlan 10 = .ok (.if_icmp .ge 34, 3) := by decide +kernel
theorem dX6_readPlan_13 : decode cX6_readPlan 13 = .ok (.aload_n 0, 1) := by decide +kernel
theorem dX6_readPlan_14 : decode cX6_readPlan 14 = .ok (.getfield 34, 3) := by decide +kernel
theorem dX6_readPlan_17 : decode cX6_readPlan 17 = .ok (.ifCond .ne 27, 3) := by decide +kernel
theorem dX6_readPlan_20 : decode cX6_readPlan 20 = .ok (.aload_n 0, 1) := by decide +kernel
theorem dX6_readPlan_21 : decode cX6_readPlan 21 = .ok (.getfield 15, 3) := by decide +kernel
theorem dX6_readPlan_24 : decode cX6_readPlan 24 = .ok (.bipush 101, 2) := by decide +kernel
theorem dX6_readPlan_26 : decode cX6_readPlan 26 = .ok (.invokevirtual 37, 3) := by decide +kernel
theorem dX6_readPlan_29 : decode cX6_readPlan 29 = .ok (.ifCond .ne 15, 3) := by decide +kernel
theorem dX6_readPlan_32 : decode cX6_readPlan 32 = .ok (.aload_n 0, 1) := by decide +kernel
theorem dX6_readPlan_33 : decode cX6_readPlan 33 = .ok (.iload_n 1, 1) := by decide +kernel
theorem dX6_readPlan_34 : decode cX6_readPlan 34 = .ok (.invokevirtual 82, 3) := by decide +kernel
theorem dX6_readPlan_37 : decode cX6_readPlan 37 = .ok (.pop, 1) := by decide +kernel
theorem dX6_readPlan_38 : decode cX6_readPlan 38 = .ok (.iinc 2 1, 3) := by decide +kernel
theorem dX6_readPlan_41 : decode cX6_readPlan 41 = .ok (.goto (-35), 3) := by decide +kernel
theorem dX6_readPlan_44 : decode cX6_readPlan 44 = .ok (.aload_n 0, 1) := by decide +kernel
theorem dX6_readPlan_45 : decode cX6_readPlan 45 = .ok (.invokevirtual 78, 3) := by decide +kernel
theorem dX6_readPlan_48 : decode cX6_readPlan 48 = .ok (.ireturn, 1) := by decide +kernel
theorem dX6_readWish_0 : decode cX6_readWish 0 = .ok (.aload_n 0, 1) := by decide +kernel
theorem dX6_readWish_1 : decode cX6_readWish 1 = .ok (.invokevirtual 31, 3) := by decide +kernel
theorem dX6_readWish_4 : decode cX6_readWish 4 = .ok (.iconst 0, 1) := by decide +kernel
theorem dX6_readWish_5 : decode cX6_readWish 5 = .ok (.istore_n 2, 1) := by decide +kernel
theorem dX6_readWish_6 : decode cX6_readWish 6 = .ok (.iconst 0, 1) := by decide +kernel
theorem dX6_readWish_7 : decode cX6_readWish 7 = .ok (.istore_n 3, 1) := by decide +kernel
theorem dX6_readWish_8 : decode cX6_readWish 8 = .ok (.iload_n 3, 1) := by decide +kernel
theorem dX6_readWish_9 : decode cX6_readWish 9 = .ok (.aload_n 1, 1) := by decide +kernel
theorem dX6_readWish_10 : decode cX6_readWish 10 = .ok (.invokevirtual 85, 3) := by decide +kernel
theorem dX6_readWish_13 : decode cX6_readWish 13 = .ok (.if_icmp .ge 25, 3) := by decide +kernel
theorem dX6_readWish_16 : decode cX6_readWish 16 = .ok (.aload_n 0, 1) := by decide +kernel
theorem dX6_readWish_17 : decode cX6_readWish 17 = .ok (.getfield 34, 3) := by decide +kernel
theorem dX6_readWish_20 : decode cX6_readWish 20 = .ok (.ifCond .ne 18, 3) := by decide +kernel
theorem dX6_readWish_23 : decode cX6_readWish 23 = .ok (.iload_n 2, 1) := by decide +kernel
theorem dX6_readWish_24 : decode cX6_readWish 24 = .ok (.aload_n 0, 1) := by decide +kernel
theorem dX6_readWish_25 : decode cX6_readWish 25 = .ok (.aload_n 1, 1) := by decide +kernel
theorem dX6_readWish_26 : decode cX6_readWish 26 = .ok (.iload_n 2, 1) := by decide +kernel
theorem dX6_readWish_27 : decode cX6_readWish 27 = .ok (.invokevirtual 88, 3) := by decide +kernel
theorem dX6_readWish_30 : decode cX6_readWish 30 = .ok (.ior, 1) := by decide +kernel
theorem dX6_readWish_31 : decode cX6_readWish 31 = .ok (.istore_n 2, 1) := by decide +kernel
theorem dX6_readWish_32 : decode cX6_readWish 32 = .ok (.iinc 3 1, 3) := by decide +kernel
theorem dX6_readWish_35 : decode cX6_readWish 35 = .ok (.goto (-27), 3) := by decide +kernel
theorem dX6_readWish_38 : decode cX6_readWish 38 = .ok (.aload_n 0, 1) := by decide +kernel
theorem dX6_readWish_39 : decode cX6_readWish 39 = .ok (.getfield 15, 3) := by decide +kernel
theorem dX6_readWish_42 : decode cX6_readWish 42 = .ok (.bipush 101, 2) := by decide +kernel
theorem dX6_readWish_44 : decode cX6_readWish 44 = .ok (.invokevirtual 37, 3) := by decide +kernel
theorem dX6_readWish_47 : decode cX6_readWish 47 = .ok (.ifCond .ne 9, 3) := by decide +kernel
theorem dX6_readWish_50 : decode cX6_readWish 50 = .ok (.aload_n 0, 1) := by decide +kernel
theorem dX6_readWish_51 : decode cX6_readWish 51 = .ok (.iconst 1, 1) := by decide +kernel
theorem dX6_readWish_52 : decode cX6_readWish 52 = .ok (.invokevirtual 74, 3) := by decide +kernel
theorem dX6_readWish_55 : decode cX6_readWish 55 = .ok (.pop, 1) := by decide +kernel
theorem dX6_readWish_56 : decode cX6_readWish 56 = .ok (.aload_n 0, 1) := by decide +kernel
theorem dX6_readWish_57 : decode cX6_readWish 57 = .ok (.invokevirtual 78, 3) := by decide +kernel
theorem dX6_readWish_60 : decode cX6_readWish 60 = .ok (.ireturn, 1) := by decide +kernel
theorem dX6_begin_0 : decode cX6_begin 0 = .ok (.aload_n 0, 1) := by decide +kernel
theorem dX6_begin_1 : decode cX6_begin 1 = .ok (.iconst 0, 1) := by decide +kernel
theorem dX6_begin_2 : decode cX6_begin 2 = .ok (.putfield 34, 3) := by decide +kernel
theorem dX6_begin_5 : decode cX6_begin 5 = .ok (.aload_n 0, 1) := by decide +kernel
theorem dX6_begin_6 : decode cX6_begin 6 = .ok (.iconst 0, 1) := by decide +kernel
theorem dX6_begin_7 : decode cX6_begin 7 = .ok (.putfield 19, 3) := by decide +kernel
theorem dX6_begin_10 : decode cX6_begin 10 = .ok (.aload_n 0, 1) := by decide +kernel
theorem dX6_begin_11 : decode cX6_begin 11 = .ok (.iconst 0, 1) := by decide +kernel
theorem dX6_begin_12 : decode cX6_begin 12 = .ok (.putfield 23, 3) := by decide +kernel
theorem dX6_begin_15 : decode cX6_begin 15 = .ok (.aload_n 0, 1) := by decide +kernel
theorem dX6_begin_16 : decode cX6_begin 16 = .ok (.getfield 15, 3) := by decide +kernel
theorem dX6_begin_19 : decode cX6_begin 19 = .ok (.invokevirtual 92, 3) := by decide +kernel
theorem dX6_begin_22 : decode cX6_begin 22 = .ok (.return_, 1) := by decide +kernel
theorem dX6_finish_0 : decode cX6_finish 0 = .ok (.aload_n 0, 1) := by decide +kernel
theorem dX6_finish_1 : decode cX6_finish 1 = .ok (.getfield 15, 3) := by decide +kernel
theorem dX6_finish_4 : decode cX6_finish 4 = .ok (.invokevirtual 95, 3) := by decide +kernel
theorem dX6_finish_7 : decode cX6_finish 7 = .ok (.aload_n 0, 1) := by decide +kernel
theorem dX6_finish_8 : decode cX6_finish 8 = .ok (.getfield 34, 3) := by decide +kernel
theorem dX6_finish_11 : decode cX6_finish 11 = .ok (.ireturn, 1) := by decide +kernel
theorem dX6_wrong_0 : decode cX6_wrong 0 = .ok (.aload_n 0, 1) := by decide +kernel
theorem dX6_wrong_1 : decode cX6_wrong 1 = .ok (.getfield 34, 3) := by decide +kernel
theorem dX6_wrong_4 : decode cX6_wrong 4 = .ok (.ifCond .ne 19, 3) := by decide +kernel
theorem dX6_wrong_7 : decode cX6_wrong 7 = .ok (.aload_n 0, 1) := by decide +kernel
theorem dX6_wrong_8 : decode cX6_wrong 8 = .ok (.iload_n 1, 1) := by decide +kernel
theorem dX6_wrong_9 : decode cX6_wrong 9 = .ok (.bipush 16, 2) := by decide +kernel
theorem dX6_wrong_11 : decode cX6_wrong 11 = .ok (.aload_n 0, 1) := by decide +kernel
theorem dX6_wrong_12 : decode cX6_wrong 12 = .ok (.getfield 15, 3) := by decide +kernel
theorem dX6_wrong_15 : decode cX6_wrong 15 = .ok (.invokevirtual 96, 3) := by decide +kernel
theorem dX6_wrong_18 : decode cX6_wrong 18 = .ok (.imul, 1) := by decide +kernel
theorem dX6_wrong_19 : decode cX6_wrong 19 = .ok (.iadd, 1) := by decide +kernel
theorem dX6_wrong_20 : decode cX6_wrong 20 = .ok (.putfield 34, 3) := by decide +kernel
theorem dX6_wrong_23 : decode cX6_wrong 23 = .ok (.iconst 0, 1) := by decide +kernel
theorem dX6_wrong_24 : decode cX6_wrong 24 = .ok (.ireturn, 1) := by decide +kernel
theorem dX6_skipSign_0 : decode cX6_skipSign 0 = .ok (.aload_n 0, 1) := by decide +kernel
theorem dX6_skipSign_1 : decode cX6_skipSign 1 = .ok (.getfield 15, 3) := by decide +kernel
theorem dX6_skipSign_4 : decode cX6_skipSign 4 = .ok (.iload_n 1, 1) := by decide +kernel
theorem dX6_skipSign_5 : decode cX6_skipSign 5 = .ok (.invokevirtual 37, 3) := by decide +kernel
theorem dX6_skipSign_8 : decode cX6_skipSign 8 = .ok (.ifCond .ne 9, 3) := by decide +kernel
theorem dX6_skipSign_11 : decode cX6_skipSign 11 = .ok (.aload_n 0, 1) := by decide +kernel
theorem dX6_skipSign_12 : decode cX6_skipSign 12 = .ok (.iconst 1, 1) := by decide +kernel
theorem dX6_skipSign_13 : decode cX6_skipSign 13 = .ok (.invokevirtual 74, 3) := by decide +kernel
theorem dX6_skipSign_16 : decode cX6_skipSign 16 = .ok (.ireturn, 1) := by decide +kernel
theorem dX6_skipSign_17 : decode cX6_skipSign 17 = .ok (.aload_n 0, 1) := by decide +kernel
theorem dX6_skipSign_18 : decode cX6_skipSign 18 = .ok (.getfield 15, 3) := by decide +kernel
theorem dX6_skipSign_21 : decode cX6_skipSign 21 = .ok (.invokevirtual 99, 3) := by decide +kernel
theorem dX6_skipSign_24 : decode cX6_skipSign 24 = .ok (.iconst 1, 1) := by decide +kernel
theorem dX6_skipSign_25 : decode cX6_skipSign 25 = .ok (.ireturn, 1) := by decide +kernel
theorem dX6_keep_0 : decode cX6_keep 0 = .ok (.aload_n 0, 1) := by decide +kernel
theorem dX6_keep_1 : decode cX6_keep 1 = .ok (.getfield 9, 3) := by decide +kernel
theorem dX6_keep_4 : decode cX6_keep 4 = .ok (.aload_n 0, 1) := by decide +kernel
theorem dX6_keep_5 : decode cX6_keep 5 = .ok (.getfield 19, 3) := by decide +kernel
theorem dX6_keep_8 : decode cX6_keep 8 = .ok (.iload_n 1, 1) := by decide +kernel
theorem dX6_keep_9 : decode cX6_keep 9 = .ok (.invokestatic 102, 3) := by decide +kernel
theorem dX6_keep_12 : decode cX6_keep 12 = .ok (.aload_n 0, 1) := by decide +kernel
theorem dX6_keep_13 : decode cX6_keep 13 = .ok (.dup, 1) := by decide +kernel
theorem dX6_keep_14 : decode cX6_keep 14 = .ok (.getfield 19, 3) := by decide +kernel
theorem dX6_keep_17 : decode cX6_keep 17 = .ok (.iconst 1, 1) := by decide +kernel
theorem dX6_keep_18 : decode cX6_keep 18 = .ok (.iadd, 1) := by decide +kernel
theorem dX6_keep_19 : decode cX6_keep 19 = .ok (.putfield 19, 3) := by decide +kernel
theorem dX6_keep_22 : decode cX6_keep 22 = .ok (.return_, 1) := by decide +kernel
theorem dX6_readCake_0 : decode cX6_readCake 0 = .ok (.aload_n 1, 1) := by decide +kernel
theorem dX6_readCake_1 : decode cX6_readCake 1 = .ok (.invokevirtual 85, 3) := by decide +kernel
theorem dX6_readCake_4 : decode cX6_readCake 4 = .ok (.iconst 5, 1) := by decide +kernel
theorem dX6_readCake_5 : decode cX6_readCake 5 = .ok (.if_icmp .lt 9, 3) := by decide +kernel
theorem dX6_readCake_8 : decode cX6_readCake 8 = .ok (.aload_n 0, 1) := by decide +kernel
theorem dX6_readCake_9 : decode cX6_readCake 9 = .ok (.iconst 5, 1) := by decide +kernel
theorem dX6_readCake_10 : decode cX6_readCake 10 = .ok (.invokevirtual 74, 3) := by decide +kernel
theorem dX6_readCake_13 : decode cX6_readCake 13 = .ok (.ireturn, 1) := by decide +kernel
theorem dX6_readCake_14 : decode cX6_readCake 14 = .ok (.aload_n 0, 1) := by decide +kernel
theorem dX6_readCake_15 : decode cX6_readCake 15 = .ok (.getfield 15, 3) := by decide +kernel
theorem dX6_readCake_18 : decode cX6_readCake 18 = .ok (.invokevirtual 99, 3) := by decide +kernel
theorem dX6_readCake_21 : decode cX6_readCake 21 = .ok (.aload_n 0, 1) := by decide +kernel
theorem dX6_readCake_22 : decode cX6_readCake 22 = .ok (.getfield 15, 3) := by decide +kernel
theorem dX6_readCake_25 : decode cX6_readCake 25 = .ok (.invokevirtual 106, 3) := by decide +kernel
theorem dX6_readCake_28 : decode cX6_readCake 28 = .ok (.ifCond .ne 9, 3) := by decide +kernel
theorem dX6_readCake_31 : decode cX6_readCake 31 = .ok (.aload_n 0, 1) := by decide +kernel
theorem dX6_readCake_32 : decode cX6_readCake 32 = .ok (.iconst 1, 1) := by decide +kernel
theorem dX6_readCake_33 : decode cX6_readCake 33 = .ok (.invokevirtual 74, 3) := by decide +kernel
theorem dX6_readCake_36 : decode cX6_readCake 36 = .ok (.ireturn, 1) := by decide +kernel
theorem dX6_readCake_37 : decode cX6_readCake 37 = .ok (.aload_n 1, 1) := by decide +kernel
theorem dX6_readCake_38 : decode cX6_readCake 38 = .ok (.aload_n 0, 1) := by decide +kernel
theorem dX6_readCake_39 : decode cX6_readCake 39 = .ok (.getfield 15, 3) := by decide +kernel
theorem dX6_readCake_42 : decode cX6_readCake 42 = .ok (.invokevirtual 110, 3) := by decide +kernel
theorem dX6_readCake_45 : decode cX6_readCake 45 = .ok (.invokevirtual 114, 3) := by decide +kernel
theorem dX6_readCake_48 : decode cX6_readCake 48 = .ok (.iconst (-1), 1) := by decide +kernel
theorem dX6_readCake_49 : decode cX6_readCake 49 = .ok (.if_icmp .eq 9, 3) := by decide +kernel
theorem dX6_readCake_52 : decode cX6_readCake 52 = .ok (.aload_n 0, 1) := by decide +kernel
theorem dX6_readCake_53 : decode cX6_readCake 53 = .ok (.iconst 3, 1) := by decide +kernel
theorem dX6_readCake_54 : decode cX6_readCake 54 = .ok (.invokevirtual 74, 3) := by decide +kernel
theorem dX6_readCake_57 : decode cX6_readCake 57 = .ok (.ireturn, 1) := by decide +kernel
theorem dX6_readCake_58 : decode cX6_readCake 58 = .ok (.aload_n 0, 1) := by decide +kernel
theorem dX6_readCake_59 : decode cX6_readCake 59 = .ok (.getfield 15, 3) := by decide +kernel
theorem dX6_readCake_62 : decode cX6_readCake 62 = .ok (.invokevirtual 110, 3) := by decide +kernel
theorem dX6_readCake_65 : decode cX6_readCake 65 = .ok (.lstore_n 2, 1) := by decide +kernel
theorem dX6_readCake_66 : decode cX6_readCake 66 = .ok (.aload_n 0, 1) := by decide +kernel
theorem dX6_readCake_67 : decode cX6_readCake 67 = .ok (.getfield 15, 3) := by decide +kernel
theorem dX6_readCake_70 : decode cX6_readCake 70 = .ok (.invokevirtual 99, 3) := by decide +kernel
theorem dX6_readCake_73 : decode cX6_readCake 73 = .ok (.aload_n 0, 1) := by decide +kernel
theorem dX6_readCake_74 : decode cX6_readCake 74 = .ok (.getfield 15, 3) := by decide +kernel
theorem dX6_readCake_77 : decode cX6_readCake 77 = .ok (.invokevirtual 118, 3) := by decide +kernel
theorem dX6_readCake_80 : decode cX6_readCake 80 = .ok (.invokevirtual 122, 3) := by decide +kernel
theorem dX6_readCake_83 : decode cX6_readCake 83 = .ok (.ifCond .ne 9, 3) := by decide +kernel
theorem dX6_readCake_86 : decode cX6_readCake 86 = .ok (.aload_n 0, 1) := by decide +kernel
theorem dX6_readCake_87 : decode cX6_readCake 87 = .ok (.iconst 1, 1) := by decide +kernel
theorem dX6_readCake_88 : decode cX6_readCake 88 = .ok (.invokevirtual 74, 3) := by decide +kernel
theorem dX6_readCake_91 : decode cX6_readCake 91 = .ok (.ireturn, 1) := by decide +kernel
theorem dX6_readCake_92 : decode cX6_readCake 92 = .ok (.aload_n 0, 1) := by decide +kernel
theorem dX6_readCake_93 : decode cX6_readCake 93 = .ok (.getfield 15, 3) := by decide +kernel
theorem dX6_readCake_96 : decode cX6_readCake 96 = .ok (.invokevirtual 118, 3) := by decide +kernel
theorem dX6_readCake_99 : decode cX6_readCake 99 = .ok (.invokevirtual 125, 3) := by decide +kernel
theorem dX6_readCake_102 : decode cX6_readCake 102 = .ok (.istore 4, 2) := by decide +kernel
theorem dX6_readCake_104 : decode cX6_readCake 104 = .ok (.aload_n 0, 1) := by decide +kernel
theorem dX6_readCake_105 : decode cX6_readCake 105 = .ok (.getfield 15, 3) := by decide +kernel
theorem dX6_readCake_108 : decode cX6_readCake 108 = .ok (.invokevirtual 99, 3) := by decide +kernel
theorem dX6_readCake_111 : decode cX6_readCake 111 = .ok (.aload_n 0, 1) := by decide +kernel
theorem dX6_readCake_112 : decode cX6_readCake 112 = .ok (.aload_n 1, 1) := by decide +kernel
theorem dX6_readCake_113 : decode cX6_readCake 113 = .ok (.invokevirtual 128, 3) := by decide +kernel
theorem dX6_readCake_116 : decode cX6_readCake 116 = .ok (.ifCond .ne 5, 3) := by decide +kernel
theorem dX6_readCake_119 : decode cX6_readCake 119 = .ok (.iconst 0, 1) := by decide +kernel
theorem dX6_readCake_120 : decode cX6_readCake 120 = .ok (.ireturn, 1) := by decide +kernel
theorem dX6_readCake_121 : decode cX6_readCake 121 = .ok (.aload_n 0, 1) := by decide +kernel
theorem dX6_readCake_122 : decode cX6_readCake 122 = .ok (.getfield 15, 3) := by decide +kernel
theorem dX6_readCake_125 : decode cX6_readCake 125 = .ok (.invokevirtual 131, 3) := by decide +kernel
theorem dX6_readCake_128 : decode cX6_readCake 128 = .ok (.istore 5, 2) := by decide +kernel
theorem dX6_readCake_130 : decode cX6_readCake 130 = .ok (.aload_n 0, 1) := by decide +kernel
theorem dX6_readCake_131 : decode cX6_readCake 131 = .ok (.getfield 15, 3) := by decide +kernel
theorem dX6_readCake_134 : decode cX6_readCake 134 = .ok (.invokevirtual 99, 3) := by decide +kernel
theorem dX6_readCake_137 : decode cX6_readCake 137 = .ok (.aload_n 0, 1) := by decide +kernel
theorem dX6_readCake_138 : decode cX6_readCake 138 = .ok (.getfield 15, 3) := by decide +kernel
theorem dX6_readCake_141 : decode cX6_readCake 141 = .ok (.invokevirtual 118, 3) := by decide +kernel
theorem dX6_readCake_144 : decode cX6_readCake 144 = .ok (.invokevirtual 134, 3) := by decide +kernel
theorem dX6_readCake_147 : decode cX6_readCake 147 = .ok (.ifCond .ne 9, 3) := by decide +kernel
theorem dX6_readCake_150 : decode cX6_readCake 150 = .ok (.aload_n 0, 1) := by decide +kernel
theorem dX6_readCake_151 : decode cX6_readCake 151 = .ok (.iconst 1, 1) := by decide +kernel
theorem dX6_readCake_152 : decode cX6_readCake 152 = .ok (.invokevirtual 74, 3) := by decide +kernel
theorem dX6_readCake_155 : decode cX6_readCake 155 = .ok (.ireturn, 1) := by decide +kernel
theorem dX6_readCake_156 : decode cX6_readCake 156 = .ok (.aload_n 1, 1) := by decide +kernel
theorem dX6_readCake_157 : decode cX6_readCake 157 = .ok (.lload_n 2, 1) := by decide +kernel
theorem dX6_readCake_158 : decode cX6_readCake 158 = .ok (.iload 4, 2) := by decide +kernel
theorem dX6_readCake_160 : decode cX6_readCake 160 = .ok (.iload 5, 2) := by decide +kernel
theorem dX6_readCake_162 : decode cX6_readCake 162 = .ok (.aload_n 0, 1) := by decide +kernel
theorem dX6_readCake_163 : decode cX6_readCake 163 = .ok (.getfield 15, 3) := by decide +kernel
theorem dX6_readCake_166 : decode cX6_readCake 166 = .ok (.invokevirtual 118, 3) := by decide +kernel
theorem dX6_readCake_169 : decode cX6_readCake 169 = .ok (.getstatic 137, 3) := by decide +kernel
theorem dX6_readCake_172 : decode cX6_readCake 172 = .ok (.if_acmp .ne 7, 3) := by decide +kernel
theorem dX6_readCake_175 : decode cX6_readCake 175 = .ok (.iconst 1, 1) := by decide +kernel
theorem dX6_readCake_176 : decode cX6_readCake 176 = .ok (.goto 4, 3) := by decide +kernel
theorem dX6_readCake_179 : decode cX6_readCake 179 = .ok (.iconst 0, 1) := by decide +kernel
theorem dX6_readCake_180 : decode cX6_readCake 180 = .ok (.invokevirtual 140, 3) := by decide +kernel
theorem dX6_readCake_183 : decode cX6_readCake 183 = .ok (.aload_n 0, 1) := by decide +kernel
theorem dX6_readCake_184 : decode cX6_readCake 184 = .ok (.getfield 15, 3) := by decide +kernel
theorem dX6_readCake_187 : decode cX6_readCake 187 = .ok (.invokevirtual 99, 3) := by decide +kernel
theorem dX6_readCake_190 : decode cX6_readCake 190 = .ok (.aload_n 0, 1) := by decide +kernel
theorem dX6_readCake_191 : decode cX6_readCake 191 = .ok (.bipush 59, 2) := by decide +kernel
theorem dX6_readCake_193 : decode cX6_readCake 193 = .ok (.invokevirtual 144, 3) := by decide +kernel
theorem dX6_readCake_196 : decode cX6_readCake 196 = .ok (.ireturn, 1) := by decide +kernel
theorem dX6_readWidth_0 : decode cX6_readWidth 0 = .ok (.aload_n 0, 1) := by decide +kernel
theorem dX6_readWidth_1 : decode cX6_readWidth 1 = .ok (.getfield 15, 3) := by decide +kernel
theorem dX6_readWidth_4 : decode cX6_readWidth 4 = .ok (.getstatic 147, 3) := by decide +kernel
theorem dX6_readWidth_7 : decode cX6_readWidth 7 = .ok (.invokevirtual 49, 3) := by decide +kernel
theorem dX6_readWidth_10 : decode cX6_readWidth 10 = .ok (.ifCond .ne 9, 3) := by decide +kernel
theorem dX6_readWidth_13 : decode cX6_readWidth 13 = .ok (.aload_n 0, 1) := by decide +kernel
theorem dX6_readWidth_14 : decode cX6_readWidth 14 = .ok (.iconst 1, 1) := by decide +kernel
theorem dX6_readWidth_15 : decode cX6_readWidth 15 = .ok (.invokevirtual 74, 3) := by decide +kernel
theorem dX6_readWidth_18 : decode cX6_readWidth 18 = .ok (.ireturn, 1) := by decide +kernel
theorem dX6_readWidth_19 : decode cX6_readWidth 19 = .ok (.aload_n 0, 1) := by decide +kernel
theorem dX6_readWidth_20 : decode cX6_readWidth 20 = .ok (.getfield 15, 3) := by decide +kernel
theorem dX6_readWidth_23 : decode cX6_readWidth 23 = .ok (.invokevirtual 99, 3) := by decide +kernel
theorem dX6_readWidth_26 : decode cX6_readWidth 26 = .ok (.aload_n 0, 1) := by decide +kernel
theorem dX6_readWidth_27 : decode cX6_readWidth 27 = .ok (.getfield 15, 3) := by decide +kernel
theorem dX6_readWidth_30 : decode cX6_readWidth 30 = .ok (.bipush 110, 2) := by decide +kernel
theorem dX6_readWidth_32 : decode cX6_readWidth 32 = .ok (.invokevirtual 37, 3) := by decide +kernel
theorem dX6_readWidth_35 : decode cX6_readWidth 35 = .ok (.ifCond .ne 9, 3) := by decide +kernel
theorem dX6_readWidth_38 : decode cX6_readWidth 38 = .ok (.aload_n 0, 1) := by decide +kernel
theorem dX6_readWidth_39 : decode cX6_readWidth 39 = .ok (.iconst 1, 1) := by decide +kernel
theorem dX6_readWidth_40 : decode cX6_readWidth 40 = .ok (.invokevirtual 74, 3) := by decide +kernel
theorem dX6_readWidth_43 : decode cX6_readWidth 43 = .ok (.ireturn, 1) := by decide +kernel
theorem dX6_readWidth_44 : decode cX6_readWidth 44 = .ok (.aload_n 0, 1) := by decide +kernel
theorem dX6_readWidth_45 : decode cX6_readWidth 45 = .ok (.getfield 15, 3) := by decide +kernel
theorem dX6_readWidth_48 : decode cX6_readWidth 48 = .ok (.invokevirtual 131, 3) := by decide +kernel
theorem dX6_readWidth_51 : decode cX6_readWidth 51 = .ok (.iconst 1, 1) := by decide +kernel
theorem dX6_readWidth_52 : decode cX6_readWidth 52 = .ok (.if_icmp .lt 15, 3) := by decide +kernel
theorem dX6_readWidth_55 : decode cX6_readWidth 55 = .ok (.aload_n 0, 1) := by decide +kernel
theorem dX6_readWidth_56 : decode cX6_readWidth 56 = .ok (.getfield 15, 3) := by decide +kernel
theorem dX6_readWidth_59 : decode cX6_readWidth 59 = .ok (.invokevirtual 131, 3) := by decide +kernel
theorem dX6_readWidth_62 : decode cX6_readWidth 62 = .ok (.bipush 30, 2) := by decide +kernel
theorem dX6_readWidth_64 : decode cX6_readWidth 64 = .ok (.if_icmp .le 9, 3) := by decide +kernel
theorem dX6_readWidth_67 : decode cX6_readWidth 67 = .ok (.aload_n 0, 1) := by decide +kernel
theorem dX6_readWidth_68 : decode cX6_readWidth 68 = .ok (.iconst 4, 1) := by decide +kernel
theorem dX6_readWidth_69 : decode cX6_readWidth 69 = .ok (.invokevirtual 74, 3) := by decide +kernel
theorem dX6_readWidth_72 : decode cX6_readWidth 72 = .ok (.ireturn, 1) := by decide +kernel
theorem dX6_readWidth_73 : decode cX6_readWidth 73 = .ok (.aload_n 1, 1) := by decide +kernel
theorem dX6_readWidth_74 : decode cX6_readWidth 74 = .ok (.aload_n 0, 1) := by decide +kernel
theorem dX6_readWidth_75 : decode cX6_readWidth 75 = .ok (.getfield 15, 3) := by decide +kernel
theorem dX6_readWidth_78 : decode cX6_readWidth 78 = .ok (.invokevirtual 131, 3) := by decide +kernel
theorem dX6_readWidth_81 : decode cX6_readWidth 81 = .ok (.invokevirtual 150, 3) := by decide +kernel
theorem dX6_readWidth_84 : decode cX6_readWidth 84 = .ok (.ifCond .eq 11, 3) := by decide +kernel
theorem dX6_readWidth_87 : decode cX6_readWidth 87 = .ok (.aload_n 0, 1) := by decide +kernel
theorem dX6_readWidth_88 : decode cX6_readWidth 88 = .ok (.iconst 3, 1) := by decide +kernel
theorem dX6_readWidth_89 : decode cX6_readWidth 89 = .ok (.invokevirtual 74, 3) := by decide +kernel
theorem dX6_readWidth_92 : decode cX6_readWidth 92 = .ok (.ifCond .eq 7, 3) := by decide +kernel
theorem dX6_readWidth_95 : decode cX6_readWidth 95 = .ok (.iconst 1, 1) := by decide +kernel
theorem dX6_readWidth_96 : decode cX6_readWidth 96 = .ok (.goto 4, 3) := by decide +kernel
theorem dX6_readWidth_99 : decode cX6_readWidth 99 = .ok (.iconst 0, 1) := by decide +kernel
theorem dX6_readWidth_100 : decode cX6_readWidth 100 = .ok (.ireturn, 1) := by decide +kernel
theorem dX6_readTurn_0 : decode cX6_readTurn 0 = .ok (.aload_n 0, 1) := by decide +kernel
theorem dX6_readTurn_1 : decode cX6_readTurn 1 = .ok (.getfield 15, 3) := by decide +kernel
theorem dX6_readTurn_4 : decode cX6_readTurn 4 = .ok (.getstatic 153, 3) := by decide +kernel
theorem dX6_readTurn_7 : decode cX6_readTurn 7 = .ok (.invokevirtual 49, 3) := by decide +kernel
theorem dX6_readTurn_10 : decode cX6_readTurn 10 = .ok (.ifCond .ne 9, 3) := by decide +kernel
theorem dX6_readTurn_13 : decode cX6_readTurn 13 = .ok (.aload_n 0, 1) := by decide +kernel
theorem dX6_readTurn_14 : decode cX6_readTurn 14 = .ok (.iconst 1, 1) := by decide +kernel
theorem dX6_readTurn_15 : decode cX6_readTurn 15 = .ok (.invokevirtual 74, 3) := by decide +kernel
theorem dX6_readTurn_18 : decode cX6_readTurn 18 = .ok (.ireturn, 1) := by decide +kernel
theorem dX6_readTurn_19 : decode cX6_readTurn 19 = .ok (.aload_n 0, 1) := by decide +kernel
theorem dX6_readTurn_20 : decode cX6_readTurn 20 = .ok (.getfield 19, 3) := by decide +kernel
theorem dX6_readTurn_23 : decode cX6_readTurn 23 = .ok (.bipush 40, 2) := by decide +kernel
theorem dX6_readTurn_25 : decode cX6_readTurn 25 = .ok (.if_icmp .lt 9, 3) := by decide +kernel
theorem dX6_readTurn_28 : decode cX6_readTurn 28 = .ok (.aload_n 0, 1) := by decide +kernel
theorem dX6_readTurn_29 : decode cX6_readTurn 29 = .ok (.iconst 5, 1) := by decide +kernel
theorem dX6_readTurn_30 : decode cX6_readTurn 30 = .ok (.invokevirtual 74, 3) := by decide +kernel
theorem dX6_readTurn_33 : decode cX6_readTurn 33 = .ok (.ireturn, 1) := by decide +kernel
theorem dX6_readTurn_34 : decode cX6_readTurn 34 = .ok (.aload_n 0, 1) := by decide +kernel
theorem dX6_readTurn_35 : decode cX6_readTurn 35 = .ok (.getfield 15, 3) := by decide +kernel
theorem dX6_readTurn_38 : decode cX6_readTurn 38 = .ok (.invokevirtual 99, 3) := by decide +kernel
theorem dX6_readTurn_41 : decode cX6_readTurn 41 = .ok (.aload_n 0, 1) := by decide +kernel
theorem dX6_readTurn_42 : decode cX6_readTurn 42 = .ok (.getfield 15, 3) := by decide +kernel
theorem dX6_readTurn_45 : decode cX6_readTurn 45 = .ok (.bipush 110, 2) := by decide +kernel
theorem dX6_readTurn_47 : decode cX6_readTurn 47 = .ok (.invokevirtual 37, 3) := by decide +kernel
theorem dX6_readTurn_50 : decode cX6_readTurn 50 = .ok (.ifCond .ne 9, 3) := by decide +kernel
theorem dX6_readTurn_53 : decode cX6_readTurn 53 = .ok (.aload_n 0, 1) := by decide +kernel
theorem dX6_readTurn_54 : decode cX6_readTurn 54 = .ok (.iconst 1, 1) := by decide +kernel
theorem dX6_readTurn_55 : decode cX6_readTurn 55 = .ok (.invokevirtual 74, 3) := by decide +kernel
theorem dX6_readTurn_58 : decode cX6_readTurn 58 = .ok (.ireturn, 1) := by decide +kernel
theorem dX6_readTurn_59 : decode cX6_readTurn 59 = .ok (.aload_n 0, 1) := by decide +kernel
theorem dX6_readTurn_60 : decode cX6_readTurn 60 = .ok (.getfield 15, 3) := by decide +kernel
theorem dX6_readTurn_63 : decode cX6_readTurn 63 = .ok (.invokevirtual 131, 3) := by decide +kernel
theorem dX6_readTurn_66 : decode cX6_readTurn 66 = .ok (.iconst 1, 1) := by decide +kernel
theorem dX6_readTurn_67 : decode cX6_readTurn 67 = .ok (.if_icmp .lt 14, 3) := by decide +kernel
theorem dX6_readTurn_70 : decode cX6_readTurn 70 = .ok (.aload_n 0, 1) := by decide +kernel
theorem dX6_readTurn_71 : decode cX6_readTurn 71 = .ok (.getfield 15, 3) := by decide +kernel
theorem dX6_readTurn_74 : decode cX6_readTurn 74 = .ok (.invokevirtual 131, 3) := by decide +kernel
theorem dX6_readTurn_77 : decode cX6_readTurn 77 = .ok (.iload_n 1, 1) := by decide +kernel
theorem dX6_readTurn_78 : decode cX6_readTurn 78 = .ok (.if_icmp .le 9, 3) := by decide +kernel
theorem dX6_readTurn_81 : decode cX6_readTurn 81 = .ok (.aload_n 0, 1) := by decide +kernel
theorem dX6_readTurn_82 : decode cX6_readTurn 82 = .ok (.iconst 4, 1) := by decide +kernel
theorem dX6_readTurn_83 : decode cX6_readTurn 83 = .ok (.invokevirtual 74, 3) := by decide +kernel
theorem dX6_readTurn_86 : decode cX6_readTurn 86 = .ok (.ireturn, 1) := by decide +kernel
theorem dX6_readTurn_87 : decode cX6_readTurn 87 = .ok (.aload_n 0, 1) := by decide +kernel
theorem dX6_readTurn_88 : decode cX6_readTurn 88 = .ok (.aload_n 0, 1) := by decide +kernel
theorem dX6_readTurn_89 : decode cX6_readTurn 89 = .ok (.getfield 15, 3) := by decide +kernel
theorem dX6_readTurn_92 : decode cX6_readTurn 92 = .ok (.invokevirtual 131, 3) := by decide +kernel
theorem dX6_readTurn_95 : decode cX6_readTurn 95 = .ok (.invokevirtual 156, 3) := by decide +kernel
theorem dX6_readTurn_98 : decode cX6_readTurn 98 = .ok (.aload_n 0, 1) := by decide +kernel
theorem dX6_readTurn_99 : decode cX6_readTurn 99 = .ok (.getfield 15, 3) := by decide +kernel
theorem dX6_readTurn_102 : decode cX6_readTurn 102 = .ok (.invokevirtual 99, 3) := by decide +kernel
theorem dX6_readTurn_105 : decode cX6_readTurn 105 = .ok (.aload_n 0, 1) := by decide +kernel
theorem dX6_readTurn_106 : decode cX6_readTurn 106 = .ok (.bipush 59, 2) := by decide +kernel
theorem dX6_readTurn_108 : decode cX6_readTurn 108 = .ok (.invokevirtual 144, 3) := by decide +kernel
theorem dX6_readTurn_111 : decode cX6_readTurn 111 = .ok (.ireturn, 1) := by decide +kernel
theorem dX6_readWished_0 : decode cX6_readWished 0 = .ok (.aload_n 0, 1) := by decide +kernel
theorem dX6_readWished_1 : decode cX6_readWished 1 = .ok (.getfield 15, 3) := by decide +kernel
theorem dX6_readWished_4 : decode cX6_readWished 4 = .ok (.invokevirtual 106, 3) := by decide +kernel
theorem dX6_readWished_7 : decode cX6_readWished 7 = .ok (.ifCond .ne 11, 3) := by decide +kernel
theorem dX6_readWished_10 : decode cX6_readWished 10 = .ok (.aload_n 0, 1) := by decide +kernel
theorem dX6_readWished_11 : decode cX6_readWished 11 = .ok (.iconst 1, 1) := by decide +kernel
theorem dX6_readWished_12 : decode cX6_readWished 12 = .ok (.invokevirtual 74, 3) := by decide +kernel
theorem dX6_readWished_15 : decode cX6_readWished 15 = .ok (.pop, 1) := by decide +kernel
theorem dX6_readWished_16 : decode cX6_readWished 16 = .ok (.iconst 0, 1) := by decide +kernel
theorem dX6_readWished_17 : decode cX6_readWished 17 = .ok (.ireturn, 1) := by decide +kernel
theorem dX6_readWished_18 : decode cX6_readWished 18 = .ok (.aload_n 1, 1) := by decide +kernel
theorem dX6_readWished_19 : decode cX6_readWished 19 = .ok (.aload_n 0, 1) := by decide +kernel
theorem dX6_readWished_20 : decode cX6_readWished 20 = .ok (.getfield 15, 3) := by decide +kernel
theorem dX6_readWished_23 : decode cX6_readWished 23 = .ok (.invokevirtual 110, 3) := by decide +kernel
theorem dX6_readWished_26 : decode cX6_readWished 26 = .ok (.invokevirtual 114, 3) := by decide +kernel
theorem dX6_readWished_29 : decode cX6_readWished 29 = .ok (.istore_n 3, 1) := by decide +kernel
theorem dX6_readWished_30 : decode cX6_readWished 30 = .ok (.iload_n 3, 1) := by decide +kernel
theorem dX6_readWished_31 : decode cX6_readWished 31 = .ok (.iconst (-1), 1) := by decide +kernel
theorem dX6_readWished_32 : decode cX6_readWished 32 = .ok (.if_icmp .ne 11, 3) := by decide +kernel
theorem dX6_readWished_35 : decode cX6_readWished 35 = .ok (.aload_n 0, 1) := by decide +kernel
theorem dX6_readWished_36 : decode cX6_readWished 36 = .ok (.iconst 2, 1) := by decide +kernel
theorem dX6_readWished_37 : decode cX6_readWished 37 = .ok (.invokevirtual 74, 3) := by decide +kernel
theorem dX6_readWished_40 : decode cX6_readWished 40 = .ok (.pop, 1) := by decide +kernel
theorem dX6_readWished_41 : decode cX6_readWished 41 = .ok (.iconst 0, 1) := by decide +kernel
theorem dX6_readWished_42 : decode cX6_readWished 42 = .ok (.ireturn, 1) := by decide +kernel
theorem dX6_readWished_43 : decode cX6_readWished 43 = .ok (.iload_n 2, 1) := by decide +kernel
theorem dX6_readWished_44 : decode cX6_readWished 44 = .ok (.iload_n 3, 1) := by decide +kernel
theorem dX6_readWished_45 : decode cX6_readWished 45 = .ok (.ishr, 1) := by decide +kernel
theorem dX6_readWished_46 : decode cX6_readWished 46 = .ok (.iconst 1, 1) := by decide +kernel
theorem dX6_readWished_47 : decode cX6_readWished 47 = .ok (.iand, 1) := by decide +kernel
theorem dX6_readWished_48 : decode cX6_readWished 48 = .ok (.iconst 1, 1) := by decide +kernel
theorem dX6_readWished_49 : decode cX6_readWished 49 = .ok (.if_icmp .ne 11, 3) := by decide +kernel
theorem dX6_readWished_52 : decode cX6_readWished 52 = .ok (.aload_n 0, 1) := by decide +kernel
theorem dX6_readWished_53 : decode cX6_readWished 53 = .ok (.iconst 3, 1) := by decide +kernel
theorem dX6_readWished_54 : decode cX6_readWished 54 = .ok (.invokevirtual 74, 3) := by decide +kernel
theorem dX6_readWished_57 : decode cX6_readWished 57 = .ok (.pop, 1) := by decide +kernel
theorem dX6_readWished_58 : decode cX6_readWished 58 = .ok (.iconst 0, 1) := by decide +kernel
theorem dX6_readWished_59 : decode cX6_readWished 59 = .ok (.ireturn, 1) := by decide +kernel
theorem dX6_readWished_60 : decode cX6_readWished 60 = .ok (.aload_n 0, 1) := by decide +kernel
theorem dX6_readWished_61 : decode cX6_readWished 61 = .ok (.getfield 15, 3) := by decide +kernel
theorem dX6_readWished_64 : decode cX6_readWished 64 = .ok (.invokevirtual 99, 3) := by decide +kernel
theorem dX6_readWished_67 : decode cX6_readWished 67 = .ok (.aload_n 0, 1) := by decide +kernel
theorem dX6_readWished_68 : decode cX6_readWished 68 = .ok (.getfield 15, 3) := by decide +kernel
theorem dX6_readWished_71 : decode cX6_readWished 71 = .ok (.invokevirtual 118, 3) := by decide +kernel
theorem dX6_readWished_74 : decode cX6_readWished 74 = .ok (.invokevirtual 134, 3) := by decide +kernel
theorem dX6_readWished_77 : decode cX6_readWished 77 = .ok (.ifCond .ne 11, 3) := by decide +kernel
theorem dX6_readWished_80 : decode cX6_readWished 80 = .ok (.aload_n 0, 1) := by decide +kernel
theorem dX6_readWished_81 : decode cX6_readWished 81 = .ok (.iconst 1, 1) := by decide +kernel
theorem dX6_readWished_82 : decode cX6_readWished 82 = .ok (.invokevirtual 74, 3) := by decide +kernel
theorem dX6_readWished_85 : decode cX6_readWished 85 = .ok (.pop, 1) := by decide +kernel
theorem dX6_readWished_86 : decode cX6_readWished 86 = .ok (.iconst 0, 1) := by decide +kernel
theorem dX6_readWished_87 : decode cX6_readWished 87 = .ok (.ireturn, 1) := by decide +kernel
theorem dX6_readWished_88 : decode cX6_readWished 88 = .ok (.aload_n 0, 1) := by decide +kernel
theorem dX6_readWished_89 : decode cX6_readWished 89 = .ok (.iload_n 3, 1) := by decide +kernel
theorem dX6_readWished_90 : decode cX6_readWished 90 = .ok (.invokevirtual 156, 3) := by decide +kernel
theorem dX6_readWished_93 : decode cX6_readWished 93 = .ok (.aload_n 0, 1) := by decide +kernel
theorem dX6_readWished_94 : decode cX6_readWished 94 = .ok (.dup, 1) := by decide +kernel
theorem dX6_readWished_95 : decode cX6_readWished 95 = .ok (.getfield 23, 3) := by decide +kernel
theorem dX6_readWished_98 : decode cX6_readWished 98 = .ok (.aload_n 0, 1) := by decide +kernel
theorem dX6_readWished_99 : decode cX6_readWished 99 = .ok (.getfield 15, 3) := by decide +kernel
theorem dX6_readWished_102 : decode cX6_readWished 102 = .ok (.invokevirtual 118, 3) := by decide +kernel
theorem dX6_readWished_105 : decode cX6_readWished 105 = .ok (.invokevirtual 125, 3) := by decide +kernel
theorem dX6_readWished_108 : decode cX6_readWished 108 = .ok (.iload_n 3, 1) := by decide +kernel
theorem dX6_readWished_109 : decode cX6_readWished 109 = .ok (.ishl, 1) := by decide +kernel
theorem dX6_readWished_110 : decode cX6_readWished 110 = .ok (.ior, 1) := by decide +kernel
theorem dX6_readWished_111 : decode cX6_readWished 111 = .ok (.putfield 23, 3) := by decide +kernel
theorem dX6_readWished_114 : decode cX6_readWished 114 = .ok (.aload_n 0, 1) := by decide +kernel
theorem dX6_readWished_115 : decode cX6_readWished 115 = .ok (.getfield 15, 3) := by decide +kernel
theorem dX6_readWished_118 : decode cX6_readWished 118 = .ok (.invokevirtual 99, 3) := by decide +kernel
theorem dX6_readWished_121 : decode cX6_readWished 121 = .ok (.iconst 1, 1) := by decide +kernel
theorem dX6_readWished_122 : decode cX6_readWished 122 = .ok (.iload_n 3, 1) := by decide +kernel
theorem dX6_readWished_123 : decode cX6_readWished 123 = .ok (.ishl, 1) := by decide +kernel
theorem dX6_readWished_124 : decode cX6_readWished 124 = .ok (.ireturn, 1) := by decide +kernel
theorem dX6_readLaw_0 : decode cX6_readLaw 0 = .ok (.aload_n 1, 1) := by decide +kernel
theorem dX6_readLaw_1 : decode cX6_readLaw 1 = .ok (.invokevirtual 160, 3) := by decide +kernel
theorem dX6_readLaw_4 : decode cX6_readLaw 4 = .ok (.ifCond .eq 9, 3) := by decide +kernel
theorem dX6_readLaw_7 : decode cX6_readLaw 7 = .ok (.aload_n 0, 1) := by decide +kernel
theorem dX6_readLaw_8 : decode cX6_readLaw 8 = .ok (.iconst 3, 1) := by decide +kernel
theorem dX6_readLaw_9 : decode cX6_readLaw 9 = .ok (.invokevirtual 74, 3) := by decide +kernel
theorem dX6_readLaw_12 : decode cX6_readLaw 12 = .ok (.ireturn, 1) := by decide +kernel
theorem dX6_readLaw_13 : decode cX6_readLaw 13 = .ok (.aload_n 1, 1) := by decide +kernel
theorem dX6_readLaw_14 : decode cX6_readLaw 14 = .ok (.invokevirtual 165, 3) := by decide +kernel
theorem dX6_readLaw_17 : decode cX6_readLaw 17 = .ok (.aload_n 0, 1) := by decide +kernel
theorem dX6_readLaw_18 : decode cX6_readLaw 18 = .ok (.getfield 15, 3) := by decide +kernel
theorem dX6_readLaw_21 : decode cX6_readLaw 21 = .ok (.invokevirtual 99, 3) := by decide +kernel
theorem dX6_readLaw_24 : decode cX6_readLaw 24 = .ok (.aload_n 0, 1) := by decide +kernel
theorem dX6_readLaw_25 : decode cX6_readLaw 25 = .ok (.aload_n 1, 1) := by decide +kernel
theorem dX6_readLaw_26 : decode cX6_readLaw 26 = .ok (.iconst 0, 1) := by decide +kernel
theorem dX6_readLaw_27 : decode cX6_readLaw 27 = .ok (.invokevirtual 168, 3) := by decide +kernel
theorem dX6_readLaw_30 : decode cX6_readLaw 30 = .ok (.ifCond .eq 16, 3) := by decide +kernel
theorem dX6_readLaw_33 : decode cX6_readLaw 33 = .ok (.aload_n 0, 1) := by decide +kernel
theorem dX6_readLaw_34 : decode cX6_readLaw 34 = .ok (.bipush 59, 2) := by decide +kernel
theorem dX6_readLaw_36 : decode cX6_readLaw 36 = .ok (.invokevirtual 144, 3) := by decide +kernel
theorem dX6_readLaw_39 : decode cX6_readLaw 39 = .ok (.ifCond .eq 7, 3) := by decide +kernel
theorem dX6_readLaw_42 : decode cX6_readLaw 42 = .ok (.iconst 1, 1) := by decide +kernel
theorem dX6_readLaw_43 : decode cX6_readLaw 43 = .ok (.goto 4, 3) := by decide +kernel
theorem dX6_readLaw_46 : decode cX6_readLaw 46 = .ok (.iconst 0, 1) := by decide +kernel
theorem dX6_readLaw_47 : decode cX6_readLaw 47 = .ok (.ireturn, 1) := by decide +kernel
theorem dX6_readWhole_0 : decode cX6_readWhole 0 = .ok (.aload_n 0, 1) := by decide +kernel
theorem dX6_readWhole_1 : decode cX6_readWhole 1 = .ok (.aload_n 1, 1) := by decide +kernel
theorem dX6_readWhole_2 : decode cX6_readWhole 2 = .ok (.iload_n 2, 1) := by decide +kernel
theorem dX6_readWhole_3 : decode cX6_readWhole 3 = .ok (.invokevirtual 172, 3) := by decide +kernel
theorem dX6_readWhole_6 : decode cX6_readWhole 6 = .ok (.ifCond .ne 5, 3) := by decide +kernel
theorem dX6_readWhole_9 : decode cX6_readWhole 9 = .ok (.iconst 0, 1) := by decide +kernel
theorem dX6_readWhole_10 : decode cX6_readWhole 10 = .ok (.ireturn, 1) := by decide +kernel
theorem dX6_readWhole_11 : decode cX6_readWhole 11 = .ok (.iconst 0, 1) := by decide +kernel
theorem dX6_readWhole_12 : decode cX6_readWhole 12 = .ok (.istore_n 3, 1) := by decide +kernel
theorem dX6_readWhole_13 : decode cX6_readWhole 13 = .ok (.iload_n 3, 1) := by decide +kernel
theorem dX6_readWhole_14 : decode cX6_readWhole 14 = .ok (.sipush 1000, 3) := by decide +kernel
theorem dX6_readWhole_17 : decode cX6_readWhole 17 = .ok (.if_icmp .ge 71, 3) := by decide +kernel
theorem dX6_readWhole_20 : decode cX6_readWhole 20 = .ok (.aload_n 0, 1) := by decide +kernel
theorem dX6_readWhole_21 : decode cX6_readWhole 21 = .ok (.getfield 15, 3) := by decide +kernel
theorem dX6_readWhole_24 : decode cX6_readWhole 24 = .ok (.getstatic 175, 3) := by decide +kernel
theorem dX6_readWhole_27 : decode cX6_readWhole 27 = .ok (.invokevirtual 49, 3) := by decide +kernel
theorem dX6_readWhole_30 : decode cX6_readWhole 30 = .ok (.ifCond .ne 16, 3) := by decide +kernel
theorem dX6_readWhole_33 : decode cX6_readWhole 33 = .ok (.aload_n 0, 1) := by decide +kernel
theorem dX6_readWhole_34 : decode cX6_readWhole 34 = .ok (.getfield 15, 3) := by decide +kernel
theorem dX6_readWhole_37 : decode cX6_readWhole 37 = .ok (.getstatic 178, 3) := by decide +kernel
theorem dX6_readWhole_40 : decode cX6_readWhole 40 = .ok (.invokevirtual 49, 3) := by decide +kernel
theorem dX6_readWhole_43 : decode cX6_readWhole 43 = .ok (.ifCond .eq 45, 3) := by decide +kernel
theorem dX6_readWhole_46 : decode cX6_readWhole 46 = .ok (.aload_n 0, 1) := by decide +kernel
theorem dX6_readWhole_47 : decode cX6_readWhole 47 = .ok (.getfield 15, 3) := by decide +kernel
theorem dX6_readWhole_50 : decode cX6_readWhole 50 = .ok (.invokevirtual 118, 3) := by decide +kernel
theorem dX6_readWhole_53 : decode cX6_readWhole 53 = .ok (.invokevirtual 125, 3) := by decide +kernel
theorem dX6_readWhole_56 : decode cX6_readWhole 56 = .ok (.istore 4, 2) := by decide +kernel
theorem dX6_readWhole_58 : decode cX6_readWhole 58 = .ok (.aload_n 0, 1) := by decide +kernel
theorem dX6_readWhole_59 : decode cX6_readWhole 59 = .ok (.getfield 15, 3) := by decide +kernel
theorem dX6_readWhole_62 : decode cX6_readWhole 62 = .ok (.invokevirtual 99, 3) := by decide +kernel
theorem dX6_readWhole_65 : decode cX6_readWhole 65 = .ok (.aload_n 0, 1) := by decide +kernel
theorem dX6_readWhole_66 : decode cX6_readWhole 66 = .ok (.aload_n 1, 1) := by decide +kernel
theorem dX6_readWhole_67 : decode cX6_readWhole 67 = .ok (.iload_n 2, 1) := by decide +kernel
theorem dX6_readWhole_68 : decode cX6_readWhole 68 = .ok (.invokevirtual 172, 3) := by decide +kernel
theorem dX6_readWhole_71 : decode cX6_readWhole 71 = .ok (.ifCond .ne 5, 3) := by decide +kernel
theorem dX6_readWhole_74 : decode cX6_readWhole 74 = .ok (.iconst 0, 1) := by decide +kernel
theorem dX6_readWhole_75 : decode cX6_readWhole 75 = .ok (.ireturn, 1) := by decide +kernel
theorem dX6_readWhole_76 : decode cX6_readWhole 76 = .ok (.aload_n 1, 1) := by decide +kernel
theorem dX6_readWhole_77 : decode cX6_readWhole 77 = .ok (.iload 4, 2) := by decide +kernel
theorem dX6_readWhole_79 : decode cX6_readWhole 79 = .ok (.invokevirtual 181, 3) := by decide +kernel
theorem dX6_readWhole_82 : decode cX6_readWhole 82 = .ok (.iinc 3 1, 3) := by decide +kernel
theorem dX6_readWhole_85 : decode cX6_readWhole 85 = .ok (.goto (-72), 3) := by decide +kernel
theorem dX6_readWhole_88 : decode cX6_readWhole 88 = .ok (.iconst 1, 1) := by decide +kernel
theorem dX6_readWhole_89 : decode cX6_readWhole 89 = .ok (.ireturn, 1) := by decide +kernel
theorem dX6_readTest_0 : decode cX6_readTest 0 = .ok (.aload_n 0, 1) := by decide +kernel
theorem dX6_readTest_1 : decode cX6_readTest 1 = .ok (.aload_n 1, 1) := by decide +kernel
theorem dX6_readTest_2 : decode cX6_readTest 2 = .ok (.iload_n 2, 1) := by decide +kernel
theorem dX6_readTest_3 : decode cX6_readTest 3 = .ok (.invokevirtual 183, 3) := by decide +kernel
theorem dX6_readTest_6 : decode cX6_readTest 6 = .ok (.ifCond .ne 5, 3) := by decide +kernel
theorem dX6_readTest_9 : decode cX6_readTest 9 = .ok (.iconst 0, 1) := by decide +kernel
theorem dX6_readTest_10 : decode cX6_readTest 10 = .ok (.ireturn, 1) := by decide +kernel
theorem dX6_readTest_11 : decode cX6_readTest 11 = .ok (.aload_n 0, 1) := by decide +kernel
theorem dX6_readTest_12 : decode cX6_readTest 12 = .ok (.getfield 15, 3) := by decide +kernel
theorem dX6_readTest_15 : decode cX6_readTest 15 = .ok (.bipush 60, 2) := by decide +kernel
theorem dX6_readTest_17 : decode cX6_readTest 17 = .ok (.invokevirtual 37, 3) := by decide +kernel
theorem dX6_readTest_20 : decode cX6_readTest 20 = .ok (.ifCond .ne 17, 3) := by decide +kernel
theorem dX6_readTest_23 : decode cX6_readTest 23 = .ok (.aload_n 0, 1) := by decide +kernel
theorem dX6_readTest_24 : decode cX6_readTest 24 = .ok (.getfield 15, 3) := by decide +kernel
theorem dX6_readTest_27 : decode cX6_readTest 27 = .ok (.bipush 61, 2) := by decide +kernel
theorem dX6_readTest_29 : decode cX6_readTest 29 = .ok (.invokevirtual 37, 3) := by decide +kernel
theorem dX6_readTest_32 : decode cX6_readTest 32 = .ok (.ifCond .ne 5, 3) := by decide +kernel
theorem dX6_readTest_35 : decode cX6_readTest 35 = .ok (.iconst 1, 1) := by decide +kernel
theorem dX6_readTest_36 : decode cX6_readTest 36 = .ok (.ireturn, 1) := by decide +kernel
theorem dX6_readTest_37 : decode cX6_readTest 37 = .ok (.aload_n 0, 1) := by decide +kernel
theorem dX6_readTest_38 : decode cX6_readTest 38 = .ok (.getfield 15, 3) := by decide +kernel
theorem dX6_readTest_41 : decode cX6_readTest 41 = .ok (.bipush 60, 2) := by decide +kernel
theorem dX6_readTest_43 : decode cX6_readTest 43 = .ok (.invokevirtual 37, 3) := by decide +kernel
theorem dX6_readTest_46 : decode cX6_readTest 46 = .ok (.ifCond .eq 8, 3) := by decide +kernel
theorem dX6_readTest_49 : decode cX6_readTest 49 = .ok (.bipush (-8), 2) := by decide +kernel
theorem dX6_readTest_51 : decode cX6_readTest 51 = .ok (.goto 5, 3) := by decide +kernel
theorem dX6_readTest_54 : decode cX6_readTest 54 = .ok (.bipush (-9), 2) := by decide +kernel
theorem dX6_readTest_56 : decode cX6_readTest 56 = .ok (.istore_n 3, 1) := by decide +kernel
theorem dX6_readTest_57 : decode cX6_readTest 57 = .ok (.aload_n 0, 1) := by decide +kernel
theorem dX6_readTest_58 : decode cX6_readTest 58 = .ok (.getfield 15, 3) := by decide +kernel
theorem dX6_readTest_61 : decode cX6_readTest 61 = .ok (.invokevirtual 99, 3) := by decide +kernel
theorem dX6_readTest_64 : decode cX6_readTest 64 = .ok (.aload_n 0, 1) := by decide +kernel
theorem dX6_readTest_65 : decode cX6_readTest 65 = .ok (.aload_n 1, 1) := by decide +kernel
theorem dX6_readTest_66 : decode cX6_readTest 66 = .ok (.iload_n 2, 1) := by decide +kernel
theorem dX6_readTest_67 : decode cX6_readTest 67 = .ok (.invokevirtual 183, 3) := by decide +kernel
theorem dX6_readTest_70 : decode cX6_readTest 70 = .ok (.ifCond .ne 5, 3) := by decide +kernel
theorem dX6_readTest_73 : decode cX6_readTest 73 = .ok (.iconst 0, 1) := by decide +kernel
theorem dX6_readTest_74 : decode cX6_readTest 74 = .ok (.ireturn, 1) := by decide +kernel
theorem dX6_readTest_75 : decode cX6_readTest 75 = .ok (.aload_n 1, 1) := by decide +kernel
theorem dX6_readTest_76 : decode cX6_readTest 76 = .ok (.iload_n 3, 1) := by decide +kernel
theorem dX6_readTest_77 : decode cX6_readTest 77 = .ok (.invokevirtual 181, 3) := by decide +kernel
theorem dX6_readTest_80 : decode cX6_readTest 80 = .ok (.iconst 1, 1) := by decide +kernel
theorem dX6_readTest_81 : decode cX6_readTest 81 = .ok (.ireturn, 1) := by decide +kernel
theorem dX6_readSum_0 : decode cX6_readSum 0 = .ok (.aload_n 0, 1) := by decide +kernel
theorem dX6_readSum_1 : decode cX6_readSum 1 = .ok (.aload_n 1, 1) := by decide +kernel
theorem dX6_readSum_2 : decode cX6_readSum 2 = .ok (.iload_n 2, 1) := by decide +kernel
theorem dX6_readSum_3 : decode cX6_readSum 3 = .ok (.invokevirtual 186, 3) := by decide +kernel
theorem dX6_readSum_6 : decode cX6_readSum 6 = .ok (.ifCond .ne 5, 3) := by decide +kernel
theorem dX6_readSum_9 : decode cX6_readSum 9 = .ok (.iconst 0, 1) := by decide +kernel
theorem dX6_readSum_10 : decode cX6_readSum 10 = .ok (.ireturn, 1) := by decide +kernel
theorem dX6_readSum_11 : decode cX6_readSum 11 = .ok (.iconst 0, 1) := by decide +kernel
theorem dX6_readSum_12 : decode cX6_readSum 12 = .ok (.istore_n 3, 1) := by decide +kernel
theorem dX6_readSum_13 : decode cX6_readSum 13 = .ok (.iload_n 3, 1) := by decide +kernel
theorem dX6_readSum_14 : decode cX6_readSum 14 = .ok (.sipush 1000, 3) := by decide +kernel
theorem dX6_readSum_17 : decode cX6_readSum 17 = .ok (.if_icmp .ge 78, 3) := by decide +kernel
theorem dX6_readSum_20 : decode cX6_readSum 20 = .ok (.aload_n 0, 1) := by decide +kernel
theorem dX6_readSum_21 : decode cX6_readSum 21 = .ok (.getfield 15, 3) := by decide +kernel
theorem dX6_readSum_24 : decode cX6_readSum 24 = .ok (.bipush 43, 2) := by decide +kernel
theorem dX6_readSum_26 : decode cX6_readSum 26 = .ok (.invokevirtual 37, 3) := by decide +kernel
theorem dX6_readSum_29 : decode cX6_readSum 29 = .ok (.ifCond .ne 15, 3) := by decide +kernel
theorem dX6_readSum_32 : decode cX6_readSum 32 = .ok (.aload_n 0, 1) := by decide +kernel
theorem dX6_readSum_33 : decode cX6_readSum 33 = .ok (.getfield 15, 3) := by decide +kernel
theorem dX6_readSum_36 : decode cX6_readSum 36 = .ok (.bipush 45, 2) := by decide +kernel
theorem dX6_readSum_38 : decode cX6_readSum 38 = .ok (.invokevirtual 37, 3) := by decide +kernel
theorem dX6_readSum_41 : decode cX6_readSum 41 = .ok (.ifCond .eq 54, 3) := by decide +kernel
theorem dX6_readSum_44 : decode cX6_readSum 44 = .ok (.aload_n 0, 1) := by decide +kernel
theorem dX6_readSum_45 : decode cX6_readSum 45 = .ok (.getfield 15, 3) := by decide +kernel
theorem dX6_readSum_48 : decode cX6_readSum 48 = .ok (.bipush 43, 2) := by decide +kernel
theorem dX6_readSum_50 : decode cX6_readSum 50 = .ok (.invokevirtual 37, 3) := by decide +kernel
theorem dX6_readSum_53 : decode cX6_readSum 53 = .ok (.ifCond .eq 8, 3) := by decide +kernel
theorem dX6_readSum_56 : decode cX6_readSum 56 = .ok (.bipush (-10), 2) := by decide +kernel
theorem dX6_readSum_58 : decode cX6_readSum 58 = .ok (.goto 5, 3) := by decide +kernel
theorem dX6_readSum_61 : decode cX6_readSum 61 = .ok (.bipush (-11), 2) := by decide +kernel
theorem dX6_readSum_63 : decode cX6_readSum 63 = .ok (.istore 4, 2) := by decide +kernel
theorem dX6_readSum_65 : decode cX6_readSum 65 = .ok (.aload_n 0, 1) := by decide +kernel
theorem dX6_readSum_66 : decode cX6_readSum 66 = .ok (.getfield 15, 3) := by decide +kernel
theorem dX6_readSum_69 : decode cX6_readSum 69 = .ok (.invokevirtual 99, 3) := by decide +kernel
theorem dX6_readSum_72 : decode cX6_readSum 72 = .ok (.aload_n 0, 1) := by decide +kernel
theorem dX6_readSum_73 : decode cX6_readSum 73 = .ok (.aload_n 1, 1) := by decide +kernel
theorem dX6_readSum_74 : decode cX6_readSum 74 = .ok (.iload_n 2, 1) := by decide +kernel
theorem dX6_readSum_75 : decode cX6_readSum 75 = .ok (.invokevirtual 186, 3) := by decide +kernel
theorem dX6_readSum_78 : decode cX6_readSum 78 = .ok (.ifCond .ne 5, 3) := by decide +kernel
theorem dX6_readSum_81 : decode cX6_readSum 81 = .ok (.iconst 0, 1) := by decide +kernel
theorem dX6_readSum_82 : decode cX6_readSum 82 = .ok (.ireturn, 1) := by decide +kernel
theorem dX6_readSum_83 : decode cX6_readSum 83 = .ok (.aload_n 1, 1) := by decide +kernel
theorem dX6_readSum_84 : decode cX6_readSum 84 = .ok (.iload 4, 2) := by decide +kernel
theorem dX6_readSum_86 : decode cX6_readSum 86 = .ok (.invokevirtual 181, 3) := by decide +kernel
theorem dX6_readSum_89 : decode cX6_readSum 89 = .ok (.iinc 3 1, 3) := by decide +kernel
theorem dX6_readSum_92 : decode cX6_readSum 92 = .ok (.goto (-79), 3) := by decide +kernel
theorem dX6_readSum_95 : decode cX6_readSum 95 = .ok (.iconst 1, 1) := by decide +kernel
theorem dX6_readSum_96 : decode cX6_readSum 96 = .ok (.ireturn, 1) := by decide +kernel
theorem dX6_readProduct_0 : decode cX6_readProduct 0 = .ok (.aload_n 0, 1) := by decide +kernel
theorem dX6_readProduct_1 : decode cX6_readProduct 1 = .ok (.aload_n 1, 1) := by decide +kernel
theorem dX6_readProduct_2 : decode cX6_readProduct 2 = .ok (.iload_n 2, 1) := by decide +kernel
theorem dX6_readProduct_3 : decode cX6_readProduct 3 = .ok (.invokevirtual 189, 3) := by decide +kernel
theorem dX6_readProduct_6 : decode cX6_readProduct 6 = .ok (.ifCond .ne 5, 3) := by decide +kernel
theorem dX6_readProduct_9 : decode cX6_readProduct 9 = .ok (.iconst 0, 1) := by decide +kernel
theorem dX6_readProduct_10 : decode cX6_readProduct 10 = .ok (.ireturn, 1) := by decide +kernel
theorem dX6_readProduct_11 : decode cX6_readProduct 11 = .ok (.iconst 0, 1) := by decide +kernel
theorem dX6_readProduct_12 : decode cX6_readProduct 12 = .ok (.istore_n 3, 1) := by decide +kernel
theorem dX6_readProduct_13 : decode cX6_readProduct 13 = .ok (.iload_n 3, 1) := by decide +kernel
theorem dX6_readProduct_14 : decode cX6_readProduct 14 = .ok (.sipush 1000, 3) := by decide +kernel
theorem dX6_readProduct_17 : decode cX6_readProduct 17 = .ok (.if_icmp .ge 45, 3) := by decide +kernel
theorem dX6_readProduct_20 : decode cX6_readProduct 20 = .ok (.aload_n 0, 1) := by decide +kernel
theorem dX6_readProduct_21 : decode cX6_readProduct 21 = .ok (.getfield 15, 3) := by decide +kernel
theorem dX6_readProduct_24 : decode cX6_readProduct 24 = .ok (.bipush 42, 2) := by decide +kernel
theorem dX6_readProduct_26 : decode cX6_readProduct 26 = .ok (.invokevirtual 37, 3) := by decide +kernel
theorem dX6_readProduct_29 : decode cX6_readProduct 29 = .ok (.ifCond .eq 33, 3) := by decide +kernel
theorem dX6_readProduct_32 : decode cX6_readProduct 32 = .ok (.aload_n 0, 1) := by decide +kernel
theorem dX6_readProduct_33 : decode cX6_readProduct 33 = .ok (.getfield 15, 3) := by decide +kernel
theorem dX6_readProduct_36 : decode cX6_readProduct 36 = .ok (.invokevirtual 99, 3) := by decide +kernel
theorem dX6_readProduct_39 : decode cX6_readProduct 39 = .ok (.aload_n 0, 1) := by decide +kernel
theorem dX6_readProduct_40 : decode cX6_readProduct 40 = .ok (.aload_n 1, 1) := by decide +kernel
theorem dX6_readProduct_41 : decode cX6_readProduct 41 = .ok (.iload_n 2, 1) := by decide +kernel
theorem dX6_readProduct_42 : decode cX6_readProduct 42 = .ok (.invokevirtual 189, 3) := by decide +kernel
theorem dX6_readProduct_45 : decode cX6_readProduct 45 = .ok (.ifCond .ne 5, 3) := by decide +kernel
theorem dX6_readProduct_48 : decode cX6_readProduct 48 = .ok (.iconst 0, 1) := by decide +kernel
theorem dX6_readProduct_49 : decode cX6_readProduct 49 = .ok (.ireturn, 1) := by decide +kernel
theorem dX6_readProduct_50 : decode cX6_readProduct 50 = .ok (.aload_n 1, 1) := by decide +kernel
theorem dX6_readProduct_51 : decode cX6_readProduct 51 = .ok (.bipush (-12), 2) := by decide +kernel
theorem dX6_readProduct_53 : decode cX6_readProduct 53 = .ok (.invokevirtual 181, 3) := by decide +kernel
theorem dX6_readProduct_56 : decode cX6_readProduct 56 = .ok (.iinc 3 1, 3) := by decide +kernel
theorem dX6_readProduct_59 : decode cX6_readProduct 59 = .ok (.goto (-46), 3) := by decide +kernel
theorem dX6_readProduct_62 : decode cX6_readProduct 62 = .ok (.iconst 1, 1) := by decide +kernel
theorem dX6_readProduct_63 : decode cX6_readProduct 63 = .ok (.ireturn, 1) := by decide +kernel
theorem dX6_readPart_0 : decode cX6_readPart 0 = .ok (.aload_n 0, 1) := by decide +kernel
theorem dX6_readPart_1 : decode cX6_readPart 1 = .ok (.getfield 15, 3) := by decide +kernel
theorem dX6_readPart_4 : decode cX6_readPart 4 = .ok (.getstatic 192, 3) := by decide +kernel
theorem dX6_readPart_7 : decode cX6_readPart 7 = .ok (.invokevirtual 49, 3) := by decide +kernel
theorem dX6_readPart_10 : decode cX6_readPart 10 = .ok (.istore_n 3, 1) := by decide +kernel
theorem dX6_readPart_11 : decode cX6_readPart 11 = .ok (.aload_n 0, 1) := by decide +kernel
theorem dX6_readPart_12 : decode cX6_readPart 12 = .ok (.getfield 15, 3) := by decide +kernel
theorem dX6_readPart_15 : decode cX6_readPart 15 = .ok (.bipush 40, 2) := by decide +kernel
theorem dX6_readPart_17 : decode cX6_readPart 17 = .ok (.invokevirtual 37, 3) := by decide +kernel
theorem dX6_readPart_20 : decode cX6_readPart 20 = .ok (.istore 4, 2) := by decide +kernel
theorem dX6_readPart_22 : decode cX6_readPart 22 = .ok (.iload_n 3, 1) := by decide +kernel
theorem dX6_readPart_23 : decode cX6_readPart 23 = .ok (.ifCond .ne 39, 3) := by decide +kernel
theorem dX6_readPart_26 : decode cX6_readPart 26 = .ok (.iload 4, 2) := by decide +kernel
theorem dX6_readPart_28 : decode cX6_readPart 28 = .ok (.ifCond .ne 34, 3) := by decide +kernel
theorem dX6_readPart_31 : decode cX6_readPart 31 = .ok (.aload_n 0, 1) := by decide +kernel
theorem dX6_readPart_32 : decode cX6_readPart 32 = .ok (.getfield 15, 3) := by decide +kernel
theorem dX6_readPart_35 : decode cX6_readPart 35 = .ok (.bipush 110, 2) := by decide +kernel
theorem dX6_readPart_37 : decode cX6_readPart 37 = .ok (.invokevirtual 37, 3) := by decide +kernel
theorem dX6_readPart_40 : decode cX6_readPart 40 = .ok (.ifCond .ne 22, 3) := by decide +kernel
theorem dX6_readPart_43 : decode cX6_readPart 43 = .ok (.aload_n 0, 1) := by decide +kernel
theorem dX6_readPart_44 : decode cX6_readPart 44 = .ok (.getfield 15, 3) := by decide +kernel
theorem dX6_readPart_47 : decode cX6_readPart 47 = .ok (.invokevirtual 118, 3) := by decide +kernel
theorem dX6_readPart_50 : decode cX6_readPart 50 = .ok (.invokevirtual 195, 3) := by decide +kernel
theorem dX6_readPart_53 : decode cX6_readPart 53 = .ok (.ifCond .ne 9, 3) := by decide +kernel
theorem dX6_readPart_56 : decode cX6_readPart 56 = .ok (.aload_n 0, 1) := by decide +kernel
theorem dX6_readPart_57 : decode cX6_readPart 57 = .ok (.iconst 1, 1) := by decide +kernel
theorem dX6_readPart_58 : decode cX6_readPart 58 = .ok (.invokevirtual 74, 3) := by decide +kernel
theorem dX6_readPart_61 : decode cX6_readPart 61 = .ok (.ireturn, 1) := by decide +kernel
theorem dX6_readPart_62 : decode cX6_readPart 62 = .ok (.iload_n 2, 1) := by decide +kernel
theorem dX6_readPart_63 : decode cX6_readPart 63 = .ok (.iconst 5, 1) := by decide +kernel
theorem dX6_readPart_64 : decode cX6_readPart 64 = .ok (.if_icmp .lt 9, 3) := by decide +kernel
theorem dX6_readPart_67 : decode cX6_readPart 67 = .ok (.aload_n 0, 1) := by decide +kernel
theorem dX6_readPart_68 : decode cX6_readPart 68 = .ok (.iconst 5, 1) := by decide +kernel
theorem dX6_readPart_69 : decode cX6_readPart 69 = .ok (.invokevirtual 74, 3) := by decide +kernel
theorem dX6_readPart_72 : decode cX6_readPart 72 = .ok (.ireturn, 1) := by decide +kernel
theorem dX6_readPart_73 : decode cX6_readPart 73 = .ok (.iload 4, 2) := by decide +kernel
theorem dX6_readPart_75 : decode cX6_readPart 75 = .ok (.ifCond .eq 36, 3) := by decide +kernel
theorem dX6_readPart_78 : decode cX6_readPart 78 = .ok (.aload_n 0, 1) := by decide +kernel
theorem dX6_readPart_79 : decode cX6_readPart 79 = .ok (.getfield 15, 3) := by decide +kernel
theorem dX6_readPart_82 : decode cX6_readPart 82 = .ok (.invokevirtual 99, 3) := by decide +kernel
theorem dX6_readPart_85 : decode cX6_readPart 85 = .ok (.aload_n 0, 1) := by decide +kernel
theorem dX6_readPart_86 : decode cX6_readPart 86 = .ok (.aload_n 1, 1) := by decide +kernel
theorem dX6_readPart_87 : decode cX6_readPart 87 = .ok (.iload_n 2, 1) := by decide +kernel
theorem dX6_readPart_88 : decode cX6_readPart 88 = .ok (.iconst 1, 1) := by decide +kernel
theorem dX6_readPart_89 : decode cX6_readPart 89 = .ok (.iadd, 1) := by decide +kernel
theorem dX6_readPart_90 : decode cX6_readPart 90 = .ok (.invokevirtual 168, 3) := by decide +kernel
theorem dX6_readPart_93 : decode cX6_readPart 93 = .ok (.ifCond .eq 16, 3) := by decide +kernel
theorem dX6_readPart_96 : decode cX6_readPart 96 = .ok (.aload_n 0, 1) := by decide +kernel
theorem dX6_readPart_97 : decode cX6_readPart 97 = .ok (.bipush 41, 2) := by decide +kernel
theorem dX6_readPart_99 : decode cX6_readPart 99 = .ok (.invokevirtual 144, 3) := by decide +kernel
theorem dX6_readPart_102 : decode cX6_readPart 102 = .ok (.ifCond .eq 7, 3) := by decide +kernel
theorem dX6_readPart_105 : decode cX6_readPart 105 = .ok (.iconst 1, 1) := by decide +kernel
theorem dX6_readPart_106 : decode cX6_readPart 106 = .ok (.goto 4, 3) := by decide +kernel
theorem dX6_readPart_109 : decode cX6_readPart 109 = .ok (.iconst 0, 1) := by decide +kernel
theorem dX6_readPart_110 : decode cX6_readPart 110 = .ok (.ireturn, 1) := by decide +kernel
theorem dX6_readPart_111 : decode cX6_readPart 111 = .ok (.iload_n 3, 1) := by decide +kernel
theorem dX6_readPart_112 : decode cX6_readPart 112 = .ok (.ifCond .ne 48, 3) := by decide +kernel
theorem dX6_readPart_115 : decode cX6_readPart 115 = .ok (.aload_n 1, 1) := by decide +kernel
theorem dX6_readPart_116 : decode cX6_readPart 116 = .ok (.aload_n 0, 1) := by decide +kernel
theorem dX6_readPart_117 : decode cX6_readPart 117 = .ok (.getfield 15, 3) := by decide +kernel
theorem dX6_readPart_120 : decode cX6_readPart 120 = .ok (.bipush 110, 2) := by decide +kernel
theorem dX6_readPart_122 : decode cX6_readPart 122 = .ok (.invokevirtual 37, 3) := by decide +kernel
theorem dX6_readPart_125 : decode cX6_readPart 125 = .ok (.ifCond .eq 13, 3) := by decide +kernel
theorem dX6_readPart_128 : decode cX6_readPart 128 = .ok (.aload_n 0, 1) := by decide +kernel
theorem dX6_readPart_129 : decode cX6_readPart 129 = .ok (.getfield 15, 3) := by decide +kernel
theorem dX6_readPart_132 : decode cX6_readPart 132 = .ok (.invokevirtual 131, 3) := by decide +kernel
theorem dX6_readPart_135 : decode cX6_readPart 135 = .ok (.goto 13, 3) := by decide +kernel
theorem dX6_readPart_138 : decode cX6_readPart 138 = .ok (.aload_n 0, 1) := by decide +kernel
theorem dX6_readPart_139 : decode cX6_readPart 139 = .ok (.getfield 15, 3) := by decide +kernel
theorem dX6_readPart_142 : decode cX6_readPart 142 = .ok (.invokevirtual 118, 3) := by decide +kernel
theorem dX6_readPart_145 : decode cX6_readPart 145 = .ok (.invokevirtual 125, 3) := by decide +kernel
theorem dX6_readPart_148 : decode cX6_readPart 148 = .ok (.invokevirtual 181, 3) := by decide +kernel
theorem dX6_readPart_151 : decode cX6_readPart 151 = .ok (.aload_n 0, 1) := by decide +kernel
theorem dX6_readPart_152 : decode cX6_readPart 152 = .ok (.getfield 15, 3) := by decide +kernel
theorem dX6_readPart_155 : decode cX6_readPart 155 = .ok (.invokevirtual 99, 3) := by decide +kernel
theorem dX6_readPart_158 : decode cX6_readPart 158 = .ok (.iconst 1, 1) := by decide +kernel
theorem dX6_readPart_159 : decode cX6_readPart 159 = .ok (.ireturn, 1) := by decide +kernel
theorem dX6_readPart_160 : decode cX6_readPart 160 = .ok (.aload_n 0, 1) := by decide +kernel
theorem dX6_readPart_161 : decode cX6_readPart 161 = .ok (.getfield 15, 3) := by decide +kernel
theorem dX6_readPart_164 : decode cX6_readPart 164 = .ok (.invokevirtual 99, 3) := by decide +kernel
theorem dX6_readPart_167 : decode cX6_readPart 167 = .ok (.aload_n 0, 1) := by decide +kernel
theorem dX6_readPart_168 : decode cX6_readPart 168 = .ok (.aload_n 1, 1) := by decide +kernel
theorem dX6_readPart_169 : decode cX6_readPart 169 = .ok (.iload_n 2, 1) := by decide +kernel
theorem dX6_readPart_170 : decode cX6_readPart 170 = .ok (.iconst 1, 1) := by decide +kernel
theorem dX6_readPart_171 : decode cX6_readPart 171 = .ok (.iadd, 1) := by decide +kernel
theorem dX6_readPart_172 : decode cX6_readPart 172 = .ok (.invokevirtual 189, 3) := by decide +kernel
theorem dX6_readPart_175 : decode cX6_readPart 175 = .ok (.ifCond .ne 5, 3) := by decide +kernel
theorem dX6_readPart_178 : decode cX6_readPart 178 = .ok (.iconst 0, 1) := by decide +kernel
theorem dX6_readPart_179 : decode cX6_readPart 179 = .ok (.ireturn, 1) := by decide +kernel
theorem dX6_readPart_180 : decode cX6_readPart 180 = .ok (.aload_n 1, 1) := by decide +kernel
theorem dX6_readPart_181 : decode cX6_readPart 181 = .ok (.bipush (-5), 2) := by decide +kernel
theorem dX6_readPart_183 : decode cX6_readPart 183 = .ok (.invokevirtual 181, 3) := by decide +kernel
theorem dX6_readPart_186 : decode cX6_readPart 186 = .ok (.iconst 1, 1) := by decide +kernel
theorem dX6_readPart_187 : decode cX6_readPart 187 = .ok (.ireturn, 1) := by decide +kernel
theorem dX7_init_0 : decode cX7_init 0 = .ok (.aload_n 0, 1) := by decide +kernel
theorem dX7_init_1 : decode cX7_init 1 = .ok (.invokespecial 3, 3) := by decide +kernel
theorem dX7_init_4 : decode cX7_init 4 = .ok (.aload_n 0, 1) := by decide +kernel
theorem dX7_init_5 : decode cX7_init 5 = .ok (.iconst 5, 1) := by decide +kernel
theorem dX7_init_6 : decode cX7_init 6 = .ok (.newarray .int, 2) := by decide +kernel
theorem dX7_init_8 : decode cX7_init 8 = .ok (.putfield 9, 3) := by decide +kernel
theorem dX7_init_11 : decode cX7_init 11 = .ok (.aload_n 0, 1) := by decide +kernel
theorem dX7_init_12 : decode cX7_init 12 = .ok (.iconst 5, 1) := by decide +kernel
theorem dX7_init_13 : decode cX7_init 13 = .ok (.newarray .int, 2) := by decide +kernel
theorem dX7_init_15 : decode cX7_init 15 = .ok (.putfield 15, 3) := by decide +kernel
theorem dX7_init_18 : decode cX7_init 18 = .ok (.aload_n 0, 1) := by decide +kernel
theorem dX7_init_19 : decode cX7_init 19 = .ok (.sipush 600, 3) := by decide +kernel
theorem dX7_init_22 : decode cX7_init 22 = .ok (.newarray .int, 2) := by decide +kernel
theorem dX7_init_24 : decode cX7_init 24 = .ok (.putfield 18, 3) := by decide +kernel
theorem dX7_init_27 : decode cX7_init 27 = .ok (.aload_n 0, 1) := by decide +kernel
theorem dX7_init_28 : decode cX7_init 28 = .ok (.sipush 600, 3) := by decide +kernel
theorem dX7_init_31 : decode cX7_init 31 = .ok (.newarray .int, 2) := by decide +kernel
theorem dX7_init_33 : decode cX7_init 33 = .ok (.putfield 21, 3) := by decide +kernel
theorem dX7_init_36 : decode cX7_init 36 = .ok (.aload_n 0, 1) := by decide +kernel
theorem dX7_init_37 : decode cX7_init 37 = .ok (.sipush 600, 3) := by decide +kernel
theorem dX7_init_40 : decode cX7_init 40 = .ok (.newarray .int, 2) := by decide +kernel
theorem dX7_init_42 : decode cX7_init 42 = .ok (.putfield 24, 3) := by decide +kernel
theorem dX7_init_45 : decode cX7_init 45 = .ok (.aload_n 0, 1) := by decide +kernel
theorem dX7_init_46 : decode cX7_init 46 = .ok (.sipush 600, 3) := by decide +kernel
theorem dX7_init_49 : decode cX7_init 49 = .ok (.newarray .int, 2) := by decide +kernel
theorem dX7_init_51 : decode cX7_init 51 = .ok (.putfield 27, 3) := by decide +kernel
theorem dX7_init_54 : decode cX7_init 54 = .ok (.aload_n 0, 1) := by decide +kernel
theorem dX7_init_55 : decode cX7_init 55 = .ok (.sipush 600, 3) := by decide +kernel
theorem dX7_init_58 : decode cX7_init 58 = .ok (.newarray .int, 2) := by decide +kernel
theorem dX7_init_60 : decode cX7_init 60 = .ok (.putfield 30, 3) := by decide +kernel
theorem dX7_init_63 : decode cX7_init 63 = .ok (.aload_n 0, 1) := by decide +kernel
theorem dX7_init_64 : decode cX7_init 64 = .ok (.sipush 192, 3) := by decide +kernel
theorem dX7_init_67 : decode cX7_init 67 = .ok (.newarray .int, 2) := by decide +kernel
theorem dX7_init_69 : decode cX7_init 69 = .ok (.putfield 33, 3) := by decide +kernel
theorem dX7_init_72 : decode cX7_init 72 = .ok (.aload_n 0, 1) := by decide +kernel
theorem dX7_init_73 : decode cX7_init 73 = .ok (.sipush 192, 3) := by decide +kernel
theorem dX7_init_76 : decode cX7_init 76 = .ok (.newarray .int, 2) := by decide +kernel
theorem dX7_init_78 : decode cX7_init 78 = .ok (.putfield 36, 3) := by decide +kernel
theorem dX7_init_81 : decode cX7_init 81 = .ok (.aload_n 0, 1) := by decide +kernel
theorem dX7_init_82 : decode cX7_init 82 = .ok (.sipush 3840, 3) := by decide +kernel
theorem dX7_init_85 : decode cX7_init 85 = .ok (.newarray .int, 2) := by decide +kernel
theorem dX7_init_87 : decode cX7_init 87 = .ok (.putfield 39, 3) := by decide +kernel
theorem dX7_init_90 : decode cX7_init 90 = .ok (.aload_n 0, 1) := by decide +kernel
theorem dX7_init_91 : decode cX7_init 91 = .ok (.sipush 3840, 3) := by decide +kernel
theorem dX7_init_94 : decode cX7_init 94 = .ok (.newarray .int, 2) := by decide +kernel
theorem dX7_init_96 : decode cX7_init 96 = .ok (.putfield 42, 3) := by decide +kernel
theorem dX7_init_99 : decode cX7_init 99 = .ok (.aload_n 0, 1) := by decide +kernel
theorem dX7_init_100 : decode cX7_init 100 = .ok (.sipush 3840, 3) := by decide +kernel
theorem dX7_init_103 : decode cX7_init 103 = .ok (.newarray .int, 2) := by decide +kernel
theorem dX7_init_105 : decode cX7_init 105 = .ok (.putfield 45, 3) := by decide +kernel
theorem dX7_init_108 : decode cX7_init 108 = .ok (.aload_n 0, 1) := by decide +kernel
theorem dX7_init_109 : decode cX7_init 109 = .ok (.bipush 50, 2) := by decide +kernel
theorem dX7_init_111 : decode cX7_init 111 = .ok (.newarray .int, 2) := by decide +kernel
theorem dX7_init_113 : decode cX7_init 113 = .ok (.putfield 48, 3) := by decide +kernel
theorem dX7_init_116 : decode cX7_init 116 = .ok (.aload_n 0, 1) := by decide +kernel
theorem dX7_init_117 : decode cX7_init 117 = .ok (.aload_n 1, 1) := by decide +kernel
theorem dX7_init_118 : decode cX7_init 118 = .ok (.invokevirtual 51, 3) := by decide +kernel
theorem dX7_init_121 : decode cX7_init 121 = .ok (.return_, 1) := by decide +kernel
theorem dX7_learn_0 : decode cX7_learn 0 = .ok (.aload_n 0, 1) := by decide +kernel
theorem dX7_learn_1 : decode cX7_learn 1 = .ok (.aload_n 1, 1) := by decide +kernel
theorem dX7_learn_2 : decode cX7_learn 2 = .ok (.putfield 55, 3) := by decide +kernel
theorem dX7_learn_5 : decode cX7_learn 5 = .ok (.aload_n 0, 1) := by decide +kernel
theorem dX7_learn_6 : decode cX7_learn 6 = .ok (.aload_n 1, 1) := by decide +kernel
theorem dX7_learn_7 : decode cX7_learn 7 = .ok (.invokevirtual 59, 3) := by decide +kernel
theorem dX7_learn_10 : decode cX7_learn 10 = .ok (.putfield 65, 3) := by decide +kernel
theorem dX7_learn_13 : decode cX7_learn 13 = .ok (.aload_n 0, 1) := by decide +kernel
theorem dX7_learn_14 : decode cX7_learn 14 = .ok (.iconst 0, 1) := by decide +kernel
theorem dX7_learn_15 : decode cX7_learn 15 = .ok (.putfield 69, 3) := by decide +kernel
theorem dX7_learn_18 : decode cX7_learn 18 = .ok (.iconst 0, 1) := by decide +kernel
theorem dX7_learn_19 : decode cX7_learn 19 = .ok (.istore_n 2, 1) := by decide +kernel
theorem dX7_learn_20 : decode cX7_learn 20 = .ok (.iload_n 2, 1) := by decide +kernel
theorem dX7_learn_21 : decode cX7_learn 21 = .ok (.aload_n 0, 1) := by decide +kernel
theorem dX7_learn_22 : decode cX7_learn 22 = .ok (.getfield 65, 3) := by decide +kernel
theorem dX7_learn_25 : decode cX7_learn 25 = .ok (.if_icmp .ge 55, 3) := by decide +kernel
theorem dX7_learn_28 : decode cX7_learn 28 = .ok (.aload_n 1, 1) := by decide +kernel
theorem dX7_learn_29 : decode cX7_learn 29 = .ok (.iload_n 2, 1) := by decide +kernel
theorem dX7_learn_30 : decode cX7_learn 30 = .ok (.invokevirtual 72, 3) := by decide +kernel
theorem dX7_learn_33 : decode cX7_learn 33 = .ok (.istore_n 3, 1) := by decide +kernel
theorem dX7_learn_34 : decode cX7_learn 34 = .ok (.aload_n 0, 1) := by decide +kernel
theorem dX7_learn_35 : decode cX7_learn 35 = .ok (.getfield 9, 3) := by decide +kernel
theorem dX7_learn_38 : decode cX7_learn 38 = .ok (.iload_n 2, 1) := by decide +kernel
theorem dX7_learn_39 : decode cX7_learn 39 = .ok (.iload_n 3, 1) := by decide +kernel
theorem dX7_learn_40 : decode cX7_learn 40 = .ok (.ifCond .eq 12, 3) := by decide +kernel
theorem dX7_learn_43 : decode cX7_learn 43 = .ok (.iconst 1, 1) := by decide +kernel
theorem dX7_learn_44 : decode cX7_learn 44 = .ok (.aload_n 0, 1) := by decide +kernel
theorem dX7_learn_45 : decode cX7_learn 45 = .ok (.getfield 69, 3) := by decide +kernel
theorem dX7_learn_48 : decode cX7_learn 48 = .ok (.ishl, 1) := by decide +kernel
theorem dX7_learn_49 : decode cX7_learn 49 = .ok (.goto 4, 3) := by decide +kernel
theorem dX7_learn_52 : decode cX7_learn 52 = .ok (.iconst 0, 1) := by decide +kernel
theorem dX7_learn_53 : decode cX7_learn 53 = .ok (.invokestatic 76, 3) := by decide +kernel
theorem dX7_learn_56 : decode cX7_learn 56 = .ok (.aload_n 0, 1) := by decide +kernel
theorem dX7_learn_57 : decode cX7_learn 57 = .ok (.dup, 1) := by decide +kernel
theorem dX7_learn_58 : decode cX7_learn 58 = .ok (.getfield 69, 3) := by decide +kernel
theorem dX7_learn_61 : decode cX7_learn 61 = .ok (.iload_n 3, 1) := by decide +kernel
theorem dX7_learn_62 : decode cX7_learn 62 = .ok (.ifCond .eq 7, 3) := by decide +kernel
theorem dX7_learn_65 : decode cX7_learn 65 = .ok (.iconst 1, 1) := by decide +kernel
theorem dX7_learn_66 : decode cX7_learn 66 = .ok (.goto 4, 3) := by decide +kernel
theorem dX7_learn_69 : decode cX7_learn 69 = .ok (.iconst 0, 1) := by decide +kernel
theorem dX7_learn_70 : decode cX7_learn 70 = .ok (.iadd, 1) := by decide +kernel
theorem dX7_learn_71 : decode cX7_learn 71 = .ok (.putfield 69, 3) := by decide +kernel
theorem dX7_learn_74 : decode cX7_learn 74 = .ok (.iinc 2 1, 3) := by decide +kernel
theorem dX7_learn_77 : decode cX7_learn 77 = .ok (.goto (-57), 3) := by decide +kernel
theorem dX7_learn_80 : decode cX7_learn 80 = .ok (.aload_n 0, 1) := by decide +kernel
theorem dX7_learn_81 : decode cX7_learn 81 = .ok (.getstatic 80, 3) := by decide +kernel
theorem dX7_learn_84 : decode cX7_learn 84 = .ok (.aload_n 0, 1) := by decide +kernel
theorem dX7_learn_85 : decode cX7_learn 85 = .ok (.getfield 65, 3) := by decide +kernel
theorem dX7_learn_88 : decode cX7_learn 88 = .ok (.invokestatic 83, 3) := by decide +kernel
theorem dX7_learn_91 : decode cX7_learn 91 = .ok (.putfield 87, 3) := by decide +kernel
theorem dX7_learn_94 : decode cX7_learn 94 = .ok (.iconst 0, 1) := by decide +kernel
theorem dX7_learn_95 : decode cX7_learn 95 = .ok (.istore_n 2, 1) := by decide +kernel
theorem dX7_learn_96 : decode cX7_learn 96 = .ok (.iload_n 2, 1) := by decide +kernel
theorem dX7_learn_97 : decode cX7_learn 97 = .ok (.aload_n 0, 1) := by decide +kernel
theorem dX7_learn_98 : decode cX7_learn 98 = .ok (.getfield 87, 3) := by decide +kernel
theorem dX7_learn_101 : decode cX7_learn 101 = .ok (.if_icmp .ge 14, 3) := by decide +kernel
theorem dX7_learn_104 : decode cX7_learn 104 = .ok (.aload_n 0, 1) := by decide +kernel
theorem dX7_learn_105 : decode cX7_learn 105 = .ok (.iload_n 2, 1) := by decide +kernel
theorem dX7_learn_106 : decode cX7_learn 106 = .ok (.invokevirtual 90, 3) := by decide +kernel
theorem dX7_learn_109 : decode cX7_learn 109 = .ok (.iinc 2 1, 3) := by decide +kernel
theorem dX7_learn_112 : decode cX7_learn 112 = .ok (.goto (-16), 3) := by decide +kernel
theorem dX7_learn_115 : decode cX7_learn 115 = .ok (.iconst 0, 1) := by decide +kernel
theorem dX7_learn_116 : decode cX7_learn 116 = .ok (.istore_n 2, 1) := by decide +kernel
theorem dX7_learn_117 : decode cX7_learn 117 = .ok (.iload_n 2, 1) := by decide +kernel
theorem dX7_learn_118 : decode cX7_learn 118 = .ok (.aload_n 0, 1) := by decide +kernel
theorem dX7_learn_119 : decode cX7_learn 119 = .ok (.getfield 87, 3) := by decide +kernel
theorem dX7_learn_122 : decode cX7_learn 122 = .ok (.if_icmp .ge 31, 3) := by decide +kernel
theorem dX7_learn_125 : decode cX7_learn 125 = .ok (.iconst 1, 1) := by decide +kernel
theorem dX7_learn_126 : decode cX7_learn 126 = .ok (.istore_n 3, 1) := by decide +kernel
theorem dX7_learn_127 : decode cX7_learn 127 = .ok (.iload_n 3, 1) := by decide +kernel
theorem dX7_learn_128 : decode cX7_learn 128 = .ok (.aload_n 0, 1) := by decide +kernel
theorem dX7_learn_129 : decode cX7_learn 129 = .ok (.getfield 65, 3) := by decide +kernel
theorem dX7_learn_132 : decode cX7_learn 132 = .ok (.if_icmp .gt 15, 3) := by decide +kernel
theorem dX7_learn_135 : decode cX7_learn 135 = .ok (.aload_n 0, 1) := by decide +kernel
theorem dX7_learn_136 : decode cX7_learn 136 = .ok (.iload_n 2, 1) := by decide +kernel
theorem dX7_learn_137 : decode cX7_learn 137 = .ok (.iload_n 3, 1) := by decide +kernel
theorem dX7_learn_138 : decode cX7_learn 138 = .ok (.invokevirtual 94, 3) := by decide +kernel
theorem dX7_learn_141 : decode cX7_learn 141 = .ok (.iinc 3 1, 3) := by decide +kernel
theorem dX7_learn_144 : decode cX7_learn 144 = .ok (.goto (-17), 3) := by decide +kernel
theorem dX7_learn_147 : decode cX7_learn 147 = .ok (.iinc 2 1, 3) := by decide +kernel
theorem dX7_learn_150 : decode cX7_learn 150 = .ok (.goto (-33), 3) := by decide +kernel
theorem dX7_learn_153 : decode cX7_learn 153 = .ok (.iconst 1, 1) := by decide +kernel
theorem dX7_learn_154 : decode cX7_learn 154 = .ok (.istore_n 2, 1) := by decide +kernel
theorem dX7_learn_155 : decode cX7_learn 155 = .ok (.iload_n 2, 1) := by decide +kernel
theorem dX7_learn_156 : decode cX7_learn 156 = .ok (.iconst 1, 1) := by decide +kernel
theorem dX7_learn_157 : decode cX7_learn 157 = .ok (.aload_n 0, 1) := by decide +kernel
theorem dX7_learn_158 : decode cX7_learn 158 = .ok (.getfield 65, 3) := by decide +kernel
theorem dX7_learn_161 : decode cX7_learn 161 = .ok (.ishl, 1) := by decide +kernel
theorem dX7_learn_162 : decode cX7_learn 162 = .ok (.if_icmp .ge 14, 3) := by decide +kernel
theorem dX7_learn_165 : decode cX7_learn 165 = .ok (.aload_n 0, 1) := by decide +kernel
theorem dX7_learn_166 : decode cX7_learn 166 = .ok (.iload_n 2, 1) := by decide +kernel
theorem dX7_learn_167 : decode cX7_learn 167 = .ok (.invokevirtual 98, 3) := by decide +kernel
theorem dX7_learn_170 : decode cX7_learn 170 = .ok (.iinc 2 1, 3) := by decide +kernel
theorem dX7_learn_173 : decode cX7_learn 173 = .ok (.goto (-18), 3) := by decide +kernel
theorem dX7_learn_176 : decode cX7_learn 176 = .ok (.iconst 0, 1) := by decide +kernel
theorem dX7_learn_177 : decode cX7_learn 177 = .ok (.istore_n 2, 1) := by decide +kernel
theorem dX7_learn_178 : decode cX7_learn 178 = .ok (.iload_n 2, 1) := by decide +kernel
theorem dX7_learn_179 : decode cX7_learn 179 = .ok (.aload_n 0, 1) := by decide +kernel
theorem dX7_learn_180 : decode cX7_learn 180 = .ok (.getfield 65, 3) := by decide +kernel
theorem dX7_learn_183 : decode cX7_learn 183 = .ok (.if_icmp .ge 22, 3) := by decide +kernel
theorem dX7_learn_186 : decode cX7_learn 186 = .ok (.aload_n 0, 1) := by decide +kernel
theorem dX7_learn_187 : decode cX7_learn 187 = .ok (.getfield 15, 3) := by decide +kernel
theorem dX7_learn_190 : decode cX7_learn 190 = .ok (.aload_n 1, 1) := by decide +kernel
theorem dX7_learn_191 : decode cX7_learn 191 = .ok (.iload_n 2, 1) := by decide +kernel
theorem dX7_learn_192 : decode cX7_learn 192 = .ok (.invokevirtual 101, 3) := by decide +kernel
theorem dX7_learn_195 : decode cX7_learn 195 = .ok (.iload_n 2, 1) := by decide +kernel
theorem dX7_learn_196 : decode cX7_learn 196 = .ok (.invokestatic 76, 3) := by decide +kernel
theorem dX7_learn_199 : decode cX7_learn 199 = .ok (.iinc 2 1, 3) := by decide +kernel
theorem dX7_learn_202 : decode cX7_learn 202 = .ok (.goto (-24), 3) := by decide +kernel
theorem dX7_learn_205 : decode cX7_learn 205 = .ok (.aload_n 0, 1) := by decide +kernel
theorem dX7_learn_206 : decode cX7_learn 206 = .ok (.aload_n 0, 1) := by decide +kernel
theorem dX7_learn_207 : decode cX7_learn 207 = .ok (.aload_n 0, 1) := by decide +kernel
theorem dX7_learn_208 : decode cX7_learn 208 = .ok (.getfield 15, 3) := by decide +kernel
theorem dX7_learn_211 : decode cX7_learn 211 = .ok (.iconst 0, 1) := by decide +kernel
theorem dX7_learn_212 : decode cX7_learn 212 = .ok (.invokevirtual 105, 3) := by decide +kernel
theorem dX7_learn_215 : decode cX7_learn 215 = .ok (.putfield 108, 3) := by decide +kernel
theorem dX7_learn_218 : decode cX7_learn 218 = .ok (.return_, 1) := by decide +kernel
theorem dX7_learnOrder_0 : decode cX7_learnOrder 0 = .ok (.iconst 1, 1) := by decide +kernel
theorem dX7_learnOrder_1 : decode cX7_learnOrder 1 = .ok (.aload_n 0, 1) := by decide +kernel
theorem dX7_learnOrder_2 : decode cX7_learnOrder 2 = .ok (.getfield 65, 3) := by decide +kernel
theorem dX7_learnOrder_5 : decode cX7_learnOrder 5 = .ok (.ishl, 1) := by decide +kernel
theorem dX7_learnOrder_6 : decode cX7_learnOrder 6 = .ok (.iconst 1, 1) := by decide +kernel
theorem dX7_learnOrder_7 : decode cX7_learnOrder 7 = .ok (.isub, 1) := by decide +kernel
theorem dX7_learnOrder_8 : decode cX7_learnOrder 8 = .ok (.istore_n 2, 1) := by decide +kernel
theorem dX7_learnOrder_9 : decode cX7_learnOrder 9 = .ok (.iload_n 1, 1) := by decide +kernel
theorem dX7_learnOrder_10 : decode cX7_learnOrder 10 = .ok (.istore_n 3, 1) := by decide +kernel
theorem dX7_learnOrder_11 : decode cX7_learnOrder 11 = .ok (.iconst 0, 1) := by decide +kernel
theorem dX7_learnOrder_12 : decode cX7_learnOrder 12 = .ok (.istore 4, 2) := by decide +kernel
theorem dX7_learnOrder_14 : decode cX7_learnOrder 14 = .ok (.iload 4, 2) := by decide +kernel
theorem dX7_learnOrder_16 : decode cX7_learnOrder 16 = .ok (.aload_n 0, 1) := by decide +kernel
theorem dX7_learnOrder_17 : decode cX7_learnOrder 17 = .ok (.getfield 65, 3) := by decide +kernel
theorem dX7_learnOrder_20 : decode cX7_learnOrder 20 = .ok (.if_icmp .ge 82, 3) := by decide +kernel
theorem dX7_learnOrder_23 : decode cX7_learnOrder 23 = .ok (.getstatic 80, 3) := by decide +kernel
theorem dX7_learnOrder_26 : decode cX7_learnOrder 26 = .ok (.aload_n 0, 1) := by decide +kernel
theorem dX7_learnOrder_27 : decode cX7_learnOrder 27 = .ok (.getfield 65, 3) := by decide +kernel
theorem dX7_learnOrder_30 : decode cX7_learnOrder 30 = .ok (.iconst 1, 1) := by decide +kernel
theorem dX7_learnOrder_31 : decode cX7_learnOrder 31 = .ok (.isub, 1) := by decide +kernel
theorem dX7_learnOrder_32 : decode cX7_learnOrder 32 = .ok (.iload 4, 2) := by decide +kernel
theorem dX7_learnOrder_34 : decode cX7_learnOrder 34 = .ok (.isub, 1) := by decide +kernel
theorem dX7_learnOrder_35 : decode cX7_learnOrder 35 = .ok (.invokestatic 83, 3) := by decide +kernel
theorem dX7_learnOrder_38 : decode cX7_learnOrder 38 = .ok (.istore 5, 2) := by decide +kernel
theorem dX7_learnOrder_40 : decode cX7_learnOrder 40 = .ok (.iload 5, 2) := by decide +kernel
theorem dX7_learnOrder_42 : decode cX7_learnOrder 42 = .ok (.ifCond .le 10, 3) := by decide +kernel
theorem dX7_learnOrder_45 : decode cX7_learnOrder 45 = .ok (.iload_n 3, 1) := by decide +kernel
theorem dX7_learnOrder_46 : decode cX7_learnOrder 46 = .ok (.iload 5, 2) := by decide +kernel
theorem dX7_learnOrder_48 : decode cX7_learnOrder 48 = .ok (.idiv, 1) := by decide +kernel
theorem dX7_learnOrder_49 : decode cX7_learnOrder 49 = .ok (.goto 4, 3) := by decide +kernel
theorem dX7_learnOrder_52 : decode cX7_learnOrder 52 = .ok (.iconst 0, 1) := by decide +kernel
theorem dX7_learnOrder_53 : decode cX7_learnOrder 53 = .ok (.istore 6, 2) := by decide +kernel
theorem dX7_learnOrder_55 : decode cX7_learnOrder 55 = .ok (.iload_n 3, 1) := by decide +kernel
theorem dX7_learnOrder_56 : decode cX7_learnOrder 56 = .ok (.iload 6, 2) := by decide +kernel
theorem dX7_learnOrder_58 : decode cX7_learnOrder 58 = .ok (.iload 5, 2) := by decide +kernel
theorem dX7_learnOrder_60 : decode cX7_learnOrder 60 = .ok (.imul, 1) := by decide +kernel
theorem dX7_learnOrder_61 : decode cX7_learnOrder 61 = .ok (.isub, 1) := by decide +kernel
theorem dX7_learnOrder_62 : decode cX7_learnOrder 62 = .ok (.istore_n 3, 1) := by decide +kernel
theorem dX7_learnOrder_63 : decode cX7_learnOrder 63 = .ok (.aload_n 0, 1) := by decide +kernel
theorem dX7_learnOrder_64 : decode cX7_learnOrder 64 = .ok (.iload_n 2, 1) := by decide +kernel
theorem dX7_learnOrder_65 : decode cX7_learnOrder 65 = .ok (.iload 6, 2) := by decide +kernel
theorem dX7_learnOrder_67 : decode cX7_learnOrder 67 = .ok (.invokevirtual 111, 3) := by decide +kernel
theorem dX7_learnOrder_70 : decode cX7_learnOrder 70 = .ok (.istore 7, 2) := by decide +kernel
theorem dX7_learnOrder_72 : decode cX7_learnOrder 72 = .ok (.iload_n 2, 1) := by decide +kernel
theorem dX7_learnOrder_73 : decode cX7_learnOrder 73 = .ok (.iconst 1, 1) := by decide +kernel
theorem dX7_learnOrder_74 : decode cX7_learnOrder 74 = .ok (.iload 7, 2) := by decide +kernel
theorem dX7_learnOrder_76 : decode cX7_learnOrder 76 = .ok (.ishl, 1) := by decide +kernel
theorem dX7_learnOrder_77 : decode cX7_learnOrder 77 = .ok (.iconst (-1), 1) := by decide +kernel
theorem dX7_learnOrder_78 : decode cX7_learnOrder 78 = .ok (.ixor, 1) := by decide +kernel
theorem dX7_learnOrder_79 : decode cX7_learnOrder 79 = .ok (.iand, 1) := by decide +kernel
theorem dX7_learnOrder_80 : decode cX7_learnOrder 80 = .ok (.istore_n 2, 1) := by decide +kernel
theorem dX7_learnOrder_81 : decode cX7_learnOrder 81 = .ok (.aload_n 0, 1) := by decide +kernel
theorem dX7_learnOrder_82 : decode cX7_learnOrder 82 = .ok (.getfield 18, 3) := by decide +kernel
theorem dX7_learnOrder_85 : decode cX7_learnOrder 85 = .ok (.iload_n 1, 1) := by decide +kernel
theorem dX7_learnOrder_86 : decode cX7_learnOrder 86 = .ok (.iconst 5, 1) := by decide +kernel
theorem dX7_learnOrder_87 : decode cX7_learnOrder 87 = .ok (.imul, 1) := by decide +kernel
theorem dX7_learnOrder_88 : decode cX7_learnOrder 88 = .ok (.iload 4, 2) := by decide +kernel
theorem dX7_learnOrder_90 : decode cX7_learnOrder 90 = .ok (.iadd, 1) := by decide +kernel
theorem dX7_learnOrder_91 : decode cX7_learnOrder 91 = .ok (.iload 7, 2) := by decide +kernel
theorem dX7_learnOrder_93 : decode cX7_learnOrder 93 = .ok (.invokestatic 76, 3) := by decide +kernel
theorem dX7_learnOrder_96 : decode cX7_learnOrder 96 = .ok (.iinc 4 1, 3) := by decide +kernel
theorem dX7_learnOrder_99 : decode cX7_learnOrder 99 = .ok (.goto (-85), 3) := by decide +kernel
theorem dX7_learnOrder_102 : decode cX7_learnOrder 102 = .ok (.return_, 1) := by decide +kernel
theorem dX7_cakeBehind_0 : decode cX7_cakeBehind 0 = .ok (.iload_n 2, 1) := by decide +kernel
theorem dX7_cakeBehind_1 : decode cX7_cakeBehind 1 = .ok (.istore_n 3, 1) := by decide +kernel
theorem dX7_cakeBehind_2 : decode cX7_cakeBehind 2 = .ok (.iconst 0, 1) := by decide +kernel
theorem dX7_cakeBehind_3 : decode cX7_cakeBehind 3 = .ok (.istore 4, 2) := by decide +kernel
theorem dX7_cakeBehind_5 : decode cX7_cakeBehind 5 = .ok (.iload 4, 2) := by decide +kernel
theorem dX7_cakeBehind_7 : decode cX7_cakeBehind 7 = .ok (.aload_n 0, 1) := by decide +kernel
theorem dX7_cakeBehind_8 : decode cX7_cakeBehind 8 = .ok (.getfield 65, 3) := by decide +kernel
theorem dX7_cakeBehind_11 : decode cX7_cakeBehind 11 = .ok (.if_icmp .ge 51, 3) := by decide +kernel
theorem dX7_cakeBehind_14 : decode cX7_cakeBehind 14 = .ok (.iload_n 1, 1) := by decide +kernel
theorem dX7_cakeBehind_15 : decode cX7_cakeBehind 15 = .ok (.iload 4, 2) := by decide +kernel
theorem dX7_cakeBehind_17 : decode cX7_cakeBehind 17 = .ok (.ishr, 1) := by decide +kernel
theorem dX7_cakeBehind_18 : decode cX7_cakeBehind 18 = .ok (.iconst 1, 1) := by decide +kernel
theorem dX7_cakeBehind_19 : decode cX7_cakeBehind 19 = .ok (.iand, 1) := by decide +kernel
theorem dX7_cakeBehind_20 : decode cX7_cakeBehind 20 = .ok (.iconst 1, 1) := by decide +kernel
theorem dX7_cakeBehind_21 : decode cX7_cakeBehind 21 = .ok (.if_icmp .ne 7, 3) := by decide +kernel
theorem dX7_cakeBehind_24 : decode cX7_cakeBehind 24 = .ok (.iconst 1, 1) := by decide +kernel
theorem dX7_cakeBehind_25 : decode cX7_cakeBehind 25 = .ok (.goto 4, 3) := by decide +kernel
theorem dX7_cakeBehind_28 : decode cX7_cakeBehind 28 = .ok (.iconst 0, 1) := by decide +kernel
theorem dX7_cakeBehind_29 : decode cX7_cakeBehind 29 = .ok (.istore 5, 2) := by decide +kernel
theorem dX7_cakeBehind_31 : decode cX7_cakeBehind 31 = .ok (.iload 5, 2) := by decide +kernel
theorem dX7_cakeBehind_33 : decode cX7_cakeBehind 33 = .ok (.ifCond .eq 10, 3) := by decide +kernel
theorem dX7_cakeBehind_36 : decode cX7_cakeBehind 36 = .ok (.iload_n 3, 1) := by decide +kernel
theorem dX7_cakeBehind_37 : decode cX7_cakeBehind 37 = .ok (.ifCond .ne 6, 3) := by decide +kernel
theorem dX7_cakeBehind_40 : decode cX7_cakeBehind 40 = .ok (.iload 4, 2) := by decide +kernel
theorem dX7_cakeBehind_42 : decode cX7_cakeBehind 42 = .ok (.ireturn, 1) := by decide +kernel
theorem dX7_cakeBehind_43 : decode cX7_cakeBehind 43 = .ok (.iload_n 3, 1) := by decide +kernel
theorem dX7_cakeBehind_44 : decode cX7_cakeBehind 44 = .ok (.iload 5, 2) := by decide +kernel
theorem dX7_cakeBehind_46 : decode cX7_cakeBehind 46 = .ok (.ifCond .eq 7, 3) := by decide +kernel
theorem dX7_cakeBehind_49 : decode cX7_cakeBehind 49 = .ok (.iconst 1, 1) := by decide +kernel
theorem dX7_cakeBehind_50 : decode cX7_cakeBehind 50 = .ok (.goto 4, 3) := by decide +kernel
theorem dX7_cakeBehind_53 : decode cX7_cakeBehind 53 = .ok (.iconst 0, 1) := by decide +kernel
theorem dX7_cakeBehind_54 : decode cX7_cakeBehind 54 = .ok (.isub, 1) := by decide +kernel
theorem dX7_cakeBehind_55 : decode cX7_cakeBehind 55 = .ok (.istore_n 3, 1) := by decide +kernel
theorem dX7_cakeBehind_56 : decode cX7_cakeBehind 56 = .ok (.iinc 4 1, 3) := by decide +kernel
theorem dX7_cakeBehind_59 : decode cX7_cakeBehind 59 = .ok (.goto (-54), 3) := by decide +kernel
theorem dX7_cakeBehind_62 : decode cX7_cakeBehind 62 = .ok (.iconst 0, 1) := by decide +kernel
theorem dX7_cakeBehind_63 : decode cX7_cakeBehind 63 = .ok (.ireturn, 1) := by decide +kernel
theorem dX7_learnTurn_0 : decode cX7_learnTurn 0 = .ok (.iconst 0, 1) := by decide +kernel
theorem dX7_learnTurn_1 : decode cX7_learnTurn 1 = .ok (.istore_n 3, 1) := by decide +kernel
theorem dX7_learnTurn_2 : decode cX7_learnTurn 2 = .ok (.iconst 0, 1) := by decide +kernel
theorem dX7_learnTurn_3 : decode cX7_learnTurn 3 = .ok (.istore 4, 2) := by decide +kernel
theorem dX7_learnTurn_5 : decode cX7_learnTurn 5 = .ok (.iconst 0, 1) := by decide +kernel
theorem dX7_learnTurn_6 : decode cX7_learnTurn 6 = .ok (.istore 5, 2) := by decide +kernel
theorem dX7_learnTurn_8 : decode cX7_learnTurn 8 = .ok (.iload 5, 2) := by decide +kernel
theorem dX7_learnTurn_10 : decode cX7_learnTurn 10 = .ok (.aload_n 0, 1) := by decide +kernel
theorem dX7_learnTurn_11 : decode cX7_learnTurn 11 = .ok (.getfield 65, 3) := by decide +kernel
theorem dX7_learnTurn_14 : decode cX7_learnTurn 14 = .ok (.if_icmp .ge 81, 3) := by decide +kernel
theorem dX7_learnTurn_17 : decode cX7_learnTurn 17 = .ok (.iload 5, 2) := by decide +kernel
theorem dX7_learnTurn_19 : decode cX7_learnTurn 19 = .ok (.iload_n 2, 1) := by decide +kernel
theorem dX7_learnTurn_20 : decode cX7_learnTurn 20 = .ok (.if_icmp .ge 12, 3) := by decide +kernel
theorem dX7_learnTurn_23 : decode cX7_learnTurn 23 = .ok (.iload_n 2, 1) := by decide +kernel
theorem dX7_learnTurn_24 : decode cX7_learnTurn 24 = .ok (.iconst 1, 1) := by decide +kernel
theorem dX7_learnTurn_25 : decode cX7_learnTurn 25 = .ok (.isub, 1) := by decide +kernel
theorem dX7_learnTurn_26 : decode cX7_learnTurn 26 = .ok (.iload 5, 2) := by decide +kernel
theorem dX7_learnTurn_28 : decode cX7_learnTurn 28 = .ok (.isub, 1) := by decide +kernel
theorem dX7_learnTurn_29 : decode cX7_learnTurn 29 = .ok (.goto 5, 3) := by decide +kernel
theorem dX7_learnTurn_32 : decode cX7_learnTurn 32 = .ok (.iload 5, 2) := by decide +kernel
theorem dX7_learnTurn_34 : decode cX7_learnTurn 34 = .ok (.istore 6, 2) := by decide +kernel
theorem dX7_learnTurn_36 : decode cX7_learnTurn 36 = .ok (.aload_n 0, 1) := by decide +kernel
theorem dX7_learnTurn_37 : decode cX7_learnTurn 37 = .ok (.getfield 18, 3) := by decide +kernel
theorem dX7_learnTurn_40 : decode cX7_learnTurn 40 = .ok (.iload_n 1, 1) := by decide +kernel
theorem dX7_learnTurn_41 : decode cX7_learnTurn 41 = .ok (.iconst 5, 1) := by decide +kernel
theorem dX7_learnTurn_42 : decode cX7_learnTurn 42 = .ok (.imul, 1) := by decide +kernel
theorem dX7_learnTurn_43 : decode cX7_learnTurn 43 = .ok (.iload 6, 2) := by decide +kernel
theorem dX7_learnTurn_45 : decode cX7_learnTurn 45 = .ok (.iadd, 1) := by decide +kernel
theorem dX7_learnTurn_46 : decode cX7_learnTurn 46 = .ok (.invokestatic 83, 3) := by decide +kernel
theorem dX7_learnTurn_49 : decode cX7_learnTurn 49 = .ok (.istore 7, 2) := by decide +kernel
theorem dX7_learnTurn_51 : decode cX7_learnTurn 51 = .ok (.aload_n 0, 1) := by decide +kernel
theorem dX7_learnTurn_52 : decode cX7_learnTurn 52 = .ok (.getfield 15, 3) := by decide +kernel
theorem dX7_learnTurn_55 : decode cX7_learnTurn 55 = .ok (.iload 5, 2) := by decide +kernel
theorem dX7_learnTurn_57 : decode cX7_learnTurn 57 = .ok (.iload 7, 2) := by decide +kernel
theorem dX7_learnTurn_59 : decode cX7_learnTurn 59 = .ok (.invokestatic 76, 3) := by decide +kernel
theorem dX7_learnTurn_62 : decode cX7_learnTurn 62 = .ok (.iload 5, 2) := by decide +kernel
theorem dX7_learnTurn_64 : decode cX7_learnTurn 64 = .ok (.iload_n 2, 1) := by decide +kernel
theorem dX7_learnTurn_65 : decode cX7_learnTurn 65 = .ok (.if_icmp .ge 24, 3) := by decide +kernel
theorem dX7_learnTurn_68 : decode cX7_learnTurn 68 = .ok (.iload_n 3, 1) := by decide +kernel
theorem dX7_learnTurn_69 : decode cX7_learnTurn 69 = .ok (.iconst 1, 1) := by decide +kernel
theorem dX7_learnTurn_70 : decode cX7_learnTurn 70 = .ok (.iload 7, 2) := by decide +kernel
theorem dX7_learnTurn_72 : decode cX7_learnTurn 72 = .ok (.ishl, 1) := by decide +kernel
theorem dX7_learnTurn_73 : decode cX7_learnTurn 73 = .ok (.ior, 1) := by decide +kernel
theorem dX7_learnTurn_74 : decode cX7_learnTurn 74 = .ok (.istore_n 3, 1) := by decide +kernel
theorem dX7_learnTurn_75 : decode cX7_learnTurn 75 = .ok (.iload 4, 2) := by decide +kernel
theorem dX7_learnTurn_77 : decode cX7_learnTurn 77 = .ok (.aload_n 0, 1) := by decide +kernel
theorem dX7_learnTurn_78 : decode cX7_learnTurn 78 = .ok (.getfield 9, 3) := by decide +kernel
theorem dX7_learnTurn_81 : decode cX7_learnTurn 81 = .ok (.iload 7, 2) := by decide +kernel
theorem dX7_learnTurn_83 : decode cX7_learnTurn 83 = .ok (.invokestatic 83, 3) := by decide +kernel
theorem dX7_learnTurn_86 : decode cX7_learnTurn 86 = .ok (.ior, 1) := by decide +kernel
theorem dX7_learnTurn_87 : decode cX7_learnTurn 87 = .ok (.istore 4, 2) := by decide +kernel
theorem dX7_learnTurn_89 : decode cX7_learnTurn 89 = .ok (.iinc 5 1, 3) := by decide +kernel
theorem dX7_learnTurn_92 : decode cX7_learnTurn 92 = .ok (.goto (-84), 3) := by decide +kernel
theorem dX7_learnTurn_95 : decode cX7_learnTurn 95 = .ok (.iload_n 1, 1) := by decide +kernel
theorem dX7_learnTurn_96 : decode cX7_learnTurn 96 = .ok (.iconst 5, 1) := by decide +kernel
theorem dX7_learnTurn_97 : decode cX7_learnTurn 97 = .ok (.imul, 1) := by decide +kernel
theorem dX7_learnTurn_98 : decode cX7_learnTurn 98 = .ok (.iload_n 2, 1) := by decide +kernel
theorem dX7_learnTurn_99 : decode cX7_learnTurn 99 = .ok (.iadd, 1) := by decide +kernel
theorem dX7_learnTurn_100 : decode cX7_learnTurn 100 = .ok (.iconst 1, 1) := by decide +kernel
theorem dX7_learnTurn_101 : decode cX7_learnTurn 101 = .ok (.isub, 1) := by decide +kernel
theorem dX7_learnTurn_102 : decode cX7_learnTurn 102 = .ok (.istore 5, 2) := by decide +kernel
theorem dX7_learnTurn_104 : decode cX7_learnTurn 104 = .ok (.aload_n 0, 1) := by decide +kernel
theorem dX7_learnTurn_105 : decode cX7_learnTurn 105 = .ok (.getfield 21, 3) := by decide +kernel
theorem dX7_learnTurn_108 : decode cX7_learnTurn 108 = .ok (.iload 5, 2) := by decide +kernel
theorem dX7_learnTurn_110 : decode cX7_learnTurn 110 = .ok (.aload_n 0, 1) := by decide +kernel
theorem dX7_learnTurn_111 : decode cX7_learnTurn 111 = .ok (.aload_n 0, 1) := by decide +kernel
theorem dX7_learnTurn_112 : decode cX7_learnTurn 112 = .ok (.getfield 15, 3) := by decide +kernel
theorem dX7_learnTurn_115 : decode cX7_learnTurn 115 = .ok (.invokevirtual 115, 3) := by decide +kernel
theorem dX7_learnTurn_118 : decode cX7_learnTurn 118 = .ok (.invokestatic 76, 3) := by decide +kernel
theorem dX7_learnTurn_121 : decode cX7_learnTurn 121 = .ok (.aload_n 0, 1) := by decide +kernel
theorem dX7_learnTurn_122 : decode cX7_learnTurn 122 = .ok (.getfield 24, 3) := by decide +kernel
theorem dX7_learnTurn_125 : decode cX7_learnTurn 125 = .ok (.iload 5, 2) := by decide +kernel
theorem dX7_learnTurn_127 : decode cX7_learnTurn 127 = .ok (.iload_n 3, 1) := by decide +kernel
theorem dX7_learnTurn_128 : decode cX7_learnTurn 128 = .ok (.invokestatic 76, 3) := by decide +kernel
theorem dX7_learnTurn_131 : decode cX7_learnTurn 131 = .ok (.aload_n 0, 1) := by decide +kernel
theorem dX7_learnTurn_132 : decode cX7_learnTurn 132 = .ok (.getfield 27, 3) := by decide +kernel
theorem dX7_learnTurn_135 : decode cX7_learnTurn 135 = .ok (.iload 5, 2) := by decide +kernel
theorem dX7_learnTurn_137 : decode cX7_learnTurn 137 = .ok (.iload 4, 2) := by decide +kernel
theorem dX7_learnTurn_139 : decode cX7_learnTurn 139 = .ok (.invokestatic 76, 3) := by decide +kernel
theorem dX7_learnTurn_142 : decode cX7_learnTurn 142 = .ok (.aload_n 0, 1) := by decide +kernel
theorem dX7_learnTurn_143 : decode cX7_learnTurn 143 = .ok (.getfield 30, 3) := by decide +kernel
theorem dX7_learnTurn_146 : decode cX7_learnTurn 146 = .ok (.iload 5, 2) := by decide +kernel
theorem dX7_learnTurn_148 : decode cX7_learnTurn 148 = .ok (.iload_n 2, 1) := by decide +kernel
theorem dX7_learnTurn_149 : decode cX7_learnTurn 149 = .ok (.iconst 1, 1) := by decide +kernel
theorem dX7_learnTurn_150 : decode cX7_learnTurn 150 = .ok (.if_icmp .le 26, 3) := by decide +kernel
theorem dX7_learnTurn_153 : decode cX7_learnTurn 153 = .ok (.aload_n 0, 1) := by decide +kernel
theorem dX7_learnTurn_154 : decode cX7_learnTurn 154 = .ok (.getfield 55, 3) := by decide +kernel
theorem dX7_learnTurn_157 : decode cX7_learnTurn 157 = .ok (.aload_n 0, 1) := by decide +kernel
theorem dX7_learnTurn_158 : decode cX7_learnTurn 158 = .ok (.getfield 15, 3) := by decide +kernel
theorem dX7_learnTurn_161 : decode cX7_learnTurn 161 = .ok (.iconst 0, 1) := by decide +kernel
theorem dX7_learnTurn_162 : decode cX7_learnTurn 162 = .ok (.invokestatic 83, 3) := by decide +kernel
theorem dX7_learnTurn_165 : decode cX7_learnTurn 165 = .ok (.invokevirtual 119, 3) := by decide +kernel
theorem dX7_learnTurn_168 : decode cX7_learnTurn 168 = .ok (.iconst 3, 1) := by decide +kernel
theorem dX7_learnTurn_169 : decode cX7_learnTurn 169 = .ok (.if_icmp .ne 7, 3) := by decide +kernel
theorem dX7_learnTurn_172 : decode cX7_learnTurn 172 = .ok (.iconst 1, 1) := by decide +kernel
theorem dX7_learnTurn_173 : decode cX7_learnTurn 173 = .ok (.goto 4, 3) := by decide +kernel
theorem dX7_learnTurn_176 : decode cX7_learnTurn 176 = .ok (.iconst 0, 1) := by decide +kernel
theorem dX7_learnTurn_177 : decode cX7_learnTurn 177 = .ok (.invokestatic 76, 3) := by decide +kernel
theorem dX7_learnTurn_180 : decode cX7_learnTurn 180 = .ok (.return_, 1) := by decide +kernel
theorem dX7_learnLaws_0 : decode cX7_learnLaws 0 = .ok (.iload_n 1, 1) := by decide +kernel
theorem dX7_learnLaws_1 : decode cX7_learnLaws 1 = .ok (.invokestatic 122, 3) := by decide +kernel
theorem dX7_learnLaws_4 : decode cX7_learnLaws 4 = .ok (.istore_n 2, 1) := by decide +kernel
theorem dX7_learnLaws_5 : decode cX7_learnLaws 5 = .ok (.iconst 0, 1) := by decide +kernel
theorem dX7_learnLaws_6 : decode cX7_learnLaws 6 = .ok (.istore_n 3, 1) := by decide +kernel
theorem dX7_learnLaws_7 : decode cX7_learnLaws 7 = .ok (.iconst 0, 1) := by decide +kernel
theorem dX7_learnLaws_8 : decode cX7_learnLaws 8 = .ok (.istore 4, 2) := by decide +kernel
theorem dX7_learnLaws_10 : decode cX7_learnLaws 10 = .ok (.iload 4, 2) := by decide +kernel
theorem dX7_learnLaws_12 : decode cX7_learnLaws 12 = .ok (.aload_n 0, 1) := by decide +kernel
theorem dX7_learnLaws_13 : decode cX7_learnLaws 13 = .ok (.getfield 65, 3) := by decide +kernel
theorem dX7_learnLaws_16 : decode cX7_learnLaws 16 = .ok (.if_icmp .ge 35, 3) := by decide +kernel
theorem dX7_learnLaws_19 : decode cX7_learnLaws 19 = .ok (.iload_n 3, 1) := by decide +kernel
theorem dX7_learnLaws_20 : decode cX7_learnLaws 20 = .ok (.iload_n 1, 1) := by decide +kernel
theorem dX7_learnLaws_21 : decode cX7_learnLaws 21 = .ok (.iload 4, 2) := by decide +kernel
theorem dX7_learnLaws_23 : decode cX7_learnLaws 23 = .ok (.ishr, 1) := by decide +kernel
theorem dX7_learnLaws_24 : decode cX7_learnLaws 24 = .ok (.iconst 1, 1) := by decide +kernel
theorem dX7_learnLaws_25 : decode cX7_learnLaws 25 = .ok (.iand, 1) := by decide +kernel
theorem dX7_learnLaws_26 : decode cX7_learnLaws 26 = .ok (.iconst 1, 1) := by decide +kernel
theorem dX7_learnLaws_27 : decode cX7_learnLaws 27 = .ok (.if_icmp .ne 15, 3) := by decide +kernel
theorem dX7_learnLaws_30 : decode cX7_learnLaws 30 = .ok (.aload_n 0, 1) := by decide +kernel
theorem dX7_learnLaws_31 : decode cX7_learnLaws 31 = .ok (.getfield 55, 3) := by decide +kernel
theorem dX7_learnLaws_34 : decode cX7_learnLaws 34 = .ok (.iload 4, 2) := by decide +kernel
theorem dX7_learnLaws_36 : decode cX7_learnLaws 36 = .ok (.invokevirtual 127, 3) := by decide +kernel
theorem dX7_learnLaws_39 : decode cX7_learnLaws 39 = .ok (.goto 4, 3) := by decide +kernel
theorem dX7_learnLaws_42 : decode cX7_learnLaws 42 = .ok (.iconst 0, 1) := by decide +kernel
theorem dX7_learnLaws_43 : decode cX7_learnLaws 43 = .ok (.iadd, 1) := by decide +kernel
theorem dX7_learnLaws_44 : decode cX7_learnLaws 44 = .ok (.istore_n 3, 1) := by decide +kernel
theorem dX7_learnLaws_45 : decode cX7_learnLaws 45 = .ok (.iinc 4 1, 3) := by decide +kernel
theorem dX7_learnLaws_48 : decode cX7_learnLaws 48 = .ok (.goto (-38), 3) := by decide +kernel
theorem dX7_learnLaws_51 : decode cX7_learnLaws 51 = .ok (.iconst 0, 1) := by decide +kernel
theorem dX7_learnLaws_52 : decode cX7_learnLaws 52 = .ok (.istore 4, 2) := by decide +kernel
theorem dX7_learnLaws_54 : decode cX7_learnLaws 54 = .ok (.iload 4, 2) := by decide +kernel
theorem dX7_learnLaws_56 : decode cX7_learnLaws 56 = .ok (.iload_n 2, 1) := by decide +kernel
theorem dX7_learnLaws_57 : decode cX7_learnLaws 57 = .ok (.if_icmp .gt 97, 3) := by decide +kernel
theorem dX7_learnLaws_60 : decode cX7_learnLaws 60 = .ok (.iload_n 1, 1) := by decide +kernel
theorem dX7_learnLaws_61 : decode cX7_learnLaws 61 = .ok (.bipush 6, 2) := by decide +kernel
theorem dX7_learnLaws_63 : decode cX7_learnLaws 63 = .ok (.imul, 1) := by decide +kernel
theorem dX7_learnLaws_64 : decode cX7_learnLaws 64 = .ok (.iload 4, 2) := by decide +kernel
theorem dX7_learnLaws_66 : decode cX7_learnLaws 66 = .ok (.iadd, 1) := by decide +kernel
theorem dX7_learnLaws_67 : decode cX7_learnLaws 67 = .ok (.istore 5, 2) := by decide +kernel
theorem dX7_learnLaws_69 : decode cX7_learnLaws 69 = .ok (.aload_n 0, 1) := by decide +kernel
theorem dX7_learnLaws_70 : decode cX7_learnLaws 70 = .ok (.getfield 55, 3) := by decide +kernel
theorem dX7_learnLaws_73 : decode cX7_learnLaws 73 = .ok (.invokevirtual 130, 3) := by decide +kernel
theorem dX7_learnLaws_76 : decode cX7_learnLaws 76 = .ok (.iload_n 2, 1) := by decide +kernel
theorem dX7_learnLaws_77 : decode cX7_learnLaws 77 = .ok (.aload_n 0, 1) := by decide +kernel
theorem dX7_learnLaws_78 : decode cX7_learnLaws 78 = .ok (.getfield 65, 3) := by decide +kernel
theorem dX7_learnLaws_81 : decode cX7_learnLaws 81 = .ok (.iload_n 2, 1) := by decide +kernel
theorem dX7_learnLaws_82 : decode cX7_learnLaws 82 = .ok (.isub, 1) := by decide +kernel
theorem dX7_learnLaws_83 : decode cX7_learnLaws 83 = .ok (.iload_n 3, 1) := by decide +kernel
theorem dX7_learnLaws_84 : decode cX7_learnLaws 84 = .ok (.iload 4, 2) := by decide +kernel
theorem dX7_learnLaws_86 : decode cX7_learnLaws 86 = .ok (.invokevirtual 134, 3) := by decide +kernel
theorem dX7_learnLaws_89 : decode cX7_learnLaws 89 = .ok (.istore 6, 2) := by decide +kernel
theorem dX7_learnLaws_91 : decode cX7_learnLaws 91 = .ok (.aload_n 0, 1) := by decide +kernel
theorem dX7_learnLaws_92 : decode cX7_learnLaws 92 = .ok (.getfield 33, 3) := by decide +kernel
theorem dX7_learnLaws_95 : decode cX7_learnLaws 95 = .ok (.iload 5, 2) := by decide +kernel
theorem dX7_learnLaws_97 : decode cX7_learnLaws 97 = .ok (.aload_n 0, 1) := by decide +kernel
theorem dX7_learnLaws_98 : decode cX7_learnLaws 98 = .ok (.getfield 55, 3) := by decide +kernel
theorem dX7_learnLaws_101 : decode cX7_learnLaws 101 = .ok (.invokevirtual 140, 3) := by decide +kernel
theorem dX7_learnLaws_104 : decode cX7_learnLaws 104 = .ok (.iload_n 2, 1) := by decide +kernel
theorem dX7_learnLaws_105 : decode cX7_learnLaws 105 = .ok (.aload_n 0, 1) := by decide +kernel
theorem dX7_learnLaws_106 : decode cX7_learnLaws 106 = .ok (.getfield 65, 3) := by decide +kernel
theorem dX7_learnLaws_109 : decode cX7_learnLaws 109 = .ok (.iload_n 2, 1) := by decide +kernel
theorem dX7_learnLaws_110 : decode cX7_learnLaws 110 = .ok (.isub, 1) := by decide +kernel
theorem dX7_learnLaws_111 : decode cX7_learnLaws 111 = .ok (.iload_n 3, 1) := by decide +kernel
theorem dX7_learnLaws_112 : decode cX7_learnLaws 112 = .ok (.iload 4, 2) := by decide +kernel
theorem dX7_learnLaws_114 : decode cX7_learnLaws 114 = .ok (.invokevirtual 134, 3) := by decide +kernel
theorem dX7_learnLaws_117 : decode cX7_learnLaws 117 = .ok (.ifCond .eq 7, 3) := by decide +kernel
theorem dX7_learnLaws_120 : decode cX7_learnLaws 120 = .ok (.iconst 1, 1) := by decide +kernel
theorem dX7_learnLaws_121 : decode cX7_learnLaws 121 = .ok (.goto 4, 3) := by decide +kernel
theorem dX7_learnLaws_124 : decode cX7_learnLaws 124 = .ok (.iconst 0, 1) := by decide +kernel
theorem dX7_learnLaws_125 : decode cX7_learnLaws 125 = .ok (.invokestatic 76, 3) := by decide +kernel
theorem dX7_learnLaws_128 : decode cX7_learnLaws 128 = .ok (.aload_n 0, 1) := by decide +kernel
theorem dX7_learnLaws_129 : decode cX7_learnLaws 129 = .ok (.getfield 36, 3) := by decide +kernel
theorem dX7_learnLaws_132 : decode cX7_learnLaws 132 = .ok (.iload 5, 2) := by decide +kernel
theorem dX7_learnLaws_134 : decode cX7_learnLaws 134 = .ok (.iconst 1, 1) := by decide +kernel
theorem dX7_learnLaws_135 : decode cX7_learnLaws 135 = .ok (.bipush 9, 2) := by decide +kernel
theorem dX7_learnLaws_137 : decode cX7_learnLaws 137 = .ok (.iload 6, 2) := by decide +kernel
theorem dX7_learnLaws_139 : decode cX7_learnLaws 139 = .ok (.invokestatic 143, 3) := by decide +kernel
theorem dX7_learnLaws_142 : decode cX7_learnLaws 142 = .ok (.invokestatic 148, 3) := by decide +kernel
theorem dX7_learnLaws_145 : decode cX7_learnLaws 145 = .ok (.invokestatic 76, 3) := by decide +kernel
theorem dX7_learnLaws_148 : decode cX7_learnLaws 148 = .ok (.iinc 4 1, 3) := by decide +kernel
theorem dX7_learnLaws_151 : decode cX7_learnLaws 151 = .ok (.goto (-97), 3) := by decide +kernel
theorem dX7_learnLaws_154 : decode cX7_learnLaws 154 = .ok (.return_, 1) := by decide +kernel
theorem dX7_cakes_0 : decode cX7_cakes 0 = .ok (.aload_n 0, 1) := by decide +kernel
theorem dX7_cakes_1 : decode cX7_cakes 1 = .ok (.getfield 65, 3) := by decide +kernel
theorem dX7_cakes_4 : decode cX7_cakes 4 = .ok (.ireturn, 1) := by decide +kernel
theorem dX7_all_0 : decode cX7_all 0 = .ok (.aload_n 0, 1) := by decide +kernel
theorem dX7_all_1 : decode cX7_all 1 = .ok (.getfield 87, 3) := by decide +kernel
theorem dX7_all_4 : decode cX7_all 4 = .ok (.aload_n 0, 1) := by decide +kernel
theorem dX7_all_5 : decode cX7_all 5 = .ok (.getfield 69, 3) := by decide +kernel
theorem dX7_all_8 : decode cX7_all 8 = .ok (.ishl, 1) := by decide +kernel
theorem dX7_all_9 : decode cX7_all 9 = .ok (.ireturn, 1) := by decide +kernel
theorem dX7_goal_0 : decode cX7_goal 0 = .ok (.aload_n 0, 1) := by decide +kernel
theorem dX7_goal_1 : decode cX7_goal 1 = .ok (.getfield 108, 3) := by decide +kernel
theorem dX7_goal_4 : decode cX7_goal 4 = .ok (.ireturn, 1) := by decide +kernel
theorem dX7_told_0 : decode cX7_told 0 = .ok (.iconst 0, 1) := by decide +kernel
theorem dX7_told_1 : decode cX7_told 1 = .ok (.istore_n 1, 1) := by decide +kernel
theorem dX7_told_2 : decode cX7_told 2 = .ok (.iload_n 1, 1) := by decide +kernel
theorem dX7_told_3 : decode cX7_told 3 = .ok (.aload_n 0, 1) := by decide +kernel
theorem dX7_told_4 : decode cX7_told 4 = .ok (.getfield 65, 3) := by decide +kernel
theorem dX7_told_7 : decode cX7_told 7 = .ok (.if_icmp .ge 18, 3) := by decide +kernel
theorem dX7_told_10 : decode cX7_told 10 = .ok (.aload_n 0, 1) := by decide +kernel
theorem dX7_told_11 : decode cX7_told 11 = .ok (.getfield 15, 3) := by decide +kernel
theorem dX7_told_14 : decode cX7_told 14 = .ok (.iload_n 1, 1) := by decide +kernel
theorem dX7_told_15 : decode cX7_told 15 = .ok (.iload_n 1, 1) := by decide +kernel
theorem dX7_told_16 : decode cX7_told 16 = .ok (.invokestatic 76, 3) := by decide +kernel
theorem dX7_told_19 : decode cX7_told 19 = .ok (.iinc 1 1, 3) := by decide +kernel
theorem dX7_told_22 : decode cX7_told 22 = .ok (.goto (-20), 3) := by decide +kernel
theorem dX7_told_25 : decode cX7_told 25 = .ok (.aload_n 0, 1) := by decide +kernel
theorem dX7_told_26 : decode cX7_told 26 = .ok (.aload_n 0, 1) := by decide +kernel
theorem dX7_told_27 : decode cX7_told 27 = .ok (.getfield 15, 3) := by decide +kernel
theorem dX7_told_30 : decode cX7_told 30 = .ok (.aload_n 0, 1) := by decide +kernel
theorem dX7_told_31 : decode cX7_told 31 = .ok (.getfield 55, 3) := by decide +kernel
theorem dX7_told_34 : decode cX7_told 34 = .ok (.invokevirtual 151, 3) := by decide +kernel
theorem dX7_told_37 : decode cX7_told 37 = .ok (.invokevirtual 105, 3) := by decide +kernel
theorem dX7_told_40 : decode cX7_told 40 = .ok (.ireturn, 1) := by decide +kernel
theorem dX7_queue_0 : decode cX7_queue 0 = .ok (.aload_n 0, 1) := by decide +kernel
theorem dX7_queue_1 : decode cX7_queue 1 = .ok (.getfield 39, 3) := by decide +kernel
theorem dX7_queue_4 : decode cX7_queue 4 = .ok (.areturn, 1) := by decide +kernel
theorem dX7_stackOf_0 : decode cX7_stackOf 0 = .ok (.iconst 0, 1) := by decide +kernel
theorem dX7_stackOf_1 : decode cX7_stackOf 1 = .ok (.istore_n 3, 1) := by decide +kernel
theorem dX7_stackOf_2 : decode cX7_stackOf 2 = .ok (.iconst 0, 1) := by decide +kernel
theorem dX7_stackOf_3 : decode cX7_stackOf 3 = .ok (.istore 4, 2) := by decide +kernel
theorem dX7_stackOf_5 : decode cX7_stackOf 5 = .ok (.iload 4, 2) := by decide +kernel
theorem dX7_stackOf_7 : decode cX7_stackOf 7 = .ok (.aload_n 0, 1) := by decide +kernel
theorem dX7_stackOf_8 : decode cX7_stackOf 8 = .ok (.getfield 65, 3) := by decide +kernel
theorem dX7_stackOf_11 : decode cX7_stackOf 11 = .ok (.if_icmp .ge 35, 3) := by decide +kernel
theorem dX7_stackOf_14 : decode cX7_stackOf 14 = .ok (.iload_n 3, 1) := by decide +kernel
theorem dX7_stackOf_15 : decode cX7_stackOf 15 = .ok (.iload_n 2, 1) := by decide +kernel
theorem dX7_stackOf_16 : decode cX7_stackOf 16 = .ok (.iload 4, 2) := by decide +kernel
theorem dX7_stackOf_18 : decode cX7_stackOf 18 = .ok (.ishr, 1) := by decide +kernel
theorem dX7_stackOf_19 : decode cX7_stackOf 19 = .ok (.iconst 1, 1) := by decide +kernel
theorem dX7_stackOf_20 : decode cX7_stackOf 20 = .ok (.iand, 1) := by decide +kernel
theorem dX7_stackOf_21 : decode cX7_stackOf 21 = .ok (.iconst 1, 1) := by decide +kernel
theorem dX7_stackOf_22 : decode cX7_stackOf 22 = .ok (.if_icmp .ne 15, 3) := by decide +kernel
theorem dX7_stackOf_25 : decode cX7_stackOf 25 = .ok (.aload_n 0, 1) := by decide +kernel
theorem dX7_stackOf_26 : decode cX7_stackOf 26 = .ok (.getfield 9, 3) := by decide +kernel
theorem dX7_stackOf_29 : decode cX7_stackOf 29 = .ok (.iload 4, 2) := by decide +kernel
theorem dX7_stackOf_31 : decode cX7_stackOf 31 = .ok (.invokestatic 83, 3) := by decide +kernel
theorem dX7_stackOf_34 : decode cX7_stackOf 34 = .ok (.goto 4, 3) := by decide +kernel
theorem dX7_stackOf_37 : decode cX7_stackOf 37 = .ok (.iconst 0, 1) := by decide +kernel
theorem dX7_stackOf_38 : decode cX7_stackOf 38 = .ok (.ior, 1) := by decide +kernel
theorem dX7_stackOf_39 : decode cX7_stackOf 39 = .ok (.istore_n 3, 1) := by decide +kernel
theorem dX7_stackOf_40 : decode cX7_stackOf 40 = .ok (.iinc 4 1, 3) := by decide +kernel
theorem dX7_stackOf_43 : decode cX7_stackOf 43 = .ok (.goto (-38), 3) := by decide +kernel
theorem dX7_stackOf_46 : decode cX7_stackOf 46 = .ok (.aload_n 0, 1) := by decide +kernel
theorem dX7_stackOf_47 : decode cX7_stackOf 47 = .ok (.aload_n 1, 1) := by decide +kernel
theorem dX7_stackOf_48 : decode cX7_stackOf 48 = .ok (.invokevirtual 115, 3) := by decide +kernel
theorem dX7_stackOf_51 : decode cX7_stackOf 51 = .ok (.aload_n 0, 1) := by decide +kernel
theorem dX7_stackOf_52 : decode cX7_stackOf 52 = .ok (.getfield 69, 3) := by decide +kernel
theorem dX7_stackOf_55 : decode cX7_stackOf 55 = .ok (.ishl, 1) := by decide +kernel
theorem dX7_stackOf_56 : decode cX7_stackOf 56 = .ok (.iload_n 3, 1) := by decide +kernel
theorem dX7_stackOf_57 : decode cX7_stackOf 57 = .ok (.ior, 1) := by decide +kernel
theorem dX7_stackOf_58 : decode cX7_stackOf 58 = .ok (.ireturn, 1) := by decide +kernel
theorem dX7_orderOf_0 : decode cX7_orderOf 0 = .ok (.iconst 0, 1) := by decide +kernel
theorem dX7_orderOf_1 : decode cX7_orderOf 1 = .ok (.istore_n 2, 1) := by decide +kernel
theorem dX7_orderOf_2 : decode cX7_orderOf 2 = .ok (.iconst 0, 1) := by decide +kernel
theorem dX7_orderOf_3 : decode cX7_orderOf 3 = .ok (.istore_n 3, 1) := by decide +kernel
theorem dX7_orderOf_4 : decode cX7_orderOf 4 = .ok (.iload_n 3, 1) := by decide +kernel
theorem dX7_orderOf_5 : decode cX7_orderOf 5 = .ok (.aload_n 0, 1) := by decide +kernel
theorem dX7_orderOf_6 : decode cX7_orderOf 6 = .ok (.getfield 65, 3) := by decide +kernel
theorem dX7_orderOf_9 : decode cX7_orderOf 9 = .ok (.if_icmp .ge 76, 3) := by decide +kernel
theorem dX7_orderOf_12 : decode cX7_orderOf 12 = .ok (.iconst 0, 1) := by decide +kernel
theorem dX7_orderOf_13 : decode cX7_orderOf 13 = .ok (.istore 4, 2) := by decide +kernel
theorem dX7_orderOf_15 : decode cX7_orderOf 15 = .ok (.iload_n 3, 1) := by decide +kernel
theorem dX7_orderOf_16 : decode cX7_orderOf 16 = .ok (.iconst 1, 1) := by decide +kernel
theorem dX7_orderOf_17 : decode cX7_orderOf 17 = .ok (.iadd, 1) := by decide +kernel
theorem dX7_orderOf_18 : decode cX7_orderOf 18 = .ok (.istore 5, 2) := by decide +kernel
theorem dX7_orderOf_20 : decode cX7_orderOf 20 = .ok (.iload 5, 2) := by decide +kernel
theorem dX7_orderOf_22 : decode cX7_orderOf 22 = .ok (.aload_n 0, 1) := by decide +kernel
theorem dX7_orderOf_23 : decode cX7_orderOf 23 = .ok (.getfield 65, 3) := by decide +kernel
theorem dX7_orderOf_26 : decode cX7_orderOf 26 = .ok (.if_icmp .ge 33, 3) := by decide +kernel
theorem dX7_orderOf_29 : decode cX7_orderOf 29 = .ok (.iload 4, 2) := by decide +kernel
theorem dX7_orderOf_31 : decode cX7_orderOf 31 = .ok (.aload_n 1, 1) := by decide +kernel
theorem dX7_orderOf_32 : decode cX7_orderOf 32 = .ok (.iload 5, 2) := by decide +kernel
theorem dX7_orderOf_34 : decode cX7_orderOf 34 = .ok (.invokestatic 83, 3) := by decide +kernel
theorem dX7_orderOf_37 : decode cX7_orderOf 37 = .ok (.aload_n 1, 1) := by decide +kernel
theorem dX7_orderOf_38 : decode cX7_orderOf 38 = .ok (.iload_n 3, 1) := by decide +kernel
theorem dX7_orderOf_39 : decode cX7_orderOf 39 = .ok (.invokestatic 83, 3) := by decide +kernel
theorem dX7_orderOf_42 : decode cX7_orderOf 42 = .ok (.if_icmp .ge 7, 3) := by decide +kernel
theorem dX7_orderOf_45 : decode cX7_orderOf 45 = .ok (.iconst 1, 1) := by decide +kernel
theorem dX7_orderOf_46 : decode cX7_orderOf 46 = .ok (.goto 4, 3) := by decide +kernel
theorem dX7_orderOf_49 : decode cX7_orderOf 49 = .ok (.iconst 0, 1) := by decide +kernel
theorem dX7_orderOf_50 : decode cX7_orderOf 50 = .ok (.iadd, 1) := by decide +kernel
theorem dX7_orderOf_51 : decode cX7_orderOf 51 = .ok (.istore 4, 2) := by decide +kernel
theorem dX7_orderOf_53 : decode cX7_orderOf 53 = .ok (.iinc 5 1, 3) := by decide +kernel
theorem dX7_orderOf_56 : decode cX7_orderOf 56 = .ok (.goto (-36), 3) := by decide +kernel
theorem dX7_orderOf_59 : decode cX7_orderOf 59 = .ok (.iload_n 2, 1) := by decide +kernel
theorem dX7_orderOf_60 : decode cX7_orderOf 60 = .ok (.iload 4, 2) := by decide +kernel
theorem dX7_orderOf_62 : decode cX7_orderOf 62 = .ok (.getstatic 80, 3) := by decide +kernel
theorem dX7_orderOf_65 : decode cX7_orderOf 65 = .ok (.aload_n 0, 1) := by decide +kernel
theorem dX7_orderOf_66 : decode cX7_orderOf 66 = .ok (.getfield 65, 3) := by decide +kernel
theorem dX7_orderOf_69 : decode cX7_orderOf 69 = .ok (.iconst 1, 1) := by decide +kernel
theorem dX7_orderOf_70 : decode cX7_orderOf 70 = .ok (.isub, 1) := by decide +kernel
theorem dX7_orderOf_71 : decode cX7_orderOf 71 = .ok (.iload_n 3, 1) := by decide +kernel
theorem dX7_orderOf_72 : decode cX7_orderOf 72 = .ok (.isub, 1) := by decide +kernel
theorem dX7_orderOf_73 : decode cX7_orderOf 73 = .ok (.invokestatic 83, 3) := by decide +kernel
theorem dX7_orderOf_76 : decode cX7_orderOf 76 = .ok (.imul, 1) := by decide +kernel
theorem dX7_orderOf_77 : decode cX7_orderOf 77 = .ok (.iadd, 1) := by decide +kernel
theorem dX7_orderOf_78 : decode cX7_orderOf 78 = .ok (.istore_n 2, 1) := by decide +kernel
theorem dX7_orderOf_79 : decode cX7_orderOf 79 = .ok (.iinc 3 1, 3) := by decide +kernel
theorem dX7_orderOf_82 : decode cX7_orderOf 82 = .ok (.goto (-78), 3) := by decide +kernel
theorem dX7_orderOf_85 : decode cX7_orderOf 85 = .ok (.iload_n 2, 1) := by decide +kernel
theorem dX7_orderOf_86 : decode cX7_orderOf 86 = .ok (.ireturn, 1) := by decide +kernel
theorem dX7_cakeIn_0 : decode cX7_cakeIn 0 = .ok (.iload_n 2, 1) := by decide +kernel
theorem dX7_cakeIn_1 : decode cX7_cakeIn 1 = .ok (.ifCond .lt 11, 3) := by decide +kernel
theorem dX7_cakeIn_4 : decode cX7_cakeIn 4 = .ok (.iload_n 2, 1) := by decide +kernel
theorem dX7_cakeIn_5 : decode cX7_cakeIn 5 = .ok (.aload_n 0, 1) := by decide +kernel
theorem dX7_cakeIn_6 : decode cX7_cakeIn 6 = .ok (.getfield 65, 3) := by decide +kernel
theorem dX7_cakeIn_9 : decode cX7_cakeIn 9 = .ok (.if_icmp .lt 7, 3) := by decide +kernel
theorem dX7_cakeIn_12 : decode cX7_cakeIn 12 = .ok (.iconst (-1), 1) := by decide +kernel
theorem dX7_cakeIn_13 : decode cX7_cakeIn 13 = .ok (.goto 20, 3) := by decide +kernel
theorem dX7_cakeIn_16 : decode cX7_cakeIn 16 = .ok (.aload_n 0, 1) := by decide +kernel
theorem dX7_cakeIn_17 : decode cX7_cakeIn 17 = .ok (.getfield 18, 3) := by decide +kernel
theorem dX7_cakeIn_20 : decode cX7_cakeIn 20 = .ok (.iload_n 1, 1) := by decide +kernel
theorem dX7_cakeIn_21 : decode cX7_cakeIn 21 = .ok (.aload_n 0, 1) := by decide +kernel
theorem dX7_cakeIn_22 : decode cX7_cakeIn 22 = .ok (.getfield 69, 3) := by decide +kernel
theorem dX7_cakeIn_25 : decode cX7_cakeIn 25 = .ok (.ishr, 1) := by decide +kernel
theorem dX7_cakeIn_26 : decode cX7_cakeIn 26 = .ok (.iconst 5, 1) := by decide +kernel
theorem dX7_cakeIn_27 : decode cX7_cakeIn 27 = .ok (.imul, 1) := by decide +kernel
theorem dX7_cakeIn_28 : decode cX7_cakeIn 28 = .ok (.iload_n 2, 1) := by decide +kernel
theorem dX7_cakeIn_29 : decode cX7_cakeIn 29 = .ok (.iadd, 1) := by decide +kernel
theorem dX7_cakeIn_30 : decode cX7_cakeIn 30 = .ok (.invokestatic 83, 3) := by decide +kernel
theorem dX7_cakeIn_33 : decode cX7_cakeIn 33 = .ok (.ireturn, 1) := by decide +kernel
theorem dX7_placeOf_0 : decode cX7_placeOf 0 = .ok (.iconst 0, 1) := by decide +kernel
theorem dX7_placeOf_1 : decode cX7_placeOf 1 = .ok (.istore_n 3, 1) := by decide +kernel
theorem dX7_placeOf_2 : decode cX7_placeOf 2 = .ok (.iload_n 3, 1) := by decide +kernel
theorem dX7_placeOf_3 : decode cX7_placeOf 3 = .ok (.aload_n 0, 1) := by decide +kernel
theorem dX7_placeOf_4 : decode cX7_placeOf 4 = .ok (.getfield 65, 3) := by decide +kernel
theorem dX7_placeOf_7 : decode cX7_placeOf 7 = .ok (.if_icmp .ge 21, 3) := by decide +kernel
theorem dX7_placeOf_10 : decode cX7_placeOf 10 = .ok (.aload_n 0, 1) := by decide +kernel
theorem dX7_placeOf_11 : decode cX7_placeOf 11 = .ok (.iload_n 1, 1) := by decide +kernel
theorem dX7_placeOf_12 : decode cX7_placeOf 12 = .ok (.iload_n 3, 1) := by decide +kernel
theorem dX7_placeOf_13 : decode cX7_placeOf 13 = .ok (.invokevirtual 154, 3) := by decide +kernel
theorem dX7_placeOf_16 : decode cX7_placeOf 16 = .ok (.iload_n 2, 1) := by decide +kernel
theorem dX7_placeOf_17 : decode cX7_placeOf 17 = .ok (.if_icmp .ne 5, 3) := by decide +kernel
theorem dX7_placeOf_20 : decode cX7_placeOf 20 = .ok (.iload_n 3, 1) := by decide +kernel
theorem dX7_placeOf_21 : decode cX7_placeOf 21 = .ok (.ireturn, 1) := by decide +kernel
theorem dX7_placeOf_22 : decode cX7_placeOf 22 = .ok (.iinc 3 1, 3) := by decide +kernel
theorem dX7_placeOf_25 : decode cX7_placeOf 25 = .ok (.goto (-23), 3) := by decide +kernel
theorem dX7_placeOf_28 : decode cX7_placeOf 28 = .ok (.iconst (-1), 1) := by decide +kernel
theorem dX7_placeOf_29 : decode cX7_placeOf 29 = .ok (.ireturn, 1) := by decide +kernel
theorem dX7_isUp_0 : decode cX7_isUp 0 = .ok (.aload_n 0, 1) := by decide +kernel
theorem dX7_isUp_1 : decode cX7_isUp 1 = .ok (.iload_n 1, 1) := by decide +kernel
theorem dX7_isUp_2 : decode cX7_isUp 2 = .ok (.invokevirtual 157, 3) := by decide +kernel
theorem dX7_isUp_5 : decode cX7_isUp 5 = .ok (.aload_n 0, 1) := by decide +kernel
theorem dX7_isUp_6 : decode cX7_isUp 6 = .ok (.getfield 9, 3) := by decide +kernel
theorem dX7_isUp_9 : decode cX7_isUp 9 = .ok (.iload_n 2, 1) := by decide +kernel
theorem dX7_isUp_10 : decode cX7_isUp 10 = .ok (.invokestatic 83, 3) := by decide +kernel
theorem dX7_isUp_13 : decode cX7_isUp 13 = .ok (.iand, 1) := by decide +kernel
theorem dX7_isUp_14 : decode cX7_isUp 14 = .ok (.ifCond .eq 7, 3) := by decide +kernel
theorem dX7_isUp_17 : decode cX7_isUp 17 = .ok (.iconst 1, 1) := by decide +kernel
theorem dX7_isUp_18 : decode cX7_isUp 18 = .ok (.goto 4, 3) := by decide +kernel
theorem dX7_isUp_21 : decode cX7_isUp 21 = .ok (.iconst 0, 1) := by decide +kernel
theorem dX7_isUp_22 : decode cX7_isUp 22 = .ok (.ireturn, 1) := by decide +kernel
theorem dX7_sideBitsOf_0 : decode cX7_sideBitsOf 0 = .ok (.iload_n 1, 1) := by decide +kernel
theorem dX7_sideBitsOf_1 : decode cX7_sideBitsOf 1 = .ok (.iconst 1, 1) := by decide +kernel
theorem dX7_sideBitsOf_2 : decode cX7_sideBitsOf 2 = .ok (.aload_n 0, 1) := by decide +kernel
theorem dX7_sideBitsOf_3 : decode cX7_sideBitsOf 3 = .ok (.getfield 69, 3) := by decide +kernel
theorem dX7_sideBitsOf_6 : decode cX7_sideBitsOf 6 = .ok (.ishl, 1) := by decide +kernel
theorem dX7_sideBitsOf_7 : decode cX7_sideBitsOf 7 = .ok (.iconst 1, 1) := by decide +kernel
theorem dX7_sideBitsOf_8 : decode cX7_sideBitsOf 8 = .ok (.isub, 1) := by decide +kernel
theorem dX7_sideBitsOf_9 : decode cX7_sideBitsOf 9 = .ok (.iand, 1) := by decide +kernel
theorem dX7_sideBitsOf_10 : decode cX7_sideBitsOf 10 = .ok (.ireturn, 1) := by decide +kernel
theorem dX7_turnEntry_0 : decode cX7_turnEntry 0 = .ok (.iload_n 1, 1) := by decide +kernel
theorem dX7_turnEntry_1 : decode cX7_turnEntry 1 = .ok (.aload_n 0, 1) := by decide +kernel
theorem dX7_turnEntry_2 : decode cX7_turnEntry 2 = .ok (.getfield 69, 3) := by decide +kernel
theorem dX7_turnEntry_5 : decode cX7_turnEntry 5 = .ok (.ishr, 1) := by decide +kernel
theorem dX7_turnEntry_6 : decode cX7_turnEntry 6 = .ok (.iconst 5, 1) := by decide +kernel
theorem dX7_turnEntry_7 : decode cX7_turnEntry 7 = .ok (.imul, 1) := by decide +kernel
theorem dX7_turnEntry_8 : decode cX7_turnEntry 8 = .ok (.iload_n 2, 1) := by decide +kernel
theorem dX7_turnEntry_9 : decode cX7_turnEntry 9 = .ok (.iadd, 1) := by decide +kernel
theorem dX7_turnEntry_10 : decode cX7_turnEntry 10 = .ok (.iconst 1, 1) := by decide +kernel
theorem dX7_turnEntry_11 : decode cX7_turnEntry 11 = .ok (.isub, 1) := by decide +kernel
theorem dX7_turnEntry_12 : decode cX7_turnEntry 12 = .ok (.ireturn, 1) := by decide +kernel
theorem dX7_lawEntry_0 : decode cX7_lawEntry 0 = .ok (.aload_n 0, 1) := by decide +kernel
theorem dX7_lawEntry_1 : decode cX7_lawEntry 1 = .ok (.iload_n 1, 1) := by decide +kernel
theorem dX7_lawEntry_2 : decode cX7_lawEntry 2 = .ok (.iload_n 2, 1) := by decide +kernel
theorem dX7_lawEntry_3 : decode cX7_lawEntry 3 = .ok (.invokevirtual 160, 3) := by decide +kernel
theorem dX7_lawEntry_6 : decode cX7_lawEntry 6 = .ok (.istore_n 3, 1) := by decide +kernel
theorem dX7_lawEntry_7 : decode cX7_lawEntry 7 = .ok (.aload_n 0, 1) := by decide +kernel
theorem dX7_lawEntry_8 : decode cX7_lawEntry 8 = .ok (.iload_n 1, 1) := by decide +kernel
theorem dX7_lawEntry_9 : decode cX7_lawEntry 9 = .ok (.invokevirtual 157, 3) := by decide +kernel
theorem dX7_lawEntry_12 : decode cX7_lawEntry 12 = .ok (.aload_n 0, 1) := by decide +kernel
theorem dX7_lawEntry_13 : decode cX7_lawEntry 13 = .ok (.getfield 27, 3) := by decide +kernel
theorem dX7_lawEntry_16 : decode cX7_lawEntry 16 = .ok (.iload_n 3, 1) := by decide +kernel
theorem dX7_lawEntry_17 : decode cX7_lawEntry 17 = .ok (.invokestatic 83, 3) := by decide +kernel
theorem dX7_lawEntry_20 : decode cX7_lawEntry 20 = .ok (.iand, 1) := by decide +kernel
theorem dX7_lawEntry_21 : decode cX7_lawEntry 21 = .ok (.invokestatic 122, 3) := by decide +kernel
theorem dX7_lawEntry_24 : decode cX7_lawEntry 24 = .ok (.istore 4, 2) := by decide +kernel
theorem dX7_lawEntry_26 : decode cX7_lawEntry 26 = .ok (.aload_n 0, 1) := by decide +kernel
theorem dX7_lawEntry_27 : decode cX7_lawEntry 27 = .ok (.getfield 24, 3) := by decide +kernel
theorem dX7_lawEntry_30 : decode cX7_lawEntry 30 = .ok (.iload_n 3, 1) := by decide +kernel
theorem dX7_lawEntry_31 : decode cX7_lawEntry 31 = .ok (.invokestatic 83, 3) := by decide +kernel
theorem dX7_lawEntry_34 : decode cX7_lawEntry 34 = .ok (.bipush 6, 2) := by decide +kernel
theorem dX7_lawEntry_36 : decode cX7_lawEntry 36 = .ok (.imul, 1) := by decide +kernel
theorem dX7_lawEntry_37 : decode cX7_lawEntry 37 = .ok (.iload 4, 2) := by decide +kernel
theorem dX7_lawEntry_39 : decode cX7_lawEntry 39 = .ok (.iadd, 1) := by decide +kernel
theorem dX7_lawEntry_40 : decode cX7_lawEntry 40 = .ok (.ireturn, 1) := by decide +kernel
theorem dX7_isOpen_0 : decode cX7_isOpen 0 = .ok (.iload_n 2, 1) := by decide +kernel
theorem dX7_isOpen_1 : decode cX7_isOpen 1 = .ok (.iconst 1, 1) := by decide +kernel
theorem dX7_isOpen_2 : decode cX7_isOpen 2 = .ok (.if_icmp .lt 47, 3) := by decide +kernel
theorem dX7_isOpen_5 : decode cX7_isOpen 5 = .ok (.iload_n 2, 1) := by decide +kernel
theorem dX7_isOpen_6 : decode cX7_isOpen 6 = .ok (.aload_n 0, 1) := by decide +kernel
theorem dX7_isOpen_7 : decode cX7_isOpen 7 = .ok (.getfield 65, 3) := by decide +kernel
theorem dX7_isOpen_10 : decode cX7_isOpen 10 = .ok (.if_icmp .gt 39, 3) := by decide +kernel
theorem dX7_isOpen_13 : decode cX7_isOpen 13 = .ok (.aload_n 0, 1) := by decide +kernel
theorem dX7_isOpen_14 : decode cX7_isOpen 14 = .ok (.getfield 30, 3) := by decide +kernel
theorem dX7_isOpen_17 : decode cX7_isOpen 17 = .ok (.aload_n 0, 1) := by decide +kernel
theorem dX7_isOpen_18 : decode cX7_isOpen 18 = .ok (.iload_n 1, 1) := by decide +kernel
theorem dX7_isOpen_19 : decode cX7_isOpen 19 = .ok (.iload_n 2, 1) := by decide +kernel
theorem dX7_isOpen_20 : decode cX7_isOpen 20 = .ok (.invokevirtual 160, 3) := by decide +kernel
theorem dX7_isOpen_23 : decode cX7_isOpen 23 = .ok (.invokestatic 83, 3) := by decide +kernel
theorem dX7_isOpen_26 : decode cX7_isOpen 26 = .ok (.ifCond .ne 23, 3) := by decide +kernel
theorem dX7_isOpen_29 : decode cX7_isOpen 29 = .ok (.aload_n 0, 1) := by decide +kernel
theorem dX7_isOpen_30 : decode cX7_isOpen 30 = .ok (.getfield 33, 3) := by decide +kernel
theorem dX7_isOpen_33 : decode cX7_isOpen 33 = .ok (.aload_n 0, 1) := by decide +kernel
theorem dX7_isOpen_34 : decode cX7_isOpen 34 = .ok (.iload_n 1, 1) := by decide +kernel
theorem dX7_isOpen_35 : decode cX7_isOpen 35 = .ok (.iload_n 2, 1) := by decide +kernel
theorem dX7_isOpen_36 : decode cX7_isOpen 36 = .ok (.invokevirtual 163, 3) := by decide +kernel
theorem dX7_isOpen_39 : decode cX7_isOpen 39 = .ok (.invokestatic 83, 3) := by decide +kernel
theorem dX7_isOpen_42 : decode cX7_isOpen 42 = .ok (.ifCond .ne 7, 3) := by decide +kernel
theorem dX7_isOpen_45 : decode cX7_isOpen 45 = .ok (.iconst 1, 1) := by decide +kernel
theorem dX7_isOpen_46 : decode cX7_isOpen 46 = .ok (.goto 4, 3) := by decide +kernel
theorem dX7_isOpen_49 : decode cX7_isOpen 49 = .ok (.iconst 0, 1) := by decide +kernel
theorem dX7_isOpen_50 : decode cX7_isOpen 50 = .ok (.ireturn, 1) := by decide +kernel
theorem dX7_priceOf_0 : decode cX7_priceOf 0 = .ok (.aload_n 0, 1) := by decide +kernel
theorem dX7_priceOf_1 : decode cX7_priceOf 1 = .ok (.getfield 36, 3) := by decide +kernel
theorem dX7_priceOf_4 : decode cX7_priceOf 4 = .ok (.aload_n 0, 1) := by decide +kernel
theorem dX7_priceOf_5 : decode cX7_priceOf 5 = .ok (.iload_n 1, 1) := by decide +kernel
theorem dX7_priceOf_6 : decode cX7_priceOf 6 = .ok (.iload_n 2, 1) := by decide +kernel
theorem dX7_priceOf_7 : decode cX7_priceOf 7 = .ok (.invokevirtual 163, 3) := by decide +kernel
theorem dX7_priceOf_10 : decode cX7_priceOf 10 = .ok (.invokestatic 83, 3) := by decide +kernel
theorem dX7_priceOf_13 : decode cX7_priceOf 13 = .ok (.ireturn, 1) := by decide +kernel
theorem dX7_turned_0 : decode cX7_turned 0 = .ok (.iload_n 2, 1) := by decide +kernel
theorem dX7_turned_1 : decode cX7_turned 1 = .ok (.iconst 1, 1) := by decide +kernel
theorem dX7_turned_2 : decode cX7_turned 2 = .ok (.if_icmp .lt 11, 3) := by decide +kernel
theorem dX7_turned_5 : decode cX7_turned 5 = .ok (.iload_n 2, 1) := by decide +kernel
theorem dX7_turned_6 : decode cX7_turned 6 = .ok (.aload_n 0, 1) := by decide +kernel
theorem dX7_turned_7 : decode cX7_turned 7 = .ok (.getfield 65, 3) := by decide +kernel
theorem dX7_turned_10 : decode cX7_turned 10 = .ok (.if_icmp .le 5, 3) := by decide +kernel
theorem dX7_turned_13 : decode cX7_turned 13 = .ok (.iload_n 1, 1) := by decide +kernel
theorem dX7_turned_14 : decode cX7_turned 14 = .ok (.ireturn, 1) := by decide +kernel
theorem dX7_turned_15 : decode cX7_turned 15 = .ok (.aload_n 0, 1) := by decide +kernel
theorem dX7_turned_16 : decode cX7_turned 16 = .ok (.iload_n 1, 1) := by decide +kernel
theorem dX7_turned_17 : decode cX7_turned 17 = .ok (.iload_n 2, 1) := by decide +kernel
theorem dX7_turned_18 : decode cX7_turned 18 = .ok (.invokevirtual 160, 3) := by decide +kernel
theorem dX7_turned_21 : decode cX7_turned 21 = .ok (.istore_n 3, 1) := by decide +kernel
theorem dX7_turned_22 : decode cX7_turned 22 = .ok (.aload_n 0, 1) := by decide +kernel
theorem dX7_turned_23 : decode cX7_turned 23 = .ok (.getfield 21, 3) := by decide +kernel
theorem dX7_turned_26 : decode cX7_turned 26 = .ok (.iload_n 3, 1) := by decide +kernel
theorem dX7_turned_27 : decode cX7_turned 27 = .ok (.invokestatic 83, 3) := by decide +kernel
theorem dX7_turned_30 : decode cX7_turned 30 = .ok (.aload_n 0, 1) := by decide +kernel
theorem dX7_turned_31 : decode cX7_turned 31 = .ok (.getfield 69, 3) := by decide +kernel
theorem dX7_turned_34 : decode cX7_turned 34 = .ok (.ishl, 1) := by decide +kernel
theorem dX7_turned_35 : decode cX7_turned 35 = .ok (.aload_n 0, 1) := by decide +kernel
theorem dX7_turned_36 : decode cX7_turned 36 = .ok (.iload_n 1, 1) := by decide +kernel
theorem dX7_turned_37 : decode cX7_turned 37 = .ok (.invokevirtual 157, 3) := by decide +kernel
theorem dX7_turned_40 : decode cX7_turned 40 = .ok (.aload_n 0, 1) := by decide +kernel
theorem dX7_turned_41 : decode cX7_turned 41 = .ok (.getfield 27, 3) := by decide +kernel
theorem dX7_turned_44 : decode cX7_turned 44 = .ok (.iload_n 3, 1) := by decide +kernel
theorem dX7_turned_45 : decode cX7_turned 45 = .ok (.invokestatic 83, 3) := by decide +kernel
theorem dX7_turned_48 : decode cX7_turned 48 = .ok (.ixor, 1) := by decide +kernel
theorem dX7_turned_49 : decode cX7_turned 49 = .ok (.ior, 1) := by decide +kernel
theorem dX7_turned_50 : decode cX7_turned 50 = .ok (.ireturn, 1) := by decide +kernel
theorem dX7_numberOf_0 : decode cX7_numberOf 0 = .ok (.iload_n 1, 1) := by decide +kernel
theorem dX7_numberOf_1 : decode cX7_numberOf 1 = .ok (.aload_n 0, 1) := by decide +kernel
theorem dX7_numberOf_2 : decode cX7_numberOf 2 = .ok (.getfield 69, 3) := by decide +kernel
theorem dX7_numberOf_5 : decode cX7_numberOf 5 = .ok (.ishr, 1) := by decide +kernel
theorem dX7_numberOf_6 : decode cX7_numberOf 6 = .ok (.istore_n 2, 1) := by decide +kernel
theorem dX7_numberOf_7 : decode cX7_numberOf 7 = .ok (.iconst 0, 1) := by decide +kernel
theorem dX7_numberOf_8 : decode cX7_numberOf 8 = .ok (.istore_n 3, 1) := by decide +kernel
theorem dX7_numberOf_9 : decode cX7_numberOf 9 = .ok (.iload_n 3, 1) := by decide +kernel
theorem dX7_numberOf_10 : decode cX7_numberOf 10 = .ok (.aload_n 0, 1) := by decide +kernel
theorem dX7_numberOf_11 : decode cX7_numberOf 11 = .ok (.getfield 65, 3) := by decide +kernel
theorem dX7_numberOf_14 : decode cX7_numberOf 14 = .ok (.if_icmp .ge 49, 3) := by decide +kernel
theorem dX7_numberOf_17 : decode cX7_numberOf 17 = .ok (.aload_n 0, 1) := by decide +kernel
theorem dX7_numberOf_18 : decode cX7_numberOf 18 = .ok (.iload_n 1, 1) := by decide +kernel
theorem dX7_numberOf_19 : decode cX7_numberOf 19 = .ok (.iload_n 3, 1) := by decide +kernel
theorem dX7_numberOf_20 : decode cX7_numberOf 20 = .ok (.invokevirtual 154, 3) := by decide +kernel
theorem dX7_numberOf_23 : decode cX7_numberOf 23 = .ok (.istore 4, 2) := by decide +kernel
theorem dX7_numberOf_25 : decode cX7_numberOf 25 = .ok (.aload_n 0, 1) := by decide +kernel
theorem dX7_numberOf_26 : decode cX7_numberOf 26 = .ok (.getfield 55, 3) := by decide +kernel
theorem dX7_numberOf_29 : decode cX7_numberOf 29 = .ok (.iload 4, 2) := by decide +kernel
theorem dX7_numberOf_31 : decode cX7_numberOf 31 = .ok (.invokevirtual 72, 3) := by decide +kernel
theorem dX7_numberOf_34 : decode cX7_numberOf 34 = .ok (.ifCond .eq 23, 3) := by decide +kernel
theorem dX7_numberOf_37 : decode cX7_numberOf 37 = .ok (.iload_n 2, 1) := by decide +kernel
theorem dX7_numberOf_38 : decode cX7_numberOf 38 = .ok (.iconst 2, 1) := by decide +kernel
theorem dX7_numberOf_39 : decode cX7_numberOf 39 = .ok (.imul, 1) := by decide +kernel
theorem dX7_numberOf_40 : decode cX7_numberOf 40 = .ok (.aload_n 0, 1) := by decide +kernel
theorem dX7_numberOf_41 : decode cX7_numberOf 41 = .ok (.iload_n 1, 1) := by decide +kernel
theorem dX7_numberOf_42 : decode cX7_numberOf 42 = .ok (.iload 4, 2) := by decide +kernel
theorem dX7_numberOf_44 : decode cX7_numberOf 44 = .ok (.invokevirtual 166, 3) := by decide +kernel
theorem dX7_numberOf_47 : decode cX7_numberOf 47 = .ok (.ifCond .eq 7, 3) := by decide +kernel
theorem dX7_numberOf_50 : decode cX7_numberOf 50 = .ok (.iconst 1, 1) := by decide +kernel
theorem dX7_numberOf_51 : decode cX7_numberOf 51 = .ok (.goto 4, 3) := by decide +kernel
theorem dX7_numberOf_54 : decode cX7_numberOf 54 = .ok (.iconst 0, 1) := by decide +kernel
theorem dX7_numberOf_55 : decode cX7_numberOf 55 = .ok (.iadd, 1) := by decide +kernel
theorem dX7_numberOf_56 : decode cX7_numberOf 56 = .ok (.istore_n 2, 1) := by decide +kernel
theorem dX7_numberOf_57 : decode cX7_numberOf 57 = .ok (.iinc 3 1, 3) := by decide +kernel
theorem dX7_numberOf_60 : decode cX7_numberOf 60 = .ok (.goto (-51), 3) := by decide +kernel
theorem dX7_numberOf_63 : decode cX7_numberOf 63 = .ok (.iload_n 2, 1) := by decide +kernel
theorem dX7_numberOf_64 : decode cX7_numberOf 64 = .ok (.ireturn, 1) := by decide +kernel
theorem dX7_pairsIn_0 : decode cX7_pairsIn 0 = .ok (.iconst 0, 1) := by decide +kernel
theorem dX7_pairsIn_1 : decode cX7_pairsIn 1 = .ok (.istore_n 2, 1) := by decide +kernel
theorem dX7_pairsIn_2 : decode cX7_pairsIn 2 = .ok (.iconst 0, 1) := by decide +kernel
theorem dX7_pairsIn_3 : decode cX7_pairsIn 3 = .ok (.istore_n 3, 1) := by decide +kernel
theorem dX7_pairsIn_4 : decode cX7_pairsIn 4 = .ok (.iload_n 3, 1) := by decide +kernel
theorem dX7_pairsIn_5 : decode cX7_pairsIn 5 = .ok (.aload_n 0, 1) := by decide +kernel
theorem dX7_pairsIn_6 : decode cX7_pairsIn 6 = .ok (.getfield 65, 3) := by decide +kernel
theorem dX7_pairsIn_9 : decode cX7_pairsIn 9 = .ok (.if_icmp .ge 71, 3) := by decide +kernel
theorem dX7_pairsIn_12 : decode cX7_pairsIn 12 = .ok (.iload_n 3, 1) := by decide +kernel
theorem dX7_pairsIn_13 : decode cX7_pairsIn 13 = .ok (.iconst 1, 1) := by decide +kernel
theorem dX7_pairsIn_14 : decode cX7_pairsIn 14 = .ok (.iadd, 1) := by decide +kernel
theorem dX7_pairsIn_15 : decode cX7_pairsIn 15 = .ok (.istore 4, 2) := by decide +kernel
theorem dX7_pairsIn_17 : decode cX7_pairsIn 17 = .ok (.iload 4, 2) := by decide +kernel
theorem dX7_pairsIn_19 : decode cX7_pairsIn 19 = .ok (.aload_n 0, 1) := by decide +kernel
theorem dX7_pairsIn_20 : decode cX7_pairsIn 20 = .ok (.getfield 65, 3) := by decide +kernel
theorem dX7_pairsIn_23 : decode cX7_pairsIn 23 = .ok (.if_icmp .ge 51, 3) := by decide +kernel
theorem dX7_pairsIn_26 : decode cX7_pairsIn 26 = .ok (.aload_n 0, 1) := by decide +kernel
theorem dX7_pairsIn_27 : decode cX7_pairsIn 27 = .ok (.getfield 55, 3) := by decide +kernel
theorem dX7_pairsIn_30 : decode cX7_pairsIn 30 = .ok (.aload_n 0, 1) := by decide +kernel
theorem dX7_pairsIn_31 : decode cX7_pairsIn 31 = .ok (.iload_n 1, 1) := by decide +kernel
theorem dX7_pairsIn_32 : decode cX7_pairsIn 32 = .ok (.iload_n 3, 1) := by decide +kernel
theorem dX7_pairsIn_33 : decode cX7_pairsIn 33 = .ok (.invokevirtual 154, 3) := by decide +kernel
theorem dX7_pairsIn_36 : decode cX7_pairsIn 36 = .ok (.invokevirtual 170, 3) := by decide +kernel
theorem dX7_pairsIn_39 : decode cX7_pairsIn 39 = .ok (.istore 5, 2) := by decide +kernel
theorem dX7_pairsIn_41 : decode cX7_pairsIn 41 = .ok (.iload_n 2, 1) := by decide +kernel
theorem dX7_pairsIn_42 : decode cX7_pairsIn 42 = .ok (.aload_n 0, 1) := by decide +kernel
theorem dX7_pairsIn_43 : decode cX7_pairsIn 43 = .ok (.getfield 55, 3) := by decide +kernel
theorem dX7_pairsIn_46 : decode cX7_pairsIn 46 = .ok (.aload_n 0, 1) := by decide +kernel
theorem dX7_pairsIn_47 : decode cX7_pairsIn 47 = .ok (.iload_n 1, 1) := by decide +kernel
theorem dX7_pairsIn_48 : decode cX7_pairsIn 48 = .ok (.iload 4, 2) := by decide +kernel
theorem dX7_pairsIn_50 : decode cX7_pairsIn 50 = .ok (.invokevirtual 154, 3) := by decide +kernel
theorem dX7_pairsIn_53 : decode cX7_pairsIn 53 = .ok (.invokevirtual 170, 3) := by decide +kernel
theorem dX7_pairsIn_56 : decode cX7_pairsIn 56 = .ok (.iload 5, 2) := by decide +kernel
theorem dX7_pairsIn_58 : decode cX7_pairsIn 58 = .ok (.if_icmp .ge 7, 3) := by decide +kernel
theorem dX7_pairsIn_61 : decode cX7_pairsIn 61 = .ok (.iconst 1, 1) := by decide +kernel
theorem dX7_pairsIn_62 : decode cX7_pairsIn 62 = .ok (.goto 4, 3) := by decide +kernel
theorem dX7_pairsIn_65 : decode cX7_pairsIn 65 = .ok (.iconst 0, 1) := by decide +kernel
theorem dX7_pairsIn_66 : decode cX7_pairsIn 66 = .ok (.iadd, 1) := by decide +kernel
theorem dX7_pairsIn_67 : decode cX7_pairsIn 67 = .ok (.istore_n 2, 1) := by decide +kernel
theorem dX7_pairsIn_68 : decode cX7_pairsIn 68 = .ok (.iinc 4 1, 3) := by decide +kernel
theorem dX7_pairsIn_71 : decode cX7_pairsIn 71 = .ok (.goto (-54), 3) := by decide +kernel
theorem dX7_pairsIn_74 : decode cX7_pairsIn 74 = .ok (.iinc 3 1, 3) := by decide +kernel
theorem dX7_pairsIn_77 : decode cX7_pairsIn 77 = .ok (.goto (-73), 3) := by decide +kernel
theorem dX7_pairsIn_80 : decode cX7_pairsIn 80 = .ok (.iload_n 2, 1) := by decide +kernel
theorem dX7_pairsIn_81 : decode cX7_pairsIn 81 = .ok (.ireturn, 1) := by decide +kernel
theorem dX7_gapsIn_0 : decode cX7_gapsIn 0 = .ok (.iconst 0, 1) := by decide +kernel
theorem dX7_gapsIn_1 : decode cX7_gapsIn 1 = .ok (.istore_n 2, 1) := by decide +kernel
theorem dX7_gapsIn_2 : decode cX7_gapsIn 2 = .ok (.iconst 0, 1) := by decide +kernel
theorem dX7_gapsIn_3 : decode cX7_gapsIn 3 = .ok (.istore_n 3, 1) := by decide +kernel
theorem dX7_gapsIn_4 : decode cX7_gapsIn 4 = .ok (.iload_n 3, 1) := by decide +kernel
theorem dX7_gapsIn_5 : decode cX7_gapsIn 5 = .ok (.aload_n 0, 1) := by decide +kernel
theorem dX7_gapsIn_6 : decode cX7_gapsIn 6 = .ok (.getfield 65, 3) := by decide +kernel
theorem dX7_gapsIn_9 : decode cX7_gapsIn 9 = .ok (.if_icmp .ge 26, 3) := by decide +kernel
theorem dX7_gapsIn_12 : decode cX7_gapsIn 12 = .ok (.iload_n 2, 1) := by decide +kernel
theorem dX7_gapsIn_13 : decode cX7_gapsIn 13 = .ok (.aload_n 0, 1) := by decide +kernel
theorem dX7_gapsIn_14 : decode cX7_gapsIn 14 = .ok (.iload_n 1, 1) := by decide +kernel
theorem dX7_gapsIn_15 : decode cX7_gapsIn 15 = .ok (.iload_n 3, 1) := by decide +kernel
theorem dX7_gapsIn_16 : decode cX7_gapsIn 16 = .ok (.invokevirtual 173, 3) := by decide +kernel
theorem dX7_gapsIn_19 : decode cX7_gapsIn 19 = .ok (.ifCond .eq 7, 3) := by decide +kernel
theorem dX7_gapsIn_22 : decode cX7_gapsIn 22 = .ok (.iconst 1, 1) := by decide +kernel
theorem dX7_gapsIn_23 : decode cX7_gapsIn 23 = .ok (.goto 4, 3) := by decide +kernel
theorem dX7_gapsIn_26 : decode cX7_gapsIn 26 = .ok (.iconst 0, 1) := by decide +kernel
theorem dX7_gapsIn_27 : decode cX7_gapsIn 27 = .ok (.iadd, 1) := by decide +kernel
theorem dX7_gapsIn_28 : decode cX7_gapsIn 28 = .ok (.istore_n 2, 1) := by decide +kernel
theorem dX7_gapsIn_29 : decode cX7_gapsIn 29 = .ok (.iinc 3 1, 3) := by decide +kernel
theorem dX7_gapsIn_32 : decode cX7_gapsIn 32 = .ok (.goto (-28), 3) := by decide +kernel
theorem dX7_gapsIn_35 : decode cX7_gapsIn 35 = .ok (.iload_n 2, 1) := by decide +kernel
theorem dX7_gapsIn_36 : decode cX7_gapsIn 36 = .ok (.ireturn, 1) := by decide +kernel
theorem dX7_isGap_0 : decode cX7_isGap 0 = .ok (.aload_n 0, 1) := by decide +kernel
theorem dX7_isGap_1 : decode cX7_isGap 1 = .ok (.iload_n 1, 1) := by decide +kernel
theorem dX7_isGap_2 : decode cX7_isGap 2 = .ok (.iload_n 2, 1) := by decide +kernel
theorem dX7_isGap_3 : decode cX7_isGap 3 = .ok (.invokevirtual 154, 3) := by decide +kernel
theorem dX7_isGap_6 : decode cX7_isGap 6 = .ok (.istore_n 3, 1) := by decide +kernel
theorem dX7_isGap_7 : decode cX7_isGap 7 = .ok (.aload_n 0, 1) := by decide +kernel
theorem dX7_isGap_8 : decode cX7_isGap 8 = .ok (.getfield 55, 3) := by decide +kernel
theorem dX7_isGap_11 : decode cX7_isGap 11 = .ok (.iload_n 3, 1) := by decide +kernel
theorem dX7_isGap_12 : decode cX7_isGap 12 = .ok (.invokevirtual 101, 3) := by decide +kernel
theorem dX7_isGap_15 : decode cX7_isGap 15 = .ok (.istore 4, 2) := by decide +kernel
theorem dX7_isGap_17 : decode cX7_isGap 17 = .ok (.iload_n 2, 1) := by decide +kernel
theorem dX7_isGap_18 : decode cX7_isGap 18 = .ok (.iconst 1, 1) := by decide +kernel
theorem dX7_isGap_19 : decode cX7_isGap 19 = .ok (.iadd, 1) := by decide +kernel
theorem dX7_isGap_20 : decode cX7_isGap 20 = .ok (.aload_n 0, 1) := by decide +kernel
theorem dX7_isGap_21 : decode cX7_isGap 21 = .ok (.getfield 65, 3) := by decide +kernel
theorem dX7_isGap_24 : decode cX7_isGap 24 = .ok (.if_icmp .lt 30, 3) := by decide +kernel
theorem dX7_isGap_27 : decode cX7_isGap 27 = .ok (.iload 4, 2) := by decide +kernel
theorem dX7_isGap_29 : decode cX7_isGap 29 = .ok (.iconst 1, 1) := by decide +kernel
theorem dX7_isGap_30 : decode cX7_isGap 30 = .ok (.iadd, 1) := by decide +kernel
theorem dX7_isGap_31 : decode cX7_isGap 31 = .ok (.aload_n 0, 1) := by decide +kernel
theorem dX7_isGap_32 : decode cX7_isGap 32 = .ok (.getfield 65, 3) := by decide +kernel
theorem dX7_isGap_35 : decode cX7_isGap 35 = .ok (.if_icmp .ne 13, 3) := by decide +kernel
theorem dX7_isGap_38 : decode cX7_isGap 38 = .ok (.aload_n 0, 1) := by decide +kernel
theorem dX7_isGap_39 : decode cX7_isGap 39 = .ok (.iload_n 1, 1) := by decide +kernel
theorem dX7_isGap_40 : decode cX7_isGap 40 = .ok (.iload_n 3, 1) := by decide +kernel
theorem dX7_isGap_41 : decode cX7_isGap 41 = .ok (.iconst 0, 1) := by decide +kernel
theorem dX7_isGap_42 : decode cX7_isGap 42 = .ok (.invokevirtual 176, 3) := by decide +kernel
theorem dX7_isGap_45 : decode cX7_isGap 45 = .ok (.ifCond .ne 7, 3) := by decide +kernel
theorem dX7_isGap_48 : decode cX7_isGap 48 = .ok (.iconst 1, 1) := by decide +kernel
theorem dX7_isGap_49 : decode cX7_isGap 49 = .ok (.goto 4, 3) := by decide +kernel
theorem dX7_isGap_52 : decode cX7_isGap 52 = .ok (.iconst 0, 1) := by decide +kernel
theorem dX7_isGap_53 : decode cX7_isGap 53 = .ok (.ireturn, 1) := by decide +kernel
theorem dX7_isGap_54 : decode cX7_isGap 54 = .ok (.aload_n 0, 1) := by decide +kernel
theorem dX7_isGap_55 : decode cX7_isGap 55 = .ok (.iload_n 1, 1) := by decide +kernel
theorem dX7_isGap_56 : decode cX7_isGap 56 = .ok (.iload_n 2, 1) := by decide +kernel
theorem dX7_isGap_57 : decode cX7_isGap 57 = .ok (.iconst 1, 1) := by decide +kernel
theorem dX7_isGap_58 : decode cX7_isGap 58 = .ok (.iadd, 1) := by decide +kernel
theorem dX7_isGap_59 : decode cX7_isGap 59 = .ok (.invokevirtual 154, 3) := by decide +kernel
theorem dX7_isGap_62 : decode cX7_isGap 62 = .ok (.istore 5, 2) := by decide +kernel
theorem dX7_isGap_64 : decode cX7_isGap 64 = .ok (.aload_n 0, 1) := by decide +kernel
theorem dX7_isGap_65 : decode cX7_isGap 65 = .ok (.getfield 55, 3) := by decide +kernel
theorem dX7_isGap_68 : decode cX7_isGap 68 = .ok (.iload 5, 2) := by decide +kernel
theorem dX7_isGap_70 : decode cX7_isGap 70 = .ok (.invokevirtual 101, 3) := by decide +kernel
theorem dX7_isGap_73 : decode cX7_isGap 73 = .ok (.istore 6, 2) := by decide +kernel
theorem dX7_isGap_75 : decode cX7_isGap 75 = .ok (.iload 6, 2) := by decide +kernel
theorem dX7_isGap_77 : decode cX7_isGap 77 = .ok (.iload 4, 2) := by decide +kernel
theorem dX7_isGap_79 : decode cX7_isGap 79 = .ok (.iconst 1, 1) := by decide +kernel
theorem dX7_isGap_80 : decode cX7_isGap 80 = .ok (.isub, 1) := by decide +kernel
theorem dX7_isGap_81 : decode cX7_isGap 81 = .ok (.if_icmp .ne 7, 3) := by decide +kernel
theorem dX7_isGap_84 : decode cX7_isGap 84 = .ok (.iconst 1, 1) := by decide +kernel
theorem dX7_isGap_85 : decode cX7_isGap 85 = .ok (.goto 4, 3) := by decide +kernel
theorem dX7_isGap_88 : decode cX7_isGap 88 = .ok (.iconst 0, 1) := by decide +kernel
theorem dX7_isGap_89 : decode cX7_isGap 89 = .ok (.istore 7, 2) := by decide +kernel
theorem dX7_isGap_91 : decode cX7_isGap 91 = .ok (.iload 7, 2) := by decide +kernel
theorem dX7_isGap_93 : decode cX7_isGap 93 = .ok (.ifCond .ne 12, 3) := by decide +kernel
theorem dX7_isGap_96 : decode cX7_isGap 96 = .ok (.iload 6, 2) := by decide +kernel
theorem dX7_isGap_98 : decode cX7_isGap 98 = .ok (.iload 4, 2) := by decide +kernel
theorem dX7_isGap_100 : decode cX7_isGap 100 = .ok (.iconst 1, 1) := by decide +kernel
theorem dX7_isGap_101 : decode cX7_isGap 101 = .ok (.iadd, 1) := by decide +kernel
theorem dX7_isGap_102 : decode cX7_isGap 102 = .ok (.if_icmp .ne 7, 3) := by decide +kernel
theorem dX7_isGap_105 : decode cX7_isGap 105 = .ok (.iconst 1, 1) := by decide +kernel
theorem dX7_isGap_106 : decode cX7_isGap 106 = .ok (.goto 4, 3) := by decide +kernel
theorem dX7_isGap_109 : decode cX7_isGap 109 = .ok (.iconst 0, 1) := by decide +kernel
theorem dX7_isGap_110 : decode cX7_isGap 110 = .ok (.istore 8, 2) := by decide +kernel
theorem dX7_isGap_112 : decode cX7_isGap 112 = .ok (.iload 8, 2) := by decide +kernel
theorem dX7_isGap_114 : decode cX7_isGap 114 = .ok (.ifCond .eq 26, 3) := by decide +kernel
theorem dX7_isGap_117 : decode cX7_isGap 117 = .ok (.aload_n 0, 1) := by decide +kernel
theorem dX7_isGap_118 : decode cX7_isGap 118 = .ok (.iload_n 1, 1) := by decide +kernel
theorem dX7_isGap_119 : decode cX7_isGap 119 = .ok (.iload_n 3, 1) := by decide +kernel
theorem dX7_isGap_120 : decode cX7_isGap 120 = .ok (.iload 7, 2) := by decide +kernel
theorem dX7_isGap_122 : decode cX7_isGap 122 = .ok (.invokevirtual 176, 3) := by decide +kernel
theorem dX7_isGap_125 : decode cX7_isGap 125 = .ok (.ifCond .eq 15, 3) := by decide +kernel
theorem dX7_isGap_128 : decode cX7_isGap 128 = .ok (.aload_n 0, 1) := by decide +kernel
theorem dX7_isGap_129 : decode cX7_isGap 129 = .ok (.iload_n 1, 1) := by decide +kernel
theorem dX7_isGap_130 : decode cX7_isGap 130 = .ok (.iload 5, 2) := by decide +kernel
theorem dX7_isGap_132 : decode cX7_isGap 132 = .ok (.iload 7, 2) := by decide +kernel
theorem dX7_isGap_134 : decode cX7_isGap 134 = .ok (.invokevirtual 176, 3) := by decide +kernel
theorem dX7_isGap_137 : decode cX7_isGap 137 = .ok (.ifCond .ne 7, 3) := by decide +kernel
theorem dX7_isGap_140 : decode cX7_isGap 140 = .ok (.iconst 1, 1) := by decide +kernel
theorem dX7_isGap_141 : decode cX7_isGap 141 = .ok (.goto 4, 3) := by decide +kernel
theorem dX7_isGap_144 : decode cX7_isGap 144 = .ok (.iconst 0, 1) := by decide +kernel
theorem dX7_isGap_145 : decode cX7_isGap 145 = .ok (.ireturn, 1) := by decide +kernel
theorem dX7_mayLie_0 : decode cX7_mayLie 0 = .ok (.aload_n 0, 1) := by decide +kernel
theorem dX7_mayLie_1 : decode cX7_mayLie 1 = .ok (.getfield 55, 3) := by decide +kernel
theorem dX7_mayLie_4 : decode cX7_mayLie 4 = .ok (.iload_n 2, 1) := by decide +kernel
theorem dX7_mayLie_5 : decode cX7_mayLie 5 = .ok (.invokevirtual 72, 3) := by decide +kernel
theorem dX7_mayLie_8 : decode cX7_mayLie 8 = .ok (.ifCond .eq 13, 3) := by decide +kernel
theorem dX7_mayLie_11 : decode cX7_mayLie 11 = .ok (.aload_n 0, 1) := by decide +kernel
theorem dX7_mayLie_12 : decode cX7_mayLie 12 = .ok (.iload_n 1, 1) := by decide +kernel
theorem dX7_mayLie_13 : decode cX7_mayLie 13 = .ok (.iload_n 2, 1) := by decide +kernel
theorem dX7_mayLie_14 : decode cX7_mayLie 14 = .ok (.invokevirtual 166, 3) := by decide +kernel
theorem dX7_mayLie_17 : decode cX7_mayLie 17 = .ok (.iload_n 3, 1) := by decide +kernel
theorem dX7_mayLie_18 : decode cX7_mayLie 18 = .ok (.if_icmp .ne 7, 3) := by decide +kernel
theorem dX7_mayLie_21 : decode cX7_mayLie 21 = .ok (.iconst 1, 1) := by decide +kernel
theorem dX7_mayLie_22 : decode cX7_mayLie 22 = .ok (.goto 4, 3) := by decide +kernel
theorem dX7_mayLie_25 : decode cX7_mayLie 25 = .ok (.iconst 0, 1) := by decide +kernel
theorem dX7_mayLie_26 : decode cX7_mayLie 26 = .ok (.ireturn, 1) := by decide +kernel
theorem dX7_startCounts_0 : decode cX7_startCounts 0 = .ok (.aload_n 0, 1) := by decide +kernel
theorem dX7_startCounts_1 : decode cX7_startCounts 1 = .ok (.getfield 42, 3) := by decide +kernel
theorem dX7_startCounts_4 : decode cX7_startCounts 4 = .ok (.iconst 0, 1) := by decide +kernel
theorem dX7_startCounts_5 : decode cX7_startCounts 5 = .ok (.invokestatic 180, 3) := by decide +kernel
theorem dX7_startCounts_8 : decode cX7_startCounts 8 = .ok (.aload_n 0, 1) := by decide +kernel
theorem dX7_startCounts_9 : decode cX7_startCounts 9 = .ok (.getfield 42, 3) := by decide +kernel
theorem dX7_startCounts_12 : decode cX7_startCounts 12 = .ok (.iload_n 1, 1) := by decide +kernel
theorem dX7_startCounts_13 : decode cX7_startCounts 13 = .ok (.iconst 1, 1) := by decide +kernel
theorem dX7_startCounts_14 : decode cX7_startCounts 14 = .ok (.invokestatic 76, 3) := by decide +kernel
theorem dX7_startCounts_17 : decode cX7_startCounts 17 = .ok (.return_, 1) := by decide +kernel
theorem dX7_spreadCounts_0 : decode cX7_spreadCounts 0 = .ok (.aload_n 0, 1) := by decide +kernel
theorem dX7_spreadCounts_1 : decode cX7_spreadCounts 1 = .ok (.getfield 45, 3) := by decide +kernel
theorem dX7_spreadCounts_4 : decode cX7_spreadCounts 4 = .ok (.iconst 0, 1) := by decide +kernel
theorem dX7_spreadCounts_5 : decode cX7_spreadCounts 5 = .ok (.invokestatic 180, 3) := by decide +kernel
theorem dX7_spreadCounts_8 : decode cX7_spreadCounts 8 = .ok (.iconst 0, 1) := by decide +kernel
theorem dX7_spreadCounts_9 : decode cX7_spreadCounts 9 = .ok (.istore_n 2, 1) := by decide +kernel
theorem dX7_spreadCounts_10 : decode cX7_spreadCounts 10 = .ok (.iload_n 2, 1) := by decide +kernel
theorem dX7_spreadCounts_11 : decode cX7_spreadCounts 11 = .ok (.aload_n 0, 1) := by decide +kernel
theorem dX7_spreadCounts_12 : decode cX7_spreadCounts 12 = .ok (.invokevirtual 186, 3) := by decide +kernel
theorem dX7_spreadCounts_15 : decode cX7_spreadCounts 15 = .ok (.if_icmp .ge 107, 3) := by decide +kernel
theorem dX7_spreadCounts_18 : decode cX7_spreadCounts 18 = .ok (.aload_n 0, 1) := by decide +kernel
theorem dX7_spreadCounts_19 : decode cX7_spreadCounts 19 = .ok (.getfield 42, 3) := by decide +kernel
theorem dX7_spreadCounts_22 : decode cX7_spreadCounts 22 = .ok (.iload_n 2, 1) := by decide +kernel
theorem dX7_spreadCounts_23 : decode cX7_spreadCounts 23 = .ok (.invokestatic 83, 3) := by decide +kernel
theorem dX7_spreadCounts_26 : decode cX7_spreadCounts 26 = .ok (.istore_n 3, 1) := by decide +kernel
theorem dX7_spreadCounts_27 : decode cX7_spreadCounts 27 = .ok (.iconst 1, 1) := by decide +kernel
theorem dX7_spreadCounts_28 : decode cX7_spreadCounts 28 = .ok (.istore 4, 2) := by decide +kernel
theorem dX7_spreadCounts_30 : decode cX7_spreadCounts 30 = .ok (.iload_n 3, 1) := by decide +kernel
theorem dX7_spreadCounts_31 : decode cX7_spreadCounts 31 = .ok (.ifCond .le 85, 3) := by decide +kernel
theorem dX7_spreadCounts_34 : decode cX7_spreadCounts 34 = .ok (.iload 4, 2) := by decide +kernel
theorem dX7_spreadCounts_36 : decode cX7_spreadCounts 36 = .ok (.aload_n 0, 1) := by decide +kernel
theorem dX7_spreadCounts_37 : decode cX7_spreadCounts 37 = .ok (.getfield 65, 3) := by decide +kernel
theorem dX7_spreadCounts_40 : decode cX7_spreadCounts 40 = .ok (.if_icmp .gt 76, 3) := by decide +kernel
theorem dX7_spreadCounts_43 : decode cX7_spreadCounts 43 = .ok (.aload_n 0, 1) := by decide +kernel
theorem dX7_spreadCounts_44 : decode cX7_spreadCounts 44 = .ok (.iload_n 2, 1) := by decide +kernel
theorem dX7_spreadCounts_45 : decode cX7_spreadCounts 45 = .ok (.iload 4, 2) := by decide +kernel
theorem dX7_spreadCounts_47 : decode cX7_spreadCounts 47 = .ok (.invokevirtual 189, 3) := by decide +kernel
theorem dX7_spreadCounts_50 : decode cX7_spreadCounts 50 = .ok (.ifCond .eq 19, 3) := by decide +kernel
theorem dX7_spreadCounts_53 : decode cX7_spreadCounts 53 = .ok (.iload_n 1, 1) := by decide +kernel
theorem dX7_spreadCounts_54 : decode cX7_spreadCounts 54 = .ok (.ifCond .eq 11, 3) := by decide +kernel
theorem dX7_spreadCounts_57 : decode cX7_spreadCounts 57 = .ok (.iload_n 2, 1) := by decide +kernel
theorem dX7_spreadCounts_58 : decode cX7_spreadCounts 58 = .ok (.aload_n 0, 1) := by decide +kernel
theorem dX7_spreadCounts_59 : decode cX7_spreadCounts 59 = .ok (.getfield 108, 3) := by decide +kernel
theorem dX7_spreadCounts_62 : decode cX7_spreadCounts 62 = .ok (.if_icmp .eq 7, 3) := by decide +kernel
theorem dX7_spreadCounts_65 : decode cX7_spreadCounts 65 = .ok (.iconst 1, 1) := by decide +kernel
theorem dX7_spreadCounts_66 : decode cX7_spreadCounts 66 = .ok (.goto 4, 3) := by decide +kernel
theorem dX7_spreadCounts_69 : decode cX7_spreadCounts 69 = .ok (.iconst 0, 1) := by decide +kernel
theorem dX7_spreadCounts_70 : decode cX7_spreadCounts 70 = .ok (.istore 5, 2) := by decide +kernel
theorem dX7_spreadCounts_72 : decode cX7_spreadCounts 72 = .ok (.iload 5, 2) := by decide +kernel
theorem dX7_spreadCounts_74 : decode cX7_spreadCounts 74 = .ok (.ifCond .eq 13, 3) := by decide +kernel
theorem dX7_spreadCounts_77 : decode cX7_spreadCounts 77 = .ok (.aload_n 0, 1) := by decide +kernel
theorem dX7_spreadCounts_78 : decode cX7_spreadCounts 78 = .ok (.iload_n 2, 1) := by decide +kernel
theorem dX7_spreadCounts_79 : decode cX7_spreadCounts 79 = .ok (.iload 4, 2) := by decide +kernel
theorem dX7_spreadCounts_81 : decode cX7_spreadCounts 81 = .ok (.invokevirtual 192, 3) := by decide +kernel
theorem dX7_spreadCounts_84 : decode cX7_spreadCounts 84 = .ok (.goto 4, 3) := by decide +kernel
theorem dX7_spreadCounts_87 : decode cX7_spreadCounts 87 = .ok (.iload_n 2, 1) := by decide +kernel
theorem dX7_spreadCounts_88 : decode cX7_spreadCounts 88 = .ok (.istore 6, 2) := by decide +kernel
theorem dX7_spreadCounts_90 : decode cX7_spreadCounts 90 = .ok (.aload_n 0, 1) := by decide +kernel
theorem dX7_spreadCounts_91 : decode cX7_spreadCounts 91 = .ok (.getfield 45, 3) := by decide +kernel
theorem dX7_spreadCounts_94 : decode cX7_spreadCounts 94 = .ok (.iload 6, 2) := by decide +kernel
theorem dX7_spreadCounts_96 : decode cX7_spreadCounts 96 = .ok (.aload_n 0, 1) := by decide +kernel
theorem dX7_spreadCounts_97 : decode cX7_spreadCounts 97 = .ok (.getfield 45, 3) := by decide +kernel
theorem dX7_spreadCounts_100 : decode cX7_spreadCounts 100 = .ok (.iload 6, 2) := by decide +kernel
theorem dX7_spreadCounts_102 : decode cX7_spreadCounts 102 = .ok (.invokestatic 83, 3) := by decide +kernel
theorem dX7_spreadCounts_105 : decode cX7_spreadCounts 105 = .ok (.iload_n 3, 1) := by decide +kernel
theorem dX7_spreadCounts_106 : decode cX7_spreadCounts 106 = .ok (.iadd, 1) := by decide +kernel
theorem dX7_spreadCounts_107 : decode cX7_spreadCounts 107 = .ok (.invokestatic 76, 3) := by decide +kernel
theorem dX7_spreadCounts_110 : decode cX7_spreadCounts 110 = .ok (.iinc 4 1, 3) := by decide +kernel
theorem dX7_spreadCounts_113 : decode cX7_spreadCounts 113 = .ok (.goto (-83), 3) := by decide +kernel
theorem dX7_spreadCounts_116 : decode cX7_spreadCounts 116 = .ok (.iinc 2 1, 3) := by decide +kernel
theorem dX7_spreadCounts_119 : decode cX7_spreadCounts 119 = .ok (.goto (-109), 3) := by decide +kernel
theorem dX7_spreadCounts_122 : decode cX7_spreadCounts 122 = .ok (.aload_n 0, 1) := by decide +kernel
theorem dX7_spreadCounts_123 : decode cX7_spreadCounts 123 = .ok (.getfield 42, 3) := by decide +kernel
theorem dX7_spreadCounts_126 : decode cX7_spreadCounts 126 = .ok (.astore_n 2, 1) := by decide +kernel
theorem dX7_spreadCounts_127 : decode cX7_spreadCounts 127 = .ok (.aload_n 0, 1) := by decide +kernel
theorem dX7_spreadCounts_128 : decode cX7_spreadCounts 128 = .ok (.aload_n 0, 1) := by decide +kernel
theorem dX7_spreadCounts_129 : decode cX7_spreadCounts 129 = .ok (.getfield 45, 3) := by decide +kernel
theorem dX7_spreadCounts_132 : decode cX7_spreadCounts 132 = .ok (.putfield 42, 3) := by decide +kernel
theorem dX7_spreadCounts_135 : decode cX7_spreadCounts 135 = .ok (.aload_n 0, 1) := by decide +kernel
theorem dX7_spreadCounts_136 : decode cX7_spreadCounts 136 = .ok (.aload_n 2, 1) := by decide +kernel
theorem dX7_spreadCounts_137 : decode cX7_spreadCounts 137 = .ok (.putfield 45, 3) := by decide +kernel
theorem dX7_spreadCounts_140 : decode cX7_spreadCounts 140 = .ok (.return_, 1) := by decide +kernel
theorem dX7_countOf_0 : decode cX7_countOf 0 = .ok (.aload_n 0, 1) := by decide +kernel
theorem dX7_countOf_1 : decode cX7_countOf 1 = .ok (.getfield 42, 3) := by decide +kernel
theorem dX7_countOf_4 : decode cX7_countOf 4 = .ok (.iload_n 1, 1) := by decide +kernel
theorem dX7_countOf_5 : decode cX7_countOf 5 = .ok (.invokestatic 83, 3) := by decide +kernel
theorem dX7_countOf_8 : decode cX7_countOf 8 = .ok (.ireturn, 1) := by decide +kernel
theorem dX7_scratch_0 : decode cX7_scratch 0 = .ok (.aload_n 0, 1) := by decide +kernel
theorem dX7_scratch_1 : decode cX7_scratch 1 = .ok (.getfield 42, 3) := by decide +kernel
theorem dX7_scratch_4 : decode cX7_scratch 4 = .ok (.areturn, 1) := by decide +kernel
theorem dX7_clearTally_0 : decode cX7_clearTally 0 = .ok (.aload_n 0, 1) := by decide +kernel
theorem dX7_clearTally_1 : decode cX7_clearTally 1 = .ok (.getfield 48, 3) := by decide +kernel
theorem dX7_clearTally_4 : decode cX7_clearTally 4 = .ok (.iconst 0, 1) := by decide +kernel
theorem dX7_clearTally_5 : decode cX7_clearTally 5 = .ok (.invokestatic 180, 3) := by decide +kernel
theorem dX7_clearTally_8 : decode cX7_clearTally 8 = .ok (.return_, 1) := by decide +kernel
theorem dX7_addToTally_0 : decode cX7_addToTally 0 = .ok (.iconst 0, 1) := by decide +kernel
theorem dX7_addToTally_1 : decode cX7_addToTally 1 = .ok (.istore_n 2, 1) := by decide +kernel
theorem dX7_addToTally_2 : decode cX7_addToTally 2 = .ok (.iload_n 2, 1) := by decide +kernel
theorem dX7_addToTally_3 : decode cX7_addToTally 3 = .ok (.aload_n 0, 1) := by decide +kernel
theorem dX7_addToTally_4 : decode cX7_addToTally 4 = .ok (.getfield 65, 3) := by decide +kernel
theorem dX7_addToTally_7 : decode cX7_addToTally 7 = .ok (.if_icmp .ge 49, 3) := by decide +kernel
theorem dX7_addToTally_10 : decode cX7_addToTally 10 = .ok (.aload_n 0, 1) := by decide +kernel
theorem dX7_addToTally_11 : decode cX7_addToTally 11 = .ok (.iload_n 1, 1) := by decide +kernel
theorem dX7_addToTally_12 : decode cX7_addToTally 12 = .ok (.iload_n 2, 1) := by decide +kernel
theorem dX7_addToTally_13 : decode cX7_addToTally 13 = .ok (.invokevirtual 154, 3) := by decide +kernel
theorem dX7_addToTally_16 : decode cX7_addToTally 16 = .ok (.istore_n 3, 1) := by decide +kernel
theorem dX7_addToTally_17 : decode cX7_addToTally 17 = .ok (.iload_n 2, 1) := by decide +kernel
theorem dX7_addToTally_18 : decode cX7_addToTally 18 = .ok (.iload_n 3, 1) := by decide +kernel
theorem dX7_addToTally_19 : decode cX7_addToTally 19 = .ok (.aload_n 0, 1) := by decide +kernel
theorem dX7_addToTally_20 : decode cX7_addToTally 20 = .ok (.iload_n 1, 1) := by decide +kernel
theorem dX7_addToTally_21 : decode cX7_addToTally 21 = .ok (.iload_n 3, 1) := by decide +kernel
theorem dX7_addToTally_22 : decode cX7_addToTally 22 = .ok (.invokevirtual 166, 3) := by decide +kernel
theorem dX7_addToTally_25 : decode cX7_addToTally 25 = .ok (.invokestatic 195, 3) := by decide +kernel
theorem dX7_addToTally_28 : decode cX7_addToTally 28 = .ok (.istore 4, 2) := by decide +kernel
theorem dX7_addToTally_30 : decode cX7_addToTally 30 = .ok (.aload_n 0, 1) := by decide +kernel
theorem dX7_addToTally_31 : decode cX7_addToTally 31 = .ok (.getfield 48, 3) := by decide +kernel
theorem dX7_addToTally_34 : decode cX7_addToTally 34 = .ok (.iload 4, 2) := by decide +kernel
theorem dX7_addToTally_36 : decode cX7_addToTally 36 = .ok (.aload_n 0, 1) := by decide +kernel
theorem dX7_addToTally_37 : decode cX7_addToTally 37 = .ok (.getfield 48, 3) := by decide +kernel
theorem dX7_addToTally_40 : decode cX7_addToTally 40 = .ok (.iload 4, 2) := by decide +kernel
theorem dX7_addToTally_42 : decode cX7_addToTally 42 = .ok (.invokestatic 83, 3) := by decide +kernel
theorem dX7_addToTally_45 : decode cX7_addToTally 45 = .ok (.iconst 1, 1) := by decide +kernel
theorem dX7_addToTally_46 : decode cX7_addToTally 46 = .ok (.iadd, 1) := by decide +kernel
theorem dX7_addToTally_47 : decode cX7_addToTally 47 = .ok (.invokestatic 76, 3) := by decide +kernel
theorem dX7_addToTally_50 : decode cX7_addToTally 50 = .ok (.iinc 2 1, 3) := by decide +kernel
theorem dX7_addToTally_53 : decode cX7_addToTally 53 = .ok (.goto (-51), 3) := by decide +kernel
theorem dX7_addToTally_56 : decode cX7_addToTally 56 = .ok (.return_, 1) := by decide +kernel
theorem dX7_mostInTally_0 : decode cX7_mostInTally 0 = .ok (.iconst 0, 1) := by decide +kernel
theorem dX7_mostInTally_1 : decode cX7_mostInTally 1 = .ok (.istore_n 2, 1) := by decide +kernel
theorem dX7_mostInTally_2 : decode cX7_mostInTally 2 = .ok (.iconst 0, 1) := by decide +kernel
theorem dX7_mostInTally_3 : decode cX7_mostInTally 3 = .ok (.istore_n 3, 1) := by decide +kernel
theorem dX7_mostInTally_4 : decode cX7_mostInTally 4 = .ok (.iload_n 3, 1) := by decide +kernel
theorem dX7_mostInTally_5 : decode cX7_mostInTally 5 = .ok (.aload_n 0, 1) := by decide +kernel
theorem dX7_mostInTally_6 : decode cX7_mostInTally 6 = .ok (.getfield 65, 3) := by decide +kernel
theorem dX7_mostInTally_9 : decode cX7_mostInTally 9 = .ok (.if_icmp .ge 47, 3) := by decide +kernel
theorem dX7_mostInTally_12 : decode cX7_mostInTally 12 = .ok (.aload_n 0, 1) := by decide +kernel
theorem dX7_mostInTally_13 : decode cX7_mostInTally 13 = .ok (.getfield 48, 3) := by decide +kernel
theorem dX7_mostInTally_16 : decode cX7_mostInTally 16 = .ok (.iload_n 1, 1) := by decide +kernel
theorem dX7_mostInTally_17 : decode cX7_mostInTally 17 = .ok (.iload_n 3, 1) := by decide +kernel
theorem dX7_mostInTally_18 : decode cX7_mostInTally 18 = .ok (.iconst 0, 1) := by decide +kernel
theorem dX7_mostInTally_19 : decode cX7_mostInTally 19 = .ok (.invokestatic 195, 3) := by decide +kernel
theorem dX7_mostInTally_22 : decode cX7_mostInTally 22 = .ok (.invokestatic 83, 3) := by decide +kernel
theorem dX7_mostInTally_25 : decode cX7_mostInTally 25 = .ok (.istore 4, 2) := by decide +kernel
theorem dX7_mostInTally_27 : decode cX7_mostInTally 27 = .ok (.iload_n 2, 1) := by decide +kernel
theorem dX7_mostInTally_28 : decode cX7_mostInTally 28 = .ok (.iload 4, 2) := by decide +kernel
theorem dX7_mostInTally_30 : decode cX7_mostInTally 30 = .ok (.aload_n 0, 1) := by decide +kernel
theorem dX7_mostInTally_31 : decode cX7_mostInTally 31 = .ok (.getfield 48, 3) := by decide +kernel
theorem dX7_mostInTally_34 : decode cX7_mostInTally 34 = .ok (.iload_n 1, 1) := by decide +kernel
theorem dX7_mostInTally_35 : decode cX7_mostInTally 35 = .ok (.iload_n 3, 1) := by decide +kernel
theorem dX7_mostInTally_36 : decode cX7_mostInTally 36 = .ok (.iconst 1, 1) := by decide +kernel
theorem dX7_mostInTally_37 : decode cX7_mostInTally 37 = .ok (.invokestatic 195, 3) := by decide +kernel
theorem dX7_mostInTally_40 : decode cX7_mostInTally 40 = .ok (.invokestatic 83, 3) := by decide +kernel
theorem dX7_mostInTally_43 : decode cX7_mostInTally 43 = .ok (.invokestatic 148, 3) := by decide +kernel
theorem dX7_mostInTally_46 : decode cX7_mostInTally 46 = .ok (.invokestatic 148, 3) := by decide +kernel
theorem dX7_mostInTally_49 : decode cX7_mostInTally 49 = .ok (.istore_n 2, 1) := by decide +kernel
theorem dX7_mostInTally_50 : decode cX7_mostInTally 50 = .ok (.iinc 3 1, 3) := by decide +kernel
theorem dX7_mostInTally_53 : decode cX7_mostInTally 53 = .ok (.goto (-49), 3) := by decide +kernel
theorem dX7_mostInTally_56 : decode cX7_mostInTally 56 = .ok (.iload_n 2, 1) := by decide +kernel
theorem dX7_mostInTally_57 : decode cX7_mostInTally 57 = .ok (.ireturn, 1) := by decide +kernel
theorem dX7_tallyEntry_0 : decode cX7_tallyEntry 0 = .ok (.iload_n 0, 1) := by decide +kernel
theorem dX7_tallyEntry_1 : decode cX7_tallyEntry 1 = .ok (.iconst 5, 1) := by decide +kernel
theorem dX7_tallyEntry_2 : decode cX7_tallyEntry 2 = .ok (.imul, 1) := by decide +kernel
theorem dX7_tallyEntry_3 : decode cX7_tallyEntry 3 = .ok (.iload_n 1, 1) := by decide +kernel
theorem dX7_tallyEntry_4 : decode cX7_tallyEntry 4 = .ok (.iadd, 1) := by decide +kernel
theorem dX7_tallyEntry_5 : decode cX7_tallyEntry 5 = .ok (.iconst 2, 1) := by decide +kernel
theorem dX7_tallyEntry_6 : decode cX7_tallyEntry 6 = .ok (.imul, 1) := by decide +kernel
theorem dX7_tallyEntry_7 : decode cX7_tallyEntry 7 = .ok (.iload_n 2, 1) := by decide +kernel
theorem dX7_tallyEntry_8 : decode cX7_tallyEntry 8 = .ok (.ifCond .eq 7, 3) := by decide +kernel
theorem dX7_tallyEntry_11 : decode cX7_tallyEntry 11 = .ok (.iconst 1, 1) := by decide +kernel
theorem dX7_tallyEntry_12 : decode cX7_tallyEntry 12 = .ok (.goto 4, 3) := by decide +kernel
theorem dX7_tallyEntry_15 : decode cX7_tallyEntry 15 = .ok (.iconst 0, 1) := by decide +kernel
theorem dX7_tallyEntry_16 : decode cX7_tallyEntry 16 = .ok (.iadd, 1) := by decide +kernel
theorem dX7_tallyEntry_17 : decode cX7_tallyEntry 17 = .ok (.ireturn, 1) := by decide +kernel
theorem dX8_init_0 : decode cX8_init 0 = .ok (.aload_n 0, 1) := by decide +kernel
theorem dX8_init_1 : decode cX8_init 1 = .ok (.invokespecial 3, 3) := by decide +kernel
theorem dX8_init_4 : decode cX8_init 4 = .ok (.aload_n 0, 1) := by decide +kernel
theorem dX8_init_5 : decode cX8_init 5 = .ok (.sipush 3840, 3) := by decide +kernel
theorem dX8_init_8 : decode cX8_init 8 = .ok (.newarray .int, 2) := by decide +kernel
theorem dX8_init_10 : decode cX8_init 10 = .ok (.putfield 9, 3) := by decide +kernel
theorem dX8_init_13 : decode cX8_init 13 = .ok (.aload_n 0, 1) := by decide +kernel
theorem dX8_init_14 : decode cX8_init 14 = .ok (.iconst (-1), 1) := by decide +kernel
theorem dX8_init_15 : decode cX8_init 15 = .ok (.putfield 15, 3) := by decide +kernel
theorem dX8_init_18 : decode cX8_init 18 = .ok (.aload_n 0, 1) := by decide +kernel
theorem dX8_init_19 : decode cX8_init 19 = .ok (.aload_n 1, 1) := by decide +kernel
theorem dX8_init_20 : decode cX8_init 20 = .ok (.putfield 19, 3) := by decide +kernel
theorem dX8_init_23 : decode cX8_init 23 = .ok (.aload_n 0, 1) := by decide +kernel
theorem dX8_init_24 : decode cX8_init 24 = .ok (.iload_n 2, 1) := by decide +kernel
theorem dX8_init_25 : decode cX8_init 25 = .ok (.putfield 23, 3) := by decide +kernel
theorem dX8_init_28 : decode cX8_init 28 = .ok (.aload_n 0, 1) := by decide +kernel
theorem dX8_init_29 : decode cX8_init 29 = .ok (.iload_n 3, 1) := by decide +kernel
theorem dX8_init_30 : decode cX8_init 30 = .ok (.putfield 27, 3) := by decide +kernel
theorem dX8_init_33 : decode cX8_init 33 = .ok (.return_, 1) := by decide +kernel
theorem dX8_forget_0 : decode cX8_forget 0 = .ok (.aload_n 0, 1) := by decide +kernel
theorem dX8_forget_1 : decode cX8_forget 1 = .ok (.iconst 0, 1) := by decide +kernel
theorem dX8_forget_2 : decode cX8_forget 2 = .ok (.putfield 30, 3) := by decide +kernel
theorem dX8_forget_5 : decode cX8_forget 5 = .ok (.return_, 1) := by decide +kernel
theorem dX8_learn_0 : decode cX8_learn 0 = .ok (.aload_n 0, 1) := by decide +kernel
theorem dX8_learn_1 : decode cX8_learn 1 = .ok (.getfield 30, 3) := by decide +kernel
theorem dX8_learn_4 : decode cX8_learn 4 = .ok (.ifCond .eq 12, 3) := by decide +kernel
theorem dX8_learn_7 : decode cX8_learn 7 = .ok (.iload_n 1, 1) := by decide +kernel
theorem dX8_learn_8 : decode cX8_learn 8 = .ok (.aload_n 0, 1) := by decide +kernel
theorem dX8_learn_9 : decode cX8_learn 9 = .ok (.getfield 15, 3) := by decide +kernel
theorem dX8_learn_12 : decode cX8_learn 12 = .ok (.if_icmp .ne 4, 3) := by decide +kernel
theorem dX8_learn_15 : decode cX8_learn 15 = .ok (.return_, 1) := by decide +kernel
theorem dX8_learn_16 : decode cX8_learn 16 = .ok (.aload_n 0, 1) := by decide +kernel
theorem dX8_learn_17 : decode cX8_learn 17 = .ok (.iconst 1, 1) := by decide +kernel
theorem dX8_learn_18 : decode cX8_learn 18 = .ok (.putfield 30, 3) := by decide +kernel
theorem dX8_learn_21 : decode cX8_learn 21 = .ok (.aload_n 0, 1) := by decide +kernel
theorem dX8_learn_22 : decode cX8_learn 22 = .ok (.iload_n 1, 1) := by decide +kernel
theorem dX8_learn_23 : decode cX8_learn 23 = .ok (.putfield 15, 3) := by decide +kernel
theorem dX8_learn_26 : decode cX8_learn 26 = .ok (.aload_n 0, 1) := by decide +kernel
theorem dX8_learn_27 : decode cX8_learn 27 = .ok (.getfield 9, 3) := by decide +kernel
theorem dX8_learn_30 : decode cX8_learn 30 = .ok (.iconst (-1), 1) := by decide +kernel
theorem dX8_learn_31 : decode cX8_learn 31 = .ok (.invokestatic 33, 3) := by decide +kernel
theorem dX8_learn_34 : decode cX8_learn 34 = .ok (.iload_n 1, 1) := by decide +kernel
theorem dX8_learn_35 : decode cX8_learn 35 = .ok (.ifCond .lt 14, 3) := by decide +kernel
theorem dX8_learn_38 : decode cX8_learn 38 = .ok (.iload_n 1, 1) := by decide +kernel
theorem dX8_learn_39 : decode cX8_learn 39 = .ok (.aload_n 0, 1) := by decide +kernel
theorem dX8_learn_40 : decode cX8_learn 40 = .ok (.getfield 19, 3) := by decide +kernel
theorem dX8_learn_43 : decode cX8_learn 43 = .ok (.invokevirtual 39, 3) := by decide +kernel
theorem dX8_learn_46 : decode cX8_learn 46 = .ok (.if_icmp .lt 4, 3) := by decide +kernel
theorem dX8_learn_49 : decode cX8_learn 49 = .ok (.return_, 1) := by decide +kernel
theorem dX8_learn_50 : decode cX8_learn 50 = .ok (.aload_n 0, 1) := by decide +kernel
theorem dX8_learn_51 : decode cX8_learn 51 = .ok (.getfield 19, 3) := by decide +kernel
theorem dX8_learn_54 : decode cX8_learn 54 = .ok (.invokevirtual 45, 3) := by decide +kernel
theorem dX8_learn_57 : decode cX8_learn 57 = .ok (.astore_n 2, 1) := by decide +kernel
theorem dX8_learn_58 : decode cX8_learn 58 = .ok (.aload_n 0, 1) := by decide +kernel
theorem dX8_learn_59 : decode cX8_learn 59 = .ok (.getfield 9, 3) := by decide +kernel
theorem dX8_learn_62 : decode cX8_learn 62 = .ok (.iload_n 1, 1) := by decide +kernel
theorem dX8_learn_63 : decode cX8_learn 63 = .ok (.iconst 0, 1) := by decide +kernel
theorem dX8_learn_64 : decode cX8_learn 64 = .ok (.invokestatic 49, 3) := by decide +kernel
theorem dX8_learn_67 : decode cX8_learn 67 = .ok (.aload_n 2, 1) := by decide +kernel
theorem dX8_learn_68 : decode cX8_learn 68 = .ok (.iconst 0, 1) := by decide +kernel
theorem dX8_learn_69 : decode cX8_learn 69 = .ok (.iload_n 1, 1) := by decide +kernel
theorem dX8_learn_70 : decode cX8_learn 70 = .ok (.invokestatic 49, 3) := by decide +kernel
theorem dX8_learn_73 : decode cX8_learn 73 = .ok (.iconst 1, 1) := by decide +kernel
theorem dX8_learn_74 : decode cX8_learn 74 = .ok (.istore_n 3, 1) := by decide +kernel
theorem dX8_learn_75 : decode cX8_learn 75 = .ok (.iconst 0, 1) := by decide +kernel
theorem dX8_learn_76 : decode cX8_learn 76 = .ok (.istore 4, 2) := by decide +kernel
theorem dX8_learn_78 : decode cX8_learn 78 = .ok (.iload 4, 2) := by decide +kernel
theorem dX8_learn_80 : decode cX8_learn 80 = .ok (.iload_n 3, 1) := by decide +kernel
theorem dX8_learn_81 : decode cX8_learn 81 = .ok (.if_icmp .ge 26, 3) := by decide +kernel
theorem dX8_learn_84 : decode cX8_learn 84 = .ok (.iload 4, 2) := by decide +kernel
theorem dX8_learn_86 : decode cX8_learn 86 = .ok (.aload_n 2, 1) := by decide +kernel
theorem dX8_learn_87 : decode cX8_learn 87 = .ok (.arraylength, 1) := by decide +kernel
theorem dX8_learn_88 : decode cX8_learn 88 = .ok (.if_icmp .ge 19, 3) := by decide +kernel
theorem dX8_learn_91 : decode cX8_learn 91 = .ok (.aload_n 0, 1) := by decide +kernel
theorem dX8_learn_92 : decode cX8_learn 92 = .ok (.aload_n 2, 1) := by decide +kernel
theorem dX8_learn_93 : decode cX8_learn 93 = .ok (.iload 4, 2) := by decide +kernel
theorem dX8_learn_95 : decode cX8_learn 95 = .ok (.iaload, 1) := by decide +kernel
theorem dX8_learn_96 : decode cX8_learn 96 = .ok (.iload_n 3, 1) := by decide +kernel
theorem dX8_learn_97 : decode cX8_learn 97 = .ok (.invokevirtual 53, 3) := by decide +kernel
theorem dX8_learn_100 : decode cX8_learn 100 = .ok (.istore_n 3, 1) := by decide +kernel
theorem dX8_learn_101 : decode cX8_learn 101 = .ok (.iinc 4 1, 3) := by decide +kernel
theorem dX8_learn_104 : decode cX8_learn 104 = .ok (.goto (-26), 3) := by decide +kernel
theorem dX8_learn_107 : decode cX8_learn 107 = .ok (.return_, 1) := by decide +kernel
theorem dX8_learnRound_0 : decode cX8_learnRound 0 = .ok (.aload_n 0, 1) := by decide +kernel
theorem dX8_learnRound_1 : decode cX8_learnRound 1 = .ok (.getfield 19, 3) := by decide +kernel
theorem dX8_learnRound_4 : decode cX8_learnRound 4 = .ok (.invokevirtual 45, 3) := by decide +kernel
theorem dX8_learnRound_7 : decode cX8_learnRound 7 = .ok (.astore_n 3, 1) := by decide +kernel
theorem dX8_learnRound_8 : decode cX8_learnRound 8 = .ok (.iload_n 2, 1) := by decide +kernel
theorem dX8_learnRound_9 : decode cX8_learnRound 9 = .ok (.istore 4, 2) := by decide +kernel
theorem dX8_learnRound_11 : decode cX8_learnRound 11 = .ok (.iconst 1, 1) := by decide +kernel
theorem dX8_learnRound_12 : decode cX8_learnRound 12 = .ok (.istore 5, 2) := by decide +kernel
theorem dX8_learnRound_14 : decode cX8_learnRound 14 = .ok (.iload 5, 2) := by decide +kernel
theorem dX8_learnRound_16 : decode cX8_learnRound 16 = .ok (.aload_n 0, 1) := by decide +kernel
theorem dX8_learnRound_17 : decode cX8_learnRound 17 = .ok (.getfield 19, 3) := by decide +kernel
theorem dX8_learnRound_20 : decode cX8_learnRound 20 = .ok (.invokevirtual 57, 3) := by decide +kernel
theorem dX8_learnRound_23 : decode cX8_learnRound 23 = .ok (.if_icmp .gt 110, 3) := by decide +kernel
theorem dX8_learnRound_26 : decode cX8_learnRound 26 = .ok (.aload_n 0, 1) := by decide +kernel
theorem dX8_learnRound_27 : decode cX8_learnRound 27 = .ok (.getfield 19, 3) := by decide +kernel
theorem dX8_learnRound_30 : decode cX8_learnRound 30 = .ok (.iload_n 1, 1) := by decide +kernel
theorem dX8_learnRound_31 : decode cX8_learnRound 31 = .ok (.iload 5, 2) := by decide +kernel
theorem dX8_learnRound_33 : decode cX8_learnRound 33 = .ok (.invokevirtual 60, 3) := by decide +kernel
theorem dX8_learnRound_36 : decode cX8_learnRound 36 = .ok (.istore 6, 2) := by decide +kernel
theorem dX8_learnRound_38 : decode cX8_learnRound 38 = .ok (.iload 5, 2) := by decide +kernel
theorem dX8_learnRound_40 : decode cX8_learnRound 40 = .ok (.aload_n 0, 1) := by decide +kernel
theorem dX8_learnRound_41 : decode cX8_learnRound 41 = .ok (.getfield 27, 3) := by decide +kernel
theorem dX8_learnRound_44 : decode cX8_learnRound 44 = .ok (.if_icmp .eq 20, 3) := by decide +kernel
theorem dX8_learnRound_47 : decode cX8_learnRound 47 = .ok (.aload_n 0, 1) := by decide +kernel
theorem dX8_learnRound_48 : decode cX8_learnRound 48 = .ok (.getfield 9, 3) := by decide +kernel
theorem dX8_learnRound_51 : decode cX8_learnRound 51 = .ok (.iload 6, 2) := by decide +kernel
theorem dX8_learnRound_53 : decode cX8_learnRound 53 = .ok (.invokestatic 63, 3) := by decide +kernel
theorem dX8_learnRound_56 : decode cX8_learnRound 56 = .ok (.iconst (-1), 1) := by decide +kernel
theorem dX8_learnRound_57 : decode cX8_learnRound 57 = .ok (.if_icmp .ne 7, 3) := by decide +kernel
theorem dX8_learnRound_60 : decode cX8_learnRound 60 = .ok (.iconst 1, 1) := by decide +kernel
theorem dX8_learnRound_61 : decode cX8_learnRound 61 = .ok (.goto 4, 3) := by decide +kernel
theorem dX8_learnRound_64 : decode cX8_learnRound 64 = .ok (.iconst 0, 1) := by decide +kernel
theorem dX8_learnRound_65 : decode cX8_learnRound 65 = .ok (.istore 7, 2) := by decide +kernel
theorem dX8_learnRound_67 : decode cX8_learnRound 67 = .ok (.iload 7, 2) := by decide +kernel
theorem dX8_learnRound_69 : decode cX8_learnRound 69 = .ok (.ifCond .eq 58, 3) := by decide +kernel
theorem dX8_learnRound_72 : decode cX8_learnRound 72 = .ok (.aload_n 0, 1) := by decide +kernel
theorem dX8_learnRound_73 : decode cX8_learnRound 73 = .ok (.getfield 19, 3) := by decide +kernel
theorem dX8_learnRound_76 : decode cX8_learnRound 76 = .ok (.aload_n 0, 1) := by decide +kernel
theorem dX8_learnRound_77 : decode cX8_learnRound 77 = .ok (.getfield 23, 3) := by decide +kernel
theorem dX8_learnRound_80 : decode cX8_learnRound 80 = .ok (.ifCond .eq 8, 3) := by decide +kernel
theorem dX8_learnRound_83 : decode cX8_learnRound 83 = .ok (.iload 6, 2) := by decide +kernel
theorem dX8_learnRound_85 : decode cX8_learnRound 85 = .ok (.goto 4, 3) := by decide +kernel
theorem dX8_learnRound_88 : decode cX8_learnRound 88 = .ok (.iload_n 1, 1) := by decide +kernel
theorem dX8_learnRound_89 : decode cX8_learnRound 89 = .ok (.iload 5, 2) := by decide +kernel
theorem dX8_learnRound_91 : decode cX8_learnRound 91 = .ok (.invokevirtual 67, 3) := by decide +kernel
theorem dX8_learnRound_94 : decode cX8_learnRound 94 = .ok (.ifCond .eq 33, 3) := by decide +kernel
theorem dX8_learnRound_97 : decode cX8_learnRound 97 = .ok (.aload_n 0, 1) := by decide +kernel
theorem dX8_learnRound_98 : decode cX8_learnRound 98 = .ok (.getfield 9, 3) := by decide +kernel
theorem dX8_learnRound_101 : decode cX8_learnRound 101 = .ok (.iload 6, 2) := by decide +kernel
theorem dX8_learnRound_103 : decode cX8_learnRound 103 = .ok (.aload_n 0, 1) := by decide +kernel
theorem dX8_learnRound_104 : decode cX8_learnRound 104 = .ok (.getfield 9, 3) := by decide +kernel
theorem dX8_learnRound_107 : decode cX8_learnRound 107 = .ok (.iload_n 1, 1) := by decide +kernel
theorem dX8_learnRound_108 : decode cX8_learnRound 108 = .ok (.invokestatic 63, 3) := by decide +kernel
theorem dX8_learnRound_111 : decode cX8_learnRound 111 = .ok (.iconst 1, 1) := by decide +kernel
theorem dX8_learnRound_112 : decode cX8_learnRound 112 = .ok (.iadd, 1) := by decide +kernel
theorem dX8_learnRound_113 : decode cX8_learnRound 113 = .ok (.invokestatic 49, 3) := by decide +kernel
theorem dX8_learnRound_116 : decode cX8_learnRound 116 = .ok (.aload_n 3, 1) := by decide +kernel
theorem dX8_learnRound_117 : decode cX8_learnRound 117 = .ok (.iload 4, 2) := by decide +kernel
theorem dX8_learnRound_119 : decode cX8_learnRound 119 = .ok (.iload 6, 2) := by decide +kernel
theorem dX8_learnRound_121 : decode cX8_learnRound 121 = .ok (.invokestatic 49, 3) := by decide +kernel
theorem dX8_learnRound_124 : decode cX8_learnRound 124 = .ok (.iinc 4 1, 3) := by decide +kernel
theorem dX8_learnRound_127 : decode cX8_learnRound 127 = .ok (.iinc 5 1, 3) := by decide +kernel
theorem dX8_learnRound_130 : decode cX8_learnRound 130 = .ok (.goto (-116), 3) := by decide +kernel
theorem dX8_learnRound_133 : decode cX8_learnRound 133 = .ok (.iload 4, 2) := by decide +kernel
theorem dX8_learnRound_135 : decode cX8_learnRound 135 = .ok (.ireturn, 1) := by decide +kernel
theorem dX8_turnsOf_0 : decode cX8_turnsOf 0 = .ok (.aload_n 0, 1) := by decide +kernel
theorem dX8_turnsOf_1 : decode cX8_turnsOf 1 = .ok (.getfield 9, 3) := by decide +kernel
theorem dX8_turnsOf_4 : decode cX8_turnsOf 4 = .ok (.iload_n 1, 1) := by decide +kernel
theorem dX8_turnsOf_5 : decode cX8_turnsOf 5 = .ok (.invokestatic 63, 3) := by decide +kernel
theorem dX8_turnsOf_8 : decode cX8_turnsOf 8 = .ok (.ireturn, 1) := by decide +kernel
theorem dX8_firstTurn_0 : decode cX8_firstTurn 0 = .ok (.aload_n 0, 1) := by decide +kernel
theorem dX8_firstTurn_1 : decode cX8_firstTurn 1 = .ok (.getfield 9, 3) := by decide +kernel
theorem dX8_firstTurn_4 : decode cX8_firstTurn 4 = .ok (.iload_n 1, 1) := by decide +kernel
theorem dX8_firstTurn_5 : decode cX8_firstTurn 5 = .ok (.invokestatic 63, 3) := by decide +kernel
theorem dX8_firstTurn_8 : decode cX8_firstTurn 8 = .ok (.istore_n 2, 1) := by decide +kernel
theorem dX8_firstTurn_9 : decode cX8_firstTurn 9 = .ok (.iconst 1, 1) := by decide +kernel
theorem dX8_firstTurn_10 : decode cX8_firstTurn 10 = .ok (.istore_n 3, 1) := by decide +kernel
theorem dX8_firstTurn_11 : decode cX8_firstTurn 11 = .ok (.iload_n 2, 1) := by decide +kernel
theorem dX8_firstTurn_12 : decode cX8_firstTurn 12 = .ok (.ifCond .le 31, 3) := by decide +kernel
theorem dX8_firstTurn_15 : decode cX8_firstTurn 15 = .ok (.iload_n 3, 1) := by decide +kernel
theorem dX8_firstTurn_16 : decode cX8_firstTurn 16 = .ok (.aload_n 0, 1) := by decide +kernel
theorem dX8_firstTurn_17 : decode cX8_firstTurn 17 = .ok (.getfield 19, 3) := by decide +kernel
theorem dX8_firstTurn_20 : decode cX8_firstTurn 20 = .ok (.invokevirtual 57, 3) := by decide +kernel
theorem dX8_firstTurn_23 : decode cX8_firstTurn 23 = .ok (.if_icmp .gt 20, 3) := by decide +kernel
theorem dX8_firstTurn_26 : decode cX8_firstTurn 26 = .ok (.aload_n 0, 1) := by decide +kernel
theorem dX8_firstTurn_27 : decode cX8_firstTurn 27 = .ok (.iload_n 1, 1) := by decide +kernel
theorem dX8_firstTurn_28 : decode cX8_firstTurn 28 = .ok (.iload_n 3, 1) := by decide +kernel
theorem dX8_firstTurn_29 : decode cX8_firstTurn 29 = .ok (.invokevirtual 71, 3) := by decide +kernel
theorem dX8_firstTurn_32 : decode cX8_firstTurn 32 = .ok (.ifCond .eq 5, 3) := by decide +kernel
theorem dX8_firstTurn_35 : decode cX8_firstTurn 35 = .ok (.iload_n 3, 1) := by decide +kernel
theorem dX8_firstTurn_36 : decode cX8_firstTurn 36 = .ok (.ireturn, 1) := by decide +kernel
theorem dX8_firstTurn_37 : decode cX8_firstTurn 37 = .ok (.iinc 3 1, 3) := by decide +kernel
theorem dX8_firstTurn_40 : decode cX8_firstTurn 40 = .ok (.goto (-29), 3) := by decide +kernel
theorem dX8_firstTurn_43 : decode cX8_firstTurn 43 = .ok (.iconst (-1), 1) := by decide +kernel
theorem dX8_firstTurn_44 : decode cX8_firstTurn 44 = .ok (.ireturn, 1) := by decide +kernel
theorem dX8_isNearer_0 : decode cX8_isNearer 0 = .ok (.aload_n 0, 1) := by decide +kernel
theorem dX8_isNearer_1 : decode cX8_isNearer 1 = .ok (.getfield 19, 3) := by decide +kernel
theorem dX8_isNearer_4 : decode cX8_isNearer 4 = .ok (.iload_n 1, 1) := by decide +kernel
theorem dX8_isNearer_5 : decode cX8_isNearer 5 = .ok (.iload_n 2, 1) := by decide +kernel
theorem dX8_isNearer_6 : decode cX8_isNearer 6 = .ok (.invokevirtual 67, 3) := by decide +kernel
theorem dX8_isNearer_9 : decode cX8_isNearer 9 = .ok (.ifCond .eq 36, 3) := by decide +kernel
theorem dX8_isNearer_12 : decode cX8_isNearer 12 = .ok (.aload_n 0, 1) := by decide +kernel
theorem dX8_isNearer_13 : decode cX8_isNearer 13 = .ok (.getfield 9, 3) := by decide +kernel
theorem dX8_isNearer_16 : decode cX8_isNearer 16 = .ok (.aload_n 0, 1) := by decide +kernel
theorem dX8_isNearer_17 : decode cX8_isNearer 17 = .ok (.getfield 19, 3) := by decide +kernel
theorem dX8_isNearer_20 : decode cX8_isNearer 20 = .ok (.iload_n 1, 1) := by decide +kernel
theorem dX8_isNearer_21 : decode cX8_isNearer 21 = .ok (.iload_n 2, 1) := by decide +kernel
theorem dX8_isNearer_22 : decode cX8_isNearer 22 = .ok (.invokevirtual 60, 3) := by decide +kernel
theorem dX8_isNearer_25 : decode cX8_isNearer 25 = .ok (.invokestatic 63, 3) := by decide +kernel
theorem dX8_isNearer_28 : decode cX8_isNearer 28 = .ok (.aload_n 0, 1) := by decide +kernel
theorem dX8_isNearer_29 : decode cX8_isNearer 29 = .ok (.getfield 9, 3) := by decide +kernel
theorem dX8_isNearer_32 : decode cX8_isNearer 32 = .ok (.iload_n 1, 1) := by decide +kernel
theorem dX8_isNearer_33 : decode cX8_isNearer 33 = .ok (.invokestatic 63, 3) := by decide +kernel
theorem dX8_isNearer_36 : decode cX8_isNearer 36 = .ok (.iconst 1, 1) := by decide +kernel
theorem dX8_isNearer_37 : decode cX8_isNearer 37 = .ok (.isub, 1) := by decide +kernel
theorem dX8_isNearer_38 : decode cX8_isNearer 38 = .ok (.if_icmp .ne 7, 3) := by decide +kernel
theorem dX8_isNearer_41 : decode cX8_isNearer 41 = .ok (.iconst 1, 1) := by decide +kernel
theorem dX8_isNearer_42 : decode cX8_isNearer 42 = .ok (.goto 4, 3) := by decide +kernel
theorem dX8_isNearer_45 : decode cX8_isNearer 45 = .ok (.iconst 0, 1) := by decide +kernel
theorem dX8_isNearer_46 : decode cX8_isNearer 46 = .ok (.ireturn, 1) := by decide +kernel
theorem dX8_rowsOf_0 : decode cX8_rowsOf 0 = .ok (.aload_n 0, 1) := by decide +kernel
theorem dX8_rowsOf_1 : decode cX8_rowsOf 1 = .ok (.getfield 9, 3) := by decide +kernel
theorem dX8_rowsOf_4 : decode cX8_rowsOf 4 = .ok (.iload_n 1, 1) := by decide +kernel
theorem dX8_rowsOf_5 : decode cX8_rowsOf 5 = .ok (.invokestatic 63, 3) := by decide +kernel
theorem dX8_rowsOf_8 : decode cX8_rowsOf 8 = .ok (.istore_n 2, 1) := by decide +kernel
theorem dX8_rowsOf_9 : decode cX8_rowsOf 9 = .ok (.iload_n 2, 1) := by decide +kernel
theorem dX8_rowsOf_10 : decode cX8_rowsOf 10 = .ok (.iconst (-1), 1) := by decide +kernel
theorem dX8_rowsOf_11 : decode cX8_rowsOf 11 = .ok (.if_icmp .ne 5, 3) := by decide +kernel
theorem dX8_rowsOf_14 : decode cX8_rowsOf 14 = .ok (.iconst 0, 1) := by decide +kernel
theorem dX8_rowsOf_15 : decode cX8_rowsOf 15 = .ok (.ireturn, 1) := by decide +kernel
theorem dX8_rowsOf_16 : decode cX8_rowsOf 16 = .ok (.aload_n 0, 1) := by decide +kernel
theorem dX8_rowsOf_17 : decode cX8_rowsOf 17 = .ok (.getfield 19, 3) := by decide +kernel
theorem dX8_rowsOf_20 : decode cX8_rowsOf 20 = .ok (.invokevirtual 74, 3) := by decide +kernel
theorem dX8_rowsOf_23 : decode cX8_rowsOf 23 = .ok (.astore_n 3, 1) := by decide +kernel
theorem dX8_rowsOf_24 : decode cX8_rowsOf 24 = .ok (.aload_n 3, 1) := by decide +kernel
theorem dX8_rowsOf_25 : decode cX8_rowsOf 25 = .ok (.iconst 0, 1) := by decide +kernel
theorem dX8_rowsOf_26 : decode cX8_rowsOf 26 = .ok (.invokestatic 33, 3) := by decide +kernel
theorem dX8_rowsOf_29 : decode cX8_rowsOf 29 = .ok (.aload_n 3, 1) := by decide +kernel
theorem dX8_rowsOf_30 : decode cX8_rowsOf 30 = .ok (.iload_n 1, 1) := by decide +kernel
theorem dX8_rowsOf_31 : decode cX8_rowsOf 31 = .ok (.iconst 1, 1) := by decide +kernel
theorem dX8_rowsOf_32 : decode cX8_rowsOf 32 = .ok (.invokestatic 49, 3) := by decide +kernel
theorem dX8_rowsOf_35 : decode cX8_rowsOf 35 = .ok (.iload_n 2, 1) := by decide +kernel
theorem dX8_rowsOf_36 : decode cX8_rowsOf 36 = .ok (.istore 4, 2) := by decide +kernel
theorem dX8_rowsOf_38 : decode cX8_rowsOf 38 = .ok (.iload 4, 2) := by decide +kernel
theorem dX8_rowsOf_40 : decode cX8_rowsOf 40 = .ok (.ifCond .le 60, 3) := by decide +kernel
theorem dX8_rowsOf_43 : decode cX8_rowsOf 43 = .ok (.iconst 0, 1) := by decide +kernel
theorem dX8_rowsOf_44 : decode cX8_rowsOf 44 = .ok (.istore 5, 2) := by decide +kernel
theorem dX8_rowsOf_46 : decode cX8_rowsOf 46 = .ok (.iload 5, 2) := by decide +kernel
theorem dX8_rowsOf_48 : decode cX8_rowsOf 48 = .ok (.aload_n 0, 1) := by decide +kernel
theorem dX8_rowsOf_49 : decode cX8_rowsOf 49 = .ok (.getfield 19, 3) := by decide +kernel
theorem dX8_rowsOf_52 : decode cX8_rowsOf 52 = .ok (.invokevirtual 39, 3) := by decide +kernel
theorem dX8_rowsOf_55 : decode cX8_rowsOf 55 = .ok (.if_icmp .ge 39, 3) := by decide +kernel
theorem dX8_rowsOf_58 : decode cX8_rowsOf 58 = .ok (.aload_n 0, 1) := by decide +kernel
theorem dX8_rowsOf_59 : decode cX8_rowsOf 59 = .ok (.getfield 9, 3) := by decide +kernel
theorem dX8_rowsOf_62 : decode cX8_rowsOf 62 = .ok (.iload 5, 2) := by decide +kernel
theorem dX8_rowsOf_64 : decode cX8_rowsOf 64 = .ok (.invokestatic 63, 3) := by decide +kernel
theorem dX8_rowsOf_67 : decode cX8_rowsOf 67 = .ok (.iload 4, 2) := by decide +kernel
theorem dX8_rowsOf_69 : decode cX8_rowsOf 69 = .ok (.if_icmp .ne 19, 3) := by decide +kernel
theorem dX8_rowsOf_72 : decode cX8_rowsOf 72 = .ok (.aload_n 3, 1) := by decide +kernel
theorem dX8_rowsOf_73 : decode cX8_rowsOf 73 = .ok (.iload 5, 2) := by decide +kernel
theorem dX8_rowsOf_75 : decode cX8_rowsOf 75 = .ok (.invokestatic 63, 3) := by decide +kernel
theorem dX8_rowsOf_78 : decode cX8_rowsOf 78 = .ok (.ifCond .le 10, 3) := by decide +kernel
theorem dX8_rowsOf_81 : decode cX8_rowsOf 81 = .ok (.aload_n 0, 1) := by decide +kernel
theorem dX8_rowsOf_82 : decode cX8_rowsOf 82 = .ok (.aload_n 3, 1) := by decide +kernel
theorem dX8_rowsOf_83 : decode cX8_rowsOf 83 = .ok (.iload 5, 2) := by decide +kernel
theorem dX8_rowsOf_85 : decode cX8_rowsOf 85 = .ok (.invokevirtual 77, 3) := by decide +kernel
theorem dX8_rowsOf_88 : decode cX8_rowsOf 88 = .ok (.iinc 5 1, 3) := by decide +kernel
theorem dX8_rowsOf_91 : decode cX8_rowsOf 91 = .ok (.goto (-45), 3) := by decide +kernel
theorem dX8_rowsOf_94 : decode cX8_rowsOf 94 = .ok (.iinc 4 (-1), 3) := by decide +kernel
theorem dX8_rowsOf_97 : decode cX8_rowsOf 97 = .ok (.goto (-59), 3) := by decide +kernel
theorem dX8_rowsOf_100 : decode cX8_rowsOf 100 = .ok (.aload_n 3, 1) := by decide +kernel
theorem dX8_rowsOf_101 : decode cX8_rowsOf 101 = .ok (.aload_n 0, 1) := by decide +kernel
theorem dX8_rowsOf_102 : decode cX8_rowsOf 102 = .ok (.getfield 15, 3) := by decide +kernel
theorem dX8_rowsOf_105 : decode cX8_rowsOf 105 = .ok (.invokestatic 63, 3) := by decide +kernel
theorem dX8_rowsOf_108 : decode cX8_rowsOf 108 = .ok (.ireturn, 1) := by decide +kernel
theorem dX8_addRows_0 : decode cX8_addRows 0 = .ok (.iconst 1, 1) := by decide +kernel
theorem dX8_addRows_1 : decode cX8_addRows 1 = .ok (.istore_n 3, 1) := by decide +kernel
theorem dX8_addRows_2 : decode cX8_addRows 2 = .ok (.iload_n 3, 1) := by decide +kernel
theorem dX8_addRows_3 : decode cX8_addRows 3 = .ok (.aload_n 0, 1) := by decide +kernel
theorem dX8_addRows_4 : decode cX8_addRows 4 = .ok (.getfield 19, 3) := by decide +kernel
theorem dX8_addRows_7 : decode cX8_addRows 7 = .ok (.invokevirtual 57, 3) := by decide +kernel
theorem dX8_addRows_10 : decode cX8_addRows 10 = .ok (.if_icmp .gt 60, 3) := by decide +kernel
theorem dX8_addRows_13 : decode cX8_addRows 13 = .ok (.aload_n 0, 1) := by decide +kernel
theorem dX8_addRows_14 : decode cX8_addRows 14 = .ok (.iload_n 2, 1) := by decide +kernel
theorem dX8_addRows_15 : decode cX8_addRows 15 = .ok (.iload_n 3, 1) := by decide +kernel
theorem dX8_addRows_16 : decode cX8_addRows 16 = .ok (.invokevirtual 71, 3) := by decide +kernel
theorem dX8_addRows_19 : decode cX8_addRows 19 = .ok (.ifCond .eq 45, 3) := by decide +kernel
theorem dX8_addRows_22 : decode cX8_addRows 22 = .ok (.aload_n 0, 1) := by decide +kernel
theorem dX8_addRows_23 : decode cX8_addRows 23 = .ok (.getfield 19, 3) := by decide +kernel
theorem dX8_addRows_26 : decode cX8_addRows 26 = .ok (.iload_n 2, 1) := by decide +kernel
theorem dX8_addRows_27 : decode cX8_addRows 27 = .ok (.iload_n 3, 1) := by decide +kernel
theorem dX8_addRows_28 : decode cX8_addRows 28 = .ok (.invokevirtual 60, 3) := by decide +kernel
theorem dX8_addRows_31 : decode cX8_addRows 31 = .ok (.istore 4, 2) := by decide +kernel
theorem dX8_addRows_33 : decode cX8_addRows 33 = .ok (.aload_n 1, 1) := by decide +kernel
theorem dX8_addRows_34 : decode cX8_addRows 34 = .ok (.iload 4, 2) := by decide +kernel
theorem dX8_addRows_36 : decode cX8_addRows 36 = .ok (.invokestatic 63, 3) := by decide +kernel
theorem dX8_addRows_39 : decode cX8_addRows 39 = .ok (.i2l, 1) := by decide +kernel
theorem dX8_addRows_40 : decode cX8_addRows 40 = .ok (.aload_n 1, 1) := by decide +kernel
theorem dX8_addRows_41 : decode cX8_addRows 41 = .ok (.iload_n 2, 1) := by decide +kernel
theorem dX8_addRows_42 : decode cX8_addRows 42 = .ok (.invokestatic 63, 3) := by decide +kernel
theorem dX8_addRows_45 : decode cX8_addRows 45 = .ok (.i2l, 1) := by decide +kernel
theorem dX8_addRows_46 : decode cX8_addRows 46 = .ok (.ladd, 1) := by decide +kernel
theorem dX8_addRows_47 : decode cX8_addRows 47 = .ok (.lstore 5, 2) := by decide +kernel
theorem dX8_addRows_49 : decode cX8_addRows 49 = .ok (.aload_n 1, 1) := by decide +kernel
theorem dX8_addRows_50 : decode cX8_addRows 50 = .ok (.iload 4, 2) := by decide +kernel
theorem dX8_addRows_52 : decode cX8_addRows 52 = .ok (.ldc2_w 80, 3) := by decide +kernel
theorem dX8_addRows_55 : decode cX8_addRows 55 = .ok (.lload 5, 2) := by decide +kernel
theorem dX8_addRows_57 : decode cX8_addRows 57 = .ok (.invokestatic 82, 3) := by decide +kernel
theorem dX8_addRows_60 : decode cX8_addRows 60 = .ok (.l2i, 1) := by decide +kernel
theorem dX8_addRows_61 : decode cX8_addRows 61 = .ok (.invokestatic 49, 3) := by decide +kernel
theorem dX8_addRows_64 : decode cX8_addRows 64 = .ok (.iinc 3 1, 3) := by decide +kernel
theorem dX8_addRows_67 : decode cX8_addRows 67 = .ok (.goto (-65), 3) := by decide +kernel
theorem dX8_addRows_70 : decode cX8_addRows 70 = .ok (.return_, 1) := by decide +kernel
theorem dX8_most_0 : decode cX8_most 0 = .ok (.iconst 0, 1) := by decide +kernel
theorem dX8_most_1 : decode cX8_most 1 = .ok (.istore_n 1, 1) := by decide +kernel
theorem dX8_most_2 : decode cX8_most 2 = .ok (.iconst 0, 1) := by decide +kernel
theorem dX8_most_3 : decode cX8_most 3 = .ok (.istore_n 2, 1) := by decide +kernel
theorem dX8_most_4 : decode cX8_most 4 = .ok (.iload_n 2, 1) := by decide +kernel
theorem dX8_most_5 : decode cX8_most 5 = .ok (.aload_n 0, 1) := by decide +kernel
theorem dX8_most_6 : decode cX8_most 6 = .ok (.getfield 19, 3) := by decide +kernel
theorem dX8_most_9 : decode cX8_most 9 = .ok (.invokevirtual 39, 3) := by decide +kernel
theorem dX8_most_12 : decode cX8_most 12 = .ok (.if_icmp .ge 22, 3) := by decide +kernel
theorem dX8_most_15 : decode cX8_most 15 = .ok (.iload_n 1, 1) := by decide +kernel
theorem dX8_most_16 : decode cX8_most 16 = .ok (.aload_n 0, 1) := by decide +kernel
theorem dX8_most_17 : decode cX8_most 17 = .ok (.getfield 9, 3) := by decide +kernel
theorem dX8_most_20 : decode cX8_most 20 = .ok (.iload_n 2, 1) := by decide +kernel
theorem dX8_most_21 : decode cX8_most 21 = .ok (.invokestatic 63, 3) := by decide +kernel
theorem dX8_most_24 : decode cX8_most 24 = .ok (.invokestatic 88, 3) := by decide +kernel
theorem dX8_most_27 : decode cX8_most 27 = .ok (.istore_n 1, 1) := by decide +kernel
theorem dX8_most_28 : decode cX8_most 28 = .ok (.iinc 2 1, 3) := by decide +kernel
theorem dX8_most_31 : decode cX8_most 31 = .ok (.goto (-27), 3) := by decide +kernel
theorem dX8_most_34 : decode cX8_most 34 = .ok (.iload_n 1, 1) := by decide +kernel
theorem dX8_most_35 : decode cX8_most 35 = .ok (.ireturn, 1) := by decide +kernel
theorem dX8_stacksAt_0 : decode cX8_stacksAt 0 = .ok (.iconst 0, 1) := by decide +kernel
theorem dX8_stacksAt_1 : decode cX8_stacksAt 1 = .ok (.istore_n 2, 1) := by decide +kernel
theorem dX8_stacksAt_2 : decode cX8_stacksAt 2 = .ok (.iconst 0, 1) := by decide +kernel
theorem dX8_stacksAt_3 : decode cX8_stacksAt 3 = .ok (.istore_n 3, 1) := by decide +kernel
theorem dX8_stacksAt_4 : decode cX8_stacksAt 4 = .ok (.iload_n 3, 1) := by decide +kernel
theorem dX8_stacksAt_5 : decode cX8_stacksAt 5 = .ok (.aload_n 0, 1) := by decide +kernel
theorem dX8_stacksAt_6 : decode cX8_stacksAt 6 = .ok (.getfield 19, 3) := by decide +kernel
theorem dX8_stacksAt_9 : decode cX8_stacksAt 9 = .ok (.invokevirtual 39, 3) := by decide +kernel
theorem dX8_stacksAt_12 : decode cX8_stacksAt 12 = .ok (.if_icmp .ge 29, 3) := by decide +kernel
theorem dX8_stacksAt_15 : decode cX8_stacksAt 15 = .ok (.iload_n 2, 1) := by decide +kernel
theorem dX8_stacksAt_16 : decode cX8_stacksAt 16 = .ok (.aload_n 0, 1) := by decide +kernel
theorem dX8_stacksAt_17 : decode cX8_stacksAt 17 = .ok (.getfield 9, 3) := by decide +kernel
theorem dX8_stacksAt_20 : decode cX8_stacksAt 20 = .ok (.iload_n 3, 1) := by decide +kernel
theorem dX8_stacksAt_21 : decode cX8_stacksAt 21 = .ok (.invokestatic 63, 3) := by decide +kernel
theorem dX8_stacksAt_24 : decode cX8_stacksAt 24 = .ok (.iload_n 1, 1) := by decide +kernel
theorem dX8_stacksAt_25 : decode cX8_stacksAt 25 = .ok (.if_icmp .ne 7, 3) := by decide +kernel
theorem dX8_stacksAt_28 : decode cX8_stacksAt 28 = .ok (.iconst 1, 1) := by decide +kernel
theorem dX8_stacksAt_29 : decode cX8_stacksAt 29 = .ok (.goto 4, 3) := by decide +kernel
theorem dX8_stacksAt_32 : decode cX8_stacksAt 32 = .ok (.iconst 0, 1) := by decide +kernel
theorem dX8_stacksAt_33 : decode cX8_stacksAt 33 = .ok (.iadd, 1) := by decide +kernel
theorem dX8_stacksAt_34 : decode cX8_stacksAt 34 = .ok (.istore_n 2, 1) := by decide +kernel
theorem dX8_stacksAt_35 : decode cX8_stacksAt 35 = .ok (.iinc 3 1, 3) := by decide +kernel
theorem dX8_stacksAt_38 : decode cX8_stacksAt 38 = .ok (.goto (-34), 3) := by decide +kernel
theorem dX8_stacksAt_41 : decode cX8_stacksAt 41 = .ok (.iload_n 2, 1) := by decide +kernel
theorem dX8_stacksAt_42 : decode cX8_stacksAt 42 = .ok (.ireturn, 1) := by decide +kernel
theorem dX8_stacksWithin_0 : decode cX8_stacksWithin 0 = .ok (.iconst 0, 1) := by decide +kernel
theorem dX8_stacksWithin_1 : decode cX8_stacksWithin 1 = .ok (.istore_n 2, 1) := by decide +kernel
theorem dX8_stacksWithin_2 : decode cX8_stacksWithin 2 = .ok (.iconst 0, 1) := by decide +kernel
theorem dX8_stacksWithin_3 : decode cX8_stacksWithin 3 = .ok (.istore_n 3, 1) := by decide +kernel
theorem dX8_stacksWithin_4 : decode cX8_stacksWithin 4 = .ok (.iload_n 3, 1) := by decide +kernel
theorem dX8_stacksWithin_5 : decode cX8_stacksWithin 5 = .ok (.aload_n 0, 1) := by decide +kernel
theorem dX8_stacksWithin_6 : decode cX8_stacksWithin 6 = .ok (.getfield 19, 3) := by decide +kernel
theorem dX8_stacksWithin_9 : decode cX8_stacksWithin 9 = .ok (.invokevirtual 39, 3) := by decide +kernel
theorem dX8_stacksWithin_12 : decode cX8_stacksWithin 12 = .ok (.if_icmp .ge 40, 3) := by decide +kernel
theorem dX8_stacksWithin_15 : decode cX8_stacksWithin 15 = .ok (.iload_n 2, 1) := by decide +kernel
theorem dX8_stacksWithin_16 : decode cX8_stacksWithin 16 = .ok (.aload_n 0, 1) := by decide +kernel
theorem dX8_stacksWithin_17 : decode cX8_stacksWithin 17 = .ok (.getfield 9, 3) := by decide +kernel
theorem dX8_stacksWithin_20 : decode cX8_stacksWithin 20 = .ok (.iload_n 3, 1) := by decide +kernel
theorem dX8_stacksWithin_21 : decode cX8_stacksWithin 21 = .ok (.invokestatic 63, 3) := by decide +kernel
theorem dX8_stacksWithin_24 : decode cX8_stacksWithin 24 = .ok (.ifCond .lt 19, 3) := by decide +kernel
theorem dX8_stacksWithin_27 : decode cX8_stacksWithin 27 = .ok (.aload_n 0, 1) := by decide +kernel
theorem dX8_stacksWithin_28 : decode cX8_stacksWithin 28 = .ok (.getfield 9, 3) := by decide +kernel
theorem dX8_stacksWithin_31 : decode cX8_stacksWithin 31 = .ok (.iload_n 3, 1) := by decide +kernel
theorem dX8_stacksWithin_32 : decode cX8_stacksWithin 32 = .ok (.invokestatic 63, 3) := by decide +kernel
theorem dX8_stacksWithin_35 : decode cX8_stacksWithin 35 = .ok (.iload_n 1, 1) := by decide +kernel
theorem dX8_stacksWithin_36 : decode cX8_stacksWithin 36 = .ok (.if_icmp .gt 7, 3) := by decide +kernel
theorem dX8_stacksWithin_39 : decode cX8_stacksWithin 39 = .ok (.iconst 1, 1) := by decide +kernel
theorem dX8_stacksWithin_40 : decode cX8_stacksWithin 40 = .ok (.goto 4, 3) := by decide +kernel
theorem dX8_stacksWithin_43 : decode cX8_stacksWithin 43 = .ok (.iconst 0, 1) := by decide +kernel
theorem dX8_stacksWithin_44 : decode cX8_stacksWithin 44 = .ok (.iadd, 1) := by decide +kernel
theorem dX8_stacksWithin_45 : decode cX8_stacksWithin 45 = .ok (.istore_n 2, 1) := by decide +kernel
theorem dX8_stacksWithin_46 : decode cX8_stacksWithin 46 = .ok (.iinc 3 1, 3) := by decide +kernel
theorem dX8_stacksWithin_49 : decode cX8_stacksWithin 49 = .ok (.goto (-45), 3) := by decide +kernel
theorem dX8_stacksWithin_52 : decode cX8_stacksWithin 52 = .ok (.iload_n 2, 1) := by decide +kernel
theorem dX8_stacksWithin_53 : decode cX8_stacksWithin 53 = .ok (.ireturn, 1) := by decide +kernel
theorem dX9_init_0 : decode cX9_init 0 = .ok (.aload_n 0, 1) := by decide +kernel
theorem dX9_init_1 : decode cX9_init 1 = .ok (.invokespecial 3, 3) := by decide +kernel
theorem dX9_init_4 : decode cX9_init 4 = .ok (.aload_n 0, 1) := by decide +kernel
theorem dX9_init_5 : decode cX9_init 5 = .ok (.sipush 1000, 3) := by decide +kernel
theorem dX9_init_8 : decode cX9_init 8 = .ok (.newarray .char, 2) := by decide +kernel
theorem dX9_init_10 : decode cX9_init 10 = .ok (.putfield 9, 3) := by decide +kernel
theorem dX9_init_13 : decode cX9_init 13 = .ok (.aload_n 0, 1) := by decide +kernel
theorem dX9_init_14 : decode cX9_init 14 = .ok (.bipush 101, 2) := by decide +kernel
theorem dX9_init_16 : decode cX9_init 16 = .ok (.putfield 15, 3) := by decide +kernel
theorem dX9_init_19 : decode cX9_init 19 = .ok (.aload_n 0, 1) := by decide +kernel
theorem dX9_init_20 : decode cX9_init 20 = .ok (.getstatic 19, 3) := by decide +kernel
theorem dX9_init_23 : decode cX9_init 23 = .ok (.putfield 25, 3) := by decide +kernel
theorem dX9_init_26 : decode cX9_init 26 = .ok (.return_, 1) := by decide +kernel
theorem dX9_addBytes_0 : decode cX9_addBytes 0 = .ok (.bipush 56, 2) := by decide +kernel
theorem dX9_addBytes_2 : decode cX9_addBytes 2 = .ok (.istore_n 3, 1) := by decide +kernel
theorem dX9_addBytes_3 : decode cX9_addBytes 3 = .ok (.iload_n 3, 1) := by decide +kernel
theorem dX9_addBytes_4 : decode cX9_addBytes 4 = .ok (.ifCond .lt 21, 3) := by decide +kernel
theorem dX9_addBytes_7 : decode cX9_addBytes 7 = .ok (.aload_n 0, 1) := by decide +kernel
theorem dX9_addBytes_8 : decode cX9_addBytes 8 = .ok (.lload_n 1, 1) := by decide +kernel
theorem dX9_addBytes_9 : decode cX9_addBytes 9 = .ok (.iload_n 3, 1) := by decide +kernel
theorem dX9_addBytes_10 : decode cX9_addBytes 10 = .ok (.lushr, 1) := by decide +kernel
theorem dX9_addBytes_11 : decode cX9_addBytes 11 = .ok (.ldc2_w 28, 3) := by decide +kernel
theorem dX9_addBytes_14 : decode cX9_addBytes 14 = .ok (.land, 1) := by decide +kernel
theorem dX9_addBytes_15 : decode cX9_addBytes 15 = .ok (.l2i, 1) := by decide +kernel
theorem dX9_addBytes_16 : decode cX9_addBytes 16 = .ok (.invokevirtual 30, 3) := by decide +kernel
theorem dX9_addBytes_19 : decode cX9_addBytes 19 = .ok (.iinc 3 (-8), 3) := by decide +kernel
theorem dX9_addBytes_22 : decode cX9_addBytes 22 = .ok (.goto (-19), 3) := by decide +kernel
theorem dX9_addBytes_25 : decode cX9_addBytes 25 = .ok (.return_, 1) := by decide +kernel
theorem dX9_addSign_0 : decode cX9_addSign 0 = .ok (.iload_n 1, 1) := by decide +kernel
theorem dX9_addSign_1 : decode cX9_addSign 1 = .ok (.bipush 10, 2) := by decide +kernel
theorem dX9_addSign_3 : decode cX9_addSign 3 = .ok (.if_icmp .eq 15, 3) := by decide +kernel
theorem dX9_addSign_6 : decode cX9_addSign 6 = .ok (.iload_n 1, 1) := by decide +kernel
theorem dX9_addSign_7 : decode cX9_addSign 7 = .ok (.bipush 32, 2) := by decide +kernel
theorem dX9_addSign_9 : decode cX9_addSign 9 = .ok (.if_icmp .lt 13, 3) := by decide +kernel
theorem dX9_addSign_12 : decode cX9_addSign 12 = .ok (.iload_n 1, 1) := by decide +kernel
theorem dX9_addSign_13 : decode cX9_addSign 13 = .ok (.bipush 126, 2) := by decide +kernel
theorem dX9_addSign_15 : decode cX9_addSign 15 = .ok (.if_icmp .gt 7, 3) := by decide +kernel
theorem dX9_addSign_18 : decode cX9_addSign 18 = .ok (.iconst 1, 1) := by decide +kernel
theorem dX9_addSign_19 : decode cX9_addSign 19 = .ok (.goto 4, 3) := by decide +kernel
theorem dX9_addSign_22 : decode cX9_addSign 22 = .ok (.iconst 0, 1) := by decide +kernel
theorem dX9_addSign_23 : decode cX9_addSign 23 = .ok (.istore_n 2, 1) := by decide +kernel
theorem dX9_addSign_24 : decode cX9_addSign 24 = .ok (.iload_n 2, 1) := by decide +kernel
theorem dX9_addSign_25 : decode cX9_addSign 25 = .ok (.ifCond .eq 43, 3) := by decide +kernel
theorem dX9_addSign_28 : decode cX9_addSign 28 = .ok (.aload_n 0, 1) := by decide +kernel
theorem dX9_addSign_29 : decode cX9_addSign 29 = .ok (.getfield 34, 3) := by decide +kernel
theorem dX9_addSign_32 : decode cX9_addSign 32 = .ok (.ifCond .lt 36, 3) := by decide +kernel
theorem dX9_addSign_35 : decode cX9_addSign 35 = .ok (.aload_n 0, 1) := by decide +kernel
theorem dX9_addSign_36 : decode cX9_addSign 36 = .ok (.getfield 34, 3) := by decide +kernel
theorem dX9_addSign_39 : decode cX9_addSign 39 = .ok (.aload_n 0, 1) := by decide +kernel
theorem dX9_addSign_40 : decode cX9_addSign 40 = .ok (.getfield 9, 3) := by decide +kernel
theorem dX9_addSign_43 : decode cX9_addSign 43 = .ok (.arraylength, 1) := by decide +kernel
theorem dX9_addSign_44 : decode cX9_addSign 44 = .ok (.if_icmp .ge 24, 3) := by decide +kernel
theorem dX9_addSign_47 : decode cX9_addSign 47 = .ok (.aload_n 0, 1) := by decide +kernel
theorem dX9_addSign_48 : decode cX9_addSign 48 = .ok (.getfield 9, 3) := by decide +kernel
theorem dX9_addSign_51 : decode cX9_addSign 51 = .ok (.aload_n 0, 1) := by decide +kernel
theorem dX9_addSign_52 : decode cX9_addSign 52 = .ok (.getfield 34, 3) := by decide +kernel
theorem dX9_addSign_55 : decode cX9_addSign 55 = .ok (.iload_n 1, 1) := by decide +kernel
theorem dX9_addSign_56 : decode cX9_addSign 56 = .ok (.i2c, 1) := by decide +kernel
theorem dX9_addSign_57 : decode cX9_addSign 57 = .ok (.castore, 1) := by decide +kernel
theorem dX9_addSign_58 : decode cX9_addSign 58 = .ok (.aload_n 0, 1) := by decide +kernel
theorem dX9_addSign_59 : decode cX9_addSign 59 = .ok (.dup, 1) := by decide +kernel
theorem dX9_addSign_60 : decode cX9_addSign 60 = .ok (.getfield 34, 3) := by decide +kernel
theorem dX9_addSign_63 : decode cX9_addSign 63 = .ok (.iconst 1, 1) := by decide +kernel
theorem dX9_addSign_64 : decode cX9_addSign 64 = .ok (.iadd, 1) := by decide +kernel
theorem dX9_addSign_65 : decode cX9_addSign 65 = .ok (.putfield 34, 3) := by decide +kernel
theorem dX9_addSign_68 : decode cX9_addSign 68 = .ok (.return_, 1) := by decide +kernel
theorem dX9_signs_0 : decode cX9_signs 0 = .ok (.aload_n 0, 1) := by decide +kernel
theorem dX9_signs_1 : decode cX9_signs 1 = .ok (.getfield 34, 3) := by decide +kernel
theorem dX9_signs_4 : decode cX9_signs 4 = .ok (.ireturn, 1) := by decide +kernel
theorem dX9_clear_0 : decode cX9_clear 0 = .ok (.aload_n 0, 1) := by decide +kernel
theorem dX9_clear_1 : decode cX9_clear 1 = .ok (.iconst 0, 1) := by decide +kernel
theorem dX9_clear_2 : decode cX9_clear 2 = .ok (.putfield 34, 3) := by decide +kernel
theorem dX9_clear_5 : decode cX9_clear 5 = .ok (.return_, 1) := by decide +kernel
theorem dX9_rewind_0 : decode cX9_rewind 0 = .ok (.aload_n 0, 1) := by decide +kernel
theorem dX9_rewind_1 : decode cX9_rewind 1 = .ok (.iconst 0, 1) := by decide +kernel
theorem dX9_rewind_2 : decode cX9_rewind 2 = .ok (.putfield 38, 3) := by decide +kernel
theorem dX9_rewind_5 : decode cX9_rewind 5 = .ok (.aload_n 0, 1) := by decide +kernel
theorem dX9_rewind_6 : decode cX9_rewind 6 = .ok (.invokevirtual 41, 3) := by decide +kernel
theorem dX9_rewind_9 : decode cX9_rewind 9 = .ok (.return_, 1) := by decide +kernel
theorem dX9_step_0 : decode cX9_step 0 = .ok (.aload_n 0, 1) := by decide +kernel
theorem dX9_step_1 : decode cX9_step 1 = .ok (.aload_n 0, 1) := by decide +kernel
theorem dX9_step_2 : decode cX9_step 2 = .ok (.getfield 38, 3) := by decide +kernel
theorem dX9_step_5 : decode cX9_step 5 = .ok (.putfield 44, 3) := by decide +kernel
theorem dX9_step_8 : decode cX9_step 8 = .ok (.aload_n 0, 1) := by decide +kernel
theorem dX9_step_9 : decode cX9_step 9 = .ok (.getfield 44, 3) := by decide +kernel
theorem dX9_step_12 : decode cX9_step 12 = .ok (.aload_n 0, 1) := by decide +kernel
theorem dX9_step_13 : decode cX9_step 13 = .ok (.getfield 34, 3) := by decide +kernel
theorem dX9_step_16 : decode cX9_step 16 = .ok (.if_icmp .ge 30, 3) := by decide +kernel
theorem dX9_step_19 : decode cX9_step 19 = .ok (.aload_n 0, 1) := by decide +kernel
theorem dX9_step_20 : decode cX9_step 20 = .ok (.aload_n 0, 1) := by decide +kernel
theorem dX9_step_21 : decode cX9_step 21 = .ok (.getfield 44, 3) := by decide +kernel
theorem dX9_step_24 : decode cX9_step 24 = .ok (.invokevirtual 47, 3) := by decide +kernel
theorem dX9_step_27 : decode cX9_step 27 = .ok (.invokestatic 51, 3) := by decide +kernel
theorem dX9_step_30 : decode cX9_step 30 = .ok (.ifCond .eq 16, 3) := by decide +kernel
theorem dX9_step_33 : decode cX9_step 33 = .ok (.aload_n 0, 1) := by decide +kernel
theorem dX9_step_34 : decode cX9_step 34 = .ok (.dup, 1) := by decide +kernel
theorem dX9_step_35 : decode cX9_step 35 = .ok (.getfield 44, 3) := by decide +kernel
theorem dX9_step_38 : decode cX9_step 38 = .ok (.iconst 1, 1) := by decide +kernel
theorem dX9_step_39 : decode cX9_step 39 = .ok (.iadd, 1) := by decide +kernel
theorem dX9_step_40 : decode cX9_step 40 = .ok (.putfield 44, 3) := by decide +kernel
theorem dX9_step_43 : decode cX9_step 43 = .ok (.goto (-35), 3) := by decide +kernel
theorem dX9_step_46 : decode cX9_step 46 = .ok (.aload_n 0, 1) := by decide +kernel
theorem dX9_step_47 : decode cX9_step 47 = .ok (.aload_n 0, 1) := by decide +kernel
theorem dX9_step_48 : decode cX9_step 48 = .ok (.getfield 44, 3) := by decide +kernel
theorem dX9_step_51 : decode cX9_step 51 = .ok (.putfield 38, 3) := by decide +kernel
theorem dX9_step_54 : decode cX9_step 54 = .ok (.aload_n 0, 1) := by decide +kernel
theorem dX9_step_55 : decode cX9_step 55 = .ok (.getstatic 19, 3) := by decide +kernel
theorem dX9_step_58 : decode cX9_step 58 = .ok (.putfield 25, 3) := by decide +kernel
theorem dX9_step_61 : decode cX9_step 61 = .ok (.aload_n 0, 1) := by decide +kernel
theorem dX9_step_62 : decode cX9_step 62 = .ok (.aload_n 0, 1) := by decide +kernel
theorem dX9_step_63 : decode cX9_step 63 = .ok (.getfield 44, 3) := by decide +kernel
theorem dX9_step_66 : decode cX9_step 66 = .ok (.invokevirtual 47, 3) := by decide +kernel
theorem dX9_step_69 : decode cX9_step 69 = .ok (.istore_n 1, 1) := by decide +kernel
theorem dX9_step_70 : decode cX9_step 70 = .ok (.aload_n 0, 1) := by decide +kernel
theorem dX9_step_71 : decode cX9_step 71 = .ok (.getfield 44, 3) := by decide +kernel
theorem dX9_step_74 : decode cX9_step 74 = .ok (.aload_n 0, 1) := by decide +kernel
theorem dX9_step_75 : decode cX9_step 75 = .ok (.getfield 34, 3) := by decide +kernel
theorem dX9_step_78 : decode cX9_step 78 = .ok (.if_icmp .lt 12, 3) := by decide +kernel
theorem dX9_step_81 : decode cX9_step 81 = .ok (.aload_n 0, 1) := by decide +kernel
theorem dX9_step_82 : decode cX9_step 82 = .ok (.bipush 101, 2) := by decide +kernel
theorem dX9_step_84 : decode cX9_step 84 = .ok (.putfield 15, 3) := by decide +kernel
theorem dX9_step_87 : decode cX9_step 87 = .ok (.goto 60, 3) := by decide +kernel
theorem dX9_step_90 : decode cX9_step 90 = .ok (.iload_n 1, 1) := by decide +kernel
theorem dX9_step_91 : decode cX9_step 91 = .ok (.invokestatic 55, 3) := by decide +kernel
theorem dX9_step_94 : decode cX9_step 94 = .ok (.ifCond .eq 10, 3) := by decide +kernel
theorem dX9_step_97 : decode cX9_step 97 = .ok (.aload_n 0, 1) := by decide +kernel
theorem dX9_step_98 : decode cX9_step 98 = .ok (.invokevirtual 58, 3) := by decide +kernel
theorem dX9_step_101 : decode cX9_step 101 = .ok (.goto 46, 3) := by decide +kernel
theorem dX9_step_104 : decode cX9_step 104 = .ok (.iload_n 1, 1) := by decide +kernel
theorem dX9_step_105 : decode cX9_step 105 = .ok (.invokestatic 61, 3) := by decide +kernel
theorem dX9_step_108 : decode cX9_step 108 = .ok (.ifCond .eq 10, 3) := by decide +kernel
theorem dX9_step_111 : decode cX9_step 111 = .ok (.aload_n 0, 1) := by decide +kernel
theorem dX9_step_112 : decode cX9_step 112 = .ok (.invokevirtual 64, 3) := by decide +kernel
theorem dX9_step_115 : decode cX9_step 115 = .ok (.goto 32, 3) := by decide +kernel
theorem dX9_step_118 : decode cX9_step 118 = .ok (.aload_n 0, 1) := by decide +kernel
theorem dX9_step_119 : decode cX9_step 119 = .ok (.ldc 67, 2) := by decide +kernel
theorem dX9_step_121 : decode cX9_step 121 = .ok (.iload_n 1, 1) := by decide +kernel
theorem dX9_step_122 : decode cX9_step 122 = .ok (.invokevirtual 69, 3) := by decide +kernel
theorem dX9_step_125 : decode cX9_step 125 = .ok (.ifCond .lt 7, 3) := by decide +kernel
theorem dX9_step_128 : decode cX9_step 128 = .ok (.iload_n 1, 1) := by decide +kernel
theorem dX9_step_129 : decode cX9_step 129 = .ok (.goto 5, 3) := by decide +kernel
theorem dX9_step_132 : decode cX9_step 132 = .ok (.bipush 115, 2) := by decide +kernel
theorem dX9_step_134 : decode cX9_step 134 = .ok (.putfield 15, 3) := by decide +kernel
theorem dX9_step_137 : decode cX9_step 137 = .ok (.aload_n 0, 1) := by decide +kernel
theorem dX9_step_138 : decode cX9_step 138 = .ok (.aload_n 0, 1) := by decide +kernel
theorem dX9_step_139 : decode cX9_step 139 = .ok (.getfield 44, 3) := by decide +kernel
theorem dX9_step_142 : decode cX9_step 142 = .ok (.iconst 1, 1) := by decide +kernel
theorem dX9_step_143 : decode cX9_step 143 = .ok (.iadd, 1) := by decide +kernel
theorem dX9_step_144 : decode cX9_step 144 = .ok (.putfield 38, 3) := by decide +kernel
theorem dX9_step_147 : decode cX9_step 147 = .ok (.return_, 1) := by decide +kernel
theorem dX9_readWord_0 : decode cX9_readWord 0 = .ok (.aload_n 0, 1) := by decide +kernel
theorem dX9_readWord_1 : decode cX9_readWord 1 = .ok (.lconst 0, 1) := by decide +kernel
theorem dX9_readWord_2 : decode cX9_readWord 2 = .ok (.putfield 75, 3) := by decide +kernel
theorem dX9_readWord_5 : decode cX9_readWord 5 = .ok (.aload_n 0, 1) := by decide +kernel
theorem dX9_readWord_6 : decode cX9_readWord 6 = .ok (.getfield 38, 3) := by decide +kernel
theorem dX9_readWord_9 : decode cX9_readWord 9 = .ok (.aload_n 0, 1) := by decide +kernel
theorem dX9_readWord_10 : decode cX9_readWord 10 = .ok (.getfield 34, 3) := by decide +kernel
theorem dX9_readWord_13 : decode cX9_readWord 13 = .ok (.if_icmp .ge 49, 3) := by decide +kernel
theorem dX9_readWord_16 : decode cX9_readWord 16 = .ok (.aload_n 0, 1) := by decide +kernel
theorem dX9_readWord_17 : decode cX9_readWord 17 = .ok (.aload_n 0, 1) := by decide +kernel
theorem dX9_readWord_18 : decode cX9_readWord 18 = .ok (.getfield 38, 3) := by decide +kernel
theorem dX9_readWord_21 : decode cX9_readWord 21 = .ok (.invokevirtual 47, 3) := by decide +kernel
theorem dX9_readWord_24 : decode cX9_readWord 24 = .ok (.invokestatic 55, 3) := by decide +kernel
theorem dX9_readWord_27 : decode cX9_readWord 27 = .ok (.ifCond .eq 35, 3) := by decide +kernel
theorem dX9_readWord_30 : decode cX9_readWord 30 = .ok (.aload_n 0, 1) := by decide +kernel
theorem dX9_readWord_31 : decode cX9_readWord 31 = .ok (.aload_n 0, 1) := by decide +kernel
theorem dX9_readWord_32 : decode cX9_readWord 32 = .ok (.getfield 75, 3) := by decide +kernel
theorem dX9_readWord_35 : decode cX9_readWord 35 = .ok (.aload_n 0, 1) := by decide +kernel
theorem dX9_readWord_36 : decode cX9_readWord 36 = .ok (.aload_n 0, 1) := by decide +kernel
theorem dX9_readWord_37 : decode cX9_readWord 37 = .ok (.getfield 38, 3) := by decide +kernel
theorem dX9_readWord_40 : decode cX9_readWord 40 = .ok (.invokevirtual 47, 3) := by decide +kernel
theorem dX9_readWord_43 : decode cX9_readWord 43 = .ok (.invokestatic 79, 3) := by decide +kernel
theorem dX9_readWord_46 : decode cX9_readWord 46 = .ok (.putfield 75, 3) := by decide +kernel
theorem dX9_readWord_49 : decode cX9_readWord 49 = .ok (.aload_n 0, 1) := by decide +kernel
theorem dX9_readWord_50 : decode cX9_readWord 50 = .ok (.dup, 1) := by decide +kernel
theorem dX9_readWord_51 : decode cX9_readWord 51 = .ok (.getfield 38, 3) := by decide +kernel
theorem dX9_readWord_54 : decode cX9_readWord 54 = .ok (.iconst 1, 1) := by decide +kernel
theorem dX9_readWord_55 : decode cX9_readWord 55 = .ok (.iadd, 1) := by decide +kernel
theorem dX9_readWord_56 : decode cX9_readWord 56 = .ok (.putfield 38, 3) := by decide +kernel
theorem dX9_readWord_59 : decode cX9_readWord 59 = .ok (.goto (-54), 3) := by decide +kernel
theorem dX9_readWord_62 : decode cX9_readWord 62 = .ok (.aload_n 0, 1) := by decide +kernel
theorem dX9_readWord_63 : decode cX9_readWord 63 = .ok (.getfield 38, 3) := by decide +kernel
theorem dX9_readWord_66 : decode cX9_readWord 66 = .ok (.aload_n 0, 1) := by decide +kernel
theorem dX9_readWord_67 : decode cX9_readWord 67 = .ok (.getfield 44, 3) := by decide +kernel
theorem dX9_readWord_70 : decode cX9_readWord 70 = .ok (.isub, 1) := by decide +kernel
theorem dX9_readWord_71 : decode cX9_readWord 71 = .ok (.bipush 8, 2) := by decide +kernel
theorem dX9_readWord_73 : decode cX9_readWord 73 = .ok (.if_icmp .le 7, 3) := by decide +kernel
theorem dX9_readWord_76 : decode cX9_readWord 76 = .ok (.iconst 1, 1) := by decide +kernel
theorem dX9_readWord_77 : decode cX9_readWord 77 = .ok (.goto 4, 3) := by decide +kernel
theorem dX9_readWord_80 : decode cX9_readWord 80 = .ok (.iconst 0, 1) := by decide +kernel
theorem dX9_readWord_81 : decode cX9_readWord 81 = .ok (.istore_n 1, 1) := by decide +kernel
theorem dX9_readWord_82 : decode cX9_readWord 82 = .ok (.aload_n 0, 1) := by decide +kernel
theorem dX9_readWord_83 : decode cX9_readWord 83 = .ok (.iload_n 1, 1) := by decide +kernel
theorem dX9_readWord_84 : decode cX9_readWord 84 = .ok (.ifCond .eq 8, 3) := by decide +kernel
theorem dX9_readWord_87 : decode cX9_readWord 87 = .ok (.bipush 115, 2) := by decide +kernel
theorem dX9_readWord_89 : decode cX9_readWord 89 = .ok (.goto 5, 3) := by decide +kernel
theorem dX9_readWord_92 : decode cX9_readWord 92 = .ok (.bipush 119, 2) := by decide +kernel
theorem dX9_readWord_94 : decode cX9_readWord 94 = .ok (.putfield 15, 3) := by decide +kernel
theorem dX9_readWord_97 : decode cX9_readWord 97 = .ok (.aload_n 0, 1) := by decide +kernel
theorem dX9_readWord_98 : decode cX9_readWord 98 = .ok (.iload_n 1, 1) := by decide +kernel
theorem dX9_readWord_99 : decode cX9_readWord 99 = .ok (.ifCond .eq 9, 3) := by decide +kernel
theorem dX9_readWord_102 : decode cX9_readWord 102 = .ok (.getstatic 19, 3) := by decide +kernel
theorem dX9_readWord_105 : decode cX9_readWord 105 = .ok (.goto 10, 3) := by decide +kernel
theorem dX9_readWord_108 : decode cX9_readWord 108 = .ok (.aload_n 0, 1) := by decide +kernel
theorem dX9_readWord_109 : decode cX9_readWord 109 = .ok (.getfield 75, 3) := by decide +kernel
theorem dX9_readWord_112 : decode cX9_readWord 112 = .ok (.invokestatic 83, 3) := by decide +kernel
theorem dX9_readWord_115 : decode cX9_readWord 115 = .ok (.putfield 25, 3) := by decide +kernel
theorem dX9_readWord_118 : decode cX9_readWord 118 = .ok (.return_, 1) := by decide +kernel
theorem dX9_readNumber_0 : decode cX9_readNumber 0 = .ok (.aload_n 0, 1) := by decide +kernel
theorem dX9_readNumber_1 : decode cX9_readNumber 1 = .ok (.iconst 0, 1) := by decide +kernel
theorem dX9_readNumber_2 : decode cX9_readNumber 2 = .ok (.putfield 87, 3) := by decide +kernel
theorem dX9_readNumber_5 : decode cX9_readNumber 5 = .ok (.aload_n 0, 1) := by decide +kernel
theorem dX9_readNumber_6 : decode cX9_readNumber 6 = .ok (.getfield 38, 3) := by decide +kernel
theorem dX9_readNumber_9 : decode cX9_readNumber 9 = .ok (.aload_n 0, 1) := by decide +kernel
theorem dX9_readNumber_10 : decode cX9_readNumber 10 = .ok (.getfield 34, 3) := by decide +kernel
theorem dX9_readNumber_13 : decode cX9_readNumber 13 = .ok (.if_icmp .ge 53, 3) := by decide +kernel
theorem dX9_readNumber_16 : decode cX9_readNumber 16 = .ok (.aload_n 0, 1) := by decide +kernel
theorem dX9_readNumber_17 : decode cX9_readNumber 17 = .ok (.aload_n 0, 1) := by decide +kernel
theorem dX9_readNumber_18 : decode cX9_readNumber 18 = .ok (.getfield 38, 3) := by decide +kernel
theorem dX9_readNumber_21 : decode cX9_readNumber 21 = .ok (.invokevirtual 47, 3) := by decide +kernel
theorem dX9_readNumber_24 : decode cX9_readNumber 24 = .ok (.invokestatic 61, 3) := by decide +kernel
theorem dX9_readNumber_27 : decode cX9_readNumber 27 = .ok (.ifCond .eq 39, 3) := by decide +kernel
theorem dX9_readNumber_30 : decode cX9_readNumber 30 = .ok (.aload_n 0, 1) := by decide +kernel
theorem dX9_readNumber_31 : decode cX9_readNumber 31 = .ok (.aload_n 0, 1) := by decide +kernel
theorem dX9_readNumber_32 : decode cX9_readNumber 32 = .ok (.getfield 87, 3) := by decide +kernel
theorem dX9_readNumber_35 : decode cX9_readNumber 35 = .ok (.bipush 10, 2) := by decide +kernel
theorem dX9_readNumber_37 : decode cX9_readNumber 37 = .ok (.imul, 1) := by decide +kernel
theorem dX9_readNumber_38 : decode cX9_readNumber 38 = .ok (.aload_n 0, 1) := by decide +kernel
theorem dX9_readNumber_39 : decode cX9_readNumber 39 = .ok (.aload_n 0, 1) := by decide +kernel
theorem dX9_readNumber_40 : decode cX9_readNumber 40 = .ok (.getfield 38, 3) := by decide +kernel
theorem dX9_readNumber_43 : decode cX9_readNumber 43 = .ok (.invokevirtual 47, 3) := by decide +kernel
theorem dX9_readNumber_46 : decode cX9_readNumber 46 = .ok (.bipush 48, 2) := by decide +kernel
theorem dX9_readNumber_48 : decode cX9_readNumber 48 = .ok (.isub, 1) := by decide +kernel
theorem dX9_readNumber_49 : decode cX9_readNumber 49 = .ok (.iadd, 1) := by decide +kernel
theorem dX9_readNumber_50 : decode cX9_readNumber 50 = .ok (.putfield 87, 3) := by decide +kernel
theorem dX9_readNumber_53 : decode cX9_readNumber 53 = .ok (.aload_n 0, 1) := by decide +kernel
theorem dX9_readNumber_54 : decode cX9_readNumber 54 = .ok (.dup, 1) := by decide +kernel
theorem dX9_readNumber_55 : decode cX9_readNumber 55 = .ok (.getfield 38, 3) := by decide +kernel
theorem dX9_readNumber_58 : decode cX9_readNumber 58 = .ok (.iconst 1, 1) := by decide +kernel
theorem dX9_readNumber_59 : decode cX9_readNumber 59 = .ok (.iadd, 1) := by decide +kernel
theorem dX9_readNumber_60 : decode cX9_readNumber 60 = .ok (.putfield 38, 3) := by decide +kernel
theorem dX9_readNumber_63 : decode cX9_readNumber 63 = .ok (.goto (-58), 3) := by decide +kernel
theorem dX9_readNumber_66 : decode cX9_readNumber 66 = .ok (.aload_n 0, 1) := by decide +kernel
theorem dX9_readNumber_67 : decode cX9_readNumber 67 = .ok (.aload_n 0, 1) := by decide +kernel
theorem dX9_readNumber_68 : decode cX9_readNumber 68 = .ok (.getfield 38, 3) := by decide +kernel
theorem dX9_readNumber_71 : decode cX9_readNumber 71 = .ok (.aload_n 0, 1) := by decide +kernel
theorem dX9_readNumber_72 : decode cX9_readNumber 72 = .ok (.getfield 44, 3) := by decide +kernel
theorem dX9_readNumber_75 : decode cX9_readNumber 75 = .ok (.isub, 1) := by decide +kernel
theorem dX9_readNumber_76 : decode cX9_readNumber 76 = .ok (.iconst 4, 1) := by decide +kernel
theorem dX9_readNumber_77 : decode cX9_readNumber 77 = .ok (.if_icmp .le 8, 3) := by decide +kernel
theorem dX9_readNumber_80 : decode cX9_readNumber 80 = .ok (.bipush 115, 2) := by decide +kernel
theorem dX9_readNumber_82 : decode cX9_readNumber 82 = .ok (.goto 5, 3) := by decide +kernel
theorem dX9_readNumber_85 : decode cX9_readNumber 85 = .ok (.bipush 110, 2) := by decide +kernel
theorem dX9_readNumber_87 : decode cX9_readNumber 87 = .ok (.putfield 15, 3) := by decide +kernel
theorem dX9_readNumber_90 : decode cX9_readNumber 90 = .ok (.return_, 1) := by decide +kernel
theorem dX9_signAt_0 : decode cX9_signAt 0 = .ok (.iload_n 1, 1) := by decide +kernel
theorem dX9_signAt_1 : decode cX9_signAt 1 = .ok (.ifCond .lt 29, 3) := by decide +kernel
theorem dX9_signAt_4 : decode cX9_signAt 4 = .ok (.iload_n 1, 1) := by decide +kernel
theorem dX9_signAt_5 : decode cX9_signAt 5 = .ok (.aload_n 0, 1) := by decide +kernel
theorem dX9_signAt_6 : decode cX9_signAt 6 = .ok (.getfield 34, 3) := by decide +kernel
theorem dX9_signAt_9 : decode cX9_signAt 9 = .ok (.if_icmp .ge 21, 3) := by decide +kernel
theorem dX9_signAt_12 : decode cX9_signAt 12 = .ok (.iload_n 1, 1) := by decide +kernel
theorem dX9_signAt_13 : decode cX9_signAt 13 = .ok (.aload_n 0, 1) := by decide +kernel
theorem dX9_signAt_14 : decode cX9_signAt 14 = .ok (.getfield 9, 3) := by decide +kernel
theorem dX9_signAt_17 : decode cX9_signAt 17 = .ok (.arraylength, 1) := by decide +kernel
theorem dX9_signAt_18 : decode cX9_signAt 18 = .ok (.if_icmp .ge 12, 3) := by decide +kernel
theorem dX9_signAt_21 : decode cX9_signAt 21 = .ok (.aload_n 0, 1) := by decide +kernel
theorem dX9_signAt_22 : decode cX9_signAt 22 = .ok (.getfield 9, 3) := by decide +kernel
theorem dX9_signAt_25 : decode cX9_signAt 25 = .ok (.iload_n 1, 1) := by decide +kernel
theorem dX9_signAt_26 : decode cX9_signAt 26 = .ok (.caload, 1) := by decide +kernel
theorem dX9_signAt_27 : decode cX9_signAt 27 = .ok (.goto 5, 3) := by decide +kernel
theorem dX9_signAt_30 : decode cX9_signAt 30 = .ok (.bipush 32, 2) := by decide +kernel
theorem dX9_signAt_32 : decode cX9_signAt 32 = .ok (.ireturn, 1) := by decide +kernel
theorem dX9_isBlank_0 : decode cX9_isBlank 0 = .ok (.iload_n 0, 1) := by decide +kernel
theorem dX9_isBlank_1 : decode cX9_isBlank 1 = .ok (.bipush 10, 2) := by decide +kernel
theorem dX9_isBlank_3 : decode cX9_isBlank 3 = .ok (.if_icmp .eq 9, 3) := by decide +kernel
theorem dX9_isBlank_6 : decode cX9_isBlank 6 = .ok (.iload_n 0, 1) := by decide +kernel
theorem dX9_isBlank_7 : decode cX9_isBlank 7 = .ok (.bipush 32, 2) := by decide +kernel
theorem dX9_isBlank_9 : decode cX9_isBlank 9 = .ok (.if_icmp .ne 7, 3) := by decide +kernel
theorem dX9_isBlank_12 : decode cX9_isBlank 12 = .ok (.iconst 1, 1) := by decide +kernel
theorem dX9_isBlank_13 : decode cX9_isBlank 13 = .ok (.goto 4, 3) := by decide +kernel
theorem dX9_isBlank_16 : decode cX9_isBlank 16 = .ok (.iconst 0, 1) := by decide +kernel
theorem dX9_isBlank_17 : decode cX9_isBlank 17 = .ok (.ireturn, 1) := by decide +kernel
theorem dX9_isLetter_0 : decode cX9_isLetter 0 = .ok (.iload_n 0, 1) := by decide +kernel
theorem dX9_isLetter_1 : decode cX9_isLetter 1 = .ok (.bipush 97, 2) := by decide +kernel
theorem dX9_isLetter_3 : decode cX9_isLetter 3 = .ok (.if_icmp .lt 13, 3) := by decide +kernel
theorem dX9_isLetter_6 : decode cX9_isLetter 6 = .ok (.iload_n 0, 1) := by decide +kernel
theorem dX9_isLetter_7 : decode cX9_isLetter 7 = .ok (.bipush 122, 2) := by decide +kernel
theorem dX9_isLetter_9 : decode cX9_isLetter 9 = .ok (.if_icmp .gt 7, 3) := by decide +kernel
theorem dX9_isLetter_12 : decode cX9_isLetter 12 = .ok (.iconst 1, 1) := by decide +kernel
theorem dX9_isLetter_13 : decode cX9_isLetter 13 = .ok (.goto 4, 3) := by decide +kernel
theorem dX9_isLetter_16 : decode cX9_isLetter 16 = .ok (.iconst 0, 1) := by decide +kernel
theorem dX9_isLetter_17 : decode cX9_isLetter 17 = .ok (.ireturn, 1) := by decide +kernel
theorem dX9_isFigure_0 : decode cX9_isFigure 0 = .ok (.iload_n 0, 1) := by decide +kernel
theorem dX9_isFigure_1 : decode cX9_isFigure 1 = .ok (.bipush 48, 2) := by decide +kernel
theorem dX9_isFigure_3 : decode cX9_isFigure 3 = .ok (.if_icmp .lt 13, 3) := by decide +kernel
theorem dX9_isFigure_6 : decode cX9_isFigure 6 = .ok (.iload_n 0, 1) := by decide +kernel
theorem dX9_isFigure_7 : decode cX9_isFigure 7 = .ok (.bipush 57, 2) := by decide +kernel
theorem dX9_isFigure_9 : decode cX9_isFigure 9 = .ok (.if_icmp .gt 7, 3) := by decide +kernel
theorem dX9_isFigure_12 : decode cX9_isFigure 12 = .ok (.iconst 1, 1) := by decide +kernel
theorem dX9_isFigure_13 : decode cX9_isFigure 13 = .ok (.goto 4, 3) := by decide +kernel
theorem dX9_isFigure_16 : decode cX9_isFigure 16 = .ok (.iconst 0, 1) := by decide +kernel
theorem dX9_isFigure_17 : decode cX9_isFigure 17 = .ok (.ireturn, 1) := by decide +kernel
theorem dX9_is_0 : decode cX9_is 0 = .ok (.aload_n 0, 1) := by decide +kernel
theorem dX9_is_1 : decode cX9_is 1 = .ok (.getfield 15, 3) := by decide +kernel
theorem dX9_is_4 : decode cX9_is 4 = .ok (.iload_n 1, 1) := by decide +kernel
theorem dX9_is_5 : decode cX9_is 5 = .ok (.if_icmp .ne 7, 3) := by decide +kernel
theorem dX9_is_8 : decode cX9_is 8 = .ok (.iconst 1, 1) := by decide +kernel
theorem dX9_is_9 : decode cX9_is 9 = .ok (.goto 4, 3) := by decide +kernel
theorem dX9_is_12 : decode cX9_is 12 = .ok (.iconst 0, 1) := by decide +kernel
theorem dX9_is_13 : decode cX9_is 13 = .ok (.ireturn, 1) := by decide +kernel
theorem dX9_isWord_0 : decode cX9_isWord 0 = .ok (.aload_n 0, 1) := by decide +kernel
theorem dX9_isWord_1 : decode cX9_isWord 1 = .ok (.getfield 15, 3) := by decide +kernel
theorem dX9_isWord_4 : decode cX9_isWord 4 = .ok (.bipush 119, 2) := by decide +kernel
theorem dX9_isWord_6 : decode cX9_isWord 6 = .ok (.if_icmp .ne 15, 3) := by decide +kernel
theorem dX9_isWord_9 : decode cX9_isWord 9 = .ok (.aload_n 0, 1) := by decide +kernel
theorem dX9_isWord_10 : decode cX9_isWord 10 = .ok (.getfield 25, 3) := by decide +kernel
theorem dX9_isWord_13 : decode cX9_isWord 13 = .ok (.aload_n 1, 1) := by decide +kernel
theorem dX9_isWord_14 : decode cX9_isWord 14 = .ok (.if_acmp .ne 7, 3) := by decide +kernel
theorem dX9_isWord_17 : decode cX9_isWord 17 = .ok (.iconst 1, 1) := by decide +kernel
theorem dX9_isWord_18 : decode cX9_isWord 18 = .ok (.goto 4, 3) := by decide +kernel
theorem dX9_isWord_21 : decode cX9_isWord 21 = .ok (.iconst 0, 1) := by decide +kernel
theorem dX9_isWord_22 : decode cX9_isWord 22 = .ok (.ireturn, 1) := by decide +kernel
theorem dX9_isName_0 : decode cX9_isName 0 = .ok (.aload_n 0, 1) := by decide +kernel
theorem dX9_isName_1 : decode cX9_isName 1 = .ok (.getfield 15, 3) := by decide +kernel
theorem dX9_isName_4 : decode cX9_isName 4 = .ok (.bipush 119, 2) := by decide +kernel
theorem dX9_isName_6 : decode cX9_isName 6 = .ok (.if_icmp .ne 17, 3) := by decide +kernel
theorem dX9_isName_9 : decode cX9_isName 9 = .ok (.aload_n 0, 1) := by decide +kernel
theorem dX9_isName_10 : decode cX9_isName 10 = .ok (.getfield 25, 3) := by decide +kernel
theorem dX9_isName_13 : decode cX9_isName 13 = .ok (.invokevirtual 90, 3) := by decide +kernel
theorem dX9_isName_16 : decode cX9_isName 16 = .ok (.ifCond .eq 7, 3) := by decide +kernel
theorem dX9_isName_19 : decode cX9_isName 19 = .ok (.iconst 1, 1) := by decide +kernel
theorem dX9_isName_20 : decode cX9_isName 20 = .ok (.goto 4, 3) := by decide +kernel
theorem dX9_isName_23 : decode cX9_isName 23 = .ok (.iconst 0, 1) := by decide +kernel
theorem dX9_isName_24 : decode cX9_isName 24 = .ok (.ireturn, 1) := by decide +kernel
theorem dX9_word_0 : decode cX9_word 0 = .ok (.aload_n 0, 1) := by decide +kernel
theorem dX9_word_1 : decode cX9_word 1 = .ok (.getfield 25, 3) := by decide +kernel
theorem dX9_word_4 : decode cX9_word 4 = .ok (.areturn, 1) := by decide +kernel
theorem dX9_number_0 : decode cX9_number 0 = .ok (.aload_n 0, 1) := by decide +kernel
theorem dX9_number_1 : decode cX9_number 1 = .ok (.getfield 87, 3) := by decide +kernel
theorem dX9_number_4 : decode cX9_number 4 = .ok (.ireturn, 1) := by decide +kernel
theorem dX9_letters_0 : decode cX9_letters 0 = .ok (.aload_n 0, 1) := by decide +kernel
theorem dX9_letters_1 : decode cX9_letters 1 = .ok (.getfield 75, 3) := by decide +kernel
theorem dX9_letters_4 : decode cX9_letters 4 = .ok (.lreturn, 1) := by decide +kernel
theorem dX9_place_0 : decode cX9_place 0 = .ok (.aload_n 0, 1) := by decide +kernel
theorem dX9_place_1 : decode cX9_place 1 = .ok (.getfield 44, 3) := by decide +kernel
theorem dX9_place_4 : decode cX9_place 4 = .ok (.ireturn, 1) := by decide +kernel
theorem dX10_withLetter_0 : decode cX10_withLetter 0 = .ok (.lload_n 0, 1) := by decide +kernel
theorem dX10_withLetter_1 : decode cX10_withLetter 1 = .ok (.ldc2_w 106, 3) := by decide +kernel
theorem dX10_withLetter_4 : decode cX10_withLetter 4 = .ok (.lmul, 1) := by decide +kernel
theorem dX10_withLetter_5 : decode cX10_withLetter 5 = .ok (.iload_n 2, 1) := by decide +kernel
theorem dX10_withLetter_6 : decode cX10_withLetter 6 = .ok (.bipush 97, 2) := by decide +kernel
theorem dX10_withLetter_8 : decode cX10_withLetter 8 = .ok (.isub, 1) := by decide +kernel
theorem dX10_withLetter_9 : decode cX10_withLetter 9 = .ok (.iconst 1, 1) := by decide +kernel
theorem dX10_withLetter_10 : decode cX10_withLetter 10 = .ok (.iadd, 1) := by decide +kernel
theorem dX10_withLetter_11 : decode cX10_withLetter 11 = .ok (.i2l, 1) := by decide +kernel
theorem dX10_withLetter_12 : decode cX10_withLetter 12 = .ok (.ladd, 1) := by decide +kernel
theorem dX10_withLetter_13 : decode cX10_withLetter 13 = .ok (.lreturn, 1) := by decide +kernel
theorem dX10_of_0 : decode cX10_of 0 = .ok (.iconst 0, 1) := by decide +kernel
theorem dX10_of_1 : decode cX10_of 1 = .ok (.istore_n 2, 1) := by decide +kernel
theorem dX10_of_2 : decode cX10_of 2 = .ok (.iload_n 2, 1) := by decide +kernel
theorem dX10_of_3 : decode cX10_of 3 = .ok (.getstatic 108, 3) := by decide +kernel
theorem dX10_of_6 : decode cX10_of 6 = .ok (.arraylength, 1) := by decide +kernel
theorem dX10_of_7 : decode cX10_of 7 = .ok (.if_icmp .ge 28, 3) := by decide +kernel
theorem dX10_of_10 : decode cX10_of 10 = .ok (.getstatic 108, 3) := by decide +kernel
theorem dX10_of_13 : decode cX10_of 13 = .ok (.iload_n 2, 1) := by decide +kernel
theorem dX10_of_14 : decode cX10_of 14 = .ok (.aaload, 1) := by decide +kernel
theorem dX10_of_15 : decode cX10_of 15 = .ok (.getfield 94, 3) := by decide +kernel
theorem dX10_of_18 : decode cX10_of 18 = .ok (.lload_n 0, 1) := by decide +kernel
theorem dX10_of_19 : decode cX10_of 19 = .ok (.lcmp, 1) := by decide +kernel
theorem dX10_of_20 : decode cX10_of 20 = .ok (.ifCond .ne 9, 3) := by decide +kernel
theorem dX10_of_23 : decode cX10_of 23 = .ok (.getstatic 108, 3) := by decide +kernel
theorem dX10_of_26 : decode cX10_of 26 = .ok (.iload_n 2, 1) := by decide +kernel
theorem dX10_of_27 : decode cX10_of 27 = .ok (.aaload, 1) := by decide +kernel
theorem dX10_of_28 : decode cX10_of 28 = .ok (.areturn, 1) := by decide +kernel
theorem dX10_of_29 : decode cX10_of 29 = .ok (.iinc 2 1, 3) := by decide +kernel
theorem dX10_of_32 : decode cX10_of 32 = .ok (.goto (-30), 3) := by decide +kernel
theorem dX10_of_35 : decode cX10_of 35 = .ok (.getstatic 3, 3) := by decide +kernel
theorem dX10_of_38 : decode cX10_of 38 = .ok (.areturn, 1) := by decide +kernel
theorem dX10_mayBeName_0 : decode cX10_mayBeName 0 = .ok (.aload_n 0, 1) := by decide +kernel
theorem dX10_mayBeName_1 : decode cX10_mayBeName 1 = .ok (.getfield 98, 3) := by decide +kernel
theorem dX10_mayBeName_4 : decode cX10_mayBeName 4 = .ok (.ireturn, 1) := by decide +kernel
theorem dX10_sense_0 : decode cX10_sense 0 = .ok (.aload_n 0, 1) := by decide +kernel
theorem dX10_sense_1 : decode cX10_sense 1 = .ok (.getfield 102, 3) := by decide +kernel
theorem dX10_sense_4 : decode cX10_sense 4 = .ok (.ireturn, 1) := by decide +kernel
theorem dX10_isKind_0 : decode cX10_isKind 0 = .ok (.aload_n 0, 1) := by decide +kernel
theorem dX10_isKind_1 : decode cX10_isKind 1 = .ok (.getstatic 28, 3) := by decide +kernel
theorem dX10_isKind_4 : decode cX10_isKind 4 = .ok (.if_acmp .eq 24, 3) := by decide +kernel
theorem dX10_isKind_7 : decode cX10_isKind 7 = .ok (.aload_n 0, 1) := by decide +kernel
theorem dX10_isKind_8 : decode cX10_isKind 8 = .ok (.getstatic 31, 3) := by decide +kernel
theorem dX10_isKind_11 : decode cX10_isKind 11 = .ok (.if_acmp .eq 17, 3) := by decide +kernel
theorem dX10_isKind_14 : decode cX10_isKind 14 = .ok (.aload_n 0, 1) := by decide +kernel
theorem dX10_isKind_15 : decode cX10_isKind 15 = .ok (.getstatic 34, 3) := by decide +kernel
theorem dX10_isKind_18 : decode cX10_isKind 18 = .ok (.if_acmp .eq 10, 3) := by decide +kernel
theorem dX10_isKind_21 : decode cX10_isKind 21 = .ok (.aload_n 0, 1) := by decide +kernel
theorem dX10_isKind_22 : decode cX10_isKind 22 = .ok (.getstatic 37, 3) := by decide +kernel
theorem dX10_isKind_25 : decode cX10_isKind 25 = .ok (.if_acmp .ne 7, 3) := by decide +kernel
theorem dX10_isKind_28 : decode cX10_isKind 28 = .ok (.iconst 1, 1) := by decide +kernel
theorem dX10_isKind_29 : decode cX10_isKind 29 = .ok (.goto 4, 3) := by decide +kernel
theorem dX10_isKind_32 : decode cX10_isKind 32 = .ok (.iconst 0, 1) := by decide +kernel
theorem dX10_isKind_33 : decode cX10_isKind 33 = .ok (.ireturn, 1) := by decide +kernel
theorem dX10_isLie_0 : decode cX10_isLie 0 = .ok (.aload_n 0, 1) := by decide +kernel
theorem dX10_isLie_1 : decode cX10_isLie 1 = .ok (.getstatic 25, 3) := by decide +kernel
theorem dX10_isLie_4 : decode cX10_isLie 4 = .ok (.if_acmp .eq 10, 3) := by decide +kernel
theorem dX10_isLie_7 : decode cX10_isLie 7 = .ok (.aload_n 0, 1) := by decide +kernel
theorem dX10_isLie_8 : decode cX10_isLie 8 = .ok (.getstatic 22, 3) := by decide +kernel
theorem dX10_isLie_11 : decode cX10_isLie 11 = .ok (.if_acmp .ne 7, 3) := by decide +kernel
theorem dX10_isLie_14 : decode cX10_isLie 14 = .ok (.iconst 1, 1) := by decide +kernel
theorem dX10_isLie_15 : decode cX10_isLie 15 = .ok (.goto 4, 3) := by decide +kernel
theorem dX10_isLie_18 : decode cX10_isLie 18 = .ok (.iconst 0, 1) := by decide +kernel
theorem dX10_isLie_19 : decode cX10_isLie 19 = .ok (.ireturn, 1) := by decide +kernel
theorem dX10_isFact_0 : decode cX10_isFact 0 = .ok (.aload_n 0, 1) := by decide +kernel
theorem dX10_isFact_1 : decode cX10_isFact 1 = .ok (.getstatic 49, 3) := by decide +kernel
theorem dX10_isFact_4 : decode cX10_isFact 4 = .ok (.if_acmp .eq 24, 3) := by decide +kernel
theorem dX10_isFact_7 : decode cX10_isFact 7 = .ok (.aload_n 0, 1) := by decide +kernel
theorem dX10_isFact_8 : decode cX10_isFact 8 = .ok (.getstatic 52, 3) := by decide +kernel
theorem dX10_isFact_11 : decode cX10_isFact 11 = .ok (.if_acmp .eq 17, 3) := by decide +kernel
theorem dX10_isFact_14 : decode cX10_isFact 14 = .ok (.aload_n 0, 1) := by decide +kernel
theorem dX10_isFact_15 : decode cX10_isFact 15 = .ok (.getstatic 55, 3) := by decide +kernel
theorem dX10_isFact_18 : decode cX10_isFact 18 = .ok (.if_acmp .eq 10, 3) := by decide +kernel
theorem dX10_isFact_21 : decode cX10_isFact 21 = .ok (.aload_n 0, 1) := by decide +kernel
theorem dX10_isFact_22 : decode cX10_isFact 22 = .ok (.getstatic 58, 3) := by decide +kernel
theorem dX10_isFact_25 : decode cX10_isFact 25 = .ok (.if_acmp .ne 7, 3) := by decide +kernel
theorem dX10_isFact_28 : decode cX10_isFact 28 = .ok (.iconst 1, 1) := by decide +kernel
theorem dX10_isFact_29 : decode cX10_isFact 29 = .ok (.goto 4, 3) := by decide +kernel
theorem dX10_isFact_32 : decode cX10_isFact 32 = .ok (.iconst 0, 1) := by decide +kernel
theorem dX10_isFact_33 : decode cX10_isFact 33 = .ok (.ireturn, 1) := by decide +kernel
