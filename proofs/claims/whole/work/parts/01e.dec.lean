theorem dX6_findsBehind_87 : decode cX6_findsBehind 87 = .ok (.iadd, 1) := by decide +kernel
theorem dX6_findsBehind_88 : decode cX6_findsBehind 88 = .ok (.iload_n 3, 1) := by decide +kernel
theorem dX6_findsBehind_89 : decode cX6_findsBehind 89 = .ok (.iadd, 1) := by decide +kernel
theorem dX6_findsBehind_90 : decode cX6_findsBehind 90 = .ok (.iload 4, 2) := by decide +kernel
theorem dX6_findsBehind_92 : decode cX6_findsBehind 92 = .ok (.iastore, 1) := by decide +kernel
theorem dX6_findsBehind_93 : decode cX6_findsBehind 93 = .ok (.iload 5, 2) := by decide +kernel
theorem dX6_findsBehind_95 : decode cX6_findsBehind 95 = .ok (.ifCond .eq 10, 3) := by decide +kernel
theorem dX6_findsBehind_98 : decode cX6_findsBehind 98 = .ok (.aload_n 0, 1) := by decide +kernel
theorem dX6_findsBehind_99 : decode cX6_findsBehind 99 = .ok (.iload_n 2, 1) := by decide +kernel
theorem dX6_findsBehind_100 : decode cX6_findsBehind 100 = .ok (.putfield 211, 3) := by decide +kernel
theorem dX6_findsBehind_103 : decode cX6_findsBehind 103 = .ok (.iconst 1, 1) := by decide +kernel
theorem dX6_findsBehind_104 : decode cX6_findsBehind 104 = .ok (.ireturn, 1) := by decide +kernel
theorem dX6_findsBehind_105 : decode cX6_findsBehind 105 = .ok (.iinc 2 1, 3) := by decide +kernel
theorem dX6_findsBehind_108 : decode cX6_findsBehind 108 = .ok (.goto (-101), 3) := by decide +kernel
theorem dX6_findsBehind_111 : decode cX6_findsBehind 111 = .ok (.iconst 0, 1) := by decide +kernel
theorem dX6_findsBehind_112 : decode cX6_findsBehind 112 = .ok (.ireturn, 1) := by decide +kernel
theorem dX6_findsTwo_0 : decode cX6_findsTwo 0 = .ok (.iconst 0, 1) := by decide +kernel
theorem dX6_findsTwo_1 : decode cX6_findsTwo 1 = .ok (.istore_n 1, 1) := by decide +kernel
theorem dX6_findsTwo_2 : decode cX6_findsTwo 2 = .ok (.iload_n 1, 1) := by decide +kernel
theorem dX6_findsTwo_3 : decode cX6_findsTwo 3 = .ok (.bipush 6, 2) := by decide +kernel
theorem dX6_findsTwo_5 : decode cX6_findsTwo 5 = .ok (.aload_n 0, 1) := by decide +kernel
theorem dX6_findsTwo_6 : decode cX6_findsTwo 6 = .ok (.getfield 83, 3) := by decide +kernel
theorem dX6_findsTwo_9 : decode cX6_findsTwo 9 = .ok (.imul, 1) := by decide +kernel
theorem dX6_findsTwo_10 : decode cX6_findsTwo 10 = .ok (.if_icmp .ge 86, 3) := by decide +kernel
theorem dX6_findsTwo_13 : decode cX6_findsTwo 13 = .ok (.iload_n 1, 1) := by decide +kernel
theorem dX6_findsTwo_14 : decode cX6_findsTwo 14 = .ok (.bipush 6, 2) := by decide +kernel
theorem dX6_findsTwo_16 : decode cX6_findsTwo 16 = .ok (.idiv, 1) := by decide +kernel
theorem dX6_findsTwo_17 : decode cX6_findsTwo 17 = .ok (.istore_n 2, 1) := by decide +kernel
theorem dX6_findsTwo_18 : decode cX6_findsTwo 18 = .ok (.aload_n 0, 1) := by decide +kernel
theorem dX6_findsTwo_19 : decode cX6_findsTwo 19 = .ok (.iload_n 2, 1) := by decide +kernel
theorem dX6_findsTwo_20 : decode cX6_findsTwo 20 = .ok (.invokevirtual 93, 3) := by decide +kernel
theorem dX6_findsTwo_23 : decode cX6_findsTwo 23 = .ok (.istore_n 3, 1) := by decide +kernel
theorem dX6_findsTwo_24 : decode cX6_findsTwo 24 = .ok (.aload_n 0, 1) := by decide +kernel
theorem dX6_findsTwo_25 : decode cX6_findsTwo 25 = .ok (.iload_n 2, 1) := by decide +kernel
theorem dX6_findsTwo_26 : decode cX6_findsTwo 26 = .ok (.invokevirtual 97, 3) := by decide +kernel
theorem dX6_findsTwo_29 : decode cX6_findsTwo 29 = .ok (.ifCond .eq 61, 3) := by decide +kernel
theorem dX6_findsTwo_32 : decode cX6_findsTwo 32 = .ok (.iload_n 1, 1) := by decide +kernel
theorem dX6_findsTwo_33 : decode cX6_findsTwo 33 = .ok (.bipush 6, 2) := by decide +kernel
theorem dX6_findsTwo_35 : decode cX6_findsTwo 35 = .ok (.irem, 1) := by decide +kernel
theorem dX6_findsTwo_36 : decode cX6_findsTwo 36 = .ok (.iload_n 3, 1) := by decide +kernel
theorem dX6_findsTwo_37 : decode cX6_findsTwo 37 = .ok (.if_icmp .eq 53, 3) := by decide +kernel
theorem dX6_findsTwo_40 : decode cX6_findsTwo 40 = .ok (.aload_n 0, 1) := by decide +kernel
theorem dX6_findsTwo_41 : decode cX6_findsTwo 41 = .ok (.getfield 34, 3) := by decide +kernel
theorem dX6_findsTwo_44 : decode cX6_findsTwo 44 = .ok (.aload_n 0, 1) := by decide +kernel
theorem dX6_findsTwo_45 : decode cX6_findsTwo 45 = .ok (.getfield 90, 3) := by decide +kernel
theorem dX6_findsTwo_48 : decode cX6_findsTwo 48 = .ok (.iconst 1, 1) := by decide +kernel
theorem dX6_findsTwo_49 : decode cX6_findsTwo 49 = .ok (.iadd, 1) := by decide +kernel
theorem dX6_findsTwo_50 : decode cX6_findsTwo 50 = .ok (.iload_n 2, 1) := by decide +kernel
theorem dX6_findsTwo_51 : decode cX6_findsTwo 51 = .ok (.iadd, 1) := by decide +kernel
theorem dX6_findsTwo_52 : decode cX6_findsTwo 52 = .ok (.iload_n 1, 1) := by decide +kernel
theorem dX6_findsTwo_53 : decode cX6_findsTwo 53 = .ok (.bipush 6, 2) := by decide +kernel
theorem dX6_findsTwo_55 : decode cX6_findsTwo 55 = .ok (.irem, 1) := by decide +kernel
theorem dX6_findsTwo_56 : decode cX6_findsTwo 56 = .ok (.iastore, 1) := by decide +kernel
theorem dX6_findsTwo_57 : decode cX6_findsTwo 57 = .ok (.aload_n 0, 1) := by decide +kernel
theorem dX6_findsTwo_58 : decode cX6_findsTwo 58 = .ok (.iload_n 2, 1) := by decide +kernel
theorem dX6_findsTwo_59 : decode cX6_findsTwo 59 = .ok (.invokevirtual 214, 3) := by decide +kernel
theorem dX6_findsTwo_62 : decode cX6_findsTwo 62 = .ok (.istore 4, 2) := by decide +kernel
theorem dX6_findsTwo_64 : decode cX6_findsTwo 64 = .ok (.aload_n 0, 1) := by decide +kernel
theorem dX6_findsTwo_65 : decode cX6_findsTwo 65 = .ok (.getfield 34, 3) := by decide +kernel
theorem dX6_findsTwo_68 : decode cX6_findsTwo 68 = .ok (.aload_n 0, 1) := by decide +kernel
theorem dX6_findsTwo_69 : decode cX6_findsTwo 69 = .ok (.getfield 90, 3) := by decide +kernel
theorem dX6_findsTwo_72 : decode cX6_findsTwo 72 = .ok (.iconst 1, 1) := by decide +kernel
theorem dX6_findsTwo_73 : decode cX6_findsTwo 73 = .ok (.iadd, 1) := by decide +kernel
theorem dX6_findsTwo_74 : decode cX6_findsTwo 74 = .ok (.iload_n 2, 1) := by decide +kernel
theorem dX6_findsTwo_75 : decode cX6_findsTwo 75 = .ok (.iadd, 1) := by decide +kernel
theorem dX6_findsTwo_76 : decode cX6_findsTwo 76 = .ok (.iload_n 3, 1) := by decide +kernel
theorem dX6_findsTwo_77 : decode cX6_findsTwo 77 = .ok (.iastore, 1) := by decide +kernel
theorem dX6_findsTwo_78 : decode cX6_findsTwo 78 = .ok (.iload 4, 2) := by decide +kernel
theorem dX6_findsTwo_80 : decode cX6_findsTwo 80 = .ok (.ifCond .eq 10, 3) := by decide +kernel
theorem dX6_findsTwo_83 : decode cX6_findsTwo 83 = .ok (.aload_n 0, 1) := by decide +kernel
theorem dX6_findsTwo_84 : decode cX6_findsTwo 84 = .ok (.iload_n 1, 1) := by decide +kernel
theorem dX6_findsTwo_85 : decode cX6_findsTwo 85 = .ok (.putfield 208, 3) := by decide +kernel
theorem dX6_findsTwo_88 : decode cX6_findsTwo 88 = .ok (.iconst 1, 1) := by decide +kernel
theorem dX6_findsTwo_89 : decode cX6_findsTwo 89 = .ok (.ireturn, 1) := by decide +kernel
theorem dX6_findsTwo_90 : decode cX6_findsTwo 90 = .ok (.iinc 1 1, 3) := by decide +kernel
theorem dX6_findsTwo_93 : decode cX6_findsTwo 93 = .ok (.goto (-91), 3) := by decide +kernel
theorem dX6_findsTwo_96 : decode cX6_findsTwo 96 = .ok (.iconst 0, 1) := by decide +kernel
theorem dX6_findsTwo_97 : decode cX6_findsTwo 97 = .ok (.ireturn, 1) := by decide +kernel
theorem dX6_moves_0 : decode cX6_moves 0 = .ok (.iload_n 1, 1) := by decide +kernel
theorem dX6_moves_1 : decode cX6_moves 1 = .ok (.iconst 0, 1) := by decide +kernel
theorem dX6_moves_2 : decode cX6_moves 2 = .ok (.iconst 2, 1) := by decide +kernel
theorem dX6_moves_3 : decode cX6_moves 3 = .ok (.invokestatic 79, 3) := by decide +kernel
theorem dX6_moves_6 : decode cX6_moves 6 = .ok (.ifCond .ne 10, 3) := by decide +kernel
theorem dX6_moves_9 : decode cX6_moves 9 = .ok (.aload_n 0, 1) := by decide +kernel
theorem dX6_moves_10 : decode cX6_moves 10 = .ok (.ldc 78, 2) := by decide +kernel
theorem dX6_moves_12 : decode cX6_moves 12 = .ok (.invokevirtual 125, 3) := by decide +kernel
theorem dX6_moves_15 : decode cX6_moves 15 = .ok (.ireturn, 1) := by decide +kernel
theorem dX6_moves_16 : decode cX6_moves 16 = .ok (.aload_n 0, 1) := by decide +kernel
theorem dX6_moves_17 : decode cX6_moves 17 = .ok (.invokevirtual 190, 3) := by decide +kernel
theorem dX6_moves_20 : decode cX6_moves 20 = .ok (.aload_n 0, 1) := by decide +kernel
theorem dX6_moves_21 : decode cX6_moves 21 = .ok (.aload_n 0, 1) := by decide +kernel
theorem dX6_moves_22 : decode cX6_moves 22 = .ok (.invokevirtual 145, 3) := by decide +kernel
theorem dX6_moves_25 : decode cX6_moves 25 = .ok (.ifCond .ne 7, 3) := by decide +kernel
theorem dX6_moves_28 : decode cX6_moves 28 = .ok (.iconst 0, 1) := by decide +kernel
theorem dX6_moves_29 : decode cX6_moves 29 = .ok (.goto 26, 3) := by decide +kernel
theorem dX6_moves_32 : decode cX6_moves 32 = .ok (.aload_n 0, 1) := by decide +kernel
theorem dX6_moves_33 : decode cX6_moves 33 = .ok (.invokevirtual 217, 3) := by decide +kernel
theorem dX6_moves_36 : decode cX6_moves 36 = .ok (.ifCond .eq 7, 3) := by decide +kernel
theorem dX6_moves_39 : decode cX6_moves 39 = .ok (.iconst 1, 1) := by decide +kernel
theorem dX6_moves_40 : decode cX6_moves 40 = .ok (.goto 15, 3) := by decide +kernel
theorem dX6_moves_43 : decode cX6_moves 43 = .ok (.aload_n 0, 1) := by decide +kernel
theorem dX6_moves_44 : decode cX6_moves 44 = .ok (.invokevirtual 221, 3) := by decide +kernel
theorem dX6_moves_47 : decode cX6_moves 47 = .ok (.ifCond .eq 7, 3) := by decide +kernel
theorem dX6_moves_50 : decode cX6_moves 50 = .ok (.iconst 2, 1) := by decide +kernel
theorem dX6_moves_51 : decode cX6_moves 51 = .ok (.goto 4, 3) := by decide +kernel
theorem dX6_moves_54 : decode cX6_moves 54 = .ok (.iconst 3, 1) := by decide +kernel
theorem dX6_moves_55 : decode cX6_moves 55 = .ok (.putfield 224, 3) := by decide +kernel
theorem dX6_moves_58 : decode cX6_moves 58 = .ok (.aload_n 0, 1) := by decide +kernel
theorem dX6_moves_59 : decode cX6_moves 59 = .ok (.iconst 0, 1) := by decide +kernel
theorem dX6_moves_60 : decode cX6_moves 60 = .ok (.putfield 90, 3) := by decide +kernel
theorem dX6_moves_63 : decode cX6_moves 63 = .ok (.aload_n 0, 1) := by decide +kernel
theorem dX6_moves_64 : decode cX6_moves 64 = .ok (.getfield 224, 3) := by decide +kernel
theorem dX6_moves_67 : decode cX6_moves 67 = .ok (.iconst 3, 1) := by decide +kernel
theorem dX6_moves_68 : decode cX6_moves 68 = .ok (.if_icmp .eq 11, 3) := by decide +kernel
theorem dX6_moves_71 : decode cX6_moves 71 = .ok (.iload_n 1, 1) := by decide +kernel
theorem dX6_moves_72 : decode cX6_moves 72 = .ok (.aload_n 0, 1) := by decide +kernel
theorem dX6_moves_73 : decode cX6_moves 73 = .ok (.getfield 224, 3) := by decide +kernel
theorem dX6_moves_76 : decode cX6_moves 76 = .ok (.if_icmp .le 10, 3) := by decide +kernel
theorem dX6_moves_79 : decode cX6_moves 79 = .ok (.aload_n 0, 1) := by decide +kernel
theorem dX6_moves_80 : decode cX6_moves 80 = .ok (.ldc 170, 2) := by decide +kernel
theorem dX6_moves_82 : decode cX6_moves 82 = .ok (.invokevirtual 125, 3) := by decide +kernel
theorem dX6_moves_85 : decode cX6_moves 85 = .ok (.ireturn, 1) := by decide +kernel
theorem dX6_moves_86 : decode cX6_moves 86 = .ok (.iload_n 1, 1) := by decide +kernel
theorem dX6_moves_87 : decode cX6_moves 87 = .ok (.ifCond .ne 10, 3) := by decide +kernel
theorem dX6_moves_90 : decode cX6_moves 90 = .ok (.aload_n 0, 1) := by decide +kernel
theorem dX6_moves_91 : decode cX6_moves 91 = .ok (.getfield 224, 3) := by decide +kernel
theorem dX6_moves_94 : decode cX6_moves 94 = .ok (.goto 19, 3) := by decide +kernel
theorem dX6_moves_97 : decode cX6_moves 97 = .ok (.iload_n 1, 1) := by decide +kernel
theorem dX6_moves_98 : decode cX6_moves 98 = .ok (.iconst 1, 1) := by decide +kernel
theorem dX6_moves_99 : decode cX6_moves 99 = .ok (.if_icmp .ne 10, 3) := by decide +kernel
theorem dX6_moves_102 : decode cX6_moves 102 = .ok (.aload_n 0, 1) := by decide +kernel
theorem dX6_moves_103 : decode cX6_moves 103 = .ok (.getfield 208, 3) := by decide +kernel
theorem dX6_moves_106 : decode cX6_moves 106 = .ok (.goto 7, 3) := by decide +kernel
theorem dX6_moves_109 : decode cX6_moves 109 = .ok (.aload_n 0, 1) := by decide +kernel
theorem dX6_moves_110 : decode cX6_moves 110 = .ok (.getfield 211, 3) := by decide +kernel
theorem dX6_moves_113 : decode cX6_moves 113 = .ok (.ireturn, 1) := by decide +kernel
theorem dX6_looseWith_0 : decode cX6_looseWith 0 = .ok (.aload_n 0, 1) := by decide +kernel
theorem dX6_looseWith_1 : decode cX6_looseWith 1 = .ok (.invokevirtual 190, 3) := by decide +kernel
theorem dX6_looseWith_4 : decode cX6_looseWith 4 = .ok (.aload_n 0, 1) := by decide +kernel
theorem dX6_looseWith_5 : decode cX6_looseWith 5 = .ok (.getfield 34, 3) := by decide +kernel
theorem dX6_looseWith_8 : decode cX6_looseWith 8 = .ok (.aload_n 0, 1) := by decide +kernel
theorem dX6_looseWith_9 : decode cX6_looseWith 9 = .ok (.getfield 90, 3) := by decide +kernel
theorem dX6_looseWith_12 : decode cX6_looseWith 12 = .ok (.iconst 1, 1) := by decide +kernel
theorem dX6_looseWith_13 : decode cX6_looseWith 13 = .ok (.iadd, 1) := by decide +kernel
theorem dX6_looseWith_14 : decode cX6_looseWith 14 = .ok (.iload_n 1, 1) := by decide +kernel
theorem dX6_looseWith_15 : decode cX6_looseWith 15 = .ok (.iadd, 1) := by decide +kernel
theorem dX6_looseWith_16 : decode cX6_looseWith 16 = .ok (.iload_n 2, 1) := by decide +kernel
theorem dX6_looseWith_17 : decode cX6_looseWith 17 = .ok (.iastore, 1) := by decide +kernel
theorem dX6_looseWith_18 : decode cX6_looseWith 18 = .ok (.aload_n 0, 1) := by decide +kernel
theorem dX6_looseWith_19 : decode cX6_looseWith 19 = .ok (.invokevirtual 145, 3) := by decide +kernel
theorem dX6_looseWith_22 : decode cX6_looseWith 22 = .ok (.istore_n 3, 1) := by decide +kernel
theorem dX6_looseWith_23 : decode cX6_looseWith 23 = .ok (.aload_n 0, 1) := by decide +kernel
theorem dX6_looseWith_24 : decode cX6_looseWith 24 = .ok (.iconst 0, 1) := by decide +kernel
theorem dX6_looseWith_25 : decode cX6_looseWith 25 = .ok (.putfield 90, 3) := by decide +kernel
theorem dX6_looseWith_28 : decode cX6_looseWith 28 = .ok (.iload_n 3, 1) := by decide +kernel
theorem dX6_looseWith_29 : decode cX6_looseWith 29 = .ok (.ireturn, 1) := by decide +kernel
theorem dX6_best_0 : decode cX6_best 0 = .ok (.aload_n 0, 1) := by decide +kernel
theorem dX6_best_1 : decode cX6_best 1 = .ok (.iload_n 1, 1) := by decide +kernel
theorem dX6_best_2 : decode cX6_best 2 = .ok (.invokevirtual 136, 3) := by decide +kernel
theorem dX6_best_5 : decode cX6_best 5 = .ok (.ifCond .ne 10, 3) := by decide +kernel
theorem dX6_best_8 : decode cX6_best 8 = .ok (.aload_n 0, 1) := by decide +kernel
theorem dX6_best_9 : decode cX6_best 9 = .ok (.ldc 78, 2) := by decide +kernel
theorem dX6_best_11 : decode cX6_best 11 = .ok (.invokevirtual 125, 3) := by decide +kernel
theorem dX6_best_14 : decode cX6_best 14 = .ok (.ireturn, 1) := by decide +kernel
theorem dX6_best_15 : decode cX6_best 15 = .ok (.aload_n 0, 1) := by decide +kernel
theorem dX6_best_16 : decode cX6_best 16 = .ok (.iload_n 1, 1) := by decide +kernel
theorem dX6_best_17 : decode cX6_best 17 = .ok (.invokevirtual 97, 3) := by decide +kernel
theorem dX6_best_20 : decode cX6_best 20 = .ok (.ifCond .ne 10, 3) := by decide +kernel
theorem dX6_best_23 : decode cX6_best 23 = .ok (.aload_n 0, 1) := by decide +kernel
theorem dX6_best_24 : decode cX6_best 24 = .ok (.ldc 139, 2) := by decide +kernel
theorem dX6_best_26 : decode cX6_best 26 = .ok (.invokevirtual 125, 3) := by decide +kernel
theorem dX6_best_29 : decode cX6_best 29 = .ok (.ireturn, 1) := by decide +kernel
theorem dX6_best_30 : decode cX6_best 30 = .ok (.iconst 0, 1) := by decide +kernel
theorem dX6_best_31 : decode cX6_best 31 = .ok (.istore_n 2, 1) := by decide +kernel
theorem dX6_best_32 : decode cX6_best 32 = .ok (.bipush 13, 2) := by decide +kernel
theorem dX6_best_34 : decode cX6_best 34 = .ok (.istore_n 3, 1) := by decide +kernel
theorem dX6_best_35 : decode cX6_best 35 = .ok (.iconst 0, 1) := by decide +kernel
theorem dX6_best_36 : decode cX6_best 36 = .ok (.istore 4, 2) := by decide +kernel
theorem dX6_best_38 : decode cX6_best 38 = .ok (.iload 4, 2) := by decide +kernel
theorem dX6_best_40 : decode cX6_best 40 = .ok (.bipush 6, 2) := by decide +kernel
theorem dX6_best_42 : decode cX6_best 42 = .ok (.if_icmp .ge 47, 3) := by decide +kernel
theorem dX6_best_45 : decode cX6_best 45 = .ok (.aload_n 0, 1) := by decide +kernel
theorem dX6_best_46 : decode cX6_best 46 = .ok (.iload_n 1, 1) := by decide +kernel
theorem dX6_best_47 : decode cX6_best 47 = .ok (.iload 4, 2) := by decide +kernel
theorem dX6_best_49 : decode cX6_best 49 = .ok (.invokevirtual 227, 3) := by decide +kernel
theorem dX6_best_52 : decode cX6_best 52 = .ok (.invokestatic 149, 3) := by decide +kernel
theorem dX6_best_55 : decode cX6_best 55 = .ok (.istore 5, 2) := by decide +kernel
theorem dX6_best_57 : decode cX6_best 57 = .ok (.iload 5, 2) := by decide +kernel
theorem dX6_best_59 : decode cX6_best 59 = .ok (.iload_n 3, 1) := by decide +kernel
theorem dX6_best_60 : decode cX6_best 60 = .ok (.if_icmp .ge 8, 3) := by decide +kernel
theorem dX6_best_63 : decode cX6_best 63 = .ok (.iload 4, 2) := by decide +kernel
theorem dX6_best_65 : decode cX6_best 65 = .ok (.goto 4, 3) := by decide +kernel
theorem dX6_best_68 : decode cX6_best 68 = .ok (.iload_n 2, 1) := by decide +kernel
theorem dX6_best_69 : decode cX6_best 69 = .ok (.istore_n 2, 1) := by decide +kernel
theorem dX6_best_70 : decode cX6_best 70 = .ok (.iload 5, 2) := by decide +kernel
theorem dX6_best_72 : decode cX6_best 72 = .ok (.iload_n 3, 1) := by decide +kernel
theorem dX6_best_73 : decode cX6_best 73 = .ok (.if_icmp .ge 8, 3) := by decide +kernel
theorem dX6_best_76 : decode cX6_best 76 = .ok (.iload 5, 2) := by decide +kernel
theorem dX6_best_78 : decode cX6_best 78 = .ok (.goto 4, 3) := by decide +kernel
theorem dX6_best_81 : decode cX6_best 81 = .ok (.iload_n 3, 1) := by decide +kernel
theorem dX6_best_82 : decode cX6_best 82 = .ok (.istore_n 3, 1) := by decide +kernel
theorem dX6_best_83 : decode cX6_best 83 = .ok (.iinc 4 1, 3) := by decide +kernel
theorem dX6_best_86 : decode cX6_best 86 = .ok (.goto (-48), 3) := by decide +kernel
theorem dX6_best_89 : decode cX6_best 89 = .ok (.iload_n 2, 1) := by decide +kernel
theorem dX6_best_90 : decode cX6_best 90 = .ok (.ireturn, 1) := by decide +kernel
theorem dX6_key_0 : decode cX6_key 0 = .ok (.iload_n 1, 1) := by decide +kernel
theorem dX6_key_1 : decode cX6_key 1 = .ok (.invokestatic 119, 3) := by decide +kernel
theorem dX6_key_4 : decode cX6_key 4 = .ok (.ifCond .ne 10, 3) := by decide +kernel
theorem dX6_key_7 : decode cX6_key 7 = .ok (.aload_n 0, 1) := by decide +kernel
theorem dX6_key_8 : decode cX6_key 8 = .ok (.ldc 78, 2) := by decide +kernel
theorem dX6_key_10 : decode cX6_key 10 = .ok (.invokevirtual 125, 3) := by decide +kernel
theorem dX6_key_13 : decode cX6_key 13 = .ok (.ireturn, 1) := by decide +kernel
theorem dX6_key_14 : decode cX6_key 14 = .ok (.aload_n 0, 1) := by decide +kernel
theorem dX6_key_15 : decode cX6_key 15 = .ok (.invokevirtual 145, 3) := by decide +kernel
theorem dX6_key_18 : decode cX6_key 18 = .ok (.istore_n 2, 1) := by decide +kernel
theorem dX6_key_19 : decode cX6_key 19 = .ok (.iconst (-1), 1) := by decide +kernel
theorem dX6_key_20 : decode cX6_key 20 = .ok (.istore_n 3, 1) := by decide +kernel
theorem dX6_key_21 : decode cX6_key 21 = .ok (.iconst 0, 1) := by decide +kernel
theorem dX6_key_22 : decode cX6_key 22 = .ok (.istore 4, 2) := by decide +kernel
theorem dX6_key_24 : decode cX6_key 24 = .ok (.iconst 0, 1) := by decide +kernel
theorem dX6_key_25 : decode cX6_key 25 = .ok (.istore 5, 2) := by decide +kernel
theorem dX6_key_27 : decode cX6_key 27 = .ok (.iload 5, 2) := by decide +kernel
theorem dX6_key_29 : decode cX6_key 29 = .ok (.aload_n 0, 1) := by decide +kernel
theorem dX6_key_30 : decode cX6_key 30 = .ok (.getfield 83, 3) := by decide +kernel
theorem dX6_key_33 : decode cX6_key 33 = .ok (.if_icmp .ge 75, 3) := by decide +kernel
theorem dX6_key_36 : decode cX6_key 36 = .ok (.aload_n 0, 1) := by decide +kernel
theorem dX6_key_37 : decode cX6_key 37 = .ok (.getfield 16, 3) := by decide +kernel
theorem dX6_key_40 : decode cX6_key 40 = .ok (.iload 5, 2) := by decide +kernel
theorem dX6_key_42 : decode cX6_key 42 = .ok (.iaload, 1) := by decide +kernel
theorem dX6_key_43 : decode cX6_key 43 = .ok (.iload_n 1, 1) := by decide +kernel
theorem dX6_key_44 : decode cX6_key 44 = .ok (.if_icmp .ne 58, 3) := by decide +kernel
theorem dX6_key_47 : decode cX6_key 47 = .ok (.aload_n 0, 1) := by decide +kernel
theorem dX6_key_48 : decode cX6_key 48 = .ok (.iload 5, 2) := by decide +kernel
theorem dX6_key_50 : decode cX6_key 50 = .ok (.invokevirtual 97, 3) := by decide +kernel
theorem dX6_key_53 : decode cX6_key 53 = .ok (.ifCond .eq 49, 3) := by decide +kernel
theorem dX6_key_56 : decode cX6_key 56 = .ok (.aload_n 0, 1) := by decide +kernel
theorem dX6_key_57 : decode cX6_key 57 = .ok (.iload 5, 2) := by decide +kernel
theorem dX6_key_59 : decode cX6_key 59 = .ok (.iload_n 1, 1) := by decide +kernel
theorem dX6_key_60 : decode cX6_key 60 = .ok (.invokevirtual 227, 3) := by decide +kernel
theorem dX6_key_63 : decode cX6_key 63 = .ok (.iload_n 2, 1) := by decide +kernel
theorem dX6_key_64 : decode cX6_key 64 = .ok (.iconst (-1), 1) := by decide +kernel
theorem dX6_key_65 : decode cX6_key 65 = .ok (.ixor, 1) := by decide +kernel
theorem dX6_key_66 : decode cX6_key 66 = .ok (.iand, 1) := by decide +kernel
theorem dX6_key_67 : decode cX6_key 67 = .ok (.invokestatic 149, 3) := by decide +kernel
theorem dX6_key_70 : decode cX6_key 70 = .ok (.istore 6, 2) := by decide +kernel
theorem dX6_key_72 : decode cX6_key 72 = .ok (.iload 6, 2) := by decide +kernel
theorem dX6_key_74 : decode cX6_key 74 = .ok (.iload 4, 2) := by decide +kernel
theorem dX6_key_76 : decode cX6_key 76 = .ok (.if_icmp .le 8, 3) := by decide +kernel
theorem dX6_key_79 : decode cX6_key 79 = .ok (.iload 5, 2) := by decide +kernel
theorem dX6_key_81 : decode cX6_key 81 = .ok (.goto 4, 3) := by decide +kernel
theorem dX6_key_84 : decode cX6_key 84 = .ok (.iload_n 3, 1) := by decide +kernel
theorem dX6_key_85 : decode cX6_key 85 = .ok (.istore_n 3, 1) := by decide +kernel
theorem dX6_key_86 : decode cX6_key 86 = .ok (.iload 6, 2) := by decide +kernel
theorem dX6_key_88 : decode cX6_key 88 = .ok (.iload 4, 2) := by decide +kernel
theorem dX6_key_90 : decode cX6_key 90 = .ok (.if_icmp .le 8, 3) := by decide +kernel
theorem dX6_key_93 : decode cX6_key 93 = .ok (.iload 6, 2) := by decide +kernel
theorem dX6_key_95 : decode cX6_key 95 = .ok (.goto 5, 3) := by decide +kernel
theorem dX6_key_98 : decode cX6_key 98 = .ok (.iload 4, 2) := by decide +kernel
theorem dX6_key_100 : decode cX6_key 100 = .ok (.istore 4, 2) := by decide +kernel
theorem dX6_key_102 : decode cX6_key 102 = .ok (.iinc 5 1, 3) := by decide +kernel
theorem dX6_key_105 : decode cX6_key 105 = .ok (.goto (-78), 3) := by decide +kernel
theorem dX6_key_108 : decode cX6_key 108 = .ok (.iload_n 3, 1) := by decide +kernel
theorem dX6_key_109 : decode cX6_key 109 = .ok (.ifCond .ge 12, 3) := by decide +kernel
theorem dX6_key_112 : decode cX6_key 112 = .ok (.aload_n 0, 1) := by decide +kernel
theorem dX6_key_113 : decode cX6_key 113 = .ok (.ldc 170, 2) := by decide +kernel
theorem dX6_key_115 : decode cX6_key 115 = .ok (.invokevirtual 125, 3) := by decide +kernel
theorem dX6_key_118 : decode cX6_key 118 = .ok (.goto 4, 3) := by decide +kernel
theorem dX6_key_121 : decode cX6_key 121 = .ok (.iload_n 3, 1) := by decide +kernel
theorem dX6_key_122 : decode cX6_key 122 = .ok (.ireturn, 1) := by decide +kernel
theorem dX6_toFree_0 : decode cX6_toFree 0 = .ok (.iload_n 1, 1) := by decide +kernel
theorem dX6_toFree_1 : decode cX6_toFree 1 = .ok (.iload_n 2, 1) := by decide +kernel
theorem dX6_toFree_2 : decode cX6_toFree 2 = .ok (.invokestatic 164, 3) := by decide +kernel
theorem dX6_toFree_5 : decode cX6_toFree 5 = .ok (.ifCond .ne 10, 3) := by decide +kernel
theorem dX6_toFree_8 : decode cX6_toFree 8 = .ok (.aload_n 0, 1) := by decide +kernel
theorem dX6_toFree_9 : decode cX6_toFree 9 = .ok (.ldc 78, 2) := by decide +kernel
theorem dX6_toFree_11 : decode cX6_toFree 11 = .ok (.invokevirtual 125, 3) := by decide +kernel
theorem dX6_toFree_14 : decode cX6_toFree 14 = .ok (.ireturn, 1) := by decide +kernel
theorem dX6_toFree_15 : decode cX6_toFree 15 = .ok (.iconst 0, 1) := by decide +kernel
theorem dX6_toFree_16 : decode cX6_toFree 16 = .ok (.istore_n 3, 1) := by decide +kernel
theorem dX6_toFree_17 : decode cX6_toFree 17 = .ok (.iconst 0, 1) := by decide +kernel
theorem dX6_toFree_18 : decode cX6_toFree 18 = .ok (.istore 4, 2) := by decide +kernel
theorem dX6_toFree_20 : decode cX6_toFree 20 = .ok (.iload 4, 2) := by decide +kernel
theorem dX6_toFree_22 : decode cX6_toFree 22 = .ok (.aload_n 0, 1) := by decide +kernel
theorem dX6_toFree_23 : decode cX6_toFree 23 = .ok (.getfield 87, 3) := by decide +kernel
theorem dX6_toFree_26 : decode cX6_toFree 26 = .ok (.if_icmp .ge 50, 3) := by decide +kernel
theorem dX6_toFree_29 : decode cX6_toFree 29 = .ok (.iload_n 3, 1) := by decide +kernel
theorem dX6_toFree_30 : decode cX6_toFree 30 = .ok (.ifCond .ne 34, 3) := by decide +kernel
theorem dX6_toFree_33 : decode cX6_toFree 33 = .ok (.aload_n 0, 1) := by decide +kernel
theorem dX6_toFree_34 : decode cX6_toFree 34 = .ok (.getfield 22, 3) := by decide +kernel
theorem dX6_toFree_37 : decode cX6_toFree 37 = .ok (.iload 4, 2) := by decide +kernel
theorem dX6_toFree_39 : decode cX6_toFree 39 = .ok (.iaload, 1) := by decide +kernel
theorem dX6_toFree_40 : decode cX6_toFree 40 = .ok (.iload_n 1, 1) := by decide +kernel
theorem dX6_toFree_41 : decode cX6_toFree 41 = .ok (.if_icmp .ne 27, 3) := by decide +kernel
theorem dX6_toFree_44 : decode cX6_toFree 44 = .ok (.aload_n 0, 1) := by decide +kernel
theorem dX6_toFree_45 : decode cX6_toFree 45 = .ok (.getfield 25, 3) := by decide +kernel
theorem dX6_toFree_48 : decode cX6_toFree 48 = .ok (.iload 4, 2) := by decide +kernel
theorem dX6_toFree_50 : decode cX6_toFree 50 = .ok (.iaload, 1) := by decide +kernel
theorem dX6_toFree_51 : decode cX6_toFree 51 = .ok (.iload_n 2, 1) := by decide +kernel
theorem dX6_toFree_52 : decode cX6_toFree 52 = .ok (.if_icmp .ne 16, 3) := by decide +kernel
theorem dX6_toFree_55 : decode cX6_toFree 55 = .ok (.aload_n 0, 1) := by decide +kernel
theorem dX6_toFree_56 : decode cX6_toFree 56 = .ok (.iload 4, 2) := by decide +kernel
theorem dX6_toFree_58 : decode cX6_toFree 58 = .ok (.invokevirtual 113, 3) := by decide +kernel
theorem dX6_toFree_61 : decode cX6_toFree 61 = .ok (.ifCond .eq 7, 3) := by decide +kernel
theorem dX6_toFree_64 : decode cX6_toFree 64 = .ok (.iconst 1, 1) := by decide +kernel
theorem dX6_toFree_65 : decode cX6_toFree 65 = .ok (.goto 4, 3) := by decide +kernel
theorem dX6_toFree_68 : decode cX6_toFree 68 = .ok (.iconst 0, 1) := by decide +kernel
theorem dX6_toFree_69 : decode cX6_toFree 69 = .ok (.istore_n 3, 1) := by decide +kernel
theorem dX6_toFree_70 : decode cX6_toFree 70 = .ok (.iinc 4 1, 3) := by decide +kernel
theorem dX6_toFree_73 : decode cX6_toFree 73 = .ok (.goto (-53), 3) := by decide +kernel
theorem dX6_toFree_76 : decode cX6_toFree 76 = .ok (.iload_n 3, 1) := by decide +kernel
theorem dX6_toFree_77 : decode cX6_toFree 77 = .ok (.ifCond .eq 12, 3) := by decide +kernel
theorem dX6_toFree_80 : decode cX6_toFree 80 = .ok (.aload_n 0, 1) := by decide +kernel
theorem dX6_toFree_81 : decode cX6_toFree 81 = .ok (.iload_n 2, 1) := by decide +kernel
theorem dX6_toFree_82 : decode cX6_toFree 82 = .ok (.iload_n 1, 1) := by decide +kernel
theorem dX6_toFree_83 : decode cX6_toFree 83 = .ok (.invokevirtual 231, 3) := by decide +kernel
theorem dX6_toFree_86 : decode cX6_toFree 86 = .ok (.goto 4, 3) := by decide +kernel
theorem dX6_toFree_89 : decode cX6_toFree 89 = .ok (.iconst 0, 1) := by decide +kernel
theorem dX6_toFree_90 : decode cX6_toFree 90 = .ok (.ireturn, 1) := by decide +kernel
theorem dX6_holdsWith_0 : decode cX6_holdsWith 0 = .ok (.aload_n 0, 1) := by decide +kernel
theorem dX6_holdsWith_1 : decode cX6_holdsWith 1 = .ok (.invokevirtual 190, 3) := by decide +kernel
theorem dX6_holdsWith_4 : decode cX6_holdsWith 4 = .ok (.iconst 0, 1) := by decide +kernel
theorem dX6_holdsWith_5 : decode cX6_holdsWith 5 = .ok (.istore_n 2, 1) := by decide +kernel
theorem dX6_holdsWith_6 : decode cX6_holdsWith 6 = .ok (.iload_n 2, 1) := by decide +kernel
theorem dX6_holdsWith_7 : decode cX6_holdsWith 7 = .ok (.aload_n 0, 1) := by decide +kernel
theorem dX6_holdsWith_8 : decode cX6_holdsWith 8 = .ok (.getfield 234, 3) := by decide +kernel
theorem dX6_holdsWith_11 : decode cX6_holdsWith 11 = .ok (.if_icmp .ge 41, 3) := by decide +kernel
theorem dX6_holdsWith_14 : decode cX6_holdsWith 14 = .ok (.iload_n 1, 1) := by decide +kernel
theorem dX6_holdsWith_15 : decode cX6_holdsWith 15 = .ok (.iload_n 2, 1) := by decide +kernel
theorem dX6_holdsWith_16 : decode cX6_holdsWith 16 = .ok (.invokestatic 161, 3) := by decide +kernel
theorem dX6_holdsWith_19 : decode cX6_holdsWith 19 = .ok (.ifCond .eq 27, 3) := by decide +kernel
theorem dX6_holdsWith_22 : decode cX6_holdsWith 22 = .ok (.aload_n 0, 1) := by decide +kernel
theorem dX6_holdsWith_23 : decode cX6_holdsWith 23 = .ok (.getfield 34, 3) := by decide +kernel
theorem dX6_holdsWith_26 : decode cX6_holdsWith 26 = .ok (.aload_n 0, 1) := by decide +kernel
theorem dX6_holdsWith_27 : decode cX6_holdsWith 27 = .ok (.getfield 90, 3) := by decide +kernel
theorem dX6_holdsWith_30 : decode cX6_holdsWith 30 = .ok (.iconst 1, 1) := by decide +kernel
theorem dX6_holdsWith_31 : decode cX6_holdsWith 31 = .ok (.iadd, 1) := by decide +kernel
theorem dX6_holdsWith_32 : decode cX6_holdsWith 32 = .ok (.aload_n 0, 1) := by decide +kernel
theorem dX6_holdsWith_33 : decode cX6_holdsWith 33 = .ok (.getfield 43, 3) := by decide +kernel
theorem dX6_holdsWith_36 : decode cX6_holdsWith 36 = .ok (.iload_n 2, 1) := by decide +kernel
theorem dX6_holdsWith_37 : decode cX6_holdsWith 37 = .ok (.iaload, 1) := by decide +kernel
theorem dX6_holdsWith_38 : decode cX6_holdsWith 38 = .ok (.iadd, 1) := by decide +kernel
theorem dX6_holdsWith_39 : decode cX6_holdsWith 39 = .ok (.aload_n 0, 1) := by decide +kernel
theorem dX6_holdsWith_40 : decode cX6_holdsWith 40 = .ok (.getfield 46, 3) := by decide +kernel
theorem dX6_holdsWith_43 : decode cX6_holdsWith 43 = .ok (.iload_n 2, 1) := by decide +kernel
theorem dX6_holdsWith_44 : decode cX6_holdsWith 44 = .ok (.iaload, 1) := by decide +kernel
theorem dX6_holdsWith_45 : decode cX6_holdsWith 45 = .ok (.iastore, 1) := by decide +kernel
theorem dX6_holdsWith_46 : decode cX6_holdsWith 46 = .ok (.iinc 2 1, 3) := by decide +kernel
theorem dX6_holdsWith_49 : decode cX6_holdsWith 49 = .ok (.goto (-43), 3) := by decide +kernel
theorem dX6_holdsWith_52 : decode cX6_holdsWith 52 = .ok (.aload_n 0, 1) := by decide +kernel
theorem dX6_holdsWith_53 : decode cX6_holdsWith 53 = .ok (.invokevirtual 145, 3) := by decide +kernel
theorem dX6_holdsWith_56 : decode cX6_holdsWith 56 = .ok (.ifCond .ne 7, 3) := by decide +kernel
theorem dX6_holdsWith_59 : decode cX6_holdsWith 59 = .ok (.iconst 1, 1) := by decide +kernel
theorem dX6_holdsWith_60 : decode cX6_holdsWith 60 = .ok (.goto 4, 3) := by decide +kernel
theorem dX6_holdsWith_63 : decode cX6_holdsWith 63 = .ok (.iconst 0, 1) := by decide +kernel
theorem dX6_holdsWith_64 : decode cX6_holdsWith 64 = .ok (.istore_n 2, 1) := by decide +kernel
theorem dX6_holdsWith_65 : decode cX6_holdsWith 65 = .ok (.aload_n 0, 1) := by decide +kernel
theorem dX6_holdsWith_66 : decode cX6_holdsWith 66 = .ok (.iconst 0, 1) := by decide +kernel
theorem dX6_holdsWith_67 : decode cX6_holdsWith 67 = .ok (.putfield 90, 3) := by decide +kernel
theorem dX6_holdsWith_70 : decode cX6_holdsWith 70 = .ok (.iload_n 2, 1) := by decide +kernel
theorem dX6_holdsWith_71 : decode cX6_holdsWith 71 = .ok (.ireturn, 1) := by decide +kernel
theorem dX6_findWay_0 : decode cX6_findWay 0 = .ok (.iconst 1, 1) := by decide +kernel
theorem dX6_findWay_1 : decode cX6_findWay 1 = .ok (.aload_n 0, 1) := by decide +kernel
theorem dX6_findWay_2 : decode cX6_findWay 2 = .ok (.getfield 234, 3) := by decide +kernel
theorem dX6_findWay_5 : decode cX6_findWay 5 = .ok (.ishl, 1) := by decide +kernel
theorem dX6_findWay_6 : decode cX6_findWay 6 = .ok (.iconst 1, 1) := by decide +kernel
theorem dX6_findWay_7 : decode cX6_findWay 7 = .ok (.isub, 1) := by decide +kernel
theorem dX6_findWay_8 : decode cX6_findWay 8 = .ok (.istore_n 1, 1) := by decide +kernel
theorem dX6_findWay_9 : decode cX6_findWay 9 = .ok (.iload_n 1, 1) := by decide +kernel
theorem dX6_findWay_10 : decode cX6_findWay 10 = .ok (.istore_n 2, 1) := by decide +kernel
theorem dX6_findWay_11 : decode cX6_findWay 11 = .ok (.iload_n 2, 1) := by decide +kernel
theorem dX6_findWay_12 : decode cX6_findWay 12 = .ok (.ifCond .lt 98, 3) := by decide +kernel
theorem dX6_findWay_15 : decode cX6_findWay 15 = .ok (.iload_n 2, 1) := by decide +kernel
theorem dX6_findWay_16 : decode cX6_findWay 16 = .ok (.iload_n 1, 1) := by decide +kernel
theorem dX6_findWay_17 : decode cX6_findWay 17 = .ok (.if_icmp .ne 7, 3) := by decide +kernel
theorem dX6_findWay_20 : decode cX6_findWay 20 = .ok (.iconst 1, 1) := by decide +kernel
theorem dX6_findWay_21 : decode cX6_findWay 21 = .ok (.goto 4, 3) := by decide +kernel
theorem dX6_findWay_24 : decode cX6_findWay 24 = .ok (.iconst 0, 1) := by decide +kernel
theorem dX6_findWay_25 : decode cX6_findWay 25 = .ok (.istore_n 3, 1) := by decide +kernel
theorem dX6_findWay_26 : decode cX6_findWay 26 = .ok (.iconst 0, 1) := by decide +kernel
theorem dX6_findWay_27 : decode cX6_findWay 27 = .ok (.istore 4, 2) := by decide +kernel
theorem dX6_findWay_29 : decode cX6_findWay 29 = .ok (.iload 4, 2) := by decide +kernel
theorem dX6_findWay_31 : decode cX6_findWay 31 = .ok (.aload_n 0, 1) := by decide +kernel
theorem dX6_findWay_32 : decode cX6_findWay 32 = .ok (.getfield 234, 3) := by decide +kernel
theorem dX6_findWay_35 : decode cX6_findWay 35 = .ok (.if_icmp .ge 42, 3) := by decide +kernel
theorem dX6_findWay_38 : decode cX6_findWay 38 = .ok (.iload_n 3, 1) := by decide +kernel
theorem dX6_findWay_39 : decode cX6_findWay 39 = .ok (.ifCond .ne 26, 3) := by decide +kernel
theorem dX6_findWay_42 : decode cX6_findWay 42 = .ok (.iload_n 2, 1) := by decide +kernel
theorem dX6_findWay_43 : decode cX6_findWay 43 = .ok (.iload 4, 2) := by decide +kernel
theorem dX6_findWay_45 : decode cX6_findWay 45 = .ok (.invokestatic 161, 3) := by decide +kernel
theorem dX6_findWay_48 : decode cX6_findWay 48 = .ok (.ifCond .ne 21, 3) := by decide +kernel
theorem dX6_findWay_51 : decode cX6_findWay 51 = .ok (.aload_n 0, 1) := by decide +kernel
theorem dX6_findWay_52 : decode cX6_findWay 52 = .ok (.getfield 49, 3) := by decide +kernel
theorem dX6_findWay_55 : decode cX6_findWay 55 = .ok (.iload_n 2, 1) := by decide +kernel
theorem dX6_findWay_56 : decode cX6_findWay 56 = .ok (.iconst 1, 1) := by decide +kernel
theorem dX6_findWay_57 : decode cX6_findWay 57 = .ok (.iload 4, 2) := by decide +kernel
theorem dX6_findWay_59 : decode cX6_findWay 59 = .ok (.ishl, 1) := by decide +kernel
theorem dX6_findWay_60 : decode cX6_findWay 60 = .ok (.ior, 1) := by decide +kernel
theorem dX6_findWay_61 : decode cX6_findWay 61 = .ok (.baload, 1) := by decide +kernel
theorem dX6_findWay_62 : decode cX6_findWay 62 = .ok (.ifCond .eq 7, 3) := by decide +kernel
theorem dX6_findWay_65 : decode cX6_findWay 65 = .ok (.iconst 1, 1) := by decide +kernel
theorem dX6_findWay_66 : decode cX6_findWay 66 = .ok (.goto 4, 3) := by decide +kernel
theorem dX6_findWay_69 : decode cX6_findWay 69 = .ok (.iconst 0, 1) := by decide +kernel
theorem dX6_findWay_70 : decode cX6_findWay 70 = .ok (.istore_n 3, 1) := by decide +kernel
theorem dX6_findWay_71 : decode cX6_findWay 71 = .ok (.iinc 4 1, 3) := by decide +kernel
theorem dX6_findWay_74 : decode cX6_findWay 74 = .ok (.goto (-45), 3) := by decide +kernel
theorem dX6_findWay_77 : decode cX6_findWay 77 = .ok (.aload_n 0, 1) := by decide +kernel
theorem dX6_findWay_78 : decode cX6_findWay 78 = .ok (.getfield 49, 3) := by decide +kernel
theorem dX6_findWay_81 : decode cX6_findWay 81 = .ok (.iload_n 2, 1) := by decide +kernel
theorem dX6_findWay_82 : decode cX6_findWay 82 = .ok (.iload_n 3, 1) := by decide +kernel
theorem dX6_findWay_83 : decode cX6_findWay 83 = .ok (.ifCond .eq 19, 3) := by decide +kernel
theorem dX6_findWay_86 : decode cX6_findWay 86 = .ok (.iload_n 2, 1) := by decide +kernel
theorem dX6_findWay_87 : decode cX6_findWay 87 = .ok (.ifCond .eq 11, 3) := by decide +kernel
theorem dX6_findWay_90 : decode cX6_findWay 90 = .ok (.aload_n 0, 1) := by decide +kernel
theorem dX6_findWay_91 : decode cX6_findWay 91 = .ok (.iload_n 2, 1) := by decide +kernel
theorem dX6_findWay_92 : decode cX6_findWay 92 = .ok (.invokevirtual 237, 3) := by decide +kernel
theorem dX6_findWay_95 : decode cX6_findWay 95 = .ok (.ifCond .eq 7, 3) := by decide +kernel
theorem dX6_findWay_98 : decode cX6_findWay 98 = .ok (.iconst 1, 1) := by decide +kernel
theorem dX6_findWay_99 : decode cX6_findWay 99 = .ok (.goto 4, 3) := by decide +kernel
theorem dX6_findWay_102 : decode cX6_findWay 102 = .ok (.iconst 0, 1) := by decide +kernel
theorem dX6_findWay_103 : decode cX6_findWay 103 = .ok (.bastore, 1) := by decide +kernel
theorem dX6_findWay_104 : decode cX6_findWay 104 = .ok (.iinc 2 (-1), 3) := by decide +kernel
theorem dX6_findWay_107 : decode cX6_findWay 107 = .ok (.goto (-96), 3) := by decide +kernel
theorem dX6_findWay_110 : decode cX6_findWay 110 = .ok (.return_, 1) := by decide +kernel
theorem dX6_movedAs_0 : decode cX6_movedAs 0 = .ok (.iconst 0, 1) := by decide +kernel
theorem dX6_movedAs_1 : decode cX6_movedAs 1 = .ok (.istore_n 2, 1) := by decide +kernel
theorem dX6_movedAs_2 : decode cX6_movedAs 2 = .ok (.iconst 0, 1) := by decide +kernel
theorem dX6_movedAs_3 : decode cX6_movedAs 3 = .ok (.istore_n 3, 1) := by decide +kernel
theorem dX6_movedAs_4 : decode cX6_movedAs 4 = .ok (.iconst 0, 1) := by decide +kernel
theorem dX6_movedAs_5 : decode cX6_movedAs 5 = .ok (.istore 4, 2) := by decide +kernel
theorem dX6_movedAs_7 : decode cX6_movedAs 7 = .ok (.iload 4, 2) := by decide +kernel
theorem dX6_movedAs_9 : decode cX6_movedAs 9 = .ok (.iload_n 1, 1) := by decide +kernel
theorem dX6_movedAs_10 : decode cX6_movedAs 10 = .ok (.if_icmp .gt 56, 3) := by decide +kernel
theorem dX6_movedAs_13 : decode cX6_movedAs 13 = .ok (.iconst 0, 1) := by decide +kernel
theorem dX6_movedAs_14 : decode cX6_movedAs 14 = .ok (.istore 5, 2) := by decide +kernel
theorem dX6_movedAs_16 : decode cX6_movedAs 16 = .ok (.iload_n 2, 1) := by decide +kernel
theorem dX6_movedAs_17 : decode cX6_movedAs 17 = .ok (.iload 5, 2) := by decide +kernel
theorem dX6_movedAs_19 : decode cX6_movedAs 19 = .ok (.invokestatic 161, 3) := by decide +kernel
theorem dX6_movedAs_22 : decode cX6_movedAs 22 = .ok (.ifCond .ne 17, 3) := by decide +kernel
theorem dX6_movedAs_25 : decode cX6_movedAs 25 = .ok (.aload_n 0, 1) := by decide +kernel
theorem dX6_movedAs_26 : decode cX6_movedAs 26 = .ok (.getfield 49, 3) := by decide +kernel
theorem dX6_movedAs_29 : decode cX6_movedAs 29 = .ok (.iload_n 2, 1) := by decide +kernel
theorem dX6_movedAs_30 : decode cX6_movedAs 30 = .ok (.iconst 1, 1) := by decide +kernel
theorem dX6_movedAs_31 : decode cX6_movedAs 31 = .ok (.iload 5, 2) := by decide +kernel
theorem dX6_movedAs_33 : decode cX6_movedAs 33 = .ok (.ishl, 1) := by decide +kernel
theorem dX6_movedAs_34 : decode cX6_movedAs 34 = .ok (.ior, 1) := by decide +kernel
theorem dX6_movedAs_35 : decode cX6_movedAs 35 = .ok (.baload, 1) := by decide +kernel
theorem dX6_movedAs_36 : decode cX6_movedAs 36 = .ok (.ifCond .ne 9, 3) := by decide +kernel
theorem dX6_movedAs_39 : decode cX6_movedAs 39 = .ok (.iinc 5 1, 3) := by decide +kernel
theorem dX6_movedAs_42 : decode cX6_movedAs 42 = .ok (.goto (-26), 3) := by decide +kernel
theorem dX6_movedAs_45 : decode cX6_movedAs 45 = .ok (.iload_n 2, 1) := by decide +kernel
theorem dX6_movedAs_46 : decode cX6_movedAs 46 = .ok (.iconst 1, 1) := by decide +kernel
theorem dX6_movedAs_47 : decode cX6_movedAs 47 = .ok (.iload 5, 2) := by decide +kernel
theorem dX6_movedAs_49 : decode cX6_movedAs 49 = .ok (.ishl, 1) := by decide +kernel
theorem dX6_movedAs_50 : decode cX6_movedAs 50 = .ok (.ior, 1) := by decide +kernel
theorem dX6_movedAs_51 : decode cX6_movedAs 51 = .ok (.istore_n 2, 1) := by decide +kernel
theorem dX6_movedAs_52 : decode cX6_movedAs 52 = .ok (.aload_n 0, 1) := by decide +kernel
theorem dX6_movedAs_53 : decode cX6_movedAs 53 = .ok (.getfield 43, 3) := by decide +kernel
theorem dX6_movedAs_56 : decode cX6_movedAs 56 = .ok (.iload 5, 2) := by decide +kernel
theorem dX6_movedAs_58 : decode cX6_movedAs 58 = .ok (.iaload, 1) := by decide +kernel
theorem dX6_movedAs_59 : decode cX6_movedAs 59 = .ok (.istore_n 3, 1) := by decide +kernel
theorem dX6_movedAs_60 : decode cX6_movedAs 60 = .ok (.iinc 4 1, 3) := by decide +kernel
theorem dX6_movedAs_63 : decode cX6_movedAs 63 = .ok (.goto (-56), 3) := by decide +kernel
theorem dX6_movedAs_66 : decode cX6_movedAs 66 = .ok (.iload_n 3, 1) := by decide +kernel
theorem dX6_movedAs_67 : decode cX6_movedAs 67 = .ok (.ireturn, 1) := by decide +kernel
theorem dX6_way_0 : decode cX6_way 0 = .ok (.iload_n 1, 1) := by decide +kernel
theorem dX6_way_1 : decode cX6_way 1 = .ok (.invokestatic 240, 3) := by decide +kernel
theorem dX6_way_4 : decode cX6_way 4 = .ok (.ifCond .ne 10, 3) := by decide +kernel
theorem dX6_way_7 : decode cX6_way 7 = .ok (.aload_n 0, 1) := by decide +kernel
theorem dX6_way_8 : decode cX6_way 8 = .ok (.ldc 78, 2) := by decide +kernel
theorem dX6_way_10 : decode cX6_way 10 = .ok (.invokevirtual 125, 3) := by decide +kernel
theorem dX6_way_13 : decode cX6_way 13 = .ok (.ireturn, 1) := by decide +kernel
theorem dX6_way_14 : decode cX6_way 14 = .ok (.aload_n 0, 1) := by decide +kernel
theorem dX6_way_15 : decode cX6_way 15 = .ok (.getfield 56, 3) := by decide +kernel
theorem dX6_way_18 : decode cX6_way 18 = .ok (.iload_n 1, 1) := by decide +kernel
theorem dX6_way_19 : decode cX6_way 19 = .ok (.iaload, 1) := by decide +kernel
theorem dX6_way_20 : decode cX6_way 20 = .ok (.ifCond .ne 10, 3) := by decide +kernel
theorem dX6_way_23 : decode cX6_way 23 = .ok (.aload_n 0, 1) := by decide +kernel
theorem dX6_way_24 : decode cX6_way 24 = .ok (.ldc 243, 2) := by decide +kernel
theorem dX6_way_26 : decode cX6_way 26 = .ok (.invokevirtual 125, 3) := by decide +kernel
theorem dX6_way_29 : decode cX6_way 29 = .ok (.ireturn, 1) := by decide +kernel
theorem dX6_way_30 : decode cX6_way 30 = .ok (.iload_n 2, 1) := by decide +kernel
theorem dX6_way_31 : decode cX6_way 31 = .ok (.iconst (-1), 1) := by decide +kernel
theorem dX6_way_32 : decode cX6_way 32 = .ok (.bipush 7, 2) := by decide +kernel
theorem dX6_way_34 : decode cX6_way 34 = .ok (.invokestatic 79, 3) := by decide +kernel
theorem dX6_way_37 : decode cX6_way 37 = .ok (.ifCond .ne 10, 3) := by decide +kernel
theorem dX6_way_40 : decode cX6_way 40 = .ok (.aload_n 0, 1) := by decide +kernel
theorem dX6_way_41 : decode cX6_way 41 = .ok (.ldc 78, 2) := by decide +kernel
theorem dX6_way_43 : decode cX6_way 43 = .ok (.invokevirtual 125, 3) := by decide +kernel
theorem dX6_way_46 : decode cX6_way 46 = .ok (.ireturn, 1) := by decide +kernel
theorem dX6_way_47 : decode cX6_way 47 = .ok (.iconst 0, 1) := by decide +kernel
theorem dX6_way_48 : decode cX6_way 48 = .ok (.istore_n 3, 1) := by decide +kernel
theorem dX6_way_49 : decode cX6_way 49 = .ok (.iconst 0, 1) := by decide +kernel
theorem dX6_way_50 : decode cX6_way 50 = .ok (.istore 4, 2) := by decide +kernel
theorem dX6_way_52 : decode cX6_way 52 = .ok (.iconst 0, 1) := by decide +kernel
theorem dX6_way_53 : decode cX6_way 53 = .ok (.istore 5, 2) := by decide +kernel
theorem dX6_way_55 : decode cX6_way 55 = .ok (.iload 5, 2) := by decide +kernel
theorem dX6_way_57 : decode cX6_way 57 = .ok (.aload_n 0, 1) := by decide +kernel
theorem dX6_way_58 : decode cX6_way 58 = .ok (.getfield 83, 3) := by decide +kernel
theorem dX6_way_61 : decode cX6_way 61 = .ok (.if_icmp .ge 110, 3) := by decide +kernel
theorem dX6_way_64 : decode cX6_way 64 = .ok (.iload 5, 2) := by decide +kernel
theorem dX6_way_66 : decode cX6_way 66 = .ok (.aload_n 0, 1) := by decide +kernel
theorem dX6_way_67 : decode cX6_way 67 = .ok (.getfield 59, 3) := by decide +kernel
theorem dX6_way_70 : decode cX6_way 70 = .ok (.iload_n 1, 1) := by decide +kernel
theorem dX6_way_71 : decode cX6_way 71 = .ok (.iaload, 1) := by decide +kernel
theorem dX6_way_72 : decode cX6_way 72 = .ok (.if_icmp .ge 99, 3) := by decide +kernel
theorem dX6_way_75 : decode cX6_way 75 = .ok (.aload_n 0, 1) := by decide +kernel
theorem dX6_way_76 : decode cX6_way 76 = .ok (.getfield 62, 3) := by decide +kernel
theorem dX6_way_79 : decode cX6_way 79 = .ok (.bipush 40, 2) := by decide +kernel
theorem dX6_way_81 : decode cX6_way 81 = .ok (.iload_n 1, 1) := by decide +kernel
theorem dX6_way_82 : decode cX6_way 82 = .ok (.imul, 1) := by decide +kernel
theorem dX6_way_83 : decode cX6_way 83 = .ok (.iload 5, 2) := by decide +kernel
theorem dX6_way_85 : decode cX6_way 85 = .ok (.iadd, 1) := by decide +kernel
theorem dX6_way_86 : decode cX6_way 86 = .ok (.laload, 1) := by decide +kernel
theorem dX6_way_87 : decode cX6_way 87 = .ok (.lstore 6, 2) := by decide +kernel
theorem dX6_way_89 : decode cX6_way 89 = .ok (.lload 6, 2) := by decide +kernel
theorem dX6_way_91 : decode cX6_way 91 = .ok (.lconst 0, 1) := by decide +kernel
theorem dX6_way_92 : decode cX6_way 92 = .ok (.lcmp, 1) := by decide +kernel
theorem dX6_way_93 : decode cX6_way 93 = .ok (.ifCond .lt 72, 3) := by decide +kernel
theorem dX6_way_96 : decode cX6_way 96 = .ok (.lload 6, 2) := by decide +kernel
theorem dX6_way_98 : decode cX6_way 98 = .ok (.ldc2_w 244, 3) := by decide +kernel
theorem dX6_way_101 : decode cX6_way 101 = .ok (.lcmp, 1) := by decide +kernel
theorem dX6_way_102 : decode cX6_way 102 = .ok (.ifCond .gt 63, 3) := by decide +kernel
theorem dX6_way_105 : decode cX6_way 105 = .ok (.lload 6, 2) := by decide +kernel
theorem dX6_way_107 : decode cX6_way 107 = .ok (.aload_n 0, 1) := by decide +kernel
theorem dX6_way_108 : decode cX6_way 108 = .ok (.iload 5, 2) := by decide +kernel
theorem dX6_way_110 : decode cX6_way 110 = .ok (.invokevirtual 93, 3) := by decide +kernel
theorem dX6_way_113 : decode cX6_way 113 = .ok (.i2l, 1) := by decide +kernel
theorem dX6_way_114 : decode cX6_way 114 = .ok (.lcmp, 1) := by decide +kernel
theorem dX6_way_115 : decode cX6_way 115 = .ok (.ifCond .eq 50, 3) := by decide +kernel
theorem dX6_way_118 : decode cX6_way 118 = .ok (.iload_n 3, 1) := by decide +kernel
theorem dX6_way_119 : decode cX6_way 119 = .ok (.bipush 8, 2) := by decide +kernel
theorem dX6_way_121 : decode cX6_way 121 = .ok (.if_icmp .ge 20, 3) := by decide +kernel
theorem dX6_way_124 : decode cX6_way 124 = .ok (.aload_n 0, 1) := by decide +kernel
theorem dX6_way_125 : decode cX6_way 125 = .ok (.getfield 43, 3) := by decide +kernel
theorem dX6_way_128 : decode cX6_way 128 = .ok (.iload_n 3, 1) := by decide +kernel
theorem dX6_way_129 : decode cX6_way 129 = .ok (.iload 5, 2) := by decide +kernel
theorem dX6_way_131 : decode cX6_way 131 = .ok (.iastore, 1) := by decide +kernel
theorem dX6_way_132 : decode cX6_way 132 = .ok (.aload_n 0, 1) := by decide +kernel
theorem dX6_way_133 : decode cX6_way 133 = .ok (.getfield 46, 3) := by decide +kernel
theorem dX6_way_136 : decode cX6_way 136 = .ok (.iload_n 3, 1) := by decide +kernel
theorem dX6_way_137 : decode cX6_way 137 = .ok (.lload 6, 2) := by decide +kernel
theorem dX6_way_139 : decode cX6_way 139 = .ok (.l2i, 1) := by decide +kernel
theorem dX6_way_140 : decode cX6_way 140 = .ok (.iastore, 1) := by decide +kernel
theorem dX6_way_141 : decode cX6_way 141 = .ok (.iinc 3 1, 3) := by decide +kernel
theorem dX6_way_144 : decode cX6_way 144 = .ok (.iload 4, 2) := by decide +kernel
theorem dX6_way_146 : decode cX6_way 146 = .ok (.ifCond .ne 12, 3) := by decide +kernel
theorem dX6_way_149 : decode cX6_way 149 = .ok (.aload_n 0, 1) := by decide +kernel
theorem dX6_way_150 : decode cX6_way 150 = .ok (.iload 5, 2) := by decide +kernel
theorem dX6_way_152 : decode cX6_way 152 = .ok (.invokevirtual 97, 3) := by decide +kernel
theorem dX6_way_155 : decode cX6_way 155 = .ok (.ifCond .ne 7, 3) := by decide +kernel
theorem dX6_way_158 : decode cX6_way 158 = .ok (.iconst 1, 1) := by decide +kernel
theorem dX6_way_159 : decode cX6_way 159 = .ok (.goto 4, 3) := by decide +kernel
theorem dX6_way_162 : decode cX6_way 162 = .ok (.iconst 0, 1) := by decide +kernel
theorem dX6_way_163 : decode cX6_way 163 = .ok (.istore 4, 2) := by decide +kernel
theorem dX6_way_165 : decode cX6_way 165 = .ok (.iinc 5 1, 3) := by decide +kernel
theorem dX6_way_168 : decode cX6_way 168 = .ok (.goto (-113), 3) := by decide +kernel
theorem dX6_way_171 : decode cX6_way 171 = .ok (.iload_n 3, 1) := by decide +kernel
theorem dX6_way_172 : decode cX6_way 172 = .ok (.bipush 8, 2) := by decide +kernel
theorem dX6_way_174 : decode cX6_way 174 = .ok (.if_icmp .le 10, 3) := by decide +kernel
theorem dX6_way_177 : decode cX6_way 177 = .ok (.aload_n 0, 1) := by decide +kernel
theorem dX6_way_178 : decode cX6_way 178 = .ok (.ldc 246, 2) := by decide +kernel
theorem dX6_way_180 : decode cX6_way 180 = .ok (.invokevirtual 125, 3) := by decide +kernel
theorem dX6_way_183 : decode cX6_way 183 = .ok (.ireturn, 1) := by decide +kernel
theorem dX6_way_184 : decode cX6_way 184 = .ok (.iload 4, 2) := by decide +kernel
theorem dX6_way_186 : decode cX6_way 186 = .ok (.ifCond .eq 10, 3) := by decide +kernel
theorem dX6_way_189 : decode cX6_way 189 = .ok (.aload_n 0, 1) := by decide +kernel
theorem dX6_way_190 : decode cX6_way 190 = .ok (.ldc 139, 2) := by decide +kernel
theorem dX6_way_192 : decode cX6_way 192 = .ok (.invokevirtual 125, 3) := by decide +kernel
theorem dX6_way_195 : decode cX6_way 195 = .ok (.ireturn, 1) := by decide +kernel
theorem dX6_way_196 : decode cX6_way 196 = .ok (.aload_n 0, 1) := by decide +kernel
theorem dX6_way_197 : decode cX6_way 197 = .ok (.iload_n 3, 1) := by decide +kernel
theorem dX6_way_198 : decode cX6_way 198 = .ok (.putfield 234, 3) := by decide +kernel
theorem dX6_way_201 : decode cX6_way 201 = .ok (.aload_n 0, 1) := by decide +kernel
theorem dX6_way_202 : decode cX6_way 202 = .ok (.invokevirtual 247, 3) := by decide +kernel
theorem dX6_way_205 : decode cX6_way 205 = .ok (.aload_n 0, 1) := by decide +kernel
theorem dX6_way_206 : decode cX6_way 206 = .ok (.getfield 49, 3) := by decide +kernel
theorem dX6_way_209 : decode cX6_way 209 = .ok (.iconst 0, 1) := by decide +kernel
theorem dX6_way_210 : decode cX6_way 210 = .ok (.baload, 1) := by decide +kernel
theorem dX6_way_211 : decode cX6_way 211 = .ok (.ifCond .eq 8, 3) := by decide +kernel
theorem dX6_way_214 : decode cX6_way 214 = .ok (.iload_n 2, 1) := by decide +kernel
theorem dX6_way_215 : decode cX6_way 215 = .ok (.iload_n 3, 1) := by decide +kernel
theorem dX6_way_216 : decode cX6_way 216 = .ok (.if_icmp .lt 10, 3) := by decide +kernel
theorem dX6_way_219 : decode cX6_way 219 = .ok (.aload_n 0, 1) := by decide +kernel
theorem dX6_way_220 : decode cX6_way 220 = .ok (.ldc 170, 2) := by decide +kernel
theorem dX6_way_222 : decode cX6_way 222 = .ok (.invokevirtual 125, 3) := by decide +kernel
theorem dX6_way_225 : decode cX6_way 225 = .ok (.ireturn, 1) := by decide +kernel
theorem dX6_way_226 : decode cX6_way 226 = .ok (.iload_n 2, 1) := by decide +kernel
theorem dX6_way_227 : decode cX6_way 227 = .ok (.ifCond .ge 7, 3) := by decide +kernel
theorem dX6_way_230 : decode cX6_way 230 = .ok (.iload_n 3, 1) := by decide +kernel
theorem dX6_way_231 : decode cX6_way 231 = .ok (.goto 8, 3) := by decide +kernel
theorem dX6_way_234 : decode cX6_way 234 = .ok (.aload_n 0, 1) := by decide +kernel
theorem dX6_way_235 : decode cX6_way 235 = .ok (.iload_n 2, 1) := by decide +kernel
theorem dX6_way_236 : decode cX6_way 236 = .ok (.invokevirtual 250, 3) := by decide +kernel
theorem dX6_way_239 : decode cX6_way 239 = .ok (.ireturn, 1) := by decide +kernel
theorem dX6_feed_0 : decode cX6_feed 0 = .ok (.iload_n 2, 1) := by decide +kernel
theorem dX6_feed_1 : decode cX6_feed 1 = .ok (.iconst 1, 1) := by decide +kernel
theorem dX6_feed_2 : decode cX6_feed 2 = .ok (.iconst 4, 1) := by decide +kernel
theorem dX6_feed_3 : decode cX6_feed 3 = .ok (.invokestatic 79, 3) := by decide +kernel
theorem dX6_feed_6 : decode cX6_feed 6 = .ok (.ifCond .ne 10, 3) := by decide +kernel
theorem dX6_feed_9 : decode cX6_feed 9 = .ok (.aload_n 0, 1) := by decide +kernel
theorem dX6_feed_10 : decode cX6_feed 10 = .ok (.ldc 78, 2) := by decide +kernel
theorem dX6_feed_12 : decode cX6_feed 12 = .ok (.invokevirtual 125, 3) := by decide +kernel
theorem dX6_feed_15 : decode cX6_feed 15 = .ok (.ireturn, 1) := by decide +kernel
theorem dX6_feed_16 : decode cX6_feed 16 = .ok (.aload_n 0, 1) := by decide +kernel
theorem dX6_feed_17 : decode cX6_feed 17 = .ok (.getfield 253, 3) := by decide +kernel
theorem dX6_feed_20 : decode cX6_feed 20 = .ok (.iload_n 2, 1) := by decide +kernel
theorem dX6_feed_21 : decode cX6_feed 21 = .ok (.iadd, 1) := by decide +kernel
theorem dX6_feed_22 : decode cX6_feed 22 = .ok (.bipush 120, 2) := by decide +kernel
theorem dX6_feed_24 : decode cX6_feed 24 = .ok (.if_icmp .le 10, 3) := by decide +kernel
theorem dX6_feed_27 : decode cX6_feed 27 = .ok (.aload_n 0, 1) := by decide +kernel
theorem dX6_feed_28 : decode cX6_feed 28 = .ok (.ldc 131, 2) := by decide +kernel
theorem dX6_feed_30 : decode cX6_feed 30 = .ok (.invokevirtual 125, 3) := by decide +kernel
theorem dX6_feed_33 : decode cX6_feed 33 = .ok (.ireturn, 1) := by decide +kernel
theorem dX6_feed_34 : decode cX6_feed 34 = .ok (.iload_n 2, 1) := by decide +kernel
theorem dX6_feed_35 : decode cX6_feed 35 = .ok (.iconst 1, 1) := by decide +kernel
theorem dX6_feed_36 : decode cX6_feed 36 = .ok (.isub, 1) := by decide +kernel
theorem dX6_feed_37 : decode cX6_feed 37 = .ok (.istore_n 3, 1) := by decide +kernel
theorem dX6_feed_38 : decode cX6_feed 38 = .ok (.iload_n 3, 1) := by decide +kernel
theorem dX6_feed_39 : decode cX6_feed 39 = .ok (.ifCond .lt 38, 3) := by decide +kernel
theorem dX6_feed_42 : decode cX6_feed 42 = .ok (.aload_n 0, 1) := by decide +kernel
theorem dX6_feed_43 : decode cX6_feed 43 = .ok (.getfield 53, 3) := by decide +kernel
theorem dX6_feed_46 : decode cX6_feed 46 = .ok (.aload_n 0, 1) := by decide +kernel
theorem dX6_feed_47 : decode cX6_feed 47 = .ok (.getfield 253, 3) := by decide +kernel
theorem dX6_feed_50 : decode cX6_feed 50 = .ok (.iload_n 1, 1) := by decide +kernel
theorem dX6_feed_51 : decode cX6_feed 51 = .ok (.bipush 8, 2) := by decide +kernel
theorem dX6_feed_53 : decode cX6_feed 53 = .ok (.iload_n 3, 1) := by decide +kernel
theorem dX6_feed_54 : decode cX6_feed 54 = .ok (.imul, 1) := by decide +kernel
theorem dX6_feed_55 : decode cX6_feed 55 = .ok (.ishr, 1) := by decide +kernel
theorem dX6_feed_56 : decode cX6_feed 56 = .ok (.sipush 255, 3) := by decide +kernel
theorem dX6_feed_59 : decode cX6_feed 59 = .ok (.iand, 1) := by decide +kernel
theorem dX6_feed_60 : decode cX6_feed 60 = .ok (.iastore, 1) := by decide +kernel
theorem dX6_feed_61 : decode cX6_feed 61 = .ok (.aload_n 0, 1) := by decide +kernel
theorem dX6_feed_62 : decode cX6_feed 62 = .ok (.dup, 1) := by decide +kernel
theorem dX6_feed_63 : decode cX6_feed 63 = .ok (.getfield 253, 3) := by decide +kernel
theorem dX6_feed_66 : decode cX6_feed 66 = .ok (.iconst 1, 1) := by decide +kernel
theorem dX6_feed_67 : decode cX6_feed 67 = .ok (.iadd, 1) := by decide +kernel
theorem dX6_feed_68 : decode cX6_feed 68 = .ok (.putfield 253, 3) := by decide +kernel
theorem dX6_feed_71 : decode cX6_feed 71 = .ok (.iinc 3 (-1), 3) := by decide +kernel
theorem dX6_feed_74 : decode cX6_feed 74 = .ok (.goto (-36), 3) := by decide +kernel
theorem dX6_feed_77 : decode cX6_feed 77 = .ok (.aload_n 0, 1) := by decide +kernel
theorem dX6_feed_78 : decode cX6_feed 78 = .ok (.getfield 253, 3) := by decide +kernel
theorem dX6_feed_81 : decode cX6_feed 81 = .ok (.ireturn, 1) := by decide +kernel
theorem dX6_wipe_0 : decode cX6_wipe 0 = .ok (.aload_n 0, 1) := by decide +kernel
theorem dX6_wipe_1 : decode cX6_wipe 1 = .ok (.getfield 253, 3) := by decide +kernel
theorem dX6_wipe_4 : decode cX6_wipe 4 = .ok (.istore_n 1, 1) := by decide +kernel
theorem dX6_wipe_5 : decode cX6_wipe 5 = .ok (.aload_n 0, 1) := by decide +kernel
theorem dX6_wipe_6 : decode cX6_wipe 6 = .ok (.iconst 0, 1) := by decide +kernel
theorem dX6_wipe_7 : decode cX6_wipe 7 = .ok (.putfield 253, 3) := by decide +kernel
theorem dX6_wipe_10 : decode cX6_wipe 10 = .ok (.iload_n 1, 1) := by decide +kernel
theorem dX6_wipe_11 : decode cX6_wipe 11 = .ok (.ireturn, 1) := by decide +kernel
theorem dX6_byteAt_0 : decode cX6_byteAt 0 = .ok (.iload_n 1, 1) := by decide +kernel
theorem dX6_byteAt_1 : decode cX6_byteAt 1 = .ok (.aload_n 0, 1) := by decide +kernel
theorem dX6_byteAt_2 : decode cX6_byteAt 2 = .ok (.getfield 253, 3) := by decide +kernel
theorem dX6_byteAt_5 : decode cX6_byteAt 5 = .ok (.if_icmp .ge 12, 3) := by decide +kernel
theorem dX6_byteAt_8 : decode cX6_byteAt 8 = .ok (.aload_n 0, 1) := by decide +kernel
theorem dX6_byteAt_9 : decode cX6_byteAt 9 = .ok (.getfield 53, 3) := by decide +kernel
theorem dX6_byteAt_12 : decode cX6_byteAt 12 = .ok (.iload_n 1, 1) := by decide +kernel
theorem dX6_byteAt_13 : decode cX6_byteAt 13 = .ok (.iaload, 1) := by decide +kernel
theorem dX6_byteAt_14 : decode cX6_byteAt 14 = .ok (.goto 4, 3) := by decide +kernel
theorem dX6_byteAt_17 : decode cX6_byteAt 17 = .ok (.iconst (-1), 1) := by decide +kernel
theorem dX6_byteAt_18 : decode cX6_byteAt 18 = .ok (.ireturn, 1) := by decide +kernel
theorem dX6_isLetter_0 : decode cX6_isLetter 0 = .ok (.iload_n 0, 1) := by decide +kernel
theorem dX6_isLetter_1 : decode cX6_isLetter 1 = .ok (.bipush 97, 2) := by decide +kernel
theorem dX6_isLetter_3 : decode cX6_isLetter 3 = .ok (.bipush 122, 2) := by decide +kernel
theorem dX6_isLetter_5 : decode cX6_isLetter 5 = .ok (.invokestatic 79, 3) := by decide +kernel
theorem dX6_isLetter_8 : decode cX6_isLetter 8 = .ok (.ireturn, 1) := by decide +kernel
theorem dX6_isDigit_0 : decode cX6_isDigit 0 = .ok (.iload_n 0, 1) := by decide +kernel
theorem dX6_isDigit_1 : decode cX6_isDigit 1 = .ok (.bipush 48, 2) := by decide +kernel
theorem dX6_isDigit_3 : decode cX6_isDigit 3 = .ok (.bipush 57, 2) := by decide +kernel
theorem dX6_isDigit_5 : decode cX6_isDigit 5 = .ok (.invokestatic 79, 3) := by decide +kernel
theorem dX6_isDigit_8 : decode cX6_isDigit 8 = .ok (.ireturn, 1) := by decide +kernel
theorem dX6_advance_0 : decode cX6_advance 0 = .ok (.aload_n 0, 1) := by decide +kernel
theorem dX6_advance_1 : decode cX6_advance 1 = .ok (.aload_n 0, 1) := by decide +kernel
theorem dX6_advance_2 : decode cX6_advance 2 = .ok (.getfield 256, 3) := by decide +kernel
theorem dX6_advance_5 : decode cX6_advance 5 = .ok (.putfield 259, 3) := by decide +kernel
theorem dX6_advance_8 : decode cX6_advance 8 = .ok (.aload_n 0, 1) := by decide +kernel
theorem dX6_advance_9 : decode cX6_advance 9 = .ok (.aload_n 0, 1) := by decide +kernel
theorem dX6_advance_10 : decode cX6_advance 10 = .ok (.getfield 259, 3) := by decide +kernel
theorem dX6_advance_13 : decode cX6_advance 13 = .ok (.invokevirtual 262, 3) := by decide +kernel
theorem dX6_advance_16 : decode cX6_advance 16 = .ok (.bipush 32, 2) := by decide +kernel
theorem dX6_advance_18 : decode cX6_advance 18 = .ok (.if_icmp .ne 16, 3) := by decide +kernel
theorem dX6_advance_21 : decode cX6_advance 21 = .ok (.aload_n 0, 1) := by decide +kernel
theorem dX6_advance_22 : decode cX6_advance 22 = .ok (.dup, 1) := by decide +kernel
theorem dX6_advance_23 : decode cX6_advance 23 = .ok (.getfield 259, 3) := by decide +kernel
theorem dX6_advance_26 : decode cX6_advance 26 = .ok (.iconst 1, 1) := by decide +kernel
theorem dX6_advance_27 : decode cX6_advance 27 = .ok (.iadd, 1) := by decide +kernel
theorem dX6_advance_28 : decode cX6_advance 28 = .ok (.putfield 259, 3) := by decide +kernel
theorem dX6_advance_31 : decode cX6_advance 31 = .ok (.goto (-23), 3) := by decide +kernel
theorem dX6_advance_34 : decode cX6_advance 34 = .ok (.aload_n 0, 1) := by decide +kernel
theorem dX6_advance_35 : decode cX6_advance 35 = .ok (.aload_n 0, 1) := by decide +kernel
theorem dX6_advance_36 : decode cX6_advance 36 = .ok (.getfield 259, 3) := by decide +kernel
theorem dX6_advance_39 : decode cX6_advance 39 = .ok (.putfield 256, 3) := by decide +kernel
theorem dX6_advance_42 : decode cX6_advance 42 = .ok (.aload_n 0, 1) := by decide +kernel
theorem dX6_advance_43 : decode cX6_advance 43 = .ok (.aload_n 0, 1) := by decide +kernel
theorem dX6_advance_44 : decode cX6_advance 44 = .ok (.getfield 259, 3) := by decide +kernel
theorem dX6_advance_47 : decode cX6_advance 47 = .ok (.invokevirtual 262, 3) := by decide +kernel
theorem dX6_advance_50 : decode cX6_advance 50 = .ok (.istore_n 1, 1) := by decide +kernel
theorem dX6_advance_51 : decode cX6_advance 51 = .ok (.aload_n 0, 1) := by decide +kernel
theorem dX6_advance_52 : decode cX6_advance 52 = .ok (.iload_n 1, 1) := by decide +kernel
theorem dX6_advance_53 : decode cX6_advance 53 = .ok (.ifCond .ge 7, 3) := by decide +kernel
theorem dX6_advance_56 : decode cX6_advance 56 = .ok (.iconst 0, 1) := by decide +kernel
theorem dX6_advance_57 : decode cX6_advance 57 = .ok (.goto 26, 3) := by decide +kernel
theorem dX6_advance_60 : decode cX6_advance 60 = .ok (.iload_n 1, 1) := by decide +kernel
theorem dX6_advance_61 : decode cX6_advance 61 = .ok (.invokestatic 265, 3) := by decide +kernel
theorem dX6_advance_64 : decode cX6_advance 64 = .ok (.ifCond .eq 7, 3) := by decide +kernel
theorem dX6_advance_67 : decode cX6_advance 67 = .ok (.iconst 1, 1) := by decide +kernel
theorem dX6_advance_68 : decode cX6_advance 68 = .ok (.goto 15, 3) := by decide +kernel
theorem dX6_advance_71 : decode cX6_advance 71 = .ok (.iload_n 1, 1) := by decide +kernel
theorem dX6_advance_72 : decode cX6_advance 72 = .ok (.invokestatic 268, 3) := by decide +kernel
theorem dX6_advance_75 : decode cX6_advance 75 = .ok (.ifCond .eq 7, 3) := by decide +kernel
theorem dX6_advance_78 : decode cX6_advance 78 = .ok (.iconst 2, 1) := by decide +kernel
theorem dX6_advance_79 : decode cX6_advance 79 = .ok (.goto 4, 3) := by decide +kernel
theorem dX6_advance_82 : decode cX6_advance 82 = .ok (.iconst 3, 1) := by decide +kernel
theorem dX6_advance_83 : decode cX6_advance 83 = .ok (.putfield 271, 3) := by decide +kernel
theorem dX6_advance_86 : decode cX6_advance 86 = .ok (.aload_n 0, 1) := by decide +kernel
theorem dX6_advance_87 : decode cX6_advance 87 = .ok (.lconst 0, 1) := by decide +kernel
theorem dX6_advance_88 : decode cX6_advance 88 = .ok (.putfield 274, 3) := by decide +kernel
theorem dX6_advance_91 : decode cX6_advance 91 = .ok (.aload_n 0, 1) := by decide +kernel
theorem dX6_advance_92 : decode cX6_advance 92 = .ok (.aload_n 0, 1) := by decide +kernel
theorem dX6_advance_93 : decode cX6_advance 93 = .ok (.getfield 271, 3) := by decide +kernel
theorem dX6_advance_96 : decode cX6_advance 96 = .ok (.iconst 2, 1) := by decide +kernel
theorem dX6_advance_97 : decode cX6_advance 97 = .ok (.if_icmp .ne 7, 3) := by decide +kernel
theorem dX6_advance_100 : decode cX6_advance 100 = .ok (.iconst 0, 1) := by decide +kernel
theorem dX6_advance_101 : decode cX6_advance 101 = .ok (.goto 4, 3) := by decide +kernel
theorem dX6_advance_104 : decode cX6_advance 104 = .ok (.iload_n 1, 1) := by decide +kernel
theorem dX6_advance_105 : decode cX6_advance 105 = .ok (.putfield 278, 3) := by decide +kernel
theorem dX6_advance_108 : decode cX6_advance 108 = .ok (.aload_n 0, 1) := by decide +kernel
theorem dX6_advance_109 : decode cX6_advance 109 = .ok (.getfield 271, 3) := by decide +kernel
theorem dX6_advance_112 : decode cX6_advance 112 = .ok (.iconst 3, 1) := by decide +kernel
theorem dX6_advance_113 : decode cX6_advance 113 = .ok (.if_icmp .ne 13, 3) := by decide +kernel
theorem dX6_advance_116 : decode cX6_advance 116 = .ok (.aload_n 0, 1) := by decide +kernel
theorem dX6_advance_117 : decode cX6_advance 117 = .ok (.dup, 1) := by decide +kernel
theorem dX6_advance_118 : decode cX6_advance 118 = .ok (.getfield 256, 3) := by decide +kernel
theorem dX6_advance_121 : decode cX6_advance 121 = .ok (.iconst 1, 1) := by decide +kernel
theorem dX6_advance_122 : decode cX6_advance 122 = .ok (.iadd, 1) := by decide +kernel
theorem dX6_advance_123 : decode cX6_advance 123 = .ok (.putfield 256, 3) := by decide +kernel
theorem dX6_advance_126 : decode cX6_advance 126 = .ok (.aload_n 0, 1) := by decide +kernel
theorem dX6_advance_127 : decode cX6_advance 127 = .ok (.getfield 271, 3) := by decide +kernel
theorem dX6_advance_130 : decode cX6_advance 130 = .ok (.iconst 1, 1) := by decide +kernel
theorem dX6_advance_131 : decode cX6_advance 131 = .ok (.if_icmp .ne 76, 3) := by decide +kernel
theorem dX6_advance_134 : decode cX6_advance 134 = .ok (.aload_n 0, 1) := by decide +kernel
theorem dX6_advance_135 : decode cX6_advance 135 = .ok (.aload_n 0, 1) := by decide +kernel
theorem dX6_advance_136 : decode cX6_advance 136 = .ok (.getfield 256, 3) := by decide +kernel
theorem dX6_advance_139 : decode cX6_advance 139 = .ok (.invokevirtual 262, 3) := by decide +kernel
theorem dX6_advance_142 : decode cX6_advance 142 = .ok (.invokestatic 265, 3) := by decide +kernel
theorem dX6_advance_145 : decode cX6_advance 145 = .ok (.ifCond .eq 62, 3) := by decide +kernel
theorem dX6_advance_148 : decode cX6_advance 148 = .ok (.aload_n 0, 1) := by decide +kernel
theorem dX6_advance_149 : decode cX6_advance 149 = .ok (.aload_n 0, 1) := by decide +kernel
theorem dX6_advance_150 : decode cX6_advance 150 = .ok (.getfield 256, 3) := by decide +kernel
theorem dX6_advance_153 : decode cX6_advance 153 = .ok (.aload_n 0, 1) := by decide +kernel
theorem dX6_advance_154 : decode cX6_advance 154 = .ok (.getfield 259, 3) := by decide +kernel
theorem dX6_advance_157 : decode cX6_advance 157 = .ok (.isub, 1) := by decide +kernel
theorem dX6_advance_158 : decode cX6_advance 158 = .ok (.bipush 12, 2) := by decide +kernel
theorem dX6_advance_160 : decode cX6_advance 160 = .ok (.if_icmp .ge 28, 3) := by decide +kernel
theorem dX6_advance_163 : decode cX6_advance 163 = .ok (.ldc2_w 281, 3) := by decide +kernel
theorem dX6_advance_166 : decode cX6_advance 166 = .ok (.aload_n 0, 1) := by decide +kernel
theorem dX6_advance_167 : decode cX6_advance 167 = .ok (.getfield 274, 3) := by decide +kernel
theorem dX6_advance_170 : decode cX6_advance 170 = .ok (.lmul, 1) := by decide +kernel
theorem dX6_advance_171 : decode cX6_advance 171 = .ok (.aload_n 0, 1) := by decide +kernel
theorem dX6_advance_172 : decode cX6_advance 172 = .ok (.aload_n 0, 1) := by decide +kernel
theorem dX6_advance_173 : decode cX6_advance 173 = .ok (.getfield 256, 3) := by decide +kernel
theorem dX6_advance_176 : decode cX6_advance 176 = .ok (.invokevirtual 262, 3) := by decide +kernel
theorem dX6_advance_179 : decode cX6_advance 179 = .ok (.i2l, 1) := by decide +kernel
theorem dX6_advance_180 : decode cX6_advance 180 = .ok (.ladd, 1) := by decide +kernel
theorem dX6_advance_181 : decode cX6_advance 181 = .ok (.ldc2_w 283, 3) := by decide +kernel
theorem dX6_advance_184 : decode cX6_advance 184 = .ok (.lsub, 1) := by decide +kernel
theorem dX6_advance_185 : decode cX6_advance 185 = .ok (.goto 6, 3) := by decide +kernel
theorem dX6_advance_188 : decode cX6_advance 188 = .ok (.ldc2_w 285, 3) := by decide +kernel
theorem dX6_advance_191 : decode cX6_advance 191 = .ok (.putfield 274, 3) := by decide +kernel
theorem dX6_advance_194 : decode cX6_advance 194 = .ok (.aload_n 0, 1) := by decide +kernel
theorem dX6_advance_195 : decode cX6_advance 195 = .ok (.dup, 1) := by decide +kernel
theorem dX6_advance_196 : decode cX6_advance 196 = .ok (.getfield 256, 3) := by decide +kernel
theorem dX6_advance_199 : decode cX6_advance 199 = .ok (.iconst 1, 1) := by decide +kernel
theorem dX6_advance_200 : decode cX6_advance 200 = .ok (.iadd, 1) := by decide +kernel
theorem dX6_advance_201 : decode cX6_advance 201 = .ok (.putfield 256, 3) := by decide +kernel
theorem dX6_advance_204 : decode cX6_advance 204 = .ok (.goto (-78), 3) := by decide +kernel
theorem dX6_advance_207 : decode cX6_advance 207 = .ok (.aload_n 0, 1) := by decide +kernel
theorem dX6_advance_208 : decode cX6_advance 208 = .ok (.getfield 271, 3) := by decide +kernel
theorem dX6_advance_211 : decode cX6_advance 211 = .ok (.iconst 2, 1) := by decide +kernel
theorem dX6_advance_212 : decode cX6_advance 212 = .ok (.if_icmp .ne 68, 3) := by decide +kernel
theorem dX6_advance_215 : decode cX6_advance 215 = .ok (.aload_n 0, 1) := by decide +kernel
theorem dX6_advance_216 : decode cX6_advance 216 = .ok (.aload_n 0, 1) := by decide +kernel
theorem dX6_advance_217 : decode cX6_advance 217 = .ok (.getfield 256, 3) := by decide +kernel
theorem dX6_advance_220 : decode cX6_advance 220 = .ok (.invokevirtual 262, 3) := by decide +kernel
theorem dX6_advance_223 : decode cX6_advance 223 = .ok (.invokestatic 268, 3) := by decide +kernel
theorem dX6_advance_226 : decode cX6_advance 226 = .ok (.ifCond .eq 54, 3) := by decide +kernel
theorem dX6_advance_229 : decode cX6_advance 229 = .ok (.aload_n 0, 1) := by decide +kernel
theorem dX6_advance_230 : decode cX6_advance 230 = .ok (.aload_n 0, 1) := by decide +kernel
theorem dX6_advance_231 : decode cX6_advance 231 = .ok (.getfield 278, 3) := by decide +kernel
theorem dX6_advance_234 : decode cX6_advance 234 = .ok (.bipush 99, 2) := by decide +kernel
theorem dX6_advance_236 : decode cX6_advance 236 = .ok (.if_icmp .le 9, 3) := by decide +kernel
theorem dX6_advance_239 : decode cX6_advance 239 = .ok (.sipush 1000, 3) := by decide +kernel
theorem dX6_advance_242 : decode cX6_advance 242 = .ok (.goto 22, 3) := by decide +kernel
theorem dX6_advance_245 : decode cX6_advance 245 = .ok (.bipush 10, 2) := by decide +kernel
theorem dX6_advance_247 : decode cX6_advance 247 = .ok (.aload_n 0, 1) := by decide +kernel
theorem dX6_advance_248 : decode cX6_advance 248 = .ok (.getfield 278, 3) := by decide +kernel
theorem dX6_advance_251 : decode cX6_advance 251 = .ok (.imul, 1) := by decide +kernel
theorem dX6_advance_252 : decode cX6_advance 252 = .ok (.aload_n 0, 1) := by decide +kernel
theorem dX6_advance_253 : decode cX6_advance 253 = .ok (.aload_n 0, 1) := by decide +kernel
theorem dX6_advance_254 : decode cX6_advance 254 = .ok (.getfield 256, 3) := by decide +kernel
theorem dX6_advance_257 : decode cX6_advance 257 = .ok (.invokevirtual 262, 3) := by decide +kernel
theorem dX6_advance_260 : decode cX6_advance 260 = .ok (.iadd, 1) := by decide +kernel
theorem dX6_advance_261 : decode cX6_advance 261 = .ok (.bipush 48, 2) := by decide +kernel
theorem dX6_advance_263 : decode cX6_advance 263 = .ok (.isub, 1) := by decide +kernel
theorem dX6_advance_264 : decode cX6_advance 264 = .ok (.putfield 278, 3) := by decide +kernel
theorem dX6_advance_267 : decode cX6_advance 267 = .ok (.aload_n 0, 1) := by decide +kernel
theorem dX6_advance_268 : decode cX6_advance 268 = .ok (.dup, 1) := by decide +kernel
theorem dX6_advance_269 : decode cX6_advance 269 = .ok (.getfield 256, 3) := by decide +kernel
theorem dX6_advance_272 : decode cX6_advance 272 = .ok (.iconst 1, 1) := by decide +kernel
theorem dX6_advance_273 : decode cX6_advance 273 = .ok (.iadd, 1) := by decide +kernel
theorem dX6_advance_274 : decode cX6_advance 274 = .ok (.putfield 256, 3) := by decide +kernel
theorem dX6_advance_277 : decode cX6_advance 277 = .ok (.goto (-70), 3) := by decide +kernel
theorem dX6_advance_280 : decode cX6_advance 280 = .ok (.return_, 1) := by decide +kernel
theorem dX6_isWord_0 : decode cX6_isWord 0 = .ok (.aload_n 0, 1) := by decide +kernel
theorem dX6_isWord_1 : decode cX6_isWord 1 = .ok (.getfield 271, 3) := by decide +kernel
theorem dX6_isWord_4 : decode cX6_isWord 4 = .ok (.iconst 1, 1) := by decide +kernel
theorem dX6_isWord_5 : decode cX6_isWord 5 = .ok (.if_icmp .ne 16, 3) := by decide +kernel
theorem dX6_isWord_8 : decode cX6_isWord 8 = .ok (.aload_n 0, 1) := by decide +kernel
theorem dX6_isWord_9 : decode cX6_isWord 9 = .ok (.getfield 274, 3) := by decide +kernel
theorem dX6_isWord_12 : decode cX6_isWord 12 = .ok (.lload_n 1, 1) := by decide +kernel
theorem dX6_isWord_13 : decode cX6_isWord 13 = .ok (.lcmp, 1) := by decide +kernel
theorem dX6_isWord_14 : decode cX6_isWord 14 = .ok (.ifCond .ne 7, 3) := by decide +kernel
theorem dX6_isWord_17 : decode cX6_isWord 17 = .ok (.iconst 1, 1) := by decide +kernel
theorem dX6_isWord_18 : decode cX6_isWord 18 = .ok (.goto 4, 3) := by decide +kernel
theorem dX6_isWord_21 : decode cX6_isWord 21 = .ok (.iconst 0, 1) := by decide +kernel
theorem dX6_isWord_22 : decode cX6_isWord 22 = .ok (.ireturn, 1) := by decide +kernel
theorem dX6_kindHere_0 : decode cX6_kindHere 0 = .ok (.aload_n 0, 1) := by decide +kernel
theorem dX6_kindHere_1 : decode cX6_kindHere 1 = .ok (.ldc2_w 287, 3) := by decide +kernel
theorem dX6_kindHere_4 : decode cX6_kindHere 4 = .ok (.invokevirtual 289, 3) := by decide +kernel
theorem dX6_kindHere_7 : decode cX6_kindHere 7 = .ok (.ifCond .eq 7, 3) := by decide +kernel
theorem dX6_kindHere_10 : decode cX6_kindHere 10 = .ok (.iconst 0, 1) := by decide +kernel
theorem dX6_kindHere_11 : decode cX6_kindHere 11 = .ok (.goto 74, 3) := by decide +kernel
theorem dX6_kindHere_14 : decode cX6_kindHere 14 = .ok (.aload_n 0, 1) := by decide +kernel
theorem dX6_kindHere_15 : decode cX6_kindHere 15 = .ok (.ldc2_w 293, 3) := by decide +kernel
theorem dX6_kindHere_18 : decode cX6_kindHere 18 = .ok (.invokevirtual 289, 3) := by decide +kernel
theorem dX6_kindHere_21 : decode cX6_kindHere 21 = .ok (.ifCond .eq 7, 3) := by decide +kernel
theorem dX6_kindHere_24 : decode cX6_kindHere 24 = .ok (.iconst 1, 1) := by decide +kernel
theorem dX6_kindHere_25 : decode cX6_kindHere 25 = .ok (.goto 60, 3) := by decide +kernel
theorem dX6_kindHere_28 : decode cX6_kindHere 28 = .ok (.aload_n 0, 1) := by decide +kernel
theorem dX6_kindHere_29 : decode cX6_kindHere 29 = .ok (.ldc2_w 295, 3) := by decide +kernel
theorem dX6_kindHere_32 : decode cX6_kindHere 32 = .ok (.invokevirtual 289, 3) := by decide +kernel
theorem dX6_kindHere_35 : decode cX6_kindHere 35 = .ok (.ifCond .eq 7, 3) := by decide +kernel
theorem dX6_kindHere_38 : decode cX6_kindHere 38 = .ok (.iconst 2, 1) := by decide +kernel
theorem dX6_kindHere_39 : decode cX6_kindHere 39 = .ok (.goto 46, 3) := by decide +kernel
theorem dX6_kindHere_42 : decode cX6_kindHere 42 = .ok (.aload_n 0, 1) := by decide +kernel
theorem dX6_kindHere_43 : decode cX6_kindHere 43 = .ok (.ldc2_w 297, 3) := by decide +kernel
theorem dX6_kindHere_46 : decode cX6_kindHere 46 = .ok (.invokevirtual 289, 3) := by decide +kernel
theorem dX6_kindHere_49 : decode cX6_kindHere 49 = .ok (.ifCond .eq 7, 3) := by decide +kernel
theorem dX6_kindHere_52 : decode cX6_kindHere 52 = .ok (.iconst 3, 1) := by decide +kernel
theorem dX6_kindHere_53 : decode cX6_kindHere 53 = .ok (.goto 32, 3) := by decide +kernel
theorem dX6_kindHere_56 : decode cX6_kindHere 56 = .ok (.aload_n 0, 1) := by decide +kernel
theorem dX6_kindHere_57 : decode cX6_kindHere 57 = .ok (.ldc2_w 299, 3) := by decide +kernel
theorem dX6_kindHere_60 : decode cX6_kindHere 60 = .ok (.invokevirtual 289, 3) := by decide +kernel
theorem dX6_kindHere_63 : decode cX6_kindHere 63 = .ok (.ifCond .eq 7, 3) := by decide +kernel
theorem dX6_kindHere_66 : decode cX6_kindHere 66 = .ok (.iconst 4, 1) := by decide +kernel
theorem dX6_kindHere_67 : decode cX6_kindHere 67 = .ok (.goto 18, 3) := by decide +kernel
theorem dX6_kindHere_70 : decode cX6_kindHere 70 = .ok (.aload_n 0, 1) := by decide +kernel
theorem dX6_kindHere_71 : decode cX6_kindHere 71 = .ok (.ldc2_w 301, 3) := by decide +kernel
theorem dX6_kindHere_74 : decode cX6_kindHere 74 = .ok (.invokevirtual 289, 3) := by decide +kernel
theorem dX6_kindHere_77 : decode cX6_kindHere 77 = .ok (.ifCond .eq 7, 3) := by decide +kernel
theorem dX6_kindHere_80 : decode cX6_kindHere 80 = .ok (.iconst 5, 1) := by decide +kernel
theorem dX6_kindHere_81 : decode cX6_kindHere 81 = .ok (.goto 4, 3) := by decide +kernel
theorem dX6_kindHere_84 : decode cX6_kindHere 84 = .ok (.iconst (-1), 1) := by decide +kernel
theorem dX6_kindHere_85 : decode cX6_kindHere 85 = .ok (.ireturn, 1) := by decide +kernel
theorem dX6_wantNumber_0 : decode cX6_wantNumber 0 = .ok (.aload_n 0, 1) := by decide +kernel
theorem dX6_wantNumber_1 : decode cX6_wantNumber 1 = .ok (.getfield 278, 3) := by decide +kernel
theorem dX6_wantNumber_4 : decode cX6_wantNumber 4 = .ok (.istore_n 3, 1) := by decide +kernel
theorem dX6_wantNumber_5 : decode cX6_wantNumber 5 = .ok (.aload_n 0, 1) := by decide +kernel
theorem dX6_wantNumber_6 : decode cX6_wantNumber 6 = .ok (.aload_n 0, 1) := by decide +kernel
theorem dX6_wantNumber_7 : decode cX6_wantNumber 7 = .ok (.getfield 303, 3) := by decide +kernel
theorem dX6_wantNumber_10 : decode cX6_wantNumber 10 = .ok (.ifCond .eq 24, 3) := by decide +kernel
theorem dX6_wantNumber_13 : decode cX6_wantNumber 13 = .ok (.aload_n 0, 1) := by decide +kernel
theorem dX6_wantNumber_14 : decode cX6_wantNumber 14 = .ok (.getfield 271, 3) := by decide +kernel
theorem dX6_wantNumber_17 : decode cX6_wantNumber 17 = .ok (.iconst 2, 1) := by decide +kernel
theorem dX6_wantNumber_18 : decode cX6_wantNumber 18 = .ok (.if_icmp .ne 16, 3) := by decide +kernel
theorem dX6_wantNumber_21 : decode cX6_wantNumber 21 = .ok (.iload_n 3, 1) := by decide +kernel
theorem dX6_wantNumber_22 : decode cX6_wantNumber 22 = .ok (.iload_n 1, 1) := by decide +kernel
theorem dX6_wantNumber_23 : decode cX6_wantNumber 23 = .ok (.iload_n 2, 1) := by decide +kernel
theorem dX6_wantNumber_24 : decode cX6_wantNumber 24 = .ok (.invokestatic 79, 3) := by decide +kernel
theorem dX6_wantNumber_27 : decode cX6_wantNumber 27 = .ok (.ifCond .eq 7, 3) := by decide +kernel
theorem dX6_wantNumber_30 : decode cX6_wantNumber 30 = .ok (.iconst 1, 1) := by decide +kernel
theorem dX6_wantNumber_31 : decode cX6_wantNumber 31 = .ok (.goto 4, 3) := by decide +kernel
theorem dX6_wantNumber_34 : decode cX6_wantNumber 34 = .ok (.iconst 0, 1) := by decide +kernel
theorem dX6_wantNumber_35 : decode cX6_wantNumber 35 = .ok (.putfield 303, 3) := by decide +kernel
theorem dX6_wantNumber_38 : decode cX6_wantNumber 38 = .ok (.aload_n 0, 1) := by decide +kernel
theorem dX6_wantNumber_39 : decode cX6_wantNumber 39 = .ok (.getfield 303, 3) := by decide +kernel
theorem dX6_wantNumber_42 : decode cX6_wantNumber 42 = .ok (.ifCond .eq 7, 3) := by decide +kernel
theorem dX6_wantNumber_45 : decode cX6_wantNumber 45 = .ok (.aload_n 0, 1) := by decide +kernel
theorem dX6_wantNumber_46 : decode cX6_wantNumber 46 = .ok (.invokevirtual 307, 3) := by decide +kernel
theorem dX6_wantNumber_49 : decode cX6_wantNumber 49 = .ok (.iload_n 3, 1) := by decide +kernel
theorem dX6_wantNumber_50 : decode cX6_wantNumber 50 = .ok (.ireturn, 1) := by decide +kernel
theorem dX6_mayWant_0 : decode cX6_mayWant 0 = .ok (.aload_n 0, 1) := by decide +kernel
theorem dX6_mayWant_1 : decode cX6_mayWant 1 = .ok (.getfield 303, 3) := by decide +kernel
theorem dX6_mayWant_4 : decode cX6_mayWant 4 = .ok (.ifCond .eq 11, 3) := by decide +kernel
theorem dX6_mayWant_7 : decode cX6_mayWant 7 = .ok (.aload_n 0, 1) := by decide +kernel
theorem dX6_mayWant_8 : decode cX6_mayWant 8 = .ok (.lload_n 1, 1) := by decide +kernel
theorem dX6_mayWant_9 : decode cX6_mayWant 9 = .ok (.invokevirtual 289, 3) := by decide +kernel
theorem dX6_mayWant_12 : decode cX6_mayWant 12 = .ok (.ifCond .ne 6, 3) := by decide +kernel
theorem dX6_mayWant_15 : decode cX6_mayWant 15 = .ok (.iload 5, 2) := by decide +kernel
theorem dX6_mayWant_17 : decode cX6_mayWant 17 = .ok (.ireturn, 1) := by decide +kernel
theorem dX6_mayWant_18 : decode cX6_mayWant 18 = .ok (.aload_n 0, 1) := by decide +kernel
theorem dX6_mayWant_19 : decode cX6_mayWant 19 = .ok (.invokevirtual 307, 3) := by decide +kernel
theorem dX6_mayWant_22 : decode cX6_mayWant 22 = .ok (.aload_n 0, 1) := by decide +kernel
theorem dX6_mayWant_23 : decode cX6_mayWant 23 = .ok (.iload_n 3, 1) := by decide +kernel
theorem dX6_mayWant_24 : decode cX6_mayWant 24 = .ok (.iload 4, 2) := by decide +kernel
theorem dX6_mayWant_26 : decode cX6_mayWant 26 = .ok (.invokevirtual 310, 3) := by decide +kernel
theorem dX6_mayWant_29 : decode cX6_mayWant 29 = .ok (.ireturn, 1) := by decide +kernel
theorem dX6_wantWord_0 : decode cX6_wantWord 0 = .ok (.aload_n 0, 1) := by decide +kernel
theorem dX6_wantWord_1 : decode cX6_wantWord 1 = .ok (.aload_n 0, 1) := by decide +kernel
theorem dX6_wantWord_2 : decode cX6_wantWord 2 = .ok (.getfield 303, 3) := by decide +kernel
theorem dX6_wantWord_5 : decode cX6_wantWord 5 = .ok (.ifCond .eq 15, 3) := by decide +kernel
theorem dX6_wantWord_8 : decode cX6_wantWord 8 = .ok (.aload_n 0, 1) := by decide +kernel
theorem dX6_wantWord_9 : decode cX6_wantWord 9 = .ok (.lload_n 1, 1) := by decide +kernel
theorem dX6_wantWord_10 : decode cX6_wantWord 10 = .ok (.invokevirtual 289, 3) := by decide +kernel
theorem dX6_wantWord_13 : decode cX6_wantWord 13 = .ok (.ifCond .eq 7, 3) := by decide +kernel
theorem dX6_wantWord_16 : decode cX6_wantWord 16 = .ok (.iconst 1, 1) := by decide +kernel
theorem dX6_wantWord_17 : decode cX6_wantWord 17 = .ok (.goto 4, 3) := by decide +kernel
theorem dX6_wantWord_20 : decode cX6_wantWord 20 = .ok (.iconst 0, 1) := by decide +kernel
theorem dX6_wantWord_21 : decode cX6_wantWord 21 = .ok (.putfield 303, 3) := by decide +kernel
theorem dX6_wantWord_24 : decode cX6_wantWord 24 = .ok (.aload_n 0, 1) := by decide +kernel
theorem dX6_wantWord_25 : decode cX6_wantWord 25 = .ok (.getfield 303, 3) := by decide +kernel
theorem dX6_wantWord_28 : decode cX6_wantWord 28 = .ok (.ifCond .eq 7, 3) := by decide +kernel
theorem dX6_wantWord_31 : decode cX6_wantWord 31 = .ok (.aload_n 0, 1) := by decide +kernel
theorem dX6_wantWord_32 : decode cX6_wantWord 32 = .ok (.invokevirtual 307, 3) := by decide +kernel
theorem dX6_wantWord_35 : decode cX6_wantWord 35 = .ok (.return_, 1) := by decide +kernel
theorem dX6_wantKing_0 : decode cX6_wantKing 0 = .ok (.aload_n 0, 1) := by decide +kernel
theorem dX6_wantKing_1 : decode cX6_wantKing 1 = .ok (.invokevirtual 307, 3) := by decide +kernel
theorem dX6_wantKing_4 : decode cX6_wantKing 4 = .ok (.aload_n 0, 1) := by decide +kernel
theorem dX6_wantKing_5 : decode cX6_wantKing 5 = .ok (.iconst 0, 1) := by decide +kernel
theorem dX6_wantKing_6 : decode cX6_wantKing 6 = .ok (.iconst 5, 1) := by decide +kernel
theorem dX6_wantKing_7 : decode cX6_wantKing 7 = .ok (.invokevirtual 310, 3) := by decide +kernel
theorem dX6_wantKing_10 : decode cX6_wantKing 10 = .ok (.istore_n 1, 1) := by decide +kernel
theorem dX6_wantKing_11 : decode cX6_wantKing 11 = .ok (.aload_n 0, 1) := by decide +kernel
theorem dX6_wantKing_12 : decode cX6_wantKing 12 = .ok (.ldc2_w 313, 3) := by decide +kernel
theorem dX6_wantKing_15 : decode cX6_wantKing 15 = .ok (.invokevirtual 315, 3) := by decide +kernel
theorem dX6_wantKing_18 : decode cX6_wantKing 18 = .ok (.aload_n 0, 1) := by decide +kernel
theorem dX6_wantKing_19 : decode cX6_wantKing 19 = .ok (.iconst 0, 1) := by decide +kernel
theorem dX6_wantKing_20 : decode cX6_wantKing 20 = .ok (.bipush 99, 2) := by decide +kernel
theorem dX6_wantKing_22 : decode cX6_wantKing 22 = .ok (.invokevirtual 310, 3) := by decide +kernel
theorem dX6_wantKing_25 : decode cX6_wantKing 25 = .ok (.istore_n 2, 1) := by decide +kernel
theorem dX6_wantKing_26 : decode cX6_wantKing 26 = .ok (.aload_n 0, 1) := by decide +kernel
theorem dX6_wantKing_27 : decode cX6_wantKing 27 = .ok (.getfield 303, 3) := by decide +kernel
theorem dX6_wantKing_30 : decode cX6_wantKing 30 = .ok (.ifCond .eq 10, 3) := by decide +kernel
theorem dX6_wantKing_33 : decode cX6_wantKing 33 = .ok (.aload_n 0, 1) := by decide +kernel
theorem dX6_wantKing_34 : decode cX6_wantKing 34 = .ok (.getfield 7, 3) := by decide +kernel
theorem dX6_wantKing_37 : decode cX6_wantKing 37 = .ok (.iload_n 1, 1) := by decide +kernel
theorem dX6_wantKing_38 : decode cX6_wantKing 38 = .ok (.iload_n 2, 1) := by decide +kernel
theorem dX6_wantKing_39 : decode cX6_wantKing 39 = .ok (.iastore, 1) := by decide +kernel
theorem dX6_wantKing_40 : decode cX6_wantKing 40 = .ok (.return_, 1) := by decide +kernel
theorem dX6_wantChild_0 : decode cX6_wantChild 0 = .ok (.aload_n 0, 1) := by decide +kernel
theorem dX6_wantChild_1 : decode cX6_wantChild 1 = .ok (.aload_n 0, 1) := by decide +kernel
theorem dX6_wantChild_2 : decode cX6_wantChild 2 = .ok (.getfield 83, 3) := by decide +kernel
theorem dX6_wantChild_5 : decode cX6_wantChild 5 = .ok (.bipush 14, 2) := by decide +kernel
theorem dX6_wantChild_7 : decode cX6_wantChild 7 = .ok (.if_icmp .ge 7, 3) := by decide +kernel
theorem dX6_wantChild_10 : decode cX6_wantChild 10 = .ok (.iconst 1, 1) := by decide +kernel
theorem dX6_wantChild_11 : decode cX6_wantChild 11 = .ok (.goto 4, 3) := by decide +kernel
theorem dX6_wantChild_14 : decode cX6_wantChild 14 = .ok (.iconst 0, 1) := by decide +kernel
theorem dX6_wantChild_15 : decode cX6_wantChild 15 = .ok (.putfield 303, 3) := by decide +kernel
theorem dX6_wantChild_18 : decode cX6_wantChild 18 = .ok (.aload_n 0, 1) := by decide +kernel
theorem dX6_wantChild_19 : decode cX6_wantChild 19 = .ok (.getfield 303, 3) := by decide +kernel
theorem dX6_wantChild_22 : decode cX6_wantChild 22 = .ok (.ifCond .eq 7, 3) := by decide +kernel
theorem dX6_wantChild_25 : decode cX6_wantChild 25 = .ok (.aload_n 0, 1) := by decide +kernel
theorem dX6_wantChild_26 : decode cX6_wantChild 26 = .ok (.invokevirtual 307, 3) := by decide +kernel
theorem dX6_wantChild_29 : decode cX6_wantChild 29 = .ok (.aload_n 0, 1) := by decide +kernel
theorem dX6_wantChild_30 : decode cX6_wantChild 30 = .ok (.ldc2_w 319, 3) := by decide +kernel
theorem dX6_wantChild_33 : decode cX6_wantChild 33 = .ok (.invokevirtual 315, 3) := by decide +kernel
theorem dX6_wantChild_36 : decode cX6_wantChild 36 = .ok (.aload_n 0, 1) := by decide +kernel
theorem dX6_wantChild_37 : decode cX6_wantChild 37 = .ok (.iconst 0, 1) := by decide +kernel
theorem dX6_wantChild_38 : decode cX6_wantChild 38 = .ok (.iconst 5, 1) := by decide +kernel
theorem dX6_wantChild_39 : decode cX6_wantChild 39 = .ok (.invokevirtual 310, 3) := by decide +kernel
theorem dX6_wantChild_42 : decode cX6_wantChild 42 = .ok (.istore_n 2, 1) := by decide +kernel
theorem dX6_wantChild_43 : decode cX6_wantChild 43 = .ok (.aload_n 0, 1) := by decide +kernel
theorem dX6_wantChild_44 : decode cX6_wantChild 44 = .ok (.ldc2_w 321, 3) := by decide +kernel
theorem dX6_wantChild_47 : decode cX6_wantChild 47 = .ok (.iconst 0, 1) := by decide +kernel
theorem dX6_wantChild_48 : decode cX6_wantChild 48 = .ok (.iconst 5, 1) := by decide +kernel
theorem dX6_wantChild_49 : decode cX6_wantChild 49 = .ok (.iload_n 2, 1) := by decide +kernel
theorem dX6_wantChild_50 : decode cX6_wantChild 50 = .ok (.invokevirtual 323, 3) := by decide +kernel
theorem dX6_wantChild_53 : decode cX6_wantChild 53 = .ok (.istore_n 3, 1) := by decide +kernel
theorem dX6_wantChild_54 : decode cX6_wantChild 54 = .ok (.aload_n 0, 1) := by decide +kernel
theorem dX6_wantChild_55 : decode cX6_wantChild 55 = .ok (.ldc2_w 327, 3) := by decide +kernel
theorem dX6_wantChild_58 : decode cX6_wantChild 58 = .ok (.iconst 0, 1) := by decide +kernel
theorem dX6_wantChild_59 : decode cX6_wantChild 59 = .ok (.bipush 99, 2) := by decide +kernel
theorem dX6_wantChild_61 : decode cX6_wantChild 61 = .ok (.bipush 10, 2) := by decide +kernel
theorem dX6_wantChild_63 : decode cX6_wantChild 63 = .ok (.invokevirtual 323, 3) := by decide +kernel
theorem dX6_wantChild_66 : decode cX6_wantChild 66 = .ok (.istore 4, 2) := by decide +kernel
theorem dX6_wantChild_68 : decode cX6_wantChild 68 = .ok (.aload_n 0, 1) := by decide +kernel
theorem dX6_wantChild_69 : decode cX6_wantChild 69 = .ok (.getfield 303, 3) := by decide +kernel
theorem dX6_wantChild_72 : decode cX6_wantChild 72 = .ok (.ifCond .eq 12, 3) := by decide +kernel
theorem dX6_wantChild_75 : decode cX6_wantChild 75 = .ok (.aload_n 0, 1) := by decide +kernel
theorem dX6_wantChild_76 : decode cX6_wantChild 76 = .ok (.iload_n 1, 1) := by decide +kernel
theorem dX6_wantChild_77 : decode cX6_wantChild 77 = .ok (.iload_n 2, 1) := by decide +kernel
theorem dX6_wantChild_78 : decode cX6_wantChild 78 = .ok (.iload_n 3, 1) := by decide +kernel
theorem dX6_wantChild_79 : decode cX6_wantChild 79 = .ok (.iload 4, 2) := by decide +kernel
theorem dX6_wantChild_81 : decode cX6_wantChild 81 = .ok (.invokevirtual 132, 3) := by decide +kernel
theorem dX6_wantChild_84 : decode cX6_wantChild 84 = .ok (.return_, 1) := by decide +kernel
theorem dX6_wantTreaty_0 : decode cX6_wantTreaty 0 = .ok (.aload_n 0, 1) := by decide +kernel
theorem dX6_wantTreaty_1 : decode cX6_wantTreaty 1 = .ok (.aload_n 0, 1) := by decide +kernel
theorem dX6_wantTreaty_2 : decode cX6_wantTreaty 2 = .ok (.getfield 87, 3) := by decide +kernel
theorem dX6_wantTreaty_5 : decode cX6_wantTreaty 5 = .ok (.bipush 12, 2) := by decide +kernel
theorem dX6_wantTreaty_7 : decode cX6_wantTreaty 7 = .ok (.if_icmp .ge 7, 3) := by decide +kernel
theorem dX6_wantTreaty_10 : decode cX6_wantTreaty 10 = .ok (.iconst 1, 1) := by decide +kernel
theorem dX6_wantTreaty_11 : decode cX6_wantTreaty 11 = .ok (.goto 4, 3) := by decide +kernel
theorem dX6_wantTreaty_14 : decode cX6_wantTreaty 14 = .ok (.iconst 0, 1) := by decide +kernel
theorem dX6_wantTreaty_15 : decode cX6_wantTreaty 15 = .ok (.putfield 303, 3) := by decide +kernel
theorem dX6_wantTreaty_18 : decode cX6_wantTreaty 18 = .ok (.aload_n 0, 1) := by decide +kernel
theorem dX6_wantTreaty_19 : decode cX6_wantTreaty 19 = .ok (.getfield 303, 3) := by decide +kernel
theorem dX6_wantTreaty_22 : decode cX6_wantTreaty 22 = .ok (.ifCond .eq 7, 3) := by decide +kernel
theorem dX6_wantTreaty_25 : decode cX6_wantTreaty 25 = .ok (.aload_n 0, 1) := by decide +kernel
theorem dX6_wantTreaty_26 : decode cX6_wantTreaty 26 = .ok (.invokevirtual 307, 3) := by decide +kernel
theorem dX6_wantTreaty_29 : decode cX6_wantTreaty 29 = .ok (.aload_n 0, 1) := by decide +kernel
theorem dX6_wantTreaty_30 : decode cX6_wantTreaty 30 = .ok (.iconst 0, 1) := by decide +kernel
theorem dX6_wantTreaty_31 : decode cX6_wantTreaty 31 = .ok (.iconst 5, 1) := by decide +kernel
theorem dX6_wantTreaty_32 : decode cX6_wantTreaty 32 = .ok (.invokevirtual 310, 3) := by decide +kernel
theorem dX6_wantTreaty_35 : decode cX6_wantTreaty 35 = .ok (.istore_n 1, 1) := by decide +kernel
theorem dX6_wantTreaty_36 : decode cX6_wantTreaty 36 = .ok (.aload_n 0, 1) := by decide +kernel
theorem dX6_wantTreaty_37 : decode cX6_wantTreaty 37 = .ok (.ldc2_w 329, 3) := by decide +kernel
theorem dX6_wantTreaty_40 : decode cX6_wantTreaty 40 = .ok (.invokevirtual 315, 3) := by decide +kernel
theorem dX6_wantTreaty_43 : decode cX6_wantTreaty 43 = .ok (.aload_n 0, 1) := by decide +kernel
theorem dX6_wantTreaty_44 : decode cX6_wantTreaty 44 = .ok (.aload_n 0, 1) := by decide +kernel
theorem dX6_wantTreaty_45 : decode cX6_wantTreaty 45 = .ok (.getfield 303, 3) := by decide +kernel
theorem dX6_wantTreaty_48 : decode cX6_wantTreaty 48 = .ok (.ifCond .eq 23, 3) := by decide +kernel
theorem dX6_wantTreaty_51 : decode cX6_wantTreaty 51 = .ok (.aload_n 0, 1) := by decide +kernel
theorem dX6_wantTreaty_52 : decode cX6_wantTreaty 52 = .ok (.getfield 271, 3) := by decide +kernel
theorem dX6_wantTreaty_55 : decode cX6_wantTreaty 55 = .ok (.iconst 2, 1) := by decide +kernel
theorem dX6_wantTreaty_56 : decode cX6_wantTreaty 56 = .ok (.if_icmp .ne 11, 3) := by decide +kernel
theorem dX6_wantTreaty_59 : decode cX6_wantTreaty 59 = .ok (.aload_n 0, 1) := by decide +kernel
theorem dX6_wantTreaty_60 : decode cX6_wantTreaty 60 = .ok (.getfield 278, 3) := by decide +kernel
theorem dX6_wantTreaty_63 : decode cX6_wantTreaty 63 = .ok (.iload_n 1, 1) := by decide +kernel
theorem dX6_wantTreaty_64 : decode cX6_wantTreaty 64 = .ok (.if_icmp .eq 7, 3) := by decide +kernel
theorem dX6_wantTreaty_67 : decode cX6_wantTreaty 67 = .ok (.iconst 1, 1) := by decide +kernel
theorem dX6_wantTreaty_68 : decode cX6_wantTreaty 68 = .ok (.goto 4, 3) := by decide +kernel
theorem dX6_wantTreaty_71 : decode cX6_wantTreaty 71 = .ok (.iconst 0, 1) := by decide +kernel
theorem dX6_wantTreaty_72 : decode cX6_wantTreaty 72 = .ok (.putfield 303, 3) := by decide +kernel
theorem dX6_wantTreaty_75 : decode cX6_wantTreaty 75 = .ok (.aload_n 0, 1) := by decide +kernel
theorem dX6_wantTreaty_76 : decode cX6_wantTreaty 76 = .ok (.iconst 0, 1) := by decide +kernel
theorem dX6_wantTreaty_77 : decode cX6_wantTreaty 77 = .ok (.iconst 5, 1) := by decide +kernel
theorem dX6_wantTreaty_78 : decode cX6_wantTreaty 78 = .ok (.invokevirtual 310, 3) := by decide +kernel
theorem dX6_wantTreaty_81 : decode cX6_wantTreaty 81 = .ok (.istore_n 2, 1) := by decide +kernel
theorem dX6_wantTreaty_82 : decode cX6_wantTreaty 82 = .ok (.aload_n 0, 1) := by decide +kernel
theorem dX6_wantTreaty_83 : decode cX6_wantTreaty 83 = .ok (.ldc2_w 331, 3) := by decide +kernel
theorem dX6_wantTreaty_86 : decode cX6_wantTreaty 86 = .ok (.invokevirtual 315, 3) := by decide +kernel
theorem dX6_wantTreaty_89 : decode cX6_wantTreaty 89 = .ok (.aload_n 0, 1) := by decide +kernel
theorem dX6_wantTreaty_90 : decode cX6_wantTreaty 90 = .ok (.iconst 0, 1) := by decide +kernel
theorem dX6_wantTreaty_91 : decode cX6_wantTreaty 91 = .ok (.sipush 999, 3) := by decide +kernel
theorem dX6_wantTreaty_94 : decode cX6_wantTreaty 94 = .ok (.invokevirtual 310, 3) := by decide +kernel
theorem dX6_wantTreaty_97 : decode cX6_wantTreaty 97 = .ok (.istore_n 3, 1) := by decide +kernel
theorem dX6_wantTreaty_98 : decode cX6_wantTreaty 98 = .ok (.aload_n 0, 1) := by decide +kernel
theorem dX6_wantTreaty_99 : decode cX6_wantTreaty 99 = .ok (.ldc2_w 333, 3) := by decide +kernel
theorem dX6_wantTreaty_102 : decode cX6_wantTreaty 102 = .ok (.iconst 0, 1) := by decide +kernel
theorem dX6_wantTreaty_103 : decode cX6_wantTreaty 103 = .ok (.sipush 999, 3) := by decide +kernel
theorem dX6_wantTreaty_106 : decode cX6_wantTreaty 106 = .ok (.sipush 999, 3) := by decide +kernel
theorem dX6_wantTreaty_109 : decode cX6_wantTreaty 109 = .ok (.invokevirtual 323, 3) := by decide +kernel
theorem dX6_wantTreaty_112 : decode cX6_wantTreaty 112 = .ok (.istore 4, 2) := by decide +kernel
theorem dX6_wantTreaty_114 : decode cX6_wantTreaty 114 = .ok (.aload_n 0, 1) := by decide +kernel
theorem dX6_wantTreaty_115 : decode cX6_wantTreaty 115 = .ok (.getfield 303, 3) := by decide +kernel
theorem dX6_wantTreaty_118 : decode cX6_wantTreaty 118 = .ok (.ifCond .eq 12, 3) := by decide +kernel
theorem dX6_wantTreaty_121 : decode cX6_wantTreaty 121 = .ok (.aload_n 0, 1) := by decide +kernel
theorem dX6_wantTreaty_122 : decode cX6_wantTreaty 122 = .ok (.iload_n 1, 1) := by decide +kernel
theorem dX6_wantTreaty_123 : decode cX6_wantTreaty 123 = .ok (.iload_n 2, 1) := by decide +kernel
theorem dX6_wantTreaty_124 : decode cX6_wantTreaty 124 = .ok (.iload_n 3, 1) := by decide +kernel
theorem dX6_wantTreaty_125 : decode cX6_wantTreaty 125 = .ok (.iload 4, 2) := by decide +kernel
theorem dX6_wantTreaty_127 : decode cX6_wantTreaty 127 = .ok (.invokevirtual 155, 3) := by decide +kernel
theorem dX6_wantTreaty_130 : decode cX6_wantTreaty 130 = .ok (.return_, 1) := by decide +kernel
theorem dX6_wantItem_0 : decode cX6_wantItem 0 = .ok (.aload_n 0, 1) := by decide +kernel
theorem dX6_wantItem_1 : decode cX6_wantItem 1 = .ok (.ldc2_w 335, 3) := by decide +kernel
theorem dX6_wantItem_4 : decode cX6_wantItem 4 = .ok (.invokevirtual 289, 3) := by decide +kernel
theorem dX6_wantItem_7 : decode cX6_wantItem 7 = .ok (.ifCond .eq 10, 3) := by decide +kernel
theorem dX6_wantItem_10 : decode cX6_wantItem 10 = .ok (.aload_n 0, 1) := by decide +kernel
theorem dX6_wantItem_11 : decode cX6_wantItem 11 = .ok (.invokevirtual 337, 3) := by decide +kernel
theorem dX6_wantItem_14 : decode cX6_wantItem 14 = .ok (.goto 43, 3) := by decide +kernel
theorem dX6_wantItem_17 : decode cX6_wantItem 17 = .ok (.aload_n 0, 1) := by decide +kernel
theorem dX6_wantItem_18 : decode cX6_wantItem 18 = .ok (.ldc2_w 340, 3) := by decide +kernel
theorem dX6_wantItem_21 : decode cX6_wantItem 21 = .ok (.invokevirtual 289, 3) := by decide +kernel
theorem dX6_wantItem_24 : decode cX6_wantItem 24 = .ok (.ifCond .eq 10, 3) := by decide +kernel
theorem dX6_wantItem_27 : decode cX6_wantItem 27 = .ok (.aload_n 0, 1) := by decide +kernel
theorem dX6_wantItem_28 : decode cX6_wantItem 28 = .ok (.invokevirtual 342, 3) := by decide +kernel
theorem dX6_wantItem_31 : decode cX6_wantItem 31 = .ok (.goto 26, 3) := by decide +kernel
theorem dX6_wantItem_34 : decode cX6_wantItem 34 = .ok (.aload_n 0, 1) := by decide +kernel
theorem dX6_wantItem_35 : decode cX6_wantItem 35 = .ok (.invokevirtual 345, 3) := by decide +kernel
theorem dX6_wantItem_38 : decode cX6_wantItem 38 = .ok (.ifCond .lt 14, 3) := by decide +kernel
theorem dX6_wantItem_41 : decode cX6_wantItem 41 = .ok (.aload_n 0, 1) := by decide +kernel
theorem dX6_wantItem_42 : decode cX6_wantItem 42 = .ok (.aload_n 0, 1) := by decide +kernel
theorem dX6_wantItem_43 : decode cX6_wantItem 43 = .ok (.invokevirtual 345, 3) := by decide +kernel
theorem dX6_wantItem_46 : decode cX6_wantItem 46 = .ok (.invokevirtual 348, 3) := by decide +kernel
theorem dX6_wantItem_49 : decode cX6_wantItem 49 = .ok (.goto 8, 3) := by decide +kernel
theorem dX6_wantItem_52 : decode cX6_wantItem 52 = .ok (.aload_n 0, 1) := by decide +kernel
theorem dX6_wantItem_53 : decode cX6_wantItem 53 = .ok (.iconst 0, 1) := by decide +kernel
theorem dX6_wantItem_54 : decode cX6_wantItem 54 = .ok (.putfield 303, 3) := by decide +kernel
theorem dX6_wantItem_57 : decode cX6_wantItem 57 = .ok (.return_, 1) := by decide +kernel
theorem dX6_court_0 : decode cX6_court 0 = .ok (.aload_n 0, 1) := by decide +kernel
theorem dX6_court_1 : decode cX6_court 1 = .ok (.iconst 1, 1) := by decide +kernel
theorem dX6_court_2 : decode cX6_court 2 = .ok (.aload_n 0, 1) := by decide +kernel
theorem dX6_court_3 : decode cX6_court 3 = .ok (.getfield 72, 3) := by decide +kernel
theorem dX6_court_6 : decode cX6_court 6 = .ok (.invokevirtual 351, 3) := by decide +kernel
theorem dX6_court_9 : decode cX6_court 9 = .ok (.aload_n 0, 1) := by decide +kernel
theorem dX6_court_10 : decode cX6_court 10 = .ok (.iconst 0, 1) := by decide +kernel
theorem dX6_court_11 : decode cX6_court 11 = .ok (.putfield 256, 3) := by decide +kernel
theorem dX6_court_14 : decode cX6_court 14 = .ok (.aload_n 0, 1) := by decide +kernel
theorem dX6_court_15 : decode cX6_court 15 = .ok (.iconst 1, 1) := by decide +kernel
theorem dX6_court_16 : decode cX6_court 16 = .ok (.putfield 303, 3) := by decide +kernel
theorem dX6_court_19 : decode cX6_court 19 = .ok (.iconst 0, 1) := by decide +kernel
theorem dX6_court_20 : decode cX6_court 20 = .ok (.istore_n 1, 1) := by decide +kernel
theorem dX6_court_21 : decode cX6_court 21 = .ok (.iconst 1, 1) := by decide +kernel
theorem dX6_court_22 : decode cX6_court 22 = .ok (.istore_n 2, 1) := by decide +kernel
theorem dX6_court_23 : decode cX6_court 23 = .ok (.iload_n 2, 1) := by decide +kernel
theorem dX6_court_24 : decode cX6_court 24 = .ok (.ifCond .eq 47, 3) := by decide +kernel
theorem dX6_court_27 : decode cX6_court 27 = .ok (.aload_n 0, 1) := by decide +kernel
theorem dX6_court_28 : decode cX6_court 28 = .ok (.invokevirtual 307, 3) := by decide +kernel
theorem dX6_court_31 : decode cX6_court 31 = .ok (.aload_n 0, 1) := by decide +kernel
theorem dX6_court_32 : decode cX6_court 32 = .ok (.invokevirtual 355, 3) := by decide +kernel
theorem dX6_court_35 : decode cX6_court 35 = .ok (.iinc 1 1, 3) := by decide +kernel
theorem dX6_court_38 : decode cX6_court 38 = .ok (.aload_n 0, 1) := by decide +kernel
theorem dX6_court_39 : decode cX6_court 39 = .ok (.getfield 303, 3) := by decide +kernel
theorem dX6_court_42 : decode cX6_court 42 = .ok (.ifCond .eq 24, 3) := by decide +kernel
theorem dX6_court_45 : decode cX6_court 45 = .ok (.aload_n 0, 1) := by decide +kernel
theorem dX6_court_46 : decode cX6_court 46 = .ok (.getfield 271, 3) := by decide +kernel
theorem dX6_court_49 : decode cX6_court 49 = .ok (.iconst 3, 1) := by decide +kernel
theorem dX6_court_50 : decode cX6_court 50 = .ok (.if_icmp .ne 16, 3) := by decide +kernel
theorem dX6_court_53 : decode cX6_court 53 = .ok (.aload_n 0, 1) := by decide +kernel
theorem dX6_court_54 : decode cX6_court 54 = .ok (.getfield 278, 3) := by decide +kernel
theorem dX6_court_57 : decode cX6_court 57 = .ok (.bipush 59, 2) := by decide +kernel
theorem dX6_court_59 : decode cX6_court 59 = .ok (.if_icmp .ne 7, 3) := by decide +kernel
theorem dX6_court_62 : decode cX6_court 62 = .ok (.iconst 1, 1) := by decide +kernel
theorem dX6_court_63 : decode cX6_court 63 = .ok (.goto 4, 3) := by decide +kernel
theorem dX6_court_66 : decode cX6_court 66 = .ok (.iconst 0, 1) := by decide +kernel
theorem dX6_court_67 : decode cX6_court 67 = .ok (.istore_n 2, 1) := by decide +kernel
theorem dX6_court_68 : decode cX6_court 68 = .ok (.goto (-45), 3) := by decide +kernel
theorem dX6_court_71 : decode cX6_court 71 = .ok (.aload_n 0, 1) := by decide +kernel
theorem dX6_court_72 : decode cX6_court 72 = .ok (.aload_n 0, 1) := by decide +kernel
theorem dX6_court_73 : decode cX6_court 73 = .ok (.getfield 303, 3) := by decide +kernel
theorem dX6_court_76 : decode cX6_court 76 = .ok (.ifCond .eq 14, 3) := by decide +kernel
theorem dX6_court_79 : decode cX6_court 79 = .ok (.aload_n 0, 1) := by decide +kernel
theorem dX6_court_80 : decode cX6_court 80 = .ok (.getfield 271, 3) := by decide +kernel
theorem dX6_court_83 : decode cX6_court 83 = .ok (.ifCond .ne 7, 3) := by decide +kernel
theorem dX6_court_86 : decode cX6_court 86 = .ok (.iconst 1, 1) := by decide +kernel
theorem dX6_court_87 : decode cX6_court 87 = .ok (.goto 4, 3) := by decide +kernel
theorem dX6_court_90 : decode cX6_court 90 = .ok (.iconst 0, 1) := by decide +kernel
theorem dX6_court_91 : decode cX6_court 91 = .ok (.putfield 303, 3) := by decide +kernel
theorem dX6_court_94 : decode cX6_court 94 = .ok (.aload_n 0, 1) := by decide +kernel
theorem dX6_court_95 : decode cX6_court 95 = .ok (.iconst 0, 1) := by decide +kernel
theorem dX6_court_96 : decode cX6_court 96 = .ok (.putfield 253, 3) := by decide +kernel
theorem dX6_court_99 : decode cX6_court 99 = .ok (.aload_n 0, 1) := by decide +kernel
theorem dX6_court_100 : decode cX6_court 100 = .ok (.getfield 303, 3) := by decide +kernel
theorem dX6_court_103 : decode cX6_court 103 = .ok (.ifCond .ne 19, 3) := by decide +kernel
theorem dX6_court_106 : decode cX6_court 106 = .ok (.aload_n 0, 1) := by decide +kernel
theorem dX6_court_107 : decode cX6_court 107 = .ok (.iconst 0, 1) := by decide +kernel
theorem dX6_court_108 : decode cX6_court 108 = .ok (.aload_n 0, 1) := by decide +kernel
theorem dX6_court_109 : decode cX6_court 109 = .ok (.getfield 72, 3) := by decide +kernel
theorem dX6_court_112 : decode cX6_court 112 = .ok (.invokevirtual 351, 3) := by decide +kernel
theorem dX6_court_115 : decode cX6_court 115 = .ok (.iconst (-1), 1) := by decide +kernel
theorem dX6_court_116 : decode cX6_court 116 = .ok (.aload_n 0, 1) := by decide +kernel
theorem dX6_court_117 : decode cX6_court 117 = .ok (.getfield 259, 3) := by decide +kernel
theorem dX6_court_120 : decode cX6_court 120 = .ok (.isub, 1) := by decide +kernel
theorem dX6_court_121 : decode cX6_court 121 = .ok (.ireturn, 1) := by decide +kernel
theorem dX6_court_122 : decode cX6_court 122 = .ok (.iload_n 1, 1) := by decide +kernel
theorem dX6_court_123 : decode cX6_court 123 = .ok (.ireturn, 1) := by decide +kernel
theorem dX6_isSheet_0 : decode cX6_isSheet 0 = .ok (.iload_n 0, 1) := by decide +kernel
theorem dX6_isSheet_1 : decode cX6_isSheet 1 = .ok (.iconst 0, 1) := by decide +kernel
theorem dX6_isSheet_2 : decode cX6_isSheet 2 = .ok (.iconst 3, 1) := by decide +kernel
theorem dX6_isSheet_3 : decode cX6_isSheet 3 = .ok (.invokestatic 79, 3) := by decide +kernel
theorem dX6_isSheet_6 : decode cX6_isSheet 6 = .ok (.ireturn, 1) := by decide +kernel
theorem dX6_narrow_0 : decode cX6_narrow 0 = .ok (.iload_n 0, 1) := by decide +kernel
theorem dX6_narrow_1 : decode cX6_narrow 1 = .ok (.bipush 8, 2) := by decide +kernel
theorem dX6_narrow_3 : decode cX6_narrow 3 = .ok (.if_icmp .ne 13, 3) := by decide +kernel
theorem dX6_narrow_6 : decode cX6_narrow 6 = .ok (.lload_n 1, 1) := by decide +kernel
theorem dX6_narrow_7 : decode cX6_narrow 7 = .ok (.bipush 56, 2) := by decide +kernel
theorem dX6_narrow_9 : decode cX6_narrow 9 = .ok (.lshl, 1) := by decide +kernel
theorem dX6_narrow_10 : decode cX6_narrow 10 = .ok (.bipush 56, 2) := by decide +kernel
theorem dX6_narrow_12 : decode cX6_narrow 12 = .ok (.lshr, 1) := by decide +kernel
theorem dX6_narrow_13 : decode cX6_narrow 13 = .ok (.goto 20, 3) := by decide +kernel
theorem dX6_narrow_16 : decode cX6_narrow 16 = .ok (.iload_n 0, 1) := by decide +kernel
theorem dX6_narrow_17 : decode cX6_narrow 17 = .ok (.bipush 16, 2) := by decide +kernel
theorem dX6_narrow_19 : decode cX6_narrow 19 = .ok (.if_icmp .ne 13, 3) := by decide +kernel
theorem dX6_narrow_22 : decode cX6_narrow 22 = .ok (.lload_n 1, 1) := by decide +kernel
theorem dX6_narrow_23 : decode cX6_narrow 23 = .ok (.bipush 48, 2) := by decide +kernel
theorem dX6_narrow_25 : decode cX6_narrow 25 = .ok (.lshl, 1) := by decide +kernel
theorem dX6_narrow_26 : decode cX6_narrow 26 = .ok (.bipush 48, 2) := by decide +kernel
theorem dX6_narrow_28 : decode cX6_narrow 28 = .ok (.lshr, 1) := by decide +kernel
theorem dX6_narrow_29 : decode cX6_narrow 29 = .ok (.goto 4, 3) := by decide +kernel
theorem dX6_narrow_32 : decode cX6_narrow 32 = .ok (.lload_n 1, 1) := by decide +kernel
theorem dX6_narrow_33 : decode cX6_narrow 33 = .ok (.lreturn, 1) := by decide +kernel
theorem dX6_sheet_0 : decode cX6_sheet 0 = .ok (.iload_n 1, 1) := by decide +kernel
theorem dX6_sheet_1 : decode cX6_sheet 1 = .ok (.invokestatic 240, 3) := by decide +kernel
theorem dX6_sheet_4 : decode cX6_sheet 4 = .ok (.ifCond .eq 25, 3) := by decide +kernel
theorem dX6_sheet_7 : decode cX6_sheet 7 = .ok (.iload_n 2, 1) := by decide +kernel
theorem dX6_sheet_8 : decode cX6_sheet 8 = .ok (.ifCond .eq 28, 3) := by decide +kernel
theorem dX6_sheet_11 : decode cX6_sheet 11 = .ok (.iload_n 2, 1) := by decide +kernel
theorem dX6_sheet_12 : decode cX6_sheet 12 = .ok (.bipush 8, 2) := by decide +kernel
theorem dX6_sheet_14 : decode cX6_sheet 14 = .ok (.if_icmp .eq 22, 3) := by decide +kernel
theorem dX6_sheet_17 : decode cX6_sheet 17 = .ok (.iload_n 2, 1) := by decide +kernel
theorem dX6_sheet_18 : decode cX6_sheet 18 = .ok (.bipush 16, 2) := by decide +kernel
theorem dX6_sheet_20 : decode cX6_sheet 20 = .ok (.if_icmp .eq 16, 3) := by decide +kernel
theorem dX6_sheet_23 : decode cX6_sheet 23 = .ok (.iload_n 2, 1) := by decide +kernel
theorem dX6_sheet_24 : decode cX6_sheet 24 = .ok (.bipush 64, 2) := by decide +kernel
theorem dX6_sheet_26 : decode cX6_sheet 26 = .ok (.if_icmp .eq 10, 3) := by decide +kernel
theorem dX6_sheet_29 : decode cX6_sheet 29 = .ok (.aload_n 0, 1) := by decide +kernel
theorem dX6_sheet_30 : decode cX6_sheet 30 = .ok (.ldc 78, 2) := by decide +kernel
theorem dX6_sheet_32 : decode cX6_sheet 32 = .ok (.invokevirtual 125, 3) := by decide +kernel
theorem dX6_sheet_35 : decode cX6_sheet 35 = .ok (.ireturn, 1) := by decide +kernel
theorem dX6_sheet_36 : decode cX6_sheet 36 = .ok (.iload_n 3, 1) := by decide +kernel
theorem dX6_sheet_37 : decode cX6_sheet 37 = .ok (.ifCond .ge 10, 3) := by decide +kernel
theorem dX6_sheet_40 : decode cX6_sheet 40 = .ok (.aload_n 0, 1) := by decide +kernel
theorem dX6_sheet_41 : decode cX6_sheet 41 = .ok (.ldc 246, 2) := by decide +kernel
theorem dX6_sheet_43 : decode cX6_sheet 43 = .ok (.invokevirtual 125, 3) := by decide +kernel
theorem dX6_sheet_46 : decode cX6_sheet 46 = .ok (.ireturn, 1) := by decide +kernel
theorem dX6_sheet_47 : decode cX6_sheet 47 = .ok (.iload_n 3, 1) := by decide +kernel
theorem dX6_sheet_48 : decode cX6_sheet 48 = .ok (.bipush 40, 2) := by decide +kernel
theorem dX6_sheet_50 : decode cX6_sheet 50 = .ok (.if_icmp .le 10, 3) := by decide +kernel
theorem dX6_sheet_53 : decode cX6_sheet 53 = .ok (.aload_n 0, 1) := by decide +kernel
theorem dX6_sheet_54 : decode cX6_sheet 54 = .ok (.ldc 78, 2) := by decide +kernel
theorem dX6_sheet_56 : decode cX6_sheet 56 = .ok (.invokevirtual 125, 3) := by decide +kernel
theorem dX6_sheet_59 : decode cX6_sheet 59 = .ok (.ireturn, 1) := by decide +kernel
theorem dX6_sheet_60 : decode cX6_sheet 60 = .ok (.aload_n 0, 1) := by decide +kernel
theorem dX6_sheet_61 : decode cX6_sheet 61 = .ok (.getfield 56, 3) := by decide +kernel
theorem dX6_sheet_64 : decode cX6_sheet 64 = .ok (.iload_n 1, 1) := by decide +kernel
theorem dX6_sheet_65 : decode cX6_sheet 65 = .ok (.iload_n 2, 1) := by decide +kernel
theorem dX6_sheet_66 : decode cX6_sheet 66 = .ok (.iastore, 1) := by decide +kernel
theorem dX6_sheet_67 : decode cX6_sheet 67 = .ok (.aload_n 0, 1) := by decide +kernel
theorem dX6_sheet_68 : decode cX6_sheet 68 = .ok (.getfield 59, 3) := by decide +kernel
theorem dX6_sheet_71 : decode cX6_sheet 71 = .ok (.iload_n 1, 1) := by decide +kernel
theorem dX6_sheet_72 : decode cX6_sheet 72 = .ok (.iload_n 2, 1) := by decide +kernel
theorem dX6_sheet_73 : decode cX6_sheet 73 = .ok (.ifCond .ne 7, 3) := by decide +kernel
theorem dX6_sheet_76 : decode cX6_sheet 76 = .ok (.iconst 0, 1) := by decide +kernel
theorem dX6_sheet_77 : decode cX6_sheet 77 = .ok (.goto 4, 3) := by decide +kernel
theorem dX6_sheet_80 : decode cX6_sheet 80 = .ok (.iload_n 3, 1) := by decide +kernel
theorem dX6_sheet_81 : decode cX6_sheet 81 = .ok (.iastore, 1) := by decide +kernel
theorem dX6_sheet_82 : decode cX6_sheet 82 = .ok (.iconst 0, 1) := by decide +kernel
theorem dX6_sheet_83 : decode cX6_sheet 83 = .ok (.istore 4, 2) := by decide +kernel
theorem dX6_sheet_85 : decode cX6_sheet 85 = .ok (.iload 4, 2) := by decide +kernel
theorem dX6_sheet_87 : decode cX6_sheet 87 = .ok (.bipush 40, 2) := by decide +kernel
theorem dX6_sheet_89 : decode cX6_sheet 89 = .ok (.if_icmp .ge 22, 3) := by decide +kernel
theorem dX6_sheet_92 : decode cX6_sheet 92 = .ok (.aload_n 0, 1) := by decide +kernel
theorem dX6_sheet_93 : decode cX6_sheet 93 = .ok (.getfield 62, 3) := by decide +kernel
theorem dX6_sheet_96 : decode cX6_sheet 96 = .ok (.bipush 40, 2) := by decide +kernel
theorem dX6_sheet_98 : decode cX6_sheet 98 = .ok (.iload_n 1, 1) := by decide +kernel
theorem dX6_sheet_99 : decode cX6_sheet 99 = .ok (.imul, 1) := by decide +kernel
theorem dX6_sheet_100 : decode cX6_sheet 100 = .ok (.iload 4, 2) := by decide +kernel
theorem dX6_sheet_102 : decode cX6_sheet 102 = .ok (.iadd, 1) := by decide +kernel
theorem dX6_sheet_103 : decode cX6_sheet 103 = .ok (.lconst 0, 1) := by decide +kernel
theorem dX6_sheet_104 : decode cX6_sheet 104 = .ok (.lastore, 1) := by decide +kernel
theorem dX6_sheet_105 : decode cX6_sheet 105 = .ok (.iinc 4 1, 3) := by decide +kernel
theorem dX6_sheet_108 : decode cX6_sheet 108 = .ok (.goto (-23), 3) := by decide +kernel
theorem dX6_sheet_111 : decode cX6_sheet 111 = .ok (.aload_n 0, 1) := by decide +kernel
theorem dX6_sheet_112 : decode cX6_sheet 112 = .ok (.getfield 59, 3) := by decide +kernel
theorem dX6_sheet_115 : decode cX6_sheet 115 = .ok (.iload_n 1, 1) := by decide +kernel
theorem dX6_sheet_116 : decode cX6_sheet 116 = .ok (.iaload, 1) := by decide +kernel
theorem dX6_sheet_117 : decode cX6_sheet 117 = .ok (.ireturn, 1) := by decide +kernel
theorem dX6_write_0 : decode cX6_write 0 = .ok (.iload_n 1, 1) := by decide +kernel
theorem dX6_write_1 : decode cX6_write 1 = .ok (.invokestatic 240, 3) := by decide +kernel
theorem dX6_write_4 : decode cX6_write 4 = .ok (.ifCond .ne 11, 3) := by decide +kernel
theorem dX6_write_7 : decode cX6_write 7 = .ok (.aload_n 0, 1) := by decide +kernel
theorem dX6_write_8 : decode cX6_write 8 = .ok (.ldc 78, 2) := by decide +kernel
theorem dX6_write_10 : decode cX6_write 10 = .ok (.invokevirtual 125, 3) := by decide +kernel
theorem dX6_write_13 : decode cX6_write 13 = .ok (.i2l, 1) := by decide +kernel
theorem dX6_write_14 : decode cX6_write 14 = .ok (.lreturn, 1) := by decide +kernel
theorem dX6_write_15 : decode cX6_write 15 = .ok (.aload_n 0, 1) := by decide +kernel
theorem dX6_write_16 : decode cX6_write 16 = .ok (.getfield 56, 3) := by decide +kernel
theorem dX6_write_19 : decode cX6_write 19 = .ok (.iload_n 1, 1) := by decide +kernel
theorem dX6_write_20 : decode cX6_write 20 = .ok (.iaload, 1) := by decide +kernel
theorem dX6_write_21 : decode cX6_write 21 = .ok (.ifCond .ne 11, 3) := by decide +kernel
theorem dX6_write_24 : decode cX6_write 24 = .ok (.aload_n 0, 1) := by decide +kernel
theorem dX6_write_25 : decode cX6_write 25 = .ok (.ldc 243, 2) := by decide +kernel
theorem dX6_write_27 : decode cX6_write 27 = .ok (.invokevirtual 125, 3) := by decide +kernel
theorem dX6_write_30 : decode cX6_write 30 = .ok (.i2l, 1) := by decide +kernel
theorem dX6_write_31 : decode cX6_write 31 = .ok (.lreturn, 1) := by decide +kernel
theorem dX6_write_32 : decode cX6_write 32 = .ok (.iload_n 2, 1) := by decide +kernel
theorem dX6_write_33 : decode cX6_write 33 = .ok (.iconst 0, 1) := by decide +kernel
theorem dX6_write_34 : decode cX6_write 34 = .ok (.aload_n 0, 1) := by decide +kernel
theorem dX6_write_35 : decode cX6_write 35 = .ok (.getfield 59, 3) := by decide +kernel
theorem dX6_write_38 : decode cX6_write 38 = .ok (.iload_n 1, 1) := by decide +kernel
theorem dX6_write_39 : decode cX6_write 39 = .ok (.iaload, 1) := by decide +kernel
theorem dX6_write_40 : decode cX6_write 40 = .ok (.iconst 1, 1) := by decide +kernel
theorem dX6_write_41 : decode cX6_write 41 = .ok (.isub, 1) := by decide +kernel
theorem dX6_write_42 : decode cX6_write 42 = .ok (.invokestatic 79, 3) := by decide +kernel
theorem dX6_write_45 : decode cX6_write 45 = .ok (.ifCond .ne 11, 3) := by decide +kernel
theorem dX6_write_48 : decode cX6_write 48 = .ok (.aload_n 0, 1) := by decide +kernel
theorem dX6_write_49 : decode cX6_write 49 = .ok (.ldc 78, 2) := by decide +kernel
theorem dX6_write_51 : decode cX6_write 51 = .ok (.invokevirtual 125, 3) := by decide +kernel
theorem dX6_write_54 : decode cX6_write 54 = .ok (.i2l, 1) := by decide +kernel
theorem dX6_write_55 : decode cX6_write 55 = .ok (.lreturn, 1) := by decide +kernel
theorem dX6_write_56 : decode cX6_write 56 = .ok (.aload_n 0, 1) := by decide +kernel
theorem dX6_write_57 : decode cX6_write 57 = .ok (.getfield 62, 3) := by decide +kernel
theorem dX6_write_60 : decode cX6_write 60 = .ok (.bipush 40, 2) := by decide +kernel
theorem dX6_write_62 : decode cX6_write 62 = .ok (.iload_n 1, 1) := by decide +kernel
theorem dX6_write_63 : decode cX6_write 63 = .ok (.imul, 1) := by decide +kernel
theorem dX6_write_64 : decode cX6_write 64 = .ok (.iload_n 2, 1) := by decide +kernel
theorem dX6_write_65 : decode cX6_write 65 = .ok (.iadd, 1) := by decide +kernel
theorem dX6_write_66 : decode cX6_write 66 = .ok (.laload, 1) := by decide +kernel
theorem dX6_write_67 : decode cX6_write 67 = .ok (.lstore 5, 2) := by decide +kernel
theorem dX6_write_69 : decode cX6_write 69 = .ok (.aload_n 0, 1) := by decide +kernel
theorem dX6_write_70 : decode cX6_write 70 = .ok (.getfield 62, 3) := by decide +kernel
theorem dX6_write_73 : decode cX6_write 73 = .ok (.bipush 40, 2) := by decide +kernel
theorem dX6_write_75 : decode cX6_write 75 = .ok (.iload_n 1, 1) := by decide +kernel
theorem dX6_write_76 : decode cX6_write 76 = .ok (.imul, 1) := by decide +kernel
theorem dX6_write_77 : decode cX6_write 77 = .ok (.iload_n 2, 1) := by decide +kernel
theorem dX6_write_78 : decode cX6_write 78 = .ok (.iadd, 1) := by decide +kernel
theorem dX6_write_79 : decode cX6_write 79 = .ok (.aload_n 0, 1) := by decide +kernel
theorem dX6_write_80 : decode cX6_write 80 = .ok (.getfield 56, 3) := by decide +kernel
theorem dX6_write_83 : decode cX6_write 83 = .ok (.iload_n 1, 1) := by decide +kernel
theorem dX6_write_84 : decode cX6_write 84 = .ok (.iaload, 1) := by decide +kernel
theorem dX6_write_85 : decode cX6_write 85 = .ok (.lload_n 3, 1) := by decide +kernel
theorem dX6_write_86 : decode cX6_write 86 = .ok (.invokestatic 358, 3) := by decide +kernel
theorem dX6_write_89 : decode cX6_write 89 = .ok (.lastore, 1) := by decide +kernel
theorem dX6_write_90 : decode cX6_write 90 = .ok (.lload 5, 2) := by decide +kernel
theorem dX6_write_92 : decode cX6_write 92 = .ok (.lreturn, 1) := by decide +kernel
theorem dX6_isPart_0 : decode cX6_isPart 0 = .ok (.iload_n 2, 1) := by decide +kernel
theorem dX6_isPart_1 : decode cX6_isPart 1 = .ok (.ifCond .lt 33, 3) := by decide +kernel
theorem dX6_isPart_4 : decode cX6_isPart 4 = .ok (.iload_n 3, 1) := by decide +kernel
theorem dX6_isPart_5 : decode cX6_isPart 5 = .ok (.ifCond .lt 29, 3) := by decide +kernel
theorem dX6_isPart_8 : decode cX6_isPart 8 = .ok (.iload_n 3, 1) := by decide +kernel
theorem dX6_isPart_9 : decode cX6_isPart 9 = .ok (.aload_n 0, 1) := by decide +kernel
theorem dX6_isPart_10 : decode cX6_isPart 10 = .ok (.getfield 59, 3) := by decide +kernel
theorem dX6_isPart_13 : decode cX6_isPart 13 = .ok (.iload_n 1, 1) := by decide +kernel
theorem dX6_isPart_14 : decode cX6_isPart 14 = .ok (.iaload, 1) := by decide +kernel
theorem dX6_isPart_15 : decode cX6_isPart 15 = .ok (.if_icmp .gt 19, 3) := by decide +kernel
theorem dX6_isPart_18 : decode cX6_isPart 18 = .ok (.iload_n 2, 1) := by decide +kernel
theorem dX6_isPart_19 : decode cX6_isPart 19 = .ok (.aload_n 0, 1) := by decide +kernel
theorem dX6_isPart_20 : decode cX6_isPart 20 = .ok (.getfield 59, 3) := by decide +kernel
theorem dX6_isPart_23 : decode cX6_isPart 23 = .ok (.iload_n 1, 1) := by decide +kernel
theorem dX6_isPart_24 : decode cX6_isPart 24 = .ok (.iaload, 1) := by decide +kernel
theorem dX6_isPart_25 : decode cX6_isPart 25 = .ok (.iload_n 3, 1) := by decide +kernel
theorem dX6_isPart_26 : decode cX6_isPart 26 = .ok (.isub, 1) := by decide +kernel
theorem dX6_isPart_27 : decode cX6_isPart 27 = .ok (.if_icmp .gt 7, 3) := by decide +kernel
theorem dX6_isPart_30 : decode cX6_isPart 30 = .ok (.iconst 1, 1) := by decide +kernel
theorem dX6_isPart_31 : decode cX6_isPart 31 = .ok (.goto 4, 3) := by decide +kernel
theorem dX6_isPart_34 : decode cX6_isPart 34 = .ok (.iconst 0, 1) := by decide +kernel
theorem dX6_isPart_35 : decode cX6_isPart 35 = .ok (.ireturn, 1) := by decide +kernel
theorem dX6_copy_0 : decode cX6_copy 0 = .ok (.iload_n 1, 1) := by decide +kernel
theorem dX6_copy_1 : decode cX6_copy 1 = .ok (.invokestatic 240, 3) := by decide +kernel
theorem dX6_copy_4 : decode cX6_copy 4 = .ok (.ifCond .eq 10, 3) := by decide +kernel
theorem dX6_copy_7 : decode cX6_copy 7 = .ok (.iload_n 3, 1) := by decide +kernel
theorem dX6_copy_8 : decode cX6_copy 8 = .ok (.invokestatic 240, 3) := by decide +kernel
theorem dX6_copy_11 : decode cX6_copy 11 = .ok (.ifCond .ne 10, 3) := by decide +kernel
theorem dX6_copy_14 : decode cX6_copy 14 = .ok (.aload_n 0, 1) := by decide +kernel
theorem dX6_copy_15 : decode cX6_copy 15 = .ok (.ldc 78, 2) := by decide +kernel
theorem dX6_copy_17 : decode cX6_copy 17 = .ok (.invokevirtual 125, 3) := by decide +kernel
theorem dX6_copy_20 : decode cX6_copy 20 = .ok (.ireturn, 1) := by decide +kernel
theorem dX6_copy_21 : decode cX6_copy 21 = .ok (.aload_n 0, 1) := by decide +kernel
theorem dX6_copy_22 : decode cX6_copy 22 = .ok (.getfield 56, 3) := by decide +kernel
theorem dX6_copy_25 : decode cX6_copy 25 = .ok (.iload_n 1, 1) := by decide +kernel
theorem dX6_copy_26 : decode cX6_copy 26 = .ok (.iaload, 1) := by decide +kernel
theorem dX6_copy_27 : decode cX6_copy 27 = .ok (.ifCond .eq 12, 3) := by decide +kernel
theorem dX6_copy_30 : decode cX6_copy 30 = .ok (.aload_n 0, 1) := by decide +kernel
theorem dX6_copy_31 : decode cX6_copy 31 = .ok (.getfield 56, 3) := by decide +kernel
theorem dX6_copy_34 : decode cX6_copy 34 = .ok (.iload_n 3, 1) := by decide +kernel
theorem dX6_copy_35 : decode cX6_copy 35 = .ok (.iaload, 1) := by decide +kernel
theorem dX6_copy_36 : decode cX6_copy 36 = .ok (.ifCond .ne 10, 3) := by decide +kernel
theorem dX6_copy_39 : decode cX6_copy 39 = .ok (.aload_n 0, 1) := by decide +kernel
theorem dX6_copy_40 : decode cX6_copy 40 = .ok (.ldc 243, 2) := by decide +kernel
theorem dX6_copy_42 : decode cX6_copy 42 = .ok (.invokevirtual 125, 3) := by decide +kernel
theorem dX6_copy_45 : decode cX6_copy 45 = .ok (.ireturn, 1) := by decide +kernel
theorem dX6_copy_46 : decode cX6_copy 46 = .ok (.aload_n 0, 1) := by decide +kernel
theorem dX6_copy_47 : decode cX6_copy 47 = .ok (.getfield 56, 3) := by decide +kernel
theorem dX6_copy_50 : decode cX6_copy 50 = .ok (.iload_n 1, 1) := by decide +kernel
theorem dX6_copy_51 : decode cX6_copy 51 = .ok (.iaload, 1) := by decide +kernel
theorem dX6_copy_52 : decode cX6_copy 52 = .ok (.aload_n 0, 1) := by decide +kernel
theorem dX6_copy_53 : decode cX6_copy 53 = .ok (.getfield 56, 3) := by decide +kernel
theorem dX6_copy_56 : decode cX6_copy 56 = .ok (.iload_n 3, 1) := by decide +kernel
theorem dX6_copy_57 : decode cX6_copy 57 = .ok (.iaload, 1) := by decide +kernel
theorem dX6_copy_58 : decode cX6_copy 58 = .ok (.if_icmp .eq 10, 3) := by decide +kernel
theorem dX6_copy_61 : decode cX6_copy 61 = .ok (.aload_n 0, 1) := by decide +kernel
theorem dX6_copy_62 : decode cX6_copy 62 = .ok (.ldc 144, 2) := by decide +kernel
theorem dX6_copy_64 : decode cX6_copy 64 = .ok (.invokevirtual 125, 3) := by decide +kernel
theorem dX6_copy_67 : decode cX6_copy 67 = .ok (.ireturn, 1) := by decide +kernel
theorem dX6_copy_68 : decode cX6_copy 68 = .ok (.aload_n 0, 1) := by decide +kernel
theorem dX6_copy_69 : decode cX6_copy 69 = .ok (.iload_n 1, 1) := by decide +kernel
theorem dX6_copy_70 : decode cX6_copy 70 = .ok (.iload_n 2, 1) := by decide +kernel
theorem dX6_copy_71 : decode cX6_copy 71 = .ok (.iload 5, 2) := by decide +kernel
theorem dX6_copy_73 : decode cX6_copy 73 = .ok (.invokevirtual 362, 3) := by decide +kernel
theorem dX6_copy_76 : decode cX6_copy 76 = .ok (.ifCond .eq 15, 3) := by decide +kernel
theorem dX6_copy_79 : decode cX6_copy 79 = .ok (.aload_n 0, 1) := by decide +kernel
theorem dX6_copy_80 : decode cX6_copy 80 = .ok (.iload_n 3, 1) := by decide +kernel
theorem dX6_copy_81 : decode cX6_copy 81 = .ok (.iload 4, 2) := by decide +kernel
theorem dX6_copy_83 : decode cX6_copy 83 = .ok (.iload 5, 2) := by decide +kernel
theorem dX6_copy_85 : decode cX6_copy 85 = .ok (.invokevirtual 362, 3) := by decide +kernel
theorem dX6_copy_88 : decode cX6_copy 88 = .ok (.ifCond .ne 10, 3) := by decide +kernel
theorem dX6_copy_91 : decode cX6_copy 91 = .ok (.aload_n 0, 1) := by decide +kernel
theorem dX6_copy_92 : decode cX6_copy 92 = .ok (.ldc 78, 2) := by decide +kernel
theorem dX6_copy_94 : decode cX6_copy 94 = .ok (.invokevirtual 125, 3) := by decide +kernel
theorem dX6_copy_97 : decode cX6_copy 97 = .ok (.ireturn, 1) := by decide +kernel
theorem dX6_copy_98 : decode cX6_copy 98 = .ok (.iconst 0, 1) := by decide +kernel
theorem dX6_copy_99 : decode cX6_copy 99 = .ok (.istore 6, 2) := by decide +kernel
theorem dX6_copy_101 : decode cX6_copy 101 = .ok (.iload 6, 2) := by decide +kernel
theorem dX6_copy_103 : decode cX6_copy 103 = .ok (.iload 5, 2) := by decide +kernel
theorem dX6_copy_105 : decode cX6_copy 105 = .ok (.if_icmp .ge 30, 3) := by decide +kernel
theorem dX6_copy_108 : decode cX6_copy 108 = .ok (.aload_n 0, 1) := by decide +kernel
theorem dX6_copy_109 : decode cX6_copy 109 = .ok (.getfield 66, 3) := by decide +kernel
theorem dX6_copy_112 : decode cX6_copy 112 = .ok (.iload 6, 2) := by decide +kernel
theorem dX6_copy_114 : decode cX6_copy 114 = .ok (.aload_n 0, 1) := by decide +kernel
theorem dX6_copy_115 : decode cX6_copy 115 = .ok (.getfield 62, 3) := by decide +kernel
theorem dX6_copy_118 : decode cX6_copy 118 = .ok (.bipush 40, 2) := by decide +kernel
theorem dX6_copy_120 : decode cX6_copy 120 = .ok (.iload_n 1, 1) := by decide +kernel
theorem dX6_copy_121 : decode cX6_copy 121 = .ok (.imul, 1) := by decide +kernel
theorem dX6_copy_122 : decode cX6_copy 122 = .ok (.iload_n 2, 1) := by decide +kernel
theorem dX6_copy_123 : decode cX6_copy 123 = .ok (.iadd, 1) := by decide +kernel
theorem dX6_copy_124 : decode cX6_copy 124 = .ok (.iload 6, 2) := by decide +kernel
theorem dX6_copy_126 : decode cX6_copy 126 = .ok (.iadd, 1) := by decide +kernel
theorem dX6_copy_127 : decode cX6_copy 127 = .ok (.laload, 1) := by decide +kernel
theorem dX6_copy_128 : decode cX6_copy 128 = .ok (.lastore, 1) := by decide +kernel
theorem dX6_copy_129 : decode cX6_copy 129 = .ok (.iinc 6 1, 3) := by decide +kernel
theorem dX6_copy_132 : decode cX6_copy 132 = .ok (.goto (-31), 3) := by decide +kernel
theorem dX6_copy_135 : decode cX6_copy 135 = .ok (.iconst 0, 1) := by decide +kernel
theorem dX6_copy_136 : decode cX6_copy 136 = .ok (.istore 6, 2) := by decide +kernel
theorem dX6_copy_138 : decode cX6_copy 138 = .ok (.iload 6, 2) := by decide +kernel
theorem dX6_copy_140 : decode cX6_copy 140 = .ok (.iload 5, 2) := by decide +kernel
theorem dX6_copy_142 : decode cX6_copy 142 = .ok (.if_icmp .ge 31, 3) := by decide +kernel
theorem dX6_copy_145 : decode cX6_copy 145 = .ok (.aload_n 0, 1) := by decide +kernel
theorem dX6_copy_146 : decode cX6_copy 146 = .ok (.getfield 62, 3) := by decide +kernel
theorem dX6_copy_149 : decode cX6_copy 149 = .ok (.bipush 40, 2) := by decide +kernel
theorem dX6_copy_151 : decode cX6_copy 151 = .ok (.iload_n 3, 1) := by decide +kernel
theorem dX6_copy_152 : decode cX6_copy 152 = .ok (.imul, 1) := by decide +kernel
theorem dX6_copy_153 : decode cX6_copy 153 = .ok (.iload 4, 2) := by decide +kernel
theorem dX6_copy_155 : decode cX6_copy 155 = .ok (.iadd, 1) := by decide +kernel
theorem dX6_copy_156 : decode cX6_copy 156 = .ok (.iload 6, 2) := by decide +kernel
theorem dX6_copy_158 : decode cX6_copy 158 = .ok (.iadd, 1) := by decide +kernel
theorem dX6_copy_159 : decode cX6_copy 159 = .ok (.aload_n 0, 1) := by decide +kernel
theorem dX6_copy_160 : decode cX6_copy 160 = .ok (.getfield 66, 3) := by decide +kernel
theorem dX6_copy_163 : decode cX6_copy 163 = .ok (.iload 6, 2) := by decide +kernel
theorem dX6_copy_165 : decode cX6_copy 165 = .ok (.laload, 1) := by decide +kernel
theorem dX6_copy_166 : decode cX6_copy 166 = .ok (.lastore, 1) := by decide +kernel
theorem dX6_copy_167 : decode cX6_copy 167 = .ok (.iinc 6 1, 3) := by decide +kernel
theorem dX6_copy_170 : decode cX6_copy 170 = .ok (.goto (-32), 3) := by decide +kernel
theorem dX6_copy_173 : decode cX6_copy 173 = .ok (.iload 5, 2) := by decide +kernel
theorem dX6_copy_175 : decode cX6_copy 175 = .ok (.ireturn, 1) := by decide +kernel
theorem dX6_lays_0 : decode cX6_lays 0 = .ok (.iload_n 1, 1) := by decide +kernel
theorem dX6_lays_1 : decode cX6_lays 1 = .ok (.invokestatic 240, 3) := by decide +kernel
theorem dX6_lays_4 : decode cX6_lays 4 = .ok (.ifCond .ne 10, 3) := by decide +kernel
theorem dX6_lays_7 : decode cX6_lays 7 = .ok (.aload_n 0, 1) := by decide +kernel
theorem dX6_lays_8 : decode cX6_lays 8 = .ok (.ldc 78, 2) := by decide +kernel
theorem dX6_lays_10 : decode cX6_lays 10 = .ok (.invokevirtual 125, 3) := by decide +kernel
theorem dX6_lays_13 : decode cX6_lays 13 = .ok (.ireturn, 1) := by decide +kernel
theorem dX6_lays_14 : decode cX6_lays 14 = .ok (.aload_n 0, 1) := by decide +kernel
theorem dX6_lays_15 : decode cX6_lays 15 = .ok (.getfield 56, 3) := by decide +kernel
theorem dX6_lays_18 : decode cX6_lays 18 = .ok (.iload_n 1, 1) := by decide +kernel
theorem dX6_lays_19 : decode cX6_lays 19 = .ok (.iaload, 1) := by decide +kernel
theorem dX6_lays_20 : decode cX6_lays 20 = .ok (.ifCond .ne 10, 3) := by decide +kernel
theorem dX6_lays_23 : decode cX6_lays 23 = .ok (.aload_n 0, 1) := by decide +kernel
theorem dX6_lays_24 : decode cX6_lays 24 = .ok (.ldc 243, 2) := by decide +kernel
theorem dX6_lays_26 : decode cX6_lays 26 = .ok (.invokevirtual 125, 3) := by decide +kernel
theorem dX6_lays_29 : decode cX6_lays 29 = .ok (.ireturn, 1) := by decide +kernel
theorem dX6_lays_30 : decode cX6_lays 30 = .ok (.iconst 0, 1) := by decide +kernel
theorem dX6_lays_31 : decode cX6_lays 31 = .ok (.istore_n 2, 1) := by decide +kernel
theorem dX6_lays_32 : decode cX6_lays 32 = .ok (.iconst 0, 1) := by decide +kernel
theorem dX6_lays_33 : decode cX6_lays 33 = .ok (.istore_n 3, 1) := by decide +kernel
theorem dX6_lays_34 : decode cX6_lays 34 = .ok (.iload_n 3, 1) := by decide +kernel
theorem dX6_lays_35 : decode cX6_lays 35 = .ok (.aload_n 0, 1) := by decide +kernel
theorem dX6_lays_36 : decode cX6_lays 36 = .ok (.getfield 83, 3) := by decide +kernel
theorem dX6_lays_39 : decode cX6_lays 39 = .ok (.if_icmp .ge 70, 3) := by decide +kernel
theorem dX6_lays_42 : decode cX6_lays 42 = .ok (.iload_n 3, 1) := by decide +kernel
theorem dX6_lays_43 : decode cX6_lays 43 = .ok (.aload_n 0, 1) := by decide +kernel
theorem dX6_lays_44 : decode cX6_lays 44 = .ok (.getfield 59, 3) := by decide +kernel
theorem dX6_lays_47 : decode cX6_lays 47 = .ok (.iload_n 1, 1) := by decide +kernel
theorem dX6_lays_48 : decode cX6_lays 48 = .ok (.iaload, 1) := by decide +kernel
theorem dX6_lays_49 : decode cX6_lays 49 = .ok (.if_icmp .ge 60, 3) := by decide +kernel
theorem dX6_lays_52 : decode cX6_lays 52 = .ok (.aload_n 0, 1) := by decide +kernel
theorem dX6_lays_53 : decode cX6_lays 53 = .ok (.getfield 62, 3) := by decide +kernel
theorem dX6_lays_56 : decode cX6_lays 56 = .ok (.bipush 40, 2) := by decide +kernel
theorem dX6_lays_58 : decode cX6_lays 58 = .ok (.iload_n 1, 1) := by decide +kernel
theorem dX6_lays_59 : decode cX6_lays 59 = .ok (.imul, 1) := by decide +kernel
theorem dX6_lays_60 : decode cX6_lays 60 = .ok (.iload_n 3, 1) := by decide +kernel
theorem dX6_lays_61 : decode cX6_lays 61 = .ok (.iadd, 1) := by decide +kernel
theorem dX6_lays_62 : decode cX6_lays 62 = .ok (.laload, 1) := by decide +kernel
theorem dX6_lays_63 : decode cX6_lays 63 = .ok (.lstore 4, 2) := by decide +kernel
theorem dX6_lays_65 : decode cX6_lays 65 = .ok (.lload 4, 2) := by decide +kernel
theorem dX6_lays_67 : decode cX6_lays 67 = .ok (.lconst 0, 1) := by decide +kernel
theorem dX6_lays_68 : decode cX6_lays 68 = .ok (.lcmp, 1) := by decide +kernel
theorem dX6_lays_69 : decode cX6_lays 69 = .ok (.ifCond .lt 34, 3) := by decide +kernel
theorem dX6_lays_72 : decode cX6_lays 72 = .ok (.lload 4, 2) := by decide +kernel
theorem dX6_lays_74 : decode cX6_lays 74 = .ok (.ldc2_w 244, 3) := by decide +kernel
theorem dX6_lays_77 : decode cX6_lays 77 = .ok (.lcmp, 1) := by decide +kernel
theorem dX6_lays_78 : decode cX6_lays 78 = .ok (.ifCond .gt 25, 3) := by decide +kernel
theorem dX6_lays_81 : decode cX6_lays 81 = .ok (.aload_n 0, 1) := by decide +kernel
theorem dX6_lays_82 : decode cX6_lays 82 = .ok (.iload_n 3, 1) := by decide +kernel
theorem dX6_lays_83 : decode cX6_lays 83 = .ok (.invokevirtual 97, 3) := by decide +kernel
theorem dX6_lays_86 : decode cX6_lays 86 = .ok (.ifCond .eq 17, 3) := by decide +kernel
theorem dX6_lays_89 : decode cX6_lays 89 = .ok (.aload_n 0, 1) := by decide +kernel
theorem dX6_lays_90 : decode cX6_lays 90 = .ok (.getfield 34, 3) := by decide +kernel
theorem dX6_lays_93 : decode cX6_lays 93 = .ok (.iconst 1, 1) := by decide +kernel
theorem dX6_lays_94 : decode cX6_lays 94 = .ok (.iload_n 3, 1) := by decide +kernel
theorem dX6_lays_95 : decode cX6_lays 95 = .ok (.iadd, 1) := by decide +kernel
theorem dX6_lays_96 : decode cX6_lays 96 = .ok (.lload 4, 2) := by decide +kernel
theorem dX6_lays_98 : decode cX6_lays 98 = .ok (.l2i, 1) := by decide +kernel
theorem dX6_lays_99 : decode cX6_lays 99 = .ok (.iastore, 1) := by decide +kernel
theorem dX6_lays_100 : decode cX6_lays 100 = .ok (.iinc 2 1, 3) := by decide +kernel
theorem dX6_lays_103 : decode cX6_lays 103 = .ok (.iinc 3 1, 3) := by decide +kernel
theorem dX6_lays_106 : decode cX6_lays 106 = .ok (.goto (-72), 3) := by decide +kernel
theorem dX6_lays_109 : decode cX6_lays 109 = .ok (.iload_n 2, 1) := by decide +kernel
theorem dX6_lays_110 : decode cX6_lays 110 = .ok (.ireturn, 1) := by decide +kernel
theorem dX6_rolled_0 : decode cX6_rolled 0 = .ok (.aload_n 0, 1) := by decide +kernel
theorem dX6_rolled_1 : decode cX6_rolled 1 = .ok (.iload_n 1, 1) := by decide +kernel
theorem dX6_rolled_2 : decode cX6_rolled 2 = .ok (.invokevirtual 97, 3) := by decide +kernel
theorem dX6_rolled_5 : decode cX6_rolled 5 = .ok (.ifCond .eq 11, 3) := by decide +kernel
theorem dX6_rolled_8 : decode cX6_rolled 8 = .ok (.aload_n 0, 1) := by decide +kernel
theorem dX6_rolled_9 : decode cX6_rolled 9 = .ok (.iload_n 1, 1) := by decide +kernel
theorem dX6_rolled_10 : decode cX6_rolled 10 = .ok (.invokevirtual 93, 3) := by decide +kernel
theorem dX6_rolled_13 : decode cX6_rolled 13 = .ok (.goto 4, 3) := by decide +kernel
theorem dX6_rolled_16 : decode cX6_rolled 16 = .ok (.iconst (-1), 1) := by decide +kernel
theorem dX6_rolled_17 : decode cX6_rolled 17 = .ok (.ireturn, 1) := by decide +kernel
theorem dX6_roll_0 : decode cX6_roll 0 = .ok (.iload_n 1, 1) := by decide +kernel
theorem dX6_roll_1 : decode cX6_roll 1 = .ok (.invokestatic 240, 3) := by decide +kernel
theorem dX6_roll_4 : decode cX6_roll 4 = .ok (.ifCond .ne 10, 3) := by decide +kernel
theorem dX6_roll_7 : decode cX6_roll 7 = .ok (.aload_n 0, 1) := by decide +kernel
theorem dX6_roll_8 : decode cX6_roll 8 = .ok (.ldc 78, 2) := by decide +kernel
theorem dX6_roll_10 : decode cX6_roll 10 = .ok (.invokevirtual 125, 3) := by decide +kernel
theorem dX6_roll_13 : decode cX6_roll 13 = .ok (.ireturn, 1) := by decide +kernel
theorem dX6_roll_14 : decode cX6_roll 14 = .ok (.aload_n 0, 1) := by decide +kernel
theorem dX6_roll_15 : decode cX6_roll 15 = .ok (.getfield 56, 3) := by decide +kernel
theorem dX6_roll_18 : decode cX6_roll 18 = .ok (.iload_n 1, 1) := by decide +kernel
theorem dX6_roll_19 : decode cX6_roll 19 = .ok (.iaload, 1) := by decide +kernel
theorem dX6_roll_20 : decode cX6_roll 20 = .ok (.ifCond .ne 10, 3) := by decide +kernel
theorem dX6_roll_23 : decode cX6_roll 23 = .ok (.aload_n 0, 1) := by decide +kernel
theorem dX6_roll_24 : decode cX6_roll 24 = .ok (.ldc 243, 2) := by decide +kernel
theorem dX6_roll_26 : decode cX6_roll 26 = .ok (.invokevirtual 125, 3) := by decide +kernel
theorem dX6_roll_29 : decode cX6_roll 29 = .ok (.ireturn, 1) := by decide +kernel
theorem dX6_roll_30 : decode cX6_roll 30 = .ok (.iconst 0, 1) := by decide +kernel
theorem dX6_roll_31 : decode cX6_roll 31 = .ok (.istore_n 2, 1) := by decide +kernel
theorem dX6_roll_32 : decode cX6_roll 32 = .ok (.iload_n 2, 1) := by decide +kernel
theorem dX6_roll_33 : decode cX6_roll 33 = .ok (.aload_n 0, 1) := by decide +kernel
theorem dX6_roll_34 : decode cX6_roll 34 = .ok (.getfield 83, 3) := by decide +kernel
theorem dX6_roll_37 : decode cX6_roll 37 = .ok (.if_icmp .ge 36, 3) := by decide +kernel
theorem dX6_roll_40 : decode cX6_roll 40 = .ok (.iload_n 2, 1) := by decide +kernel
theorem dX6_roll_41 : decode cX6_roll 41 = .ok (.aload_n 0, 1) := by decide +kernel
theorem dX6_roll_42 : decode cX6_roll 42 = .ok (.getfield 59, 3) := by decide +kernel
theorem dX6_roll_45 : decode cX6_roll 45 = .ok (.iload_n 1, 1) := by decide +kernel
theorem dX6_roll_46 : decode cX6_roll 46 = .ok (.iaload, 1) := by decide +kernel
theorem dX6_roll_47 : decode cX6_roll 47 = .ok (.if_icmp .ge 26, 3) := by decide +kernel
theorem dX6_roll_50 : decode cX6_roll 50 = .ok (.aload_n 0, 1) := by decide +kernel
theorem dX6_roll_51 : decode cX6_roll 51 = .ok (.getfield 62, 3) := by decide +kernel
theorem dX6_roll_54 : decode cX6_roll 54 = .ok (.bipush 40, 2) := by decide +kernel
theorem dX6_roll_56 : decode cX6_roll 56 = .ok (.iload_n 1, 1) := by decide +kernel
theorem dX6_roll_57 : decode cX6_roll 57 = .ok (.imul, 1) := by decide +kernel
theorem dX6_roll_58 : decode cX6_roll 58 = .ok (.iload_n 2, 1) := by decide +kernel
theorem dX6_roll_59 : decode cX6_roll 59 = .ok (.iadd, 1) := by decide +kernel
theorem dX6_roll_60 : decode cX6_roll 60 = .ok (.aload_n 0, 1) := by decide +kernel
theorem dX6_roll_61 : decode cX6_roll 61 = .ok (.iload_n 2, 1) := by decide +kernel
theorem dX6_roll_62 : decode cX6_roll 62 = .ok (.invokevirtual 365, 3) := by decide +kernel
theorem dX6_roll_65 : decode cX6_roll 65 = .ok (.i2l, 1) := by decide +kernel
theorem dX6_roll_66 : decode cX6_roll 66 = .ok (.lastore, 1) := by decide +kernel
theorem dX6_roll_67 : decode cX6_roll 67 = .ok (.iinc 2 1, 3) := by decide +kernel
theorem dX6_roll_70 : decode cX6_roll 70 = .ok (.goto (-38), 3) := by decide +kernel
theorem dX6_roll_73 : decode cX6_roll 73 = .ok (.iload_n 2, 1) := by decide +kernel
theorem dX6_roll_74 : decode cX6_roll 74 = .ok (.ireturn, 1) := by decide +kernel
theorem dX6_read_0 : decode cX6_read 0 = .ok (.iload_n 1, 1) := by decide +kernel
theorem dX6_read_1 : decode cX6_read 1 = .ok (.invokestatic 240, 3) := by decide +kernel
theorem dX6_read_4 : decode cX6_read 4 = .ok (.ifCond .ne 10, 3) := by decide +kernel
theorem dX6_read_7 : decode cX6_read 7 = .ok (.aload_n 0, 1) := by decide +kernel
theorem dX6_read_8 : decode cX6_read 8 = .ok (.ldc 78, 2) := by decide +kernel
theorem dX6_read_10 : decode cX6_read 10 = .ok (.invokevirtual 125, 3) := by decide +kernel
theorem dX6_read_13 : decode cX6_read 13 = .ok (.ireturn, 1) := by decide +kernel
theorem dX6_read_14 : decode cX6_read 14 = .ok (.aload_n 0, 1) := by decide +kernel
theorem dX6_read_15 : decode cX6_read 15 = .ok (.getfield 56, 3) := by decide +kernel
theorem dX6_read_18 : decode cX6_read 18 = .ok (.iload_n 1, 1) := by decide +kernel
theorem dX6_read_19 : decode cX6_read 19 = .ok (.iaload, 1) := by decide +kernel
theorem dX6_read_20 : decode cX6_read 20 = .ok (.ifCond .ne 10, 3) := by decide +kernel
theorem dX6_read_23 : decode cX6_read 23 = .ok (.aload_n 0, 1) := by decide +kernel
theorem dX6_read_24 : decode cX6_read 24 = .ok (.ldc 243, 2) := by decide +kernel
theorem dX6_read_26 : decode cX6_read 26 = .ok (.invokevirtual 125, 3) := by decide +kernel
theorem dX6_read_29 : decode cX6_read 29 = .ok (.ireturn, 1) := by decide +kernel
theorem dX6_read_30 : decode cX6_read 30 = .ok (.iconst 0, 1) := by decide +kernel
theorem dX6_read_31 : decode cX6_read 31 = .ok (.istore_n 2, 1) := by decide +kernel
theorem dX6_read_32 : decode cX6_read 32 = .ok (.iload_n 2, 1) := by decide +kernel
theorem dX6_read_33 : decode cX6_read 33 = .ok (.aload_n 0, 1) := by decide +kernel
theorem dX6_read_34 : decode cX6_read 34 = .ok (.getfield 59, 3) := by decide +kernel
theorem dX6_read_37 : decode cX6_read 37 = .ok (.iload_n 1, 1) := by decide +kernel
theorem dX6_read_38 : decode cX6_read 38 = .ok (.iaload, 1) := by decide +kernel
theorem dX6_read_39 : decode cX6_read 39 = .ok (.if_icmp .ge 38, 3) := by decide +kernel
theorem dX6_read_42 : decode cX6_read 42 = .ok (.iload_n 2, 1) := by decide +kernel
theorem dX6_read_43 : decode cX6_read 43 = .ok (.aload_n 0, 1) := by decide +kernel
theorem dX6_read_44 : decode cX6_read 44 = .ok (.getfield 83, 3) := by decide +kernel
theorem dX6_read_47 : decode cX6_read 47 = .ok (.if_icmp .ge 30, 3) := by decide +kernel
theorem dX6_read_50 : decode cX6_read 50 = .ok (.aload_n 0, 1) := by decide +kernel
theorem dX6_read_51 : decode cX6_read 51 = .ok (.getfield 62, 3) := by decide +kernel
theorem dX6_read_54 : decode cX6_read 54 = .ok (.bipush 40, 2) := by decide +kernel
theorem dX6_read_56 : decode cX6_read 56 = .ok (.iload_n 1, 1) := by decide +kernel
theorem dX6_read_57 : decode cX6_read 57 = .ok (.imul, 1) := by decide +kernel
theorem dX6_read_58 : decode cX6_read 58 = .ok (.iload_n 2, 1) := by decide +kernel
theorem dX6_read_59 : decode cX6_read 59 = .ok (.iadd, 1) := by decide +kernel
theorem dX6_read_60 : decode cX6_read 60 = .ok (.laload, 1) := by decide +kernel
theorem dX6_read_61 : decode cX6_read 61 = .ok (.aload_n 0, 1) := by decide +kernel
theorem dX6_read_62 : decode cX6_read 62 = .ok (.iload_n 2, 1) := by decide +kernel
theorem dX6_read_63 : decode cX6_read 63 = .ok (.invokevirtual 365, 3) := by decide +kernel
theorem dX6_read_66 : decode cX6_read 66 = .ok (.i2l, 1) := by decide +kernel
theorem dX6_read_67 : decode cX6_read 67 = .ok (.lcmp, 1) := by decide +kernel
theorem dX6_read_68 : decode cX6_read 68 = .ok (.ifCond .ne 9, 3) := by decide +kernel
theorem dX6_read_71 : decode cX6_read 71 = .ok (.iinc 2 1, 3) := by decide +kernel
theorem dX6_read_74 : decode cX6_read 74 = .ok (.goto (-42), 3) := by decide +kernel
theorem dX6_read_77 : decode cX6_read 77 = .ok (.iload_n 2, 1) := by decide +kernel
theorem dX6_read_78 : decode cX6_read 78 = .ok (.aload_n 0, 1) := by decide +kernel
theorem dX6_read_79 : decode cX6_read 79 = .ok (.getfield 59, 3) := by decide +kernel
theorem dX6_read_82 : decode cX6_read 82 = .ok (.iload_n 1, 1) := by decide +kernel
theorem dX6_read_83 : decode cX6_read 83 = .ok (.iaload, 1) := by decide +kernel
theorem dX6_read_84 : decode cX6_read 84 = .ok (.if_icmp .ne 15, 3) := by decide +kernel
theorem dX6_read_87 : decode cX6_read 87 = .ok (.iload_n 2, 1) := by decide +kernel
theorem dX6_read_88 : decode cX6_read 88 = .ok (.aload_n 0, 1) := by decide +kernel
theorem dX6_read_89 : decode cX6_read 89 = .ok (.getfield 83, 3) := by decide +kernel
theorem dX6_read_92 : decode cX6_read 92 = .ok (.if_icmp .ne 7, 3) := by decide +kernel
theorem dX6_read_95 : decode cX6_read 95 = .ok (.iconst 0, 1) := by decide +kernel
theorem dX6_read_96 : decode cX6_read 96 = .ok (.goto 6, 3) := by decide +kernel
theorem dX6_read_99 : decode cX6_read 99 = .ok (.iload_n 2, 1) := by decide +kernel
theorem dX6_read_100 : decode cX6_read 100 = .ok (.iconst 1, 1) := by decide +kernel
theorem dX6_read_101 : decode cX6_read 101 = .ok (.iadd, 1) := by decide +kernel
theorem dX6_read_102 : decode cX6_read 102 = .ok (.ireturn, 1) := by decide +kernel
theorem dX6_moveRow_0 : decode cX6_moveRow 0 = .ok (.iconst 0, 1) := by decide +kernel
theorem dX6_moveRow_1 : decode cX6_moveRow 1 = .ok (.istore 5, 2) := by decide +kernel
theorem dX6_moveRow_3 : decode cX6_moveRow 3 = .ok (.iload 5, 2) := by decide +kernel
theorem dX6_moveRow_5 : decode cX6_moveRow 5 = .ok (.iload_n 2, 1) := by decide +kernel
theorem dX6_moveRow_6 : decode cX6_moveRow 6 = .ok (.if_icmp .ge 48, 3) := by decide +kernel
theorem dX6_moveRow_9 : decode cX6_moveRow 9 = .ok (.iload_n 3, 1) := by decide +kernel
theorem dX6_moveRow_10 : decode cX6_moveRow 10 = .ok (.ifCond .eq 17, 3) := by decide +kernel
theorem dX6_moveRow_13 : decode cX6_moveRow 13 = .ok (.aload 4, 2) := by decide +kernel
theorem dX6_moveRow_15 : decode cX6_moveRow 15 = .ok (.aload_n 0, 1) := by decide +kernel
theorem dX6_moveRow_16 : decode cX6_moveRow 16 = .ok (.getfield 368, 3) := by decide +kernel
theorem dX6_moveRow_19 : decode cX6_moveRow 19 = .ok (.aload_n 1, 1) := by decide +kernel
theorem dX6_moveRow_20 : decode cX6_moveRow 20 = .ok (.iload 5, 2) := by decide +kernel
theorem dX6_moveRow_22 : decode cX6_moveRow 22 = .ok (.iaload, 1) := by decide +kernel
theorem dX6_moveRow_23 : decode cX6_moveRow 23 = .ok (.iastore, 1) := by decide +kernel
theorem dX6_moveRow_24 : decode cX6_moveRow 24 = .ok (.goto 14, 3) := by decide +kernel
theorem dX6_moveRow_27 : decode cX6_moveRow 27 = .ok (.aload_n 1, 1) := by decide +kernel
theorem dX6_moveRow_28 : decode cX6_moveRow 28 = .ok (.iload 5, 2) := by decide +kernel
theorem dX6_moveRow_30 : decode cX6_moveRow 30 = .ok (.aload 4, 2) := by decide +kernel
theorem dX6_moveRow_32 : decode cX6_moveRow 32 = .ok (.aload_n 0, 1) := by decide +kernel
theorem dX6_moveRow_33 : decode cX6_moveRow 33 = .ok (.getfield 368, 3) := by decide +kernel
theorem dX6_moveRow_36 : decode cX6_moveRow 36 = .ok (.iaload, 1) := by decide +kernel
theorem dX6_moveRow_37 : decode cX6_moveRow 37 = .ok (.iastore, 1) := by decide +kernel
theorem dX6_moveRow_38 : decode cX6_moveRow 38 = .ok (.aload_n 0, 1) := by decide +kernel
theorem dX6_moveRow_39 : decode cX6_moveRow 39 = .ok (.dup, 1) := by decide +kernel
theorem dX6_moveRow_40 : decode cX6_moveRow 40 = .ok (.getfield 368, 3) := by decide +kernel
theorem dX6_moveRow_43 : decode cX6_moveRow 43 = .ok (.iconst 1, 1) := by decide +kernel
theorem dX6_moveRow_44 : decode cX6_moveRow 44 = .ok (.iadd, 1) := by decide +kernel
theorem dX6_moveRow_45 : decode cX6_moveRow 45 = .ok (.putfield 368, 3) := by decide +kernel
theorem dX6_moveRow_48 : decode cX6_moveRow 48 = .ok (.iinc 5 1, 3) := by decide +kernel
theorem dX6_moveRow_51 : decode cX6_moveRow 51 = .ok (.goto (-48), 3) := by decide +kernel
theorem dX6_moveRow_54 : decode cX6_moveRow 54 = .ok (.return_, 1) := by decide +kernel
theorem dX6_moveAll_0 : decode cX6_moveAll 0 = .ok (.aload_n 0, 1) := by decide +kernel
theorem dX6_moveAll_1 : decode cX6_moveAll 1 = .ok (.iconst 0, 1) := by decide +kernel
theorem dX6_moveAll_2 : decode cX6_moveAll 2 = .ok (.putfield 368, 3) := by decide +kernel
theorem dX6_moveAll_5 : decode cX6_moveAll 5 = .ok (.aload_n 0, 1) := by decide +kernel
theorem dX6_moveAll_6 : decode cX6_moveAll 6 = .ok (.getfield 75, 3) := by decide +kernel
theorem dX6_moveAll_9 : decode cX6_moveAll 9 = .ok (.iconst 0, 1) := by decide +kernel
theorem dX6_moveAll_10 : decode cX6_moveAll 10 = .ok (.aload_n 0, 1) := by decide +kernel
theorem dX6_moveAll_11 : decode cX6_moveAll 11 = .ok (.getfield 83, 3) := by decide +kernel
theorem dX6_moveAll_14 : decode cX6_moveAll 14 = .ok (.iastore, 1) := by decide +kernel
theorem dX6_moveAll_15 : decode cX6_moveAll 15 = .ok (.aload_n 0, 1) := by decide +kernel
theorem dX6_moveAll_16 : decode cX6_moveAll 16 = .ok (.getfield 75, 3) := by decide +kernel
theorem dX6_moveAll_19 : decode cX6_moveAll 19 = .ok (.iconst 1, 1) := by decide +kernel
theorem dX6_moveAll_20 : decode cX6_moveAll 20 = .ok (.aload_n 0, 1) := by decide +kernel
theorem dX6_moveAll_21 : decode cX6_moveAll 21 = .ok (.getfield 87, 3) := by decide +kernel
theorem dX6_moveAll_24 : decode cX6_moveAll 24 = .ok (.iastore, 1) := by decide +kernel
theorem dX6_moveAll_25 : decode cX6_moveAll 25 = .ok (.aload_n 0, 1) := by decide +kernel
theorem dX6_moveAll_26 : decode cX6_moveAll 26 = .ok (.aload_n 0, 1) := by decide +kernel
theorem dX6_moveAll_27 : decode cX6_moveAll 27 = .ok (.getfield 75, 3) := by decide +kernel
theorem dX6_moveAll_30 : decode cX6_moveAll 30 = .ok (.iconst 2, 1) := by decide +kernel
theorem dX6_moveAll_31 : decode cX6_moveAll 31 = .ok (.iload_n 1, 1) := by decide +kernel
theorem dX6_moveAll_32 : decode cX6_moveAll 32 = .ok (.aload_n 2, 1) := by decide +kernel
theorem dX6_moveAll_33 : decode cX6_moveAll 33 = .ok (.invokevirtual 371, 3) := by decide +kernel
theorem dX6_moveAll_36 : decode cX6_moveAll 36 = .ok (.aload_n 0, 1) := by decide +kernel
theorem dX6_moveAll_37 : decode cX6_moveAll 37 = .ok (.aload_n 0, 1) := by decide +kernel
theorem dX6_moveAll_38 : decode cX6_moveAll 38 = .ok (.getfield 75, 3) := by decide +kernel
theorem dX6_moveAll_41 : decode cX6_moveAll 41 = .ok (.iconst 0, 1) := by decide +kernel
theorem dX6_moveAll_42 : decode cX6_moveAll 42 = .ok (.iaload, 1) := by decide +kernel
theorem dX6_moveAll_43 : decode cX6_moveAll 43 = .ok (.putfield 83, 3) := by decide +kernel
theorem dX6_moveAll_46 : decode cX6_moveAll 46 = .ok (.aload_n 0, 1) := by decide +kernel
theorem dX6_moveAll_47 : decode cX6_moveAll 47 = .ok (.aload_n 0, 1) := by decide +kernel
theorem dX6_moveAll_48 : decode cX6_moveAll 48 = .ok (.getfield 75, 3) := by decide +kernel
theorem dX6_moveAll_51 : decode cX6_moveAll 51 = .ok (.iconst 1, 1) := by decide +kernel
theorem dX6_moveAll_52 : decode cX6_moveAll 52 = .ok (.iaload, 1) := by decide +kernel
theorem dX6_moveAll_53 : decode cX6_moveAll 53 = .ok (.putfield 87, 3) := by decide +kernel
theorem dX6_moveAll_56 : decode cX6_moveAll 56 = .ok (.aload_n 0, 1) := by decide +kernel
theorem dX6_moveAll_57 : decode cX6_moveAll 57 = .ok (.aload_n 0, 1) := by decide +kernel
theorem dX6_moveAll_58 : decode cX6_moveAll 58 = .ok (.getfield 7, 3) := by decide +kernel
theorem dX6_moveAll_61 : decode cX6_moveAll 61 = .ok (.bipush 6, 2) := by decide +kernel
theorem dX6_moveAll_63 : decode cX6_moveAll 63 = .ok (.iload_n 1, 1) := by decide +kernel
theorem dX6_moveAll_64 : decode cX6_moveAll 64 = .ok (.aload_n 2, 1) := by decide +kernel
theorem dX6_moveAll_65 : decode cX6_moveAll 65 = .ok (.invokevirtual 371, 3) := by decide +kernel
theorem dX6_moveAll_68 : decode cX6_moveAll 68 = .ok (.aload_n 0, 1) := by decide +kernel
theorem dX6_moveAll_69 : decode cX6_moveAll 69 = .ok (.aload_n 0, 1) := by decide +kernel
theorem dX6_moveAll_70 : decode cX6_moveAll 70 = .ok (.getfield 13, 3) := by decide +kernel
theorem dX6_moveAll_73 : decode cX6_moveAll 73 = .ok (.bipush 14, 2) := by decide +kernel
theorem dX6_moveAll_75 : decode cX6_moveAll 75 = .ok (.iload_n 1, 1) := by decide +kernel
theorem dX6_moveAll_76 : decode cX6_moveAll 76 = .ok (.aload_n 2, 1) := by decide +kernel
theorem dX6_moveAll_77 : decode cX6_moveAll 77 = .ok (.invokevirtual 371, 3) := by decide +kernel
theorem dX6_moveAll_80 : decode cX6_moveAll 80 = .ok (.aload_n 0, 1) := by decide +kernel
theorem dX6_moveAll_81 : decode cX6_moveAll 81 = .ok (.aload_n 0, 1) := by decide +kernel
theorem dX6_moveAll_82 : decode cX6_moveAll 82 = .ok (.getfield 16, 3) := by decide +kernel
theorem dX6_moveAll_85 : decode cX6_moveAll 85 = .ok (.bipush 14, 2) := by decide +kernel
theorem dX6_moveAll_87 : decode cX6_moveAll 87 = .ok (.iload_n 1, 1) := by decide +kernel
theorem dX6_moveAll_88 : decode cX6_moveAll 88 = .ok (.aload_n 2, 1) := by decide +kernel
theorem dX6_moveAll_89 : decode cX6_moveAll 89 = .ok (.invokevirtual 371, 3) := by decide +kernel
theorem dX6_moveAll_92 : decode cX6_moveAll 92 = .ok (.aload_n 0, 1) := by decide +kernel
theorem dX6_moveAll_93 : decode cX6_moveAll 93 = .ok (.aload_n 0, 1) := by decide +kernel
theorem dX6_moveAll_94 : decode cX6_moveAll 94 = .ok (.getfield 19, 3) := by decide +kernel
theorem dX6_moveAll_97 : decode cX6_moveAll 97 = .ok (.bipush 14, 2) := by decide +kernel
theorem dX6_moveAll_99 : decode cX6_moveAll 99 = .ok (.iload_n 1, 1) := by decide +kernel
theorem dX6_moveAll_100 : decode cX6_moveAll 100 = .ok (.aload_n 2, 1) := by decide +kernel
theorem dX6_moveAll_101 : decode cX6_moveAll 101 = .ok (.invokevirtual 371, 3) := by decide +kernel
theorem dX6_moveAll_104 : decode cX6_moveAll 104 = .ok (.aload_n 0, 1) := by decide +kernel
theorem dX6_moveAll_105 : decode cX6_moveAll 105 = .ok (.aload_n 0, 1) := by decide +kernel
theorem dX6_moveAll_106 : decode cX6_moveAll 106 = .ok (.getfield 22, 3) := by decide +kernel
theorem dX6_moveAll_109 : decode cX6_moveAll 109 = .ok (.bipush 12, 2) := by decide +kernel
theorem dX6_moveAll_111 : decode cX6_moveAll 111 = .ok (.iload_n 1, 1) := by decide +kernel
theorem dX6_moveAll_112 : decode cX6_moveAll 112 = .ok (.aload_n 2, 1) := by decide +kernel
theorem dX6_moveAll_113 : decode cX6_moveAll 113 = .ok (.invokevirtual 371, 3) := by decide +kernel
theorem dX6_moveAll_116 : decode cX6_moveAll 116 = .ok (.aload_n 0, 1) := by decide +kernel
theorem dX6_moveAll_117 : decode cX6_moveAll 117 = .ok (.aload_n 0, 1) := by decide +kernel
theorem dX6_moveAll_118 : decode cX6_moveAll 118 = .ok (.getfield 25, 3) := by decide +kernel
theorem dX6_moveAll_121 : decode cX6_moveAll 121 = .ok (.bipush 12, 2) := by decide +kernel
theorem dX6_moveAll_123 : decode cX6_moveAll 123 = .ok (.iload_n 1, 1) := by decide +kernel
theorem dX6_moveAll_124 : decode cX6_moveAll 124 = .ok (.aload_n 2, 1) := by decide +kernel
theorem dX6_moveAll_125 : decode cX6_moveAll 125 = .ok (.invokevirtual 371, 3) := by decide +kernel
theorem dX6_moveAll_128 : decode cX6_moveAll 128 = .ok (.aload_n 0, 1) := by decide +kernel
theorem dX6_moveAll_129 : decode cX6_moveAll 129 = .ok (.aload_n 0, 1) := by decide +kernel
theorem dX6_moveAll_130 : decode cX6_moveAll 130 = .ok (.getfield 28, 3) := by decide +kernel
theorem dX6_moveAll_133 : decode cX6_moveAll 133 = .ok (.bipush 12, 2) := by decide +kernel
theorem dX6_moveAll_135 : decode cX6_moveAll 135 = .ok (.iload_n 1, 1) := by decide +kernel
theorem dX6_moveAll_136 : decode cX6_moveAll 136 = .ok (.aload_n 2, 1) := by decide +kernel
theorem dX6_moveAll_137 : decode cX6_moveAll 137 = .ok (.invokevirtual 371, 3) := by decide +kernel
theorem dX6_moveAll_140 : decode cX6_moveAll 140 = .ok (.aload_n 0, 1) := by decide +kernel
theorem dX6_moveAll_141 : decode cX6_moveAll 141 = .ok (.aload_n 0, 1) := by decide +kernel
theorem dX6_moveAll_142 : decode cX6_moveAll 142 = .ok (.getfield 31, 3) := by decide +kernel
theorem dX6_moveAll_145 : decode cX6_moveAll 145 = .ok (.bipush 12, 2) := by decide +kernel
theorem dX6_moveAll_147 : decode cX6_moveAll 147 = .ok (.iload_n 1, 1) := by decide +kernel
theorem dX6_moveAll_148 : decode cX6_moveAll 148 = .ok (.aload_n 2, 1) := by decide +kernel
theorem dX6_moveAll_149 : decode cX6_moveAll 149 = .ok (.invokevirtual 371, 3) := by decide +kernel
theorem dX6_moveAll_152 : decode cX6_moveAll 152 = .ok (.aload_n 0, 1) := by decide +kernel
theorem dX6_moveAll_153 : decode cX6_moveAll 153 = .ok (.aload_n 0, 1) := by decide +kernel
theorem dX6_moveAll_154 : decode cX6_moveAll 154 = .ok (.getfield 34, 3) := by decide +kernel
theorem dX6_moveAll_157 : decode cX6_moveAll 157 = .ok (.bipush 41, 2) := by decide +kernel
theorem dX6_moveAll_159 : decode cX6_moveAll 159 = .ok (.iload_n 1, 1) := by decide +kernel
theorem dX6_moveAll_160 : decode cX6_moveAll 160 = .ok (.aload_n 2, 1) := by decide +kernel
theorem dX6_moveAll_161 : decode cX6_moveAll 161 = .ok (.invokevirtual 371, 3) := by decide +kernel
theorem dX6_moveAll_164 : decode cX6_moveAll 164 = .ok (.return_, 1) := by decide +kernel
theorem dX6_image_0 : decode cX6_image 0 = .ok (.aload_n 0, 1) := by decide +kernel
theorem dX6_image_1 : decode cX6_image 1 = .ok (.iconst 1, 1) := by decide +kernel
theorem dX6_image_2 : decode cX6_image 2 = .ok (.aload_n 0, 1) := by decide +kernel
theorem dX6_image_3 : decode cX6_image 3 = .ok (.getfield 69, 3) := by decide +kernel
theorem dX6_image_6 : decode cX6_image 6 = .ok (.invokevirtual 351, 3) := by decide +kernel
theorem dX6_image_9 : decode cX6_image 9 = .ok (.aload_n 0, 1) := by decide +kernel
theorem dX6_image_10 : decode cX6_image 10 = .ok (.iconst 1, 1) := by decide +kernel
theorem dX6_image_11 : decode cX6_image 11 = .ok (.putfield 375, 3) := by decide +kernel
theorem dX6_image_14 : decode cX6_image 14 = .ok (.iconst 1, 1) := by decide +kernel
theorem dX6_image_15 : decode cX6_image 15 = .ok (.ireturn, 1) := by decide +kernel
theorem dX6_undo_0 : decode cX6_undo 0 = .ok (.aload_n 0, 1) := by decide +kernel
theorem dX6_undo_1 : decode cX6_undo 1 = .ok (.getfield 375, 3) := by decide +kernel
theorem dX6_undo_4 : decode cX6_undo 4 = .ok (.ifCond .ne 10, 3) := by decide +kernel
theorem dX6_undo_7 : decode cX6_undo 7 = .ok (.aload_n 0, 1) := by decide +kernel
theorem dX6_undo_8 : decode cX6_undo 8 = .ok (.ldc 170, 2) := by decide +kernel
theorem dX6_undo_10 : decode cX6_undo 10 = .ok (.invokevirtual 125, 3) := by decide +kernel
theorem dX6_undo_13 : decode cX6_undo 13 = .ok (.ireturn, 1) := by decide +kernel
theorem dX6_undo_14 : decode cX6_undo 14 = .ok (.aload_n 0, 1) := by decide +kernel
theorem dX6_undo_15 : decode cX6_undo 15 = .ok (.iconst 0, 1) := by decide +kernel
theorem dX6_undo_16 : decode cX6_undo 16 = .ok (.aload_n 0, 1) := by decide +kernel
theorem dX6_undo_17 : decode cX6_undo 17 = .ok (.getfield 69, 3) := by decide +kernel
theorem dX6_undo_20 : decode cX6_undo 20 = .ok (.invokevirtual 351, 3) := by decide +kernel
theorem dX6_undo_23 : decode cX6_undo 23 = .ok (.aload_n 0, 1) := by decide +kernel
theorem dX6_undo_24 : decode cX6_undo 24 = .ok (.getfield 83, 3) := by decide +kernel
theorem dX6_undo_27 : decode cX6_undo 27 = .ok (.ireturn, 1) := by decide +kernel
theorem dX6_tear_0 : decode cX6_tear 0 = .ok (.aload_n 0, 1) := by decide +kernel
theorem dX6_tear_1 : decode cX6_tear 1 = .ok (.getfield 375, 3) := by decide +kernel
theorem dX6_tear_4 : decode cX6_tear 4 = .ok (.ifCond .eq 7, 3) := by decide +kernel
theorem dX6_tear_7 : decode cX6_tear 7 = .ok (.iconst 1, 1) := by decide +kernel
theorem dX6_tear_8 : decode cX6_tear 8 = .ok (.goto 4, 3) := by decide +kernel
theorem dX6_tear_11 : decode cX6_tear 11 = .ok (.iconst 0, 1) := by decide +kernel
theorem dX6_tear_12 : decode cX6_tear 12 = .ok (.istore_n 1, 1) := by decide +kernel
theorem dX6_tear_13 : decode cX6_tear 13 = .ok (.aload_n 0, 1) := by decide +kernel
theorem dX6_tear_14 : decode cX6_tear 14 = .ok (.iconst 0, 1) := by decide +kernel
theorem dX6_tear_15 : decode cX6_tear 15 = .ok (.putfield 375, 3) := by decide +kernel
theorem dX6_tear_18 : decode cX6_tear 18 = .ok (.iload_n 1, 1) := by decide +kernel
theorem dX6_tear_19 : decode cX6_tear 19 = .ok (.ireturn, 1) := by decide +kernel
theorem dX6_count_0 : decode cX6_count 0 = .ok (.iconst 0, 1) := by decide +kernel
theorem dX6_count_1 : decode cX6_count 1 = .ok (.istore_n 2, 1) := by decide +kernel
theorem dX6_count_2 : decode cX6_count 2 = .ok (.iload_n 1, 1) := by decide +kernel
theorem dX6_count_3 : decode cX6_count 3 = .ok (.tableswitch 90 0 3 #[29, 34, 39, 44], 29) := by decide +kernel
theorem dX6_count_32 : decode cX6_count 32 = .ok (.aload_n 0, 1) := by decide +kernel
theorem dX6_count_33 : decode cX6_count 33 = .ok (.getfield 83, 3) := by decide +kernel
theorem dX6_count_36 : decode cX6_count 36 = .ok (.ireturn, 1) := by decide +kernel
theorem dX6_count_37 : decode cX6_count 37 = .ok (.aload_n 0, 1) := by decide +kernel
theorem dX6_count_38 : decode cX6_count 38 = .ok (.getfield 87, 3) := by decide +kernel
theorem dX6_count_41 : decode cX6_count 41 = .ok (.ireturn, 1) := by decide +kernel
theorem dX6_count_42 : decode cX6_count 42 = .ok (.aload_n 0, 1) := by decide +kernel
theorem dX6_count_43 : decode cX6_count 43 = .ok (.getfield 253, 3) := by decide +kernel
theorem dX6_count_46 : decode cX6_count 46 = .ok (.ireturn, 1) := by decide +kernel
theorem dX6_count_47 : decode cX6_count 47 = .ok (.iconst 0, 1) := by decide +kernel
theorem dX6_count_48 : decode cX6_count 48 = .ok (.istore_n 3, 1) := by decide +kernel
theorem dX6_count_49 : decode cX6_count 49 = .ok (.iload_n 3, 1) := by decide +kernel
theorem dX6_count_50 : decode cX6_count 50 = .ok (.aload_n 0, 1) := by decide +kernel
theorem dX6_count_51 : decode cX6_count 51 = .ok (.getfield 83, 3) := by decide +kernel
theorem dX6_count_54 : decode cX6_count 54 = .ok (.if_icmp .ge 37, 3) := by decide +kernel
theorem dX6_count_57 : decode cX6_count 57 = .ok (.iload_n 2, 1) := by decide +kernel
theorem dX6_count_58 : decode cX6_count 58 = .ok (.aload_n 0, 1) := by decide +kernel
theorem dX6_count_59 : decode cX6_count 59 = .ok (.iload_n 3, 1) := by decide +kernel
theorem dX6_count_60 : decode cX6_count 60 = .ok (.invokevirtual 97, 3) := by decide +kernel
theorem dX6_count_63 : decode cX6_count 63 = .ok (.ifCond .eq 19, 3) := by decide +kernel
theorem dX6_count_66 : decode cX6_count 66 = .ok (.aload_n 0, 1) := by decide +kernel
theorem dX6_count_67 : decode cX6_count 67 = .ok (.iload_n 3, 1) := by decide +kernel
theorem dX6_count_68 : decode cX6_count 68 = .ok (.invokevirtual 101, 3) := by decide +kernel
theorem dX6_count_71 : decode cX6_count 71 = .ok (.ifCond .ne 11, 3) := by decide +kernel
theorem dX6_count_74 : decode cX6_count 74 = .ok (.aload_n 0, 1) := by decide +kernel
theorem dX6_count_75 : decode cX6_count 75 = .ok (.iload_n 3, 1) := by decide +kernel
theorem dX6_count_76 : decode cX6_count 76 = .ok (.invokevirtual 107, 3) := by decide +kernel
theorem dX6_count_79 : decode cX6_count 79 = .ok (.goto 4, 3) := by decide +kernel
theorem dX6_count_82 : decode cX6_count 82 = .ok (.iconst 0, 1) := by decide +kernel
theorem dX6_count_83 : decode cX6_count 83 = .ok (.iadd, 1) := by decide +kernel
theorem dX6_count_84 : decode cX6_count 84 = .ok (.istore_n 2, 1) := by decide +kernel
theorem dX6_count_85 : decode cX6_count 85 = .ok (.iinc 3 1, 3) := by decide +kernel
theorem dX6_count_88 : decode cX6_count 88 = .ok (.goto (-39), 3) := by decide +kernel
theorem dX6_count_91 : decode cX6_count 91 = .ok (.iload_n 2, 1) := by decide +kernel
theorem dX6_count_92 : decode cX6_count 92 = .ok (.ireturn, 1) := by decide +kernel
theorem dX6_count_93 : decode cX6_count 93 = .ok (.aload_n 0, 1) := by decide +kernel
theorem dX6_count_94 : decode cX6_count 94 = .ok (.ldc 78, 2) := by decide +kernel
theorem dX6_count_96 : decode cX6_count 96 = .ok (.invokevirtual 125, 3) := by decide +kernel
theorem dX6_count_99 : decode cX6_count 99 = .ok (.ireturn, 1) := by decide +kernel
theorem dX6_status_0 : decode cX6_status 0 = .ok (.iload_n 1, 1) := by decide +kernel
theorem dX6_status_1 : decode cX6_status 1 = .ok (.iconst (-1), 1) := by decide +kernel
theorem dX6_status_2 : decode cX6_status 2 = .ok (.bipush 6, 2) := by decide +kernel
theorem dX6_status_4 : decode cX6_status 4 = .ok (.invokestatic 79, 3) := by decide +kernel
theorem dX6_status_7 : decode cX6_status 7 = .ok (.ifCond .ne 10, 3) := by decide +kernel
theorem dX6_status_10 : decode cX6_status 10 = .ok (.aload_n 0, 1) := by decide +kernel
theorem dX6_status_11 : decode cX6_status 11 = .ok (.ldc 78, 2) := by decide +kernel
theorem dX6_status_13 : decode cX6_status 13 = .ok (.invokevirtual 125, 3) := by decide +kernel
theorem dX6_status_16 : decode cX6_status 16 = .ok (.ireturn, 1) := by decide +kernel
theorem dX6_status_17 : decode cX6_status 17 = .ok (.iconst 0, 1) := by decide +kernel
theorem dX6_status_18 : decode cX6_status 18 = .ok (.istore_n 2, 1) := by decide +kernel
theorem dX6_status_19 : decode cX6_status 19 = .ok (.iconst 0, 1) := by decide +kernel
theorem dX6_status_20 : decode cX6_status 20 = .ok (.istore_n 3, 1) := by decide +kernel
theorem dX6_status_21 : decode cX6_status 21 = .ok (.iload_n 3, 1) := by decide +kernel
theorem dX6_status_22 : decode cX6_status 22 = .ok (.bipush 7, 2) := by decide +kernel
theorem dX6_status_24 : decode cX6_status 24 = .ok (.if_icmp .ge 18, 3) := by decide +kernel
theorem dX6_status_27 : decode cX6_status 27 = .ok (.iload_n 2, 1) := by decide +kernel
theorem dX6_status_28 : decode cX6_status 28 = .ok (.aload_n 0, 1) := by decide +kernel
theorem dX6_status_29 : decode cX6_status 29 = .ok (.getfield 37, 3) := by decide +kernel
theorem dX6_status_32 : decode cX6_status 32 = .ok (.iload_n 3, 1) := by decide +kernel
theorem dX6_status_33 : decode cX6_status 33 = .ok (.iaload, 1) := by decide +kernel
theorem dX6_status_34 : decode cX6_status 34 = .ok (.iadd, 1) := by decide +kernel
theorem dX6_status_35 : decode cX6_status 35 = .ok (.istore_n 2, 1) := by decide +kernel
theorem dX6_status_36 : decode cX6_status 36 = .ok (.iinc 3 1, 3) := by decide +kernel
theorem dX6_status_39 : decode cX6_status 39 = .ok (.goto (-18), 3) := by decide +kernel
theorem dX6_status_42 : decode cX6_status 42 = .ok (.iload_n 1, 1) := by decide +kernel
theorem dX6_status_43 : decode cX6_status 43 = .ok (.ifCond .ge 7, 3) := by decide +kernel
theorem dX6_status_46 : decode cX6_status 46 = .ok (.iload_n 2, 1) := by decide +kernel
theorem dX6_status_47 : decode cX6_status 47 = .ok (.goto 17, 3) := by decide +kernel
theorem dX6_status_50 : decode cX6_status 50 = .ok (.aload_n 0, 1) := by decide +kernel
theorem dX6_status_51 : decode cX6_status 51 = .ok (.getfield 37, 3) := by decide +kernel
theorem dX6_status_54 : decode cX6_status 54 = .ok (.iload_n 1, 1) := by decide +kernel
theorem dX6_status_55 : decode cX6_status 55 = .ok (.ifCond .ge 7, 3) := by decide +kernel
theorem dX6_status_58 : decode cX6_status 58 = .ok (.iconst 0, 1) := by decide +kernel
theorem dX6_status_59 : decode cX6_status 59 = .ok (.goto 4, 3) := by decide +kernel
theorem dX6_status_62 : decode cX6_status 62 = .ok (.iload_n 1, 1) := by decide +kernel
theorem dX6_status_63 : decode cX6_status 63 = .ok (.iaload, 1) := by decide +kernel
theorem dX6_status_64 : decode cX6_status 64 = .ok (.ireturn, 1) := by decide +kernel
