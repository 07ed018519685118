theorem dX0_init_0 : decode cX0_init 0 = .ok (.aload_n 0, 1) := by decide +kernel
theorem dX0_init_1 : decode cX0_init 1 = .ok (.invokespecial 3, 3) := by decide +kernel
theorem dX0_init_4 : decode cX0_init 4 = .ok (.aload_n 0, 1) := by decide +kernel
theorem dX0_init_5 : decode cX0_init 5 = .ok (.new 9, 3) := by decide +kernel
theorem dX0_init_8 : decode cX0_init 8 = .ok (.dup, 1) := by decide +kernel
theorem dX0_init_9 : decode cX0_init 9 = .ok (.invokespecial 11, 3) := by decide +kernel
theorem dX0_init_12 : decode cX0_init 12 = .ok (.putfield 12, 3) := by decide +kernel
theorem dX0_init_15 : decode cX0_init 15 = .ok (.return_, 1) := by decide +kernel
theorem dX0_plan_0 : decode cX0_plan 0 = .ok (.aload_n 0, 1) := by decide +kernel
theorem dX0_plan_1 : decode cX0_plan 1 = .ok (.getfield 12, 3) := by decide +kernel
theorem dX0_plan_4 : decode cX0_plan 4 = .ok (.aload_n 1, 1) := by decide +kernel
theorem dX0_plan_5 : decode cX0_plan 5 = .ok (.invokevirtual 18, 3) := by decide +kernel
theorem dX0_plan_8 : decode cX0_plan 8 = .ok (.aload_n 0, 1) := by decide +kernel
theorem dX0_plan_9 : decode cX0_plan 9 = .ok (.iconst 0, 1) := by decide +kernel
theorem dX0_plan_10 : decode cX0_plan 10 = .ok (.putfield 22, 3) := by decide +kernel
theorem dX0_plan_13 : decode cX0_plan 13 = .ok (.iconst 0, 1) := by decide +kernel
theorem dX0_plan_14 : decode cX0_plan 14 = .ok (.istore_n 2, 1) := by decide +kernel
theorem dX0_plan_15 : decode cX0_plan 15 = .ok (.iload_n 2, 1) := by decide +kernel
theorem dX0_plan_16 : decode cX0_plan 16 = .ok (.bipush 6, 2) := by decide +kernel
theorem dX0_plan_18 : decode cX0_plan 18 = .ok (.if_icmp .ge 32, 3) := by decide +kernel
theorem dX0_plan_21 : decode cX0_plan 21 = .ok (.aload_n 0, 1) := by decide +kernel
theorem dX0_plan_22 : decode cX0_plan 22 = .ok (.getfield 12, 3) := by decide +kernel
theorem dX0_plan_25 : decode cX0_plan 25 = .ok (.iload_n 2, 1) := by decide +kernel
theorem dX0_plan_26 : decode cX0_plan 26 = .ok (.invokevirtual 26, 3) := by decide +kernel
theorem dX0_plan_29 : decode cX0_plan 29 = .ok (.ifCond .eq 15, 3) := by decide +kernel
theorem dX0_plan_32 : decode cX0_plan 32 = .ok (.aload_n 0, 1) := by decide +kernel
theorem dX0_plan_33 : decode cX0_plan 33 = .ok (.dup, 1) := by decide +kernel
theorem dX0_plan_34 : decode cX0_plan 34 = .ok (.getfield 22, 3) := by decide +kernel
theorem dX0_plan_37 : decode cX0_plan 37 = .ok (.iconst 1, 1) := by decide +kernel
theorem dX0_plan_38 : decode cX0_plan 38 = .ok (.iload_n 2, 1) := by decide +kernel
theorem dX0_plan_39 : decode cX0_plan 39 = .ok (.ishl, 1) := by decide +kernel
theorem dX0_plan_40 : decode cX0_plan 40 = .ok (.ior, 1) := by decide +kernel
theorem dX0_plan_41 : decode cX0_plan 41 = .ok (.putfield 22, 3) := by decide +kernel
theorem dX0_plan_44 : decode cX0_plan 44 = .ok (.iinc 2 1, 3) := by decide +kernel
theorem dX0_plan_47 : decode cX0_plan 47 = .ok (.goto (-32), 3) := by decide +kernel
theorem dX0_plan_50 : decode cX0_plan 50 = .ok (.aload_n 0, 1) := by decide +kernel
theorem dX0_plan_51 : decode cX0_plan 51 = .ok (.getfield 22, 3) := by decide +kernel
theorem dX0_plan_54 : decode cX0_plan 54 = .ok (.ifCond .ne 5, 3) := by decide +kernel
theorem dX0_plan_57 : decode cX0_plan 57 = .ok (.iconst 0, 1) := by decide +kernel
theorem dX0_plan_58 : decode cX0_plan 58 = .ok (.ireturn, 1) := by decide +kernel
theorem dX0_plan_59 : decode cX0_plan 59 = .ok (.aload_n 0, 1) := by decide +kernel
theorem dX0_plan_60 : decode cX0_plan 60 = .ok (.aload_n 1, 1) := by decide +kernel
theorem dX0_plan_61 : decode cX0_plan 61 = .ok (.invokevirtual 30, 3) := by decide +kernel
theorem dX0_plan_64 : decode cX0_plan 64 = .ok (.ifCond .eq 5, 3) := by decide +kernel
theorem dX0_plan_67 : decode cX0_plan 67 = .ok (.iconst 1, 1) := by decide +kernel
theorem dX0_plan_68 : decode cX0_plan 68 = .ok (.ireturn, 1) := by decide +kernel
theorem dX0_plan_69 : decode cX0_plan 69 = .ok (.aload_n 0, 1) := by decide +kernel
theorem dX0_plan_70 : decode cX0_plan 70 = .ok (.aload_n 1, 1) := by decide +kernel
theorem dX0_plan_71 : decode cX0_plan 71 = .ok (.invokevirtual 34, 3) := by decide +kernel
theorem dX0_plan_74 : decode cX0_plan 74 = .ok (.ifCond .eq 7, 3) := by decide +kernel
theorem dX0_plan_77 : decode cX0_plan 77 = .ok (.iconst 2, 1) := by decide +kernel
theorem dX0_plan_78 : decode cX0_plan 78 = .ok (.goto 4, 3) := by decide +kernel
theorem dX0_plan_81 : decode cX0_plan 81 = .ok (.iconst (-1), 1) := by decide +kernel
theorem dX0_plan_82 : decode cX0_plan 82 = .ok (.ireturn, 1) := by decide +kernel
theorem dX0_findOne_0 : decode cX0_findOne 0 = .ok (.bipush 6, 2) := by decide +kernel
theorem dX0_findOne_2 : decode cX0_findOne 2 = .ok (.aload_n 1, 1) := by decide +kernel
theorem dX0_findOne_3 : decode cX0_findOne 3 = .ok (.getfield 37, 3) := by decide +kernel
theorem dX0_findOne_6 : decode cX0_findOne 6 = .ok (.imul, 1) := by decide +kernel
theorem dX0_findOne_7 : decode cX0_findOne 7 = .ok (.istore_n 2, 1) := by decide +kernel
theorem dX0_findOne_8 : decode cX0_findOne 8 = .ok (.iconst 0, 1) := by decide +kernel
theorem dX0_findOne_9 : decode cX0_findOne 9 = .ok (.istore_n 3, 1) := by decide +kernel
theorem dX0_findOne_10 : decode cX0_findOne 10 = .ok (.iload_n 3, 1) := by decide +kernel
theorem dX0_findOne_11 : decode cX0_findOne 11 = .ok (.iload_n 2, 1) := by decide +kernel
theorem dX0_findOne_12 : decode cX0_findOne 12 = .ok (.if_icmp .ge 86, 3) := by decide +kernel
theorem dX0_findOne_15 : decode cX0_findOne 15 = .ok (.iload_n 3, 1) := by decide +kernel
theorem dX0_findOne_16 : decode cX0_findOne 16 = .ok (.bipush 6, 2) := by decide +kernel
theorem dX0_findOne_18 : decode cX0_findOne 18 = .ok (.idiv, 1) := by decide +kernel
theorem dX0_findOne_19 : decode cX0_findOne 19 = .ok (.istore 4, 2) := by decide +kernel
theorem dX0_findOne_21 : decode cX0_findOne 21 = .ok (.aload_n 1, 1) := by decide +kernel
theorem dX0_findOne_22 : decode cX0_findOne 22 = .ok (.iload_n 3, 1) := by decide +kernel
theorem dX0_findOne_23 : decode cX0_findOne 23 = .ok (.invokestatic 40, 3) := by decide +kernel
theorem dX0_findOne_26 : decode cX0_findOne 26 = .ok (.ifCond .eq 66, 3) := by decide +kernel
theorem dX0_findOne_29 : decode cX0_findOne 29 = .ok (.aload_n 0, 1) := by decide +kernel
theorem dX0_findOne_30 : decode cX0_findOne 30 = .ok (.iload 4, 2) := by decide +kernel
theorem dX0_findOne_32 : decode cX0_findOne 32 = .ok (.iload 4, 2) := by decide +kernel
theorem dX0_findOne_34 : decode cX0_findOne 34 = .ok (.invokevirtual 44, 3) := by decide +kernel
theorem dX0_findOne_37 : decode cX0_findOne 37 = .ok (.ifCond .ne 6, 3) := by decide +kernel
theorem dX0_findOne_40 : decode cX0_findOne 40 = .ok (.goto 52, 3) := by decide +kernel
theorem dX0_findOne_43 : decode cX0_findOne 43 = .ok (.aload_n 0, 1) := by decide +kernel
theorem dX0_findOne_44 : decode cX0_findOne 44 = .ok (.getfield 12, 3) := by decide +kernel
theorem dX0_findOne_47 : decode cX0_findOne 47 = .ok (.getfield 48, 3) := by decide +kernel
theorem dX0_findOne_50 : decode cX0_findOne 50 = .ok (.iload 4, 2) := by decide +kernel
theorem dX0_findOne_52 : decode cX0_findOne 52 = .ok (.iload_n 3, 1) := by decide +kernel
theorem dX0_findOne_53 : decode cX0_findOne 53 = .ok (.bipush 6, 2) := by decide +kernel
theorem dX0_findOne_55 : decode cX0_findOne 55 = .ok (.irem, 1) := by decide +kernel
theorem dX0_findOne_56 : decode cX0_findOne 56 = .ok (.iastore, 1) := by decide +kernel
theorem dX0_findOne_57 : decode cX0_findOne 57 = .ok (.aload_n 0, 1) := by decide +kernel
theorem dX0_findOne_58 : decode cX0_findOne 58 = .ok (.iload 4, 2) := by decide +kernel
theorem dX0_findOne_60 : decode cX0_findOne 60 = .ok (.iload 4, 2) := by decide +kernel
theorem dX0_findOne_62 : decode cX0_findOne 62 = .ok (.invokevirtual 52, 3) := by decide +kernel
theorem dX0_findOne_65 : decode cX0_findOne 65 = .ok (.ifCond .eq 10, 3) := by decide +kernel
theorem dX0_findOne_68 : decode cX0_findOne 68 = .ok (.aload_n 0, 1) := by decide +kernel
theorem dX0_findOne_69 : decode cX0_findOne 69 = .ok (.iload_n 3, 1) := by decide +kernel
theorem dX0_findOne_70 : decode cX0_findOne 70 = .ok (.putfield 55, 3) := by decide +kernel
theorem dX0_findOne_73 : decode cX0_findOne 73 = .ok (.iconst 1, 1) := by decide +kernel
theorem dX0_findOne_74 : decode cX0_findOne 74 = .ok (.ireturn, 1) := by decide +kernel
theorem dX0_findOne_75 : decode cX0_findOne 75 = .ok (.aload_n 0, 1) := by decide +kernel
theorem dX0_findOne_76 : decode cX0_findOne 76 = .ok (.getfield 12, 3) := by decide +kernel
theorem dX0_findOne_79 : decode cX0_findOne 79 = .ok (.getfield 48, 3) := by decide +kernel
theorem dX0_findOne_82 : decode cX0_findOne 82 = .ok (.iload 4, 2) := by decide +kernel
theorem dX0_findOne_84 : decode cX0_findOne 84 = .ok (.aload_n 1, 1) := by decide +kernel
theorem dX0_findOne_85 : decode cX0_findOne 85 = .ok (.getfield 48, 3) := by decide +kernel
theorem dX0_findOne_88 : decode cX0_findOne 88 = .ok (.iload 4, 2) := by decide +kernel
theorem dX0_findOne_90 : decode cX0_findOne 90 = .ok (.iaload, 1) := by decide +kernel
theorem dX0_findOne_91 : decode cX0_findOne 91 = .ok (.iastore, 1) := by decide +kernel
theorem dX0_findOne_92 : decode cX0_findOne 92 = .ok (.iinc 3 1, 3) := by decide +kernel
theorem dX0_findOne_95 : decode cX0_findOne 95 = .ok (.goto (-85), 3) := by decide +kernel
theorem dX0_findOne_98 : decode cX0_findOne 98 = .ok (.iconst 0, 1) := by decide +kernel
theorem dX0_findOne_99 : decode cX0_findOne 99 = .ok (.ireturn, 1) := by decide +kernel
theorem dX0_findTwo_0 : decode cX0_findTwo 0 = .ok (.bipush 6, 2) := by decide +kernel
theorem dX0_findTwo_2 : decode cX0_findTwo 2 = .ok (.aload_n 1, 1) := by decide +kernel
theorem dX0_findTwo_3 : decode cX0_findTwo 3 = .ok (.getfield 37, 3) := by decide +kernel
theorem dX0_findTwo_6 : decode cX0_findTwo 6 = .ok (.imul, 1) := by decide +kernel
theorem dX0_findTwo_7 : decode cX0_findTwo 7 = .ok (.istore_n 2, 1) := by decide +kernel
theorem dX0_findTwo_8 : decode cX0_findTwo 8 = .ok (.iconst 0, 1) := by decide +kernel
theorem dX0_findTwo_9 : decode cX0_findTwo 9 = .ok (.istore_n 3, 1) := by decide +kernel
theorem dX0_findTwo_10 : decode cX0_findTwo 10 = .ok (.iload_n 3, 1) := by decide +kernel
theorem dX0_findTwo_11 : decode cX0_findTwo 11 = .ok (.iload_n 2, 1) := by decide +kernel
theorem dX0_findTwo_12 : decode cX0_findTwo 12 = .ok (.if_icmp .ge 74, 3) := by decide +kernel
theorem dX0_findTwo_15 : decode cX0_findTwo 15 = .ok (.iload_n 3, 1) := by decide +kernel
theorem dX0_findTwo_16 : decode cX0_findTwo 16 = .ok (.bipush 6, 2) := by decide +kernel
theorem dX0_findTwo_18 : decode cX0_findTwo 18 = .ok (.idiv, 1) := by decide +kernel
theorem dX0_findTwo_19 : decode cX0_findTwo 19 = .ok (.istore 4, 2) := by decide +kernel
theorem dX0_findTwo_21 : decode cX0_findTwo 21 = .ok (.aload_n 1, 1) := by decide +kernel
theorem dX0_findTwo_22 : decode cX0_findTwo 22 = .ok (.iload_n 3, 1) := by decide +kernel
theorem dX0_findTwo_23 : decode cX0_findTwo 23 = .ok (.invokestatic 40, 3) := by decide +kernel
theorem dX0_findTwo_26 : decode cX0_findTwo 26 = .ok (.ifCond .ne 6, 3) := by decide +kernel
theorem dX0_findTwo_29 : decode cX0_findTwo 29 = .ok (.goto 51, 3) := by decide +kernel
theorem dX0_findTwo_32 : decode cX0_findTwo 32 = .ok (.aload_n 0, 1) := by decide +kernel
theorem dX0_findTwo_33 : decode cX0_findTwo 33 = .ok (.getfield 12, 3) := by decide +kernel
theorem dX0_findTwo_36 : decode cX0_findTwo 36 = .ok (.getfield 48, 3) := by decide +kernel
theorem dX0_findTwo_39 : decode cX0_findTwo 39 = .ok (.iload 4, 2) := by decide +kernel
theorem dX0_findTwo_41 : decode cX0_findTwo 41 = .ok (.iload_n 3, 1) := by decide +kernel
theorem dX0_findTwo_42 : decode cX0_findTwo 42 = .ok (.bipush 6, 2) := by decide +kernel
theorem dX0_findTwo_44 : decode cX0_findTwo 44 = .ok (.irem, 1) := by decide +kernel
theorem dX0_findTwo_45 : decode cX0_findTwo 45 = .ok (.iastore, 1) := by decide +kernel
theorem dX0_findTwo_46 : decode cX0_findTwo 46 = .ok (.aload_n 0, 1) := by decide +kernel
theorem dX0_findTwo_47 : decode cX0_findTwo 47 = .ok (.aload_n 1, 1) := by decide +kernel
theorem dX0_findTwo_48 : decode cX0_findTwo 48 = .ok (.iload 4, 2) := by decide +kernel
theorem dX0_findTwo_50 : decode cX0_findTwo 50 = .ok (.invokevirtual 58, 3) := by decide +kernel
theorem dX0_findTwo_53 : decode cX0_findTwo 53 = .ok (.ifCond .eq 10, 3) := by decide +kernel
theorem dX0_findTwo_56 : decode cX0_findTwo 56 = .ok (.aload_n 0, 1) := by decide +kernel
theorem dX0_findTwo_57 : decode cX0_findTwo 57 = .ok (.iload_n 3, 1) := by decide +kernel
theorem dX0_findTwo_58 : decode cX0_findTwo 58 = .ok (.putfield 55, 3) := by decide +kernel
theorem dX0_findTwo_61 : decode cX0_findTwo 61 = .ok (.iconst 1, 1) := by decide +kernel
theorem dX0_findTwo_62 : decode cX0_findTwo 62 = .ok (.ireturn, 1) := by decide +kernel
theorem dX0_findTwo_63 : decode cX0_findTwo 63 = .ok (.aload_n 0, 1) := by decide +kernel
theorem dX0_findTwo_64 : decode cX0_findTwo 64 = .ok (.getfield 12, 3) := by decide +kernel
theorem dX0_findTwo_67 : decode cX0_findTwo 67 = .ok (.getfield 48, 3) := by decide +kernel
theorem dX0_findTwo_70 : decode cX0_findTwo 70 = .ok (.iload 4, 2) := by decide +kernel
theorem dX0_findTwo_72 : decode cX0_findTwo 72 = .ok (.aload_n 1, 1) := by decide +kernel
theorem dX0_findTwo_73 : decode cX0_findTwo 73 = .ok (.getfield 48, 3) := by decide +kernel
theorem dX0_findTwo_76 : decode cX0_findTwo 76 = .ok (.iload 4, 2) := by decide +kernel
theorem dX0_findTwo_78 : decode cX0_findTwo 78 = .ok (.iaload, 1) := by decide +kernel
theorem dX0_findTwo_79 : decode cX0_findTwo 79 = .ok (.iastore, 1) := by decide +kernel
theorem dX0_findTwo_80 : decode cX0_findTwo 80 = .ok (.iinc 3 1, 3) := by decide +kernel
theorem dX0_findTwo_83 : decode cX0_findTwo 83 = .ok (.goto (-73), 3) := by decide +kernel
theorem dX0_findTwo_86 : decode cX0_findTwo 86 = .ok (.iconst 0, 1) := by decide +kernel
theorem dX0_findTwo_87 : decode cX0_findTwo 87 = .ok (.ireturn, 1) := by decide +kernel
theorem dX0_findGreater_0 : decode cX0_findGreater 0 = .ok (.bipush 6, 2) := by decide +kernel
theorem dX0_findGreater_2 : decode cX0_findGreater 2 = .ok (.aload_n 1, 1) := by decide +kernel
theorem dX0_findGreater_3 : decode cX0_findGreater 3 = .ok (.getfield 37, 3) := by decide +kernel
theorem dX0_findGreater_6 : decode cX0_findGreater 6 = .ok (.imul, 1) := by decide +kernel
theorem dX0_findGreater_7 : decode cX0_findGreater 7 = .ok (.istore_n 3, 1) := by decide +kernel
theorem dX0_findGreater_8 : decode cX0_findGreater 8 = .ok (.bipush 6, 2) := by decide +kernel
theorem dX0_findGreater_10 : decode cX0_findGreater 10 = .ok (.iload_n 2, 1) := by decide +kernel
theorem dX0_findGreater_11 : decode cX0_findGreater 11 = .ok (.iconst 1, 1) := by decide +kernel
theorem dX0_findGreater_12 : decode cX0_findGreater 12 = .ok (.iadd, 1) := by decide +kernel
theorem dX0_findGreater_13 : decode cX0_findGreater 13 = .ok (.imul, 1) := by decide +kernel
theorem dX0_findGreater_14 : decode cX0_findGreater 14 = .ok (.istore 4, 2) := by decide +kernel
theorem dX0_findGreater_16 : decode cX0_findGreater 16 = .ok (.iload 4, 2) := by decide +kernel
theorem dX0_findGreater_18 : decode cX0_findGreater 18 = .ok (.iload_n 3, 1) := by decide +kernel
theorem dX0_findGreater_19 : decode cX0_findGreater 19 = .ok (.if_icmp .ge 88, 3) := by decide +kernel
theorem dX0_findGreater_22 : decode cX0_findGreater 22 = .ok (.iload 4, 2) := by decide +kernel
theorem dX0_findGreater_24 : decode cX0_findGreater 24 = .ok (.bipush 6, 2) := by decide +kernel
theorem dX0_findGreater_26 : decode cX0_findGreater 26 = .ok (.idiv, 1) := by decide +kernel
theorem dX0_findGreater_27 : decode cX0_findGreater 27 = .ok (.istore 5, 2) := by decide +kernel
theorem dX0_findGreater_29 : decode cX0_findGreater 29 = .ok (.aload_n 1, 1) := by decide +kernel
theorem dX0_findGreater_30 : decode cX0_findGreater 30 = .ok (.iload 4, 2) := by decide +kernel
theorem dX0_findGreater_32 : decode cX0_findGreater 32 = .ok (.invokestatic 40, 3) := by decide +kernel
theorem dX0_findGreater_35 : decode cX0_findGreater 35 = .ok (.ifCond .eq 66, 3) := by decide +kernel
theorem dX0_findGreater_38 : decode cX0_findGreater 38 = .ok (.aload_n 0, 1) := by decide +kernel
theorem dX0_findGreater_39 : decode cX0_findGreater 39 = .ok (.iload_n 2, 1) := by decide +kernel
theorem dX0_findGreater_40 : decode cX0_findGreater 40 = .ok (.iload 5, 2) := by decide +kernel
theorem dX0_findGreater_42 : decode cX0_findGreater 42 = .ok (.invokevirtual 44, 3) := by decide +kernel
theorem dX0_findGreater_45 : decode cX0_findGreater 45 = .ok (.ifCond .ne 6, 3) := by decide +kernel
theorem dX0_findGreater_48 : decode cX0_findGreater 48 = .ok (.goto 53, 3) := by decide +kernel
theorem dX0_findGreater_51 : decode cX0_findGreater 51 = .ok (.aload_n 0, 1) := by decide +kernel
theorem dX0_findGreater_52 : decode cX0_findGreater 52 = .ok (.getfield 12, 3) := by decide +kernel
theorem dX0_findGreater_55 : decode cX0_findGreater 55 = .ok (.getfield 48, 3) := by decide +kernel
theorem dX0_findGreater_58 : decode cX0_findGreater 58 = .ok (.iload 5, 2) := by decide +kernel
theorem dX0_findGreater_60 : decode cX0_findGreater 60 = .ok (.iload 4, 2) := by decide +kernel
theorem dX0_findGreater_62 : decode cX0_findGreater 62 = .ok (.bipush 6, 2) := by decide +kernel
theorem dX0_findGreater_64 : decode cX0_findGreater 64 = .ok (.irem, 1) := by decide +kernel
theorem dX0_findGreater_65 : decode cX0_findGreater 65 = .ok (.iastore, 1) := by decide +kernel
theorem dX0_findGreater_66 : decode cX0_findGreater 66 = .ok (.aload_n 0, 1) := by decide +kernel
theorem dX0_findGreater_67 : decode cX0_findGreater 67 = .ok (.iload_n 2, 1) := by decide +kernel
theorem dX0_findGreater_68 : decode cX0_findGreater 68 = .ok (.iload 5, 2) := by decide +kernel
theorem dX0_findGreater_70 : decode cX0_findGreater 70 = .ok (.invokevirtual 52, 3) := by decide +kernel
theorem dX0_findGreater_73 : decode cX0_findGreater 73 = .ok (.ifCond .eq 11, 3) := by decide +kernel
theorem dX0_findGreater_76 : decode cX0_findGreater 76 = .ok (.aload_n 0, 1) := by decide +kernel
theorem dX0_findGreater_77 : decode cX0_findGreater 77 = .ok (.iload 4, 2) := by decide +kernel
theorem dX0_findGreater_79 : decode cX0_findGreater 79 = .ok (.putfield 61, 3) := by decide +kernel
theorem dX0_findGreater_82 : decode cX0_findGreater 82 = .ok (.iconst 1, 1) := by decide +kernel
theorem dX0_findGreater_83 : decode cX0_findGreater 83 = .ok (.ireturn, 1) := by decide +kernel
theorem dX0_findGreater_84 : decode cX0_findGreater 84 = .ok (.aload_n 0, 1) := by decide +kernel
theorem dX0_findGreater_85 : decode cX0_findGreater 85 = .ok (.getfield 12, 3) := by decide +kernel
theorem dX0_findGreater_88 : decode cX0_findGreater 88 = .ok (.getfield 48, 3) := by decide +kernel
theorem dX0_findGreater_91 : decode cX0_findGreater 91 = .ok (.iload 5, 2) := by decide +kernel
theorem dX0_findGreater_93 : decode cX0_findGreater 93 = .ok (.aload_n 1, 1) := by decide +kernel
theorem dX0_findGreater_94 : decode cX0_findGreater 94 = .ok (.getfield 48, 3) := by decide +kernel
theorem dX0_findGreater_97 : decode cX0_findGreater 97 = .ok (.iload 5, 2) := by decide +kernel
theorem dX0_findGreater_99 : decode cX0_findGreater 99 = .ok (.iaload, 1) := by decide +kernel
theorem dX0_findGreater_100 : decode cX0_findGreater 100 = .ok (.iastore, 1) := by decide +kernel
theorem dX0_findGreater_101 : decode cX0_findGreater 101 = .ok (.iinc 4 1, 3) := by decide +kernel
theorem dX0_findGreater_104 : decode cX0_findGreater 104 = .ok (.goto (-88), 3) := by decide +kernel
theorem dX0_findGreater_107 : decode cX0_findGreater 107 = .ok (.iconst 0, 1) := by decide +kernel
theorem dX0_findGreater_108 : decode cX0_findGreater 108 = .ok (.ireturn, 1) := by decide +kernel
theorem dX0_isMove_0 : decode cX0_isMove 0 = .ok (.iload_n 1, 1) := by decide +kernel
theorem dX0_isMove_1 : decode cX0_isMove 1 = .ok (.bipush 6, 2) := by decide +kernel
theorem dX0_isMove_3 : decode cX0_isMove 3 = .ok (.idiv, 1) := by decide +kernel
theorem dX0_isMove_4 : decode cX0_isMove 4 = .ok (.istore_n 2, 1) := by decide +kernel
theorem dX0_isMove_5 : decode cX0_isMove 5 = .ok (.aload_n 0, 1) := by decide +kernel
theorem dX0_isMove_6 : decode cX0_isMove 6 = .ok (.iload_n 2, 1) := by decide +kernel
theorem dX0_isMove_7 : decode cX0_isMove 7 = .ok (.invokevirtual 64, 3) := by decide +kernel
theorem dX0_isMove_10 : decode cX0_isMove 10 = .ok (.ifCond .ne 20, 3) := by decide +kernel
theorem dX0_isMove_13 : decode cX0_isMove 13 = .ok (.aload_n 0, 1) := by decide +kernel
theorem dX0_isMove_14 : decode cX0_isMove 14 = .ok (.getfield 48, 3) := by decide +kernel
theorem dX0_isMove_17 : decode cX0_isMove 17 = .ok (.iload_n 2, 1) := by decide +kernel
theorem dX0_isMove_18 : decode cX0_isMove 18 = .ok (.iaload, 1) := by decide +kernel
theorem dX0_isMove_19 : decode cX0_isMove 19 = .ok (.iload_n 1, 1) := by decide +kernel
theorem dX0_isMove_20 : decode cX0_isMove 20 = .ok (.bipush 6, 2) := by decide +kernel
theorem dX0_isMove_22 : decode cX0_isMove 22 = .ok (.irem, 1) := by decide +kernel
theorem dX0_isMove_23 : decode cX0_isMove 23 = .ok (.if_icmp .eq 7, 3) := by decide +kernel
theorem dX0_isMove_26 : decode cX0_isMove 26 = .ok (.iconst 1, 1) := by decide +kernel
theorem dX0_isMove_27 : decode cX0_isMove 27 = .ok (.goto 4, 3) := by decide +kernel
theorem dX0_isMove_30 : decode cX0_isMove 30 = .ok (.iconst 0, 1) := by decide +kernel
theorem dX0_isMove_31 : decode cX0_isMove 31 = .ok (.ireturn, 1) := by decide +kernel
theorem dX0_mayMend_0 : decode cX0_mayMend 0 = .ok (.iconst 1, 1) := by decide +kernel
theorem dX0_mayMend_1 : decode cX0_mayMend 1 = .ok (.aload_n 0, 1) := by decide +kernel
theorem dX0_mayMend_2 : decode cX0_mayMend 2 = .ok (.getfield 12, 3) := by decide +kernel
theorem dX0_mayMend_5 : decode cX0_mayMend 5 = .ok (.getfield 68, 3) := by decide +kernel
theorem dX0_mayMend_8 : decode cX0_mayMend 8 = .ok (.iload_n 1, 1) := by decide +kernel
theorem dX0_mayMend_9 : decode cX0_mayMend 9 = .ok (.iaload, 1) := by decide +kernel
theorem dX0_mayMend_10 : decode cX0_mayMend 10 = .ok (.ishl, 1) := by decide +kernel
theorem dX0_mayMend_11 : decode cX0_mayMend 11 = .ok (.iconst 1, 1) := by decide +kernel
theorem dX0_mayMend_12 : decode cX0_mayMend 12 = .ok (.aload_n 0, 1) := by decide +kernel
theorem dX0_mayMend_13 : decode cX0_mayMend 13 = .ok (.getfield 12, 3) := by decide +kernel
theorem dX0_mayMend_16 : decode cX0_mayMend 16 = .ok (.getfield 68, 3) := by decide +kernel
theorem dX0_mayMend_19 : decode cX0_mayMend 19 = .ok (.iload_n 2, 1) := by decide +kernel
theorem dX0_mayMend_20 : decode cX0_mayMend 20 = .ok (.iaload, 1) := by decide +kernel
theorem dX0_mayMend_21 : decode cX0_mayMend 21 = .ok (.ishl, 1) := by decide +kernel
theorem dX0_mayMend_22 : decode cX0_mayMend 22 = .ok (.ior, 1) := by decide +kernel
theorem dX0_mayMend_23 : decode cX0_mayMend 23 = .ok (.istore_n 3, 1) := by decide +kernel
theorem dX0_mayMend_24 : decode cX0_mayMend 24 = .ok (.aload_n 0, 1) := by decide +kernel
theorem dX0_mayMend_25 : decode cX0_mayMend 25 = .ok (.getfield 22, 3) := by decide +kernel
theorem dX0_mayMend_28 : decode cX0_mayMend 28 = .ok (.iload_n 3, 1) := by decide +kernel
theorem dX0_mayMend_29 : decode cX0_mayMend 29 = .ok (.iconst (-1), 1) := by decide +kernel
theorem dX0_mayMend_30 : decode cX0_mayMend 30 = .ok (.ixor, 1) := by decide +kernel
theorem dX0_mayMend_31 : decode cX0_mayMend 31 = .ok (.iand, 1) := by decide +kernel
theorem dX0_mayMend_32 : decode cX0_mayMend 32 = .ok (.ifCond .ne 7, 3) := by decide +kernel
theorem dX0_mayMend_35 : decode cX0_mayMend 35 = .ok (.iconst 1, 1) := by decide +kernel
theorem dX0_mayMend_36 : decode cX0_mayMend 36 = .ok (.goto 4, 3) := by decide +kernel
theorem dX0_mayMend_39 : decode cX0_mayMend 39 = .ok (.iconst 0, 1) := by decide +kernel
theorem dX0_mayMend_40 : decode cX0_mayMend 40 = .ok (.ireturn, 1) := by decide +kernel
theorem dX0_allHold_0 : decode cX0_allHold 0 = .ok (.aload_n 0, 1) := by decide +kernel
theorem dX0_allHold_1 : decode cX0_allHold 1 = .ok (.getfield 12, 3) := by decide +kernel
theorem dX0_allHold_4 : decode cX0_allHold 4 = .ok (.getfield 68, 3) := by decide +kernel
theorem dX0_allHold_7 : decode cX0_allHold 7 = .ok (.iload_n 1, 1) := by decide +kernel
theorem dX0_allHold_8 : decode cX0_allHold 8 = .ok (.iaload, 1) := by decide +kernel
theorem dX0_allHold_9 : decode cX0_allHold 9 = .ok (.istore_n 3, 1) := by decide +kernel
theorem dX0_allHold_10 : decode cX0_allHold 10 = .ok (.aload_n 0, 1) := by decide +kernel
theorem dX0_allHold_11 : decode cX0_allHold 11 = .ok (.getfield 12, 3) := by decide +kernel
theorem dX0_allHold_14 : decode cX0_allHold 14 = .ok (.getfield 68, 3) := by decide +kernel
theorem dX0_allHold_17 : decode cX0_allHold 17 = .ok (.iload_n 2, 1) := by decide +kernel
theorem dX0_allHold_18 : decode cX0_allHold 18 = .ok (.iaload, 1) := by decide +kernel
theorem dX0_allHold_19 : decode cX0_allHold 19 = .ok (.istore 4, 2) := by decide +kernel
theorem dX0_allHold_21 : decode cX0_allHold 21 = .ok (.aload_n 0, 1) := by decide +kernel
theorem dX0_allHold_22 : decode cX0_allHold 22 = .ok (.getfield 12, 3) := by decide +kernel
theorem dX0_allHold_25 : decode cX0_allHold 25 = .ok (.iload_n 3, 1) := by decide +kernel
theorem dX0_allHold_26 : decode cX0_allHold 26 = .ok (.invokevirtual 26, 3) := by decide +kernel
theorem dX0_allHold_29 : decode cX0_allHold 29 = .ok (.ifCond .ne 25, 3) := by decide +kernel
theorem dX0_allHold_32 : decode cX0_allHold 32 = .ok (.iload_n 3, 1) := by decide +kernel
theorem dX0_allHold_33 : decode cX0_allHold 33 = .ok (.iload 4, 2) := by decide +kernel
theorem dX0_allHold_35 : decode cX0_allHold 35 = .ok (.if_icmp .eq 15, 3) := by decide +kernel
theorem dX0_allHold_38 : decode cX0_allHold 38 = .ok (.aload_n 0, 1) := by decide +kernel
theorem dX0_allHold_39 : decode cX0_allHold 39 = .ok (.getfield 12, 3) := by decide +kernel
theorem dX0_allHold_42 : decode cX0_allHold 42 = .ok (.iload 4, 2) := by decide +kernel
theorem dX0_allHold_44 : decode cX0_allHold 44 = .ok (.invokevirtual 26, 3) := by decide +kernel
theorem dX0_allHold_47 : decode cX0_allHold 47 = .ok (.ifCond .ne 7, 3) := by decide +kernel
theorem dX0_allHold_50 : decode cX0_allHold 50 = .ok (.iconst 1, 1) := by decide +kernel
theorem dX0_allHold_51 : decode cX0_allHold 51 = .ok (.goto 4, 3) := by decide +kernel
theorem dX0_allHold_54 : decode cX0_allHold 54 = .ok (.iconst 0, 1) := by decide +kernel
theorem dX0_allHold_55 : decode cX0_allHold 55 = .ok (.ireturn, 1) := by decide +kernel
theorem dX1_init_0 : decode cX1_init 0 = .ok (.aload_n 0, 1) := by decide +kernel
theorem dX1_init_1 : decode cX1_init 1 = .ok (.invokespecial 3, 3) := by decide +kernel
theorem dX1_init_4 : decode cX1_init 4 = .ok (.aload_n 0, 1) := by decide +kernel
theorem dX1_init_5 : decode cX1_init 5 = .ok (.bipush 6, 2) := by decide +kernel
theorem dX1_init_7 : decode cX1_init 7 = .ok (.newarray .int, 2) := by decide +kernel
theorem dX1_init_9 : decode cX1_init 9 = .ok (.putfield 9, 3) := by decide +kernel
theorem dX1_init_12 : decode cX1_init 12 = .ok (.aload_n 0, 1) := by decide +kernel
theorem dX1_init_13 : decode cX1_init 13 = .ok (.bipush 14, 2) := by decide +kernel
theorem dX1_init_15 : decode cX1_init 15 = .ok (.newarray .int, 2) := by decide +kernel
theorem dX1_init_17 : decode cX1_init 17 = .ok (.putfield 15, 3) := by decide +kernel
theorem dX1_init_20 : decode cX1_init 20 = .ok (.aload_n 0, 1) := by decide +kernel
theorem dX1_init_21 : decode cX1_init 21 = .ok (.bipush 14, 2) := by decide +kernel
theorem dX1_init_23 : decode cX1_init 23 = .ok (.newarray .int, 2) := by decide +kernel
theorem dX1_init_25 : decode cX1_init 25 = .ok (.putfield 18, 3) := by decide +kernel
theorem dX1_init_28 : decode cX1_init 28 = .ok (.aload_n 0, 1) := by decide +kernel
theorem dX1_init_29 : decode cX1_init 29 = .ok (.bipush 14, 2) := by decide +kernel
theorem dX1_init_31 : decode cX1_init 31 = .ok (.newarray .int, 2) := by decide +kernel
theorem dX1_init_33 : decode cX1_init 33 = .ok (.putfield 21, 3) := by decide +kernel
theorem dX1_init_36 : decode cX1_init 36 = .ok (.aload_n 0, 1) := by decide +kernel
theorem dX1_init_37 : decode cX1_init 37 = .ok (.bipush 14, 2) := by decide +kernel
theorem dX1_init_39 : decode cX1_init 39 = .ok (.newarray .int, 2) := by decide +kernel
theorem dX1_init_41 : decode cX1_init 41 = .ok (.putfield 24, 3) := by decide +kernel
theorem dX1_init_44 : decode cX1_init 44 = .ok (.aload_n 0, 1) := by decide +kernel
theorem dX1_init_45 : decode cX1_init 45 = .ok (.bipush 12, 2) := by decide +kernel
theorem dX1_init_47 : decode cX1_init 47 = .ok (.newarray .int, 2) := by decide +kernel
theorem dX1_init_49 : decode cX1_init 49 = .ok (.putfield 27, 3) := by decide +kernel
theorem dX1_init_52 : decode cX1_init 52 = .ok (.aload_n 0, 1) := by decide +kernel
theorem dX1_init_53 : decode cX1_init 53 = .ok (.bipush 12, 2) := by decide +kernel
theorem dX1_init_55 : decode cX1_init 55 = .ok (.newarray .int, 2) := by decide +kernel
theorem dX1_init_57 : decode cX1_init 57 = .ok (.putfield 30, 3) := by decide +kernel
theorem dX1_init_60 : decode cX1_init 60 = .ok (.aload_n 0, 1) := by decide +kernel
theorem dX1_init_61 : decode cX1_init 61 = .ok (.bipush 12, 2) := by decide +kernel
theorem dX1_init_63 : decode cX1_init 63 = .ok (.newarray .int, 2) := by decide +kernel
theorem dX1_init_65 : decode cX1_init 65 = .ok (.putfield 33, 3) := by decide +kernel
theorem dX1_init_68 : decode cX1_init 68 = .ok (.aload_n 0, 1) := by decide +kernel
theorem dX1_init_69 : decode cX1_init 69 = .ok (.bipush 12, 2) := by decide +kernel
theorem dX1_init_71 : decode cX1_init 71 = .ok (.newarray .int, 2) := by decide +kernel
theorem dX1_init_73 : decode cX1_init 73 = .ok (.putfield 36, 3) := by decide +kernel
theorem dX1_init_76 : decode cX1_init 76 = .ok (.aload_n 0, 1) := by decide +kernel
theorem dX1_init_77 : decode cX1_init 77 = .ok (.bipush 6, 2) := by decide +kernel
theorem dX1_init_79 : decode cX1_init 79 = .ok (.newarray .int, 2) := by decide +kernel
theorem dX1_init_81 : decode cX1_init 81 = .ok (.putfield 39, 3) := by decide +kernel
theorem dX1_init_84 : decode cX1_init 84 = .ok (.return_, 1) := by decide +kernel
theorem dX1_become_0 : decode cX1_become 0 = .ok (.aload_n 1, 1) := by decide +kernel
theorem dX1_become_1 : decode cX1_become 1 = .ok (.getfield 9, 3) := by decide +kernel
theorem dX1_become_4 : decode cX1_become 4 = .ok (.iconst 0, 1) := by decide +kernel
theorem dX1_become_5 : decode cX1_become 5 = .ok (.aload_n 0, 1) := by decide +kernel
theorem dX1_become_6 : decode cX1_become 6 = .ok (.getfield 9, 3) := by decide +kernel
theorem dX1_become_9 : decode cX1_become 9 = .ok (.iconst 0, 1) := by decide +kernel
theorem dX1_become_10 : decode cX1_become 10 = .ok (.bipush 6, 2) := by decide +kernel
theorem dX1_become_12 : decode cX1_become 12 = .ok (.invokestatic 42, 3) := by decide +kernel
theorem dX1_become_15 : decode cX1_become 15 = .ok (.aload_n 1, 1) := by decide +kernel
theorem dX1_become_16 : decode cX1_become 16 = .ok (.getfield 15, 3) := by decide +kernel
theorem dX1_become_19 : decode cX1_become 19 = .ok (.iconst 0, 1) := by decide +kernel
theorem dX1_become_20 : decode cX1_become 20 = .ok (.aload_n 0, 1) := by decide +kernel
theorem dX1_become_21 : decode cX1_become 21 = .ok (.getfield 15, 3) := by decide +kernel
theorem dX1_become_24 : decode cX1_become 24 = .ok (.iconst 0, 1) := by decide +kernel
theorem dX1_become_25 : decode cX1_become 25 = .ok (.bipush 14, 2) := by decide +kernel
theorem dX1_become_27 : decode cX1_become 27 = .ok (.invokestatic 42, 3) := by decide +kernel
theorem dX1_become_30 : decode cX1_become 30 = .ok (.aload_n 1, 1) := by decide +kernel
theorem dX1_become_31 : decode cX1_become 31 = .ok (.getfield 18, 3) := by decide +kernel
theorem dX1_become_34 : decode cX1_become 34 = .ok (.iconst 0, 1) := by decide +kernel
theorem dX1_become_35 : decode cX1_become 35 = .ok (.aload_n 0, 1) := by decide +kernel
theorem dX1_become_36 : decode cX1_become 36 = .ok (.getfield 18, 3) := by decide +kernel
theorem dX1_become_39 : decode cX1_become 39 = .ok (.iconst 0, 1) := by decide +kernel
theorem dX1_become_40 : decode cX1_become 40 = .ok (.bipush 14, 2) := by decide +kernel
theorem dX1_become_42 : decode cX1_become 42 = .ok (.invokestatic 42, 3) := by decide +kernel
theorem dX1_become_45 : decode cX1_become 45 = .ok (.aload_n 1, 1) := by decide +kernel
theorem dX1_become_46 : decode cX1_become 46 = .ok (.getfield 21, 3) := by decide +kernel
theorem dX1_become_49 : decode cX1_become 49 = .ok (.iconst 0, 1) := by decide +kernel
theorem dX1_become_50 : decode cX1_become 50 = .ok (.aload_n 0, 1) := by decide +kernel
theorem dX1_become_51 : decode cX1_become 51 = .ok (.getfield 21, 3) := by decide +kernel
theorem dX1_become_54 : decode cX1_become 54 = .ok (.iconst 0, 1) := by decide +kernel
theorem dX1_become_55 : decode cX1_become 55 = .ok (.bipush 14, 2) := by decide +kernel
theorem dX1_become_57 : decode cX1_become 57 = .ok (.invokestatic 42, 3) := by decide +kernel
theorem dX1_become_60 : decode cX1_become 60 = .ok (.aload_n 1, 1) := by decide +kernel
theorem dX1_become_61 : decode cX1_become 61 = .ok (.getfield 24, 3) := by decide +kernel
theorem dX1_become_64 : decode cX1_become 64 = .ok (.iconst 0, 1) := by decide +kernel
theorem dX1_become_65 : decode cX1_become 65 = .ok (.aload_n 0, 1) := by decide +kernel
theorem dX1_become_66 : decode cX1_become 66 = .ok (.getfield 24, 3) := by decide +kernel
theorem dX1_become_69 : decode cX1_become 69 = .ok (.iconst 0, 1) := by decide +kernel
theorem dX1_become_70 : decode cX1_become 70 = .ok (.bipush 14, 2) := by decide +kernel
theorem dX1_become_72 : decode cX1_become 72 = .ok (.invokestatic 42, 3) := by decide +kernel
theorem dX1_become_75 : decode cX1_become 75 = .ok (.aload_n 1, 1) := by decide +kernel
theorem dX1_become_76 : decode cX1_become 76 = .ok (.getfield 27, 3) := by decide +kernel
theorem dX1_become_79 : decode cX1_become 79 = .ok (.iconst 0, 1) := by decide +kernel
theorem dX1_become_80 : decode cX1_become 80 = .ok (.aload_n 0, 1) := by decide +kernel
theorem dX1_become_81 : decode cX1_become 81 = .ok (.getfield 27, 3) := by decide +kernel
theorem dX1_become_84 : decode cX1_become 84 = .ok (.iconst 0, 1) := by decide +kernel
theorem dX1_become_85 : decode cX1_become 85 = .ok (.bipush 12, 2) := by decide +kernel
theorem dX1_become_87 : decode cX1_become 87 = .ok (.invokestatic 42, 3) := by decide +kernel
theorem dX1_become_90 : decode cX1_become 90 = .ok (.aload_n 1, 1) := by decide +kernel
theorem dX1_become_91 : decode cX1_become 91 = .ok (.getfield 30, 3) := by decide +kernel
theorem dX1_become_94 : decode cX1_become 94 = .ok (.iconst 0, 1) := by decide +kernel
theorem dX1_become_95 : decode cX1_become 95 = .ok (.aload_n 0, 1) := by decide +kernel
theorem dX1_become_96 : decode cX1_become 96 = .ok (.getfield 30, 3) := by decide +kernel
theorem dX1_become_99 : decode cX1_become 99 = .ok (.iconst 0, 1) := by decide +kernel
theorem dX1_become_100 : decode cX1_become 100 = .ok (.bipush 12, 2) := by decide +kernel
theorem dX1_become_102 : decode cX1_become 102 = .ok (.invokestatic 42, 3) := by decide +kernel
theorem dX1_become_105 : decode cX1_become 105 = .ok (.aload_n 1, 1) := by decide +kernel
theorem dX1_become_106 : decode cX1_become 106 = .ok (.getfield 33, 3) := by decide +kernel
theorem dX1_become_109 : decode cX1_become 109 = .ok (.iconst 0, 1) := by decide +kernel
theorem dX1_become_110 : decode cX1_become 110 = .ok (.aload_n 0, 1) := by decide +kernel
theorem dX1_become_111 : decode cX1_become 111 = .ok (.getfield 33, 3) := by decide +kernel
theorem dX1_become_114 : decode cX1_become 114 = .ok (.iconst 0, 1) := by decide +kernel
theorem dX1_become_115 : decode cX1_become 115 = .ok (.bipush 12, 2) := by decide +kernel
theorem dX1_become_117 : decode cX1_become 117 = .ok (.invokestatic 42, 3) := by decide +kernel
theorem dX1_become_120 : decode cX1_become 120 = .ok (.aload_n 1, 1) := by decide +kernel
theorem dX1_become_121 : decode cX1_become 121 = .ok (.getfield 36, 3) := by decide +kernel
theorem dX1_become_124 : decode cX1_become 124 = .ok (.iconst 0, 1) := by decide +kernel
theorem dX1_become_125 : decode cX1_become 125 = .ok (.aload_n 0, 1) := by decide +kernel
theorem dX1_become_126 : decode cX1_become 126 = .ok (.getfield 36, 3) := by decide +kernel
theorem dX1_become_129 : decode cX1_become 129 = .ok (.iconst 0, 1) := by decide +kernel
theorem dX1_become_130 : decode cX1_become 130 = .ok (.bipush 12, 2) := by decide +kernel
theorem dX1_become_132 : decode cX1_become 132 = .ok (.invokestatic 42, 3) := by decide +kernel
theorem dX1_become_135 : decode cX1_become 135 = .ok (.aload_n 0, 1) := by decide +kernel
theorem dX1_become_136 : decode cX1_become 136 = .ok (.aload_n 1, 1) := by decide +kernel
theorem dX1_become_137 : decode cX1_become 137 = .ok (.getfield 48, 3) := by decide +kernel
theorem dX1_become_140 : decode cX1_become 140 = .ok (.putfield 48, 3) := by decide +kernel
theorem dX1_become_143 : decode cX1_become 143 = .ok (.aload_n 0, 1) := by decide +kernel
theorem dX1_become_144 : decode cX1_become 144 = .ok (.aload_n 1, 1) := by decide +kernel
theorem dX1_become_145 : decode cX1_become 145 = .ok (.getfield 52, 3) := by decide +kernel
theorem dX1_become_148 : decode cX1_become 148 = .ok (.putfield 52, 3) := by decide +kernel
theorem dX1_become_151 : decode cX1_become 151 = .ok (.aload_n 0, 1) := by decide +kernel
theorem dX1_become_152 : decode cX1_become 152 = .ok (.aload_n 1, 1) := by decide +kernel
theorem dX1_become_153 : decode cX1_become 153 = .ok (.getfield 55, 3) := by decide +kernel
theorem dX1_become_156 : decode cX1_become 156 = .ok (.putfield 55, 3) := by decide +kernel
theorem dX1_become_159 : decode cX1_become 159 = .ok (.aload_n 0, 1) := by decide +kernel
theorem dX1_become_160 : decode cX1_become 160 = .ok (.aload_n 1, 1) := by decide +kernel
theorem dX1_become_161 : decode cX1_become 161 = .ok (.getfield 58, 3) := by decide +kernel
theorem dX1_become_164 : decode cX1_become 164 = .ok (.putfield 58, 3) := by decide +kernel
theorem dX1_become_167 : decode cX1_become 167 = .ok (.aload_n 0, 1) := by decide +kernel
theorem dX1_become_168 : decode cX1_become 168 = .ok (.aload_n 1, 1) := by decide +kernel
theorem dX1_become_169 : decode cX1_become 169 = .ok (.getfield 61, 3) := by decide +kernel
theorem dX1_become_172 : decode cX1_become 172 = .ok (.putfield 61, 3) := by decide +kernel
theorem dX1_become_175 : decode cX1_become 175 = .ok (.return_, 1) := by decide +kernel
theorem dX1_addChild_0 : decode cX1_addChild 0 = .ok (.aload_n 0, 1) := by decide +kernel
theorem dX1_addChild_1 : decode cX1_addChild 1 = .ok (.getfield 48, 3) := by decide +kernel
theorem dX1_addChild_4 : decode cX1_addChild 4 = .ok (.istore 5, 2) := by decide +kernel
theorem dX1_addChild_6 : decode cX1_addChild 6 = .ok (.aload_n 0, 1) := by decide +kernel
theorem dX1_addChild_7 : decode cX1_addChild 7 = .ok (.getfield 15, 3) := by decide +kernel
theorem dX1_addChild_10 : decode cX1_addChild 10 = .ok (.iload 5, 2) := by decide +kernel
theorem dX1_addChild_12 : decode cX1_addChild 12 = .ok (.iload_n 1, 1) := by decide +kernel
theorem dX1_addChild_13 : decode cX1_addChild 13 = .ok (.iastore, 1) := by decide +kernel
theorem dX1_addChild_14 : decode cX1_addChild 14 = .ok (.aload_n 0, 1) := by decide +kernel
theorem dX1_addChild_15 : decode cX1_addChild 15 = .ok (.getfield 18, 3) := by decide +kernel
theorem dX1_addChild_18 : decode cX1_addChild 18 = .ok (.iload 5, 2) := by decide +kernel
theorem dX1_addChild_20 : decode cX1_addChild 20 = .ok (.iload_n 2, 1) := by decide +kernel
theorem dX1_addChild_21 : decode cX1_addChild 21 = .ok (.iastore, 1) := by decide +kernel
theorem dX1_addChild_22 : decode cX1_addChild 22 = .ok (.aload_n 0, 1) := by decide +kernel
theorem dX1_addChild_23 : decode cX1_addChild 23 = .ok (.getfield 21, 3) := by decide +kernel
theorem dX1_addChild_26 : decode cX1_addChild 26 = .ok (.iload 5, 2) := by decide +kernel
theorem dX1_addChild_28 : decode cX1_addChild 28 = .ok (.iload_n 3, 1) := by decide +kernel
theorem dX1_addChild_29 : decode cX1_addChild 29 = .ok (.iastore, 1) := by decide +kernel
theorem dX1_addChild_30 : decode cX1_addChild 30 = .ok (.aload_n 0, 1) := by decide +kernel
theorem dX1_addChild_31 : decode cX1_addChild 31 = .ok (.getfield 24, 3) := by decide +kernel
theorem dX1_addChild_34 : decode cX1_addChild 34 = .ok (.iload 5, 2) := by decide +kernel
theorem dX1_addChild_36 : decode cX1_addChild 36 = .ok (.iload 4, 2) := by decide +kernel
theorem dX1_addChild_38 : decode cX1_addChild 38 = .ok (.iastore, 1) := by decide +kernel
theorem dX1_addChild_39 : decode cX1_addChild 39 = .ok (.aload_n 0, 1) := by decide +kernel
theorem dX1_addChild_40 : decode cX1_addChild 40 = .ok (.dup, 1) := by decide +kernel
theorem dX1_addChild_41 : decode cX1_addChild 41 = .ok (.getfield 48, 3) := by decide +kernel
theorem dX1_addChild_44 : decode cX1_addChild 44 = .ok (.iconst 1, 1) := by decide +kernel
theorem dX1_addChild_45 : decode cX1_addChild 45 = .ok (.iadd, 1) := by decide +kernel
theorem dX1_addChild_46 : decode cX1_addChild 46 = .ok (.putfield 48, 3) := by decide +kernel
theorem dX1_addChild_49 : decode cX1_addChild 49 = .ok (.iload 5, 2) := by decide +kernel
theorem dX1_addChild_51 : decode cX1_addChild 51 = .ok (.ireturn, 1) := by decide +kernel
theorem dX1_addTreaty_0 : decode cX1_addTreaty 0 = .ok (.aload_n 0, 1) := by decide +kernel
theorem dX1_addTreaty_1 : decode cX1_addTreaty 1 = .ok (.getfield 52, 3) := by decide +kernel
theorem dX1_addTreaty_4 : decode cX1_addTreaty 4 = .ok (.istore 5, 2) := by decide +kernel
theorem dX1_addTreaty_6 : decode cX1_addTreaty 6 = .ok (.aload_n 0, 1) := by decide +kernel
theorem dX1_addTreaty_7 : decode cX1_addTreaty 7 = .ok (.getfield 27, 3) := by decide +kernel
theorem dX1_addTreaty_10 : decode cX1_addTreaty 10 = .ok (.iload 5, 2) := by decide +kernel
theorem dX1_addTreaty_12 : decode cX1_addTreaty 12 = .ok (.iload_n 1, 1) := by decide +kernel
theorem dX1_addTreaty_13 : decode cX1_addTreaty 13 = .ok (.iastore, 1) := by decide +kernel
theorem dX1_addTreaty_14 : decode cX1_addTreaty 14 = .ok (.aload_n 0, 1) := by decide +kernel
theorem dX1_addTreaty_15 : decode cX1_addTreaty 15 = .ok (.getfield 30, 3) := by decide +kernel
theorem dX1_addTreaty_18 : decode cX1_addTreaty 18 = .ok (.iload 5, 2) := by decide +kernel
theorem dX1_addTreaty_20 : decode cX1_addTreaty 20 = .ok (.iload_n 2, 1) := by decide +kernel
theorem dX1_addTreaty_21 : decode cX1_addTreaty 21 = .ok (.iastore, 1) := by decide +kernel
theorem dX1_addTreaty_22 : decode cX1_addTreaty 22 = .ok (.aload_n 0, 1) := by decide +kernel
theorem dX1_addTreaty_23 : decode cX1_addTreaty 23 = .ok (.getfield 33, 3) := by decide +kernel
theorem dX1_addTreaty_26 : decode cX1_addTreaty 26 = .ok (.iload 5, 2) := by decide +kernel
theorem dX1_addTreaty_28 : decode cX1_addTreaty 28 = .ok (.iload_n 3, 1) := by decide +kernel
theorem dX1_addTreaty_29 : decode cX1_addTreaty 29 = .ok (.iastore, 1) := by decide +kernel
theorem dX1_addTreaty_30 : decode cX1_addTreaty 30 = .ok (.aload_n 0, 1) := by decide +kernel
theorem dX1_addTreaty_31 : decode cX1_addTreaty 31 = .ok (.getfield 36, 3) := by decide +kernel
theorem dX1_addTreaty_34 : decode cX1_addTreaty 34 = .ok (.iload 5, 2) := by decide +kernel
theorem dX1_addTreaty_36 : decode cX1_addTreaty 36 = .ok (.iload 4, 2) := by decide +kernel
theorem dX1_addTreaty_38 : decode cX1_addTreaty 38 = .ok (.iastore, 1) := by decide +kernel
theorem dX1_addTreaty_39 : decode cX1_addTreaty 39 = .ok (.aload_n 0, 1) := by decide +kernel
theorem dX1_addTreaty_40 : decode cX1_addTreaty 40 = .ok (.dup, 1) := by decide +kernel
theorem dX1_addTreaty_41 : decode cX1_addTreaty 41 = .ok (.getfield 52, 3) := by decide +kernel
theorem dX1_addTreaty_44 : decode cX1_addTreaty 44 = .ok (.iconst 1, 1) := by decide +kernel
theorem dX1_addTreaty_45 : decode cX1_addTreaty 45 = .ok (.iadd, 1) := by decide +kernel
theorem dX1_addTreaty_46 : decode cX1_addTreaty 46 = .ok (.putfield 52, 3) := by decide +kernel
theorem dX1_addTreaty_49 : decode cX1_addTreaty 49 = .ok (.iload 5, 2) := by decide +kernel
theorem dX1_addTreaty_51 : decode cX1_addTreaty 51 = .ok (.ireturn, 1) := by decide +kernel
theorem dX1_isDead_0 : decode cX1_isDead 0 = .ok (.aload_n 0, 1) := by decide +kernel
theorem dX1_isDead_1 : decode cX1_isDead 1 = .ok (.getfield 55, 3) := by decide +kernel
theorem dX1_isDead_4 : decode cX1_isDead 4 = .ok (.iload_n 1, 1) := by decide +kernel
theorem dX1_isDead_5 : decode cX1_isDead 5 = .ok (.ishr, 1) := by decide +kernel
theorem dX1_isDead_6 : decode cX1_isDead 6 = .ok (.iconst 1, 1) := by decide +kernel
theorem dX1_isDead_7 : decode cX1_isDead 7 = .ok (.iand, 1) := by decide +kernel
theorem dX1_isDead_8 : decode cX1_isDead 8 = .ok (.ifCond .eq 7, 3) := by decide +kernel
theorem dX1_isDead_11 : decode cX1_isDead 11 = .ok (.iconst 1, 1) := by decide +kernel
theorem dX1_isDead_12 : decode cX1_isDead 12 = .ok (.goto 4, 3) := by decide +kernel
theorem dX1_isDead_15 : decode cX1_isDead 15 = .ok (.iconst 0, 1) := by decide +kernel
theorem dX1_isDead_16 : decode cX1_isDead 16 = .ok (.ireturn, 1) := by decide +kernel
theorem dX1_isBroken_0 : decode cX1_isBroken 0 = .ok (.aload_n 0, 1) := by decide +kernel
theorem dX1_isBroken_1 : decode cX1_isBroken 1 = .ok (.getfield 58, 3) := by decide +kernel
theorem dX1_isBroken_4 : decode cX1_isBroken 4 = .ok (.iload_n 1, 1) := by decide +kernel
theorem dX1_isBroken_5 : decode cX1_isBroken 5 = .ok (.ishr, 1) := by decide +kernel
theorem dX1_isBroken_6 : decode cX1_isBroken 6 = .ok (.iconst 1, 1) := by decide +kernel
theorem dX1_isBroken_7 : decode cX1_isBroken 7 = .ok (.iand, 1) := by decide +kernel
theorem dX1_isBroken_8 : decode cX1_isBroken 8 = .ok (.ifCond .eq 7, 3) := by decide +kernel
theorem dX1_isBroken_11 : decode cX1_isBroken 11 = .ok (.iconst 1, 1) := by decide +kernel
theorem dX1_isBroken_12 : decode cX1_isBroken 12 = .ok (.goto 4, 3) := by decide +kernel
theorem dX1_isBroken_15 : decode cX1_isBroken 15 = .ok (.iconst 0, 1) := by decide +kernel
theorem dX1_isBroken_16 : decode cX1_isBroken 16 = .ok (.ireturn, 1) := by decide +kernel
theorem dX1_isInForce_0 : decode cX1_isInForce 0 = .ok (.aload_n 0, 1) := by decide +kernel
theorem dX1_isInForce_1 : decode cX1_isInForce 1 = .ok (.iload_n 1, 1) := by decide +kernel
theorem dX1_isInForce_2 : decode cX1_isInForce 2 = .ok (.invokevirtual 64, 3) := by decide +kernel
theorem dX1_isInForce_5 : decode cX1_isInForce 5 = .ok (.ifCond .ne 20, 3) := by decide +kernel
theorem dX1_isInForce_8 : decode cX1_isInForce 8 = .ok (.aload_n 0, 1) := by decide +kernel
theorem dX1_isInForce_9 : decode cX1_isInForce 9 = .ok (.getfield 61, 3) := by decide +kernel
theorem dX1_isInForce_12 : decode cX1_isInForce 12 = .ok (.aload_n 0, 1) := by decide +kernel
theorem dX1_isInForce_13 : decode cX1_isInForce 13 = .ok (.getfield 36, 3) := by decide +kernel
theorem dX1_isInForce_16 : decode cX1_isInForce 16 = .ok (.iload_n 1, 1) := by decide +kernel
theorem dX1_isInForce_17 : decode cX1_isInForce 17 = .ok (.iaload, 1) := by decide +kernel
theorem dX1_isInForce_18 : decode cX1_isInForce 18 = .ok (.if_icmp .gt 7, 3) := by decide +kernel
theorem dX1_isInForce_21 : decode cX1_isInForce 21 = .ok (.iconst 1, 1) := by decide +kernel
theorem dX1_isInForce_22 : decode cX1_isInForce 22 = .ok (.goto 4, 3) := by decide +kernel
theorem dX1_isInForce_25 : decode cX1_isInForce 25 = .ok (.iconst 0, 1) := by decide +kernel
theorem dX1_isInForce_26 : decode cX1_isInForce 26 = .ok (.ireturn, 1) := by decide +kernel
theorem dX1_lossOf_0 : decode cX1_lossOf 0 = .ok (.aload_n 0, 1) := by decide +kernel
theorem dX1_lossOf_1 : decode cX1_lossOf 1 = .ok (.aload_n 0, 1) := by decide +kernel
theorem dX1_lossOf_2 : decode cX1_lossOf 2 = .ok (.aload_n 0, 1) := by decide +kernel
theorem dX1_lossOf_3 : decode cX1_lossOf 3 = .ok (.getfield 18, 3) := by decide +kernel
theorem dX1_lossOf_6 : decode cX1_lossOf 6 = .ok (.iload_n 1, 1) := by decide +kernel
theorem dX1_lossOf_7 : decode cX1_lossOf 7 = .ok (.iaload, 1) := by decide +kernel
theorem dX1_lossOf_8 : decode cX1_lossOf 8 = .ok (.invokevirtual 68, 3) := by decide +kernel
theorem dX1_lossOf_11 : decode cX1_lossOf 11 = .ok (.iload_n 1, 1) := by decide +kernel
theorem dX1_lossOf_12 : decode cX1_lossOf 12 = .ok (.invokevirtual 72, 3) := by decide +kernel
theorem dX1_lossOf_15 : decode cX1_lossOf 15 = .ok (.ireturn, 1) := by decide +kernel
theorem dX1_lossBeside_0 : decode cX1_lossBeside 0 = .ok (.aload_n 0, 1) := by decide +kernel
theorem dX1_lossBeside_1 : decode cX1_lossBeside 1 = .ok (.iload_n 2, 1) := by decide +kernel
theorem dX1_lossBeside_2 : decode cX1_lossBeside 2 = .ok (.invokevirtual 76, 3) := by decide +kernel
theorem dX1_lossBeside_5 : decode cX1_lossBeside 5 = .ok (.ifCond .eq 5, 3) := by decide +kernel
theorem dX1_lossBeside_8 : decode cX1_lossBeside 8 = .ok (.iconst 0, 1) := by decide +kernel
theorem dX1_lossBeside_9 : decode cX1_lossBeside 9 = .ok (.ireturn, 1) := by decide +kernel
theorem dX1_lossBeside_10 : decode cX1_lossBeside 10 = .ok (.aload_n 0, 1) := by decide +kernel
theorem dX1_lossBeside_11 : decode cX1_lossBeside 11 = .ok (.getfield 24, 3) := by decide +kernel
theorem dX1_lossBeside_14 : decode cX1_lossBeside 14 = .ok (.iload_n 2, 1) := by decide +kernel
theorem dX1_lossBeside_15 : decode cX1_lossBeside 15 = .ok (.iaload, 1) := by decide +kernel
theorem dX1_lossBeside_16 : decode cX1_lossBeside 16 = .ok (.istore_n 3, 1) := by decide +kernel
theorem dX1_lossBeside_17 : decode cX1_lossBeside 17 = .ok (.aload_n 0, 1) := by decide +kernel
theorem dX1_lossBeside_18 : decode cX1_lossBeside 18 = .ok (.getfield 15, 3) := by decide +kernel
theorem dX1_lossBeside_21 : decode cX1_lossBeside 21 = .ok (.iload_n 2, 1) := by decide +kernel
theorem dX1_lossBeside_22 : decode cX1_lossBeside 22 = .ok (.iaload, 1) := by decide +kernel
theorem dX1_lossBeside_23 : decode cX1_lossBeside 23 = .ok (.tableswitch 76 1 5 #[33, 37, 41, 48, 58], 33) := by decide +kernel
theorem dX1_lossBeside_56 : decode cX1_lossBeside 56 = .ok (.iconst 2, 1) := by decide +kernel
theorem dX1_lossBeside_57 : decode cX1_lossBeside 57 = .ok (.iload_n 3, 1) := by decide +kernel
theorem dX1_lossBeside_58 : decode cX1_lossBeside 58 = .ok (.imul, 1) := by decide +kernel
theorem dX1_lossBeside_59 : decode cX1_lossBeside 59 = .ok (.ireturn, 1) := by decide +kernel
theorem dX1_lossBeside_60 : decode cX1_lossBeside 60 = .ok (.iload_n 3, 1) := by decide +kernel
theorem dX1_lossBeside_61 : decode cX1_lossBeside 61 = .ok (.iconst 2, 1) := by decide +kernel
theorem dX1_lossBeside_62 : decode cX1_lossBeside 62 = .ok (.idiv, 1) := by decide +kernel
theorem dX1_lossBeside_63 : decode cX1_lossBeside 63 = .ok (.ireturn, 1) := by decide +kernel
theorem dX1_lossBeside_64 : decode cX1_lossBeside 64 = .ok (.iconst 2, 1) := by decide +kernel
theorem dX1_lossBeside_65 : decode cX1_lossBeside 65 = .ok (.iload_n 3, 1) := by decide +kernel
theorem dX1_lossBeside_66 : decode cX1_lossBeside 66 = .ok (.imul, 1) := by decide +kernel
theorem dX1_lossBeside_67 : decode cX1_lossBeside 67 = .ok (.bipush 20, 2) := by decide +kernel
theorem dX1_lossBeside_69 : decode cX1_lossBeside 69 = .ok (.iadd, 1) := by decide +kernel
theorem dX1_lossBeside_70 : decode cX1_lossBeside 70 = .ok (.ireturn, 1) := by decide +kernel
theorem dX1_lossBeside_71 : decode cX1_lossBeside 71 = .ok (.iconst 0, 1) := by decide +kernel
theorem dX1_lossBeside_72 : decode cX1_lossBeside 72 = .ok (.iload_n 3, 1) := by decide +kernel
theorem dX1_lossBeside_73 : decode cX1_lossBeside 73 = .ok (.iconst 2, 1) := by decide +kernel
theorem dX1_lossBeside_74 : decode cX1_lossBeside 74 = .ok (.idiv, 1) := by decide +kernel
theorem dX1_lossBeside_75 : decode cX1_lossBeside 75 = .ok (.iconst 5, 1) := by decide +kernel
theorem dX1_lossBeside_76 : decode cX1_lossBeside 76 = .ok (.isub, 1) := by decide +kernel
theorem dX1_lossBeside_77 : decode cX1_lossBeside 77 = .ok (.invokestatic 79, 3) := by decide +kernel
theorem dX1_lossBeside_80 : decode cX1_lossBeside 80 = .ok (.ireturn, 1) := by decide +kernel
theorem dX1_lossBeside_81 : decode cX1_lossBeside 81 = .ok (.iload_n 1, 1) := by decide +kernel
theorem dX1_lossBeside_82 : decode cX1_lossBeside 82 = .ok (.iconst 1, 1) := by decide +kernel
theorem dX1_lossBeside_83 : decode cX1_lossBeside 83 = .ok (.iload_n 2, 1) := by decide +kernel
theorem dX1_lossBeside_84 : decode cX1_lossBeside 84 = .ok (.ishl, 1) := by decide +kernel
theorem dX1_lossBeside_85 : decode cX1_lossBeside 85 = .ok (.iconst (-1), 1) := by decide +kernel
theorem dX1_lossBeside_86 : decode cX1_lossBeside 86 = .ok (.ixor, 1) := by decide +kernel
theorem dX1_lossBeside_87 : decode cX1_lossBeside 87 = .ok (.iand, 1) := by decide +kernel
theorem dX1_lossBeside_88 : decode cX1_lossBeside 88 = .ok (.ifCond .eq 7, 3) := by decide +kernel
theorem dX1_lossBeside_91 : decode cX1_lossBeside 91 = .ok (.iload_n 3, 1) := by decide +kernel
theorem dX1_lossBeside_92 : decode cX1_lossBeside 92 = .ok (.goto 6, 3) := by decide +kernel
theorem dX1_lossBeside_95 : decode cX1_lossBeside 95 = .ok (.iconst 2, 1) := by decide +kernel
theorem dX1_lossBeside_96 : decode cX1_lossBeside 96 = .ok (.iload_n 3, 1) := by decide +kernel
theorem dX1_lossBeside_97 : decode cX1_lossBeside 97 = .ok (.imul, 1) := by decide +kernel
theorem dX1_lossBeside_98 : decode cX1_lossBeside 98 = .ok (.ireturn, 1) := by decide +kernel
theorem dX1_lossBeside_99 : decode cX1_lossBeside 99 = .ok (.iload_n 3, 1) := by decide +kernel
theorem dX1_lossBeside_100 : decode cX1_lossBeside 100 = .ok (.ireturn, 1) := by decide +kernel
theorem dX1_twinsAtHome_0 : decode cX1_twinsAtHome 0 = .ok (.iconst 0, 1) := by decide +kernel
theorem dX1_twinsAtHome_1 : decode cX1_twinsAtHome 1 = .ok (.istore_n 2, 1) := by decide +kernel
theorem dX1_twinsAtHome_2 : decode cX1_twinsAtHome 2 = .ok (.iconst 0, 1) := by decide +kernel
theorem dX1_twinsAtHome_3 : decode cX1_twinsAtHome 3 = .ok (.istore_n 3, 1) := by decide +kernel
theorem dX1_twinsAtHome_4 : decode cX1_twinsAtHome 4 = .ok (.iload_n 3, 1) := by decide +kernel
theorem dX1_twinsAtHome_5 : decode cX1_twinsAtHome 5 = .ok (.aload_n 0, 1) := by decide +kernel
theorem dX1_twinsAtHome_6 : decode cX1_twinsAtHome 6 = .ok (.getfield 48, 3) := by decide +kernel
theorem dX1_twinsAtHome_9 : decode cX1_twinsAtHome 9 = .ok (.if_icmp .ge 53, 3) := by decide +kernel
theorem dX1_twinsAtHome_12 : decode cX1_twinsAtHome 12 = .ok (.aload_n 0, 1) := by decide +kernel
theorem dX1_twinsAtHome_13 : decode cX1_twinsAtHome 13 = .ok (.getfield 15, 3) := by decide +kernel
theorem dX1_twinsAtHome_16 : decode cX1_twinsAtHome 16 = .ok (.iload_n 3, 1) := by decide +kernel
theorem dX1_twinsAtHome_17 : decode cX1_twinsAtHome 17 = .ok (.iaload, 1) := by decide +kernel
theorem dX1_twinsAtHome_18 : decode cX1_twinsAtHome 18 = .ok (.iconst 5, 1) := by decide +kernel
theorem dX1_twinsAtHome_19 : decode cX1_twinsAtHome 19 = .ok (.if_icmp .ne 37, 3) := by decide +kernel
theorem dX1_twinsAtHome_22 : decode cX1_twinsAtHome 22 = .ok (.aload_n 0, 1) := by decide +kernel
theorem dX1_twinsAtHome_23 : decode cX1_twinsAtHome 23 = .ok (.getfield 18, 3) := by decide +kernel
theorem dX1_twinsAtHome_26 : decode cX1_twinsAtHome 26 = .ok (.iload_n 3, 1) := by decide +kernel
theorem dX1_twinsAtHome_27 : decode cX1_twinsAtHome 27 = .ok (.iaload, 1) := by decide +kernel
theorem dX1_twinsAtHome_28 : decode cX1_twinsAtHome 28 = .ok (.iload_n 1, 1) := by decide +kernel
theorem dX1_twinsAtHome_29 : decode cX1_twinsAtHome 29 = .ok (.if_icmp .ne 27, 3) := by decide +kernel
theorem dX1_twinsAtHome_32 : decode cX1_twinsAtHome 32 = .ok (.aload_n 0, 1) := by decide +kernel
theorem dX1_twinsAtHome_33 : decode cX1_twinsAtHome 33 = .ok (.getfield 21, 3) := by decide +kernel
theorem dX1_twinsAtHome_36 : decode cX1_twinsAtHome 36 = .ok (.iload_n 3, 1) := by decide +kernel
theorem dX1_twinsAtHome_37 : decode cX1_twinsAtHome 37 = .ok (.iaload, 1) := by decide +kernel
theorem dX1_twinsAtHome_38 : decode cX1_twinsAtHome 38 = .ok (.iload_n 1, 1) := by decide +kernel
theorem dX1_twinsAtHome_39 : decode cX1_twinsAtHome 39 = .ok (.if_icmp .ne 17, 3) := by decide +kernel
theorem dX1_twinsAtHome_42 : decode cX1_twinsAtHome 42 = .ok (.aload_n 0, 1) := by decide +kernel
theorem dX1_twinsAtHome_43 : decode cX1_twinsAtHome 43 = .ok (.iload_n 3, 1) := by decide +kernel
theorem dX1_twinsAtHome_44 : decode cX1_twinsAtHome 44 = .ok (.invokevirtual 76, 3) := by decide +kernel
theorem dX1_twinsAtHome_47 : decode cX1_twinsAtHome 47 = .ok (.ifCond .ne 9, 3) := by decide +kernel
theorem dX1_twinsAtHome_50 : decode cX1_twinsAtHome 50 = .ok (.iload_n 2, 1) := by decide +kernel
theorem dX1_twinsAtHome_51 : decode cX1_twinsAtHome 51 = .ok (.iconst 1, 1) := by decide +kernel
theorem dX1_twinsAtHome_52 : decode cX1_twinsAtHome 52 = .ok (.iload_n 3, 1) := by decide +kernel
theorem dX1_twinsAtHome_53 : decode cX1_twinsAtHome 53 = .ok (.ishl, 1) := by decide +kernel
theorem dX1_twinsAtHome_54 : decode cX1_twinsAtHome 54 = .ok (.ior, 1) := by decide +kernel
theorem dX1_twinsAtHome_55 : decode cX1_twinsAtHome 55 = .ok (.istore_n 2, 1) := by decide +kernel
theorem dX1_twinsAtHome_56 : decode cX1_twinsAtHome 56 = .ok (.iinc 3 1, 3) := by decide +kernel
theorem dX1_twinsAtHome_59 : decode cX1_twinsAtHome 59 = .ok (.goto (-55), 3) := by decide +kernel
theorem dX1_twinsAtHome_62 : decode cX1_twinsAtHome 62 = .ok (.iload_n 2, 1) := by decide +kernel
theorem dX1_twinsAtHome_63 : decode cX1_twinsAtHome 63 = .ok (.ireturn, 1) := by decide +kernel
theorem dX1_rolledHolder_0 : decode cX1_rolledHolder 0 = .ok (.aload_n 0, 1) := by decide +kernel
theorem dX1_rolledHolder_1 : decode cX1_rolledHolder 1 = .ok (.iload_n 1, 1) := by decide +kernel
theorem dX1_rolledHolder_2 : decode cX1_rolledHolder 2 = .ok (.invokevirtual 76, 3) := by decide +kernel
theorem dX1_rolledHolder_5 : decode cX1_rolledHolder 5 = .ok (.ifCond .eq 7, 3) := by decide +kernel
theorem dX1_rolledHolder_8 : decode cX1_rolledHolder 8 = .ok (.iconst (-1), 1) := by decide +kernel
theorem dX1_rolledHolder_9 : decode cX1_rolledHolder 9 = .ok (.goto 9, 3) := by decide +kernel
theorem dX1_rolledHolder_12 : decode cX1_rolledHolder 12 = .ok (.aload_n 0, 1) := by decide +kernel
theorem dX1_rolledHolder_13 : decode cX1_rolledHolder 13 = .ok (.getfield 21, 3) := by decide +kernel
theorem dX1_rolledHolder_16 : decode cX1_rolledHolder 16 = .ok (.iload_n 1, 1) := by decide +kernel
theorem dX1_rolledHolder_17 : decode cX1_rolledHolder 17 = .ok (.iaload, 1) := by decide +kernel
theorem dX1_rolledHolder_18 : decode cX1_rolledHolder 18 = .ok (.ireturn, 1) := by decide +kernel
theorem dX1_living_0 : decode cX1_living 0 = .ok (.iconst 1, 1) := by decide +kernel
theorem dX1_living_1 : decode cX1_living 1 = .ok (.aload_n 0, 1) := by decide +kernel
theorem dX1_living_2 : decode cX1_living 2 = .ok (.getfield 48, 3) := by decide +kernel
theorem dX1_living_5 : decode cX1_living 5 = .ok (.ishl, 1) := by decide +kernel
theorem dX1_living_6 : decode cX1_living 6 = .ok (.iconst 1, 1) := by decide +kernel
theorem dX1_living_7 : decode cX1_living 7 = .ok (.isub, 1) := by decide +kernel
theorem dX1_living_8 : decode cX1_living 8 = .ok (.aload_n 0, 1) := by decide +kernel
theorem dX1_living_9 : decode cX1_living 9 = .ok (.getfield 55, 3) := by decide +kernel
theorem dX1_living_12 : decode cX1_living 12 = .ok (.iconst (-1), 1) := by decide +kernel
theorem dX1_living_13 : decode cX1_living 13 = .ok (.ixor, 1) := by decide +kernel
theorem dX1_living_14 : decode cX1_living 14 = .ok (.iand, 1) := by decide +kernel
theorem dX1_living_15 : decode cX1_living 15 = .ok (.ireturn, 1) := by decide +kernel
theorem dX1_livingAtHome_0 : decode cX1_livingAtHome 0 = .ok (.iconst 0, 1) := by decide +kernel
theorem dX1_livingAtHome_1 : decode cX1_livingAtHome 1 = .ok (.istore_n 1, 1) := by decide +kernel
theorem dX1_livingAtHome_2 : decode cX1_livingAtHome 2 = .ok (.iconst 0, 1) := by decide +kernel
theorem dX1_livingAtHome_3 : decode cX1_livingAtHome 3 = .ok (.istore_n 2, 1) := by decide +kernel
theorem dX1_livingAtHome_4 : decode cX1_livingAtHome 4 = .ok (.iload_n 2, 1) := by decide +kernel
theorem dX1_livingAtHome_5 : decode cX1_livingAtHome 5 = .ok (.bipush 6, 2) := by decide +kernel
theorem dX1_livingAtHome_7 : decode cX1_livingAtHome 7 = .ok (.if_icmp .ge 18, 3) := by decide +kernel
theorem dX1_livingAtHome_10 : decode cX1_livingAtHome 10 = .ok (.iload_n 1, 1) := by decide +kernel
theorem dX1_livingAtHome_11 : decode cX1_livingAtHome 11 = .ok (.aload_n 0, 1) := by decide +kernel
theorem dX1_livingAtHome_12 : decode cX1_livingAtHome 12 = .ok (.iload_n 2, 1) := by decide +kernel
theorem dX1_livingAtHome_13 : decode cX1_livingAtHome 13 = .ok (.iload_n 2, 1) := by decide +kernel
theorem dX1_livingAtHome_14 : decode cX1_livingAtHome 14 = .ok (.invokevirtual 84, 3) := by decide +kernel
theorem dX1_livingAtHome_17 : decode cX1_livingAtHome 17 = .ok (.ior, 1) := by decide +kernel
theorem dX1_livingAtHome_18 : decode cX1_livingAtHome 18 = .ok (.istore_n 1, 1) := by decide +kernel
theorem dX1_livingAtHome_19 : decode cX1_livingAtHome 19 = .ok (.iinc 2 1, 3) := by decide +kernel
theorem dX1_livingAtHome_22 : decode cX1_livingAtHome 22 = .ok (.goto (-18), 3) := by decide +kernel
theorem dX1_livingAtHome_25 : decode cX1_livingAtHome 25 = .ok (.iload_n 1, 1) := by decide +kernel
theorem dX1_livingAtHome_26 : decode cX1_livingAtHome 26 = .ok (.ireturn, 1) := by decide +kernel
theorem dX1_childrenOf_0 : decode cX1_childrenOf 0 = .ok (.iconst 0, 1) := by decide +kernel
theorem dX1_childrenOf_1 : decode cX1_childrenOf 1 = .ok (.istore_n 2, 1) := by decide +kernel
theorem dX1_childrenOf_2 : decode cX1_childrenOf 2 = .ok (.iconst 0, 1) := by decide +kernel
theorem dX1_childrenOf_3 : decode cX1_childrenOf 3 = .ok (.istore_n 3, 1) := by decide +kernel
theorem dX1_childrenOf_4 : decode cX1_childrenOf 4 = .ok (.iload_n 3, 1) := by decide +kernel
theorem dX1_childrenOf_5 : decode cX1_childrenOf 5 = .ok (.aload_n 0, 1) := by decide +kernel
theorem dX1_childrenOf_6 : decode cX1_childrenOf 6 = .ok (.getfield 48, 3) := by decide +kernel
theorem dX1_childrenOf_9 : decode cX1_childrenOf 9 = .ok (.if_icmp .ge 33, 3) := by decide +kernel
theorem dX1_childrenOf_12 : decode cX1_childrenOf 12 = .ok (.aload_n 0, 1) := by decide +kernel
theorem dX1_childrenOf_13 : decode cX1_childrenOf 13 = .ok (.getfield 18, 3) := by decide +kernel
theorem dX1_childrenOf_16 : decode cX1_childrenOf 16 = .ok (.iload_n 3, 1) := by decide +kernel
theorem dX1_childrenOf_17 : decode cX1_childrenOf 17 = .ok (.iaload, 1) := by decide +kernel
theorem dX1_childrenOf_18 : decode cX1_childrenOf 18 = .ok (.iload_n 1, 1) := by decide +kernel
theorem dX1_childrenOf_19 : decode cX1_childrenOf 19 = .ok (.if_icmp .ne 17, 3) := by decide +kernel
theorem dX1_childrenOf_22 : decode cX1_childrenOf 22 = .ok (.aload_n 0, 1) := by decide +kernel
theorem dX1_childrenOf_23 : decode cX1_childrenOf 23 = .ok (.iload_n 3, 1) := by decide +kernel
theorem dX1_childrenOf_24 : decode cX1_childrenOf 24 = .ok (.invokevirtual 76, 3) := by decide +kernel
theorem dX1_childrenOf_27 : decode cX1_childrenOf 27 = .ok (.ifCond .ne 9, 3) := by decide +kernel
theorem dX1_childrenOf_30 : decode cX1_childrenOf 30 = .ok (.iload_n 2, 1) := by decide +kernel
theorem dX1_childrenOf_31 : decode cX1_childrenOf 31 = .ok (.iconst 1, 1) := by decide +kernel
theorem dX1_childrenOf_32 : decode cX1_childrenOf 32 = .ok (.iload_n 3, 1) := by decide +kernel
theorem dX1_childrenOf_33 : decode cX1_childrenOf 33 = .ok (.ishl, 1) := by decide +kernel
theorem dX1_childrenOf_34 : decode cX1_childrenOf 34 = .ok (.ior, 1) := by decide +kernel
theorem dX1_childrenOf_35 : decode cX1_childrenOf 35 = .ok (.istore_n 2, 1) := by decide +kernel
theorem dX1_childrenOf_36 : decode cX1_childrenOf 36 = .ok (.iinc 3 1, 3) := by decide +kernel
theorem dX1_childrenOf_39 : decode cX1_childrenOf 39 = .ok (.goto (-35), 3) := by decide +kernel
theorem dX1_childrenOf_42 : decode cX1_childrenOf 42 = .ok (.iload_n 2, 1) := by decide +kernel
theorem dX1_childrenOf_43 : decode cX1_childrenOf 43 = .ok (.ireturn, 1) := by decide +kernel
theorem dX1_heldFromOthers_0 : decode cX1_heldFromOthers 0 = .ok (.iconst 0, 1) := by decide +kernel
theorem dX1_heldFromOthers_1 : decode cX1_heldFromOthers 1 = .ok (.istore_n 2, 1) := by decide +kernel
theorem dX1_heldFromOthers_2 : decode cX1_heldFromOthers 2 = .ok (.iconst 0, 1) := by decide +kernel
theorem dX1_heldFromOthers_3 : decode cX1_heldFromOthers 3 = .ok (.istore_n 3, 1) := by decide +kernel
theorem dX1_heldFromOthers_4 : decode cX1_heldFromOthers 4 = .ok (.iload_n 3, 1) := by decide +kernel
theorem dX1_heldFromOthers_5 : decode cX1_heldFromOthers 5 = .ok (.aload_n 0, 1) := by decide +kernel
theorem dX1_heldFromOthers_6 : decode cX1_heldFromOthers 6 = .ok (.getfield 48, 3) := by decide +kernel
theorem dX1_heldFromOthers_9 : decode cX1_heldFromOthers 9 = .ok (.if_icmp .ge 43, 3) := by decide +kernel
theorem dX1_heldFromOthers_12 : decode cX1_heldFromOthers 12 = .ok (.aload_n 0, 1) := by decide +kernel
theorem dX1_heldFromOthers_13 : decode cX1_heldFromOthers 13 = .ok (.getfield 21, 3) := by decide +kernel
theorem dX1_heldFromOthers_16 : decode cX1_heldFromOthers 16 = .ok (.iload_n 3, 1) := by decide +kernel
theorem dX1_heldFromOthers_17 : decode cX1_heldFromOthers 17 = .ok (.iaload, 1) := by decide +kernel
theorem dX1_heldFromOthers_18 : decode cX1_heldFromOthers 18 = .ok (.iload_n 1, 1) := by decide +kernel
theorem dX1_heldFromOthers_19 : decode cX1_heldFromOthers 19 = .ok (.if_icmp .ne 27, 3) := by decide +kernel
theorem dX1_heldFromOthers_22 : decode cX1_heldFromOthers 22 = .ok (.aload_n 0, 1) := by decide +kernel
theorem dX1_heldFromOthers_23 : decode cX1_heldFromOthers 23 = .ok (.getfield 18, 3) := by decide +kernel
theorem dX1_heldFromOthers_26 : decode cX1_heldFromOthers 26 = .ok (.iload_n 3, 1) := by decide +kernel
theorem dX1_heldFromOthers_27 : decode cX1_heldFromOthers 27 = .ok (.iaload, 1) := by decide +kernel
theorem dX1_heldFromOthers_28 : decode cX1_heldFromOthers 28 = .ok (.iload_n 1, 1) := by decide +kernel
theorem dX1_heldFromOthers_29 : decode cX1_heldFromOthers 29 = .ok (.if_icmp .eq 17, 3) := by decide +kernel
theorem dX1_heldFromOthers_32 : decode cX1_heldFromOthers 32 = .ok (.aload_n 0, 1) := by decide +kernel
theorem dX1_heldFromOthers_33 : decode cX1_heldFromOthers 33 = .ok (.iload_n 3, 1) := by decide +kernel
theorem dX1_heldFromOthers_34 : decode cX1_heldFromOthers 34 = .ok (.invokevirtual 76, 3) := by decide +kernel
theorem dX1_heldFromOthers_37 : decode cX1_heldFromOthers 37 = .ok (.ifCond .ne 9, 3) := by decide +kernel
theorem dX1_heldFromOthers_40 : decode cX1_heldFromOthers 40 = .ok (.iload_n 2, 1) := by decide +kernel
theorem dX1_heldFromOthers_41 : decode cX1_heldFromOthers 41 = .ok (.iconst 1, 1) := by decide +kernel
theorem dX1_heldFromOthers_42 : decode cX1_heldFromOthers 42 = .ok (.iload_n 3, 1) := by decide +kernel
theorem dX1_heldFromOthers_43 : decode cX1_heldFromOthers 43 = .ok (.ishl, 1) := by decide +kernel
theorem dX1_heldFromOthers_44 : decode cX1_heldFromOthers 44 = .ok (.ior, 1) := by decide +kernel
theorem dX1_heldFromOthers_45 : decode cX1_heldFromOthers 45 = .ok (.istore_n 2, 1) := by decide +kernel
theorem dX1_heldFromOthers_46 : decode cX1_heldFromOthers 46 = .ok (.iinc 3 1, 3) := by decide +kernel
theorem dX1_heldFromOthers_49 : decode cX1_heldFromOthers 49 = .ok (.goto (-45), 3) := by decide +kernel
theorem dX1_heldFromOthers_52 : decode cX1_heldFromOthers 52 = .ok (.iload_n 2, 1) := by decide +kernel
theorem dX1_heldFromOthers_53 : decode cX1_heldFromOthers 53 = .ok (.ireturn, 1) := by decide +kernel
theorem dX1_heldBy_0 : decode cX1_heldBy 0 = .ok (.iconst 0, 1) := by decide +kernel
theorem dX1_heldBy_1 : decode cX1_heldBy 1 = .ok (.istore_n 3, 1) := by decide +kernel
theorem dX1_heldBy_2 : decode cX1_heldBy 2 = .ok (.iconst 0, 1) := by decide +kernel
theorem dX1_heldBy_3 : decode cX1_heldBy 3 = .ok (.istore 4, 2) := by decide +kernel
theorem dX1_heldBy_5 : decode cX1_heldBy 5 = .ok (.iload 4, 2) := by decide +kernel
theorem dX1_heldBy_7 : decode cX1_heldBy 7 = .ok (.aload_n 0, 1) := by decide +kernel
theorem dX1_heldBy_8 : decode cX1_heldBy 8 = .ok (.getfield 48, 3) := by decide +kernel
theorem dX1_heldBy_11 : decode cX1_heldBy 11 = .ok (.if_icmp .ge 47, 3) := by decide +kernel
theorem dX1_heldBy_14 : decode cX1_heldBy 14 = .ok (.aload_n 0, 1) := by decide +kernel
theorem dX1_heldBy_15 : decode cX1_heldBy 15 = .ok (.getfield 21, 3) := by decide +kernel
theorem dX1_heldBy_18 : decode cX1_heldBy 18 = .ok (.iload 4, 2) := by decide +kernel
theorem dX1_heldBy_20 : decode cX1_heldBy 20 = .ok (.iaload, 1) := by decide +kernel
theorem dX1_heldBy_21 : decode cX1_heldBy 21 = .ok (.iload_n 1, 1) := by decide +kernel
theorem dX1_heldBy_22 : decode cX1_heldBy 22 = .ok (.if_icmp .ne 30, 3) := by decide +kernel
theorem dX1_heldBy_25 : decode cX1_heldBy 25 = .ok (.aload_n 0, 1) := by decide +kernel
theorem dX1_heldBy_26 : decode cX1_heldBy 26 = .ok (.getfield 18, 3) := by decide +kernel
theorem dX1_heldBy_29 : decode cX1_heldBy 29 = .ok (.iload 4, 2) := by decide +kernel
theorem dX1_heldBy_31 : decode cX1_heldBy 31 = .ok (.iaload, 1) := by decide +kernel
theorem dX1_heldBy_32 : decode cX1_heldBy 32 = .ok (.iload_n 2, 1) := by decide +kernel
theorem dX1_heldBy_33 : decode cX1_heldBy 33 = .ok (.if_icmp .ne 19, 3) := by decide +kernel
theorem dX1_heldBy_36 : decode cX1_heldBy 36 = .ok (.aload_n 0, 1) := by decide +kernel
theorem dX1_heldBy_37 : decode cX1_heldBy 37 = .ok (.iload 4, 2) := by decide +kernel
theorem dX1_heldBy_39 : decode cX1_heldBy 39 = .ok (.invokevirtual 76, 3) := by decide +kernel
theorem dX1_heldBy_42 : decode cX1_heldBy 42 = .ok (.ifCond .ne 10, 3) := by decide +kernel
theorem dX1_heldBy_45 : decode cX1_heldBy 45 = .ok (.iload_n 3, 1) := by decide +kernel
theorem dX1_heldBy_46 : decode cX1_heldBy 46 = .ok (.iconst 1, 1) := by decide +kernel
theorem dX1_heldBy_47 : decode cX1_heldBy 47 = .ok (.iload 4, 2) := by decide +kernel
theorem dX1_heldBy_49 : decode cX1_heldBy 49 = .ok (.ishl, 1) := by decide +kernel
theorem dX1_heldBy_50 : decode cX1_heldBy 50 = .ok (.ior, 1) := by decide +kernel
theorem dX1_heldBy_51 : decode cX1_heldBy 51 = .ok (.istore_n 3, 1) := by decide +kernel
theorem dX1_heldBy_52 : decode cX1_heldBy 52 = .ok (.iinc 4 1, 3) := by decide +kernel
theorem dX1_heldBy_55 : decode cX1_heldBy 55 = .ok (.goto (-50), 3) := by decide +kernel
theorem dX1_heldBy_58 : decode cX1_heldBy 58 = .ok (.iload_n 3, 1) := by decide +kernel
theorem dX1_heldBy_59 : decode cX1_heldBy 59 = .ok (.ireturn, 1) := by decide +kernel
theorem dX1_pledgeHeld_0 : decode cX1_pledgeHeld 0 = .ok (.iconst 0, 1) := by decide +kernel
theorem dX1_pledgeHeld_1 : decode cX1_pledgeHeld 1 = .ok (.istore_n 3, 1) := by decide +kernel
theorem dX1_pledgeHeld_2 : decode cX1_pledgeHeld 2 = .ok (.iconst 0, 1) := by decide +kernel
theorem dX1_pledgeHeld_3 : decode cX1_pledgeHeld 3 = .ok (.istore 4, 2) := by decide +kernel
theorem dX1_pledgeHeld_5 : decode cX1_pledgeHeld 5 = .ok (.iload 4, 2) := by decide +kernel
theorem dX1_pledgeHeld_7 : decode cX1_pledgeHeld 7 = .ok (.aload_n 0, 1) := by decide +kernel
theorem dX1_pledgeHeld_8 : decode cX1_pledgeHeld 8 = .ok (.getfield 48, 3) := by decide +kernel
theorem dX1_pledgeHeld_11 : decode cX1_pledgeHeld 11 = .ok (.if_icmp .ge 40, 3) := by decide +kernel
theorem dX1_pledgeHeld_14 : decode cX1_pledgeHeld 14 = .ok (.aload_n 0, 1) := by decide +kernel
theorem dX1_pledgeHeld_15 : decode cX1_pledgeHeld 15 = .ok (.getfield 21, 3) := by decide +kernel
theorem dX1_pledgeHeld_18 : decode cX1_pledgeHeld 18 = .ok (.iload 4, 2) := by decide +kernel
theorem dX1_pledgeHeld_20 : decode cX1_pledgeHeld 20 = .ok (.iaload, 1) := by decide +kernel
theorem dX1_pledgeHeld_21 : decode cX1_pledgeHeld 21 = .ok (.iload_n 1, 1) := by decide +kernel
theorem dX1_pledgeHeld_22 : decode cX1_pledgeHeld 22 = .ok (.if_icmp .ne 23, 3) := by decide +kernel
theorem dX1_pledgeHeld_25 : decode cX1_pledgeHeld 25 = .ok (.aload_n 0, 1) := by decide +kernel
theorem dX1_pledgeHeld_26 : decode cX1_pledgeHeld 26 = .ok (.getfield 18, 3) := by decide +kernel
theorem dX1_pledgeHeld_29 : decode cX1_pledgeHeld 29 = .ok (.iload 4, 2) := by decide +kernel
theorem dX1_pledgeHeld_31 : decode cX1_pledgeHeld 31 = .ok (.iaload, 1) := by decide +kernel
theorem dX1_pledgeHeld_32 : decode cX1_pledgeHeld 32 = .ok (.iload_n 2, 1) := by decide +kernel
theorem dX1_pledgeHeld_33 : decode cX1_pledgeHeld 33 = .ok (.if_icmp .ne 12, 3) := by decide +kernel
theorem dX1_pledgeHeld_36 : decode cX1_pledgeHeld 36 = .ok (.iload_n 3, 1) := by decide +kernel
theorem dX1_pledgeHeld_37 : decode cX1_pledgeHeld 37 = .ok (.aload_n 0, 1) := by decide +kernel
theorem dX1_pledgeHeld_38 : decode cX1_pledgeHeld 38 = .ok (.iload 4, 2) := by decide +kernel
theorem dX1_pledgeHeld_40 : decode cX1_pledgeHeld 40 = .ok (.invokevirtual 87, 3) := by decide +kernel
theorem dX1_pledgeHeld_43 : decode cX1_pledgeHeld 43 = .ok (.iadd, 1) := by decide +kernel
theorem dX1_pledgeHeld_44 : decode cX1_pledgeHeld 44 = .ok (.istore_n 3, 1) := by decide +kernel
theorem dX1_pledgeHeld_45 : decode cX1_pledgeHeld 45 = .ok (.iinc 4 1, 3) := by decide +kernel
theorem dX1_pledgeHeld_48 : decode cX1_pledgeHeld 48 = .ok (.goto (-43), 3) := by decide +kernel
theorem dX1_pledgeHeld_51 : decode cX1_pledgeHeld 51 = .ok (.iload_n 3, 1) := by decide +kernel
theorem dX1_pledgeHeld_52 : decode cX1_pledgeHeld 52 = .ok (.ireturn, 1) := by decide +kernel
theorem dX1_lossesAbroad_0 : decode cX1_lossesAbroad 0 = .ok (.iconst 0, 1) := by decide +kernel
theorem dX1_lossesAbroad_1 : decode cX1_lossesAbroad 1 = .ok (.istore_n 1, 1) := by decide +kernel
theorem dX1_lossesAbroad_2 : decode cX1_lossesAbroad 2 = .ok (.iconst 0, 1) := by decide +kernel
theorem dX1_lossesAbroad_3 : decode cX1_lossesAbroad 3 = .ok (.istore_n 2, 1) := by decide +kernel
theorem dX1_lossesAbroad_4 : decode cX1_lossesAbroad 4 = .ok (.iload_n 2, 1) := by decide +kernel
theorem dX1_lossesAbroad_5 : decode cX1_lossesAbroad 5 = .ok (.aload_n 0, 1) := by decide +kernel
theorem dX1_lossesAbroad_6 : decode cX1_lossesAbroad 6 = .ok (.getfield 48, 3) := by decide +kernel
theorem dX1_lossesAbroad_9 : decode cX1_lossesAbroad 9 = .ok (.if_icmp .ge 32, 3) := by decide +kernel
theorem dX1_lossesAbroad_12 : decode cX1_lossesAbroad 12 = .ok (.aload_n 0, 1) := by decide +kernel
theorem dX1_lossesAbroad_13 : decode cX1_lossesAbroad 13 = .ok (.getfield 21, 3) := by decide +kernel
theorem dX1_lossesAbroad_16 : decode cX1_lossesAbroad 16 = .ok (.iload_n 2, 1) := by decide +kernel
theorem dX1_lossesAbroad_17 : decode cX1_lossesAbroad 17 = .ok (.iaload, 1) := by decide +kernel
theorem dX1_lossesAbroad_18 : decode cX1_lossesAbroad 18 = .ok (.aload_n 0, 1) := by decide +kernel
theorem dX1_lossesAbroad_19 : decode cX1_lossesAbroad 19 = .ok (.getfield 18, 3) := by decide +kernel
theorem dX1_lossesAbroad_22 : decode cX1_lossesAbroad 22 = .ok (.iload_n 2, 1) := by decide +kernel
theorem dX1_lossesAbroad_23 : decode cX1_lossesAbroad 23 = .ok (.iaload, 1) := by decide +kernel
theorem dX1_lossesAbroad_24 : decode cX1_lossesAbroad 24 = .ok (.if_icmp .eq 11, 3) := by decide +kernel
theorem dX1_lossesAbroad_27 : decode cX1_lossesAbroad 27 = .ok (.iload_n 1, 1) := by decide +kernel
theorem dX1_lossesAbroad_28 : decode cX1_lossesAbroad 28 = .ok (.aload_n 0, 1) := by decide +kernel
theorem dX1_lossesAbroad_29 : decode cX1_lossesAbroad 29 = .ok (.iload_n 2, 1) := by decide +kernel
theorem dX1_lossesAbroad_30 : decode cX1_lossesAbroad 30 = .ok (.invokevirtual 87, 3) := by decide +kernel
theorem dX1_lossesAbroad_33 : decode cX1_lossesAbroad 33 = .ok (.iadd, 1) := by decide +kernel
theorem dX1_lossesAbroad_34 : decode cX1_lossesAbroad 34 = .ok (.istore_n 1, 1) := by decide +kernel
theorem dX1_lossesAbroad_35 : decode cX1_lossesAbroad 35 = .ok (.iinc 2 1, 3) := by decide +kernel
theorem dX1_lossesAbroad_38 : decode cX1_lossesAbroad 38 = .ok (.goto (-34), 3) := by decide +kernel
theorem dX1_lossesAbroad_41 : decode cX1_lossesAbroad 41 = .ok (.iload_n 1, 1) := by decide +kernel
theorem dX1_lossesAbroad_42 : decode cX1_lossesAbroad 42 = .ok (.ireturn, 1) := by decide +kernel
theorem dX1_wordsInForce_0 : decode cX1_wordsInForce 0 = .ok (.iconst 0, 1) := by decide +kernel
theorem dX1_wordsInForce_1 : decode cX1_wordsInForce 1 = .ok (.istore_n 1, 1) := by decide +kernel
theorem dX1_wordsInForce_2 : decode cX1_wordsInForce 2 = .ok (.iconst 0, 1) := by decide +kernel
theorem dX1_wordsInForce_3 : decode cX1_wordsInForce 3 = .ok (.istore_n 2, 1) := by decide +kernel
theorem dX1_wordsInForce_4 : decode cX1_wordsInForce 4 = .ok (.iload_n 2, 1) := by decide +kernel
theorem dX1_wordsInForce_5 : decode cX1_wordsInForce 5 = .ok (.aload_n 0, 1) := by decide +kernel
theorem dX1_wordsInForce_6 : decode cX1_wordsInForce 6 = .ok (.getfield 52, 3) := by decide +kernel
theorem dX1_wordsInForce_9 : decode cX1_wordsInForce 9 = .ok (.if_icmp .ge 23, 3) := by decide +kernel
theorem dX1_wordsInForce_12 : decode cX1_wordsInForce 12 = .ok (.aload_n 0, 1) := by decide +kernel
theorem dX1_wordsInForce_13 : decode cX1_wordsInForce 13 = .ok (.iload_n 2, 1) := by decide +kernel
theorem dX1_wordsInForce_14 : decode cX1_wordsInForce 14 = .ok (.invokevirtual 90, 3) := by decide +kernel
theorem dX1_wordsInForce_17 : decode cX1_wordsInForce 17 = .ok (.ifCond .eq 9, 3) := by decide +kernel
theorem dX1_wordsInForce_20 : decode cX1_wordsInForce 20 = .ok (.iload_n 1, 1) := by decide +kernel
theorem dX1_wordsInForce_21 : decode cX1_wordsInForce 21 = .ok (.iconst 1, 1) := by decide +kernel
theorem dX1_wordsInForce_22 : decode cX1_wordsInForce 22 = .ok (.iload_n 2, 1) := by decide +kernel
theorem dX1_wordsInForce_23 : decode cX1_wordsInForce 23 = .ok (.ishl, 1) := by decide +kernel
theorem dX1_wordsInForce_24 : decode cX1_wordsInForce 24 = .ok (.ior, 1) := by decide +kernel
theorem dX1_wordsInForce_25 : decode cX1_wordsInForce 25 = .ok (.istore_n 1, 1) := by decide +kernel
theorem dX1_wordsInForce_26 : decode cX1_wordsInForce 26 = .ok (.iinc 2 1, 3) := by decide +kernel
theorem dX1_wordsInForce_29 : decode cX1_wordsInForce 29 = .ok (.goto (-25), 3) := by decide +kernel
theorem dX1_wordsInForce_32 : decode cX1_wordsInForce 32 = .ok (.iload_n 1, 1) := by decide +kernel
theorem dX1_wordsInForce_33 : decode cX1_wordsInForce 33 = .ok (.ireturn, 1) := by decide +kernel
theorem dX1_wordsOf_0 : decode cX1_wordsOf 0 = .ok (.iconst 0, 1) := by decide +kernel
theorem dX1_wordsOf_1 : decode cX1_wordsOf 1 = .ok (.istore_n 2, 1) := by decide +kernel
theorem dX1_wordsOf_2 : decode cX1_wordsOf 2 = .ok (.iconst 0, 1) := by decide +kernel
theorem dX1_wordsOf_3 : decode cX1_wordsOf 3 = .ok (.istore_n 3, 1) := by decide +kernel
theorem dX1_wordsOf_4 : decode cX1_wordsOf 4 = .ok (.iload_n 3, 1) := by decide +kernel
theorem dX1_wordsOf_5 : decode cX1_wordsOf 5 = .ok (.aload_n 0, 1) := by decide +kernel
theorem dX1_wordsOf_6 : decode cX1_wordsOf 6 = .ok (.getfield 52, 3) := by decide +kernel
theorem dX1_wordsOf_9 : decode cX1_wordsOf 9 = .ok (.if_icmp .ge 33, 3) := by decide +kernel
theorem dX1_wordsOf_12 : decode cX1_wordsOf 12 = .ok (.aload_n 0, 1) := by decide +kernel
theorem dX1_wordsOf_13 : decode cX1_wordsOf 13 = .ok (.getfield 27, 3) := by decide +kernel
theorem dX1_wordsOf_16 : decode cX1_wordsOf 16 = .ok (.iload_n 3, 1) := by decide +kernel
theorem dX1_wordsOf_17 : decode cX1_wordsOf 17 = .ok (.iaload, 1) := by decide +kernel
theorem dX1_wordsOf_18 : decode cX1_wordsOf 18 = .ok (.iload_n 1, 1) := by decide +kernel
theorem dX1_wordsOf_19 : decode cX1_wordsOf 19 = .ok (.if_icmp .ne 17, 3) := by decide +kernel
theorem dX1_wordsOf_22 : decode cX1_wordsOf 22 = .ok (.aload_n 0, 1) := by decide +kernel
theorem dX1_wordsOf_23 : decode cX1_wordsOf 23 = .ok (.iload_n 3, 1) := by decide +kernel
theorem dX1_wordsOf_24 : decode cX1_wordsOf 24 = .ok (.invokevirtual 90, 3) := by decide +kernel
theorem dX1_wordsOf_27 : decode cX1_wordsOf 27 = .ok (.ifCond .eq 9, 3) := by decide +kernel
theorem dX1_wordsOf_30 : decode cX1_wordsOf 30 = .ok (.iload_n 2, 1) := by decide +kernel
theorem dX1_wordsOf_31 : decode cX1_wordsOf 31 = .ok (.iconst 1, 1) := by decide +kernel
theorem dX1_wordsOf_32 : decode cX1_wordsOf 32 = .ok (.iload_n 3, 1) := by decide +kernel
theorem dX1_wordsOf_33 : decode cX1_wordsOf 33 = .ok (.ishl, 1) := by decide +kernel
theorem dX1_wordsOf_34 : decode cX1_wordsOf 34 = .ok (.ior, 1) := by decide +kernel
theorem dX1_wordsOf_35 : decode cX1_wordsOf 35 = .ok (.istore_n 2, 1) := by decide +kernel
theorem dX1_wordsOf_36 : decode cX1_wordsOf 36 = .ok (.iinc 3 1, 3) := by decide +kernel
theorem dX1_wordsOf_39 : decode cX1_wordsOf 39 = .ok (.goto (-35), 3) := by decide +kernel
theorem dX1_wordsOf_42 : decode cX1_wordsOf 42 = .ok (.iload_n 2, 1) := by decide +kernel
theorem dX1_wordsOf_43 : decode cX1_wordsOf 43 = .ok (.ireturn, 1) := by decide +kernel
theorem dX1_hasWord_0 : decode cX1_hasWord 0 = .ok (.iconst 0, 1) := by decide +kernel
theorem dX1_hasWord_1 : decode cX1_hasWord 1 = .ok (.istore_n 3, 1) := by decide +kernel
theorem dX1_hasWord_2 : decode cX1_hasWord 2 = .ok (.iload_n 3, 1) := by decide +kernel
theorem dX1_hasWord_3 : decode cX1_hasWord 3 = .ok (.aload_n 0, 1) := by decide +kernel
theorem dX1_hasWord_4 : decode cX1_hasWord 4 = .ok (.getfield 52, 3) := by decide +kernel
theorem dX1_hasWord_7 : decode cX1_hasWord 7 = .ok (.if_icmp .ge 39, 3) := by decide +kernel
theorem dX1_hasWord_10 : decode cX1_hasWord 10 = .ok (.aload_n 0, 1) := by decide +kernel
theorem dX1_hasWord_11 : decode cX1_hasWord 11 = .ok (.getfield 27, 3) := by decide +kernel
theorem dX1_hasWord_14 : decode cX1_hasWord 14 = .ok (.iload_n 3, 1) := by decide +kernel
theorem dX1_hasWord_15 : decode cX1_hasWord 15 = .ok (.iaload, 1) := by decide +kernel
theorem dX1_hasWord_16 : decode cX1_hasWord 16 = .ok (.iload_n 1, 1) := by decide +kernel
theorem dX1_hasWord_17 : decode cX1_hasWord 17 = .ok (.if_icmp .ne 23, 3) := by decide +kernel
theorem dX1_hasWord_20 : decode cX1_hasWord 20 = .ok (.aload_n 0, 1) := by decide +kernel
theorem dX1_hasWord_21 : decode cX1_hasWord 21 = .ok (.getfield 30, 3) := by decide +kernel
theorem dX1_hasWord_24 : decode cX1_hasWord 24 = .ok (.iload_n 3, 1) := by decide +kernel
theorem dX1_hasWord_25 : decode cX1_hasWord 25 = .ok (.iaload, 1) := by decide +kernel
theorem dX1_hasWord_26 : decode cX1_hasWord 26 = .ok (.iload_n 2, 1) := by decide +kernel
theorem dX1_hasWord_27 : decode cX1_hasWord 27 = .ok (.if_icmp .ne 13, 3) := by decide +kernel
theorem dX1_hasWord_30 : decode cX1_hasWord 30 = .ok (.aload_n 0, 1) := by decide +kernel
theorem dX1_hasWord_31 : decode cX1_hasWord 31 = .ok (.iload_n 3, 1) := by decide +kernel
theorem dX1_hasWord_32 : decode cX1_hasWord 32 = .ok (.invokevirtual 90, 3) := by decide +kernel
theorem dX1_hasWord_35 : decode cX1_hasWord 35 = .ok (.ifCond .eq 5, 3) := by decide +kernel
theorem dX1_hasWord_38 : decode cX1_hasWord 38 = .ok (.iconst 1, 1) := by decide +kernel
theorem dX1_hasWord_39 : decode cX1_hasWord 39 = .ok (.ireturn, 1) := by decide +kernel
theorem dX1_hasWord_40 : decode cX1_hasWord 40 = .ok (.iinc 3 1, 3) := by decide +kernel
theorem dX1_hasWord_43 : decode cX1_hasWord 43 = .ok (.goto (-41), 3) := by decide +kernel
theorem dX1_hasWord_46 : decode cX1_hasWord 46 = .ok (.iconst 0, 1) := by decide +kernel
theorem dX1_hasWord_47 : decode cX1_hasWord 47 = .ok (.ireturn, 1) := by decide +kernel
theorem dX1_easeOf_0 : decode cX1_easeOf 0 = .ok (.aload_n 0, 1) := by decide +kernel
theorem dX1_easeOf_1 : decode cX1_easeOf 1 = .ok (.getfield 27, 3) := by decide +kernel
theorem dX1_easeOf_4 : decode cX1_easeOf 4 = .ok (.iload_n 1, 1) := by decide +kernel
theorem dX1_easeOf_5 : decode cX1_easeOf 5 = .ok (.iaload, 1) := by decide +kernel
theorem dX1_easeOf_6 : decode cX1_easeOf 6 = .ok (.istore_n 2, 1) := by decide +kernel
theorem dX1_easeOf_7 : decode cX1_easeOf 7 = .ok (.aload_n 0, 1) := by decide +kernel
theorem dX1_easeOf_8 : decode cX1_easeOf 8 = .ok (.aload_n 0, 1) := by decide +kernel
theorem dX1_easeOf_9 : decode cX1_easeOf 9 = .ok (.getfield 30, 3) := by decide +kernel
theorem dX1_easeOf_12 : decode cX1_easeOf 12 = .ok (.iload_n 1, 1) := by decide +kernel
theorem dX1_easeOf_13 : decode cX1_easeOf 13 = .ok (.iaload, 1) := by decide +kernel
theorem dX1_easeOf_14 : decode cX1_easeOf 14 = .ok (.iload_n 2, 1) := by decide +kernel
theorem dX1_easeOf_15 : decode cX1_easeOf 15 = .ok (.invokevirtual 93, 3) := by decide +kernel
theorem dX1_easeOf_18 : decode cX1_easeOf 18 = .ok (.aload_n 0, 1) := by decide +kernel
theorem dX1_easeOf_19 : decode cX1_easeOf 19 = .ok (.getfield 9, 3) := by decide +kernel
theorem dX1_easeOf_22 : decode cX1_easeOf 22 = .ok (.iload_n 2, 1) := by decide +kernel
theorem dX1_easeOf_23 : decode cX1_easeOf 23 = .ok (.iaload, 1) := by decide +kernel
theorem dX1_easeOf_24 : decode cX1_easeOf 24 = .ok (.iadd, 1) := by decide +kernel
theorem dX1_easeOf_25 : decode cX1_easeOf 25 = .ok (.aload_n 0, 1) := by decide +kernel
theorem dX1_easeOf_26 : decode cX1_easeOf 26 = .ok (.getfield 33, 3) := by decide +kernel
theorem dX1_easeOf_29 : decode cX1_easeOf 29 = .ok (.iload_n 1, 1) := by decide +kernel
theorem dX1_easeOf_30 : decode cX1_easeOf 30 = .ok (.iaload, 1) := by decide +kernel
theorem dX1_easeOf_31 : decode cX1_easeOf 31 = .ok (.isub, 1) := by decide +kernel
theorem dX1_easeOf_32 : decode cX1_easeOf 32 = .ok (.ireturn, 1) := by decide +kernel
theorem dX1_looseWords_0 : decode cX1_looseWords 0 = .ok (.iconst 0, 1) := by decide +kernel
theorem dX1_looseWords_1 : decode cX1_looseWords 1 = .ok (.istore_n 1, 1) := by decide +kernel
theorem dX1_looseWords_2 : decode cX1_looseWords 2 = .ok (.iconst 0, 1) := by decide +kernel
theorem dX1_looseWords_3 : decode cX1_looseWords 3 = .ok (.istore_n 2, 1) := by decide +kernel
theorem dX1_looseWords_4 : decode cX1_looseWords 4 = .ok (.iload_n 2, 1) := by decide +kernel
theorem dX1_looseWords_5 : decode cX1_looseWords 5 = .ok (.bipush 6, 2) := by decide +kernel
theorem dX1_looseWords_7 : decode cX1_looseWords 7 = .ok (.if_icmp .ge 17, 3) := by decide +kernel
theorem dX1_looseWords_10 : decode cX1_looseWords 10 = .ok (.iload_n 1, 1) := by decide +kernel
theorem dX1_looseWords_11 : decode cX1_looseWords 11 = .ok (.aload_n 0, 1) := by decide +kernel
theorem dX1_looseWords_12 : decode cX1_looseWords 12 = .ok (.iload_n 2, 1) := by decide +kernel
theorem dX1_looseWords_13 : decode cX1_looseWords 13 = .ok (.invokevirtual 96, 3) := by decide +kernel
theorem dX1_looseWords_16 : decode cX1_looseWords 16 = .ok (.ior, 1) := by decide +kernel
theorem dX1_looseWords_17 : decode cX1_looseWords 17 = .ok (.istore_n 1, 1) := by decide +kernel
theorem dX1_looseWords_18 : decode cX1_looseWords 18 = .ok (.iinc 2 1, 3) := by decide +kernel
theorem dX1_looseWords_21 : decode cX1_looseWords 21 = .ok (.goto (-17), 3) := by decide +kernel
theorem dX1_looseWords_24 : decode cX1_looseWords 24 = .ok (.iload_n 1, 1) := by decide +kernel
theorem dX1_looseWords_25 : decode cX1_looseWords 25 = .ok (.ireturn, 1) := by decide +kernel
theorem dX1_looseWordsOf_0 : decode cX1_looseWordsOf 0 = .ok (.iconst 0, 1) := by decide +kernel
theorem dX1_looseWordsOf_1 : decode cX1_looseWordsOf 1 = .ok (.istore_n 2, 1) := by decide +kernel
theorem dX1_looseWordsOf_2 : decode cX1_looseWordsOf 2 = .ok (.iload_n 2, 1) := by decide +kernel
theorem dX1_looseWordsOf_3 : decode cX1_looseWordsOf 3 = .ok (.bipush 6, 2) := by decide +kernel
theorem dX1_looseWordsOf_5 : decode cX1_looseWordsOf 5 = .ok (.if_icmp .ge 16, 3) := by decide +kernel
theorem dX1_looseWordsOf_8 : decode cX1_looseWordsOf 8 = .ok (.aload_n 0, 1) := by decide +kernel
theorem dX1_looseWordsOf_9 : decode cX1_looseWordsOf 9 = .ok (.getfield 39, 3) := by decide +kernel
theorem dX1_looseWordsOf_12 : decode cX1_looseWordsOf 12 = .ok (.iload_n 2, 1) := by decide +kernel
theorem dX1_looseWordsOf_13 : decode cX1_looseWordsOf 13 = .ok (.iconst 0, 1) := by decide +kernel
theorem dX1_looseWordsOf_14 : decode cX1_looseWordsOf 14 = .ok (.iastore, 1) := by decide +kernel
theorem dX1_looseWordsOf_15 : decode cX1_looseWordsOf 15 = .ok (.iinc 2 1, 3) := by decide +kernel
theorem dX1_looseWordsOf_18 : decode cX1_looseWordsOf 18 = .ok (.goto (-16), 3) := by decide +kernel
theorem dX1_looseWordsOf_21 : decode cX1_looseWordsOf 21 = .ok (.aload_n 0, 1) := by decide +kernel
theorem dX1_looseWordsOf_22 : decode cX1_looseWordsOf 22 = .ok (.iload_n 1, 1) := by decide +kernel
theorem dX1_looseWordsOf_23 : decode cX1_looseWordsOf 23 = .ok (.invokevirtual 68, 3) := by decide +kernel
theorem dX1_looseWordsOf_26 : decode cX1_looseWordsOf 26 = .ok (.istore_n 2, 1) := by decide +kernel
theorem dX1_looseWordsOf_27 : decode cX1_looseWordsOf 27 = .ok (.iconst 0, 1) := by decide +kernel
theorem dX1_looseWordsOf_28 : decode cX1_looseWordsOf 28 = .ok (.istore_n 3, 1) := by decide +kernel
theorem dX1_looseWordsOf_29 : decode cX1_looseWordsOf 29 = .ok (.iload_n 3, 1) := by decide +kernel
theorem dX1_looseWordsOf_30 : decode cX1_looseWordsOf 30 = .ok (.aload_n 0, 1) := by decide +kernel
theorem dX1_looseWordsOf_31 : decode cX1_looseWordsOf 31 = .ok (.getfield 48, 3) := by decide +kernel
theorem dX1_looseWordsOf_34 : decode cX1_looseWordsOf 34 = .ok (.if_icmp .ge 39, 3) := by decide +kernel
theorem dX1_looseWordsOf_37 : decode cX1_looseWordsOf 37 = .ok (.aload_n 0, 1) := by decide +kernel
theorem dX1_looseWordsOf_38 : decode cX1_looseWordsOf 38 = .ok (.getfield 18, 3) := by decide +kernel
theorem dX1_looseWordsOf_41 : decode cX1_looseWordsOf 41 = .ok (.iload_n 3, 1) := by decide +kernel
theorem dX1_looseWordsOf_42 : decode cX1_looseWordsOf 42 = .ok (.iaload, 1) := by decide +kernel
theorem dX1_looseWordsOf_43 : decode cX1_looseWordsOf 43 = .ok (.iload_n 1, 1) := by decide +kernel
theorem dX1_looseWordsOf_44 : decode cX1_looseWordsOf 44 = .ok (.if_icmp .ne 23, 3) := by decide +kernel
theorem dX1_looseWordsOf_47 : decode cX1_looseWordsOf 47 = .ok (.aload_n 0, 1) := by decide +kernel
theorem dX1_looseWordsOf_48 : decode cX1_looseWordsOf 48 = .ok (.getfield 39, 3) := by decide +kernel
theorem dX1_looseWordsOf_51 : decode cX1_looseWordsOf 51 = .ok (.aload_n 0, 1) := by decide +kernel
theorem dX1_looseWordsOf_52 : decode cX1_looseWordsOf 52 = .ok (.getfield 21, 3) := by decide +kernel
theorem dX1_looseWordsOf_55 : decode cX1_looseWordsOf 55 = .ok (.iload_n 3, 1) := by decide +kernel
theorem dX1_looseWordsOf_56 : decode cX1_looseWordsOf 56 = .ok (.iaload, 1) := by decide +kernel
theorem dX1_looseWordsOf_57 : decode cX1_looseWordsOf 57 = .ok (.dup2, 1) := by decide +kernel
theorem dX1_looseWordsOf_58 : decode cX1_looseWordsOf 58 = .ok (.iaload, 1) := by decide +kernel
theorem dX1_looseWordsOf_59 : decode cX1_looseWordsOf 59 = .ok (.aload_n 0, 1) := by decide +kernel
theorem dX1_looseWordsOf_60 : decode cX1_looseWordsOf 60 = .ok (.iload_n 2, 1) := by decide +kernel
theorem dX1_looseWordsOf_61 : decode cX1_looseWordsOf 61 = .ok (.iload_n 3, 1) := by decide +kernel
theorem dX1_looseWordsOf_62 : decode cX1_looseWordsOf 62 = .ok (.invokevirtual 72, 3) := by decide +kernel
theorem dX1_looseWordsOf_65 : decode cX1_looseWordsOf 65 = .ok (.iadd, 1) := by decide +kernel
theorem dX1_looseWordsOf_66 : decode cX1_looseWordsOf 66 = .ok (.iastore, 1) := by decide +kernel
theorem dX1_looseWordsOf_67 : decode cX1_looseWordsOf 67 = .ok (.iinc 3 1, 3) := by decide +kernel
theorem dX1_looseWordsOf_70 : decode cX1_looseWordsOf 70 = .ok (.goto (-41), 3) := by decide +kernel
theorem dX1_looseWordsOf_73 : decode cX1_looseWordsOf 73 = .ok (.iconst 0, 1) := by decide +kernel
theorem dX1_looseWordsOf_74 : decode cX1_looseWordsOf 74 = .ok (.istore_n 3, 1) := by decide +kernel
theorem dX1_looseWordsOf_75 : decode cX1_looseWordsOf 75 = .ok (.iconst 0, 1) := by decide +kernel
theorem dX1_looseWordsOf_76 : decode cX1_looseWordsOf 76 = .ok (.istore 4, 2) := by decide +kernel
theorem dX1_looseWordsOf_78 : decode cX1_looseWordsOf 78 = .ok (.iload 4, 2) := by decide +kernel
theorem dX1_looseWordsOf_80 : decode cX1_looseWordsOf 80 = .ok (.aload_n 0, 1) := by decide +kernel
theorem dX1_looseWordsOf_81 : decode cX1_looseWordsOf 81 = .ok (.getfield 52, 3) := by decide +kernel
theorem dX1_looseWordsOf_84 : decode cX1_looseWordsOf 84 = .ok (.if_icmp .ge 65, 3) := by decide +kernel
theorem dX1_looseWordsOf_87 : decode cX1_looseWordsOf 87 = .ok (.aload_n 0, 1) := by decide +kernel
theorem dX1_looseWordsOf_88 : decode cX1_looseWordsOf 88 = .ok (.getfield 27, 3) := by decide +kernel
theorem dX1_looseWordsOf_91 : decode cX1_looseWordsOf 91 = .ok (.iload 4, 2) := by decide +kernel
theorem dX1_looseWordsOf_93 : decode cX1_looseWordsOf 93 = .ok (.iaload, 1) := by decide +kernel
theorem dX1_looseWordsOf_94 : decode cX1_looseWordsOf 94 = .ok (.iload_n 1, 1) := by decide +kernel
theorem dX1_looseWordsOf_95 : decode cX1_looseWordsOf 95 = .ok (.if_icmp .ne 48, 3) := by decide +kernel
theorem dX1_looseWordsOf_98 : decode cX1_looseWordsOf 98 = .ok (.aload_n 0, 1) := by decide +kernel
theorem dX1_looseWordsOf_99 : decode cX1_looseWordsOf 99 = .ok (.iload 4, 2) := by decide +kernel
theorem dX1_looseWordsOf_101 : decode cX1_looseWordsOf 101 = .ok (.invokevirtual 90, 3) := by decide +kernel
theorem dX1_looseWordsOf_104 : decode cX1_looseWordsOf 104 = .ok (.ifCond .eq 39, 3) := by decide +kernel
theorem dX1_looseWordsOf_107 : decode cX1_looseWordsOf 107 = .ok (.aload_n 0, 1) := by decide +kernel
theorem dX1_looseWordsOf_108 : decode cX1_looseWordsOf 108 = .ok (.getfield 33, 3) := by decide +kernel
theorem dX1_looseWordsOf_111 : decode cX1_looseWordsOf 111 = .ok (.iload 4, 2) := by decide +kernel
theorem dX1_looseWordsOf_113 : decode cX1_looseWordsOf 113 = .ok (.iaload, 1) := by decide +kernel
theorem dX1_looseWordsOf_114 : decode cX1_looseWordsOf 114 = .ok (.aload_n 0, 1) := by decide +kernel
theorem dX1_looseWordsOf_115 : decode cX1_looseWordsOf 115 = .ok (.getfield 39, 3) := by decide +kernel
theorem dX1_looseWordsOf_118 : decode cX1_looseWordsOf 118 = .ok (.aload_n 0, 1) := by decide +kernel
theorem dX1_looseWordsOf_119 : decode cX1_looseWordsOf 119 = .ok (.getfield 30, 3) := by decide +kernel
theorem dX1_looseWordsOf_122 : decode cX1_looseWordsOf 122 = .ok (.iload 4, 2) := by decide +kernel
theorem dX1_looseWordsOf_124 : decode cX1_looseWordsOf 124 = .ok (.iaload, 1) := by decide +kernel
theorem dX1_looseWordsOf_125 : decode cX1_looseWordsOf 125 = .ok (.iaload, 1) := by decide +kernel
theorem dX1_looseWordsOf_126 : decode cX1_looseWordsOf 126 = .ok (.aload_n 0, 1) := by decide +kernel
theorem dX1_looseWordsOf_127 : decode cX1_looseWordsOf 127 = .ok (.getfield 9, 3) := by decide +kernel
theorem dX1_looseWordsOf_130 : decode cX1_looseWordsOf 130 = .ok (.iload_n 1, 1) := by decide +kernel
theorem dX1_looseWordsOf_131 : decode cX1_looseWordsOf 131 = .ok (.iaload, 1) := by decide +kernel
theorem dX1_looseWordsOf_132 : decode cX1_looseWordsOf 132 = .ok (.iadd, 1) := by decide +kernel
theorem dX1_looseWordsOf_133 : decode cX1_looseWordsOf 133 = .ok (.if_icmp .le 10, 3) := by decide +kernel
theorem dX1_looseWordsOf_136 : decode cX1_looseWordsOf 136 = .ok (.iload_n 3, 1) := by decide +kernel
theorem dX1_looseWordsOf_137 : decode cX1_looseWordsOf 137 = .ok (.iconst 1, 1) := by decide +kernel
theorem dX1_looseWordsOf_138 : decode cX1_looseWordsOf 138 = .ok (.iload 4, 2) := by decide +kernel
theorem dX1_looseWordsOf_140 : decode cX1_looseWordsOf 140 = .ok (.ishl, 1) := by decide +kernel
theorem dX1_looseWordsOf_141 : decode cX1_looseWordsOf 141 = .ok (.ior, 1) := by decide +kernel
theorem dX1_looseWordsOf_142 : decode cX1_looseWordsOf 142 = .ok (.istore_n 3, 1) := by decide +kernel
theorem dX1_looseWordsOf_143 : decode cX1_looseWordsOf 143 = .ok (.iinc 4 1, 3) := by decide +kernel
theorem dX1_looseWordsOf_146 : decode cX1_looseWordsOf 146 = .ok (.goto (-68), 3) := by decide +kernel
theorem dX1_looseWordsOf_149 : decode cX1_looseWordsOf 149 = .ok (.iload_n 3, 1) := by decide +kernel
theorem dX1_looseWordsOf_150 : decode cX1_looseWordsOf 150 = .ok (.ireturn, 1) := by decide +kernel
theorem dX1_pactPays_0 : decode cX1_pactPays 0 = .ok (.iconst 0, 1) := by decide +kernel
theorem dX1_pactPays_1 : decode cX1_pactPays 1 = .ok (.istore_n 3, 1) := by decide +kernel
theorem dX1_pactPays_2 : decode cX1_pactPays 2 = .ok (.iconst 0, 1) := by decide +kernel
theorem dX1_pactPays_3 : decode cX1_pactPays 3 = .ok (.istore 4, 2) := by decide +kernel
theorem dX1_pactPays_5 : decode cX1_pactPays 5 = .ok (.iload 4, 2) := by decide +kernel
theorem dX1_pactPays_7 : decode cX1_pactPays 7 = .ok (.aload_n 0, 1) := by decide +kernel
theorem dX1_pactPays_8 : decode cX1_pactPays 8 = .ok (.getfield 52, 3) := by decide +kernel
theorem dX1_pactPays_11 : decode cX1_pactPays 11 = .ok (.if_icmp .ge 58, 3) := by decide +kernel
theorem dX1_pactPays_14 : decode cX1_pactPays 14 = .ok (.aload_n 0, 1) := by decide +kernel
theorem dX1_pactPays_15 : decode cX1_pactPays 15 = .ok (.iload 4, 2) := by decide +kernel
theorem dX1_pactPays_17 : decode cX1_pactPays 17 = .ok (.invokevirtual 90, 3) := by decide +kernel
theorem dX1_pactPays_20 : decode cX1_pactPays 20 = .ok (.ifCond .eq 43, 3) := by decide +kernel
theorem dX1_pactPays_23 : decode cX1_pactPays 23 = .ok (.aload_n 0, 1) := by decide +kernel
theorem dX1_pactPays_24 : decode cX1_pactPays 24 = .ok (.getfield 27, 3) := by decide +kernel
theorem dX1_pactPays_27 : decode cX1_pactPays 27 = .ok (.iload 4, 2) := by decide +kernel
theorem dX1_pactPays_29 : decode cX1_pactPays 29 = .ok (.iaload, 1) := by decide +kernel
theorem dX1_pactPays_30 : decode cX1_pactPays 30 = .ok (.iload_n 1, 1) := by decide +kernel
theorem dX1_pactPays_31 : decode cX1_pactPays 31 = .ok (.iload_n 2, 1) := by decide +kernel
theorem dX1_pactPays_32 : decode cX1_pactPays 32 = .ok (.invokestatic 99, 3) := by decide +kernel
theorem dX1_pactPays_35 : decode cX1_pactPays 35 = .ok (.ifCond .eq 28, 3) := by decide +kernel
theorem dX1_pactPays_38 : decode cX1_pactPays 38 = .ok (.aload_n 0, 1) := by decide +kernel
theorem dX1_pactPays_39 : decode cX1_pactPays 39 = .ok (.getfield 30, 3) := by decide +kernel
theorem dX1_pactPays_42 : decode cX1_pactPays 42 = .ok (.iload 4, 2) := by decide +kernel
theorem dX1_pactPays_44 : decode cX1_pactPays 44 = .ok (.iaload, 1) := by decide +kernel
theorem dX1_pactPays_45 : decode cX1_pactPays 45 = .ok (.iload_n 1, 1) := by decide +kernel
theorem dX1_pactPays_46 : decode cX1_pactPays 46 = .ok (.iload_n 2, 1) := by decide +kernel
theorem dX1_pactPays_47 : decode cX1_pactPays 47 = .ok (.invokestatic 99, 3) := by decide +kernel
theorem dX1_pactPays_50 : decode cX1_pactPays 50 = .ok (.ifCond .ne 13, 3) := by decide +kernel
theorem dX1_pactPays_53 : decode cX1_pactPays 53 = .ok (.iload_n 3, 1) := by decide +kernel
theorem dX1_pactPays_54 : decode cX1_pactPays 54 = .ok (.aload_n 0, 1) := by decide +kernel
theorem dX1_pactPays_55 : decode cX1_pactPays 55 = .ok (.getfield 33, 3) := by decide +kernel
theorem dX1_pactPays_58 : decode cX1_pactPays 58 = .ok (.iload 4, 2) := by decide +kernel
theorem dX1_pactPays_60 : decode cX1_pactPays 60 = .ok (.iaload, 1) := by decide +kernel
theorem dX1_pactPays_61 : decode cX1_pactPays 61 = .ok (.iadd, 1) := by decide +kernel
theorem dX1_pactPays_62 : decode cX1_pactPays 62 = .ok (.istore_n 3, 1) := by decide +kernel
theorem dX1_pactPays_63 : decode cX1_pactPays 63 = .ok (.iinc 4 1, 3) := by decide +kernel
theorem dX1_pactPays_66 : decode cX1_pactPays 66 = .ok (.goto (-61), 3) := by decide +kernel
theorem dX1_pactPays_69 : decode cX1_pactPays 69 = .ok (.aload_n 0, 1) := by decide +kernel
theorem dX1_pactPays_70 : decode cX1_pactPays 70 = .ok (.getfield 9, 3) := by decide +kernel
theorem dX1_pactPays_73 : decode cX1_pactPays 73 = .ok (.iload_n 1, 1) := by decide +kernel
theorem dX1_pactPays_74 : decode cX1_pactPays 74 = .ok (.iaload, 1) := by decide +kernel
theorem dX1_pactPays_75 : decode cX1_pactPays 75 = .ok (.aload_n 0, 1) := by decide +kernel
theorem dX1_pactPays_76 : decode cX1_pactPays 76 = .ok (.getfield 9, 3) := by decide +kernel
theorem dX1_pactPays_79 : decode cX1_pactPays 79 = .ok (.iload_n 2, 1) := by decide +kernel
theorem dX1_pactPays_80 : decode cX1_pactPays 80 = .ok (.iaload, 1) := by decide +kernel
theorem dX1_pactPays_81 : decode cX1_pactPays 81 = .ok (.iadd, 1) := by decide +kernel
theorem dX1_pactPays_82 : decode cX1_pactPays 82 = .ok (.istore 4, 2) := by decide +kernel
theorem dX1_pactPays_84 : decode cX1_pactPays 84 = .ok (.iconst 0, 1) := by decide +kernel
theorem dX1_pactPays_85 : decode cX1_pactPays 85 = .ok (.istore 5, 2) := by decide +kernel
theorem dX1_pactPays_87 : decode cX1_pactPays 87 = .ok (.iload 5, 2) := by decide +kernel
theorem dX1_pactPays_89 : decode cX1_pactPays 89 = .ok (.aload_n 0, 1) := by decide +kernel
theorem dX1_pactPays_90 : decode cX1_pactPays 90 = .ok (.getfield 48, 3) := by decide +kernel
theorem dX1_pactPays_93 : decode cX1_pactPays 93 = .ok (.if_icmp .ge 50, 3) := by decide +kernel
theorem dX1_pactPays_96 : decode cX1_pactPays 96 = .ok (.aload_n 0, 1) := by decide +kernel
theorem dX1_pactPays_97 : decode cX1_pactPays 97 = .ok (.getfield 18, 3) := by decide +kernel
theorem dX1_pactPays_100 : decode cX1_pactPays 100 = .ok (.iload 5, 2) := by decide +kernel
theorem dX1_pactPays_102 : decode cX1_pactPays 102 = .ok (.iaload, 1) := by decide +kernel
theorem dX1_pactPays_103 : decode cX1_pactPays 103 = .ok (.iload_n 1, 1) := by decide +kernel
theorem dX1_pactPays_104 : decode cX1_pactPays 104 = .ok (.iload_n 2, 1) := by decide +kernel
theorem dX1_pactPays_105 : decode cX1_pactPays 105 = .ok (.invokestatic 99, 3) := by decide +kernel
theorem dX1_pactPays_108 : decode cX1_pactPays 108 = .ok (.ifCond .eq 29, 3) := by decide +kernel
theorem dX1_pactPays_111 : decode cX1_pactPays 111 = .ok (.aload_n 0, 1) := by decide +kernel
theorem dX1_pactPays_112 : decode cX1_pactPays 112 = .ok (.getfield 21, 3) := by decide +kernel
theorem dX1_pactPays_115 : decode cX1_pactPays 115 = .ok (.iload 5, 2) := by decide +kernel
theorem dX1_pactPays_117 : decode cX1_pactPays 117 = .ok (.iaload, 1) := by decide +kernel
theorem dX1_pactPays_118 : decode cX1_pactPays 118 = .ok (.iload_n 1, 1) := by decide +kernel
theorem dX1_pactPays_119 : decode cX1_pactPays 119 = .ok (.iload_n 2, 1) := by decide +kernel
theorem dX1_pactPays_120 : decode cX1_pactPays 120 = .ok (.invokestatic 99, 3) := by decide +kernel
theorem dX1_pactPays_123 : decode cX1_pactPays 123 = .ok (.ifCond .ne 14, 3) := by decide +kernel
theorem dX1_pactPays_126 : decode cX1_pactPays 126 = .ok (.iload 4, 2) := by decide +kernel
theorem dX1_pactPays_128 : decode cX1_pactPays 128 = .ok (.aload_n 0, 1) := by decide +kernel
theorem dX1_pactPays_129 : decode cX1_pactPays 129 = .ok (.iload 5, 2) := by decide +kernel
theorem dX1_pactPays_131 : decode cX1_pactPays 131 = .ok (.invokevirtual 87, 3) := by decide +kernel
theorem dX1_pactPays_134 : decode cX1_pactPays 134 = .ok (.iadd, 1) := by decide +kernel
theorem dX1_pactPays_135 : decode cX1_pactPays 135 = .ok (.istore 4, 2) := by decide +kernel
theorem dX1_pactPays_137 : decode cX1_pactPays 137 = .ok (.iinc 5 1, 3) := by decide +kernel
theorem dX1_pactPays_140 : decode cX1_pactPays 140 = .ok (.goto (-53), 3) := by decide +kernel
theorem dX1_pactPays_143 : decode cX1_pactPays 143 = .ok (.iload_n 3, 1) := by decide +kernel
theorem dX1_pactPays_144 : decode cX1_pactPays 144 = .ok (.iload 4, 2) := by decide +kernel
theorem dX1_pactPays_146 : decode cX1_pactPays 146 = .ok (.if_icmp .le 7, 3) := by decide +kernel
theorem dX1_pactPays_149 : decode cX1_pactPays 149 = .ok (.iconst 1, 1) := by decide +kernel
theorem dX1_pactPays_150 : decode cX1_pactPays 150 = .ok (.goto 4, 3) := by decide +kernel
theorem dX1_pactPays_153 : decode cX1_pactPays 153 = .ok (.iconst 0, 1) := by decide +kernel
theorem dX1_pactPays_154 : decode cX1_pactPays 154 = .ok (.ireturn, 1) := by decide +kernel
theorem dX1_isOneOf_0 : decode cX1_isOneOf 0 = .ok (.iload_n 0, 1) := by decide +kernel
theorem dX1_isOneOf_1 : decode cX1_isOneOf 1 = .ok (.iload_n 1, 1) := by decide +kernel
theorem dX1_isOneOf_2 : decode cX1_isOneOf 2 = .ok (.if_icmp .eq 8, 3) := by decide +kernel
theorem dX1_isOneOf_5 : decode cX1_isOneOf 5 = .ok (.iload_n 0, 1) := by decide +kernel
theorem dX1_isOneOf_6 : decode cX1_isOneOf 6 = .ok (.iload_n 2, 1) := by decide +kernel
theorem dX1_isOneOf_7 : decode cX1_isOneOf 7 = .ok (.if_icmp .ne 7, 3) := by decide +kernel
theorem dX1_isOneOf_10 : decode cX1_isOneOf 10 = .ok (.iconst 1, 1) := by decide +kernel
theorem dX1_isOneOf_11 : decode cX1_isOneOf 11 = .ok (.goto 4, 3) := by decide +kernel
theorem dX1_isOneOf_14 : decode cX1_isOneOf 14 = .ok (.iconst 0, 1) := by decide +kernel
theorem dX1_isOneOf_15 : decode cX1_isOneOf 15 = .ok (.ireturn, 1) := by decide +kernel
theorem dX1_breakWords_0 : decode cX1_breakWords 0 = .ok (.aload_n 0, 1) := by decide +kernel
theorem dX1_breakWords_1 : decode cX1_breakWords 1 = .ok (.dup, 1) := by decide +kernel
theorem dX1_breakWords_2 : decode cX1_breakWords 2 = .ok (.getfield 58, 3) := by decide +kernel
theorem dX1_breakWords_5 : decode cX1_breakWords 5 = .ok (.iload_n 1, 1) := by decide +kernel
theorem dX1_breakWords_6 : decode cX1_breakWords 6 = .ok (.ior, 1) := by decide +kernel
theorem dX1_breakWords_7 : decode cX1_breakWords 7 = .ok (.putfield 58, 3) := by decide +kernel
theorem dX1_breakWords_10 : decode cX1_breakWords 10 = .ok (.iconst 0, 1) := by decide +kernel
theorem dX1_breakWords_11 : decode cX1_breakWords 11 = .ok (.istore_n 2, 1) := by decide +kernel
theorem dX1_breakWords_12 : decode cX1_breakWords 12 = .ok (.iload_n 2, 1) := by decide +kernel
theorem dX1_breakWords_13 : decode cX1_breakWords 13 = .ok (.aload_n 0, 1) := by decide +kernel
theorem dX1_breakWords_14 : decode cX1_breakWords 14 = .ok (.getfield 52, 3) := by decide +kernel
theorem dX1_breakWords_17 : decode cX1_breakWords 17 = .ok (.if_icmp .ge 42, 3) := by decide +kernel
theorem dX1_breakWords_20 : decode cX1_breakWords 20 = .ok (.iload_n 1, 1) := by decide +kernel
theorem dX1_breakWords_21 : decode cX1_breakWords 21 = .ok (.iload_n 2, 1) := by decide +kernel
theorem dX1_breakWords_22 : decode cX1_breakWords 22 = .ok (.ishr, 1) := by decide +kernel
theorem dX1_breakWords_23 : decode cX1_breakWords 23 = .ok (.iconst 1, 1) := by decide +kernel
theorem dX1_breakWords_24 : decode cX1_breakWords 24 = .ok (.iand, 1) := by decide +kernel
theorem dX1_breakWords_25 : decode cX1_breakWords 25 = .ok (.ifCond .eq 28, 3) := by decide +kernel
theorem dX1_breakWords_28 : decode cX1_breakWords 28 = .ok (.aload_n 0, 1) := by decide +kernel
theorem dX1_breakWords_29 : decode cX1_breakWords 29 = .ok (.dup, 1) := by decide +kernel
theorem dX1_breakWords_30 : decode cX1_breakWords 30 = .ok (.getfield 55, 3) := by decide +kernel
theorem dX1_breakWords_33 : decode cX1_breakWords 33 = .ok (.aload_n 0, 1) := by decide +kernel
theorem dX1_breakWords_34 : decode cX1_breakWords 34 = .ok (.aload_n 0, 1) := by decide +kernel
theorem dX1_breakWords_35 : decode cX1_breakWords 35 = .ok (.getfield 30, 3) := by decide +kernel
theorem dX1_breakWords_38 : decode cX1_breakWords 38 = .ok (.iload_n 2, 1) := by decide +kernel
theorem dX1_breakWords_39 : decode cX1_breakWords 39 = .ok (.iaload, 1) := by decide +kernel
theorem dX1_breakWords_40 : decode cX1_breakWords 40 = .ok (.aload_n 0, 1) := by decide +kernel
theorem dX1_breakWords_41 : decode cX1_breakWords 41 = .ok (.getfield 27, 3) := by decide +kernel
theorem dX1_breakWords_44 : decode cX1_breakWords 44 = .ok (.iload_n 2, 1) := by decide +kernel
theorem dX1_breakWords_45 : decode cX1_breakWords 45 = .ok (.iaload, 1) := by decide +kernel
theorem dX1_breakWords_46 : decode cX1_breakWords 46 = .ok (.invokevirtual 84, 3) := by decide +kernel
theorem dX1_breakWords_49 : decode cX1_breakWords 49 = .ok (.ior, 1) := by decide +kernel
theorem dX1_breakWords_50 : decode cX1_breakWords 50 = .ok (.putfield 55, 3) := by decide +kernel
theorem dX1_breakWords_53 : decode cX1_breakWords 53 = .ok (.iinc 2 1, 3) := by decide +kernel
theorem dX1_breakWords_56 : decode cX1_breakWords 56 = .ok (.goto (-44), 3) := by decide +kernel
theorem dX1_breakWords_59 : decode cX1_breakWords 59 = .ok (.return_, 1) := by decide +kernel
theorem dX1_bringDown_0 : decode cX1_bringDown 0 = .ok (.iconst 0, 1) := by decide +kernel
theorem dX1_bringDown_1 : decode cX1_bringDown 1 = .ok (.istore_n 1, 1) := by decide +kernel
theorem dX1_bringDown_2 : decode cX1_bringDown 2 = .ok (.iload_n 1, 1) := by decide +kernel
theorem dX1_bringDown_3 : decode cX1_bringDown 3 = .ok (.bipush 12, 2) := by decide +kernel
theorem dX1_bringDown_5 : decode cX1_bringDown 5 = .ok (.if_icmp .ge 25, 3) := by decide +kernel
theorem dX1_bringDown_8 : decode cX1_bringDown 8 = .ok (.aload_n 0, 1) := by decide +kernel
theorem dX1_bringDown_9 : decode cX1_bringDown 9 = .ok (.invokevirtual 103, 3) := by decide +kernel
theorem dX1_bringDown_12 : decode cX1_bringDown 12 = .ok (.istore_n 2, 1) := by decide +kernel
theorem dX1_bringDown_13 : decode cX1_bringDown 13 = .ok (.iload_n 2, 1) := by decide +kernel
theorem dX1_bringDown_14 : decode cX1_bringDown 14 = .ok (.ifCond .ne 5, 3) := by decide +kernel
theorem dX1_bringDown_17 : decode cX1_bringDown 17 = .ok (.iload_n 1, 1) := by decide +kernel
theorem dX1_bringDown_18 : decode cX1_bringDown 18 = .ok (.ireturn, 1) := by decide +kernel
theorem dX1_bringDown_19 : decode cX1_bringDown 19 = .ok (.aload_n 0, 1) := by decide +kernel
theorem dX1_bringDown_20 : decode cX1_bringDown 20 = .ok (.iload_n 2, 1) := by decide +kernel
theorem dX1_bringDown_21 : decode cX1_bringDown 21 = .ok (.invokevirtual 107, 3) := by decide +kernel
theorem dX1_bringDown_24 : decode cX1_bringDown 24 = .ok (.iinc 1 1, 3) := by decide +kernel
theorem dX1_bringDown_27 : decode cX1_bringDown 27 = .ok (.goto (-25), 3) := by decide +kernel
theorem dX1_bringDown_30 : decode cX1_bringDown 30 = .ok (.bipush 12, 2) := by decide +kernel
theorem dX1_bringDown_32 : decode cX1_bringDown 32 = .ok (.ireturn, 1) := by decide +kernel
theorem dX1_pass_0 : decode cX1_pass 0 = .ok (.iload_n 1, 1) := by decide +kernel
theorem dX1_pass_1 : decode cX1_pass 1 = .ok (.ifCond .le 18, 3) := by decide +kernel
theorem dX1_pass_4 : decode cX1_pass 4 = .ok (.aload_n 0, 1) := by decide +kernel
theorem dX1_pass_5 : decode cX1_pass 5 = .ok (.invokevirtual 111, 3) := by decide +kernel
theorem dX1_pass_8 : decode cX1_pass 8 = .ok (.pop, 1) := by decide +kernel
theorem dX1_pass_9 : decode cX1_pass 9 = .ok (.aload_n 0, 1) := by decide +kernel
theorem dX1_pass_10 : decode cX1_pass 10 = .ok (.dup, 1) := by decide +kernel
theorem dX1_pass_11 : decode cX1_pass 11 = .ok (.getfield 61, 3) := by decide +kernel
theorem dX1_pass_14 : decode cX1_pass 14 = .ok (.iload_n 1, 1) := by decide +kernel
theorem dX1_pass_15 : decode cX1_pass 15 = .ok (.iadd, 1) := by decide +kernel
theorem dX1_pass_16 : decode cX1_pass 16 = .ok (.putfield 61, 3) := by decide +kernel
theorem dX1_pass_19 : decode cX1_pass 19 = .ok (.return_, 1) := by decide +kernel
theorem dX2_init_0 : decode cX2_init 0 = .ok (.aload_n 0, 1) := by decide +kernel
theorem dX2_init_1 : decode cX2_init 1 = .ok (.invokespecial 3, 3) := by decide +kernel
theorem dX2_init_4 : decode cX2_init 4 = .ok (.aload_n 0, 1) := by decide +kernel
theorem dX2_init_5 : decode cX2_init 5 = .ok (.new 9, 3) := by decide +kernel
theorem dX2_init_8 : decode cX2_init 8 = .ok (.dup, 1) := by decide +kernel
theorem dX2_init_9 : decode cX2_init 9 = .ok (.invokespecial 11, 3) := by decide +kernel
theorem dX2_init_12 : decode cX2_init 12 = .ok (.putfield 12, 3) := by decide +kernel
theorem dX2_init_15 : decode cX2_init 15 = .ok (.aload_n 0, 1) := by decide +kernel
theorem dX2_init_16 : decode cX2_init 16 = .ok (.bipush 14, 2) := by decide +kernel
theorem dX2_init_18 : decode cX2_init 18 = .ok (.newarray .int, 2) := by decide +kernel
theorem dX2_init_20 : decode cX2_init 20 = .ok (.putfield 18, 3) := by decide +kernel
theorem dX2_init_23 : decode cX2_init 23 = .ok (.aload_n 0, 1) := by decide +kernel
theorem dX2_init_24 : decode cX2_init 24 = .ok (.bipush 14, 2) := by decide +kernel
theorem dX2_init_26 : decode cX2_init 26 = .ok (.newarray .int, 2) := by decide +kernel
theorem dX2_init_28 : decode cX2_init 28 = .ok (.putfield 22, 3) := by decide +kernel
theorem dX2_init_31 : decode cX2_init 31 = .ok (.aload_n 0, 1) := by decide +kernel
theorem dX2_init_32 : decode cX2_init 32 = .ok (.sipush 256, 3) := by decide +kernel
theorem dX2_init_35 : decode cX2_init 35 = .ok (.newarray .boolean, 2) := by decide +kernel
theorem dX2_init_37 : decode cX2_init 37 = .ok (.putfield 25, 3) := by decide +kernel
theorem dX2_init_40 : decode cX2_init 40 = .ok (.aload_n 0, 1) := by decide +kernel
theorem dX2_init_41 : decode cX2_init 41 = .ok (.bipush 8, 2) := by decide +kernel
theorem dX2_init_43 : decode cX2_init 43 = .ok (.newarray .int, 2) := by decide +kernel
theorem dX2_init_45 : decode cX2_init 45 = .ok (.putfield 29, 3) := by decide +kernel
theorem dX2_init_48 : decode cX2_init 48 = .ok (.return_, 1) := by decide +kernel
theorem dX2_aim_0 : decode cX2_aim 0 = .ok (.aload_n 0, 1) := by decide +kernel
theorem dX2_aim_1 : decode cX2_aim 1 = .ok (.iconst 0, 1) := by decide +kernel
theorem dX2_aim_2 : decode cX2_aim 2 = .ok (.putfield 32, 3) := by decide +kernel
theorem dX2_aim_5 : decode cX2_aim 5 = .ok (.iconst 0, 1) := by decide +kernel
theorem dX2_aim_6 : decode cX2_aim 6 = .ok (.istore_n 3, 1) := by decide +kernel
theorem dX2_aim_7 : decode cX2_aim 7 = .ok (.iload_n 3, 1) := by decide +kernel
theorem dX2_aim_8 : decode cX2_aim 8 = .ok (.aload_n 1, 1) := by decide +kernel
theorem dX2_aim_9 : decode cX2_aim 9 = .ok (.getfield 36, 3) := by decide +kernel
theorem dX2_aim_12 : decode cX2_aim 12 = .ok (.if_icmp .ge 71, 3) := by decide +kernel
theorem dX2_aim_15 : decode cX2_aim 15 = .ok (.iload_n 3, 1) := by decide +kernel
theorem dX2_aim_16 : decode cX2_aim 16 = .ok (.aload_n 2, 1) := by decide +kernel
theorem dX2_aim_17 : decode cX2_aim 17 = .ok (.getfield 39, 3) := by decide +kernel
theorem dX2_aim_20 : decode cX2_aim 20 = .ok (.if_icmp .ge 63, 3) := by decide +kernel
theorem dX2_aim_23 : decode cX2_aim 23 = .ok (.aload_n 2, 1) := by decide +kernel
theorem dX2_aim_24 : decode cX2_aim 24 = .ok (.iload_n 3, 1) := by decide +kernel
theorem dX2_aim_25 : decode cX2_aim 25 = .ok (.invokevirtual 44, 3) := by decide +kernel
theorem dX2_aim_28 : decode cX2_aim 28 = .ok (.istore 4, 2) := by decide +kernel
theorem dX2_aim_30 : decode cX2_aim 30 = .ok (.iload 4, 2) := by decide +kernel
theorem dX2_aim_32 : decode cX2_aim 32 = .ok (.ifCond .lt 45, 3) := by decide +kernel
theorem dX2_aim_35 : decode cX2_aim 35 = .ok (.iload 4, 2) := by decide +kernel
theorem dX2_aim_37 : decode cX2_aim 37 = .ok (.aload_n 1, 1) := by decide +kernel
theorem dX2_aim_38 : decode cX2_aim 38 = .ok (.getfield 48, 3) := by decide +kernel
theorem dX2_aim_41 : decode cX2_aim 41 = .ok (.iload_n 3, 1) := by decide +kernel
theorem dX2_aim_42 : decode cX2_aim 42 = .ok (.iaload, 1) := by decide +kernel
theorem dX2_aim_43 : decode cX2_aim 43 = .ok (.if_icmp .eq 34, 3) := by decide +kernel
theorem dX2_aim_46 : decode cX2_aim 46 = .ok (.aload_n 0, 1) := by decide +kernel
theorem dX2_aim_47 : decode cX2_aim 47 = .ok (.getfield 18, 3) := by decide +kernel
theorem dX2_aim_50 : decode cX2_aim 50 = .ok (.aload_n 0, 1) := by decide +kernel
theorem dX2_aim_51 : decode cX2_aim 51 = .ok (.getfield 32, 3) := by decide +kernel
theorem dX2_aim_54 : decode cX2_aim 54 = .ok (.iload_n 3, 1) := by decide +kernel
theorem dX2_aim_55 : decode cX2_aim 55 = .ok (.iastore, 1) := by decide +kernel
theorem dX2_aim_56 : decode cX2_aim 56 = .ok (.aload_n 0, 1) := by decide +kernel
theorem dX2_aim_57 : decode cX2_aim 57 = .ok (.getfield 22, 3) := by decide +kernel
theorem dX2_aim_60 : decode cX2_aim 60 = .ok (.aload_n 0, 1) := by decide +kernel
theorem dX2_aim_61 : decode cX2_aim 61 = .ok (.getfield 32, 3) := by decide +kernel
theorem dX2_aim_64 : decode cX2_aim 64 = .ok (.iload 4, 2) := by decide +kernel
theorem dX2_aim_66 : decode cX2_aim 66 = .ok (.iastore, 1) := by decide +kernel
theorem dX2_aim_67 : decode cX2_aim 67 = .ok (.aload_n 0, 1) := by decide +kernel
theorem dX2_aim_68 : decode cX2_aim 68 = .ok (.dup, 1) := by decide +kernel
theorem dX2_aim_69 : decode cX2_aim 69 = .ok (.getfield 32, 3) := by decide +kernel
theorem dX2_aim_72 : decode cX2_aim 72 = .ok (.iconst 1, 1) := by decide +kernel
theorem dX2_aim_73 : decode cX2_aim 73 = .ok (.iadd, 1) := by decide +kernel
theorem dX2_aim_74 : decode cX2_aim 74 = .ok (.putfield 32, 3) := by decide +kernel
theorem dX2_aim_77 : decode cX2_aim 77 = .ok (.iinc 3 1, 3) := by decide +kernel
theorem dX2_aim_80 : decode cX2_aim 80 = .ok (.goto (-73), 3) := by decide +kernel
theorem dX2_aim_83 : decode cX2_aim 83 = .ok (.return_, 1) := by decide +kernel
theorem dX2_movesDead_0 : decode cX2_movesDead 0 = .ok (.iconst 0, 1) := by decide +kernel
theorem dX2_movesDead_1 : decode cX2_movesDead 1 = .ok (.istore_n 2, 1) := by decide +kernel
theorem dX2_movesDead_2 : decode cX2_movesDead 2 = .ok (.iload_n 2, 1) := by decide +kernel
theorem dX2_movesDead_3 : decode cX2_movesDead 3 = .ok (.aload_n 0, 1) := by decide +kernel
theorem dX2_movesDead_4 : decode cX2_movesDead 4 = .ok (.getfield 32, 3) := by decide +kernel
theorem dX2_movesDead_7 : decode cX2_movesDead 7 = .ok (.if_icmp .ge 24, 3) := by decide +kernel
theorem dX2_movesDead_10 : decode cX2_movesDead 10 = .ok (.aload_n 1, 1) := by decide +kernel
theorem dX2_movesDead_11 : decode cX2_movesDead 11 = .ok (.aload_n 0, 1) := by decide +kernel
theorem dX2_movesDead_12 : decode cX2_movesDead 12 = .ok (.getfield 18, 3) := by decide +kernel
theorem dX2_movesDead_15 : decode cX2_movesDead 15 = .ok (.iload_n 2, 1) := by decide +kernel
theorem dX2_movesDead_16 : decode cX2_movesDead 16 = .ok (.iaload, 1) := by decide +kernel
theorem dX2_movesDead_17 : decode cX2_movesDead 17 = .ok (.invokevirtual 51, 3) := by decide +kernel
theorem dX2_movesDead_20 : decode cX2_movesDead 20 = .ok (.ifCond .eq 5, 3) := by decide +kernel
theorem dX2_movesDead_23 : decode cX2_movesDead 23 = .ok (.iconst 1, 1) := by decide +kernel
theorem dX2_movesDead_24 : decode cX2_movesDead 24 = .ok (.ireturn, 1) := by decide +kernel
theorem dX2_movesDead_25 : decode cX2_movesDead 25 = .ok (.iinc 2 1, 3) := by decide +kernel
theorem dX2_movesDead_28 : decode cX2_movesDead 28 = .ok (.goto (-26), 3) := by decide +kernel
theorem dX2_movesDead_31 : decode cX2_movesDead 31 = .ok (.iconst 0, 1) := by decide +kernel
theorem dX2_movesDead_32 : decode cX2_movesDead 32 = .ok (.ireturn, 1) := by decide +kernel
theorem dX2_find_0 : decode cX2_find 0 = .ok (.aload_n 0, 1) := by decide +kernel
theorem dX2_find_1 : decode cX2_find 1 = .ok (.getfield 12, 3) := by decide +kernel
theorem dX2_find_4 : decode cX2_find 4 = .ok (.aload_n 1, 1) := by decide +kernel
theorem dX2_find_5 : decode cX2_find 5 = .ok (.invokevirtual 55, 3) := by decide +kernel
theorem dX2_find_8 : decode cX2_find 8 = .ok (.iconst 1, 1) := by decide +kernel
theorem dX2_find_9 : decode cX2_find 9 = .ok (.aload_n 0, 1) := by decide +kernel
theorem dX2_find_10 : decode cX2_find 10 = .ok (.getfield 32, 3) := by decide +kernel
theorem dX2_find_13 : decode cX2_find 13 = .ok (.ishl, 1) := by decide +kernel
theorem dX2_find_14 : decode cX2_find 14 = .ok (.iconst 1, 1) := by decide +kernel
theorem dX2_find_15 : decode cX2_find 15 = .ok (.isub, 1) := by decide +kernel
theorem dX2_find_16 : decode cX2_find 16 = .ok (.istore_n 2, 1) := by decide +kernel
theorem dX2_find_17 : decode cX2_find 17 = .ok (.iload_n 2, 1) := by decide +kernel
theorem dX2_find_18 : decode cX2_find 18 = .ok (.istore_n 3, 1) := by decide +kernel
theorem dX2_find_19 : decode cX2_find 19 = .ok (.iload_n 3, 1) := by decide +kernel
theorem dX2_find_20 : decode cX2_find 20 = .ok (.ifCond .le 42, 3) := by decide +kernel
theorem dX2_find_23 : decode cX2_find 23 = .ok (.aload_n 0, 1) := by decide +kernel
theorem dX2_find_24 : decode cX2_find 24 = .ok (.getfield 25, 3) := by decide +kernel
theorem dX2_find_27 : decode cX2_find 27 = .ok (.iload_n 3, 1) := by decide +kernel
theorem dX2_find_28 : decode cX2_find 28 = .ok (.iload_n 3, 1) := by decide +kernel
theorem dX2_find_29 : decode cX2_find 29 = .ok (.iload_n 2, 1) := by decide +kernel
theorem dX2_find_30 : decode cX2_find 30 = .ok (.if_icmp .eq 11, 3) := by decide +kernel
theorem dX2_find_33 : decode cX2_find 33 = .ok (.aload_n 0, 1) := by decide +kernel
theorem dX2_find_34 : decode cX2_find 34 = .ok (.iload_n 3, 1) := by decide +kernel
theorem dX2_find_35 : decode cX2_find 35 = .ok (.invokevirtual 59, 3) := by decide +kernel
theorem dX2_find_38 : decode cX2_find 38 = .ok (.ifCond .lt 16, 3) := by decide +kernel
theorem dX2_find_41 : decode cX2_find 41 = .ok (.aload_n 0, 1) := by decide +kernel
theorem dX2_find_42 : decode cX2_find 42 = .ok (.aload_n 1, 1) := by decide +kernel
theorem dX2_find_43 : decode cX2_find 43 = .ok (.iload_n 3, 1) := by decide +kernel
theorem dX2_find_44 : decode cX2_find 44 = .ok (.invokevirtual 62, 3) := by decide +kernel
theorem dX2_find_47 : decode cX2_find 47 = .ok (.ifCond .eq 7, 3) := by decide +kernel
theorem dX2_find_50 : decode cX2_find 50 = .ok (.iconst 1, 1) := by decide +kernel
theorem dX2_find_51 : decode cX2_find 51 = .ok (.goto 4, 3) := by decide +kernel
theorem dX2_find_54 : decode cX2_find 54 = .ok (.iconst 0, 1) := by decide +kernel
theorem dX2_find_55 : decode cX2_find 55 = .ok (.bastore, 1) := by decide +kernel
theorem dX2_find_56 : decode cX2_find 56 = .ok (.iinc 3 (-1), 3) := by decide +kernel
theorem dX2_find_59 : decode cX2_find 59 = .ok (.goto (-40), 3) := by decide +kernel
theorem dX2_find_62 : decode cX2_find 62 = .ok (.iconst 0, 1) := by decide +kernel
theorem dX2_find_63 : decode cX2_find 63 = .ok (.istore_n 3, 1) := by decide +kernel
theorem dX2_find_64 : decode cX2_find 64 = .ok (.iconst 0, 1) := by decide +kernel
theorem dX2_find_65 : decode cX2_find 65 = .ok (.istore 4, 2) := by decide +kernel
theorem dX2_find_67 : decode cX2_find 67 = .ok (.iload 4, 2) := by decide +kernel
theorem dX2_find_69 : decode cX2_find 69 = .ok (.aload_n 0, 1) := by decide +kernel
theorem dX2_find_70 : decode cX2_find 70 = .ok (.getfield 32, 3) := by decide +kernel
theorem dX2_find_73 : decode cX2_find 73 = .ok (.if_icmp .ge 44, 3) := by decide +kernel
theorem dX2_find_76 : decode cX2_find 76 = .ok (.aload_n 0, 1) := by decide +kernel
theorem dX2_find_77 : decode cX2_find 77 = .ok (.iload_n 3, 1) := by decide +kernel
theorem dX2_find_78 : decode cX2_find 78 = .ok (.invokevirtual 59, 3) := by decide +kernel
theorem dX2_find_81 : decode cX2_find 81 = .ok (.istore 5, 2) := by decide +kernel
theorem dX2_find_83 : decode cX2_find 83 = .ok (.iload 5, 2) := by decide +kernel
theorem dX2_find_85 : decode cX2_find 85 = .ok (.ifCond .ge 5, 3) := by decide +kernel
theorem dX2_find_88 : decode cX2_find 88 = .ok (.iconst 0, 1) := by decide +kernel
theorem dX2_find_89 : decode cX2_find 89 = .ok (.ireturn, 1) := by decide +kernel
theorem dX2_find_90 : decode cX2_find 90 = .ok (.aload_n 0, 1) := by decide +kernel
theorem dX2_find_91 : decode cX2_find 91 = .ok (.getfield 29, 3) := by decide +kernel
theorem dX2_find_94 : decode cX2_find 94 = .ok (.iload 4, 2) := by decide +kernel
theorem dX2_find_96 : decode cX2_find 96 = .ok (.aload_n 0, 1) := by decide +kernel
theorem dX2_find_97 : decode cX2_find 97 = .ok (.getfield 18, 3) := by decide +kernel
theorem dX2_find_100 : decode cX2_find 100 = .ok (.iload 5, 2) := by decide +kernel
theorem dX2_find_102 : decode cX2_find 102 = .ok (.iaload, 1) := by decide +kernel
theorem dX2_find_103 : decode cX2_find 103 = .ok (.iastore, 1) := by decide +kernel
theorem dX2_find_104 : decode cX2_find 104 = .ok (.iload_n 3, 1) := by decide +kernel
theorem dX2_find_105 : decode cX2_find 105 = .ok (.iconst 1, 1) := by decide +kernel
theorem dX2_find_106 : decode cX2_find 106 = .ok (.iload 5, 2) := by decide +kernel
theorem dX2_find_108 : decode cX2_find 108 = .ok (.ishl, 1) := by decide +kernel
theorem dX2_find_109 : decode cX2_find 109 = .ok (.ior, 1) := by decide +kernel
theorem dX2_find_110 : decode cX2_find 110 = .ok (.istore_n 3, 1) := by decide +kernel
theorem dX2_find_111 : decode cX2_find 111 = .ok (.iinc 4 1, 3) := by decide +kernel
theorem dX2_find_114 : decode cX2_find 114 = .ok (.goto (-47), 3) := by decide +kernel
theorem dX2_find_117 : decode cX2_find 117 = .ok (.iconst 1, 1) := by decide +kernel
theorem dX2_find_118 : decode cX2_find 118 = .ok (.ireturn, 1) := by decide +kernel
theorem dX2_firstStep_0 : decode cX2_firstStep 0 = .ok (.iconst 0, 1) := by decide +kernel
theorem dX2_firstStep_1 : decode cX2_firstStep 1 = .ok (.istore_n 2, 1) := by decide +kernel
theorem dX2_firstStep_2 : decode cX2_firstStep 2 = .ok (.iload_n 2, 1) := by decide +kernel
theorem dX2_firstStep_3 : decode cX2_firstStep 3 = .ok (.aload_n 0, 1) := by decide +kernel
theorem dX2_firstStep_4 : decode cX2_firstStep 4 = .ok (.getfield 32, 3) := by decide +kernel
theorem dX2_firstStep_7 : decode cX2_firstStep 7 = .ok (.if_icmp .ge 32, 3) := by decide +kernel
theorem dX2_firstStep_10 : decode cX2_firstStep 10 = .ok (.iload_n 1, 1) := by decide +kernel
theorem dX2_firstStep_11 : decode cX2_firstStep 11 = .ok (.iload_n 2, 1) := by decide +kernel
theorem dX2_firstStep_12 : decode cX2_firstStep 12 = .ok (.ishr, 1) := by decide +kernel
theorem dX2_firstStep_13 : decode cX2_firstStep 13 = .ok (.iconst 1, 1) := by decide +kernel
theorem dX2_firstStep_14 : decode cX2_firstStep 14 = .ok (.iand, 1) := by decide +kernel
theorem dX2_firstStep_15 : decode cX2_firstStep 15 = .ok (.ifCond .ne 18, 3) := by decide +kernel
theorem dX2_firstStep_18 : decode cX2_firstStep 18 = .ok (.aload_n 0, 1) := by decide +kernel
theorem dX2_firstStep_19 : decode cX2_firstStep 19 = .ok (.getfield 25, 3) := by decide +kernel
theorem dX2_firstStep_22 : decode cX2_firstStep 22 = .ok (.iload_n 1, 1) := by decide +kernel
theorem dX2_firstStep_23 : decode cX2_firstStep 23 = .ok (.iconst 1, 1) := by decide +kernel
theorem dX2_firstStep_24 : decode cX2_firstStep 24 = .ok (.iload_n 2, 1) := by decide +kernel
theorem dX2_firstStep_25 : decode cX2_firstStep 25 = .ok (.ishl, 1) := by decide +kernel
theorem dX2_firstStep_26 : decode cX2_firstStep 26 = .ok (.ior, 1) := by decide +kernel
theorem dX2_firstStep_27 : decode cX2_firstStep 27 = .ok (.baload, 1) := by decide +kernel
theorem dX2_firstStep_28 : decode cX2_firstStep 28 = .ok (.ifCond .eq 5, 3) := by decide +kernel
theorem dX2_firstStep_31 : decode cX2_firstStep 31 = .ok (.iload_n 2, 1) := by decide +kernel
theorem dX2_firstStep_32 : decode cX2_firstStep 32 = .ok (.ireturn, 1) := by decide +kernel
theorem dX2_firstStep_33 : decode cX2_firstStep 33 = .ok (.iinc 2 1, 3) := by decide +kernel
theorem dX2_firstStep_36 : decode cX2_firstStep 36 = .ok (.goto (-34), 3) := by decide +kernel
theorem dX2_firstStep_39 : decode cX2_firstStep 39 = .ok (.iconst (-1), 1) := by decide +kernel
theorem dX2_firstStep_40 : decode cX2_firstStep 40 = .ok (.ireturn, 1) := by decide +kernel
theorem dX2_holdsAt_0 : decode cX2_holdsAt 0 = .ok (.iconst 0, 1) := by decide +kernel
theorem dX2_holdsAt_1 : decode cX2_holdsAt 1 = .ok (.istore_n 3, 1) := by decide +kernel
theorem dX2_holdsAt_2 : decode cX2_holdsAt 2 = .ok (.iload_n 3, 1) := by decide +kernel
theorem dX2_holdsAt_3 : decode cX2_holdsAt 3 = .ok (.aload_n 0, 1) := by decide +kernel
theorem dX2_holdsAt_4 : decode cX2_holdsAt 4 = .ok (.getfield 32, 3) := by decide +kernel
theorem dX2_holdsAt_7 : decode cX2_holdsAt 7 = .ok (.if_icmp .ge 51, 3) := by decide +kernel
theorem dX2_holdsAt_10 : decode cX2_holdsAt 10 = .ok (.aload_n 0, 1) := by decide +kernel
theorem dX2_holdsAt_11 : decode cX2_holdsAt 11 = .ok (.getfield 18, 3) := by decide +kernel
theorem dX2_holdsAt_14 : decode cX2_holdsAt 14 = .ok (.iload_n 3, 1) := by decide +kernel
theorem dX2_holdsAt_15 : decode cX2_holdsAt 15 = .ok (.iaload, 1) := by decide +kernel
theorem dX2_holdsAt_16 : decode cX2_holdsAt 16 = .ok (.istore 4, 2) := by decide +kernel
theorem dX2_holdsAt_18 : decode cX2_holdsAt 18 = .ok (.aload_n 0, 1) := by decide +kernel
theorem dX2_holdsAt_19 : decode cX2_holdsAt 19 = .ok (.getfield 12, 3) := by decide +kernel
theorem dX2_holdsAt_22 : decode cX2_holdsAt 22 = .ok (.getfield 48, 3) := by decide +kernel
theorem dX2_holdsAt_25 : decode cX2_holdsAt 25 = .ok (.iload 4, 2) := by decide +kernel
theorem dX2_holdsAt_27 : decode cX2_holdsAt 27 = .ok (.iload_n 2, 1) := by decide +kernel
theorem dX2_holdsAt_28 : decode cX2_holdsAt 28 = .ok (.iload_n 3, 1) := by decide +kernel
theorem dX2_holdsAt_29 : decode cX2_holdsAt 29 = .ok (.ishr, 1) := by decide +kernel
theorem dX2_holdsAt_30 : decode cX2_holdsAt 30 = .ok (.iconst 1, 1) := by decide +kernel
theorem dX2_holdsAt_31 : decode cX2_holdsAt 31 = .ok (.iand, 1) := by decide +kernel
theorem dX2_holdsAt_32 : decode cX2_holdsAt 32 = .ok (.ifCond .eq 12, 3) := by decide +kernel
theorem dX2_holdsAt_35 : decode cX2_holdsAt 35 = .ok (.aload_n 0, 1) := by decide +kernel
theorem dX2_holdsAt_36 : decode cX2_holdsAt 36 = .ok (.getfield 22, 3) := by decide +kernel
theorem dX2_holdsAt_39 : decode cX2_holdsAt 39 = .ok (.iload_n 3, 1) := by decide +kernel
theorem dX2_holdsAt_40 : decode cX2_holdsAt 40 = .ok (.iaload, 1) := by decide +kernel
theorem dX2_holdsAt_41 : decode cX2_holdsAt 41 = .ok (.goto 10, 3) := by decide +kernel
theorem dX2_holdsAt_44 : decode cX2_holdsAt 44 = .ok (.aload_n 1, 1) := by decide +kernel
theorem dX2_holdsAt_45 : decode cX2_holdsAt 45 = .ok (.getfield 48, 3) := by decide +kernel
theorem dX2_holdsAt_48 : decode cX2_holdsAt 48 = .ok (.iload 4, 2) := by decide +kernel
theorem dX2_holdsAt_50 : decode cX2_holdsAt 50 = .ok (.iaload, 1) := by decide +kernel
theorem dX2_holdsAt_51 : decode cX2_holdsAt 51 = .ok (.iastore, 1) := by decide +kernel
theorem dX2_holdsAt_52 : decode cX2_holdsAt 52 = .ok (.iinc 3 1, 3) := by decide +kernel
theorem dX2_holdsAt_55 : decode cX2_holdsAt 55 = .ok (.goto (-53), 3) := by decide +kernel
theorem dX2_holdsAt_58 : decode cX2_holdsAt 58 = .ok (.aload_n 0, 1) := by decide +kernel
theorem dX2_holdsAt_59 : decode cX2_holdsAt 59 = .ok (.getfield 12, 3) := by decide +kernel
theorem dX2_holdsAt_62 : decode cX2_holdsAt 62 = .ok (.invokevirtual 66, 3) := by decide +kernel
theorem dX2_holdsAt_65 : decode cX2_holdsAt 65 = .ok (.ifCond .ne 7, 3) := by decide +kernel
theorem dX2_holdsAt_68 : decode cX2_holdsAt 68 = .ok (.iconst 1, 1) := by decide +kernel
theorem dX2_holdsAt_69 : decode cX2_holdsAt 69 = .ok (.goto 4, 3) := by decide +kernel
theorem dX2_holdsAt_72 : decode cX2_holdsAt 72 = .ok (.iconst 0, 1) := by decide +kernel
theorem dX2_holdsAt_73 : decode cX2_holdsAt 73 = .ok (.ireturn, 1) := by decide +kernel
theorem dX3_init_0 : decode cX3_init 0 = .ok (.aload_n 0, 1) := by decide +kernel
theorem dX3_init_1 : decode cX3_init 1 = .ok (.invokespecial 3, 3) := by decide +kernel
theorem dX3_init_4 : decode cX3_init 4 = .ok (.aload_n 0, 1) := by decide +kernel
theorem dX3_init_5 : decode cX3_init 5 = .ok (.bipush 40, 2) := by decide +kernel
theorem dX3_init_7 : decode cX3_init 7 = .ok (.newarray .long, 2) := by decide +kernel
theorem dX3_init_9 : decode cX3_init 9 = .ok (.putfield 9, 3) := by decide +kernel
theorem dX3_init_12 : decode cX3_init 12 = .ok (.return_, 1) := by decide +kernel
theorem dX3_isMissing_0 : decode cX3_isMissing 0 = .ok (.aload_n 0, 1) := by decide +kernel
theorem dX3_isMissing_1 : decode cX3_isMissing 1 = .ok (.getfield 15, 3) := by decide +kernel
theorem dX3_isMissing_4 : decode cX3_isMissing 4 = .ok (.ifCond .ne 7, 3) := by decide +kernel
theorem dX3_isMissing_7 : decode cX3_isMissing 7 = .ok (.iconst 1, 1) := by decide +kernel
theorem dX3_isMissing_8 : decode cX3_isMissing 8 = .ok (.goto 4, 3) := by decide +kernel
theorem dX3_isMissing_11 : decode cX3_isMissing 11 = .ok (.iconst 0, 1) := by decide +kernel
theorem dX3_isMissing_12 : decode cX3_isMissing 12 = .ok (.ireturn, 1) := by decide +kernel
theorem dX3_lay_0 : decode cX3_lay 0 = .ok (.aload_n 0, 1) := by decide +kernel
theorem dX3_lay_1 : decode cX3_lay 1 = .ok (.iload_n 1, 1) := by decide +kernel
theorem dX3_lay_2 : decode cX3_lay 2 = .ok (.putfield 15, 3) := by decide +kernel
theorem dX3_lay_5 : decode cX3_lay 5 = .ok (.aload_n 0, 1) := by decide +kernel
theorem dX3_lay_6 : decode cX3_lay 6 = .ok (.iload_n 2, 1) := by decide +kernel
theorem dX3_lay_7 : decode cX3_lay 7 = .ok (.putfield 19, 3) := by decide +kernel
theorem dX3_lay_10 : decode cX3_lay 10 = .ok (.iconst 0, 1) := by decide +kernel
theorem dX3_lay_11 : decode cX3_lay 11 = .ok (.istore_n 3, 1) := by decide +kernel
theorem dX3_lay_12 : decode cX3_lay 12 = .ok (.iload_n 3, 1) := by decide +kernel
theorem dX3_lay_13 : decode cX3_lay 13 = .ok (.bipush 40, 2) := by decide +kernel
theorem dX3_lay_15 : decode cX3_lay 15 = .ok (.if_icmp .ge 16, 3) := by decide +kernel
theorem dX3_lay_18 : decode cX3_lay 18 = .ok (.aload_n 0, 1) := by decide +kernel
theorem dX3_lay_19 : decode cX3_lay 19 = .ok (.getfield 9, 3) := by decide +kernel
theorem dX3_lay_22 : decode cX3_lay 22 = .ok (.iload_n 3, 1) := by decide +kernel
theorem dX3_lay_23 : decode cX3_lay 23 = .ok (.lconst 0, 1) := by decide +kernel
theorem dX3_lay_24 : decode cX3_lay 24 = .ok (.lastore, 1) := by decide +kernel
theorem dX3_lay_25 : decode cX3_lay 25 = .ok (.iinc 3 1, 3) := by decide +kernel
theorem dX3_lay_28 : decode cX3_lay 28 = .ok (.goto (-16), 3) := by decide +kernel
theorem dX3_lay_31 : decode cX3_lay 31 = .ok (.return_, 1) := by decide +kernel
theorem dX3_put_0 : decode cX3_put 0 = .ok (.aload_n 0, 1) := by decide +kernel
theorem dX3_put_1 : decode cX3_put 1 = .ok (.getfield 15, 3) := by decide +kernel
theorem dX3_put_4 : decode cX3_put 4 = .ok (.bipush 8, 2) := by decide +kernel
theorem dX3_put_6 : decode cX3_put 6 = .ok (.if_icmp .ne 16, 3) := by decide +kernel
theorem dX3_put_9 : decode cX3_put 9 = .ok (.aload_n 0, 1) := by decide +kernel
theorem dX3_put_10 : decode cX3_put 10 = .ok (.getfield 9, 3) := by decide +kernel
theorem dX3_put_13 : decode cX3_put 13 = .ok (.iload_n 1, 1) := by decide +kernel
theorem dX3_put_14 : decode cX3_put 14 = .ok (.lload_n 2, 1) := by decide +kernel
theorem dX3_put_15 : decode cX3_put 15 = .ok (.l2i, 1) := by decide +kernel
theorem dX3_put_16 : decode cX3_put 16 = .ok (.i2b, 1) := by decide +kernel
theorem dX3_put_17 : decode cX3_put 17 = .ok (.i2l, 1) := by decide +kernel
theorem dX3_put_18 : decode cX3_put 18 = .ok (.lastore, 1) := by decide +kernel
theorem dX3_put_19 : decode cX3_put 19 = .ok (.goto 32, 3) := by decide +kernel
theorem dX3_put_22 : decode cX3_put 22 = .ok (.aload_n 0, 1) := by decide +kernel
theorem dX3_put_23 : decode cX3_put 23 = .ok (.getfield 15, 3) := by decide +kernel
theorem dX3_put_26 : decode cX3_put 26 = .ok (.bipush 16, 2) := by decide +kernel
theorem dX3_put_28 : decode cX3_put 28 = .ok (.if_icmp .ne 16, 3) := by decide +kernel
theorem dX3_put_31 : decode cX3_put 31 = .ok (.aload_n 0, 1) := by decide +kernel
theorem dX3_put_32 : decode cX3_put 32 = .ok (.getfield 9, 3) := by decide +kernel
theorem dX3_put_35 : decode cX3_put 35 = .ok (.iload_n 1, 1) := by decide +kernel
theorem dX3_put_36 : decode cX3_put 36 = .ok (.lload_n 2, 1) := by decide +kernel
theorem dX3_put_37 : decode cX3_put 37 = .ok (.l2i, 1) := by decide +kernel
theorem dX3_put_38 : decode cX3_put 38 = .ok (.i2s, 1) := by decide +kernel
theorem dX3_put_39 : decode cX3_put 39 = .ok (.i2l, 1) := by decide +kernel
theorem dX3_put_40 : decode cX3_put 40 = .ok (.lastore, 1) := by decide +kernel
theorem dX3_put_41 : decode cX3_put 41 = .ok (.goto 10, 3) := by decide +kernel
theorem dX3_put_44 : decode cX3_put 44 = .ok (.aload_n 0, 1) := by decide +kernel
theorem dX3_put_45 : decode cX3_put 45 = .ok (.getfield 9, 3) := by decide +kernel
theorem dX3_put_48 : decode cX3_put 48 = .ok (.iload_n 1, 1) := by decide +kernel
theorem dX3_put_49 : decode cX3_put 49 = .ok (.lload_n 2, 1) := by decide +kernel
theorem dX3_put_50 : decode cX3_put 50 = .ok (.lastore, 1) := by decide +kernel
theorem dX3_put_51 : decode cX3_put 51 = .ok (.return_, 1) := by decide +kernel
theorem dX3_hasRow_0 : decode cX3_hasRow 0 = .ok (.iload_n 1, 1) := by decide +kernel
theorem dX3_hasRow_1 : decode cX3_hasRow 1 = .ok (.ifCond .lt 25, 3) := by decide +kernel
theorem dX3_hasRow_4 : decode cX3_hasRow 4 = .ok (.iload_n 2, 1) := by decide +kernel
theorem dX3_hasRow_5 : decode cX3_hasRow 5 = .ok (.ifCond .lt 21, 3) := by decide +kernel
theorem dX3_hasRow_8 : decode cX3_hasRow 8 = .ok (.iload_n 1, 1) := by decide +kernel
theorem dX3_hasRow_9 : decode cX3_hasRow 9 = .ok (.i2l, 1) := by decide +kernel
theorem dX3_hasRow_10 : decode cX3_hasRow 10 = .ok (.iload_n 2, 1) := by decide +kernel
theorem dX3_hasRow_11 : decode cX3_hasRow 11 = .ok (.i2l, 1) := by decide +kernel
theorem dX3_hasRow_12 : decode cX3_hasRow 12 = .ok (.ladd, 1) := by decide +kernel
theorem dX3_hasRow_13 : decode cX3_hasRow 13 = .ok (.aload_n 0, 1) := by decide +kernel
theorem dX3_hasRow_14 : decode cX3_hasRow 14 = .ok (.getfield 19, 3) := by decide +kernel
theorem dX3_hasRow_17 : decode cX3_hasRow 17 = .ok (.i2l, 1) := by decide +kernel
theorem dX3_hasRow_18 : decode cX3_hasRow 18 = .ok (.lcmp, 1) := by decide +kernel
theorem dX3_hasRow_19 : decode cX3_hasRow 19 = .ok (.ifCond .gt 7, 3) := by decide +kernel
theorem dX3_hasRow_22 : decode cX3_hasRow 22 = .ok (.iconst 1, 1) := by decide +kernel
theorem dX3_hasRow_23 : decode cX3_hasRow 23 = .ok (.goto 4, 3) := by decide +kernel
theorem dX3_hasRow_26 : decode cX3_hasRow 26 = .ok (.iconst 0, 1) := by decide +kernel
theorem dX3_hasRow_27 : decode cX3_hasRow 27 = .ok (.ireturn, 1) := by decide +kernel
theorem dX3_holderAt_0 : decode cX3_holderAt 0 = .ok (.aload_n 0, 1) := by decide +kernel
theorem dX3_holderAt_1 : decode cX3_holderAt 1 = .ok (.getfield 9, 3) := by decide +kernel
theorem dX3_holderAt_4 : decode cX3_holderAt 4 = .ok (.iload_n 1, 1) := by decide +kernel
theorem dX3_holderAt_5 : decode cX3_holderAt 5 = .ok (.laload, 1) := by decide +kernel
theorem dX3_holderAt_6 : decode cX3_holderAt 6 = .ok (.lstore_n 2, 1) := by decide +kernel
theorem dX3_holderAt_7 : decode cX3_holderAt 7 = .ok (.lload_n 2, 1) := by decide +kernel
theorem dX3_holderAt_8 : decode cX3_holderAt 8 = .ok (.lconst 0, 1) := by decide +kernel
theorem dX3_holderAt_9 : decode cX3_holderAt 9 = .ok (.lcmp, 1) := by decide +kernel
theorem dX3_holderAt_10 : decode cX3_holderAt 10 = .ok (.ifCond .lt 16, 3) := by decide +kernel
theorem dX3_holderAt_13 : decode cX3_holderAt 13 = .ok (.lload_n 2, 1) := by decide +kernel
theorem dX3_holderAt_14 : decode cX3_holderAt 14 = .ok (.ldc2_w 22, 3) := by decide +kernel
theorem dX3_holderAt_17 : decode cX3_holderAt 17 = .ok (.lcmp, 1) := by decide +kernel
theorem dX3_holderAt_18 : decode cX3_holderAt 18 = .ok (.ifCond .ge 8, 3) := by decide +kernel
theorem dX3_holderAt_21 : decode cX3_holderAt 21 = .ok (.lload_n 2, 1) := by decide +kernel
theorem dX3_holderAt_22 : decode cX3_holderAt 22 = .ok (.l2i, 1) := by decide +kernel
theorem dX3_holderAt_23 : decode cX3_holderAt 23 = .ok (.goto 4, 3) := by decide +kernel
theorem dX3_holderAt_26 : decode cX3_holderAt 26 = .ok (.iconst (-1), 1) := by decide +kernel
theorem dX3_holderAt_27 : decode cX3_holderAt 27 = .ok (.ireturn, 1) := by decide +kernel
theorem dX4_init_0 : decode cX4_init 0 = .ok (.aload_n 0, 1) := by decide +kernel
theorem dX4_init_1 : decode cX4_init 1 = .ok (.invokespecial 3, 3) := by decide +kernel
theorem dX4_init_4 : decode cX4_init 4 = .ok (.aload_n 0, 1) := by decide +kernel
theorem dX4_init_5 : decode cX4_init 5 = .ok (.bipush 120, 2) := by decide +kernel
theorem dX4_init_7 : decode cX4_init 7 = .ok (.newarray .int, 2) := by decide +kernel
theorem dX4_init_9 : decode cX4_init 9 = .ok (.putfield 9, 3) := by decide +kernel
theorem dX4_init_12 : decode cX4_init 12 = .ok (.return_, 1) := by decide +kernel
theorem dX4_add_0 : decode cX4_add 0 = .ok (.aload_n 0, 1) := by decide +kernel
theorem dX4_add_1 : decode cX4_add 1 = .ok (.getfield 9, 3) := by decide +kernel
theorem dX4_add_4 : decode cX4_add 4 = .ok (.aload_n 0, 1) := by decide +kernel
theorem dX4_add_5 : decode cX4_add 5 = .ok (.getfield 15, 3) := by decide +kernel
theorem dX4_add_8 : decode cX4_add 8 = .ok (.iload_n 1, 1) := by decide +kernel
theorem dX4_add_9 : decode cX4_add 9 = .ok (.iastore, 1) := by decide +kernel
theorem dX4_add_10 : decode cX4_add 10 = .ok (.aload_n 0, 1) := by decide +kernel
theorem dX4_add_11 : decode cX4_add 11 = .ok (.dup, 1) := by decide +kernel
theorem dX4_add_12 : decode cX4_add 12 = .ok (.getfield 15, 3) := by decide +kernel
theorem dX4_add_15 : decode cX4_add 15 = .ok (.iconst 1, 1) := by decide +kernel
theorem dX4_add_16 : decode cX4_add 16 = .ok (.iadd, 1) := by decide +kernel
theorem dX4_add_17 : decode cX4_add 17 = .ok (.putfield 15, 3) := by decide +kernel
theorem dX4_add_20 : decode cX4_add 20 = .ok (.return_, 1) := by decide +kernel
theorem dX4_readInto_0 : decode cX4_readInto 0 = .ok (.aload_n 0, 1) := by decide +kernel
theorem dX4_readInto_1 : decode cX4_readInto 1 = .ok (.iconst 0, 1) := by decide +kernel
theorem dX4_readInto_2 : decode cX4_readInto 2 = .ok (.putfield 19, 3) := by decide +kernel
theorem dX4_readInto_5 : decode cX4_readInto 5 = .ok (.aload_n 0, 1) := by decide +kernel
theorem dX4_readInto_6 : decode cX4_readInto 6 = .ok (.invokevirtual 22, 3) := by decide +kernel
theorem dX4_readInto_9 : decode cX4_readInto 9 = .ok (.iconst 1, 1) := by decide +kernel
theorem dX4_readInto_10 : decode cX4_readInto 10 = .ok (.istore_n 2, 1) := by decide +kernel
theorem dX4_readInto_11 : decode cX4_readInto 11 = .ok (.iload_n 2, 1) := by decide +kernel
theorem dX4_readInto_12 : decode cX4_readInto 12 = .ok (.bipush 120, 2) := by decide +kernel
theorem dX4_readInto_14 : decode cX4_readInto 14 = .ok (.if_icmp .gt 42, 3) := by decide +kernel
theorem dX4_readInto_17 : decode cX4_readInto 17 = .ok (.aload_n 0, 1) := by decide +kernel
theorem dX4_readInto_18 : decode cX4_readInto 18 = .ok (.aload_n 1, 1) := by decide +kernel
theorem dX4_readInto_19 : decode cX4_readInto 19 = .ok (.invokevirtual 25, 3) := by decide +kernel
theorem dX4_readInto_22 : decode cX4_readInto 22 = .ok (.ifCond .ne 5, 3) := by decide +kernel
theorem dX4_readInto_25 : decode cX4_readInto 25 = .ok (.iconst (-1), 1) := by decide +kernel
theorem dX4_readInto_26 : decode cX4_readInto 26 = .ok (.ireturn, 1) := by decide +kernel
theorem dX4_readInto_27 : decode cX4_readInto 27 = .ok (.aload_n 0, 1) := by decide +kernel
theorem dX4_readInto_28 : decode cX4_readInto 28 = .ok (.getfield 29, 3) := by decide +kernel
theorem dX4_readInto_31 : decode cX4_readInto 31 = .ok (.ifCond .ne 5, 3) := by decide +kernel
theorem dX4_readInto_34 : decode cX4_readInto 34 = .ok (.iload_n 2, 1) := by decide +kernel
theorem dX4_readInto_35 : decode cX4_readInto 35 = .ok (.ireturn, 1) := by decide +kernel
theorem dX4_readInto_36 : decode cX4_readInto 36 = .ok (.aload_n 0, 1) := by decide +kernel
theorem dX4_readInto_37 : decode cX4_readInto 37 = .ok (.getfield 29, 3) := by decide +kernel
theorem dX4_readInto_40 : decode cX4_readInto 40 = .ok (.iconst 3, 1) := by decide +kernel
theorem dX4_readInto_41 : decode cX4_readInto 41 = .ok (.if_icmp .eq 5, 3) := by decide +kernel
theorem dX4_readInto_44 : decode cX4_readInto 44 = .ok (.iconst (-1), 1) := by decide +kernel
theorem dX4_readInto_45 : decode cX4_readInto 45 = .ok (.ireturn, 1) := by decide +kernel
theorem dX4_readInto_46 : decode cX4_readInto 46 = .ok (.aload_n 0, 1) := by decide +kernel
theorem dX4_readInto_47 : decode cX4_readInto 47 = .ok (.invokevirtual 22, 3) := by decide +kernel
theorem dX4_readInto_50 : decode cX4_readInto 50 = .ok (.iinc 2 1, 3) := by decide +kernel
theorem dX4_readInto_53 : decode cX4_readInto 53 = .ok (.goto (-42), 3) := by decide +kernel
theorem dX4_readInto_56 : decode cX4_readInto 56 = .ok (.iconst (-1), 1) := by decide +kernel
theorem dX4_readInto_57 : decode cX4_readInto 57 = .ok (.ireturn, 1) := by decide +kernel
theorem dX4_readItem_0 : decode cX4_readItem 0 = .ok (.aload_n 0, 1) := by decide +kernel
theorem dX4_readItem_1 : decode cX4_readItem 1 = .ok (.ldc 32, 2) := by decide +kernel
theorem dX4_readItem_3 : decode cX4_readItem 3 = .ok (.invokevirtual 34, 3) := by decide +kernel
theorem dX4_readItem_6 : decode cX4_readItem 6 = .ok (.ifCond .eq 9, 3) := by decide +kernel
theorem dX4_readItem_9 : decode cX4_readItem 9 = .ok (.aload_n 0, 1) := by decide +kernel
theorem dX4_readItem_10 : decode cX4_readItem 10 = .ok (.aload_n 1, 1) := by decide +kernel
theorem dX4_readItem_11 : decode cX4_readItem 11 = .ok (.invokevirtual 38, 3) := by decide +kernel
theorem dX4_readItem_14 : decode cX4_readItem 14 = .ok (.ireturn, 1) := by decide +kernel
theorem dX4_readItem_15 : decode cX4_readItem 15 = .ok (.aload_n 0, 1) := by decide +kernel
theorem dX4_readItem_16 : decode cX4_readItem 16 = .ok (.ldc 41, 2) := by decide +kernel
theorem dX4_readItem_18 : decode cX4_readItem 18 = .ok (.invokevirtual 34, 3) := by decide +kernel
theorem dX4_readItem_21 : decode cX4_readItem 21 = .ok (.ifCond .eq 9, 3) := by decide +kernel
theorem dX4_readItem_24 : decode cX4_readItem 24 = .ok (.aload_n 0, 1) := by decide +kernel
theorem dX4_readItem_25 : decode cX4_readItem 25 = .ok (.aload_n 1, 1) := by decide +kernel
theorem dX4_readItem_26 : decode cX4_readItem 26 = .ok (.invokevirtual 43, 3) := by decide +kernel
theorem dX4_readItem_29 : decode cX4_readItem 29 = .ok (.ireturn, 1) := by decide +kernel
theorem dX4_readItem_30 : decode cX4_readItem 30 = .ok (.iconst 0, 1) := by decide +kernel
theorem dX4_readItem_31 : decode cX4_readItem 31 = .ok (.istore_n 2, 1) := by decide +kernel
theorem dX4_readItem_32 : decode cX4_readItem 32 = .ok (.iload_n 2, 1) := by decide +kernel
theorem dX4_readItem_33 : decode cX4_readItem 33 = .ok (.bipush 6, 2) := by decide +kernel
theorem dX4_readItem_35 : decode cX4_readItem 35 = .ok (.if_icmp .ge 27, 3) := by decide +kernel
theorem dX4_readItem_38 : decode cX4_readItem 38 = .ok (.aload_n 0, 1) := by decide +kernel
theorem dX4_readItem_39 : decode cX4_readItem 39 = .ok (.iload_n 2, 1) := by decide +kernel
theorem dX4_readItem_40 : decode cX4_readItem 40 = .ok (.invokestatic 46, 3) := by decide +kernel
theorem dX4_readItem_43 : decode cX4_readItem 43 = .ok (.invokevirtual 34, 3) := by decide +kernel
theorem dX4_readItem_46 : decode cX4_readItem 46 = .ok (.ifCond .eq 10, 3) := by decide +kernel
theorem dX4_readItem_49 : decode cX4_readItem 49 = .ok (.aload_n 0, 1) := by decide +kernel
theorem dX4_readItem_50 : decode cX4_readItem 50 = .ok (.aload_n 1, 1) := by decide +kernel
theorem dX4_readItem_51 : decode cX4_readItem 51 = .ok (.iload_n 2, 1) := by decide +kernel
theorem dX4_readItem_52 : decode cX4_readItem 52 = .ok (.invokevirtual 50, 3) := by decide +kernel
theorem dX4_readItem_55 : decode cX4_readItem 55 = .ok (.ireturn, 1) := by decide +kernel
theorem dX4_readItem_56 : decode cX4_readItem 56 = .ok (.iinc 2 1, 3) := by decide +kernel
theorem dX4_readItem_59 : decode cX4_readItem 59 = .ok (.goto (-27), 3) := by decide +kernel
theorem dX4_readItem_62 : decode cX4_readItem 62 = .ok (.iconst 0, 1) := by decide +kernel
theorem dX4_readItem_63 : decode cX4_readItem 63 = .ok (.ireturn, 1) := by decide +kernel
theorem dX4_readFear_0 : decode cX4_readFear 0 = .ok (.aload_n 0, 1) := by decide +kernel
theorem dX4_readFear_1 : decode cX4_readFear 1 = .ok (.invokevirtual 22, 3) := by decide +kernel
theorem dX4_readFear_4 : decode cX4_readFear 4 = .ok (.aload_n 0, 1) := by decide +kernel
theorem dX4_readFear_5 : decode cX4_readFear 5 = .ok (.iconst 5, 1) := by decide +kernel
theorem dX4_readFear_6 : decode cX4_readFear 6 = .ok (.invokevirtual 54, 3) := by decide +kernel
theorem dX4_readFear_9 : decode cX4_readFear 9 = .ok (.istore_n 2, 1) := by decide +kernel
theorem dX4_readFear_10 : decode cX4_readFear 10 = .ok (.iload_n 2, 1) := by decide +kernel
theorem dX4_readFear_11 : decode cX4_readFear 11 = .ok (.ifCond .lt 12, 3) := by decide +kernel
theorem dX4_readFear_14 : decode cX4_readFear 14 = .ok (.aload_n 0, 1) := by decide +kernel
theorem dX4_readFear_15 : decode cX4_readFear 15 = .ok (.ldc 58, 2) := by decide +kernel
theorem dX4_readFear_17 : decode cX4_readFear 17 = .ok (.invokevirtual 60, 3) := by decide +kernel
theorem dX4_readFear_20 : decode cX4_readFear 20 = .ok (.ifCond .ne 5, 3) := by decide +kernel
theorem dX4_readFear_23 : decode cX4_readFear 23 = .ok (.iconst 0, 1) := by decide +kernel
theorem dX4_readFear_24 : decode cX4_readFear 24 = .ok (.ireturn, 1) := by decide +kernel
theorem dX4_readFear_25 : decode cX4_readFear 25 = .ok (.aload_n 0, 1) := by decide +kernel
theorem dX4_readFear_26 : decode cX4_readFear 26 = .ok (.bipush 99, 2) := by decide +kernel
theorem dX4_readFear_28 : decode cX4_readFear 28 = .ok (.invokevirtual 54, 3) := by decide +kernel
theorem dX4_readFear_31 : decode cX4_readFear 31 = .ok (.istore_n 3, 1) := by decide +kernel
theorem dX4_readFear_32 : decode cX4_readFear 32 = .ok (.iload_n 3, 1) := by decide +kernel
theorem dX4_readFear_33 : decode cX4_readFear 33 = .ok (.ifCond .ge 5, 3) := by decide +kernel
theorem dX4_readFear_36 : decode cX4_readFear 36 = .ok (.iconst 0, 1) := by decide +kernel
theorem dX4_readFear_37 : decode cX4_readFear 37 = .ok (.ireturn, 1) := by decide +kernel
theorem dX4_readFear_38 : decode cX4_readFear 38 = .ok (.aload_n 1, 1) := by decide +kernel
theorem dX4_readFear_39 : decode cX4_readFear 39 = .ok (.getfield 63, 3) := by decide +kernel
theorem dX4_readFear_42 : decode cX4_readFear 42 = .ok (.iload_n 2, 1) := by decide +kernel
theorem dX4_readFear_43 : decode cX4_readFear 43 = .ok (.iload_n 3, 1) := by decide +kernel
theorem dX4_readFear_44 : decode cX4_readFear 44 = .ok (.iastore, 1) := by decide +kernel
theorem dX4_readFear_45 : decode cX4_readFear 45 = .ok (.iconst 1, 1) := by decide +kernel
theorem dX4_readFear_46 : decode cX4_readFear 46 = .ok (.ireturn, 1) := by decide +kernel
theorem dX4_readChild_0 : decode cX4_readChild 0 = .ok (.aload_n 1, 1) := by decide +kernel
theorem dX4_readChild_1 : decode cX4_readChild 1 = .ok (.getfield 68, 3) := by decide +kernel
theorem dX4_readChild_4 : decode cX4_readChild 4 = .ok (.bipush 14, 2) := by decide +kernel
theorem dX4_readChild_6 : decode cX4_readChild 6 = .ok (.if_icmp .lt 5, 3) := by decide +kernel
theorem dX4_readChild_9 : decode cX4_readChild 9 = .ok (.iconst 0, 1) := by decide +kernel
theorem dX4_readChild_10 : decode cX4_readChild 10 = .ok (.ireturn, 1) := by decide +kernel
theorem dX4_readChild_11 : decode cX4_readChild 11 = .ok (.aload_n 0, 1) := by decide +kernel
theorem dX4_readChild_12 : decode cX4_readChild 12 = .ok (.invokevirtual 22, 3) := by decide +kernel
theorem dX4_readChild_15 : decode cX4_readChild 15 = .ok (.aload_n 0, 1) := by decide +kernel
theorem dX4_readChild_16 : decode cX4_readChild 16 = .ok (.ldc 71, 2) := by decide +kernel
theorem dX4_readChild_18 : decode cX4_readChild 18 = .ok (.invokevirtual 60, 3) := by decide +kernel
theorem dX4_readChild_21 : decode cX4_readChild 21 = .ok (.ifCond .ne 5, 3) := by decide +kernel
theorem dX4_readChild_24 : decode cX4_readChild 24 = .ok (.iconst 0, 1) := by decide +kernel
theorem dX4_readChild_25 : decode cX4_readChild 25 = .ok (.ireturn, 1) := by decide +kernel
theorem dX4_readChild_26 : decode cX4_readChild 26 = .ok (.aload_n 0, 1) := by decide +kernel
theorem dX4_readChild_27 : decode cX4_readChild 27 = .ok (.iconst 5, 1) := by decide +kernel
theorem dX4_readChild_28 : decode cX4_readChild 28 = .ok (.invokevirtual 54, 3) := by decide +kernel
theorem dX4_readChild_31 : decode cX4_readChild 31 = .ok (.istore_n 3, 1) := by decide +kernel
theorem dX4_readChild_32 : decode cX4_readChild 32 = .ok (.iload_n 3, 1) := by decide +kernel
theorem dX4_readChild_33 : decode cX4_readChild 33 = .ok (.ifCond .ge 5, 3) := by decide +kernel
theorem dX4_readChild_36 : decode cX4_readChild 36 = .ok (.iconst 0, 1) := by decide +kernel
theorem dX4_readChild_37 : decode cX4_readChild 37 = .ok (.ireturn, 1) := by decide +kernel
theorem dX4_readChild_38 : decode cX4_readChild 38 = .ok (.aload_n 0, 1) := by decide +kernel
theorem dX4_readChild_39 : decode cX4_readChild 39 = .ok (.ldc 73, 2) := by decide +kernel
theorem dX4_readChild_41 : decode cX4_readChild 41 = .ok (.invokevirtual 60, 3) := by decide +kernel
theorem dX4_readChild_44 : decode cX4_readChild 44 = .ok (.ifCond .eq 11, 3) := by decide +kernel
theorem dX4_readChild_47 : decode cX4_readChild 47 = .ok (.aload_n 0, 1) := by decide +kernel
theorem dX4_readChild_48 : decode cX4_readChild 48 = .ok (.iconst 5, 1) := by decide +kernel
theorem dX4_readChild_49 : decode cX4_readChild 49 = .ok (.invokevirtual 54, 3) := by decide +kernel
theorem dX4_readChild_52 : decode cX4_readChild 52 = .ok (.goto 4, 3) := by decide +kernel
theorem dX4_readChild_55 : decode cX4_readChild 55 = .ok (.iload_n 3, 1) := by decide +kernel
theorem dX4_readChild_56 : decode cX4_readChild 56 = .ok (.istore 4, 2) := by decide +kernel
theorem dX4_readChild_58 : decode cX4_readChild 58 = .ok (.iload 4, 2) := by decide +kernel
theorem dX4_readChild_60 : decode cX4_readChild 60 = .ok (.ifCond .ge 5, 3) := by decide +kernel
theorem dX4_readChild_63 : decode cX4_readChild 63 = .ok (.iconst 0, 1) := by decide +kernel
theorem dX4_readChild_64 : decode cX4_readChild 64 = .ok (.ireturn, 1) := by decide +kernel
theorem dX4_readChild_65 : decode cX4_readChild 65 = .ok (.aload_n 0, 1) := by decide +kernel
theorem dX4_readChild_66 : decode cX4_readChild 66 = .ok (.ldc 75, 2) := by decide +kernel
theorem dX4_readChild_68 : decode cX4_readChild 68 = .ok (.invokevirtual 60, 3) := by decide +kernel
theorem dX4_readChild_71 : decode cX4_readChild 71 = .ok (.ifCond .eq 12, 3) := by decide +kernel
theorem dX4_readChild_74 : decode cX4_readChild 74 = .ok (.aload_n 0, 1) := by decide +kernel
theorem dX4_readChild_75 : decode cX4_readChild 75 = .ok (.bipush 99, 2) := by decide +kernel
theorem dX4_readChild_77 : decode cX4_readChild 77 = .ok (.invokevirtual 54, 3) := by decide +kernel
theorem dX4_readChild_80 : decode cX4_readChild 80 = .ok (.goto 5, 3) := by decide +kernel
theorem dX4_readChild_83 : decode cX4_readChild 83 = .ok (.bipush 10, 2) := by decide +kernel
theorem dX4_readChild_85 : decode cX4_readChild 85 = .ok (.istore 5, 2) := by decide +kernel
theorem dX4_readChild_87 : decode cX4_readChild 87 = .ok (.iload 5, 2) := by decide +kernel
theorem dX4_readChild_89 : decode cX4_readChild 89 = .ok (.ifCond .ge 5, 3) := by decide +kernel
theorem dX4_readChild_92 : decode cX4_readChild 92 = .ok (.iconst 0, 1) := by decide +kernel
theorem dX4_readChild_93 : decode cX4_readChild 93 = .ok (.ireturn, 1) := by decide +kernel
theorem dX4_readChild_94 : decode cX4_readChild 94 = .ok (.aload_n 1, 1) := by decide +kernel
theorem dX4_readChild_95 : decode cX4_readChild 95 = .ok (.iload_n 2, 1) := by decide +kernel
theorem dX4_readChild_96 : decode cX4_readChild 96 = .ok (.iload_n 3, 1) := by decide +kernel
theorem dX4_readChild_97 : decode cX4_readChild 97 = .ok (.iload 4, 2) := by decide +kernel
theorem dX4_readChild_99 : decode cX4_readChild 99 = .ok (.iload 5, 2) := by decide +kernel
theorem dX4_readChild_101 : decode cX4_readChild 101 = .ok (.invokevirtual 77, 3) := by decide +kernel
theorem dX4_readChild_104 : decode cX4_readChild 104 = .ok (.pop, 1) := by decide +kernel
theorem dX4_readChild_105 : decode cX4_readChild 105 = .ok (.iconst 1, 1) := by decide +kernel
theorem dX4_readChild_106 : decode cX4_readChild 106 = .ok (.ireturn, 1) := by decide +kernel
theorem dX4_readTreaty_0 : decode cX4_readTreaty 0 = .ok (.aload_n 1, 1) := by decide +kernel
theorem dX4_readTreaty_1 : decode cX4_readTreaty 1 = .ok (.getfield 81, 3) := by decide +kernel
theorem dX4_readTreaty_4 : decode cX4_readTreaty 4 = .ok (.bipush 12, 2) := by decide +kernel
theorem dX4_readTreaty_6 : decode cX4_readTreaty 6 = .ok (.if_icmp .lt 5, 3) := by decide +kernel
theorem dX4_readTreaty_9 : decode cX4_readTreaty 9 = .ok (.iconst 0, 1) := by decide +kernel
theorem dX4_readTreaty_10 : decode cX4_readTreaty 10 = .ok (.ireturn, 1) := by decide +kernel
theorem dX4_readTreaty_11 : decode cX4_readTreaty 11 = .ok (.aload_n 0, 1) := by decide +kernel
theorem dX4_readTreaty_12 : decode cX4_readTreaty 12 = .ok (.invokevirtual 22, 3) := by decide +kernel
theorem dX4_readTreaty_15 : decode cX4_readTreaty 15 = .ok (.aload_n 0, 1) := by decide +kernel
theorem dX4_readTreaty_16 : decode cX4_readTreaty 16 = .ok (.iconst 5, 1) := by decide +kernel
theorem dX4_readTreaty_17 : decode cX4_readTreaty 17 = .ok (.invokevirtual 54, 3) := by decide +kernel
theorem dX4_readTreaty_20 : decode cX4_readTreaty 20 = .ok (.istore_n 2, 1) := by decide +kernel
theorem dX4_readTreaty_21 : decode cX4_readTreaty 21 = .ok (.iload_n 2, 1) := by decide +kernel
theorem dX4_readTreaty_22 : decode cX4_readTreaty 22 = .ok (.ifCond .lt 28, 3) := by decide +kernel
theorem dX4_readTreaty_25 : decode cX4_readTreaty 25 = .ok (.aload_n 0, 1) := by decide +kernel
theorem dX4_readTreaty_26 : decode cX4_readTreaty 26 = .ok (.ldc 84, 2) := by decide +kernel
theorem dX4_readTreaty_28 : decode cX4_readTreaty 28 = .ok (.invokevirtual 60, 3) := by decide +kernel
theorem dX4_readTreaty_31 : decode cX4_readTreaty 31 = .ok (.ifCond .eq 19, 3) := by decide +kernel
theorem dX4_readTreaty_34 : decode cX4_readTreaty 34 = .ok (.aload_n 0, 1) := by decide +kernel
theorem dX4_readTreaty_35 : decode cX4_readTreaty 35 = .ok (.getfield 29, 3) := by decide +kernel
theorem dX4_readTreaty_38 : decode cX4_readTreaty 38 = .ok (.iconst 2, 1) := by decide +kernel
theorem dX4_readTreaty_39 : decode cX4_readTreaty 39 = .ok (.if_icmp .ne 13, 3) := by decide +kernel
theorem dX4_readTreaty_42 : decode cX4_readTreaty 42 = .ok (.aload_n 0, 1) := by decide +kernel
theorem dX4_readTreaty_43 : decode cX4_readTreaty 43 = .ok (.getfield 86, 3) := by decide +kernel
theorem dX4_readTreaty_46 : decode cX4_readTreaty 46 = .ok (.iload_n 2, 1) := by decide +kernel
theorem dX4_readTreaty_47 : decode cX4_readTreaty 47 = .ok (.if_icmp .ne 5, 3) := by decide +kernel
theorem dX4_readTreaty_50 : decode cX4_readTreaty 50 = .ok (.iconst 0, 1) := by decide +kernel
theorem dX4_readTreaty_51 : decode cX4_readTreaty 51 = .ok (.ireturn, 1) := by decide +kernel
theorem dX4_readTreaty_52 : decode cX4_readTreaty 52 = .ok (.aload_n 0, 1) := by decide +kernel
theorem dX4_readTreaty_53 : decode cX4_readTreaty 53 = .ok (.iconst 5, 1) := by decide +kernel
theorem dX4_readTreaty_54 : decode cX4_readTreaty 54 = .ok (.invokevirtual 54, 3) := by decide +kernel
theorem dX4_readTreaty_57 : decode cX4_readTreaty 57 = .ok (.istore_n 3, 1) := by decide +kernel
theorem dX4_readTreaty_58 : decode cX4_readTreaty 58 = .ok (.iload_n 3, 1) := by decide +kernel
theorem dX4_readTreaty_59 : decode cX4_readTreaty 59 = .ok (.ifCond .lt 12, 3) := by decide +kernel
theorem dX4_readTreaty_62 : decode cX4_readTreaty 62 = .ok (.aload_n 0, 1) := by decide +kernel
theorem dX4_readTreaty_63 : decode cX4_readTreaty 63 = .ok (.ldc 89, 2) := by decide +kernel
theorem dX4_readTreaty_65 : decode cX4_readTreaty 65 = .ok (.invokevirtual 60, 3) := by decide +kernel
theorem dX4_readTreaty_68 : decode cX4_readTreaty 68 = .ok (.ifCond .ne 5, 3) := by decide +kernel
theorem dX4_readTreaty_71 : decode cX4_readTreaty 71 = .ok (.iconst 0, 1) := by decide +kernel
theorem dX4_readTreaty_72 : decode cX4_readTreaty 72 = .ok (.ireturn, 1) := by decide +kernel
theorem dX4_readTreaty_73 : decode cX4_readTreaty 73 = .ok (.aload_n 0, 1) := by decide +kernel
theorem dX4_readTreaty_74 : decode cX4_readTreaty 74 = .ok (.sipush 999, 3) := by decide +kernel
theorem dX4_readTreaty_77 : decode cX4_readTreaty 77 = .ok (.invokevirtual 54, 3) := by decide +kernel
theorem dX4_readTreaty_80 : decode cX4_readTreaty 80 = .ok (.istore 4, 2) := by decide +kernel
theorem dX4_readTreaty_82 : decode cX4_readTreaty 82 = .ok (.iload 4, 2) := by decide +kernel
theorem dX4_readTreaty_84 : decode cX4_readTreaty 84 = .ok (.ifCond .ge 5, 3) := by decide +kernel
theorem dX4_readTreaty_87 : decode cX4_readTreaty 87 = .ok (.iconst 0, 1) := by decide +kernel
theorem dX4_readTreaty_88 : decode cX4_readTreaty 88 = .ok (.ireturn, 1) := by decide +kernel
theorem dX4_readTreaty_89 : decode cX4_readTreaty 89 = .ok (.aload_n 0, 1) := by decide +kernel
theorem dX4_readTreaty_90 : decode cX4_readTreaty 90 = .ok (.ldc 91, 2) := by decide +kernel
theorem dX4_readTreaty_92 : decode cX4_readTreaty 92 = .ok (.invokevirtual 60, 3) := by decide +kernel
theorem dX4_readTreaty_95 : decode cX4_readTreaty 95 = .ok (.ifCond .eq 13, 3) := by decide +kernel
theorem dX4_readTreaty_98 : decode cX4_readTreaty 98 = .ok (.aload_n 0, 1) := by decide +kernel
theorem dX4_readTreaty_99 : decode cX4_readTreaty 99 = .ok (.sipush 999, 3) := by decide +kernel
theorem dX4_readTreaty_102 : decode cX4_readTreaty 102 = .ok (.invokevirtual 54, 3) := by decide +kernel
theorem dX4_readTreaty_105 : decode cX4_readTreaty 105 = .ok (.goto 6, 3) := by decide +kernel
theorem dX4_readTreaty_108 : decode cX4_readTreaty 108 = .ok (.sipush 999, 3) := by decide +kernel
theorem dX4_readTreaty_111 : decode cX4_readTreaty 111 = .ok (.istore 5, 2) := by decide +kernel
theorem dX4_readTreaty_113 : decode cX4_readTreaty 113 = .ok (.iload 5, 2) := by decide +kernel
theorem dX4_readTreaty_115 : decode cX4_readTreaty 115 = .ok (.ifCond .ge 5, 3) := by decide +kernel
theorem dX4_readTreaty_118 : decode cX4_readTreaty 118 = .ok (.iconst 0, 1) := by decide +kernel
theorem dX4_readTreaty_119 : decode cX4_readTreaty 119 = .ok (.ireturn, 1) := by decide +kernel
theorem dX4_readTreaty_120 : decode cX4_readTreaty 120 = .ok (.aload_n 1, 1) := by decide +kernel
theorem dX4_readTreaty_121 : decode cX4_readTreaty 121 = .ok (.iload_n 2, 1) := by decide +kernel
theorem dX4_readTreaty_122 : decode cX4_readTreaty 122 = .ok (.iload_n 3, 1) := by decide +kernel
theorem dX4_readTreaty_123 : decode cX4_readTreaty 123 = .ok (.iload 4, 2) := by decide +kernel
theorem dX4_readTreaty_125 : decode cX4_readTreaty 125 = .ok (.iload 5, 2) := by decide +kernel
theorem dX4_readTreaty_127 : decode cX4_readTreaty 127 = .ok (.invokevirtual 93, 3) := by decide +kernel
theorem dX4_readTreaty_130 : decode cX4_readTreaty 130 = .ok (.pop, 1) := by decide +kernel
theorem dX4_readTreaty_131 : decode cX4_readTreaty 131 = .ok (.iconst 1, 1) := by decide +kernel
theorem dX4_readTreaty_132 : decode cX4_readTreaty 132 = .ok (.ireturn, 1) := by decide +kernel
theorem dX4_takeWord_0 : decode cX4_takeWord 0 = .ok (.aload_n 0, 1) := by decide +kernel
theorem dX4_takeWord_1 : decode cX4_takeWord 1 = .ok (.aload_n 1, 1) := by decide +kernel
theorem dX4_takeWord_2 : decode cX4_takeWord 2 = .ok (.invokevirtual 34, 3) := by decide +kernel
theorem dX4_takeWord_5 : decode cX4_takeWord 5 = .ok (.ifCond .ne 5, 3) := by decide +kernel
theorem dX4_takeWord_8 : decode cX4_takeWord 8 = .ok (.iconst 0, 1) := by decide +kernel
theorem dX4_takeWord_9 : decode cX4_takeWord 9 = .ok (.ireturn, 1) := by decide +kernel
theorem dX4_takeWord_10 : decode cX4_takeWord 10 = .ok (.aload_n 0, 1) := by decide +kernel
theorem dX4_takeWord_11 : decode cX4_takeWord 11 = .ok (.invokevirtual 22, 3) := by decide +kernel
theorem dX4_takeWord_14 : decode cX4_takeWord 14 = .ok (.iconst 1, 1) := by decide +kernel
theorem dX4_takeWord_15 : decode cX4_takeWord 15 = .ok (.ireturn, 1) := by decide +kernel
theorem dX4_takeNumber_0 : decode cX4_takeNumber 0 = .ok (.aload_n 0, 1) := by decide +kernel
theorem dX4_takeNumber_1 : decode cX4_takeNumber 1 = .ok (.getfield 29, 3) := by decide +kernel
theorem dX4_takeNumber_4 : decode cX4_takeNumber 4 = .ok (.iconst 2, 1) := by decide +kernel
theorem dX4_takeNumber_5 : decode cX4_takeNumber 5 = .ok (.if_icmp .ne 11, 3) := by decide +kernel
theorem dX4_takeNumber_8 : decode cX4_takeNumber 8 = .ok (.aload_n 0, 1) := by decide +kernel
theorem dX4_takeNumber_9 : decode cX4_takeNumber 9 = .ok (.getfield 86, 3) := by decide +kernel
theorem dX4_takeNumber_12 : decode cX4_takeNumber 12 = .ok (.iload_n 1, 1) := by decide +kernel
theorem dX4_takeNumber_13 : decode cX4_takeNumber 13 = .ok (.if_icmp .le 5, 3) := by decide +kernel
theorem dX4_takeNumber_16 : decode cX4_takeNumber 16 = .ok (.iconst (-1), 1) := by decide +kernel
theorem dX4_takeNumber_17 : decode cX4_takeNumber 17 = .ok (.ireturn, 1) := by decide +kernel
theorem dX4_takeNumber_18 : decode cX4_takeNumber 18 = .ok (.aload_n 0, 1) := by decide +kernel
theorem dX4_takeNumber_19 : decode cX4_takeNumber 19 = .ok (.getfield 86, 3) := by decide +kernel
theorem dX4_takeNumber_22 : decode cX4_takeNumber 22 = .ok (.istore_n 2, 1) := by decide +kernel
theorem dX4_takeNumber_23 : decode cX4_takeNumber 23 = .ok (.aload_n 0, 1) := by decide +kernel
theorem dX4_takeNumber_24 : decode cX4_takeNumber 24 = .ok (.invokevirtual 22, 3) := by decide +kernel
theorem dX4_takeNumber_27 : decode cX4_takeNumber 27 = .ok (.iload_n 2, 1) := by decide +kernel
theorem dX4_takeNumber_28 : decode cX4_takeNumber 28 = .ok (.ireturn, 1) := by decide +kernel
theorem dX4_isWord_0 : decode cX4_isWord 0 = .ok (.aload_n 0, 1) := by decide +kernel
theorem dX4_isWord_1 : decode cX4_isWord 1 = .ok (.getfield 29, 3) := by decide +kernel
theorem dX4_isWord_4 : decode cX4_isWord 4 = .ok (.iconst 1, 1) := by decide +kernel
theorem dX4_isWord_5 : decode cX4_isWord 5 = .ok (.if_icmp .ne 19, 3) := by decide +kernel
theorem dX4_isWord_8 : decode cX4_isWord 8 = .ok (.aload_n 0, 1) := by decide +kernel
theorem dX4_isWord_9 : decode cX4_isWord 9 = .ok (.getfield 19, 3) := by decide +kernel
theorem dX4_isWord_12 : decode cX4_isWord 12 = .ok (.aload_n 0, 1) := by decide +kernel
theorem dX4_isWord_13 : decode cX4_isWord 13 = .ok (.getfield 96, 3) := by decide +kernel
theorem dX4_isWord_16 : decode cX4_isWord 16 = .ok (.isub, 1) := by decide +kernel
theorem dX4_isWord_17 : decode cX4_isWord 17 = .ok (.aload_n 1, 1) := by decide +kernel
theorem dX4_isWord_18 : decode cX4_isWord 18 = .ok (.invokevirtual 99, 3) := by decide +kernel
theorem dX4_isWord_21 : decode cX4_isWord 21 = .ok (.if_icmp .eq 5, 3) := by decide +kernel
theorem dX4_isWord_24 : decode cX4_isWord 24 = .ok (.iconst 0, 1) := by decide +kernel
theorem dX4_isWord_25 : decode cX4_isWord 25 = .ok (.ireturn, 1) := by decide +kernel
theorem dX4_isWord_26 : decode cX4_isWord 26 = .ok (.iconst 0, 1) := by decide +kernel
theorem dX4_isWord_27 : decode cX4_isWord 27 = .ok (.istore_n 2, 1) := by decide +kernel
theorem dX4_isWord_28 : decode cX4_isWord 28 = .ok (.iload_n 2, 1) := by decide +kernel
theorem dX4_isWord_29 : decode cX4_isWord 29 = .ok (.aload_n 1, 1) := by decide +kernel
theorem dX4_isWord_30 : decode cX4_isWord 30 = .ok (.invokevirtual 99, 3) := by decide +kernel
theorem dX4_isWord_33 : decode cX4_isWord 33 = .ok (.if_icmp .ge 30, 3) := by decide +kernel
theorem dX4_isWord_36 : decode cX4_isWord 36 = .ok (.aload_n 0, 1) := by decide +kernel
theorem dX4_isWord_37 : decode cX4_isWord 37 = .ok (.getfield 9, 3) := by decide +kernel
theorem dX4_isWord_40 : decode cX4_isWord 40 = .ok (.aload_n 0, 1) := by decide +kernel
theorem dX4_isWord_41 : decode cX4_isWord 41 = .ok (.getfield 96, 3) := by decide +kernel
theorem dX4_isWord_44 : decode cX4_isWord 44 = .ok (.iload_n 2, 1) := by decide +kernel
theorem dX4_isWord_45 : decode cX4_isWord 45 = .ok (.iadd, 1) := by decide +kernel
theorem dX4_isWord_46 : decode cX4_isWord 46 = .ok (.iaload, 1) := by decide +kernel
theorem dX4_isWord_47 : decode cX4_isWord 47 = .ok (.aload_n 1, 1) := by decide +kernel
theorem dX4_isWord_48 : decode cX4_isWord 48 = .ok (.iload_n 2, 1) := by decide +kernel
theorem dX4_isWord_49 : decode cX4_isWord 49 = .ok (.invokevirtual 105, 3) := by decide +kernel
theorem dX4_isWord_52 : decode cX4_isWord 52 = .ok (.if_icmp .eq 5, 3) := by decide +kernel
theorem dX4_isWord_55 : decode cX4_isWord 55 = .ok (.iconst 0, 1) := by decide +kernel
theorem dX4_isWord_56 : decode cX4_isWord 56 = .ok (.ireturn, 1) := by decide +kernel
theorem dX4_isWord_57 : decode cX4_isWord 57 = .ok (.iinc 2 1, 3) := by decide +kernel
theorem dX4_isWord_60 : decode cX4_isWord 60 = .ok (.goto (-32), 3) := by decide +kernel
theorem dX4_isWord_63 : decode cX4_isWord 63 = .ok (.iconst 1, 1) := by decide +kernel
theorem dX4_isWord_64 : decode cX4_isWord 64 = .ok (.ireturn, 1) := by decide +kernel
theorem dX4_advance_0 : decode cX4_advance 0 = .ok (.aload_n 0, 1) := by decide +kernel
theorem dX4_advance_1 : decode cX4_advance 1 = .ok (.aload_n 0, 1) := by decide +kernel
theorem dX4_advance_2 : decode cX4_advance 2 = .ok (.getfield 19, 3) := by decide +kernel
theorem dX4_advance_5 : decode cX4_advance 5 = .ok (.putfield 96, 3) := by decide +kernel
theorem dX4_advance_8 : decode cX4_advance 8 = .ok (.aload_n 0, 1) := by decide +kernel
theorem dX4_advance_9 : decode cX4_advance 9 = .ok (.getfield 96, 3) := by decide +kernel
theorem dX4_advance_12 : decode cX4_advance 12 = .ok (.aload_n 0, 1) := by decide +kernel
theorem dX4_advance_13 : decode cX4_advance 13 = .ok (.getfield 15, 3) := by decide +kernel
theorem dX4_advance_16 : decode cX4_advance 16 = .ok (.if_icmp .ge 30, 3) := by decide +kernel
theorem dX4_advance_19 : decode cX4_advance 19 = .ok (.aload_n 0, 1) := by decide +kernel
theorem dX4_advance_20 : decode cX4_advance 20 = .ok (.getfield 9, 3) := by decide +kernel
theorem dX4_advance_23 : decode cX4_advance 23 = .ok (.aload_n 0, 1) := by decide +kernel
theorem dX4_advance_24 : decode cX4_advance 24 = .ok (.getfield 96, 3) := by decide +kernel
theorem dX4_advance_27 : decode cX4_advance 27 = .ok (.iaload, 1) := by decide +kernel
theorem dX4_advance_28 : decode cX4_advance 28 = .ok (.bipush 32, 2) := by decide +kernel
theorem dX4_advance_30 : decode cX4_advance 30 = .ok (.if_icmp .ne 16, 3) := by decide +kernel
theorem dX4_advance_33 : decode cX4_advance 33 = .ok (.aload_n 0, 1) := by decide +kernel
theorem dX4_advance_34 : decode cX4_advance 34 = .ok (.dup, 1) := by decide +kernel
theorem dX4_advance_35 : decode cX4_advance 35 = .ok (.getfield 96, 3) := by decide +kernel
theorem dX4_advance_38 : decode cX4_advance 38 = .ok (.iconst 1, 1) := by decide +kernel
theorem dX4_advance_39 : decode cX4_advance 39 = .ok (.iadd, 1) := by decide +kernel
theorem dX4_advance_40 : decode cX4_advance 40 = .ok (.putfield 96, 3) := by decide +kernel
theorem dX4_advance_43 : decode cX4_advance 43 = .ok (.goto (-35), 3) := by decide +kernel
theorem dX4_advance_46 : decode cX4_advance 46 = .ok (.aload_n 0, 1) := by decide +kernel
theorem dX4_advance_47 : decode cX4_advance 47 = .ok (.aload_n 0, 1) := by decide +kernel
theorem dX4_advance_48 : decode cX4_advance 48 = .ok (.getfield 96, 3) := by decide +kernel
theorem dX4_advance_51 : decode cX4_advance 51 = .ok (.putfield 19, 3) := by decide +kernel
theorem dX4_advance_54 : decode cX4_advance 54 = .ok (.aload_n 0, 1) := by decide +kernel
theorem dX4_advance_55 : decode cX4_advance 55 = .ok (.iconst 0, 1) := by decide +kernel
theorem dX4_advance_56 : decode cX4_advance 56 = .ok (.putfield 86, 3) := by decide +kernel
theorem dX4_advance_59 : decode cX4_advance 59 = .ok (.aload_n 0, 1) := by decide +kernel
theorem dX4_advance_60 : decode cX4_advance 60 = .ok (.getfield 96, 3) := by decide +kernel
theorem dX4_advance_63 : decode cX4_advance 63 = .ok (.aload_n 0, 1) := by decide +kernel
theorem dX4_advance_64 : decode cX4_advance 64 = .ok (.getfield 15, 3) := by decide +kernel
theorem dX4_advance_67 : decode cX4_advance 67 = .ok (.if_icmp .lt 11, 3) := by decide +kernel
theorem dX4_advance_70 : decode cX4_advance 70 = .ok (.aload_n 0, 1) := by decide +kernel
theorem dX4_advance_71 : decode cX4_advance 71 = .ok (.iconst 0, 1) := by decide +kernel
theorem dX4_advance_72 : decode cX4_advance 72 = .ok (.putfield 29, 3) := by decide +kernel
theorem dX4_advance_75 : decode cX4_advance 75 = .ok (.goto 184, 3) := by decide +kernel
theorem dX4_advance_78 : decode cX4_advance 78 = .ok (.aload_n 0, 1) := by decide +kernel
theorem dX4_advance_79 : decode cX4_advance 79 = .ok (.getfield 9, 3) := by decide +kernel
theorem dX4_advance_82 : decode cX4_advance 82 = .ok (.aload_n 0, 1) := by decide +kernel
theorem dX4_advance_83 : decode cX4_advance 83 = .ok (.getfield 96, 3) := by decide +kernel
theorem dX4_advance_86 : decode cX4_advance 86 = .ok (.iaload, 1) := by decide +kernel
theorem dX4_advance_87 : decode cX4_advance 87 = .ok (.invokestatic 109, 3) := by decide +kernel
theorem dX4_advance_90 : decode cX4_advance 90 = .ok (.ifCond .eq 47, 3) := by decide +kernel
theorem dX4_advance_93 : decode cX4_advance 93 = .ok (.aload_n 0, 1) := by decide +kernel
theorem dX4_advance_94 : decode cX4_advance 94 = .ok (.iconst 1, 1) := by decide +kernel
theorem dX4_advance_95 : decode cX4_advance 95 = .ok (.putfield 29, 3) := by decide +kernel
theorem dX4_advance_98 : decode cX4_advance 98 = .ok (.aload_n 0, 1) := by decide +kernel
theorem dX4_advance_99 : decode cX4_advance 99 = .ok (.getfield 19, 3) := by decide +kernel
theorem dX4_advance_102 : decode cX4_advance 102 = .ok (.aload_n 0, 1) := by decide +kernel
theorem dX4_advance_103 : decode cX4_advance 103 = .ok (.getfield 15, 3) := by decide +kernel
theorem dX4_advance_106 : decode cX4_advance 106 = .ok (.if_icmp .ge 153, 3) := by decide +kernel
theorem dX4_advance_109 : decode cX4_advance 109 = .ok (.aload_n 0, 1) := by decide +kernel
theorem dX4_advance_110 : decode cX4_advance 110 = .ok (.getfield 9, 3) := by decide +kernel
theorem dX4_advance_113 : decode cX4_advance 113 = .ok (.aload_n 0, 1) := by decide +kernel
theorem dX4_advance_114 : decode cX4_advance 114 = .ok (.getfield 19, 3) := by decide +kernel
theorem dX4_advance_117 : decode cX4_advance 117 = .ok (.iaload, 1) := by decide +kernel
theorem dX4_advance_118 : decode cX4_advance 118 = .ok (.invokestatic 109, 3) := by decide +kernel
theorem dX4_advance_121 : decode cX4_advance 121 = .ok (.ifCond .eq 138, 3) := by decide +kernel
theorem dX4_advance_124 : decode cX4_advance 124 = .ok (.aload_n 0, 1) := by decide +kernel
theorem dX4_advance_125 : decode cX4_advance 125 = .ok (.dup, 1) := by decide +kernel
theorem dX4_advance_126 : decode cX4_advance 126 = .ok (.getfield 19, 3) := by decide +kernel
theorem dX4_advance_129 : decode cX4_advance 129 = .ok (.iconst 1, 1) := by decide +kernel
theorem dX4_advance_130 : decode cX4_advance 130 = .ok (.iadd, 1) := by decide +kernel
theorem dX4_advance_131 : decode cX4_advance 131 = .ok (.putfield 19, 3) := by decide +kernel
theorem dX4_advance_134 : decode cX4_advance 134 = .ok (.goto (-36), 3) := by decide +kernel
theorem dX4_advance_137 : decode cX4_advance 137 = .ok (.aload_n 0, 1) := by decide +kernel
theorem dX4_advance_138 : decode cX4_advance 138 = .ok (.getfield 9, 3) := by decide +kernel
theorem dX4_advance_141 : decode cX4_advance 141 = .ok (.aload_n 0, 1) := by decide +kernel
theorem dX4_advance_142 : decode cX4_advance 142 = .ok (.getfield 96, 3) := by decide +kernel
theorem dX4_advance_145 : decode cX4_advance 145 = .ok (.iaload, 1) := by decide +kernel
theorem dX4_advance_146 : decode cX4_advance 146 = .ok (.invokestatic 113, 3) := by decide +kernel
theorem dX4_advance_149 : decode cX4_advance 149 = .ok (.ifCond .eq 77, 3) := by decide +kernel
theorem dX4_advance_152 : decode cX4_advance 152 = .ok (.aload_n 0, 1) := by decide +kernel
theorem dX4_advance_153 : decode cX4_advance 153 = .ok (.iconst 2, 1) := by decide +kernel
theorem dX4_advance_154 : decode cX4_advance 154 = .ok (.putfield 29, 3) := by decide +kernel
theorem dX4_advance_157 : decode cX4_advance 157 = .ok (.aload_n 0, 1) := by decide +kernel
theorem dX4_advance_158 : decode cX4_advance 158 = .ok (.getfield 19, 3) := by decide +kernel
theorem dX4_advance_161 : decode cX4_advance 161 = .ok (.aload_n 0, 1) := by decide +kernel
theorem dX4_advance_162 : decode cX4_advance 162 = .ok (.getfield 15, 3) := by decide +kernel
theorem dX4_advance_165 : decode cX4_advance 165 = .ok (.if_icmp .ge 94, 3) := by decide +kernel
theorem dX4_advance_168 : decode cX4_advance 168 = .ok (.aload_n 0, 1) := by decide +kernel
theorem dX4_advance_169 : decode cX4_advance 169 = .ok (.getfield 9, 3) := by decide +kernel
theorem dX4_advance_172 : decode cX4_advance 172 = .ok (.aload_n 0, 1) := by decide +kernel
theorem dX4_advance_173 : decode cX4_advance 173 = .ok (.getfield 19, 3) := by decide +kernel
theorem dX4_advance_176 : decode cX4_advance 176 = .ok (.iaload, 1) := by decide +kernel
theorem dX4_advance_177 : decode cX4_advance 177 = .ok (.invokestatic 113, 3) := by decide +kernel
theorem dX4_advance_180 : decode cX4_advance 180 = .ok (.ifCond .eq 79, 3) := by decide +kernel
theorem dX4_advance_183 : decode cX4_advance 183 = .ok (.aload_n 0, 1) := by decide +kernel
theorem dX4_advance_184 : decode cX4_advance 184 = .ok (.bipush 10, 2) := by decide +kernel
theorem dX4_advance_186 : decode cX4_advance 186 = .ok (.aload_n 0, 1) := by decide +kernel
theorem dX4_advance_187 : decode cX4_advance 187 = .ok (.getfield 86, 3) := by decide +kernel
theorem dX4_advance_190 : decode cX4_advance 190 = .ok (.imul, 1) := by decide +kernel
theorem dX4_advance_191 : decode cX4_advance 191 = .ok (.aload_n 0, 1) := by decide +kernel
theorem dX4_advance_192 : decode cX4_advance 192 = .ok (.getfield 9, 3) := by decide +kernel
theorem dX4_advance_195 : decode cX4_advance 195 = .ok (.aload_n 0, 1) := by decide +kernel
theorem dX4_advance_196 : decode cX4_advance 196 = .ok (.getfield 19, 3) := by decide +kernel
theorem dX4_advance_199 : decode cX4_advance 199 = .ok (.iaload, 1) := by decide +kernel
theorem dX4_advance_200 : decode cX4_advance 200 = .ok (.iadd, 1) := by decide +kernel
theorem dX4_advance_201 : decode cX4_advance 201 = .ok (.bipush 48, 2) := by decide +kernel
theorem dX4_advance_203 : decode cX4_advance 203 = .ok (.isub, 1) := by decide +kernel
theorem dX4_advance_204 : decode cX4_advance 204 = .ok (.sipush 1000, 3) := by decide +kernel
theorem dX4_advance_207 : decode cX4_advance 207 = .ok (.invokestatic 116, 3) := by decide +kernel
theorem dX4_advance_210 : decode cX4_advance 210 = .ok (.putfield 86, 3) := by decide +kernel
theorem dX4_advance_213 : decode cX4_advance 213 = .ok (.aload_n 0, 1) := by decide +kernel
theorem dX4_advance_214 : decode cX4_advance 214 = .ok (.dup, 1) := by decide +kernel
theorem dX4_advance_215 : decode cX4_advance 215 = .ok (.getfield 19, 3) := by decide +kernel
theorem dX4_advance_218 : decode cX4_advance 218 = .ok (.iconst 1, 1) := by decide +kernel
theorem dX4_advance_219 : decode cX4_advance 219 = .ok (.iadd, 1) := by decide +kernel
theorem dX4_advance_220 : decode cX4_advance 220 = .ok (.putfield 19, 3) := by decide +kernel
theorem dX4_advance_223 : decode cX4_advance 223 = .ok (.goto (-66), 3) := by decide +kernel
theorem dX4_advance_226 : decode cX4_advance 226 = .ok (.aload_n 0, 1) := by decide +kernel
theorem dX4_advance_227 : decode cX4_advance 227 = .ok (.aload_n 0, 1) := by decide +kernel
theorem dX4_advance_228 : decode cX4_advance 228 = .ok (.getfield 9, 3) := by decide +kernel
theorem dX4_advance_231 : decode cX4_advance 231 = .ok (.aload_n 0, 1) := by decide +kernel
theorem dX4_advance_232 : decode cX4_advance 232 = .ok (.getfield 96, 3) := by decide +kernel
theorem dX4_advance_235 : decode cX4_advance 235 = .ok (.iaload, 1) := by decide +kernel
theorem dX4_advance_236 : decode cX4_advance 236 = .ok (.bipush 59, 2) := by decide +kernel
theorem dX4_advance_238 : decode cX4_advance 238 = .ok (.if_icmp .ne 7, 3) := by decide +kernel
theorem dX4_advance_241 : decode cX4_advance 241 = .ok (.iconst 3, 1) := by decide +kernel
theorem dX4_advance_242 : decode cX4_advance 242 = .ok (.goto 4, 3) := by decide +kernel
theorem dX4_advance_245 : decode cX4_advance 245 = .ok (.iconst 4, 1) := by decide +kernel
theorem dX4_advance_246 : decode cX4_advance 246 = .ok (.putfield 29, 3) := by decide +kernel
theorem dX4_advance_249 : decode cX4_advance 249 = .ok (.aload_n 0, 1) := by decide +kernel
theorem dX4_advance_250 : decode cX4_advance 250 = .ok (.aload_n 0, 1) := by decide +kernel
theorem dX4_advance_251 : decode cX4_advance 251 = .ok (.getfield 96, 3) := by decide +kernel
theorem dX4_advance_254 : decode cX4_advance 254 = .ok (.iconst 1, 1) := by decide +kernel
theorem dX4_advance_255 : decode cX4_advance 255 = .ok (.iadd, 1) := by decide +kernel
theorem dX4_advance_256 : decode cX4_advance 256 = .ok (.putfield 19, 3) := by decide +kernel
theorem dX4_advance_259 : decode cX4_advance 259 = .ok (.return_, 1) := by decide +kernel
theorem dX4_isLetter_0 : decode cX4_isLetter 0 = .ok (.iload_n 0, 1) := by decide +kernel
theorem dX4_isLetter_1 : decode cX4_isLetter 1 = .ok (.bipush 97, 2) := by decide +kernel
theorem dX4_isLetter_3 : decode cX4_isLetter 3 = .ok (.if_icmp .lt 13, 3) := by decide +kernel
theorem dX4_isLetter_6 : decode cX4_isLetter 6 = .ok (.iload_n 0, 1) := by decide +kernel
theorem dX4_isLetter_7 : decode cX4_isLetter 7 = .ok (.bipush 122, 2) := by decide +kernel
theorem dX4_isLetter_9 : decode cX4_isLetter 9 = .ok (.if_icmp .gt 7, 3) := by decide +kernel
theorem dX4_isLetter_12 : decode cX4_isLetter 12 = .ok (.iconst 1, 1) := by decide +kernel
theorem dX4_isLetter_13 : decode cX4_isLetter 13 = .ok (.goto 4, 3) := by decide +kernel
theorem dX4_isLetter_16 : decode cX4_isLetter 16 = .ok (.iconst 0, 1) := by decide +kernel
theorem dX4_isLetter_17 : decode cX4_isLetter 17 = .ok (.ireturn, 1) := by decide +kernel
theorem dX4_isDigit_0 : decode cX4_isDigit 0 = .ok (.iload_n 0, 1) := by decide +kernel
theorem dX4_isDigit_1 : decode cX4_isDigit 1 = .ok (.bipush 48, 2) := by decide +kernel
theorem dX4_isDigit_3 : decode cX4_isDigit 3 = .ok (.if_icmp .lt 13, 3) := by decide +kernel
theorem dX4_isDigit_6 : decode cX4_isDigit 6 = .ok (.iload_n 0, 1) := by decide +kernel
theorem dX4_isDigit_7 : decode cX4_isDigit 7 = .ok (.bipush 57, 2) := by decide +kernel
theorem dX4_isDigit_9 : decode cX4_isDigit 9 = .ok (.if_icmp .gt 7, 3) := by decide +kernel
theorem dX4_isDigit_12 : decode cX4_isDigit 12 = .ok (.iconst 1, 1) := by decide +kernel
theorem dX4_isDigit_13 : decode cX4_isDigit 13 = .ok (.goto 4, 3) := by decide +kernel
theorem dX4_isDigit_16 : decode cX4_isDigit 16 = .ok (.iconst 0, 1) := by decide +kernel
theorem dX4_isDigit_17 : decode cX4_isDigit 17 = .ok (.ireturn, 1) := by decide +kernel
theorem dX4_nameOfKind_0 : decode cX4_nameOfKind 0 = .ok (.iload_n 0, 1) := by decide +kernel
theorem dX4_nameOfKind_1 : decode cX4_nameOfKind 1 = .ok (.tableswitch 50 1 5 #[35, 38, 41, 44, 47], 35) := by decide +kernel
theorem dX4_nameOfKind_36 : decode cX4_nameOfKind 36 = .ok (.ldc 122, 2) := by decide +kernel
theorem dX4_nameOfKind_38 : decode cX4_nameOfKind 38 = .ok (.areturn, 1) := by decide +kernel
theorem dX4_nameOfKind_39 : decode cX4_nameOfKind 39 = .ok (.ldc 124, 2) := by decide +kernel
theorem dX4_nameOfKind_41 : decode cX4_nameOfKind 41 = .ok (.areturn, 1) := by decide +kernel
theorem dX4_nameOfKind_42 : decode cX4_nameOfKind 42 = .ok (.ldc 126, 2) := by decide +kernel
theorem dX4_nameOfKind_44 : decode cX4_nameOfKind 44 = .ok (.areturn, 1) := by decide +kernel
theorem dX4_nameOfKind_45 : decode cX4_nameOfKind 45 = .ok (.ldc 128, 2) := by decide +kernel
theorem dX4_nameOfKind_47 : decode cX4_nameOfKind 47 = .ok (.areturn, 1) := by decide +kernel
theorem dX4_nameOfKind_48 : decode cX4_nameOfKind 48 = .ok (.ldc 130, 2) := by decide +kernel
theorem dX4_nameOfKind_50 : decode cX4_nameOfKind 50 = .ok (.areturn, 1) := by decide +kernel
theorem dX4_nameOfKind_51 : decode cX4_nameOfKind 51 = .ok (.ldc 132, 2) := by decide +kernel
theorem dX4_nameOfKind_53 : decode cX4_nameOfKind 53 = .ok (.areturn, 1) := by decide +kernel
theorem dJ6_bitCount_0f7a4_0 : decode cJ6_bitCount_0f7a4 0 = .ok (.iload_n 0, 1) := by decide +kernel
theorem dJ6_bitCount_0f7a4_1 : decode cJ6_bitCount_0f7a4 1 = .ok (.iload_n 0, 1) := by decide +kernel
theorem dJ6_bitCount_0f7a4_2 : decode cJ6_bitCount_0f7a4 2 = .ok (.iconst 1, 1) := by decide +kernel
theorem dJ6_bitCount_0f7a4_3 : decode cJ6_bitCount_0f7a4 3 = .ok (.iushr, 1) := by decide +kernel
theorem dJ6_bitCount_0f7a4_4 : decode cJ6_bitCount_0f7a4 4 = .ok (.ldc_w 265, 3) := by decide +kernel
theorem dJ6_bitCount_0f7a4_7 : decode cJ6_bitCount_0f7a4 7 = .ok (.iand, 1) := by decide +kernel
theorem dJ6_bitCount_0f7a4_8 : decode cJ6_bitCount_0f7a4 8 = .ok (.isub, 1) := by decide +kernel
theorem dJ6_bitCount_0f7a4_9 : decode cJ6_bitCount_0f7a4 9 = .ok (.istore_n 0, 1) := by decide +kernel
theorem dJ6_bitCount_0f7a4_10 : decode cJ6_bitCount_0f7a4 10 = .ok (.iload_n 0, 1) := by decide +kernel
theorem dJ6_bitCount_0f7a4_11 : decode cJ6_bitCount_0f7a4 11 = .ok (.ldc_w 266, 3) := by decide +kernel
theorem dJ6_bitCount_0f7a4_14 : decode cJ6_bitCount_0f7a4 14 = .ok (.iand, 1) := by decide +kernel
theorem dJ6_bitCount_0f7a4_15 : decode cJ6_bitCount_0f7a4 15 = .ok (.iload_n 0, 1) := by decide +kernel
theorem dJ6_bitCount_0f7a4_16 : decode cJ6_bitCount_0f7a4 16 = .ok (.iconst 2, 1) := by decide +kernel
theorem dJ6_bitCount_0f7a4_17 : decode cJ6_bitCount_0f7a4 17 = .ok (.iushr, 1) := by decide +kernel
theorem dJ6_bitCount_0f7a4_18 : decode cJ6_bitCount_0f7a4 18 = .ok (.ldc_w 266, 3) := by decide +kernel
theorem dJ6_bitCount_0f7a4_21 : decode cJ6_bitCount_0f7a4 21 = .ok (.iand, 1) := by decide +kernel
theorem dJ6_bitCount_0f7a4_22 : decode cJ6_bitCount_0f7a4 22 = .ok (.iadd, 1) := by decide +kernel
theorem dJ6_bitCount_0f7a4_23 : decode cJ6_bitCount_0f7a4 23 = .ok (.istore_n 0, 1) := by decide +kernel
theorem dJ6_bitCount_0f7a4_24 : decode cJ6_bitCount_0f7a4 24 = .ok (.iload_n 0, 1) := by decide +kernel
theorem dJ6_bitCount_0f7a4_25 : decode cJ6_bitCount_0f7a4 25 = .ok (.iload_n 0, 1) := by decide +kernel
theorem dJ6_bitCount_0f7a4_26 : decode cJ6_bitCount_0f7a4 26 = .ok (.iconst 4, 1) := by decide +kernel
theorem dJ6_bitCount_0f7a4_27 : decode cJ6_bitCount_0f7a4 27 = .ok (.iushr, 1) := by decide +kernel
theorem dJ6_bitCount_0f7a4_28 : decode cJ6_bitCount_0f7a4 28 = .ok (.iadd, 1) := by decide +kernel
theorem dJ6_bitCount_0f7a4_29 : decode cJ6_bitCount_0f7a4 29 = .ok (.ldc_w 267, 3) := by decide +kernel
theorem dJ6_bitCount_0f7a4_32 : decode cJ6_bitCount_0f7a4 32 = .ok (.iand, 1) := by decide +kernel
theorem dJ6_bitCount_0f7a4_33 : decode cJ6_bitCount_0f7a4 33 = .ok (.istore_n 0, 1) := by decide +kernel
theorem dJ6_bitCount_0f7a4_34 : decode cJ6_bitCount_0f7a4 34 = .ok (.iload_n 0, 1) := by decide +kernel
theorem dJ6_bitCount_0f7a4_35 : decode cJ6_bitCount_0f7a4 35 = .ok (.iload_n 0, 1) := by decide +kernel
theorem dJ6_bitCount_0f7a4_36 : decode cJ6_bitCount_0f7a4 36 = .ok (.bipush 8, 2) := by decide +kernel
theorem dJ6_bitCount_0f7a4_38 : decode cJ6_bitCount_0f7a4 38 = .ok (.iushr, 1) := by decide +kernel
theorem dJ6_bitCount_0f7a4_39 : decode cJ6_bitCount_0f7a4 39 = .ok (.iadd, 1) := by decide +kernel
theorem dJ6_bitCount_0f7a4_40 : decode cJ6_bitCount_0f7a4 40 = .ok (.istore_n 0, 1) := by decide +kernel
theorem dJ6_bitCount_0f7a4_41 : decode cJ6_bitCount_0f7a4 41 = .ok (.iload_n 0, 1) := by decide +kernel
theorem dJ6_bitCount_0f7a4_42 : decode cJ6_bitCount_0f7a4 42 = .ok (.iload_n 0, 1) := by decide +kernel
theorem dJ6_bitCount_0f7a4_43 : decode cJ6_bitCount_0f7a4 43 = .ok (.bipush 16, 2) := by decide +kernel
theorem dJ6_bitCount_0f7a4_45 : decode cJ6_bitCount_0f7a4 45 = .ok (.iushr, 1) := by decide +kernel
theorem dJ6_bitCount_0f7a4_46 : decode cJ6_bitCount_0f7a4 46 = .ok (.iadd, 1) := by decide +kernel
theorem dJ6_bitCount_0f7a4_47 : decode cJ6_bitCount_0f7a4 47 = .ok (.istore_n 0, 1) := by decide +kernel
theorem dJ6_bitCount_0f7a4_48 : decode cJ6_bitCount_0f7a4 48 = .ok (.iload_n 0, 1) := by decide +kernel
theorem dJ6_bitCount_0f7a4_49 : decode cJ6_bitCount_0f7a4 49 = .ok (.bipush 63, 2) := by decide +kernel
theorem dJ6_bitCount_0f7a4_51 : decode cJ6_bitCount_0f7a4 51 = .ok (.iand, 1) := by decide +kernel
theorem dJ6_bitCount_0f7a4_52 : decode cJ6_bitCount_0f7a4 52 = .ok (.ireturn, 1) := by decide +kernel
theorem dJ9_max_7cf53_0 : decode cJ9_max_7cf53 0 = .ok (.iload_n 0, 1) := by decide +kernel
theorem dJ9_max_7cf53_1 : decode cJ9_max_7cf53 1 = .ok (.iload_n 1, 1) := by decide +kernel
theorem dJ9_max_7cf53_2 : decode cJ9_max_7cf53 2 = .ok (.if_icmp .lt 7, 3) := by decide +kernel
theorem dJ9_max_7cf53_5 : decode cJ9_max_7cf53 5 = .ok (.iload_n 0, 1) := by decide +kernel
theorem dJ9_max_7cf53_6 : decode cJ9_max_7cf53 6 = .ok (.goto 4, 3) := by decide +kernel
theorem dJ9_max_7cf53_9 : decode cJ9_max_7cf53 9 = .ok (.iload_n 1, 1) := by decide +kernel
theorem dJ9_max_7cf53_10 : decode cJ9_max_7cf53 10 = .ok (.ireturn, 1) := by decide +kernel
theorem dJ9_min_7cf53_0 : decode cJ9_min_7cf53 0 = .ok (.iload_n 0, 1) := by decide +kernel
theorem dJ9_min_7cf53_1 : decode cJ9_min_7cf53 1 = .ok (.iload_n 1, 1) := by decide +kernel
theorem dJ9_min_7cf53_2 : decode cJ9_min_7cf53 2 = .ok (.if_icmp .gt 7, 3) := by decide +kernel
theorem dJ9_min_7cf53_5 : decode cJ9_min_7cf53 5 = .ok (.iload_n 0, 1) := by decide +kernel
theorem dJ9_min_7cf53_6 : decode cJ9_min_7cf53 6 = .ok (.goto 4, 3) := by decide +kernel
theorem dJ9_min_7cf53_9 : decode cJ9_min_7cf53 9 = .ok (.iload_n 1, 1) := by decide +kernel
theorem dJ9_min_7cf53_10 : decode cJ9_min_7cf53 10 = .ok (.ireturn, 1) := by decide +kernel
theorem dJ0_length_8abf5_0 : decode cJ0_length_8abf5 0 = .ok (.aload_n 0, 1) := by decide +kernel
theorem dJ0_length_8abf5_1 : decode cJ0_length_8abf5 1 = .ok (.getfield 9, 3) := by decide +kernel
theorem dJ0_length_8abf5_4 : decode cJ0_length_8abf5 4 = .ok (.arraylength, 1) := by decide +kernel
theorem dJ0_length_8abf5_5 : decode cJ0_length_8abf5 5 = .ok (.aload_n 0, 1) := by decide +kernel
theorem dJ0_length_8abf5_6 : decode cJ0_length_8abf5 6 = .ok (.invokevirtual 335, 3) := by decide +kernel
theorem dJ0_length_8abf5_9 : decode cJ0_length_8abf5 9 = .ok (.ishr, 1) := by decide +kernel
theorem dJ0_length_8abf5_10 : decode cJ0_length_8abf5 10 = .ok (.ireturn, 1) := by decide +kernel
theorem dJ0_charAt_5068e_0 : decode cJ0_charAt_5068e 0 = .ok (.aload_n 0, 1) := by decide +kernel
theorem dJ0_charAt_5068e_1 : decode cJ0_charAt_5068e 1 = .ok (.invokevirtual 492, 3) := by decide +kernel
theorem dJ0_charAt_5068e_4 : decode cJ0_charAt_5068e 4 = .ok (.ifCond .eq 12, 3) := by decide +kernel
theorem dJ0_charAt_5068e_7 : decode cJ0_charAt_5068e 7 = .ok (.aload_n 0, 1) := by decide +kernel
theorem dJ0_charAt_5068e_8 : decode cJ0_charAt_5068e 8 = .ok (.getfield 9, 3) := by decide +kernel
theorem dJ0_charAt_5068e_11 : decode cJ0_charAt_5068e 11 = .ok (.iload_n 1, 1) := by decide +kernel
theorem dJ0_charAt_5068e_12 : decode cJ0_charAt_5068e 12 = .ok (.invokestatic 495, 3) := by decide +kernel
theorem dJ0_charAt_5068e_15 : decode cJ0_charAt_5068e 15 = .ok (.ireturn, 1) := by decide +kernel
theorem dJ0_charAt_5068e_16 : decode cJ0_charAt_5068e 16 = .ok (.aload_n 0, 1) := by decide +kernel
theorem dJ0_charAt_5068e_17 : decode cJ0_charAt_5068e 17 = .ok (.getfield 9, 3) := by decide +kernel
theorem dJ0_charAt_5068e_20 : decode cJ0_charAt_5068e 20 = .ok (.iload_n 1, 1) := by decide +kernel
theorem dJ0_charAt_5068e_21 : decode cJ0_charAt_5068e 21 = .ok (.invokestatic 498, 3) := by decide +kernel
theorem dJ0_charAt_5068e_24 : decode cJ0_charAt_5068e 24 = .ok (.ireturn, 1) := by decide +kernel
theorem dJ0_coder_7d493_0 : decode cJ0_coder_7d493 0 = .ok (.getstatic 38, 3) := by decide +kernel
theorem dJ0_coder_7d493_3 : decode cJ0_coder_7d493 3 = .ok (.ifCond .eq 10, 3) := by decide +kernel
theorem dJ0_coder_7d493_6 : decode cJ0_coder_7d493 6 = .ok (.aload_n 0, 1) := by decide +kernel
theorem dJ0_coder_7d493_7 : decode cJ0_coder_7d493 7 = .ok (.getfield 15, 3) := by decide +kernel
theorem dJ0_coder_7d493_10 : decode cJ0_coder_7d493 10 = .ok (.goto 4, 3) := by decide +kernel
theorem dJ0_coder_7d493_13 : decode cJ0_coder_7d493 13 = .ok (.iconst 1, 1) := by decide +kernel
theorem dJ0_coder_7d493_14 : decode cJ0_coder_7d493 14 = .ok (.ireturn, 1) := by decide +kernel
theorem dJ0_isLatin1_aae02_0 : decode cJ0_isLatin1_aae02 0 = .ok (.getstatic 38, 3) := by decide +kernel
theorem dJ0_isLatin1_aae02_3 : decode cJ0_isLatin1_aae02 3 = .ok (.ifCond .eq 14, 3) := by decide +kernel
theorem dJ0_isLatin1_aae02_6 : decode cJ0_isLatin1_aae02 6 = .ok (.aload_n 0, 1) := by decide +kernel
theorem dJ0_isLatin1_aae02_7 : decode cJ0_isLatin1_aae02 7 = .ok (.getfield 15, 3) := by decide +kernel
theorem dJ0_isLatin1_aae02_10 : decode cJ0_isLatin1_aae02 10 = .ok (.ifCond .ne 7, 3) := by decide +kernel
theorem dJ0_isLatin1_aae02_13 : decode cJ0_isLatin1_aae02 13 = .ok (.iconst 1, 1) := by decide +kernel
theorem dJ0_isLatin1_aae02_14 : decode cJ0_isLatin1_aae02 14 = .ok (.goto 4, 3) := by decide +kernel
theorem dJ0_isLatin1_aae02_17 : decode cJ0_isLatin1_aae02 17 = .ok (.iconst 0, 1) := by decide +kernel
theorem dJ0_isLatin1_aae02_18 : decode cJ0_isLatin1_aae02 18 = .ok (.ireturn, 1) := by decide +kernel
theorem dJ0_checkIndex_df160_0 : decode cJ0_checkIndex_df160 0 = .ok (.iload_n 0, 1) := by decide +kernel
theorem dJ0_checkIndex_df160_1 : decode cJ0_checkIndex_df160 1 = .ok (.iload_n 1, 1) := by decide +kernel
theorem dJ0_checkIndex_df160_2 : decode cJ0_checkIndex_df160 2 = .ok (.getstatic 1053, 3) := by decide +kernel
theorem dJ0_checkIndex_df160_5 : decode cJ0_checkIndex_df160 5 = .ok (.invokestatic 1059, 3) := by decide +kernel
theorem dJ0_checkIndex_df160_8 : decode cJ0_checkIndex_df160 8 = .ok (.pop, 1) := by decide +kernel
theorem dJ0_checkIndex_df160_9 : decode cJ0_checkIndex_df160 9 = .ok (.return_, 1) := by decide +kernel
theorem dJ1_charAt_3b067_0 : decode cJ1_charAt_3b067 0 = .ok (.iload_n 1, 1) := by decide +kernel
theorem dJ1_charAt_3b067_1 : decode cJ1_charAt_3b067 1 = .ok (.aload_n 0, 1) := by decide +kernel
theorem dJ1_charAt_3b067_2 : decode cJ1_charAt_3b067 2 = .ok (.arraylength, 1) := by decide +kernel
theorem dJ1_charAt_3b067_3 : decode cJ1_charAt_3b067 3 = .ok (.invokestatic 9, 3) := by decide +kernel
theorem dJ1_charAt_3b067_6 : decode cJ1_charAt_3b067 6 = .ok (.aload_n 0, 1) := by decide +kernel
theorem dJ1_charAt_3b067_7 : decode cJ1_charAt_3b067 7 = .ok (.iload_n 1, 1) := by decide +kernel
theorem dJ1_charAt_3b067_8 : decode cJ1_charAt_3b067 8 = .ok (.baload, 1) := by decide +kernel
theorem dJ1_charAt_3b067_9 : decode cJ1_charAt_3b067 9 = .ok (.sipush 255, 3) := by decide +kernel
theorem dJ1_charAt_3b067_12 : decode cJ1_charAt_3b067 12 = .ok (.iand, 1) := by decide +kernel
theorem dJ1_charAt_3b067_13 : decode cJ1_charAt_3b067 13 = .ok (.i2c, 1) := by decide +kernel
theorem dJ1_charAt_3b067_14 : decode cJ1_charAt_3b067 14 = .ok (.ireturn, 1) := by decide +kernel
theorem dJ2_getChar_3b067_0 : decode cJ2_getChar_3b067 0 = .ok (.getstatic 44, 3) := by decide +kernel
theorem dJ2_getChar_3b067_3 : decode cJ2_getChar_3b067 3 = .ok (.ifCond .ne 25, 3) := by decide +kernel
theorem dJ2_getChar_3b067_6 : decode cJ2_getChar_3b067 6 = .ok (.iload_n 1, 1) := by decide +kernel
theorem dJ2_getChar_3b067_7 : decode cJ2_getChar_3b067 7 = .ok (.ifCond .lt 11, 3) := by decide +kernel
theorem dJ2_getChar_3b067_10 : decode cJ2_getChar_3b067 10 = .ok (.iload_n 1, 1) := by decide +kernel
theorem dJ2_getChar_3b067_11 : decode cJ2_getChar_3b067 11 = .ok (.aload_n 0, 1) := by decide +kernel
theorem dJ2_getChar_3b067_12 : decode cJ2_getChar_3b067 12 = .ok (.invokestatic 48, 3) := by decide +kernel
theorem dJ2_getChar_3b067_15 : decode cJ2_getChar_3b067 15 = .ok (.if_icmp .lt 13, 3) := by decide +kernel
theorem dJ2_getChar_3b067_18 : decode cJ2_getChar_3b067 18 = .ok (.new 52, 3) := by decide +kernel
theorem dJ2_getChar_3b067_21 : decode cJ2_getChar_3b067 21 = .ok (.dup, 1) := by decide +kernel
theorem dJ2_getChar_3b067_22 : decode cJ2_getChar_3b067 22 = .ok (.ldc 54, 2) := by decide +kernel
theorem dJ2_getChar_3b067_24 : decode cJ2_getChar_3b067 24 = .ok (.invokespecial 56, 3) := by decide +kernel
theorem dJ2_getChar_3b067_27 : decode cJ2_getChar_3b067 27 = .ok (.athrow, 1) := by decide +kernel
theorem dJ2_getChar_3b067_28 : decode cJ2_getChar_3b067 28 = .ok (.iload_n 1, 1) := by decide +kernel
theorem dJ2_getChar_3b067_29 : decode cJ2_getChar_3b067 29 = .ok (.iconst 1, 1) := by decide +kernel
theorem dJ2_getChar_3b067_30 : decode cJ2_getChar_3b067 30 = .ok (.ishl, 1) := by decide +kernel
theorem dJ2_getChar_3b067_31 : decode cJ2_getChar_3b067 31 = .ok (.istore_n 1, 1) := by decide +kernel
theorem dJ2_getChar_3b067_32 : decode cJ2_getChar_3b067 32 = .ok (.aload_n 0, 1) := by decide +kernel
theorem dJ2_getChar_3b067_33 : decode cJ2_getChar_3b067 33 = .ok (.iload_n 1, 1) := by decide +kernel
theorem dJ2_getChar_3b067_34 : decode cJ2_getChar_3b067 34 = .ok (.iinc 1 1, 3) := by decide +kernel
theorem dJ2_getChar_3b067_37 : decode cJ2_getChar_3b067 37 = .ok (.baload, 1) := by decide +kernel
theorem dJ2_getChar_3b067_38 : decode cJ2_getChar_3b067 38 = .ok (.sipush 255, 3) := by decide +kernel
theorem dJ2_getChar_3b067_41 : decode cJ2_getChar_3b067 41 = .ok (.iand, 1) := by decide +kernel
theorem dJ2_getChar_3b067_42 : decode cJ2_getChar_3b067 42 = .ok (.getstatic 59, 3) := by decide +kernel
theorem dJ2_getChar_3b067_45 : decode cJ2_getChar_3b067 45 = .ok (.ishl, 1) := by decide +kernel
theorem dJ2_getChar_3b067_46 : decode cJ2_getChar_3b067 46 = .ok (.aload_n 0, 1) := by decide +kernel
theorem dJ2_getChar_3b067_47 : decode cJ2_getChar_3b067 47 = .ok (.iload_n 1, 1) := by decide +kernel
theorem dJ2_getChar_3b067_48 : decode cJ2_getChar_3b067 48 = .ok (.baload, 1) := by decide +kernel
theorem dJ2_getChar_3b067_49 : decode cJ2_getChar_3b067 49 = .ok (.sipush 255, 3) := by decide +kernel
theorem dJ2_getChar_3b067_52 : decode cJ2_getChar_3b067 52 = .ok (.iand, 1) := by decide +kernel
theorem dJ2_getChar_3b067_53 : decode cJ2_getChar_3b067 53 = .ok (.getstatic 63, 3) := by decide +kernel
theorem dJ2_getChar_3b067_56 : decode cJ2_getChar_3b067 56 = .ok (.ishl, 1) := by decide +kernel
theorem dJ2_getChar_3b067_57 : decode cJ2_getChar_3b067 57 = .ok (.ior, 1) := by decide +kernel
theorem dJ2_getChar_3b067_58 : decode cJ2_getChar_3b067 58 = .ok (.i2c, 1) := by decide +kernel
theorem dJ2_getChar_3b067_59 : decode cJ2_getChar_3b067 59 = .ok (.ireturn, 1) := by decide +kernel
theorem dJ2_length_9d52b_0 : decode cJ2_length_9d52b 0 = .ok (.aload_n 0, 1) := by decide +kernel
theorem dJ2_length_9d52b_1 : decode cJ2_length_9d52b 1 = .ok (.arraylength, 1) := by decide +kernel
theorem dJ2_length_9d52b_2 : decode cJ2_length_9d52b 2 = .ok (.iconst 1, 1) := by decide +kernel
theorem dJ2_length_9d52b_3 : decode cJ2_length_9d52b 3 = .ok (.ishr, 1) := by decide +kernel
theorem dJ2_length_9d52b_4 : decode cJ2_length_9d52b 4 = .ok (.ireturn, 1) := by decide +kernel
theorem dJ2_charAt_3b067_0 : decode cJ2_charAt_3b067 0 = .ok (.iload_n 1, 1) := by decide +kernel
theorem dJ2_charAt_3b067_1 : decode cJ2_charAt_3b067 1 = .ok (.aload_n 0, 1) := by decide +kernel
theorem dJ2_charAt_3b067_2 : decode cJ2_charAt_3b067 2 = .ok (.invokestatic 67, 3) := by decide +kernel
theorem dJ2_charAt_3b067_5 : decode cJ2_charAt_3b067 5 = .ok (.aload_n 0, 1) := by decide +kernel
theorem dJ2_charAt_3b067_6 : decode cJ2_charAt_3b067 6 = .ok (.iload_n 1, 1) := by decide +kernel
theorem dJ2_charAt_3b067_7 : decode cJ2_charAt_3b067 7 = .ok (.invokestatic 71, 3) := by decide +kernel
theorem dJ2_charAt_3b067_10 : decode cJ2_charAt_3b067 10 = .ok (.ireturn, 1) := by decide +kernel
theorem dJ2_checkIndex_2214a_0 : decode cJ2_checkIndex_2214a 0 = .ok (.iload_n 0, 1) := by decide +kernel
theorem dJ2_checkIndex_2214a_1 : decode cJ2_checkIndex_2214a 1 = .ok (.aload_n 1, 1) := by decide +kernel
theorem dJ2_checkIndex_2214a_2 : decode cJ2_checkIndex_2214a 2 = .ok (.invokestatic 48, 3) := by decide +kernel
theorem dJ2_checkIndex_2214a_5 : decode cJ2_checkIndex_2214a 5 = .ok (.invokestatic 414, 3) := by decide +kernel
theorem dJ2_checkIndex_2214a_8 : decode cJ2_checkIndex_2214a 8 = .ok (.return_, 1) := by decide +kernel
theorem dJ3_checkIndex_8e157_0 : decode cJ3_checkIndex_8e157 0 = .ok (.iload_n 0, 1) := by decide +kernel
theorem dJ3_checkIndex_8e157_1 : decode cJ3_checkIndex_8e157 1 = .ok (.ifCond .lt 8, 3) := by decide +kernel
theorem dJ3_checkIndex_8e157_4 : decode cJ3_checkIndex_8e157 4 = .ok (.iload_n 0, 1) := by decide +kernel
theorem dJ3_checkIndex_8e157_5 : decode cJ3_checkIndex_8e157 5 = .ok (.iload_n 1, 1) := by decide +kernel
theorem dJ3_checkIndex_8e157_6 : decode cJ3_checkIndex_8e157 6 = .ok (.if_icmp .lt 10, 3) := by decide +kernel
theorem dJ3_checkIndex_8e157_9 : decode cJ3_checkIndex_8e157 9 = .ok (.aload_n 2, 1) := by decide +kernel
theorem dJ3_checkIndex_8e157_10 : decode cJ3_checkIndex_8e157 10 = .ok (.iload_n 0, 1) := by decide +kernel
theorem dJ3_checkIndex_8e157_11 : decode cJ3_checkIndex_8e157 11 = .ok (.iload_n 1, 1) := by decide +kernel
theorem dJ3_checkIndex_8e157_12 : decode cJ3_checkIndex_8e157 12 = .ok (.invokestatic 95, 3) := by decide +kernel
theorem dJ3_checkIndex_8e157_15 : decode cJ3_checkIndex_8e157 15 = .ok (.athrow, 1) := by decide +kernel
theorem dJ3_checkIndex_8e157_16 : decode cJ3_checkIndex_8e157 16 = .ok (.iload_n 0, 1) := by decide +kernel
theorem dJ3_checkIndex_8e157_17 : decode cJ3_checkIndex_8e157 17 = .ok (.ireturn, 1) := by decide +kernel
