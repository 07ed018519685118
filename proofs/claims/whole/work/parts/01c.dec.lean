theorem dX5_init_0 : decode cX5_init 0 = .ok (.aload_n 0, 1) := by decide +kernel
theorem dX5_init_1 : decode cX5_init 1 = .ok (.invokespecial 1, 3) := by decide +kernel
theorem dX5_init_4 : decode cX5_init 4 = .ok (.aload_n 0, 1) := by decide +kernel
theorem dX5_init_5 : decode cX5_init 5 = .ok (.new 7, 3) := by decide +kernel
theorem dX5_init_8 : decode cX5_init 8 = .ok (.dup, 1) := by decide +kernel
theorem dX5_init_9 : decode cX5_init 9 = .ok (.invokespecial 9, 3) := by decide +kernel
theorem dX5_init_12 : decode cX5_init 12 = .ok (.putfield 10, 3) := by decide +kernel
theorem dX5_init_15 : decode cX5_init 15 = .ok (.aload_n 0, 1) := by decide +kernel
theorem dX5_init_16 : decode cX5_init 16 = .ok (.new 7, 3) := by decide +kernel
theorem dX5_init_19 : decode cX5_init 19 = .ok (.dup, 1) := by decide +kernel
theorem dX5_init_20 : decode cX5_init 20 = .ok (.invokespecial 9, 3) := by decide +kernel
theorem dX5_init_23 : decode cX5_init 23 = .ok (.putfield 16, 3) := by decide +kernel
theorem dX5_init_26 : decode cX5_init 26 = .ok (.aload_n 0, 1) := by decide +kernel
theorem dX5_init_27 : decode cX5_init 27 = .ok (.new 7, 3) := by decide +kernel
theorem dX5_init_30 : decode cX5_init 30 = .ok (.dup, 1) := by decide +kernel
theorem dX5_init_31 : decode cX5_init 31 = .ok (.invokespecial 9, 3) := by decide +kernel
theorem dX5_init_34 : decode cX5_init 34 = .ok (.putfield 19, 3) := by decide +kernel
theorem dX5_init_37 : decode cX5_init 37 = .ok (.aload_n 0, 1) := by decide +kernel
theorem dX5_init_38 : decode cX5_init 38 = .ok (.new 22, 3) := by decide +kernel
theorem dX5_init_41 : decode cX5_init 41 = .ok (.dup, 1) := by decide +kernel
theorem dX5_init_42 : decode cX5_init 42 = .ok (.invokespecial 24, 3) := by decide +kernel
theorem dX5_init_45 : decode cX5_init 45 = .ok (.putfield 25, 3) := by decide +kernel
theorem dX5_init_48 : decode cX5_init 48 = .ok (.aload_n 0, 1) := by decide +kernel
theorem dX5_init_49 : decode cX5_init 49 = .ok (.new 29, 3) := by decide +kernel
theorem dX5_init_52 : decode cX5_init 52 = .ok (.dup, 1) := by decide +kernel
theorem dX5_init_53 : decode cX5_init 53 = .ok (.invokespecial 31, 3) := by decide +kernel
theorem dX5_init_56 : decode cX5_init 56 = .ok (.putfield 32, 3) := by decide +kernel
theorem dX5_init_59 : decode cX5_init 59 = .ok (.aload_n 0, 1) := by decide +kernel
theorem dX5_init_60 : decode cX5_init 60 = .ok (.new 36, 3) := by decide +kernel
theorem dX5_init_63 : decode cX5_init 63 = .ok (.dup, 1) := by decide +kernel
theorem dX5_init_64 : decode cX5_init 64 = .ok (.invokespecial 38, 3) := by decide +kernel
theorem dX5_init_67 : decode cX5_init 67 = .ok (.putfield 39, 3) := by decide +kernel
theorem dX5_init_70 : decode cX5_init 70 = .ok (.aload_n 0, 1) := by decide +kernel
theorem dX5_init_71 : decode cX5_init 71 = .ok (.iconst 4, 1) := by decide +kernel
theorem dX5_init_72 : decode cX5_init 72 = .ok (.anewarray 43, 3) := by decide +kernel
theorem dX5_init_75 : decode cX5_init 75 = .ok (.putfield 45, 3) := by decide +kernel
theorem dX5_init_78 : decode cX5_init 78 = .ok (.aload_n 0, 1) := by decide +kernel
theorem dX5_init_79 : decode cX5_init 79 = .ok (.bipush 7, 2) := by decide +kernel
theorem dX5_init_81 : decode cX5_init 81 = .ok (.newarray .int, 2) := by decide +kernel
theorem dX5_init_83 : decode cX5_init 83 = .ok (.putfield 49, 3) := by decide +kernel
theorem dX5_init_86 : decode cX5_init 86 = .ok (.iconst 0, 1) := by decide +kernel
theorem dX5_init_87 : decode cX5_init 87 = .ok (.istore_n 1, 1) := by decide +kernel
theorem dX5_init_88 : decode cX5_init 88 = .ok (.iload_n 1, 1) := by decide +kernel
theorem dX5_init_89 : decode cX5_init 89 = .ok (.iconst 4, 1) := by decide +kernel
theorem dX5_init_90 : decode cX5_init 90 = .ok (.if_icmp .ge 22, 3) := by decide +kernel
theorem dX5_init_93 : decode cX5_init 93 = .ok (.aload_n 0, 1) := by decide +kernel
theorem dX5_init_94 : decode cX5_init 94 = .ok (.getfield 45, 3) := by decide +kernel
theorem dX5_init_97 : decode cX5_init 97 = .ok (.iload_n 1, 1) := by decide +kernel
theorem dX5_init_98 : decode cX5_init 98 = .ok (.new 43, 3) := by decide +kernel
theorem dX5_init_101 : decode cX5_init 101 = .ok (.dup, 1) := by decide +kernel
theorem dX5_init_102 : decode cX5_init 102 = .ok (.invokespecial 53, 3) := by decide +kernel
theorem dX5_init_105 : decode cX5_init 105 = .ok (.aastore, 1) := by decide +kernel
theorem dX5_init_106 : decode cX5_init 106 = .ok (.iinc 1 1, 3) := by decide +kernel
theorem dX5_init_109 : decode cX5_init 109 = .ok (.goto (-21), 3) := by decide +kernel
theorem dX5_init_112 : decode cX5_init 112 = .ok (.return_, 1) := by decide +kernel
theorem dX5_fear_0 : decode cX5_fear 0 = .ok (.iload_n 1, 1) := by decide +kernel
theorem dX5_fear_1 : decode cX5_fear 1 = .ok (.invokestatic 54, 3) := by decide +kernel
theorem dX5_fear_4 : decode cX5_fear 4 = .ok (.ifCond .eq 12, 3) := by decide +kernel
theorem dX5_fear_7 : decode cX5_fear 7 = .ok (.iload_n 2, 1) := by decide +kernel
theorem dX5_fear_8 : decode cX5_fear 8 = .ok (.bipush 99, 2) := by decide +kernel
theorem dX5_fear_10 : decode cX5_fear 10 = .ok (.invokestatic 58, 3) := by decide +kernel
theorem dX5_fear_13 : decode cX5_fear 13 = .ok (.ifCond .ne 9, 3) := by decide +kernel
theorem dX5_fear_16 : decode cX5_fear 16 = .ok (.aload_n 0, 1) := by decide +kernel
theorem dX5_fear_17 : decode cX5_fear 17 = .ok (.iconst 0, 1) := by decide +kernel
theorem dX5_fear_18 : decode cX5_fear 18 = .ok (.invokevirtual 62, 3) := by decide +kernel
theorem dX5_fear_21 : decode cX5_fear 21 = .ok (.ireturn, 1) := by decide +kernel
theorem dX5_fear_22 : decode cX5_fear 22 = .ok (.aload_n 0, 1) := by decide +kernel
theorem dX5_fear_23 : decode cX5_fear 23 = .ok (.getfield 10, 3) := by decide +kernel
theorem dX5_fear_26 : decode cX5_fear 26 = .ok (.getfield 66, 3) := by decide +kernel
theorem dX5_fear_29 : decode cX5_fear 29 = .ok (.iload_n 1, 1) := by decide +kernel
theorem dX5_fear_30 : decode cX5_fear 30 = .ok (.iaload, 1) := by decide +kernel
theorem dX5_fear_31 : decode cX5_fear 31 = .ok (.istore_n 3, 1) := by decide +kernel
theorem dX5_fear_32 : decode cX5_fear 32 = .ok (.aload_n 0, 1) := by decide +kernel
theorem dX5_fear_33 : decode cX5_fear 33 = .ok (.getfield 10, 3) := by decide +kernel
theorem dX5_fear_36 : decode cX5_fear 36 = .ok (.getfield 66, 3) := by decide +kernel
theorem dX5_fear_39 : decode cX5_fear 39 = .ok (.iload_n 1, 1) := by decide +kernel
theorem dX5_fear_40 : decode cX5_fear 40 = .ok (.iload_n 2, 1) := by decide +kernel
theorem dX5_fear_41 : decode cX5_fear 41 = .ok (.iastore, 1) := by decide +kernel
theorem dX5_fear_42 : decode cX5_fear 42 = .ok (.iload_n 3, 1) := by decide +kernel
theorem dX5_fear_43 : decode cX5_fear 43 = .ok (.ireturn, 1) := by decide +kernel
theorem dX5_kingOf_0 : decode cX5_kingOf 0 = .ok (.iload_n 1, 1) := by decide +kernel
theorem dX5_kingOf_1 : decode cX5_kingOf 1 = .ok (.invokestatic 54, 3) := by decide +kernel
theorem dX5_kingOf_4 : decode cX5_kingOf 4 = .ok (.ifCond .ne 9, 3) := by decide +kernel
theorem dX5_kingOf_7 : decode cX5_kingOf 7 = .ok (.aload_n 0, 1) := by decide +kernel
theorem dX5_kingOf_8 : decode cX5_kingOf 8 = .ok (.iconst 0, 1) := by decide +kernel
theorem dX5_kingOf_9 : decode cX5_kingOf 9 = .ok (.invokevirtual 62, 3) := by decide +kernel
theorem dX5_kingOf_12 : decode cX5_kingOf 12 = .ok (.ireturn, 1) := by decide +kernel
theorem dX5_kingOf_13 : decode cX5_kingOf 13 = .ok (.iload_n 2, 1) := by decide +kernel
theorem dX5_kingOf_14 : decode cX5_kingOf 14 = .ok (.tableswitch 67 0 3 #[30, 40, 49, 58], 30) := by decide +kernel
theorem dX5_kingOf_44 : decode cX5_kingOf 44 = .ok (.aload_n 0, 1) := by decide +kernel
theorem dX5_kingOf_45 : decode cX5_kingOf 45 = .ok (.getfield 10, 3) := by decide +kernel
theorem dX5_kingOf_48 : decode cX5_kingOf 48 = .ok (.getfield 66, 3) := by decide +kernel
theorem dX5_kingOf_51 : decode cX5_kingOf 51 = .ok (.iload_n 1, 1) := by decide +kernel
theorem dX5_kingOf_52 : decode cX5_kingOf 52 = .ok (.iaload, 1) := by decide +kernel
theorem dX5_kingOf_53 : decode cX5_kingOf 53 = .ok (.ireturn, 1) := by decide +kernel
theorem dX5_kingOf_54 : decode cX5_kingOf 54 = .ok (.aload_n 0, 1) := by decide +kernel
theorem dX5_kingOf_55 : decode cX5_kingOf 55 = .ok (.getfield 10, 3) := by decide +kernel
theorem dX5_kingOf_58 : decode cX5_kingOf 58 = .ok (.iload_n 1, 1) := by decide +kernel
theorem dX5_kingOf_59 : decode cX5_kingOf 59 = .ok (.invokevirtual 69, 3) := by decide +kernel
theorem dX5_kingOf_62 : decode cX5_kingOf 62 = .ok (.ireturn, 1) := by decide +kernel
theorem dX5_kingOf_63 : decode cX5_kingOf 63 = .ok (.aload_n 0, 1) := by decide +kernel
theorem dX5_kingOf_64 : decode cX5_kingOf 64 = .ok (.getfield 10, 3) := by decide +kernel
theorem dX5_kingOf_67 : decode cX5_kingOf 67 = .ok (.iload_n 1, 1) := by decide +kernel
theorem dX5_kingOf_68 : decode cX5_kingOf 68 = .ok (.invokevirtual 72, 3) := by decide +kernel
theorem dX5_kingOf_71 : decode cX5_kingOf 71 = .ok (.ireturn, 1) := by decide +kernel
theorem dX5_kingOf_72 : decode cX5_kingOf 72 = .ok (.aload_n 0, 1) := by decide +kernel
theorem dX5_kingOf_73 : decode cX5_kingOf 73 = .ok (.getfield 10, 3) := by decide +kernel
theorem dX5_kingOf_76 : decode cX5_kingOf 76 = .ok (.iload_n 1, 1) := by decide +kernel
theorem dX5_kingOf_77 : decode cX5_kingOf 77 = .ok (.invokevirtual 75, 3) := by decide +kernel
theorem dX5_kingOf_80 : decode cX5_kingOf 80 = .ok (.ireturn, 1) := by decide +kernel
theorem dX5_kingOf_81 : decode cX5_kingOf 81 = .ok (.aload_n 0, 1) := by decide +kernel
theorem dX5_kingOf_82 : decode cX5_kingOf 82 = .ok (.iconst 0, 1) := by decide +kernel
theorem dX5_kingOf_83 : decode cX5_kingOf 83 = .ok (.invokevirtual 62, 3) := by decide +kernel
theorem dX5_kingOf_86 : decode cX5_kingOf 86 = .ok (.ireturn, 1) := by decide +kernel
theorem dX5_child_0 : decode cX5_child 0 = .ok (.iload_n 1, 1) := by decide +kernel
theorem dX5_child_1 : decode cX5_child 1 = .ok (.invokestatic 78, 3) := by decide +kernel
theorem dX5_child_4 : decode cX5_child 4 = .ok (.ifCond .eq 19, 3) := by decide +kernel
theorem dX5_child_7 : decode cX5_child 7 = .ok (.iload_n 2, 1) := by decide +kernel
theorem dX5_child_8 : decode cX5_child 8 = .ok (.invokestatic 54, 3) := by decide +kernel
theorem dX5_child_11 : decode cX5_child 11 = .ok (.ifCond .eq 12, 3) := by decide +kernel
theorem dX5_child_14 : decode cX5_child 14 = .ok (.iload_n 3, 1) := by decide +kernel
theorem dX5_child_15 : decode cX5_child 15 = .ok (.bipush 99, 2) := by decide +kernel
theorem dX5_child_17 : decode cX5_child 17 = .ok (.invokestatic 58, 3) := by decide +kernel
theorem dX5_child_20 : decode cX5_child 20 = .ok (.ifCond .ne 9, 3) := by decide +kernel
theorem dX5_child_23 : decode cX5_child 23 = .ok (.aload_n 0, 1) := by decide +kernel
theorem dX5_child_24 : decode cX5_child 24 = .ok (.iconst 0, 1) := by decide +kernel
theorem dX5_child_25 : decode cX5_child 25 = .ok (.invokevirtual 62, 3) := by decide +kernel
theorem dX5_child_28 : decode cX5_child 28 = .ok (.ireturn, 1) := by decide +kernel
theorem dX5_child_29 : decode cX5_child 29 = .ok (.aload_n 0, 1) := by decide +kernel
theorem dX5_child_30 : decode cX5_child 30 = .ok (.getfield 10, 3) := by decide +kernel
theorem dX5_child_33 : decode cX5_child 33 = .ok (.getfield 81, 3) := by decide +kernel
theorem dX5_child_36 : decode cX5_child 36 = .ok (.bipush 14, 2) := by decide +kernel
theorem dX5_child_38 : decode cX5_child 38 = .ok (.if_icmp .lt 9, 3) := by decide +kernel
theorem dX5_child_41 : decode cX5_child 41 = .ok (.aload_n 0, 1) := by decide +kernel
theorem dX5_child_42 : decode cX5_child 42 = .ok (.iconst 1, 1) := by decide +kernel
theorem dX5_child_43 : decode cX5_child 43 = .ok (.invokevirtual 62, 3) := by decide +kernel
theorem dX5_child_46 : decode cX5_child 46 = .ok (.ireturn, 1) := by decide +kernel
theorem dX5_child_47 : decode cX5_child 47 = .ok (.aload_n 0, 1) := by decide +kernel
theorem dX5_child_48 : decode cX5_child 48 = .ok (.getfield 10, 3) := by decide +kernel
theorem dX5_child_51 : decode cX5_child 51 = .ok (.iload_n 1, 1) := by decide +kernel
theorem dX5_child_52 : decode cX5_child 52 = .ok (.iload_n 2, 1) := by decide +kernel
theorem dX5_child_53 : decode cX5_child 53 = .ok (.iload_n 2, 1) := by decide +kernel
theorem dX5_child_54 : decode cX5_child 54 = .ok (.iload_n 3, 1) := by decide +kernel
theorem dX5_child_55 : decode cX5_child 55 = .ok (.invokevirtual 85, 3) := by decide +kernel
theorem dX5_child_58 : decode cX5_child 58 = .ok (.ireturn, 1) := by decide +kernel
theorem dX5_of_0 : decode cX5_of 0 = .ok (.aload_n 0, 1) := by decide +kernel
theorem dX5_of_1 : decode cX5_of 1 = .ok (.iload_n 1, 1) := by decide +kernel
theorem dX5_of_2 : decode cX5_of 2 = .ok (.invokevirtual 89, 3) := by decide +kernel
theorem dX5_of_5 : decode cX5_of 5 = .ok (.ifCond .ne 9, 3) := by decide +kernel
theorem dX5_of_8 : decode cX5_of 8 = .ok (.aload_n 0, 1) := by decide +kernel
theorem dX5_of_9 : decode cX5_of 9 = .ok (.iconst 0, 1) := by decide +kernel
theorem dX5_of_10 : decode cX5_of 10 = .ok (.invokevirtual 62, 3) := by decide +kernel
theorem dX5_of_13 : decode cX5_of 13 = .ok (.ireturn, 1) := by decide +kernel
theorem dX5_of_14 : decode cX5_of 14 = .ok (.iload_n 2, 1) := by decide +kernel
theorem dX5_of_15 : decode cX5_of 15 = .ok (.tableswitch 103 0 5 #[37, 47, 57, 67, 77, 94], 37) := by decide +kernel
theorem dX5_of_52 : decode cX5_of 52 = .ok (.aload_n 0, 1) := by decide +kernel
theorem dX5_of_53 : decode cX5_of 53 = .ok (.getfield 10, 3) := by decide +kernel
theorem dX5_of_56 : decode cX5_of 56 = .ok (.getfield 92, 3) := by decide +kernel
theorem dX5_of_59 : decode cX5_of 59 = .ok (.iload_n 1, 1) := by decide +kernel
theorem dX5_of_60 : decode cX5_of 60 = .ok (.iaload, 1) := by decide +kernel
theorem dX5_of_61 : decode cX5_of 61 = .ok (.ireturn, 1) := by decide +kernel
theorem dX5_of_62 : decode cX5_of 62 = .ok (.aload_n 0, 1) := by decide +kernel
theorem dX5_of_63 : decode cX5_of 63 = .ok (.getfield 10, 3) := by decide +kernel
theorem dX5_of_66 : decode cX5_of 66 = .ok (.getfield 95, 3) := by decide +kernel
theorem dX5_of_69 : decode cX5_of 69 = .ok (.iload_n 1, 1) := by decide +kernel
theorem dX5_of_70 : decode cX5_of 70 = .ok (.iaload, 1) := by decide +kernel
theorem dX5_of_71 : decode cX5_of 71 = .ok (.ireturn, 1) := by decide +kernel
theorem dX5_of_72 : decode cX5_of 72 = .ok (.aload_n 0, 1) := by decide +kernel
theorem dX5_of_73 : decode cX5_of 73 = .ok (.getfield 10, 3) := by decide +kernel
theorem dX5_of_76 : decode cX5_of 76 = .ok (.getfield 98, 3) := by decide +kernel
theorem dX5_of_79 : decode cX5_of 79 = .ok (.iload_n 1, 1) := by decide +kernel
theorem dX5_of_80 : decode cX5_of 80 = .ok (.iaload, 1) := by decide +kernel
theorem dX5_of_81 : decode cX5_of 81 = .ok (.ireturn, 1) := by decide +kernel
theorem dX5_of_82 : decode cX5_of 82 = .ok (.aload_n 0, 1) := by decide +kernel
theorem dX5_of_83 : decode cX5_of 83 = .ok (.getfield 10, 3) := by decide +kernel
theorem dX5_of_86 : decode cX5_of 86 = .ok (.getfield 101, 3) := by decide +kernel
theorem dX5_of_89 : decode cX5_of 89 = .ok (.iload_n 1, 1) := by decide +kernel
theorem dX5_of_90 : decode cX5_of 90 = .ok (.iaload, 1) := by decide +kernel
theorem dX5_of_91 : decode cX5_of 91 = .ok (.ireturn, 1) := by decide +kernel
theorem dX5_of_92 : decode cX5_of 92 = .ok (.aload_n 0, 1) := by decide +kernel
theorem dX5_of_93 : decode cX5_of 93 = .ok (.getfield 10, 3) := by decide +kernel
theorem dX5_of_96 : decode cX5_of 96 = .ok (.iload_n 1, 1) := by decide +kernel
theorem dX5_of_97 : decode cX5_of 97 = .ok (.invokevirtual 104, 3) := by decide +kernel
theorem dX5_of_100 : decode cX5_of 100 = .ok (.ifCond .eq 7, 3) := by decide +kernel
theorem dX5_of_103 : decode cX5_of 103 = .ok (.iconst 1, 1) := by decide +kernel
theorem dX5_of_104 : decode cX5_of 104 = .ok (.goto 4, 3) := by decide +kernel
theorem dX5_of_107 : decode cX5_of 107 = .ok (.iconst 0, 1) := by decide +kernel
theorem dX5_of_108 : decode cX5_of 108 = .ok (.ireturn, 1) := by decide +kernel
theorem dX5_of_109 : decode cX5_of 109 = .ok (.aload_n 0, 1) := by decide +kernel
theorem dX5_of_110 : decode cX5_of 110 = .ok (.getfield 10, 3) := by decide +kernel
theorem dX5_of_113 : decode cX5_of 113 = .ok (.iload_n 1, 1) := by decide +kernel
theorem dX5_of_114 : decode cX5_of 114 = .ok (.invokevirtual 107, 3) := by decide +kernel
theorem dX5_of_117 : decode cX5_of 117 = .ok (.ireturn, 1) := by decide +kernel
theorem dX5_of_118 : decode cX5_of 118 = .ok (.aload_n 0, 1) := by decide +kernel
theorem dX5_of_119 : decode cX5_of 119 = .ok (.iconst 0, 1) := by decide +kernel
theorem dX5_of_120 : decode cX5_of 120 = .ok (.invokevirtual 62, 3) := by decide +kernel
theorem dX5_of_123 : decode cX5_of 123 = .ok (.ireturn, 1) := by decide +kernel
theorem dX5_move_0 : decode cX5_move 0 = .ok (.aload_n 0, 1) := by decide +kernel
theorem dX5_move_1 : decode cX5_move 1 = .ok (.iload_n 1, 1) := by decide +kernel
theorem dX5_move_2 : decode cX5_move 2 = .ok (.invokevirtual 89, 3) := by decide +kernel
theorem dX5_move_5 : decode cX5_move 5 = .ok (.ifCond .eq 10, 3) := by decide +kernel
theorem dX5_move_8 : decode cX5_move 8 = .ok (.iload_n 2, 1) := by decide +kernel
theorem dX5_move_9 : decode cX5_move 9 = .ok (.invokestatic 54, 3) := by decide +kernel
theorem dX5_move_12 : decode cX5_move 12 = .ok (.ifCond .ne 9, 3) := by decide +kernel
theorem dX5_move_15 : decode cX5_move 15 = .ok (.aload_n 0, 1) := by decide +kernel
theorem dX5_move_16 : decode cX5_move 16 = .ok (.iconst 0, 1) := by decide +kernel
theorem dX5_move_17 : decode cX5_move 17 = .ok (.invokevirtual 62, 3) := by decide +kernel
theorem dX5_move_20 : decode cX5_move 20 = .ok (.ireturn, 1) := by decide +kernel
theorem dX5_move_21 : decode cX5_move 21 = .ok (.aload_n 0, 1) := by decide +kernel
theorem dX5_move_22 : decode cX5_move 22 = .ok (.getfield 10, 3) := by decide +kernel
theorem dX5_move_25 : decode cX5_move 25 = .ok (.iload_n 1, 1) := by decide +kernel
theorem dX5_move_26 : decode cX5_move 26 = .ok (.invokevirtual 104, 3) := by decide +kernel
theorem dX5_move_29 : decode cX5_move 29 = .ok (.ifCond .eq 9, 3) := by decide +kernel
theorem dX5_move_32 : decode cX5_move 32 = .ok (.aload_n 0, 1) := by decide +kernel
theorem dX5_move_33 : decode cX5_move 33 = .ok (.iconst 4, 1) := by decide +kernel
theorem dX5_move_34 : decode cX5_move 34 = .ok (.invokevirtual 62, 3) := by decide +kernel
theorem dX5_move_37 : decode cX5_move 37 = .ok (.ireturn, 1) := by decide +kernel
theorem dX5_move_38 : decode cX5_move 38 = .ok (.aload_n 0, 1) := by decide +kernel
theorem dX5_move_39 : decode cX5_move 39 = .ok (.getfield 10, 3) := by decide +kernel
theorem dX5_move_42 : decode cX5_move 42 = .ok (.getfield 98, 3) := by decide +kernel
theorem dX5_move_45 : decode cX5_move 45 = .ok (.iload_n 1, 1) := by decide +kernel
theorem dX5_move_46 : decode cX5_move 46 = .ok (.iaload, 1) := by decide +kernel
theorem dX5_move_47 : decode cX5_move 47 = .ok (.istore_n 3, 1) := by decide +kernel
theorem dX5_move_48 : decode cX5_move 48 = .ok (.aload_n 0, 1) := by decide +kernel
theorem dX5_move_49 : decode cX5_move 49 = .ok (.getfield 10, 3) := by decide +kernel
theorem dX5_move_52 : decode cX5_move 52 = .ok (.getfield 98, 3) := by decide +kernel
theorem dX5_move_55 : decode cX5_move 55 = .ok (.iload_n 1, 1) := by decide +kernel
theorem dX5_move_56 : decode cX5_move 56 = .ok (.iload_n 2, 1) := by decide +kernel
theorem dX5_move_57 : decode cX5_move 57 = .ok (.iastore, 1) := by decide +kernel
theorem dX5_move_58 : decode cX5_move 58 = .ok (.iload_n 3, 1) := by decide +kernel
theorem dX5_move_59 : decode cX5_move 59 = .ok (.ireturn, 1) := by decide +kernel
theorem dX5_worth_0 : decode cX5_worth 0 = .ok (.aload_n 0, 1) := by decide +kernel
theorem dX5_worth_1 : decode cX5_worth 1 = .ok (.iload_n 1, 1) := by decide +kernel
theorem dX5_worth_2 : decode cX5_worth 2 = .ok (.invokevirtual 89, 3) := by decide +kernel
theorem dX5_worth_5 : decode cX5_worth 5 = .ok (.ifCond .eq 12, 3) := by decide +kernel
theorem dX5_worth_8 : decode cX5_worth 8 = .ok (.iload_n 2, 1) := by decide +kernel
theorem dX5_worth_9 : decode cX5_worth 9 = .ok (.bipush 99, 2) := by decide +kernel
theorem dX5_worth_11 : decode cX5_worth 11 = .ok (.invokestatic 58, 3) := by decide +kernel
theorem dX5_worth_14 : decode cX5_worth 14 = .ok (.ifCond .ne 9, 3) := by decide +kernel
theorem dX5_worth_17 : decode cX5_worth 17 = .ok (.aload_n 0, 1) := by decide +kernel
theorem dX5_worth_18 : decode cX5_worth 18 = .ok (.iconst 0, 1) := by decide +kernel
theorem dX5_worth_19 : decode cX5_worth 19 = .ok (.invokevirtual 62, 3) := by decide +kernel
theorem dX5_worth_22 : decode cX5_worth 22 = .ok (.ireturn, 1) := by decide +kernel
theorem dX5_worth_23 : decode cX5_worth 23 = .ok (.aload_n 0, 1) := by decide +kernel
theorem dX5_worth_24 : decode cX5_worth 24 = .ok (.getfield 10, 3) := by decide +kernel
theorem dX5_worth_27 : decode cX5_worth 27 = .ok (.getfield 101, 3) := by decide +kernel
theorem dX5_worth_30 : decode cX5_worth 30 = .ok (.iload_n 1, 1) := by decide +kernel
theorem dX5_worth_31 : decode cX5_worth 31 = .ok (.iaload, 1) := by decide +kernel
theorem dX5_worth_32 : decode cX5_worth 32 = .ok (.istore_n 3, 1) := by decide +kernel
theorem dX5_worth_33 : decode cX5_worth 33 = .ok (.aload_n 0, 1) := by decide +kernel
theorem dX5_worth_34 : decode cX5_worth 34 = .ok (.getfield 10, 3) := by decide +kernel
theorem dX5_worth_37 : decode cX5_worth 37 = .ok (.getfield 101, 3) := by decide +kernel
theorem dX5_worth_40 : decode cX5_worth 40 = .ok (.iload_n 1, 1) := by decide +kernel
theorem dX5_worth_41 : decode cX5_worth 41 = .ok (.iload_n 2, 1) := by decide +kernel
theorem dX5_worth_42 : decode cX5_worth 42 = .ok (.iastore, 1) := by decide +kernel
theorem dX5_worth_43 : decode cX5_worth 43 = .ok (.iload_n 3, 1) := by decide +kernel
theorem dX5_worth_44 : decode cX5_worth 44 = .ok (.ireturn, 1) := by decide +kernel
theorem dX5_turn_0 : decode cX5_turn 0 = .ok (.aload_n 0, 1) := by decide +kernel
theorem dX5_turn_1 : decode cX5_turn 1 = .ok (.iload_n 1, 1) := by decide +kernel
theorem dX5_turn_2 : decode cX5_turn 2 = .ok (.invokevirtual 89, 3) := by decide +kernel
theorem dX5_turn_5 : decode cX5_turn 5 = .ok (.ifCond .eq 10, 3) := by decide +kernel
theorem dX5_turn_8 : decode cX5_turn 8 = .ok (.iload_n 2, 1) := by decide +kernel
theorem dX5_turn_9 : decode cX5_turn 9 = .ok (.invokestatic 78, 3) := by decide +kernel
theorem dX5_turn_12 : decode cX5_turn 12 = .ok (.ifCond .ne 9, 3) := by decide +kernel
theorem dX5_turn_15 : decode cX5_turn 15 = .ok (.aload_n 0, 1) := by decide +kernel
theorem dX5_turn_16 : decode cX5_turn 16 = .ok (.iconst 0, 1) := by decide +kernel
theorem dX5_turn_17 : decode cX5_turn 17 = .ok (.invokevirtual 62, 3) := by decide +kernel
theorem dX5_turn_20 : decode cX5_turn 20 = .ok (.ireturn, 1) := by decide +kernel
theorem dX5_turn_21 : decode cX5_turn 21 = .ok (.aload_n 0, 1) := by decide +kernel
theorem dX5_turn_22 : decode cX5_turn 22 = .ok (.getfield 10, 3) := by decide +kernel
theorem dX5_turn_25 : decode cX5_turn 25 = .ok (.getfield 92, 3) := by decide +kernel
theorem dX5_turn_28 : decode cX5_turn 28 = .ok (.iload_n 1, 1) := by decide +kernel
theorem dX5_turn_29 : decode cX5_turn 29 = .ok (.iaload, 1) := by decide +kernel
theorem dX5_turn_30 : decode cX5_turn 30 = .ok (.istore_n 3, 1) := by decide +kernel
theorem dX5_turn_31 : decode cX5_turn 31 = .ok (.aload_n 0, 1) := by decide +kernel
theorem dX5_turn_32 : decode cX5_turn 32 = .ok (.getfield 10, 3) := by decide +kernel
theorem dX5_turn_35 : decode cX5_turn 35 = .ok (.getfield 92, 3) := by decide +kernel
theorem dX5_turn_38 : decode cX5_turn 38 = .ok (.iload_n 1, 1) := by decide +kernel
theorem dX5_turn_39 : decode cX5_turn 39 = .ok (.iload_n 2, 1) := by decide +kernel
theorem dX5_turn_40 : decode cX5_turn 40 = .ok (.iastore, 1) := by decide +kernel
theorem dX5_turn_41 : decode cX5_turn 41 = .ok (.iload_n 3, 1) := by decide +kernel
theorem dX5_turn_42 : decode cX5_turn 42 = .ok (.ireturn, 1) := by decide +kernel
theorem dX5_as_0 : decode cX5_as 0 = .ok (.aload_n 0, 1) := by decide +kernel
theorem dX5_as_1 : decode cX5_as 1 = .ok (.iload_n 1, 1) := by decide +kernel
theorem dX5_as_2 : decode cX5_as 2 = .ok (.invokevirtual 89, 3) := by decide +kernel
theorem dX5_as_5 : decode cX5_as 5 = .ok (.ifCond .eq 10, 3) := by decide +kernel
theorem dX5_as_8 : decode cX5_as 8 = .ok (.iload_n 2, 1) := by decide +kernel
theorem dX5_as_9 : decode cX5_as 9 = .ok (.invokestatic 78, 3) := by decide +kernel
theorem dX5_as_12 : decode cX5_as 12 = .ok (.ifCond .ne 9, 3) := by decide +kernel
theorem dX5_as_15 : decode cX5_as 15 = .ok (.aload_n 0, 1) := by decide +kernel
theorem dX5_as_16 : decode cX5_as 16 = .ok (.iconst 0, 1) := by decide +kernel
theorem dX5_as_17 : decode cX5_as 17 = .ok (.invokevirtual 62, 3) := by decide +kernel
theorem dX5_as_20 : decode cX5_as 20 = .ok (.ireturn, 1) := by decide +kernel
theorem dX5_as_21 : decode cX5_as 21 = .ok (.aload_n 0, 1) := by decide +kernel
theorem dX5_as_22 : decode cX5_as 22 = .ok (.getfield 10, 3) := by decide +kernel
theorem dX5_as_25 : decode cX5_as 25 = .ok (.getfield 92, 3) := by decide +kernel
theorem dX5_as_28 : decode cX5_as 28 = .ok (.iload_n 1, 1) := by decide +kernel
theorem dX5_as_29 : decode cX5_as 29 = .ok (.iaload, 1) := by decide +kernel
theorem dX5_as_30 : decode cX5_as 30 = .ok (.iload_n 2, 1) := by decide +kernel
theorem dX5_as_31 : decode cX5_as 31 = .ok (.invokestatic 110, 3) := by decide +kernel
theorem dX5_as_34 : decode cX5_as 34 = .ok (.ifCond .ne 9, 3) := by decide +kernel
theorem dX5_as_37 : decode cX5_as 37 = .ok (.aload_n 0, 1) := by decide +kernel
theorem dX5_as_38 : decode cX5_as 38 = .ok (.iconst 2, 1) := by decide +kernel
theorem dX5_as_39 : decode cX5_as 39 = .ok (.invokevirtual 62, 3) := by decide +kernel
theorem dX5_as_42 : decode cX5_as 42 = .ok (.ireturn, 1) := by decide +kernel
theorem dX5_as_43 : decode cX5_as 43 = .ok (.aload_n 0, 1) := by decide +kernel
theorem dX5_as_44 : decode cX5_as 44 = .ok (.getfield 10, 3) := by decide +kernel
theorem dX5_as_47 : decode cX5_as 47 = .ok (.getfield 98, 3) := by decide +kernel
theorem dX5_as_50 : decode cX5_as 50 = .ok (.iload_n 1, 1) := by decide +kernel
theorem dX5_as_51 : decode cX5_as 51 = .ok (.iaload, 1) := by decide +kernel
theorem dX5_as_52 : decode cX5_as 52 = .ok (.ireturn, 1) := by decide +kernel
theorem dX5_dies_0 : decode cX5_dies 0 = .ok (.aload_n 0, 1) := by decide +kernel
theorem dX5_dies_1 : decode cX5_dies 1 = .ok (.iload_n 1, 1) := by decide +kernel
theorem dX5_dies_2 : decode cX5_dies 2 = .ok (.invokevirtual 89, 3) := by decide +kernel
theorem dX5_dies_5 : decode cX5_dies 5 = .ok (.ifCond .ne 9, 3) := by decide +kernel
theorem dX5_dies_8 : decode cX5_dies 8 = .ok (.aload_n 0, 1) := by decide +kernel
theorem dX5_dies_9 : decode cX5_dies 9 = .ok (.iconst 0, 1) := by decide +kernel
theorem dX5_dies_10 : decode cX5_dies 10 = .ok (.invokevirtual 62, 3) := by decide +kernel
theorem dX5_dies_13 : decode cX5_dies 13 = .ok (.ireturn, 1) := by decide +kernel
theorem dX5_dies_14 : decode cX5_dies 14 = .ok (.aload_n 0, 1) := by decide +kernel
theorem dX5_dies_15 : decode cX5_dies 15 = .ok (.getfield 10, 3) := by decide +kernel
theorem dX5_dies_18 : decode cX5_dies 18 = .ok (.iload_n 1, 1) := by decide +kernel
theorem dX5_dies_19 : decode cX5_dies 19 = .ok (.invokevirtual 104, 3) := by decide +kernel
theorem dX5_dies_22 : decode cX5_dies 22 = .ok (.ifCond .eq 9, 3) := by decide +kernel
theorem dX5_dies_25 : decode cX5_dies 25 = .ok (.aload_n 0, 1) := by decide +kernel
theorem dX5_dies_26 : decode cX5_dies 26 = .ok (.iconst 4, 1) := by decide +kernel
theorem dX5_dies_27 : decode cX5_dies 27 = .ok (.invokevirtual 62, 3) := by decide +kernel
theorem dX5_dies_30 : decode cX5_dies 30 = .ok (.ireturn, 1) := by decide +kernel
theorem dX5_dies_31 : decode cX5_dies 31 = .ok (.aload_n 0, 1) := by decide +kernel
theorem dX5_dies_32 : decode cX5_dies 32 = .ok (.getfield 10, 3) := by decide +kernel
theorem dX5_dies_35 : decode cX5_dies 35 = .ok (.invokevirtual 113, 3) := by decide +kernel
theorem dX5_dies_38 : decode cX5_dies 38 = .ok (.istore_n 2, 1) := by decide +kernel
theorem dX5_dies_39 : decode cX5_dies 39 = .ok (.aload_n 0, 1) := by decide +kernel
theorem dX5_dies_40 : decode cX5_dies 40 = .ok (.getfield 10, 3) := by decide +kernel
theorem dX5_dies_43 : decode cX5_dies 43 = .ok (.dup, 1) := by decide +kernel
theorem dX5_dies_44 : decode cX5_dies 44 = .ok (.getfield 117, 3) := by decide +kernel
theorem dX5_dies_47 : decode cX5_dies 47 = .ok (.iconst 1, 1) := by decide +kernel
theorem dX5_dies_48 : decode cX5_dies 48 = .ok (.iload_n 1, 1) := by decide +kernel
theorem dX5_dies_49 : decode cX5_dies 49 = .ok (.ishl, 1) := by decide +kernel
theorem dX5_dies_50 : decode cX5_dies 50 = .ok (.ior, 1) := by decide +kernel
theorem dX5_dies_51 : decode cX5_dies 51 = .ok (.putfield 117, 3) := by decide +kernel
theorem dX5_dies_54 : decode cX5_dies 54 = .ok (.aload_n 0, 1) := by decide +kernel
theorem dX5_dies_55 : decode cX5_dies 55 = .ok (.getfield 10, 3) := by decide +kernel
theorem dX5_dies_58 : decode cX5_dies 58 = .ok (.invokevirtual 113, 3) := by decide +kernel
theorem dX5_dies_61 : decode cX5_dies 61 = .ok (.iload_n 2, 1) := by decide +kernel
theorem dX5_dies_62 : decode cX5_dies 62 = .ok (.iconst (-1), 1) := by decide +kernel
theorem dX5_dies_63 : decode cX5_dies 63 = .ok (.ixor, 1) := by decide +kernel
theorem dX5_dies_64 : decode cX5_dies 64 = .ok (.iand, 1) := by decide +kernel
theorem dX5_dies_65 : decode cX5_dies 65 = .ok (.invokestatic 120, 3) := by decide +kernel
theorem dX5_dies_68 : decode cX5_dies 68 = .ok (.ireturn, 1) := by decide +kernel
theorem dX5_swap_0 : decode cX5_swap 0 = .ok (.aload_n 0, 1) := by decide +kernel
theorem dX5_swap_1 : decode cX5_swap 1 = .ok (.iload_n 1, 1) := by decide +kernel
theorem dX5_swap_2 : decode cX5_swap 2 = .ok (.invokevirtual 89, 3) := by decide +kernel
theorem dX5_swap_5 : decode cX5_swap 5 = .ok (.ifCond .eq 16, 3) := by decide +kernel
theorem dX5_swap_8 : decode cX5_swap 8 = .ok (.aload_n 0, 1) := by decide +kernel
theorem dX5_swap_9 : decode cX5_swap 9 = .ok (.iload_n 2, 1) := by decide +kernel
theorem dX5_swap_10 : decode cX5_swap 10 = .ok (.invokevirtual 89, 3) := by decide +kernel
theorem dX5_swap_13 : decode cX5_swap 13 = .ok (.ifCond .eq 8, 3) := by decide +kernel
theorem dX5_swap_16 : decode cX5_swap 16 = .ok (.iload_n 1, 1) := by decide +kernel
theorem dX5_swap_17 : decode cX5_swap 17 = .ok (.iload_n 2, 1) := by decide +kernel
theorem dX5_swap_18 : decode cX5_swap 18 = .ok (.if_icmp .ne 9, 3) := by decide +kernel
theorem dX5_swap_21 : decode cX5_swap 21 = .ok (.aload_n 0, 1) := by decide +kernel
theorem dX5_swap_22 : decode cX5_swap 22 = .ok (.iconst 0, 1) := by decide +kernel
theorem dX5_swap_23 : decode cX5_swap 23 = .ok (.invokevirtual 62, 3) := by decide +kernel
theorem dX5_swap_26 : decode cX5_swap 26 = .ok (.ireturn, 1) := by decide +kernel
theorem dX5_swap_27 : decode cX5_swap 27 = .ok (.aload_n 0, 1) := by decide +kernel
theorem dX5_swap_28 : decode cX5_swap 28 = .ok (.getfield 10, 3) := by decide +kernel
theorem dX5_swap_31 : decode cX5_swap 31 = .ok (.iload_n 1, 1) := by decide +kernel
theorem dX5_swap_32 : decode cX5_swap 32 = .ok (.invokevirtual 104, 3) := by decide +kernel
theorem dX5_swap_35 : decode cX5_swap 35 = .ok (.ifCond .ne 14, 3) := by decide +kernel
theorem dX5_swap_38 : decode cX5_swap 38 = .ok (.aload_n 0, 1) := by decide +kernel
theorem dX5_swap_39 : decode cX5_swap 39 = .ok (.getfield 10, 3) := by decide +kernel
theorem dX5_swap_42 : decode cX5_swap 42 = .ok (.iload_n 2, 1) := by decide +kernel
theorem dX5_swap_43 : decode cX5_swap 43 = .ok (.invokevirtual 104, 3) := by decide +kernel
theorem dX5_swap_46 : decode cX5_swap 46 = .ok (.ifCond .eq 9, 3) := by decide +kernel
theorem dX5_swap_49 : decode cX5_swap 49 = .ok (.aload_n 0, 1) := by decide +kernel
theorem dX5_swap_50 : decode cX5_swap 50 = .ok (.iconst 4, 1) := by decide +kernel
theorem dX5_swap_51 : decode cX5_swap 51 = .ok (.invokevirtual 62, 3) := by decide +kernel
theorem dX5_swap_54 : decode cX5_swap 54 = .ok (.ireturn, 1) := by decide +kernel
theorem dX5_swap_55 : decode cX5_swap 55 = .ok (.aload_n 0, 1) := by decide +kernel
theorem dX5_swap_56 : decode cX5_swap 56 = .ok (.getfield 10, 3) := by decide +kernel
theorem dX5_swap_59 : decode cX5_swap 59 = .ok (.getfield 98, 3) := by decide +kernel
theorem dX5_swap_62 : decode cX5_swap 62 = .ok (.iload_n 1, 1) := by decide +kernel
theorem dX5_swap_63 : decode cX5_swap 63 = .ok (.iaload, 1) := by decide +kernel
theorem dX5_swap_64 : decode cX5_swap 64 = .ok (.istore_n 3, 1) := by decide +kernel
theorem dX5_swap_65 : decode cX5_swap 65 = .ok (.aload_n 0, 1) := by decide +kernel
theorem dX5_swap_66 : decode cX5_swap 66 = .ok (.getfield 10, 3) := by decide +kernel
theorem dX5_swap_69 : decode cX5_swap 69 = .ok (.getfield 98, 3) := by decide +kernel
theorem dX5_swap_72 : decode cX5_swap 72 = .ok (.iload_n 1, 1) := by decide +kernel
theorem dX5_swap_73 : decode cX5_swap 73 = .ok (.aload_n 0, 1) := by decide +kernel
theorem dX5_swap_74 : decode cX5_swap 74 = .ok (.getfield 10, 3) := by decide +kernel
theorem dX5_swap_77 : decode cX5_swap 77 = .ok (.getfield 98, 3) := by decide +kernel
theorem dX5_swap_80 : decode cX5_swap 80 = .ok (.iload_n 2, 1) := by decide +kernel
theorem dX5_swap_81 : decode cX5_swap 81 = .ok (.iaload, 1) := by decide +kernel
theorem dX5_swap_82 : decode cX5_swap 82 = .ok (.iastore, 1) := by decide +kernel
theorem dX5_swap_83 : decode cX5_swap 83 = .ok (.aload_n 0, 1) := by decide +kernel
theorem dX5_swap_84 : decode cX5_swap 84 = .ok (.getfield 10, 3) := by decide +kernel
theorem dX5_swap_87 : decode cX5_swap 87 = .ok (.getfield 98, 3) := by decide +kernel
theorem dX5_swap_90 : decode cX5_swap 90 = .ok (.iload_n 2, 1) := by decide +kernel
theorem dX5_swap_91 : decode cX5_swap 91 = .ok (.iload_n 3, 1) := by decide +kernel
theorem dX5_swap_92 : decode cX5_swap 92 = .ok (.iastore, 1) := by decide +kernel
theorem dX5_swap_93 : decode cX5_swap 93 = .ok (.iconst 1, 1) := by decide +kernel
theorem dX5_swap_94 : decode cX5_swap 94 = .ok (.ireturn, 1) := by decide +kernel
theorem dX5_treaty_0 : decode cX5_treaty 0 = .ok (.iload_n 1, 1) := by decide +kernel
theorem dX5_treaty_1 : decode cX5_treaty 1 = .ok (.iload_n 2, 1) := by decide +kernel
theorem dX5_treaty_2 : decode cX5_treaty 2 = .ok (.invokestatic 125, 3) := by decide +kernel
theorem dX5_treaty_5 : decode cX5_treaty 5 = .ok (.ifCond .eq 24, 3) := by decide +kernel
theorem dX5_treaty_8 : decode cX5_treaty 8 = .ok (.iload_n 3, 1) := by decide +kernel
theorem dX5_treaty_9 : decode cX5_treaty 9 = .ok (.sipush 999, 3) := by decide +kernel
theorem dX5_treaty_12 : decode cX5_treaty 12 = .ok (.invokestatic 58, 3) := by decide +kernel
theorem dX5_treaty_15 : decode cX5_treaty 15 = .ok (.ifCond .eq 14, 3) := by decide +kernel
theorem dX5_treaty_18 : decode cX5_treaty 18 = .ok (.iload 4, 2) := by decide +kernel
theorem dX5_treaty_20 : decode cX5_treaty 20 = .ok (.sipush 999, 3) := by decide +kernel
theorem dX5_treaty_23 : decode cX5_treaty 23 = .ok (.invokestatic 58, 3) := by decide +kernel
theorem dX5_treaty_26 : decode cX5_treaty 26 = .ok (.ifCond .ne 9, 3) := by decide +kernel
theorem dX5_treaty_29 : decode cX5_treaty 29 = .ok (.aload_n 0, 1) := by decide +kernel
theorem dX5_treaty_30 : decode cX5_treaty 30 = .ok (.iconst 0, 1) := by decide +kernel
theorem dX5_treaty_31 : decode cX5_treaty 31 = .ok (.invokevirtual 62, 3) := by decide +kernel
theorem dX5_treaty_34 : decode cX5_treaty 34 = .ok (.ireturn, 1) := by decide +kernel
theorem dX5_treaty_35 : decode cX5_treaty 35 = .ok (.aload_n 0, 1) := by decide +kernel
theorem dX5_treaty_36 : decode cX5_treaty 36 = .ok (.getfield 10, 3) := by decide +kernel
theorem dX5_treaty_39 : decode cX5_treaty 39 = .ok (.getfield 128, 3) := by decide +kernel
theorem dX5_treaty_42 : decode cX5_treaty 42 = .ok (.bipush 12, 2) := by decide +kernel
theorem dX5_treaty_44 : decode cX5_treaty 44 = .ok (.if_icmp .lt 9, 3) := by decide +kernel
theorem dX5_treaty_47 : decode cX5_treaty 47 = .ok (.aload_n 0, 1) := by decide +kernel
theorem dX5_treaty_48 : decode cX5_treaty 48 = .ok (.iconst 1, 1) := by decide +kernel
theorem dX5_treaty_49 : decode cX5_treaty 49 = .ok (.invokevirtual 62, 3) := by decide +kernel
theorem dX5_treaty_52 : decode cX5_treaty 52 = .ok (.ireturn, 1) := by decide +kernel
theorem dX5_treaty_53 : decode cX5_treaty 53 = .ok (.aload_n 0, 1) := by decide +kernel
theorem dX5_treaty_54 : decode cX5_treaty 54 = .ok (.getfield 10, 3) := by decide +kernel
theorem dX5_treaty_57 : decode cX5_treaty 57 = .ok (.iload_n 1, 1) := by decide +kernel
theorem dX5_treaty_58 : decode cX5_treaty 58 = .ok (.iload_n 2, 1) := by decide +kernel
theorem dX5_treaty_59 : decode cX5_treaty 59 = .ok (.iload_n 3, 1) := by decide +kernel
theorem dX5_treaty_60 : decode cX5_treaty 60 = .ok (.iload 4, 2) := by decide +kernel
theorem dX5_treaty_62 : decode cX5_treaty 62 = .ok (.invokevirtual 131, 3) := by decide +kernel
theorem dX5_treaty_65 : decode cX5_treaty 65 = .ok (.ireturn, 1) := by decide +kernel
theorem dX5_treatyOf_0 : decode cX5_treatyOf 0 = .ok (.aload_n 0, 1) := by decide +kernel
theorem dX5_treatyOf_1 : decode cX5_treatyOf 1 = .ok (.iload_n 1, 1) := by decide +kernel
theorem dX5_treatyOf_2 : decode cX5_treatyOf 2 = .ok (.invokevirtual 134, 3) := by decide +kernel
theorem dX5_treatyOf_5 : decode cX5_treatyOf 5 = .ok (.ifCond .ne 9, 3) := by decide +kernel
theorem dX5_treatyOf_8 : decode cX5_treatyOf 8 = .ok (.aload_n 0, 1) := by decide +kernel
theorem dX5_treatyOf_9 : decode cX5_treatyOf 9 = .ok (.iconst 0, 1) := by decide +kernel
theorem dX5_treatyOf_10 : decode cX5_treatyOf 10 = .ok (.invokevirtual 62, 3) := by decide +kernel
theorem dX5_treatyOf_13 : decode cX5_treatyOf 13 = .ok (.ireturn, 1) := by decide +kernel
theorem dX5_treatyOf_14 : decode cX5_treatyOf 14 = .ok (.iload_n 2, 1) := by decide +kernel
theorem dX5_treatyOf_15 : decode cX5_treatyOf 15 = .ok (.tableswitch 143 0 6 #[41, 51, 61, 71, 81, 98, 115], 41) := by decide +kernel
theorem dX5_treatyOf_56 : decode cX5_treatyOf 56 = .ok (.aload_n 0, 1) := by decide +kernel
theorem dX5_treatyOf_57 : decode cX5_treatyOf 57 = .ok (.getfield 10, 3) := by decide +kernel
theorem dX5_treatyOf_60 : decode cX5_treatyOf 60 = .ok (.getfield 137, 3) := by decide +kernel
theorem dX5_treatyOf_63 : decode cX5_treatyOf 63 = .ok (.iload_n 1, 1) := by decide +kernel
theorem dX5_treatyOf_64 : decode cX5_treatyOf 64 = .ok (.iaload, 1) := by decide +kernel
theorem dX5_treatyOf_65 : decode cX5_treatyOf 65 = .ok (.ireturn, 1) := by decide +kernel
theorem dX5_treatyOf_66 : decode cX5_treatyOf 66 = .ok (.aload_n 0, 1) := by decide +kernel
theorem dX5_treatyOf_67 : decode cX5_treatyOf 67 = .ok (.getfield 10, 3) := by decide +kernel
theorem dX5_treatyOf_70 : decode cX5_treatyOf 70 = .ok (.getfield 140, 3) := by decide +kernel
theorem dX5_treatyOf_73 : decode cX5_treatyOf 73 = .ok (.iload_n 1, 1) := by decide +kernel
theorem dX5_treatyOf_74 : decode cX5_treatyOf 74 = .ok (.iaload, 1) := by decide +kernel
theorem dX5_treatyOf_75 : decode cX5_treatyOf 75 = .ok (.ireturn, 1) := by decide +kernel
theorem dX5_treatyOf_76 : decode cX5_treatyOf 76 = .ok (.aload_n 0, 1) := by decide +kernel
theorem dX5_treatyOf_77 : decode cX5_treatyOf 77 = .ok (.getfield 10, 3) := by decide +kernel
theorem dX5_treatyOf_80 : decode cX5_treatyOf 80 = .ok (.getfield 143, 3) := by decide +kernel
theorem dX5_treatyOf_83 : decode cX5_treatyOf 83 = .ok (.iload_n 1, 1) := by decide +kernel
theorem dX5_treatyOf_84 : decode cX5_treatyOf 84 = .ok (.iaload, 1) := by decide +kernel
theorem dX5_treatyOf_85 : decode cX5_treatyOf 85 = .ok (.ireturn, 1) := by decide +kernel
theorem dX5_treatyOf_86 : decode cX5_treatyOf 86 = .ok (.aload_n 0, 1) := by decide +kernel
theorem dX5_treatyOf_87 : decode cX5_treatyOf 87 = .ok (.getfield 10, 3) := by decide +kernel
theorem dX5_treatyOf_90 : decode cX5_treatyOf 90 = .ok (.getfield 146, 3) := by decide +kernel
theorem dX5_treatyOf_93 : decode cX5_treatyOf 93 = .ok (.iload_n 1, 1) := by decide +kernel
theorem dX5_treatyOf_94 : decode cX5_treatyOf 94 = .ok (.iaload, 1) := by decide +kernel
theorem dX5_treatyOf_95 : decode cX5_treatyOf 95 = .ok (.ireturn, 1) := by decide +kernel
theorem dX5_treatyOf_96 : decode cX5_treatyOf 96 = .ok (.aload_n 0, 1) := by decide +kernel
theorem dX5_treatyOf_97 : decode cX5_treatyOf 97 = .ok (.getfield 10, 3) := by decide +kernel
theorem dX5_treatyOf_100 : decode cX5_treatyOf 100 = .ok (.iload_n 1, 1) := by decide +kernel
theorem dX5_treatyOf_101 : decode cX5_treatyOf 101 = .ok (.invokevirtual 149, 3) := by decide +kernel
theorem dX5_treatyOf_104 : decode cX5_treatyOf 104 = .ok (.ifCond .eq 7, 3) := by decide +kernel
theorem dX5_treatyOf_107 : decode cX5_treatyOf 107 = .ok (.iconst 1, 1) := by decide +kernel
theorem dX5_treatyOf_108 : decode cX5_treatyOf 108 = .ok (.goto 4, 3) := by decide +kernel
theorem dX5_treatyOf_111 : decode cX5_treatyOf 111 = .ok (.iconst 0, 1) := by decide +kernel
theorem dX5_treatyOf_112 : decode cX5_treatyOf 112 = .ok (.ireturn, 1) := by decide +kernel
theorem dX5_treatyOf_113 : decode cX5_treatyOf 113 = .ok (.aload_n 0, 1) := by decide +kernel
theorem dX5_treatyOf_114 : decode cX5_treatyOf 114 = .ok (.getfield 10, 3) := by decide +kernel
theorem dX5_treatyOf_117 : decode cX5_treatyOf 117 = .ok (.iload_n 1, 1) := by decide +kernel
theorem dX5_treatyOf_118 : decode cX5_treatyOf 118 = .ok (.invokevirtual 152, 3) := by decide +kernel
theorem dX5_treatyOf_121 : decode cX5_treatyOf 121 = .ok (.ifCond .eq 7, 3) := by decide +kernel
theorem dX5_treatyOf_124 : decode cX5_treatyOf 124 = .ok (.iconst 1, 1) := by decide +kernel
theorem dX5_treatyOf_125 : decode cX5_treatyOf 125 = .ok (.goto 4, 3) := by decide +kernel
theorem dX5_treatyOf_128 : decode cX5_treatyOf 128 = .ok (.iconst 0, 1) := by decide +kernel
theorem dX5_treatyOf_129 : decode cX5_treatyOf 129 = .ok (.ireturn, 1) := by decide +kernel
theorem dX5_treatyOf_130 : decode cX5_treatyOf 130 = .ok (.aload_n 0, 1) := by decide +kernel
theorem dX5_treatyOf_131 : decode cX5_treatyOf 131 = .ok (.getfield 10, 3) := by decide +kernel
theorem dX5_treatyOf_134 : decode cX5_treatyOf 134 = .ok (.iload_n 1, 1) := by decide +kernel
theorem dX5_treatyOf_135 : decode cX5_treatyOf 135 = .ok (.invokevirtual 152, 3) := by decide +kernel
theorem dX5_treatyOf_138 : decode cX5_treatyOf 138 = .ok (.ifCond .eq 18, 3) := by decide +kernel
theorem dX5_treatyOf_141 : decode cX5_treatyOf 141 = .ok (.aload_n 0, 1) := by decide +kernel
theorem dX5_treatyOf_142 : decode cX5_treatyOf 142 = .ok (.getfield 10, 3) := by decide +kernel
theorem dX5_treatyOf_145 : decode cX5_treatyOf 145 = .ok (.iload_n 1, 1) := by decide +kernel
theorem dX5_treatyOf_146 : decode cX5_treatyOf 146 = .ok (.invokevirtual 155, 3) := by decide +kernel
theorem dX5_treatyOf_149 : decode cX5_treatyOf 149 = .ok (.ifCond .ge 7, 3) := by decide +kernel
theorem dX5_treatyOf_152 : decode cX5_treatyOf 152 = .ok (.iconst 1, 1) := by decide +kernel
theorem dX5_treatyOf_153 : decode cX5_treatyOf 153 = .ok (.goto 4, 3) := by decide +kernel
theorem dX5_treatyOf_156 : decode cX5_treatyOf 156 = .ok (.iconst 0, 1) := by decide +kernel
theorem dX5_treatyOf_157 : decode cX5_treatyOf 157 = .ok (.ireturn, 1) := by decide +kernel
theorem dX5_treatyOf_158 : decode cX5_treatyOf 158 = .ok (.aload_n 0, 1) := by decide +kernel
theorem dX5_treatyOf_159 : decode cX5_treatyOf 159 = .ok (.iconst 0, 1) := by decide +kernel
theorem dX5_treatyOf_160 : decode cX5_treatyOf 160 = .ok (.invokevirtual 62, 3) := by decide +kernel
theorem dX5_treatyOf_163 : decode cX5_treatyOf 163 = .ok (.ireturn, 1) := by decide +kernel
theorem dX5_gain_0 : decode cX5_gain 0 = .ok (.aload_n 0, 1) := by decide +kernel
theorem dX5_gain_1 : decode cX5_gain 1 = .ok (.iload_n 1, 1) := by decide +kernel
theorem dX5_gain_2 : decode cX5_gain 2 = .ok (.invokevirtual 134, 3) := by decide +kernel
theorem dX5_gain_5 : decode cX5_gain 5 = .ok (.ifCond .eq 13, 3) := by decide +kernel
theorem dX5_gain_8 : decode cX5_gain 8 = .ok (.iload_n 2, 1) := by decide +kernel
theorem dX5_gain_9 : decode cX5_gain 9 = .ok (.sipush 999, 3) := by decide +kernel
theorem dX5_gain_12 : decode cX5_gain 12 = .ok (.invokestatic 58, 3) := by decide +kernel
theorem dX5_gain_15 : decode cX5_gain 15 = .ok (.ifCond .ne 9, 3) := by decide +kernel
theorem dX5_gain_18 : decode cX5_gain 18 = .ok (.aload_n 0, 1) := by decide +kernel
theorem dX5_gain_19 : decode cX5_gain 19 = .ok (.iconst 0, 1) := by decide +kernel
theorem dX5_gain_20 : decode cX5_gain 20 = .ok (.invokevirtual 62, 3) := by decide +kernel
theorem dX5_gain_23 : decode cX5_gain 23 = .ok (.ireturn, 1) := by decide +kernel
theorem dX5_gain_24 : decode cX5_gain 24 = .ok (.aload_n 0, 1) := by decide +kernel
theorem dX5_gain_25 : decode cX5_gain 25 = .ok (.getfield 10, 3) := by decide +kernel
theorem dX5_gain_28 : decode cX5_gain 28 = .ok (.getfield 143, 3) := by decide +kernel
theorem dX5_gain_31 : decode cX5_gain 31 = .ok (.iload_n 1, 1) := by decide +kernel
theorem dX5_gain_32 : decode cX5_gain 32 = .ok (.iaload, 1) := by decide +kernel
theorem dX5_gain_33 : decode cX5_gain 33 = .ok (.istore_n 3, 1) := by decide +kernel
theorem dX5_gain_34 : decode cX5_gain 34 = .ok (.aload_n 0, 1) := by decide +kernel
theorem dX5_gain_35 : decode cX5_gain 35 = .ok (.getfield 10, 3) := by decide +kernel
theorem dX5_gain_38 : decode cX5_gain 38 = .ok (.getfield 143, 3) := by decide +kernel
theorem dX5_gain_41 : decode cX5_gain 41 = .ok (.iload_n 1, 1) := by decide +kernel
theorem dX5_gain_42 : decode cX5_gain 42 = .ok (.iload_n 2, 1) := by decide +kernel
theorem dX5_gain_43 : decode cX5_gain 43 = .ok (.iastore, 1) := by decide +kernel
theorem dX5_gain_44 : decode cX5_gain 44 = .ok (.iload_n 3, 1) := by decide +kernel
theorem dX5_gain_45 : decode cX5_gain 45 = .ok (.ireturn, 1) := by decide +kernel
theorem dX5_pledge_0 : decode cX5_pledge 0 = .ok (.iload_n 1, 1) := by decide +kernel
theorem dX5_pledge_1 : decode cX5_pledge 1 = .ok (.iload_n 2, 1) := by decide +kernel
theorem dX5_pledge_2 : decode cX5_pledge 2 = .ok (.invokestatic 125, 3) := by decide +kernel
theorem dX5_pledge_5 : decode cX5_pledge 5 = .ok (.ifCond .ne 9, 3) := by decide +kernel
theorem dX5_pledge_8 : decode cX5_pledge 8 = .ok (.aload_n 0, 1) := by decide +kernel
theorem dX5_pledge_9 : decode cX5_pledge 9 = .ok (.iconst 0, 1) := by decide +kernel
theorem dX5_pledge_10 : decode cX5_pledge 10 = .ok (.invokevirtual 62, 3) := by decide +kernel
theorem dX5_pledge_13 : decode cX5_pledge 13 = .ok (.ireturn, 1) := by decide +kernel
theorem dX5_pledge_14 : decode cX5_pledge 14 = .ok (.aload_n 0, 1) := by decide +kernel
theorem dX5_pledge_15 : decode cX5_pledge 15 = .ok (.getfield 10, 3) := by decide +kernel
theorem dX5_pledge_18 : decode cX5_pledge 18 = .ok (.iload_n 1, 1) := by decide +kernel
theorem dX5_pledge_19 : decode cX5_pledge 19 = .ok (.iload_n 2, 1) := by decide +kernel
theorem dX5_pledge_20 : decode cX5_pledge 20 = .ok (.invokevirtual 158, 3) := by decide +kernel
theorem dX5_pledge_23 : decode cX5_pledge 23 = .ok (.ireturn, 1) := by decide +kernel
theorem dX5_ease_0 : decode cX5_ease 0 = .ok (.aload_n 0, 1) := by decide +kernel
theorem dX5_ease_1 : decode cX5_ease 1 = .ok (.iload_n 1, 1) := by decide +kernel
theorem dX5_ease_2 : decode cX5_ease 2 = .ok (.invokevirtual 134, 3) := by decide +kernel
theorem dX5_ease_5 : decode cX5_ease 5 = .ok (.ifCond .ne 9, 3) := by decide +kernel
theorem dX5_ease_8 : decode cX5_ease 8 = .ok (.aload_n 0, 1) := by decide +kernel
theorem dX5_ease_9 : decode cX5_ease 9 = .ok (.iconst 0, 1) := by decide +kernel
theorem dX5_ease_10 : decode cX5_ease 10 = .ok (.invokevirtual 62, 3) := by decide +kernel
theorem dX5_ease_13 : decode cX5_ease 13 = .ok (.ireturn, 1) := by decide +kernel
theorem dX5_ease_14 : decode cX5_ease 14 = .ok (.aload_n 0, 1) := by decide +kernel
theorem dX5_ease_15 : decode cX5_ease 15 = .ok (.getfield 10, 3) := by decide +kernel
theorem dX5_ease_18 : decode cX5_ease 18 = .ok (.iload_n 1, 1) := by decide +kernel
theorem dX5_ease_19 : decode cX5_ease 19 = .ok (.invokevirtual 152, 3) := by decide +kernel
theorem dX5_ease_22 : decode cX5_ease 22 = .ok (.ifCond .ne 9, 3) := by decide +kernel
theorem dX5_ease_25 : decode cX5_ease 25 = .ok (.aload_n 0, 1) := by decide +kernel
theorem dX5_ease_26 : decode cX5_ease 26 = .ok (.iconst 4, 1) := by decide +kernel
theorem dX5_ease_27 : decode cX5_ease 27 = .ok (.invokevirtual 62, 3) := by decide +kernel
theorem dX5_ease_30 : decode cX5_ease 30 = .ok (.ireturn, 1) := by decide +kernel
theorem dX5_ease_31 : decode cX5_ease 31 = .ok (.aload_n 0, 1) := by decide +kernel
theorem dX5_ease_32 : decode cX5_ease 32 = .ok (.getfield 10, 3) := by decide +kernel
theorem dX5_ease_35 : decode cX5_ease 35 = .ok (.iload_n 1, 1) := by decide +kernel
theorem dX5_ease_36 : decode cX5_ease 36 = .ok (.invokevirtual 155, 3) := by decide +kernel
theorem dX5_ease_39 : decode cX5_ease 39 = .ok (.ireturn, 1) := by decide +kernel
theorem dX5_loose_0 : decode cX5_loose 0 = .ok (.aload_n 0, 1) := by decide +kernel
theorem dX5_loose_1 : decode cX5_loose 1 = .ok (.getfield 10, 3) := by decide +kernel
theorem dX5_loose_4 : decode cX5_loose 4 = .ok (.invokevirtual 113, 3) := by decide +kernel
theorem dX5_loose_7 : decode cX5_loose 7 = .ok (.ireturn, 1) := by decide +kernel
theorem dX5_pact_0 : decode cX5_pact 0 = .ok (.iload_n 1, 1) := by decide +kernel
theorem dX5_pact_1 : decode cX5_pact 1 = .ok (.iload_n 2, 1) := by decide +kernel
theorem dX5_pact_2 : decode cX5_pact 2 = .ok (.invokestatic 125, 3) := by decide +kernel
theorem dX5_pact_5 : decode cX5_pact 5 = .ok (.ifCond .ne 9, 3) := by decide +kernel
theorem dX5_pact_8 : decode cX5_pact 8 = .ok (.aload_n 0, 1) := by decide +kernel
theorem dX5_pact_9 : decode cX5_pact 9 = .ok (.iconst 0, 1) := by decide +kernel
theorem dX5_pact_10 : decode cX5_pact 10 = .ok (.invokevirtual 62, 3) := by decide +kernel
theorem dX5_pact_13 : decode cX5_pact 13 = .ok (.ireturn, 1) := by decide +kernel
theorem dX5_pact_14 : decode cX5_pact 14 = .ok (.aload_n 0, 1) := by decide +kernel
theorem dX5_pact_15 : decode cX5_pact 15 = .ok (.getfield 10, 3) := by decide +kernel
theorem dX5_pact_18 : decode cX5_pact 18 = .ok (.iload_n 1, 1) := by decide +kernel
theorem dX5_pact_19 : decode cX5_pact 19 = .ok (.iload_n 2, 1) := by decide +kernel
theorem dX5_pact_20 : decode cX5_pact 20 = .ok (.invokevirtual 162, 3) := by decide +kernel
theorem dX5_pact_23 : decode cX5_pact 23 = .ok (.ifCond .eq 7, 3) := by decide +kernel
theorem dX5_pact_26 : decode cX5_pact 26 = .ok (.iconst 1, 1) := by decide +kernel
theorem dX5_pact_27 : decode cX5_pact 27 = .ok (.goto 4, 3) := by decide +kernel
theorem dX5_pact_30 : decode cX5_pact 30 = .ok (.iconst 0, 1) := by decide +kernel
theorem dX5_pact_31 : decode cX5_pact 31 = .ok (.ireturn, 1) := by decide +kernel
theorem dX5_plot_0 : decode cX5_plot 0 = .ok (.iconst 0, 1) := by decide +kernel
theorem dX5_plot_1 : decode cX5_plot 1 = .ok (.istore_n 1, 1) := by decide +kernel
theorem dX5_plot_2 : decode cX5_plot 2 = .ok (.iload_n 1, 1) := by decide +kernel
theorem dX5_plot_3 : decode cX5_plot 3 = .ok (.bipush 6, 2) := by decide +kernel
theorem dX5_plot_5 : decode cX5_plot 5 = .ok (.if_icmp .ge 44, 3) := by decide +kernel
theorem dX5_plot_8 : decode cX5_plot 8 = .ok (.iload_n 1, 1) := by decide +kernel
theorem dX5_plot_9 : decode cX5_plot 9 = .ok (.iconst 1, 1) := by decide +kernel
theorem dX5_plot_10 : decode cX5_plot 10 = .ok (.iadd, 1) := by decide +kernel
theorem dX5_plot_11 : decode cX5_plot 11 = .ok (.istore_n 2, 1) := by decide +kernel
theorem dX5_plot_12 : decode cX5_plot 12 = .ok (.iload_n 2, 1) := by decide +kernel
theorem dX5_plot_13 : decode cX5_plot 13 = .ok (.bipush 6, 2) := by decide +kernel
theorem dX5_plot_15 : decode cX5_plot 15 = .ok (.if_icmp .ge 28, 3) := by decide +kernel
theorem dX5_plot_18 : decode cX5_plot 18 = .ok (.aload_n 0, 1) := by decide +kernel
theorem dX5_plot_19 : decode cX5_plot 19 = .ok (.getfield 10, 3) := by decide +kernel
theorem dX5_plot_22 : decode cX5_plot 22 = .ok (.iload_n 1, 1) := by decide +kernel
theorem dX5_plot_23 : decode cX5_plot 23 = .ok (.iload_n 2, 1) := by decide +kernel
theorem dX5_plot_24 : decode cX5_plot 24 = .ok (.invokevirtual 162, 3) := by decide +kernel
theorem dX5_plot_27 : decode cX5_plot 27 = .ok (.ifCond .eq 10, 3) := by decide +kernel
theorem dX5_plot_30 : decode cX5_plot 30 = .ok (.bipush 10, 2) := by decide +kernel
theorem dX5_plot_32 : decode cX5_plot 32 = .ok (.iload_n 1, 1) := by decide +kernel
theorem dX5_plot_33 : decode cX5_plot 33 = .ok (.imul, 1) := by decide +kernel
theorem dX5_plot_34 : decode cX5_plot 34 = .ok (.iload_n 2, 1) := by decide +kernel
theorem dX5_plot_35 : decode cX5_plot 35 = .ok (.iadd, 1) := by decide +kernel
theorem dX5_plot_36 : decode cX5_plot 36 = .ok (.ireturn, 1) := by decide +kernel
theorem dX5_plot_37 : decode cX5_plot 37 = .ok (.iinc 2 1, 3) := by decide +kernel
theorem dX5_plot_40 : decode cX5_plot 40 = .ok (.goto (-28), 3) := by decide +kernel
theorem dX5_plot_43 : decode cX5_plot 43 = .ok (.iinc 1 1, 3) := by decide +kernel
theorem dX5_plot_46 : decode cX5_plot 46 = .ok (.goto (-44), 3) := by decide +kernel
theorem dX5_plot_49 : decode cX5_plot 49 = .ok (.aload_n 0, 1) := by decide +kernel
theorem dX5_plot_50 : decode cX5_plot 50 = .ok (.iconst 3, 1) := by decide +kernel
theorem dX5_plot_51 : decode cX5_plot 51 = .ok (.invokevirtual 62, 3) := by decide +kernel
theorem dX5_plot_54 : decode cX5_plot 54 = .ok (.ireturn, 1) := by decide +kernel
theorem dX5_fall_0 : decode cX5_fall 0 = .ok (.aload_n 0, 1) := by decide +kernel
theorem dX5_fall_1 : decode cX5_fall 1 = .ok (.getfield 10, 3) := by decide +kernel
theorem dX5_fall_4 : decode cX5_fall 4 = .ok (.invokevirtual 165, 3) := by decide +kernel
theorem dX5_fall_7 : decode cX5_fall 7 = .ok (.ireturn, 1) := by decide +kernel
theorem dX5_wouldFall_0 : decode cX5_wouldFall 0 = .ok (.iload_n 1, 1) := by decide +kernel
theorem dX5_wouldFall_1 : decode cX5_wouldFall 1 = .ok (.ifCond .lt 8, 3) := by decide +kernel
theorem dX5_wouldFall_4 : decode cX5_wouldFall 4 = .ok (.iload_n 1, 1) := by decide +kernel
theorem dX5_wouldFall_5 : decode cX5_wouldFall 5 = .ok (.iconst 3, 1) := by decide +kernel
theorem dX5_wouldFall_6 : decode cX5_wouldFall 6 = .ok (.if_icmp .le 9, 3) := by decide +kernel
theorem dX5_wouldFall_9 : decode cX5_wouldFall 9 = .ok (.aload_n 0, 1) := by decide +kernel
theorem dX5_wouldFall_10 : decode cX5_wouldFall 10 = .ok (.iconst 0, 1) := by decide +kernel
theorem dX5_wouldFall_11 : decode cX5_wouldFall 11 = .ok (.invokevirtual 62, 3) := by decide +kernel
theorem dX5_wouldFall_14 : decode cX5_wouldFall 14 = .ok (.ireturn, 1) := by decide +kernel
theorem dX5_wouldFall_15 : decode cX5_wouldFall 15 = .ok (.iload_n 1, 1) := by decide +kernel
theorem dX5_wouldFall_16 : decode cX5_wouldFall 16 = .ok (.iconst 3, 1) := by decide +kernel
theorem dX5_wouldFall_17 : decode cX5_wouldFall 17 = .ok (.if_icmp .ne 11, 3) := by decide +kernel
theorem dX5_wouldFall_20 : decode cX5_wouldFall 20 = .ok (.aload_n 0, 1) := by decide +kernel
theorem dX5_wouldFall_21 : decode cX5_wouldFall 21 = .ok (.getfield 10, 3) := by decide +kernel
theorem dX5_wouldFall_24 : decode cX5_wouldFall 24 = .ok (.invokevirtual 113, 3) := by decide +kernel
theorem dX5_wouldFall_27 : decode cX5_wouldFall 27 = .ok (.ireturn, 1) := by decide +kernel
theorem dX5_wouldFall_28 : decode cX5_wouldFall 28 = .ok (.aload_n 0, 1) := by decide +kernel
theorem dX5_wouldFall_29 : decode cX5_wouldFall 29 = .ok (.getfield 19, 3) := by decide +kernel
theorem dX5_wouldFall_32 : decode cX5_wouldFall 32 = .ok (.aload_n 0, 1) := by decide +kernel
theorem dX5_wouldFall_33 : decode cX5_wouldFall 33 = .ok (.getfield 10, 3) := by decide +kernel
theorem dX5_wouldFall_36 : decode cX5_wouldFall 36 = .ok (.invokevirtual 168, 3) := by decide +kernel
theorem dX5_wouldFall_39 : decode cX5_wouldFall 39 = .ok (.aload_n 0, 1) := by decide +kernel
theorem dX5_wouldFall_40 : decode cX5_wouldFall 40 = .ok (.getfield 19, 3) := by decide +kernel
theorem dX5_wouldFall_43 : decode cX5_wouldFall 43 = .ok (.invokevirtual 165, 3) := by decide +kernel
theorem dX5_wouldFall_46 : decode cX5_wouldFall 46 = .ok (.istore_n 2, 1) := by decide +kernel
theorem dX5_wouldFall_47 : decode cX5_wouldFall 47 = .ok (.iload_n 1, 1) := by decide +kernel
theorem dX5_wouldFall_48 : decode cX5_wouldFall 48 = .ok (.ifCond .ne 5, 3) := by decide +kernel
theorem dX5_wouldFall_51 : decode cX5_wouldFall 51 = .ok (.iload_n 2, 1) := by decide +kernel
theorem dX5_wouldFall_52 : decode cX5_wouldFall 52 = .ok (.ireturn, 1) := by decide +kernel
theorem dX5_wouldFall_53 : decode cX5_wouldFall 53 = .ok (.iload_n 1, 1) := by decide +kernel
theorem dX5_wouldFall_54 : decode cX5_wouldFall 54 = .ok (.iconst 1, 1) := by decide +kernel
theorem dX5_wouldFall_55 : decode cX5_wouldFall 55 = .ok (.if_icmp .ne 23, 3) := by decide +kernel
theorem dX5_wouldFall_58 : decode cX5_wouldFall 58 = .ok (.aload_n 0, 1) := by decide +kernel
theorem dX5_wouldFall_59 : decode cX5_wouldFall 59 = .ok (.getfield 19, 3) := by decide +kernel
theorem dX5_wouldFall_62 : decode cX5_wouldFall 62 = .ok (.getfield 172, 3) := by decide +kernel
theorem dX5_wouldFall_65 : decode cX5_wouldFall 65 = .ok (.aload_n 0, 1) := by decide +kernel
theorem dX5_wouldFall_66 : decode cX5_wouldFall 66 = .ok (.getfield 10, 3) := by decide +kernel
theorem dX5_wouldFall_69 : decode cX5_wouldFall 69 = .ok (.getfield 172, 3) := by decide +kernel
theorem dX5_wouldFall_72 : decode cX5_wouldFall 72 = .ok (.iconst (-1), 1) := by decide +kernel
theorem dX5_wouldFall_73 : decode cX5_wouldFall 73 = .ok (.ixor, 1) := by decide +kernel
theorem dX5_wouldFall_74 : decode cX5_wouldFall 74 = .ok (.iand, 1) := by decide +kernel
theorem dX5_wouldFall_75 : decode cX5_wouldFall 75 = .ok (.goto 20, 3) := by decide +kernel
theorem dX5_wouldFall_78 : decode cX5_wouldFall 78 = .ok (.aload_n 0, 1) := by decide +kernel
theorem dX5_wouldFall_79 : decode cX5_wouldFall 79 = .ok (.getfield 19, 3) := by decide +kernel
theorem dX5_wouldFall_82 : decode cX5_wouldFall 82 = .ok (.getfield 117, 3) := by decide +kernel
theorem dX5_wouldFall_85 : decode cX5_wouldFall 85 = .ok (.aload_n 0, 1) := by decide +kernel
theorem dX5_wouldFall_86 : decode cX5_wouldFall 86 = .ok (.getfield 10, 3) := by decide +kernel
theorem dX5_wouldFall_89 : decode cX5_wouldFall 89 = .ok (.getfield 117, 3) := by decide +kernel
theorem dX5_wouldFall_92 : decode cX5_wouldFall 92 = .ok (.iconst (-1), 1) := by decide +kernel
theorem dX5_wouldFall_93 : decode cX5_wouldFall 93 = .ok (.ixor, 1) := by decide +kernel
theorem dX5_wouldFall_94 : decode cX5_wouldFall 94 = .ok (.iand, 1) := by decide +kernel
theorem dX5_wouldFall_95 : decode cX5_wouldFall 95 = .ok (.ireturn, 1) := by decide +kernel
theorem dX5_pulls_0 : decode cX5_pulls 0 = .ok (.aload_n 0, 1) := by decide +kernel
theorem dX5_pulls_1 : decode cX5_pulls 1 = .ok (.iload_n 1, 1) := by decide +kernel
theorem dX5_pulls_2 : decode cX5_pulls 2 = .ok (.invokevirtual 134, 3) := by decide +kernel
theorem dX5_pulls_5 : decode cX5_pulls 5 = .ok (.ifCond .ne 9, 3) := by decide +kernel
theorem dX5_pulls_8 : decode cX5_pulls 8 = .ok (.aload_n 0, 1) := by decide +kernel
theorem dX5_pulls_9 : decode cX5_pulls 9 = .ok (.iconst 0, 1) := by decide +kernel
theorem dX5_pulls_10 : decode cX5_pulls 10 = .ok (.invokevirtual 62, 3) := by decide +kernel
theorem dX5_pulls_13 : decode cX5_pulls 13 = .ok (.ireturn, 1) := by decide +kernel
theorem dX5_pulls_14 : decode cX5_pulls 14 = .ok (.aload_n 0, 1) := by decide +kernel
theorem dX5_pulls_15 : decode cX5_pulls 15 = .ok (.getfield 10, 3) := by decide +kernel
theorem dX5_pulls_18 : decode cX5_pulls 18 = .ok (.iload_n 1, 1) := by decide +kernel
theorem dX5_pulls_19 : decode cX5_pulls 19 = .ok (.invokevirtual 152, 3) := by decide +kernel
theorem dX5_pulls_22 : decode cX5_pulls 22 = .ok (.ifCond .ne 9, 3) := by decide +kernel
theorem dX5_pulls_25 : decode cX5_pulls 25 = .ok (.aload_n 0, 1) := by decide +kernel
theorem dX5_pulls_26 : decode cX5_pulls 26 = .ok (.iconst 4, 1) := by decide +kernel
theorem dX5_pulls_27 : decode cX5_pulls 27 = .ok (.invokevirtual 62, 3) := by decide +kernel
theorem dX5_pulls_30 : decode cX5_pulls 30 = .ok (.ireturn, 1) := by decide +kernel
theorem dX5_pulls_31 : decode cX5_pulls 31 = .ok (.aload_n 0, 1) := by decide +kernel
theorem dX5_pulls_32 : decode cX5_pulls 32 = .ok (.iload_n 1, 1) := by decide +kernel
theorem dX5_pulls_33 : decode cX5_pulls 33 = .ok (.invokevirtual 175, 3) := by decide +kernel
theorem dX5_pulls_36 : decode cX5_pulls 36 = .ok (.ireturn, 1) := by decide +kernel
theorem dX5_keystone_0 : decode cX5_keystone 0 = .ok (.iconst (-1), 1) := by decide +kernel
theorem dX5_keystone_1 : decode cX5_keystone 1 = .ok (.istore_n 1, 1) := by decide +kernel
theorem dX5_keystone_2 : decode cX5_keystone 2 = .ok (.iconst 0, 1) := by decide +kernel
theorem dX5_keystone_3 : decode cX5_keystone 3 = .ok (.istore_n 2, 1) := by decide +kernel
theorem dX5_keystone_4 : decode cX5_keystone 4 = .ok (.iconst 0, 1) := by decide +kernel
theorem dX5_keystone_5 : decode cX5_keystone 5 = .ok (.istore_n 3, 1) := by decide +kernel
theorem dX5_keystone_6 : decode cX5_keystone 6 = .ok (.iload_n 3, 1) := by decide +kernel
theorem dX5_keystone_7 : decode cX5_keystone 7 = .ok (.aload_n 0, 1) := by decide +kernel
theorem dX5_keystone_8 : decode cX5_keystone 8 = .ok (.getfield 10, 3) := by decide +kernel
theorem dX5_keystone_11 : decode cX5_keystone 11 = .ok (.getfield 128, 3) := by decide +kernel
theorem dX5_keystone_14 : decode cX5_keystone 14 = .ok (.if_icmp .ge 44, 3) := by decide +kernel
theorem dX5_keystone_17 : decode cX5_keystone 17 = .ok (.aload_n 0, 1) := by decide +kernel
theorem dX5_keystone_18 : decode cX5_keystone 18 = .ok (.getfield 10, 3) := by decide +kernel
theorem dX5_keystone_21 : decode cX5_keystone 21 = .ok (.iload_n 3, 1) := by decide +kernel
theorem dX5_keystone_22 : decode cX5_keystone 22 = .ok (.invokevirtual 152, 3) := by decide +kernel
theorem dX5_keystone_25 : decode cX5_keystone 25 = .ok (.ifCond .ne 6, 3) := by decide +kernel
theorem dX5_keystone_28 : decode cX5_keystone 28 = .ok (.goto 24, 3) := by decide +kernel
theorem dX5_keystone_31 : decode cX5_keystone 31 = .ok (.aload_n 0, 1) := by decide +kernel
theorem dX5_keystone_32 : decode cX5_keystone 32 = .ok (.iload_n 3, 1) := by decide +kernel
theorem dX5_keystone_33 : decode cX5_keystone 33 = .ok (.invokevirtual 175, 3) := by decide +kernel
theorem dX5_keystone_36 : decode cX5_keystone 36 = .ok (.invokestatic 120, 3) := by decide +kernel
theorem dX5_keystone_39 : decode cX5_keystone 39 = .ok (.istore 4, 2) := by decide +kernel
theorem dX5_keystone_41 : decode cX5_keystone 41 = .ok (.iload 4, 2) := by decide +kernel
theorem dX5_keystone_43 : decode cX5_keystone 43 = .ok (.iload_n 2, 1) := by decide +kernel
theorem dX5_keystone_44 : decode cX5_keystone 44 = .ok (.if_icmp .le 8, 3) := by decide +kernel
theorem dX5_keystone_47 : decode cX5_keystone 47 = .ok (.iload 4, 2) := by decide +kernel
theorem dX5_keystone_49 : decode cX5_keystone 49 = .ok (.istore_n 2, 1) := by decide +kernel
theorem dX5_keystone_50 : decode cX5_keystone 50 = .ok (.iload_n 3, 1) := by decide +kernel
theorem dX5_keystone_51 : decode cX5_keystone 51 = .ok (.istore_n 1, 1) := by decide +kernel
theorem dX5_keystone_52 : decode cX5_keystone 52 = .ok (.iinc 3 1, 3) := by decide +kernel
theorem dX5_keystone_55 : decode cX5_keystone 55 = .ok (.goto (-49), 3) := by decide +kernel
theorem dX5_keystone_58 : decode cX5_keystone 58 = .ok (.iload_n 1, 1) := by decide +kernel
theorem dX5_keystone_59 : decode cX5_keystone 59 = .ok (.ifCond .ge 11, 3) := by decide +kernel
theorem dX5_keystone_62 : decode cX5_keystone 62 = .ok (.aload_n 0, 1) := by decide +kernel
theorem dX5_keystone_63 : decode cX5_keystone 63 = .ok (.iconst 3, 1) := by decide +kernel
theorem dX5_keystone_64 : decode cX5_keystone 64 = .ok (.invokevirtual 62, 3) := by decide +kernel
theorem dX5_keystone_67 : decode cX5_keystone 67 = .ok (.goto 4, 3) := by decide +kernel
theorem dX5_keystone_70 : decode cX5_keystone 70 = .ok (.iload_n 1, 1) := by decide +kernel
theorem dX5_keystone_71 : decode cX5_keystone 71 = .ok (.ireturn, 1) := by decide +kernel
theorem dX5_months_0 : decode cX5_months 0 = .ok (.iload_n 1, 1) := by decide +kernel
theorem dX5_months_1 : decode cX5_months 1 = .ok (.iconst 1, 1) := by decide +kernel
theorem dX5_months_2 : decode cX5_months 2 = .ok (.if_icmp .lt 9, 3) := by decide +kernel
theorem dX5_months_5 : decode cX5_months 5 = .ok (.iload_n 1, 1) := by decide +kernel
theorem dX5_months_6 : decode cX5_months 6 = .ok (.bipush 60, 2) := by decide +kernel
theorem dX5_months_8 : decode cX5_months 8 = .ok (.if_icmp .le 9, 3) := by decide +kernel
theorem dX5_months_11 : decode cX5_months 11 = .ok (.aload_n 0, 1) := by decide +kernel
theorem dX5_months_12 : decode cX5_months 12 = .ok (.iconst 0, 1) := by decide +kernel
theorem dX5_months_13 : decode cX5_months 13 = .ok (.invokevirtual 62, 3) := by decide +kernel
theorem dX5_months_16 : decode cX5_months 16 = .ok (.ireturn, 1) := by decide +kernel
theorem dX5_months_17 : decode cX5_months 17 = .ok (.aload_n 0, 1) := by decide +kernel
theorem dX5_months_18 : decode cX5_months 18 = .ok (.getfield 10, 3) := by decide +kernel
theorem dX5_months_21 : decode cX5_months 21 = .ok (.getfield 178, 3) := by decide +kernel
theorem dX5_months_24 : decode cX5_months 24 = .ok (.iload_n 1, 1) := by decide +kernel
theorem dX5_months_25 : decode cX5_months 25 = .ok (.iadd, 1) := by decide +kernel
theorem dX5_months_26 : decode cX5_months 26 = .ok (.sipush 999, 3) := by decide +kernel
theorem dX5_months_29 : decode cX5_months 29 = .ok (.if_icmp .le 9, 3) := by decide +kernel
theorem dX5_months_32 : decode cX5_months 32 = .ok (.aload_n 0, 1) := by decide +kernel
theorem dX5_months_33 : decode cX5_months 33 = .ok (.iconst 4, 1) := by decide +kernel
theorem dX5_months_34 : decode cX5_months 34 = .ok (.invokevirtual 62, 3) := by decide +kernel
theorem dX5_months_37 : decode cX5_months 37 = .ok (.ireturn, 1) := by decide +kernel
theorem dX5_months_38 : decode cX5_months 38 = .ok (.aload_n 0, 1) := by decide +kernel
theorem dX5_months_39 : decode cX5_months 39 = .ok (.getfield 10, 3) := by decide +kernel
theorem dX5_months_42 : decode cX5_months 42 = .ok (.getfield 172, 3) := by decide +kernel
theorem dX5_months_45 : decode cX5_months 45 = .ok (.istore_n 2, 1) := by decide +kernel
theorem dX5_months_46 : decode cX5_months 46 = .ok (.aload_n 0, 1) := by decide +kernel
theorem dX5_months_47 : decode cX5_months 47 = .ok (.getfield 10, 3) := by decide +kernel
theorem dX5_months_50 : decode cX5_months 50 = .ok (.iload_n 1, 1) := by decide +kernel
theorem dX5_months_51 : decode cX5_months 51 = .ok (.invokevirtual 181, 3) := by decide +kernel
theorem dX5_months_54 : decode cX5_months 54 = .ok (.aload_n 0, 1) := by decide +kernel
theorem dX5_months_55 : decode cX5_months 55 = .ok (.getfield 10, 3) := by decide +kernel
theorem dX5_months_58 : decode cX5_months 58 = .ok (.getfield 172, 3) := by decide +kernel
theorem dX5_months_61 : decode cX5_months 61 = .ok (.iload_n 2, 1) := by decide +kernel
theorem dX5_months_62 : decode cX5_months 62 = .ok (.iconst (-1), 1) := by decide +kernel
theorem dX5_months_63 : decode cX5_months 63 = .ok (.ixor, 1) := by decide +kernel
theorem dX5_months_64 : decode cX5_months 64 = .ok (.iand, 1) := by decide +kernel
theorem dX5_months_65 : decode cX5_months 65 = .ok (.invokestatic 120, 3) := by decide +kernel
theorem dX5_months_68 : decode cX5_months 68 = .ok (.ireturn, 1) := by decide +kernel
theorem dX5_now_0 : decode cX5_now 0 = .ok (.iload_n 1, 1) := by decide +kernel
theorem dX5_now_1 : decode cX5_now 1 = .ok (.tableswitch 87 0 4 #[35, 43, 54, 65, 76], 35) := by decide +kernel
theorem dX5_now_36 : decode cX5_now 36 = .ok (.aload_n 0, 1) := by decide +kernel
theorem dX5_now_37 : decode cX5_now 37 = .ok (.getfield 10, 3) := by decide +kernel
theorem dX5_now_40 : decode cX5_now 40 = .ok (.getfield 178, 3) := by decide +kernel
theorem dX5_now_43 : decode cX5_now 43 = .ok (.ireturn, 1) := by decide +kernel
theorem dX5_now_44 : decode cX5_now 44 = .ok (.aload_n 0, 1) := by decide +kernel
theorem dX5_now_45 : decode cX5_now 45 = .ok (.getfield 10, 3) := by decide +kernel
theorem dX5_now_48 : decode cX5_now 48 = .ok (.invokevirtual 185, 3) := by decide +kernel
theorem dX5_now_51 : decode cX5_now 51 = .ok (.invokestatic 120, 3) := by decide +kernel
theorem dX5_now_54 : decode cX5_now 54 = .ok (.ireturn, 1) := by decide +kernel
theorem dX5_now_55 : decode cX5_now 55 = .ok (.aload_n 0, 1) := by decide +kernel
theorem dX5_now_56 : decode cX5_now 56 = .ok (.getfield 10, 3) := by decide +kernel
theorem dX5_now_59 : decode cX5_now 59 = .ok (.getfield 172, 3) := by decide +kernel
theorem dX5_now_62 : decode cX5_now 62 = .ok (.invokestatic 120, 3) := by decide +kernel
theorem dX5_now_65 : decode cX5_now 65 = .ok (.ireturn, 1) := by decide +kernel
theorem dX5_now_66 : decode cX5_now 66 = .ok (.aload_n 0, 1) := by decide +kernel
theorem dX5_now_67 : decode cX5_now 67 = .ok (.getfield 10, 3) := by decide +kernel
theorem dX5_now_70 : decode cX5_now 70 = .ok (.invokevirtual 188, 3) := by decide +kernel
theorem dX5_now_73 : decode cX5_now 73 = .ok (.invokestatic 120, 3) := by decide +kernel
theorem dX5_now_76 : decode cX5_now 76 = .ok (.ireturn, 1) := by decide +kernel
theorem dX5_now_77 : decode cX5_now 77 = .ok (.aload_n 0, 1) := by decide +kernel
theorem dX5_now_78 : decode cX5_now 78 = .ok (.getfield 10, 3) := by decide +kernel
theorem dX5_now_81 : decode cX5_now 81 = .ok (.invokevirtual 191, 3) := by decide +kernel
theorem dX5_now_84 : decode cX5_now 84 = .ok (.invokestatic 120, 3) := by decide +kernel
theorem dX5_now_87 : decode cX5_now 87 = .ok (.ireturn, 1) := by decide +kernel
theorem dX5_now_88 : decode cX5_now 88 = .ok (.aload_n 0, 1) := by decide +kernel
theorem dX5_now_89 : decode cX5_now 89 = .ok (.iconst 0, 1) := by decide +kernel
theorem dX5_now_90 : decode cX5_now 90 = .ok (.invokevirtual 62, 3) := by decide +kernel
theorem dX5_now_93 : decode cX5_now 93 = .ok (.ireturn, 1) := by decide +kernel
theorem dX5_on_0 : decode cX5_on 0 = .ok (.iload_n 1, 1) := by decide +kernel
theorem dX5_on_1 : decode cX5_on 1 = .ok (.bipush 120, 2) := by decide +kernel
theorem dX5_on_3 : decode cX5_on 3 = .ok (.invokestatic 58, 3) := by decide +kernel
theorem dX5_on_6 : decode cX5_on 6 = .ok (.ifCond .ne 9, 3) := by decide +kernel
theorem dX5_on_9 : decode cX5_on 9 = .ok (.aload_n 0, 1) := by decide +kernel
theorem dX5_on_10 : decode cX5_on 10 = .ok (.iconst 0, 1) := by decide +kernel
theorem dX5_on_11 : decode cX5_on 11 = .ok (.invokevirtual 62, 3) := by decide +kernel
theorem dX5_on_14 : decode cX5_on 14 = .ok (.ireturn, 1) := by decide +kernel
theorem dX5_on_15 : decode cX5_on 15 = .ok (.aload_n 0, 1) := by decide +kernel
theorem dX5_on_16 : decode cX5_on 16 = .ok (.getfield 10, 3) := by decide +kernel
theorem dX5_on_19 : decode cX5_on 19 = .ok (.getfield 178, 3) := by decide +kernel
theorem dX5_on_22 : decode cX5_on 22 = .ok (.iload_n 1, 1) := by decide +kernel
theorem dX5_on_23 : decode cX5_on 23 = .ok (.iadd, 1) := by decide +kernel
theorem dX5_on_24 : decode cX5_on 24 = .ok (.sipush 999, 3) := by decide +kernel
theorem dX5_on_27 : decode cX5_on 27 = .ok (.if_icmp .le 9, 3) := by decide +kernel
theorem dX5_on_30 : decode cX5_on 30 = .ok (.aload_n 0, 1) := by decide +kernel
theorem dX5_on_31 : decode cX5_on 31 = .ok (.iconst 4, 1) := by decide +kernel
theorem dX5_on_32 : decode cX5_on 32 = .ok (.invokevirtual 62, 3) := by decide +kernel
theorem dX5_on_35 : decode cX5_on 35 = .ok (.ireturn, 1) := by decide +kernel
theorem dX5_on_36 : decode cX5_on 36 = .ok (.aload_n 0, 1) := by decide +kernel
theorem dX5_on_37 : decode cX5_on 37 = .ok (.getfield 19, 3) := by decide +kernel
theorem dX5_on_40 : decode cX5_on 40 = .ok (.aload_n 0, 1) := by decide +kernel
theorem dX5_on_41 : decode cX5_on 41 = .ok (.getfield 10, 3) := by decide +kernel
theorem dX5_on_44 : decode cX5_on 44 = .ok (.invokevirtual 168, 3) := by decide +kernel
theorem dX5_on_47 : decode cX5_on 47 = .ok (.aload_n 0, 1) := by decide +kernel
theorem dX5_on_48 : decode cX5_on 48 = .ok (.getfield 19, 3) := by decide +kernel
theorem dX5_on_51 : decode cX5_on 51 = .ok (.iload_n 1, 1) := by decide +kernel
theorem dX5_on_52 : decode cX5_on 52 = .ok (.invokevirtual 181, 3) := by decide +kernel
theorem dX5_on_55 : decode cX5_on 55 = .ok (.aload_n 0, 1) := by decide +kernel
theorem dX5_on_56 : decode cX5_on 56 = .ok (.getfield 19, 3) := by decide +kernel
theorem dX5_on_59 : decode cX5_on 59 = .ok (.invokevirtual 185, 3) := by decide +kernel
theorem dX5_on_62 : decode cX5_on 62 = .ok (.ireturn, 1) := by decide +kernel
theorem dX5_moves_0 : decode cX5_moves 0 = .ok (.iload_n 1, 1) := by decide +kernel
theorem dX5_moves_1 : decode cX5_moves 1 = .ok (.ifCond .lt 8, 3) := by decide +kernel
theorem dX5_moves_4 : decode cX5_moves 4 = .ok (.iload_n 1, 1) := by decide +kernel
theorem dX5_moves_5 : decode cX5_moves 5 = .ok (.iconst 2, 1) := by decide +kernel
theorem dX5_moves_6 : decode cX5_moves 6 = .ok (.if_icmp .le 9, 3) := by decide +kernel
theorem dX5_moves_9 : decode cX5_moves 9 = .ok (.aload_n 0, 1) := by decide +kernel
theorem dX5_moves_10 : decode cX5_moves 10 = .ok (.iconst 0, 1) := by decide +kernel
theorem dX5_moves_11 : decode cX5_moves 11 = .ok (.invokevirtual 62, 3) := by decide +kernel
theorem dX5_moves_14 : decode cX5_moves 14 = .ok (.ireturn, 1) := by decide +kernel
theorem dX5_moves_15 : decode cX5_moves 15 = .ok (.aload_n 0, 1) := by decide +kernel
theorem dX5_moves_16 : decode cX5_moves 16 = .ok (.getfield 25, 3) := by decide +kernel
theorem dX5_moves_19 : decode cX5_moves 19 = .ok (.aload_n 0, 1) := by decide +kernel
theorem dX5_moves_20 : decode cX5_moves 20 = .ok (.getfield 10, 3) := by decide +kernel
theorem dX5_moves_23 : decode cX5_moves 23 = .ok (.invokevirtual 194, 3) := by decide +kernel
theorem dX5_moves_26 : decode cX5_moves 26 = .ok (.istore_n 2, 1) := by decide +kernel
theorem dX5_moves_27 : decode cX5_moves 27 = .ok (.iload_n 2, 1) := by decide +kernel
theorem dX5_moves_28 : decode cX5_moves 28 = .ok (.ifCond .lt 8, 3) := by decide +kernel
theorem dX5_moves_31 : decode cX5_moves 31 = .ok (.iload_n 1, 1) := by decide +kernel
theorem dX5_moves_32 : decode cX5_moves 32 = .ok (.iload_n 2, 1) := by decide +kernel
theorem dX5_moves_33 : decode cX5_moves 33 = .ok (.if_icmp .le 9, 3) := by decide +kernel
theorem dX5_moves_36 : decode cX5_moves 36 = .ok (.aload_n 0, 1) := by decide +kernel
theorem dX5_moves_37 : decode cX5_moves 37 = .ok (.iconst 3, 1) := by decide +kernel
theorem dX5_moves_38 : decode cX5_moves 38 = .ok (.invokevirtual 62, 3) := by decide +kernel
theorem dX5_moves_41 : decode cX5_moves 41 = .ok (.ireturn, 1) := by decide +kernel
theorem dX5_moves_42 : decode cX5_moves 42 = .ok (.iload_n 1, 1) := by decide +kernel
theorem dX5_moves_43 : decode cX5_moves 43 = .ok (.ifCond .ne 5, 3) := by decide +kernel
theorem dX5_moves_46 : decode cX5_moves 46 = .ok (.iload_n 2, 1) := by decide +kernel
theorem dX5_moves_47 : decode cX5_moves 47 = .ok (.ireturn, 1) := by decide +kernel
theorem dX5_moves_48 : decode cX5_moves 48 = .ok (.iload_n 1, 1) := by decide +kernel
theorem dX5_moves_49 : decode cX5_moves 49 = .ok (.iconst 1, 1) := by decide +kernel
theorem dX5_moves_50 : decode cX5_moves 50 = .ok (.if_icmp .ne 13, 3) := by decide +kernel
theorem dX5_moves_53 : decode cX5_moves 53 = .ok (.aload_n 0, 1) := by decide +kernel
theorem dX5_moves_54 : decode cX5_moves 54 = .ok (.getfield 25, 3) := by decide +kernel
theorem dX5_moves_57 : decode cX5_moves 57 = .ok (.getfield 198, 3) := by decide +kernel
theorem dX5_moves_60 : decode cX5_moves 60 = .ok (.goto 10, 3) := by decide +kernel
theorem dX5_moves_63 : decode cX5_moves 63 = .ok (.aload_n 0, 1) := by decide +kernel
theorem dX5_moves_64 : decode cX5_moves 64 = .ok (.getfield 25, 3) := by decide +kernel
theorem dX5_moves_67 : decode cX5_moves 67 = .ok (.getfield 201, 3) := by decide +kernel
theorem dX5_moves_70 : decode cX5_moves 70 = .ok (.ireturn, 1) := by decide +kernel
theorem dX5_best_0 : decode cX5_best 0 = .ok (.aload_n 0, 1) := by decide +kernel
theorem dX5_best_1 : decode cX5_best 1 = .ok (.iload_n 1, 1) := by decide +kernel
theorem dX5_best_2 : decode cX5_best 2 = .ok (.invokevirtual 89, 3) := by decide +kernel
theorem dX5_best_5 : decode cX5_best 5 = .ok (.ifCond .ne 9, 3) := by decide +kernel
theorem dX5_best_8 : decode cX5_best 8 = .ok (.aload_n 0, 1) := by decide +kernel
theorem dX5_best_9 : decode cX5_best 9 = .ok (.iconst 0, 1) := by decide +kernel
theorem dX5_best_10 : decode cX5_best 10 = .ok (.invokevirtual 62, 3) := by decide +kernel
theorem dX5_best_13 : decode cX5_best 13 = .ok (.ireturn, 1) := by decide +kernel
theorem dX5_best_14 : decode cX5_best 14 = .ok (.aload_n 0, 1) := by decide +kernel
theorem dX5_best_15 : decode cX5_best 15 = .ok (.getfield 10, 3) := by decide +kernel
theorem dX5_best_18 : decode cX5_best 18 = .ok (.iload_n 1, 1) := by decide +kernel
theorem dX5_best_19 : decode cX5_best 19 = .ok (.invokevirtual 104, 3) := by decide +kernel
theorem dX5_best_22 : decode cX5_best 22 = .ok (.ifCond .eq 9, 3) := by decide +kernel
theorem dX5_best_25 : decode cX5_best 25 = .ok (.aload_n 0, 1) := by decide +kernel
theorem dX5_best_26 : decode cX5_best 26 = .ok (.iconst 4, 1) := by decide +kernel
theorem dX5_best_27 : decode cX5_best 27 = .ok (.invokevirtual 62, 3) := by decide +kernel
theorem dX5_best_30 : decode cX5_best 30 = .ok (.ireturn, 1) := by decide +kernel
theorem dX5_best_31 : decode cX5_best 31 = .ok (.aload_n 0, 1) := by decide +kernel
theorem dX5_best_32 : decode cX5_best 32 = .ok (.getfield 19, 3) := by decide +kernel
theorem dX5_best_35 : decode cX5_best 35 = .ok (.aload_n 0, 1) := by decide +kernel
theorem dX5_best_36 : decode cX5_best 36 = .ok (.getfield 10, 3) := by decide +kernel
theorem dX5_best_39 : decode cX5_best 39 = .ok (.invokevirtual 168, 3) := by decide +kernel
theorem dX5_best_42 : decode cX5_best 42 = .ok (.iconst 0, 1) := by decide +kernel
theorem dX5_best_43 : decode cX5_best 43 = .ok (.istore_n 2, 1) := by decide +kernel
theorem dX5_best_44 : decode cX5_best 44 = .ok (.bipush 13, 2) := by decide +kernel
theorem dX5_best_46 : decode cX5_best 46 = .ok (.istore_n 3, 1) := by decide +kernel
theorem dX5_best_47 : decode cX5_best 47 = .ok (.iconst 0, 1) := by decide +kernel
theorem dX5_best_48 : decode cX5_best 48 = .ok (.istore 4, 2) := by decide +kernel
theorem dX5_best_50 : decode cX5_best 50 = .ok (.iload 4, 2) := by decide +kernel
theorem dX5_best_52 : decode cX5_best 52 = .ok (.bipush 6, 2) := by decide +kernel
theorem dX5_best_54 : decode cX5_best 54 = .ok (.if_icmp .ge 44, 3) := by decide +kernel
theorem dX5_best_57 : decode cX5_best 57 = .ok (.aload_n 0, 1) := by decide +kernel
theorem dX5_best_58 : decode cX5_best 58 = .ok (.getfield 19, 3) := by decide +kernel
theorem dX5_best_61 : decode cX5_best 61 = .ok (.getfield 98, 3) := by decide +kernel
theorem dX5_best_64 : decode cX5_best 64 = .ok (.iload_n 1, 1) := by decide +kernel
theorem dX5_best_65 : decode cX5_best 65 = .ok (.iload 4, 2) := by decide +kernel
theorem dX5_best_67 : decode cX5_best 67 = .ok (.iastore, 1) := by decide +kernel
theorem dX5_best_68 : decode cX5_best 68 = .ok (.aload_n 0, 1) := by decide +kernel
theorem dX5_best_69 : decode cX5_best 69 = .ok (.getfield 19, 3) := by decide +kernel
theorem dX5_best_72 : decode cX5_best 72 = .ok (.invokevirtual 113, 3) := by decide +kernel
theorem dX5_best_75 : decode cX5_best 75 = .ok (.invokestatic 120, 3) := by decide +kernel
theorem dX5_best_78 : decode cX5_best 78 = .ok (.istore 5, 2) := by decide +kernel
theorem dX5_best_80 : decode cX5_best 80 = .ok (.iload 5, 2) := by decide +kernel
theorem dX5_best_82 : decode cX5_best 82 = .ok (.iload_n 3, 1) := by decide +kernel
theorem dX5_best_83 : decode cX5_best 83 = .ok (.if_icmp .ge 9, 3) := by decide +kernel
theorem dX5_best_86 : decode cX5_best 86 = .ok (.iload 5, 2) := by decide +kernel
theorem dX5_best_88 : decode cX5_best 88 = .ok (.istore_n 3, 1) := by decide +kernel
theorem dX5_best_89 : decode cX5_best 89 = .ok (.iload 4, 2) := by decide +kernel
theorem dX5_best_91 : decode cX5_best 91 = .ok (.istore_n 2, 1) := by decide +kernel
theorem dX5_best_92 : decode cX5_best 92 = .ok (.iinc 4 1, 3) := by decide +kernel
theorem dX5_best_95 : decode cX5_best 95 = .ok (.goto (-45), 3) := by decide +kernel
theorem dX5_best_98 : decode cX5_best 98 = .ok (.iload_n 2, 1) := by decide +kernel
theorem dX5_best_99 : decode cX5_best 99 = .ok (.ireturn, 1) := by decide +kernel
theorem dX5_key_0 : decode cX5_key 0 = .ok (.iload_n 1, 1) := by decide +kernel
theorem dX5_key_1 : decode cX5_key 1 = .ok (.invokestatic 54, 3) := by decide +kernel
theorem dX5_key_4 : decode cX5_key 4 = .ok (.ifCond .ne 9, 3) := by decide +kernel
theorem dX5_key_7 : decode cX5_key 7 = .ok (.aload_n 0, 1) := by decide +kernel
theorem dX5_key_8 : decode cX5_key 8 = .ok (.iconst 0, 1) := by decide +kernel
theorem dX5_key_9 : decode cX5_key 9 = .ok (.invokevirtual 62, 3) := by decide +kernel
theorem dX5_key_12 : decode cX5_key 12 = .ok (.ireturn, 1) := by decide +kernel
theorem dX5_key_13 : decode cX5_key 13 = .ok (.aload_n 0, 1) := by decide +kernel
theorem dX5_key_14 : decode cX5_key 14 = .ok (.getfield 19, 3) := by decide +kernel
theorem dX5_key_17 : decode cX5_key 17 = .ok (.aload_n 0, 1) := by decide +kernel
theorem dX5_key_18 : decode cX5_key 18 = .ok (.getfield 10, 3) := by decide +kernel
theorem dX5_key_21 : decode cX5_key 21 = .ok (.invokevirtual 168, 3) := by decide +kernel
theorem dX5_key_24 : decode cX5_key 24 = .ok (.aload_n 0, 1) := by decide +kernel
theorem dX5_key_25 : decode cX5_key 25 = .ok (.getfield 10, 3) := by decide +kernel
theorem dX5_key_28 : decode cX5_key 28 = .ok (.invokevirtual 113, 3) := by decide +kernel
theorem dX5_key_31 : decode cX5_key 31 = .ok (.istore_n 2, 1) := by decide +kernel
theorem dX5_key_32 : decode cX5_key 32 = .ok (.iconst (-1), 1) := by decide +kernel
theorem dX5_key_33 : decode cX5_key 33 = .ok (.istore_n 3, 1) := by decide +kernel
theorem dX5_key_34 : decode cX5_key 34 = .ok (.iconst 0, 1) := by decide +kernel
theorem dX5_key_35 : decode cX5_key 35 = .ok (.istore 4, 2) := by decide +kernel
theorem dX5_key_37 : decode cX5_key 37 = .ok (.iconst 0, 1) := by decide +kernel
theorem dX5_key_38 : decode cX5_key 38 = .ok (.istore 5, 2) := by decide +kernel
theorem dX5_key_40 : decode cX5_key 40 = .ok (.iload 5, 2) := by decide +kernel
theorem dX5_key_42 : decode cX5_key 42 = .ok (.aload_n 0, 1) := by decide +kernel
theorem dX5_key_43 : decode cX5_key 43 = .ok (.getfield 10, 3) := by decide +kernel
theorem dX5_key_46 : decode cX5_key 46 = .ok (.getfield 81, 3) := by decide +kernel
theorem dX5_key_49 : decode cX5_key 49 = .ok (.if_icmp .ge 99, 3) := by decide +kernel
theorem dX5_key_52 : decode cX5_key 52 = .ok (.aload_n 0, 1) := by decide +kernel
theorem dX5_key_53 : decode cX5_key 53 = .ok (.getfield 10, 3) := by decide +kernel
theorem dX5_key_56 : decode cX5_key 56 = .ok (.getfield 95, 3) := by decide +kernel
theorem dX5_key_59 : decode cX5_key 59 = .ok (.iload 5, 2) := by decide +kernel
theorem dX5_key_61 : decode cX5_key 61 = .ok (.iaload, 1) := by decide +kernel
theorem dX5_key_62 : decode cX5_key 62 = .ok (.iload_n 1, 1) := by decide +kernel
theorem dX5_key_63 : decode cX5_key 63 = .ok (.if_icmp .ne 79, 3) := by decide +kernel
theorem dX5_key_66 : decode cX5_key 66 = .ok (.aload_n 0, 1) := by decide +kernel
theorem dX5_key_67 : decode cX5_key 67 = .ok (.getfield 10, 3) := by decide +kernel
theorem dX5_key_70 : decode cX5_key 70 = .ok (.iload 5, 2) := by decide +kernel
theorem dX5_key_72 : decode cX5_key 72 = .ok (.invokevirtual 104, 3) := by decide +kernel
theorem dX5_key_75 : decode cX5_key 75 = .ok (.ifCond .eq 6, 3) := by decide +kernel
theorem dX5_key_78 : decode cX5_key 78 = .ok (.goto 64, 3) := by decide +kernel
theorem dX5_key_81 : decode cX5_key 81 = .ok (.aload_n 0, 1) := by decide +kernel
theorem dX5_key_82 : decode cX5_key 82 = .ok (.getfield 19, 3) := by decide +kernel
theorem dX5_key_85 : decode cX5_key 85 = .ok (.getfield 98, 3) := by decide +kernel
theorem dX5_key_88 : decode cX5_key 88 = .ok (.iload 5, 2) := by decide +kernel
theorem dX5_key_90 : decode cX5_key 90 = .ok (.iload_n 1, 1) := by decide +kernel
theorem dX5_key_91 : decode cX5_key 91 = .ok (.iastore, 1) := by decide +kernel
theorem dX5_key_92 : decode cX5_key 92 = .ok (.aload_n 0, 1) := by decide +kernel
theorem dX5_key_93 : decode cX5_key 93 = .ok (.getfield 19, 3) := by decide +kernel
theorem dX5_key_96 : decode cX5_key 96 = .ok (.invokevirtual 113, 3) := by decide +kernel
theorem dX5_key_99 : decode cX5_key 99 = .ok (.iload_n 2, 1) := by decide +kernel
theorem dX5_key_100 : decode cX5_key 100 = .ok (.iconst (-1), 1) := by decide +kernel
theorem dX5_key_101 : decode cX5_key 101 = .ok (.ixor, 1) := by decide +kernel
theorem dX5_key_102 : decode cX5_key 102 = .ok (.iand, 1) := by decide +kernel
theorem dX5_key_103 : decode cX5_key 103 = .ok (.invokestatic 120, 3) := by decide +kernel
theorem dX5_key_106 : decode cX5_key 106 = .ok (.istore 6, 2) := by decide +kernel
theorem dX5_key_108 : decode cX5_key 108 = .ok (.aload_n 0, 1) := by decide +kernel
theorem dX5_key_109 : decode cX5_key 109 = .ok (.getfield 19, 3) := by decide +kernel
theorem dX5_key_112 : decode cX5_key 112 = .ok (.getfield 98, 3) := by decide +kernel
theorem dX5_key_115 : decode cX5_key 115 = .ok (.iload 5, 2) := by decide +kernel
theorem dX5_key_117 : decode cX5_key 117 = .ok (.aload_n 0, 1) := by decide +kernel
theorem dX5_key_118 : decode cX5_key 118 = .ok (.getfield 10, 3) := by decide +kernel
theorem dX5_key_121 : decode cX5_key 121 = .ok (.getfield 98, 3) := by decide +kernel
theorem dX5_key_124 : decode cX5_key 124 = .ok (.iload 5, 2) := by decide +kernel
theorem dX5_key_126 : decode cX5_key 126 = .ok (.iaload, 1) := by decide +kernel
theorem dX5_key_127 : decode cX5_key 127 = .ok (.iastore, 1) := by decide +kernel
theorem dX5_key_128 : decode cX5_key 128 = .ok (.iload 6, 2) := by decide +kernel
theorem dX5_key_130 : decode cX5_key 130 = .ok (.iload 4, 2) := by decide +kernel
theorem dX5_key_132 : decode cX5_key 132 = .ok (.if_icmp .le 10, 3) := by decide +kernel
theorem dX5_key_135 : decode cX5_key 135 = .ok (.iload 6, 2) := by decide +kernel
theorem dX5_key_137 : decode cX5_key 137 = .ok (.istore 4, 2) := by decide +kernel
theorem dX5_key_139 : decode cX5_key 139 = .ok (.iload 5, 2) := by decide +kernel
theorem dX5_key_141 : decode cX5_key 141 = .ok (.istore_n 3, 1) := by decide +kernel
theorem dX5_key_142 : decode cX5_key 142 = .ok (.iinc 5 1, 3) := by decide +kernel
theorem dX5_key_145 : decode cX5_key 145 = .ok (.goto (-105), 3) := by decide +kernel
theorem dX5_key_148 : decode cX5_key 148 = .ok (.iload_n 3, 1) := by decide +kernel
theorem dX5_key_149 : decode cX5_key 149 = .ok (.ifCond .ge 11, 3) := by decide +kernel
theorem dX5_key_152 : decode cX5_key 152 = .ok (.aload_n 0, 1) := by decide +kernel
theorem dX5_key_153 : decode cX5_key 153 = .ok (.iconst 3, 1) := by decide +kernel
theorem dX5_key_154 : decode cX5_key 154 = .ok (.invokevirtual 62, 3) := by decide +kernel
theorem dX5_key_157 : decode cX5_key 157 = .ok (.goto 4, 3) := by decide +kernel
theorem dX5_key_160 : decode cX5_key 160 = .ok (.iload_n 3, 1) := by decide +kernel
theorem dX5_key_161 : decode cX5_key 161 = .ok (.ireturn, 1) := by decide +kernel
theorem dX5_toFree_0 : decode cX5_toFree 0 = .ok (.iload_n 1, 1) := by decide +kernel
theorem dX5_toFree_1 : decode cX5_toFree 1 = .ok (.iload_n 2, 1) := by decide +kernel
theorem dX5_toFree_2 : decode cX5_toFree 2 = .ok (.invokestatic 125, 3) := by decide +kernel
theorem dX5_toFree_5 : decode cX5_toFree 5 = .ok (.ifCond .ne 9, 3) := by decide +kernel
theorem dX5_toFree_8 : decode cX5_toFree 8 = .ok (.aload_n 0, 1) := by decide +kernel
theorem dX5_toFree_9 : decode cX5_toFree 9 = .ok (.iconst 0, 1) := by decide +kernel
theorem dX5_toFree_10 : decode cX5_toFree 10 = .ok (.invokevirtual 62, 3) := by decide +kernel
theorem dX5_toFree_13 : decode cX5_toFree 13 = .ok (.ireturn, 1) := by decide +kernel
theorem dX5_toFree_14 : decode cX5_toFree 14 = .ok (.aload_n 0, 1) := by decide +kernel
theorem dX5_toFree_15 : decode cX5_toFree 15 = .ok (.getfield 10, 3) := by decide +kernel
theorem dX5_toFree_18 : decode cX5_toFree 18 = .ok (.iload_n 1, 1) := by decide +kernel
theorem dX5_toFree_19 : decode cX5_toFree 19 = .ok (.iload_n 2, 1) := by decide +kernel
theorem dX5_toFree_20 : decode cX5_toFree 20 = .ok (.invokevirtual 204, 3) := by decide +kernel
theorem dX5_toFree_23 : decode cX5_toFree 23 = .ok (.ifCond .eq 15, 3) := by decide +kernel
theorem dX5_toFree_26 : decode cX5_toFree 26 = .ok (.aload_n 0, 1) := by decide +kernel
theorem dX5_toFree_27 : decode cX5_toFree 27 = .ok (.getfield 10, 3) := by decide +kernel
theorem dX5_toFree_30 : decode cX5_toFree 30 = .ok (.iload_n 2, 1) := by decide +kernel
theorem dX5_toFree_31 : decode cX5_toFree 31 = .ok (.iload_n 1, 1) := by decide +kernel
theorem dX5_toFree_32 : decode cX5_toFree 32 = .ok (.invokevirtual 207, 3) := by decide +kernel
theorem dX5_toFree_35 : decode cX5_toFree 35 = .ok (.goto 4, 3) := by decide +kernel
theorem dX5_toFree_38 : decode cX5_toFree 38 = .ok (.iconst 0, 1) := by decide +kernel
theorem dX5_toFree_39 : decode cX5_toFree 39 = .ok (.ireturn, 1) := by decide +kernel
theorem dX5_way_0 : decode cX5_way 0 = .ok (.aload_n 0, 1) := by decide +kernel
theorem dX5_way_1 : decode cX5_way 1 = .ok (.iload_n 1, 1) := by decide +kernel
theorem dX5_way_2 : decode cX5_way 2 = .ok (.invokevirtual 210, 3) := by decide +kernel
theorem dX5_way_5 : decode cX5_way 5 = .ok (.astore_n 3, 1) := by decide +kernel
theorem dX5_way_6 : decode cX5_way 6 = .ok (.aload_n 3, 1) := by decide +kernel
theorem dX5_way_7 : decode cX5_way 7 = .ok (.ifnonnull 9, 3) := by decide +kernel
theorem dX5_way_10 : decode cX5_way 10 = .ok (.aload_n 0, 1) := by decide +kernel
theorem dX5_way_11 : decode cX5_way 11 = .ok (.iconst 0, 1) := by decide +kernel
theorem dX5_way_12 : decode cX5_way 12 = .ok (.invokevirtual 62, 3) := by decide +kernel
theorem dX5_way_15 : decode cX5_way 15 = .ok (.ireturn, 1) := by decide +kernel
theorem dX5_way_16 : decode cX5_way 16 = .ok (.aload_n 3, 1) := by decide +kernel
theorem dX5_way_17 : decode cX5_way 17 = .ok (.invokevirtual 214, 3) := by decide +kernel
theorem dX5_way_20 : decode cX5_way 20 = .ok (.ifCond .eq 9, 3) := by decide +kernel
theorem dX5_way_23 : decode cX5_way 23 = .ok (.aload_n 0, 1) := by decide +kernel
theorem dX5_way_24 : decode cX5_way 24 = .ok (.iconst 5, 1) := by decide +kernel
theorem dX5_way_25 : decode cX5_way 25 = .ok (.invokevirtual 62, 3) := by decide +kernel
theorem dX5_way_28 : decode cX5_way 28 = .ok (.ireturn, 1) := by decide +kernel
theorem dX5_way_29 : decode cX5_way 29 = .ok (.iload_n 2, 1) := by decide +kernel
theorem dX5_way_30 : decode cX5_way 30 = .ok (.iconst (-1), 1) := by decide +kernel
theorem dX5_way_31 : decode cX5_way 31 = .ok (.if_icmp .lt 9, 3) := by decide +kernel
theorem dX5_way_34 : decode cX5_way 34 = .ok (.iload_n 2, 1) := by decide +kernel
theorem dX5_way_35 : decode cX5_way 35 = .ok (.bipush 8, 2) := by decide +kernel
theorem dX5_way_37 : decode cX5_way 37 = .ok (.if_icmp .lt 9, 3) := by decide +kernel
theorem dX5_way_40 : decode cX5_way 40 = .ok (.aload_n 0, 1) := by decide +kernel
theorem dX5_way_41 : decode cX5_way 41 = .ok (.iconst 0, 1) := by decide +kernel
theorem dX5_way_42 : decode cX5_way 42 = .ok (.invokevirtual 62, 3) := by decide +kernel
theorem dX5_way_45 : decode cX5_way 45 = .ok (.ireturn, 1) := by decide +kernel
theorem dX5_way_46 : decode cX5_way 46 = .ok (.aload_n 0, 1) := by decide +kernel
theorem dX5_way_47 : decode cX5_way 47 = .ok (.getfield 32, 3) := by decide +kernel
theorem dX5_way_50 : decode cX5_way 50 = .ok (.aload_n 0, 1) := by decide +kernel
theorem dX5_way_51 : decode cX5_way 51 = .ok (.getfield 10, 3) := by decide +kernel
theorem dX5_way_54 : decode cX5_way 54 = .ok (.aload_n 3, 1) := by decide +kernel
theorem dX5_way_55 : decode cX5_way 55 = .ok (.invokevirtual 218, 3) := by decide +kernel
theorem dX5_way_58 : decode cX5_way 58 = .ok (.aload_n 0, 1) := by decide +kernel
theorem dX5_way_59 : decode cX5_way 59 = .ok (.getfield 32, 3) := by decide +kernel
theorem dX5_way_62 : decode cX5_way 62 = .ok (.getfield 222, 3) := by decide +kernel
theorem dX5_way_65 : decode cX5_way 65 = .ok (.bipush 8, 2) := by decide +kernel
theorem dX5_way_67 : decode cX5_way 67 = .ok (.if_icmp .le 10, 3) := by decide +kernel
theorem dX5_way_70 : decode cX5_way 70 = .ok (.aload_n 0, 1) := by decide +kernel
theorem dX5_way_71 : decode cX5_way 71 = .ok (.bipush 6, 2) := by decide +kernel
theorem dX5_way_73 : decode cX5_way 73 = .ok (.invokevirtual 62, 3) := by decide +kernel
theorem dX5_way_76 : decode cX5_way 76 = .ok (.ireturn, 1) := by decide +kernel
theorem dX5_way_77 : decode cX5_way 77 = .ok (.aload_n 0, 1) := by decide +kernel
theorem dX5_way_78 : decode cX5_way 78 = .ok (.getfield 32, 3) := by decide +kernel
theorem dX5_way_81 : decode cX5_way 81 = .ok (.aload_n 0, 1) := by decide +kernel
theorem dX5_way_82 : decode cX5_way 82 = .ok (.getfield 10, 3) := by decide +kernel
theorem dX5_way_85 : decode cX5_way 85 = .ok (.invokevirtual 225, 3) := by decide +kernel
theorem dX5_way_88 : decode cX5_way 88 = .ok (.ifCond .eq 9, 3) := by decide +kernel
theorem dX5_way_91 : decode cX5_way 91 = .ok (.aload_n 0, 1) := by decide +kernel
theorem dX5_way_92 : decode cX5_way 92 = .ok (.iconst 4, 1) := by decide +kernel
theorem dX5_way_93 : decode cX5_way 93 = .ok (.invokevirtual 62, 3) := by decide +kernel
theorem dX5_way_96 : decode cX5_way 96 = .ok (.ireturn, 1) := by decide +kernel
theorem dX5_way_97 : decode cX5_way 97 = .ok (.aload_n 0, 1) := by decide +kernel
theorem dX5_way_98 : decode cX5_way 98 = .ok (.getfield 32, 3) := by decide +kernel
theorem dX5_way_101 : decode cX5_way 101 = .ok (.aload_n 0, 1) := by decide +kernel
theorem dX5_way_102 : decode cX5_way 102 = .ok (.getfield 10, 3) := by decide +kernel
theorem dX5_way_105 : decode cX5_way 105 = .ok (.invokevirtual 229, 3) := by decide +kernel
theorem dX5_way_108 : decode cX5_way 108 = .ok (.ifCond .eq 14, 3) := by decide +kernel
theorem dX5_way_111 : decode cX5_way 111 = .ok (.iload_n 2, 1) := by decide +kernel
theorem dX5_way_112 : decode cX5_way 112 = .ok (.aload_n 0, 1) := by decide +kernel
theorem dX5_way_113 : decode cX5_way 113 = .ok (.getfield 32, 3) := by decide +kernel
theorem dX5_way_116 : decode cX5_way 116 = .ok (.getfield 222, 3) := by decide +kernel
theorem dX5_way_119 : decode cX5_way 119 = .ok (.if_icmp .lt 9, 3) := by decide +kernel
theorem dX5_way_122 : decode cX5_way 122 = .ok (.aload_n 0, 1) := by decide +kernel
theorem dX5_way_123 : decode cX5_way 123 = .ok (.iconst 3, 1) := by decide +kernel
theorem dX5_way_124 : decode cX5_way 124 = .ok (.invokevirtual 62, 3) := by decide +kernel
theorem dX5_way_127 : decode cX5_way 127 = .ok (.ireturn, 1) := by decide +kernel
theorem dX5_way_128 : decode cX5_way 128 = .ok (.iload_n 2, 1) := by decide +kernel
theorem dX5_way_129 : decode cX5_way 129 = .ok (.ifCond .ge 13, 3) := by decide +kernel
theorem dX5_way_132 : decode cX5_way 132 = .ok (.aload_n 0, 1) := by decide +kernel
theorem dX5_way_133 : decode cX5_way 133 = .ok (.getfield 32, 3) := by decide +kernel
theorem dX5_way_136 : decode cX5_way 136 = .ok (.getfield 222, 3) := by decide +kernel
theorem dX5_way_139 : decode cX5_way 139 = .ok (.goto 12, 3) := by decide +kernel
theorem dX5_way_142 : decode cX5_way 142 = .ok (.aload_n 0, 1) := by decide +kernel
theorem dX5_way_143 : decode cX5_way 143 = .ok (.getfield 32, 3) := by decide +kernel
theorem dX5_way_146 : decode cX5_way 146 = .ok (.getfield 232, 3) := by decide +kernel
theorem dX5_way_149 : decode cX5_way 149 = .ok (.iload_n 2, 1) := by decide +kernel
theorem dX5_way_150 : decode cX5_way 150 = .ok (.iaload, 1) := by decide +kernel
theorem dX5_way_151 : decode cX5_way 151 = .ok (.ireturn, 1) := by decide +kernel
theorem dX5_feed_0 : decode cX5_feed 0 = .ok (.iload_n 2, 1) := by decide +kernel
theorem dX5_feed_1 : decode cX5_feed 1 = .ok (.iconst 1, 1) := by decide +kernel
theorem dX5_feed_2 : decode cX5_feed 2 = .ok (.if_icmp .lt 8, 3) := by decide +kernel
theorem dX5_feed_5 : decode cX5_feed 5 = .ok (.iload_n 2, 1) := by decide +kernel
theorem dX5_feed_6 : decode cX5_feed 6 = .ok (.iconst 4, 1) := by decide +kernel
theorem dX5_feed_7 : decode cX5_feed 7 = .ok (.if_icmp .le 9, 3) := by decide +kernel
theorem dX5_feed_10 : decode cX5_feed 10 = .ok (.aload_n 0, 1) := by decide +kernel
theorem dX5_feed_11 : decode cX5_feed 11 = .ok (.iconst 0, 1) := by decide +kernel
theorem dX5_feed_12 : decode cX5_feed 12 = .ok (.invokevirtual 62, 3) := by decide +kernel
theorem dX5_feed_15 : decode cX5_feed 15 = .ok (.ireturn, 1) := by decide +kernel
theorem dX5_feed_16 : decode cX5_feed 16 = .ok (.aload_n 0, 1) := by decide +kernel
theorem dX5_feed_17 : decode cX5_feed 17 = .ok (.getfield 39, 3) := by decide +kernel
theorem dX5_feed_20 : decode cX5_feed 20 = .ok (.getfield 235, 3) := by decide +kernel
theorem dX5_feed_23 : decode cX5_feed 23 = .ok (.iload_n 2, 1) := by decide +kernel
theorem dX5_feed_24 : decode cX5_feed 24 = .ok (.iadd, 1) := by decide +kernel
theorem dX5_feed_25 : decode cX5_feed 25 = .ok (.bipush 120, 2) := by decide +kernel
theorem dX5_feed_27 : decode cX5_feed 27 = .ok (.if_icmp .le 9, 3) := by decide +kernel
theorem dX5_feed_30 : decode cX5_feed 30 = .ok (.aload_n 0, 1) := by decide +kernel
theorem dX5_feed_31 : decode cX5_feed 31 = .ok (.iconst 1, 1) := by decide +kernel
theorem dX5_feed_32 : decode cX5_feed 32 = .ok (.invokevirtual 62, 3) := by decide +kernel
theorem dX5_feed_35 : decode cX5_feed 35 = .ok (.ireturn, 1) := by decide +kernel
theorem dX5_feed_36 : decode cX5_feed 36 = .ok (.iload_n 2, 1) := by decide +kernel
theorem dX5_feed_37 : decode cX5_feed 37 = .ok (.iconst 1, 1) := by decide +kernel
theorem dX5_feed_38 : decode cX5_feed 38 = .ok (.isub, 1) := by decide +kernel
theorem dX5_feed_39 : decode cX5_feed 39 = .ok (.istore_n 3, 1) := by decide +kernel
theorem dX5_feed_40 : decode cX5_feed 40 = .ok (.iload_n 3, 1) := by decide +kernel
theorem dX5_feed_41 : decode cX5_feed 41 = .ok (.ifCond .lt 26, 3) := by decide +kernel
theorem dX5_feed_44 : decode cX5_feed 44 = .ok (.aload_n 0, 1) := by decide +kernel
theorem dX5_feed_45 : decode cX5_feed 45 = .ok (.getfield 39, 3) := by decide +kernel
theorem dX5_feed_48 : decode cX5_feed 48 = .ok (.iload_n 1, 1) := by decide +kernel
theorem dX5_feed_49 : decode cX5_feed 49 = .ok (.bipush 8, 2) := by decide +kernel
theorem dX5_feed_51 : decode cX5_feed 51 = .ok (.iload_n 3, 1) := by decide +kernel
theorem dX5_feed_52 : decode cX5_feed 52 = .ok (.imul, 1) := by decide +kernel
theorem dX5_feed_53 : decode cX5_feed 53 = .ok (.iushr, 1) := by decide +kernel
theorem dX5_feed_54 : decode cX5_feed 54 = .ok (.sipush 255, 3) := by decide +kernel
theorem dX5_feed_57 : decode cX5_feed 57 = .ok (.iand, 1) := by decide +kernel
theorem dX5_feed_58 : decode cX5_feed 58 = .ok (.invokevirtual 238, 3) := by decide +kernel
theorem dX5_feed_61 : decode cX5_feed 61 = .ok (.iinc 3 (-1), 3) := by decide +kernel
theorem dX5_feed_64 : decode cX5_feed 64 = .ok (.goto (-24), 3) := by decide +kernel
theorem dX5_feed_67 : decode cX5_feed 67 = .ok (.aload_n 0, 1) := by decide +kernel
theorem dX5_feed_68 : decode cX5_feed 68 = .ok (.getfield 39, 3) := by decide +kernel
theorem dX5_feed_71 : decode cX5_feed 71 = .ok (.getfield 235, 3) := by decide +kernel
theorem dX5_feed_74 : decode cX5_feed 74 = .ok (.ireturn, 1) := by decide +kernel
theorem dX5_wipe_0 : decode cX5_wipe 0 = .ok (.aload_n 0, 1) := by decide +kernel
theorem dX5_wipe_1 : decode cX5_wipe 1 = .ok (.getfield 39, 3) := by decide +kernel
theorem dX5_wipe_4 : decode cX5_wipe 4 = .ok (.getfield 235, 3) := by decide +kernel
theorem dX5_wipe_7 : decode cX5_wipe 7 = .ok (.istore_n 1, 1) := by decide +kernel
theorem dX5_wipe_8 : decode cX5_wipe 8 = .ok (.aload_n 0, 1) := by decide +kernel
theorem dX5_wipe_9 : decode cX5_wipe 9 = .ok (.getfield 39, 3) := by decide +kernel
theorem dX5_wipe_12 : decode cX5_wipe 12 = .ok (.iconst 0, 1) := by decide +kernel
theorem dX5_wipe_13 : decode cX5_wipe 13 = .ok (.putfield 235, 3) := by decide +kernel
theorem dX5_wipe_16 : decode cX5_wipe 16 = .ok (.iload_n 1, 1) := by decide +kernel
theorem dX5_wipe_17 : decode cX5_wipe 17 = .ok (.ireturn, 1) := by decide +kernel
theorem dX5_court_0 : decode cX5_court 0 = .ok (.aload_n 0, 1) := by decide +kernel
theorem dX5_court_1 : decode cX5_court 1 = .ok (.getfield 19, 3) := by decide +kernel
theorem dX5_court_4 : decode cX5_court 4 = .ok (.aload_n 0, 1) := by decide +kernel
theorem dX5_court_5 : decode cX5_court 5 = .ok (.getfield 10, 3) := by decide +kernel
theorem dX5_court_8 : decode cX5_court 8 = .ok (.invokevirtual 168, 3) := by decide +kernel
theorem dX5_court_11 : decode cX5_court 11 = .ok (.aload_n 0, 1) := by decide +kernel
theorem dX5_court_12 : decode cX5_court 12 = .ok (.getfield 39, 3) := by decide +kernel
theorem dX5_court_15 : decode cX5_court 15 = .ok (.aload_n 0, 1) := by decide +kernel
theorem dX5_court_16 : decode cX5_court 16 = .ok (.getfield 19, 3) := by decide +kernel
theorem dX5_court_19 : decode cX5_court 19 = .ok (.invokevirtual 241, 3) := by decide +kernel
theorem dX5_court_22 : decode cX5_court 22 = .ok (.istore_n 1, 1) := by decide +kernel
theorem dX5_court_23 : decode cX5_court 23 = .ok (.aload_n 0, 1) := by decide +kernel
theorem dX5_court_24 : decode cX5_court 24 = .ok (.getfield 39, 3) := by decide +kernel
theorem dX5_court_27 : decode cX5_court 27 = .ok (.iconst 0, 1) := by decide +kernel
theorem dX5_court_28 : decode cX5_court 28 = .ok (.putfield 235, 3) := by decide +kernel
theorem dX5_court_31 : decode cX5_court 31 = .ok (.iload_n 1, 1) := by decide +kernel
theorem dX5_court_32 : decode cX5_court 32 = .ok (.ifCond .ge 13, 3) := by decide +kernel
theorem dX5_court_35 : decode cX5_court 35 = .ok (.iconst (-1), 1) := by decide +kernel
theorem dX5_court_36 : decode cX5_court 36 = .ok (.aload_n 0, 1) := by decide +kernel
theorem dX5_court_37 : decode cX5_court 37 = .ok (.getfield 39, 3) := by decide +kernel
theorem dX5_court_40 : decode cX5_court 40 = .ok (.getfield 244, 3) := by decide +kernel
theorem dX5_court_43 : decode cX5_court 43 = .ok (.isub, 1) := by decide +kernel
theorem dX5_court_44 : decode cX5_court 44 = .ok (.ireturn, 1) := by decide +kernel
theorem dX5_court_45 : decode cX5_court 45 = .ok (.aload_n 0, 1) := by decide +kernel
theorem dX5_court_46 : decode cX5_court 46 = .ok (.getfield 10, 3) := by decide +kernel
theorem dX5_court_49 : decode cX5_court 49 = .ok (.aload_n 0, 1) := by decide +kernel
theorem dX5_court_50 : decode cX5_court 50 = .ok (.getfield 19, 3) := by decide +kernel
theorem dX5_court_53 : decode cX5_court 53 = .ok (.invokevirtual 168, 3) := by decide +kernel
theorem dX5_court_56 : decode cX5_court 56 = .ok (.iload_n 1, 1) := by decide +kernel
theorem dX5_court_57 : decode cX5_court 57 = .ok (.ireturn, 1) := by decide +kernel
theorem dX5_sheet_0 : decode cX5_sheet 0 = .ok (.aload_n 0, 1) := by decide +kernel
theorem dX5_sheet_1 : decode cX5_sheet 1 = .ok (.iload_n 1, 1) := by decide +kernel
theorem dX5_sheet_2 : decode cX5_sheet 2 = .ok (.invokevirtual 210, 3) := by decide +kernel
theorem dX5_sheet_5 : decode cX5_sheet 5 = .ok (.astore 4, 2) := by decide +kernel
theorem dX5_sheet_7 : decode cX5_sheet 7 = .ok (.aload 4, 2) := by decide +kernel
theorem dX5_sheet_9 : decode cX5_sheet 9 = .ok (.ifnull 25, 3) := by decide +kernel
theorem dX5_sheet_12 : decode cX5_sheet 12 = .ok (.iload_n 2, 1) := by decide +kernel
theorem dX5_sheet_13 : decode cX5_sheet 13 = .ok (.ifCond .eq 27, 3) := by decide +kernel
theorem dX5_sheet_16 : decode cX5_sheet 16 = .ok (.iload_n 2, 1) := by decide +kernel
theorem dX5_sheet_17 : decode cX5_sheet 17 = .ok (.bipush 8, 2) := by decide +kernel
theorem dX5_sheet_19 : decode cX5_sheet 19 = .ok (.if_icmp .eq 21, 3) := by decide +kernel
theorem dX5_sheet_22 : decode cX5_sheet 22 = .ok (.iload_n 2, 1) := by decide +kernel
theorem dX5_sheet_23 : decode cX5_sheet 23 = .ok (.bipush 16, 2) := by decide +kernel
theorem dX5_sheet_25 : decode cX5_sheet 25 = .ok (.if_icmp .eq 15, 3) := by decide +kernel
theorem dX5_sheet_28 : decode cX5_sheet 28 = .ok (.iload_n 2, 1) := by decide +kernel
theorem dX5_sheet_29 : decode cX5_sheet 29 = .ok (.bipush 64, 2) := by decide +kernel
theorem dX5_sheet_31 : decode cX5_sheet 31 = .ok (.if_icmp .eq 9, 3) := by decide +kernel
theorem dX5_sheet_34 : decode cX5_sheet 34 = .ok (.aload_n 0, 1) := by decide +kernel
theorem dX5_sheet_35 : decode cX5_sheet 35 = .ok (.iconst 0, 1) := by decide +kernel
theorem dX5_sheet_36 : decode cX5_sheet 36 = .ok (.invokevirtual 62, 3) := by decide +kernel
theorem dX5_sheet_39 : decode cX5_sheet 39 = .ok (.ireturn, 1) := by decide +kernel
theorem dX5_sheet_40 : decode cX5_sheet 40 = .ok (.iload_n 3, 1) := by decide +kernel
theorem dX5_sheet_41 : decode cX5_sheet 41 = .ok (.ifCond .ge 10, 3) := by decide +kernel
theorem dX5_sheet_44 : decode cX5_sheet 44 = .ok (.aload_n 0, 1) := by decide +kernel
theorem dX5_sheet_45 : decode cX5_sheet 45 = .ok (.bipush 6, 2) := by decide +kernel
theorem dX5_sheet_47 : decode cX5_sheet 47 = .ok (.invokevirtual 62, 3) := by decide +kernel
theorem dX5_sheet_50 : decode cX5_sheet 50 = .ok (.ireturn, 1) := by decide +kernel
theorem dX5_sheet_51 : decode cX5_sheet 51 = .ok (.iload_n 3, 1) := by decide +kernel
theorem dX5_sheet_52 : decode cX5_sheet 52 = .ok (.bipush 40, 2) := by decide +kernel
theorem dX5_sheet_54 : decode cX5_sheet 54 = .ok (.if_icmp .le 9, 3) := by decide +kernel
theorem dX5_sheet_57 : decode cX5_sheet 57 = .ok (.aload_n 0, 1) := by decide +kernel
theorem dX5_sheet_58 : decode cX5_sheet 58 = .ok (.iconst 0, 1) := by decide +kernel
theorem dX5_sheet_59 : decode cX5_sheet 59 = .ok (.invokevirtual 62, 3) := by decide +kernel
theorem dX5_sheet_62 : decode cX5_sheet 62 = .ok (.ireturn, 1) := by decide +kernel
theorem dX5_sheet_63 : decode cX5_sheet 63 = .ok (.aload 4, 2) := by decide +kernel
theorem dX5_sheet_65 : decode cX5_sheet 65 = .ok (.iload_n 2, 1) := by decide +kernel
theorem dX5_sheet_66 : decode cX5_sheet 66 = .ok (.iload_n 2, 1) := by decide +kernel
theorem dX5_sheet_67 : decode cX5_sheet 67 = .ok (.ifCond .ne 7, 3) := by decide +kernel
theorem dX5_sheet_70 : decode cX5_sheet 70 = .ok (.iconst 0, 1) := by decide +kernel
theorem dX5_sheet_71 : decode cX5_sheet 71 = .ok (.goto 4, 3) := by decide +kernel
theorem dX5_sheet_74 : decode cX5_sheet 74 = .ok (.iload_n 3, 1) := by decide +kernel
theorem dX5_sheet_75 : decode cX5_sheet 75 = .ok (.invokevirtual 247, 3) := by decide +kernel
theorem dX5_sheet_78 : decode cX5_sheet 78 = .ok (.aload 4, 2) := by decide +kernel
theorem dX5_sheet_80 : decode cX5_sheet 80 = .ok (.getfield 251, 3) := by decide +kernel
theorem dX5_sheet_83 : decode cX5_sheet 83 = .ok (.ireturn, 1) := by decide +kernel
theorem dX5_write_0 : decode cX5_write 0 = .ok (.aload_n 0, 1) := by decide +kernel
theorem dX5_write_1 : decode cX5_write 1 = .ok (.iload_n 1, 1) := by decide +kernel
theorem dX5_write_2 : decode cX5_write 2 = .ok (.invokevirtual 210, 3) := by decide +kernel
theorem dX5_write_5 : decode cX5_write 5 = .ok (.astore 5, 2) := by decide +kernel
theorem dX5_write_7 : decode cX5_write 7 = .ok (.aload 5, 2) := by decide +kernel
theorem dX5_write_9 : decode cX5_write 9 = .ok (.ifnonnull 10, 3) := by decide +kernel
theorem dX5_write_12 : decode cX5_write 12 = .ok (.aload_n 0, 1) := by decide +kernel
theorem dX5_write_13 : decode cX5_write 13 = .ok (.iconst 0, 1) := by decide +kernel
theorem dX5_write_14 : decode cX5_write 14 = .ok (.invokevirtual 62, 3) := by decide +kernel
theorem dX5_write_17 : decode cX5_write 17 = .ok (.i2l, 1) := by decide +kernel
theorem dX5_write_18 : decode cX5_write 18 = .ok (.lreturn, 1) := by decide +kernel
theorem dX5_write_19 : decode cX5_write 19 = .ok (.aload 5, 2) := by decide +kernel
theorem dX5_write_21 : decode cX5_write 21 = .ok (.invokevirtual 214, 3) := by decide +kernel
theorem dX5_write_24 : decode cX5_write 24 = .ok (.ifCond .eq 10, 3) := by decide +kernel
theorem dX5_write_27 : decode cX5_write 27 = .ok (.aload_n 0, 1) := by decide +kernel
theorem dX5_write_28 : decode cX5_write 28 = .ok (.iconst 5, 1) := by decide +kernel
theorem dX5_write_29 : decode cX5_write 29 = .ok (.invokevirtual 62, 3) := by decide +kernel
theorem dX5_write_32 : decode cX5_write 32 = .ok (.i2l, 1) := by decide +kernel
theorem dX5_write_33 : decode cX5_write 33 = .ok (.lreturn, 1) := by decide +kernel
theorem dX5_write_34 : decode cX5_write 34 = .ok (.iload_n 2, 1) := by decide +kernel
theorem dX5_write_35 : decode cX5_write 35 = .ok (.ifCond .lt 12, 3) := by decide +kernel
theorem dX5_write_38 : decode cX5_write 38 = .ok (.iload_n 2, 1) := by decide +kernel
theorem dX5_write_39 : decode cX5_write 39 = .ok (.aload 5, 2) := by decide +kernel
theorem dX5_write_41 : decode cX5_write 41 = .ok (.getfield 251, 3) := by decide +kernel
theorem dX5_write_44 : decode cX5_write 44 = .ok (.if_icmp .lt 10, 3) := by decide +kernel
theorem dX5_write_47 : decode cX5_write 47 = .ok (.aload_n 0, 1) := by decide +kernel
theorem dX5_write_48 : decode cX5_write 48 = .ok (.iconst 0, 1) := by decide +kernel
theorem dX5_write_49 : decode cX5_write 49 = .ok (.invokevirtual 62, 3) := by decide +kernel
theorem dX5_write_52 : decode cX5_write 52 = .ok (.i2l, 1) := by decide +kernel
theorem dX5_write_53 : decode cX5_write 53 = .ok (.lreturn, 1) := by decide +kernel
theorem dX5_write_54 : decode cX5_write 54 = .ok (.aload 5, 2) := by decide +kernel
theorem dX5_write_56 : decode cX5_write 56 = .ok (.getfield 252, 3) := by decide +kernel
theorem dX5_write_59 : decode cX5_write 59 = .ok (.iload_n 2, 1) := by decide +kernel
theorem dX5_write_60 : decode cX5_write 60 = .ok (.laload, 1) := by decide +kernel
theorem dX5_write_61 : decode cX5_write 61 = .ok (.lstore 6, 2) := by decide +kernel
theorem dX5_write_63 : decode cX5_write 63 = .ok (.aload 5, 2) := by decide +kernel
theorem dX5_write_65 : decode cX5_write 65 = .ok (.iload_n 2, 1) := by decide +kernel
theorem dX5_write_66 : decode cX5_write 66 = .ok (.lload_n 3, 1) := by decide +kernel
theorem dX5_write_67 : decode cX5_write 67 = .ok (.invokevirtual 256, 3) := by decide +kernel
theorem dX5_write_70 : decode cX5_write 70 = .ok (.lload 6, 2) := by decide +kernel
theorem dX5_write_72 : decode cX5_write 72 = .ok (.lreturn, 1) := by decide +kernel
theorem dX5_copy_0 : decode cX5_copy 0 = .ok (.aload_n 0, 1) := by decide +kernel
theorem dX5_copy_1 : decode cX5_copy 1 = .ok (.iload_n 1, 1) := by decide +kernel
theorem dX5_copy_2 : decode cX5_copy 2 = .ok (.invokevirtual 210, 3) := by decide +kernel
theorem dX5_copy_5 : decode cX5_copy 5 = .ok (.astore 6, 2) := by decide +kernel
theorem dX5_copy_7 : decode cX5_copy 7 = .ok (.aload_n 0, 1) := by decide +kernel
theorem dX5_copy_8 : decode cX5_copy 8 = .ok (.iload_n 3, 1) := by decide +kernel
theorem dX5_copy_9 : decode cX5_copy 9 = .ok (.invokevirtual 210, 3) := by decide +kernel
theorem dX5_copy_12 : decode cX5_copy 12 = .ok (.astore 7, 2) := by decide +kernel
theorem dX5_copy_14 : decode cX5_copy 14 = .ok (.aload 6, 2) := by decide +kernel
theorem dX5_copy_16 : decode cX5_copy 16 = .ok (.ifnull 8, 3) := by decide +kernel
theorem dX5_copy_19 : decode cX5_copy 19 = .ok (.aload 7, 2) := by decide +kernel
theorem dX5_copy_21 : decode cX5_copy 21 = .ok (.ifnonnull 9, 3) := by decide +kernel
theorem dX5_copy_24 : decode cX5_copy 24 = .ok (.aload_n 0, 1) := by decide +kernel
theorem dX5_copy_25 : decode cX5_copy 25 = .ok (.iconst 0, 1) := by decide +kernel
theorem dX5_copy_26 : decode cX5_copy 26 = .ok (.invokevirtual 62, 3) := by decide +kernel
theorem dX5_copy_29 : decode cX5_copy 29 = .ok (.ireturn, 1) := by decide +kernel
theorem dX5_copy_30 : decode cX5_copy 30 = .ok (.aload 6, 2) := by decide +kernel
theorem dX5_copy_32 : decode cX5_copy 32 = .ok (.invokevirtual 214, 3) := by decide +kernel
theorem dX5_copy_35 : decode cX5_copy 35 = .ok (.ifCond .ne 11, 3) := by decide +kernel
theorem dX5_copy_38 : decode cX5_copy 38 = .ok (.aload 7, 2) := by decide +kernel
theorem dX5_copy_40 : decode cX5_copy 40 = .ok (.invokevirtual 214, 3) := by decide +kernel
theorem dX5_copy_43 : decode cX5_copy 43 = .ok (.ifCond .eq 9, 3) := by decide +kernel
theorem dX5_copy_46 : decode cX5_copy 46 = .ok (.aload_n 0, 1) := by decide +kernel
theorem dX5_copy_47 : decode cX5_copy 47 = .ok (.iconst 5, 1) := by decide +kernel
theorem dX5_copy_48 : decode cX5_copy 48 = .ok (.invokevirtual 62, 3) := by decide +kernel
theorem dX5_copy_51 : decode cX5_copy 51 = .ok (.ireturn, 1) := by decide +kernel
theorem dX5_copy_52 : decode cX5_copy 52 = .ok (.aload 6, 2) := by decide +kernel
theorem dX5_copy_54 : decode cX5_copy 54 = .ok (.getfield 260, 3) := by decide +kernel
theorem dX5_copy_57 : decode cX5_copy 57 = .ok (.aload 7, 2) := by decide +kernel
theorem dX5_copy_59 : decode cX5_copy 59 = .ok (.getfield 260, 3) := by decide +kernel
theorem dX5_copy_62 : decode cX5_copy 62 = .ok (.if_icmp .eq 9, 3) := by decide +kernel
theorem dX5_copy_65 : decode cX5_copy 65 = .ok (.aload_n 0, 1) := by decide +kernel
theorem dX5_copy_66 : decode cX5_copy 66 = .ok (.iconst 2, 1) := by decide +kernel
theorem dX5_copy_67 : decode cX5_copy 67 = .ok (.invokevirtual 62, 3) := by decide +kernel
theorem dX5_copy_70 : decode cX5_copy 70 = .ok (.ireturn, 1) := by decide +kernel
theorem dX5_copy_71 : decode cX5_copy 71 = .ok (.aload 6, 2) := by decide +kernel
theorem dX5_copy_73 : decode cX5_copy 73 = .ok (.iload_n 2, 1) := by decide +kernel
theorem dX5_copy_74 : decode cX5_copy 74 = .ok (.iload 5, 2) := by decide +kernel
theorem dX5_copy_76 : decode cX5_copy 76 = .ok (.invokevirtual 263, 3) := by decide +kernel
theorem dX5_copy_79 : decode cX5_copy 79 = .ok (.ifCond .eq 15, 3) := by decide +kernel
theorem dX5_copy_82 : decode cX5_copy 82 = .ok (.aload 7, 2) := by decide +kernel
theorem dX5_copy_84 : decode cX5_copy 84 = .ok (.iload 4, 2) := by decide +kernel
theorem dX5_copy_86 : decode cX5_copy 86 = .ok (.iload 5, 2) := by decide +kernel
theorem dX5_copy_88 : decode cX5_copy 88 = .ok (.invokevirtual 263, 3) := by decide +kernel
theorem dX5_copy_91 : decode cX5_copy 91 = .ok (.ifCond .ne 9, 3) := by decide +kernel
theorem dX5_copy_94 : decode cX5_copy 94 = .ok (.aload_n 0, 1) := by decide +kernel
theorem dX5_copy_95 : decode cX5_copy 95 = .ok (.iconst 0, 1) := by decide +kernel
theorem dX5_copy_96 : decode cX5_copy 96 = .ok (.invokevirtual 62, 3) := by decide +kernel
theorem dX5_copy_99 : decode cX5_copy 99 = .ok (.ireturn, 1) := by decide +kernel
theorem dX5_copy_100 : decode cX5_copy 100 = .ok (.aload 6, 2) := by decide +kernel
theorem dX5_copy_102 : decode cX5_copy 102 = .ok (.getfield 252, 3) := by decide +kernel
theorem dX5_copy_105 : decode cX5_copy 105 = .ok (.iload_n 2, 1) := by decide +kernel
theorem dX5_copy_106 : decode cX5_copy 106 = .ok (.aload 7, 2) := by decide +kernel
theorem dX5_copy_108 : decode cX5_copy 108 = .ok (.getfield 252, 3) := by decide +kernel
theorem dX5_copy_111 : decode cX5_copy 111 = .ok (.iload 4, 2) := by decide +kernel
theorem dX5_copy_113 : decode cX5_copy 113 = .ok (.iload 5, 2) := by decide +kernel
theorem dX5_copy_115 : decode cX5_copy 115 = .ok (.invokestatic 266, 3) := by decide +kernel
theorem dX5_copy_118 : decode cX5_copy 118 = .ok (.iload 5, 2) := by decide +kernel
theorem dX5_copy_120 : decode cX5_copy 120 = .ok (.ireturn, 1) := by decide +kernel
theorem dX5_lays_0 : decode cX5_lays 0 = .ok (.aload_n 0, 1) := by decide +kernel
theorem dX5_lays_1 : decode cX5_lays 1 = .ok (.iload_n 1, 1) := by decide +kernel
theorem dX5_lays_2 : decode cX5_lays 2 = .ok (.invokevirtual 210, 3) := by decide +kernel
theorem dX5_lays_5 : decode cX5_lays 5 = .ok (.astore_n 2, 1) := by decide +kernel
theorem dX5_lays_6 : decode cX5_lays 6 = .ok (.aload_n 2, 1) := by decide +kernel
theorem dX5_lays_7 : decode cX5_lays 7 = .ok (.ifnonnull 9, 3) := by decide +kernel
theorem dX5_lays_10 : decode cX5_lays 10 = .ok (.aload_n 0, 1) := by decide +kernel
theorem dX5_lays_11 : decode cX5_lays 11 = .ok (.iconst 0, 1) := by decide +kernel
theorem dX5_lays_12 : decode cX5_lays 12 = .ok (.invokevirtual 62, 3) := by decide +kernel
theorem dX5_lays_15 : decode cX5_lays 15 = .ok (.ireturn, 1) := by decide +kernel
theorem dX5_lays_16 : decode cX5_lays 16 = .ok (.aload_n 2, 1) := by decide +kernel
theorem dX5_lays_17 : decode cX5_lays 17 = .ok (.invokevirtual 214, 3) := by decide +kernel
theorem dX5_lays_20 : decode cX5_lays 20 = .ok (.ifCond .eq 9, 3) := by decide +kernel
theorem dX5_lays_23 : decode cX5_lays 23 = .ok (.aload_n 0, 1) := by decide +kernel
theorem dX5_lays_24 : decode cX5_lays 24 = .ok (.iconst 5, 1) := by decide +kernel
theorem dX5_lays_25 : decode cX5_lays 25 = .ok (.invokevirtual 62, 3) := by decide +kernel
theorem dX5_lays_28 : decode cX5_lays 28 = .ok (.ireturn, 1) := by decide +kernel
theorem dX5_lays_29 : decode cX5_lays 29 = .ok (.iconst 0, 1) := by decide +kernel
theorem dX5_lays_30 : decode cX5_lays 30 = .ok (.istore_n 3, 1) := by decide +kernel
theorem dX5_lays_31 : decode cX5_lays 31 = .ok (.iconst 0, 1) := by decide +kernel
theorem dX5_lays_32 : decode cX5_lays 32 = .ok (.istore 4, 2) := by decide +kernel
theorem dX5_lays_34 : decode cX5_lays 34 = .ok (.iload 4, 2) := by decide +kernel
theorem dX5_lays_36 : decode cX5_lays 36 = .ok (.aload_n 0, 1) := by decide +kernel
theorem dX5_lays_37 : decode cX5_lays 37 = .ok (.getfield 10, 3) := by decide +kernel
theorem dX5_lays_40 : decode cX5_lays 40 = .ok (.getfield 81, 3) := by decide +kernel
theorem dX5_lays_43 : decode cX5_lays 43 = .ok (.if_icmp .ge 58, 3) := by decide +kernel
theorem dX5_lays_46 : decode cX5_lays 46 = .ok (.iload 4, 2) := by decide +kernel
theorem dX5_lays_48 : decode cX5_lays 48 = .ok (.aload_n 2, 1) := by decide +kernel
theorem dX5_lays_49 : decode cX5_lays 49 = .ok (.getfield 251, 3) := by decide +kernel
theorem dX5_lays_52 : decode cX5_lays 52 = .ok (.if_icmp .ge 49, 3) := by decide +kernel
theorem dX5_lays_55 : decode cX5_lays 55 = .ok (.aload_n 2, 1) := by decide +kernel
theorem dX5_lays_56 : decode cX5_lays 56 = .ok (.iload 4, 2) := by decide +kernel
theorem dX5_lays_58 : decode cX5_lays 58 = .ok (.invokevirtual 272, 3) := by decide +kernel
theorem dX5_lays_61 : decode cX5_lays 61 = .ok (.istore 5, 2) := by decide +kernel
theorem dX5_lays_63 : decode cX5_lays 63 = .ok (.iload 5, 2) := by decide +kernel
theorem dX5_lays_65 : decode cX5_lays 65 = .ok (.ifCond .lt 30, 3) := by decide +kernel
theorem dX5_lays_68 : decode cX5_lays 68 = .ok (.aload_n 0, 1) := by decide +kernel
theorem dX5_lays_69 : decode cX5_lays 69 = .ok (.getfield 10, 3) := by decide +kernel
theorem dX5_lays_72 : decode cX5_lays 72 = .ok (.iload 4, 2) := by decide +kernel
theorem dX5_lays_74 : decode cX5_lays 74 = .ok (.invokevirtual 104, 3) := by decide +kernel
theorem dX5_lays_77 : decode cX5_lays 77 = .ok (.ifCond .ne 18, 3) := by decide +kernel
theorem dX5_lays_80 : decode cX5_lays 80 = .ok (.aload_n 0, 1) := by decide +kernel
theorem dX5_lays_81 : decode cX5_lays 81 = .ok (.getfield 10, 3) := by decide +kernel
theorem dX5_lays_84 : decode cX5_lays 84 = .ok (.getfield 98, 3) := by decide +kernel
theorem dX5_lays_87 : decode cX5_lays 87 = .ok (.iload 4, 2) := by decide +kernel
theorem dX5_lays_89 : decode cX5_lays 89 = .ok (.iload 5, 2) := by decide +kernel
theorem dX5_lays_91 : decode cX5_lays 91 = .ok (.iastore, 1) := by decide +kernel
theorem dX5_lays_92 : decode cX5_lays 92 = .ok (.iinc 3 1, 3) := by decide +kernel
theorem dX5_lays_95 : decode cX5_lays 95 = .ok (.iinc 4 1, 3) := by decide +kernel
theorem dX5_lays_98 : decode cX5_lays 98 = .ok (.goto (-64), 3) := by decide +kernel
theorem dX5_lays_101 : decode cX5_lays 101 = .ok (.iload_n 3, 1) := by decide +kernel
theorem dX5_lays_102 : decode cX5_lays 102 = .ok (.ireturn, 1) := by decide +kernel
theorem dX5_roll_0 : decode cX5_roll 0 = .ok (.aload_n 0, 1) := by decide +kernel
theorem dX5_roll_1 : decode cX5_roll 1 = .ok (.iload_n 1, 1) := by decide +kernel
theorem dX5_roll_2 : decode cX5_roll 2 = .ok (.invokevirtual 210, 3) := by decide +kernel
theorem dX5_roll_5 : decode cX5_roll 5 = .ok (.astore_n 2, 1) := by decide +kernel
theorem dX5_roll_6 : decode cX5_roll 6 = .ok (.aload_n 2, 1) := by decide +kernel
theorem dX5_roll_7 : decode cX5_roll 7 = .ok (.ifnonnull 9, 3) := by decide +kernel
theorem dX5_roll_10 : decode cX5_roll 10 = .ok (.aload_n 0, 1) := by decide +kernel
theorem dX5_roll_11 : decode cX5_roll 11 = .ok (.iconst 0, 1) := by decide +kernel
theorem dX5_roll_12 : decode cX5_roll 12 = .ok (.invokevirtual 62, 3) := by decide +kernel
theorem dX5_roll_15 : decode cX5_roll 15 = .ok (.ireturn, 1) := by decide +kernel
theorem dX5_roll_16 : decode cX5_roll 16 = .ok (.aload_n 2, 1) := by decide +kernel
theorem dX5_roll_17 : decode cX5_roll 17 = .ok (.invokevirtual 214, 3) := by decide +kernel
theorem dX5_roll_20 : decode cX5_roll 20 = .ok (.ifCond .eq 9, 3) := by decide +kernel
theorem dX5_roll_23 : decode cX5_roll 23 = .ok (.aload_n 0, 1) := by decide +kernel
theorem dX5_roll_24 : decode cX5_roll 24 = .ok (.iconst 5, 1) := by decide +kernel
theorem dX5_roll_25 : decode cX5_roll 25 = .ok (.invokevirtual 62, 3) := by decide +kernel
theorem dX5_roll_28 : decode cX5_roll 28 = .ok (.ireturn, 1) := by decide +kernel
theorem dX5_roll_29 : decode cX5_roll 29 = .ok (.aload_n 0, 1) := by decide +kernel
theorem dX5_roll_30 : decode cX5_roll 30 = .ok (.getfield 10, 3) := by decide +kernel
theorem dX5_roll_33 : decode cX5_roll 33 = .ok (.getfield 81, 3) := by decide +kernel
theorem dX5_roll_36 : decode cX5_roll 36 = .ok (.aload_n 2, 1) := by decide +kernel
theorem dX5_roll_37 : decode cX5_roll 37 = .ok (.getfield 251, 3) := by decide +kernel
theorem dX5_roll_40 : decode cX5_roll 40 = .ok (.invokestatic 275, 3) := by decide +kernel
theorem dX5_roll_43 : decode cX5_roll 43 = .ok (.istore_n 3, 1) := by decide +kernel
theorem dX5_roll_44 : decode cX5_roll 44 = .ok (.iconst 0, 1) := by decide +kernel
theorem dX5_roll_45 : decode cX5_roll 45 = .ok (.istore 4, 2) := by decide +kernel
theorem dX5_roll_47 : decode cX5_roll 47 = .ok (.iload 4, 2) := by decide +kernel
theorem dX5_roll_49 : decode cX5_roll 49 = .ok (.iload_n 3, 1) := by decide +kernel
theorem dX5_roll_50 : decode cX5_roll 50 = .ok (.if_icmp .ge 25, 3) := by decide +kernel
theorem dX5_roll_53 : decode cX5_roll 53 = .ok (.aload_n 2, 1) := by decide +kernel
theorem dX5_roll_54 : decode cX5_roll 54 = .ok (.iload 4, 2) := by decide +kernel
theorem dX5_roll_56 : decode cX5_roll 56 = .ok (.aload_n 0, 1) := by decide +kernel
theorem dX5_roll_57 : decode cX5_roll 57 = .ok (.getfield 10, 3) := by decide +kernel
theorem dX5_roll_60 : decode cX5_roll 60 = .ok (.iload 4, 2) := by decide +kernel
theorem dX5_roll_62 : decode cX5_roll 62 = .ok (.invokevirtual 280, 3) := by decide +kernel
theorem dX5_roll_65 : decode cX5_roll 65 = .ok (.i2l, 1) := by decide +kernel
theorem dX5_roll_66 : decode cX5_roll 66 = .ok (.invokevirtual 256, 3) := by decide +kernel
theorem dX5_roll_69 : decode cX5_roll 69 = .ok (.iinc 4 1, 3) := by decide +kernel
theorem dX5_roll_72 : decode cX5_roll 72 = .ok (.goto (-25), 3) := by decide +kernel
theorem dX5_roll_75 : decode cX5_roll 75 = .ok (.iload_n 3, 1) := by decide +kernel
theorem dX5_roll_76 : decode cX5_roll 76 = .ok (.ireturn, 1) := by decide +kernel
theorem dX5_read_0 : decode cX5_read 0 = .ok (.aload_n 0, 1) := by decide +kernel
theorem dX5_read_1 : decode cX5_read 1 = .ok (.iload_n 1, 1) := by decide +kernel
theorem dX5_read_2 : decode cX5_read 2 = .ok (.invokevirtual 210, 3) := by decide +kernel
theorem dX5_read_5 : decode cX5_read 5 = .ok (.astore_n 2, 1) := by decide +kernel
theorem dX5_read_6 : decode cX5_read 6 = .ok (.aload_n 2, 1) := by decide +kernel
theorem dX5_read_7 : decode cX5_read 7 = .ok (.ifnonnull 9, 3) := by decide +kernel
theorem dX5_read_10 : decode cX5_read 10 = .ok (.aload_n 0, 1) := by decide +kernel
theorem dX5_read_11 : decode cX5_read 11 = .ok (.iconst 0, 1) := by decide +kernel
theorem dX5_read_12 : decode cX5_read 12 = .ok (.invokevirtual 62, 3) := by decide +kernel
theorem dX5_read_15 : decode cX5_read 15 = .ok (.ireturn, 1) := by decide +kernel
theorem dX5_read_16 : decode cX5_read 16 = .ok (.aload_n 2, 1) := by decide +kernel
theorem dX5_read_17 : decode cX5_read 17 = .ok (.invokevirtual 214, 3) := by decide +kernel
theorem dX5_read_20 : decode cX5_read 20 = .ok (.ifCond .eq 9, 3) := by decide +kernel
theorem dX5_read_23 : decode cX5_read 23 = .ok (.aload_n 0, 1) := by decide +kernel
theorem dX5_read_24 : decode cX5_read 24 = .ok (.iconst 5, 1) := by decide +kernel
theorem dX5_read_25 : decode cX5_read 25 = .ok (.invokevirtual 62, 3) := by decide +kernel
theorem dX5_read_28 : decode cX5_read 28 = .ok (.ireturn, 1) := by decide +kernel
theorem dX5_read_29 : decode cX5_read 29 = .ok (.aload_n 0, 1) := by decide +kernel
theorem dX5_read_30 : decode cX5_read 30 = .ok (.getfield 10, 3) := by decide +kernel
theorem dX5_read_33 : decode cX5_read 33 = .ok (.getfield 81, 3) := by decide +kernel
theorem dX5_read_36 : decode cX5_read 36 = .ok (.aload_n 2, 1) := by decide +kernel
theorem dX5_read_37 : decode cX5_read 37 = .ok (.getfield 251, 3) := by decide +kernel
theorem dX5_read_40 : decode cX5_read 40 = .ok (.invokestatic 275, 3) := by decide +kernel
theorem dX5_read_43 : decode cX5_read 43 = .ok (.istore_n 3, 1) := by decide +kernel
theorem dX5_read_44 : decode cX5_read 44 = .ok (.iconst 0, 1) := by decide +kernel
theorem dX5_read_45 : decode cX5_read 45 = .ok (.istore 4, 2) := by decide +kernel
theorem dX5_read_47 : decode cX5_read 47 = .ok (.iload 4, 2) := by decide +kernel
theorem dX5_read_49 : decode cX5_read 49 = .ok (.iload_n 3, 1) := by decide +kernel
theorem dX5_read_50 : decode cX5_read 50 = .ok (.if_icmp .ge 35, 3) := by decide +kernel
theorem dX5_read_53 : decode cX5_read 53 = .ok (.aload_n 2, 1) := by decide +kernel
theorem dX5_read_54 : decode cX5_read 54 = .ok (.getfield 252, 3) := by decide +kernel
theorem dX5_read_57 : decode cX5_read 57 = .ok (.iload 4, 2) := by decide +kernel
theorem dX5_read_59 : decode cX5_read 59 = .ok (.laload, 1) := by decide +kernel
theorem dX5_read_60 : decode cX5_read 60 = .ok (.aload_n 0, 1) := by decide +kernel
theorem dX5_read_61 : decode cX5_read 61 = .ok (.getfield 10, 3) := by decide +kernel
theorem dX5_read_64 : decode cX5_read 64 = .ok (.iload 4, 2) := by decide +kernel
theorem dX5_read_66 : decode cX5_read 66 = .ok (.invokevirtual 280, 3) := by decide +kernel
theorem dX5_read_69 : decode cX5_read 69 = .ok (.i2l, 1) := by decide +kernel
theorem dX5_read_70 : decode cX5_read 70 = .ok (.lcmp, 1) := by decide +kernel
theorem dX5_read_71 : decode cX5_read 71 = .ok (.ifCond .eq 8, 3) := by decide +kernel
theorem dX5_read_74 : decode cX5_read 74 = .ok (.iconst 1, 1) := by decide +kernel
theorem dX5_read_75 : decode cX5_read 75 = .ok (.iload 4, 2) := by decide +kernel
theorem dX5_read_77 : decode cX5_read 77 = .ok (.iadd, 1) := by decide +kernel
theorem dX5_read_78 : decode cX5_read 78 = .ok (.ireturn, 1) := by decide +kernel
theorem dX5_read_79 : decode cX5_read 79 = .ok (.iinc 4 1, 3) := by decide +kernel
theorem dX5_read_82 : decode cX5_read 82 = .ok (.goto (-35), 3) := by decide +kernel
theorem dX5_read_85 : decode cX5_read 85 = .ok (.aload_n 0, 1) := by decide +kernel
theorem dX5_read_86 : decode cX5_read 86 = .ok (.getfield 10, 3) := by decide +kernel
theorem dX5_read_89 : decode cX5_read 89 = .ok (.getfield 81, 3) := by decide +kernel
theorem dX5_read_92 : decode cX5_read 92 = .ok (.aload_n 2, 1) := by decide +kernel
theorem dX5_read_93 : decode cX5_read 93 = .ok (.getfield 251, 3) := by decide +kernel
theorem dX5_read_96 : decode cX5_read 96 = .ok (.if_icmp .ne 7, 3) := by decide +kernel
theorem dX5_read_99 : decode cX5_read 99 = .ok (.iconst 0, 1) := by decide +kernel
theorem dX5_read_100 : decode cX5_read 100 = .ok (.goto 6, 3) := by decide +kernel
theorem dX5_read_103 : decode cX5_read 103 = .ok (.iconst 1, 1) := by decide +kernel
theorem dX5_read_104 : decode cX5_read 104 = .ok (.iload_n 3, 1) := by decide +kernel
theorem dX5_read_105 : decode cX5_read 105 = .ok (.iadd, 1) := by decide +kernel
theorem dX5_read_106 : decode cX5_read 106 = .ok (.ireturn, 1) := by decide +kernel
theorem dX5_image_0 : decode cX5_image 0 = .ok (.aload_n 0, 1) := by decide +kernel
theorem dX5_image_1 : decode cX5_image 1 = .ok (.getfield 16, 3) := by decide +kernel
theorem dX5_image_4 : decode cX5_image 4 = .ok (.aload_n 0, 1) := by decide +kernel
theorem dX5_image_5 : decode cX5_image 5 = .ok (.getfield 10, 3) := by decide +kernel
theorem dX5_image_8 : decode cX5_image 8 = .ok (.invokevirtual 168, 3) := by decide +kernel
theorem dX5_image_11 : decode cX5_image 11 = .ok (.aload_n 0, 1) := by decide +kernel
theorem dX5_image_12 : decode cX5_image 12 = .ok (.iconst 1, 1) := by decide +kernel
theorem dX5_image_13 : decode cX5_image 13 = .ok (.putfield 283, 3) := by decide +kernel
theorem dX5_image_16 : decode cX5_image 16 = .ok (.iconst 1, 1) := by decide +kernel
theorem dX5_image_17 : decode cX5_image 17 = .ok (.ireturn, 1) := by decide +kernel
theorem dX5_undo_0 : decode cX5_undo 0 = .ok (.aload_n 0, 1) := by decide +kernel
theorem dX5_undo_1 : decode cX5_undo 1 = .ok (.getfield 283, 3) := by decide +kernel
theorem dX5_undo_4 : decode cX5_undo 4 = .ok (.ifCond .ne 9, 3) := by decide +kernel
theorem dX5_undo_7 : decode cX5_undo 7 = .ok (.aload_n 0, 1) := by decide +kernel
theorem dX5_undo_8 : decode cX5_undo 8 = .ok (.iconst 3, 1) := by decide +kernel
theorem dX5_undo_9 : decode cX5_undo 9 = .ok (.invokevirtual 62, 3) := by decide +kernel
theorem dX5_undo_12 : decode cX5_undo 12 = .ok (.ireturn, 1) := by decide +kernel
theorem dX5_undo_13 : decode cX5_undo 13 = .ok (.aload_n 0, 1) := by decide +kernel
theorem dX5_undo_14 : decode cX5_undo 14 = .ok (.getfield 10, 3) := by decide +kernel
theorem dX5_undo_17 : decode cX5_undo 17 = .ok (.aload_n 0, 1) := by decide +kernel
theorem dX5_undo_18 : decode cX5_undo 18 = .ok (.getfield 16, 3) := by decide +kernel
theorem dX5_undo_21 : decode cX5_undo 21 = .ok (.invokevirtual 168, 3) := by decide +kernel
theorem dX5_undo_24 : decode cX5_undo 24 = .ok (.aload_n 0, 1) := by decide +kernel
theorem dX5_undo_25 : decode cX5_undo 25 = .ok (.getfield 10, 3) := by decide +kernel
theorem dX5_undo_28 : decode cX5_undo 28 = .ok (.getfield 81, 3) := by decide +kernel
theorem dX5_undo_31 : decode cX5_undo 31 = .ok (.ireturn, 1) := by decide +kernel
theorem dX5_tear_0 : decode cX5_tear 0 = .ok (.aload_n 0, 1) := by decide +kernel
theorem dX5_tear_1 : decode cX5_tear 1 = .ok (.getfield 283, 3) := by decide +kernel
theorem dX5_tear_4 : decode cX5_tear 4 = .ok (.ifCond .eq 7, 3) := by decide +kernel
theorem dX5_tear_7 : decode cX5_tear 7 = .ok (.iconst 1, 1) := by decide +kernel
theorem dX5_tear_8 : decode cX5_tear 8 = .ok (.goto 4, 3) := by decide +kernel
theorem dX5_tear_11 : decode cX5_tear 11 = .ok (.iconst 0, 1) := by decide +kernel
theorem dX5_tear_12 : decode cX5_tear 12 = .ok (.istore_n 1, 1) := by decide +kernel
theorem dX5_tear_13 : decode cX5_tear 13 = .ok (.aload_n 0, 1) := by decide +kernel
theorem dX5_tear_14 : decode cX5_tear 14 = .ok (.iconst 0, 1) := by decide +kernel
theorem dX5_tear_15 : decode cX5_tear 15 = .ok (.putfield 283, 3) := by decide +kernel
theorem dX5_tear_18 : decode cX5_tear 18 = .ok (.iload_n 1, 1) := by decide +kernel
theorem dX5_tear_19 : decode cX5_tear 19 = .ok (.ireturn, 1) := by decide +kernel
theorem dX5_count_0 : decode cX5_count 0 = .ok (.iload_n 1, 1) := by decide +kernel
theorem dX5_count_1 : decode cX5_count 1 = .ok (.tableswitch 63 0 3 #[31, 39, 47, 55], 31) := by decide +kernel
theorem dX5_count_32 : decode cX5_count 32 = .ok (.aload_n 0, 1) := by decide +kernel
theorem dX5_count_33 : decode cX5_count 33 = .ok (.getfield 10, 3) := by decide +kernel
theorem dX5_count_36 : decode cX5_count 36 = .ok (.getfield 81, 3) := by decide +kernel
theorem dX5_count_39 : decode cX5_count 39 = .ok (.ireturn, 1) := by decide +kernel
theorem dX5_count_40 : decode cX5_count 40 = .ok (.aload_n 0, 1) := by decide +kernel
theorem dX5_count_41 : decode cX5_count 41 = .ok (.getfield 10, 3) := by decide +kernel
theorem dX5_count_44 : decode cX5_count 44 = .ok (.getfield 128, 3) := by decide +kernel
theorem dX5_count_47 : decode cX5_count 47 = .ok (.ireturn, 1) := by decide +kernel
theorem dX5_count_48 : decode cX5_count 48 = .ok (.aload_n 0, 1) := by decide +kernel
theorem dX5_count_49 : decode cX5_count 49 = .ok (.getfield 39, 3) := by decide +kernel
theorem dX5_count_52 : decode cX5_count 52 = .ok (.getfield 235, 3) := by decide +kernel
theorem dX5_count_55 : decode cX5_count 55 = .ok (.ireturn, 1) := by decide +kernel
theorem dX5_count_56 : decode cX5_count 56 = .ok (.aload_n 0, 1) := by decide +kernel
theorem dX5_count_57 : decode cX5_count 57 = .ok (.getfield 10, 3) := by decide +kernel
theorem dX5_count_60 : decode cX5_count 60 = .ok (.invokevirtual 287, 3) := by decide +kernel
theorem dX5_count_63 : decode cX5_count 63 = .ok (.ireturn, 1) := by decide +kernel
theorem dX5_count_64 : decode cX5_count 64 = .ok (.aload_n 0, 1) := by decide +kernel
theorem dX5_count_65 : decode cX5_count 65 = .ok (.iconst 0, 1) := by decide +kernel
theorem dX5_count_66 : decode cX5_count 66 = .ok (.invokevirtual 62, 3) := by decide +kernel
theorem dX5_count_69 : decode cX5_count 69 = .ok (.ireturn, 1) := by decide +kernel
theorem dX5_status_0 : decode cX5_status 0 = .ok (.iload_n 1, 1) := by decide +kernel
theorem dX5_status_1 : decode cX5_status 1 = .ok (.iconst (-1), 1) := by decide +kernel
theorem dX5_status_2 : decode cX5_status 2 = .ok (.if_icmp .lt 9, 3) := by decide +kernel
theorem dX5_status_5 : decode cX5_status 5 = .ok (.iload_n 1, 1) := by decide +kernel
theorem dX5_status_6 : decode cX5_status 6 = .ok (.bipush 7, 2) := by decide +kernel
theorem dX5_status_8 : decode cX5_status 8 = .ok (.if_icmp .lt 9, 3) := by decide +kernel
theorem dX5_status_11 : decode cX5_status 11 = .ok (.aload_n 0, 1) := by decide +kernel
theorem dX5_status_12 : decode cX5_status 12 = .ok (.iconst 0, 1) := by decide +kernel
theorem dX5_status_13 : decode cX5_status 13 = .ok (.invokevirtual 62, 3) := by decide +kernel
theorem dX5_status_16 : decode cX5_status 16 = .ok (.ireturn, 1) := by decide +kernel
theorem dX5_status_17 : decode cX5_status 17 = .ok (.iload_n 1, 1) := by decide +kernel
theorem dX5_status_18 : decode cX5_status 18 = .ok (.ifCond .lt 10, 3) := by decide +kernel
theorem dX5_status_21 : decode cX5_status 21 = .ok (.aload_n 0, 1) := by decide +kernel
theorem dX5_status_22 : decode cX5_status 22 = .ok (.getfield 49, 3) := by decide +kernel
theorem dX5_status_25 : decode cX5_status 25 = .ok (.iload_n 1, 1) := by decide +kernel
theorem dX5_status_26 : decode cX5_status 26 = .ok (.iaload, 1) := by decide +kernel
theorem dX5_status_27 : decode cX5_status 27 = .ok (.ireturn, 1) := by decide +kernel
theorem dX5_status_28 : decode cX5_status 28 = .ok (.iconst 0, 1) := by decide +kernel
theorem dX5_status_29 : decode cX5_status 29 = .ok (.istore_n 2, 1) := by decide +kernel
theorem dX5_status_30 : decode cX5_status 30 = .ok (.iconst 0, 1) := by decide +kernel
theorem dX5_status_31 : decode cX5_status 31 = .ok (.istore_n 3, 1) := by decide +kernel
theorem dX5_status_32 : decode cX5_status 32 = .ok (.iload_n 3, 1) := by decide +kernel
theorem dX5_status_33 : decode cX5_status 33 = .ok (.bipush 7, 2) := by decide +kernel
theorem dX5_status_35 : decode cX5_status 35 = .ok (.if_icmp .ge 18, 3) := by decide +kernel
theorem dX5_status_38 : decode cX5_status 38 = .ok (.iload_n 2, 1) := by decide +kernel
theorem dX5_status_39 : decode cX5_status 39 = .ok (.aload_n 0, 1) := by decide +kernel
theorem dX5_status_40 : decode cX5_status 40 = .ok (.getfield 49, 3) := by decide +kernel
theorem dX5_status_43 : decode cX5_status 43 = .ok (.iload_n 3, 1) := by decide +kernel
theorem dX5_status_44 : decode cX5_status 44 = .ok (.iaload, 1) := by decide +kernel
theorem dX5_status_45 : decode cX5_status 45 = .ok (.iadd, 1) := by decide +kernel
theorem dX5_status_46 : decode cX5_status 46 = .ok (.istore_n 2, 1) := by decide +kernel
theorem dX5_status_47 : decode cX5_status 47 = .ok (.iinc 3 1, 3) := by decide +kernel
theorem dX5_status_50 : decode cX5_status 50 = .ok (.goto (-18), 3) := by decide +kernel
theorem dX5_status_53 : decode cX5_status 53 = .ok (.iload_n 2, 1) := by decide +kernel
theorem dX5_status_54 : decode cX5_status 54 = .ok (.ireturn, 1) := by decide +kernel
theorem dX5_finding_0 : decode cX5_finding 0 = .ok (.aload_n 0, 1) := by decide +kernel
theorem dX5_finding_1 : decode cX5_finding 1 = .ok (.getfield 49, 3) := by decide +kernel
theorem dX5_finding_4 : decode cX5_finding 4 = .ok (.iload_n 1, 1) := by decide +kernel
theorem dX5_finding_5 : decode cX5_finding 5 = .ok (.dup2, 1) := by decide +kernel
theorem dX5_finding_6 : decode cX5_finding 6 = .ok (.iaload, 1) := by decide +kernel
theorem dX5_finding_7 : decode cX5_finding 7 = .ok (.iconst 1, 1) := by decide +kernel
theorem dX5_finding_8 : decode cX5_finding 8 = .ok (.iadd, 1) := by decide +kernel
theorem dX5_finding_9 : decode cX5_finding 9 = .ok (.iastore, 1) := by decide +kernel
theorem dX5_finding_10 : decode cX5_finding 10 = .ok (.ldc_w 290, 3) := by decide +kernel
theorem dX5_finding_13 : decode cX5_finding 13 = .ok (.iload_n 1, 1) := by decide +kernel
theorem dX5_finding_14 : decode cX5_finding 14 = .ok (.isub, 1) := by decide +kernel
theorem dX5_finding_15 : decode cX5_finding 15 = .ok (.ireturn, 1) := by decide +kernel
theorem dX5_isWithin_0 : decode cX5_isWithin 0 = .ok (.iload_n 0, 1) := by decide +kernel
theorem dX5_isWithin_1 : decode cX5_isWithin 1 = .ok (.ifCond .lt 12, 3) := by decide +kernel
theorem dX5_isWithin_4 : decode cX5_isWithin 4 = .ok (.iload_n 0, 1) := by decide +kernel
theorem dX5_isWithin_5 : decode cX5_isWithin 5 = .ok (.iload_n 1, 1) := by decide +kernel
theorem dX5_isWithin_6 : decode cX5_isWithin 6 = .ok (.if_icmp .gt 7, 3) := by decide +kernel
theorem dX5_isWithin_9 : decode cX5_isWithin 9 = .ok (.iconst 1, 1) := by decide +kernel
theorem dX5_isWithin_10 : decode cX5_isWithin 10 = .ok (.goto 4, 3) := by decide +kernel
theorem dX5_isWithin_13 : decode cX5_isWithin 13 = .ok (.iconst 0, 1) := by decide +kernel
theorem dX5_isWithin_14 : decode cX5_isWithin 14 = .ok (.ireturn, 1) := by decide +kernel
theorem dX5_isKing_0 : decode cX5_isKing 0 = .ok (.iload_n 0, 1) := by decide +kernel
theorem dX5_isKing_1 : decode cX5_isKing 1 = .ok (.ifCond .lt 13, 3) := by decide +kernel
theorem dX5_isKing_4 : decode cX5_isKing 4 = .ok (.iload_n 0, 1) := by decide +kernel
theorem dX5_isKing_5 : decode cX5_isKing 5 = .ok (.bipush 6, 2) := by decide +kernel
theorem dX5_isKing_7 : decode cX5_isKing 7 = .ok (.if_icmp .ge 7, 3) := by decide +kernel
theorem dX5_isKing_10 : decode cX5_isKing 10 = .ok (.iconst 1, 1) := by decide +kernel
theorem dX5_isKing_11 : decode cX5_isKing 11 = .ok (.goto 4, 3) := by decide +kernel
theorem dX5_isKing_14 : decode cX5_isKing 14 = .ok (.iconst 0, 1) := by decide +kernel
theorem dX5_isKing_15 : decode cX5_isKing 15 = .ok (.ireturn, 1) := by decide +kernel
theorem dX5_areTwoKings_0 : decode cX5_areTwoKings 0 = .ok (.iload_n 0, 1) := by decide +kernel
theorem dX5_areTwoKings_1 : decode cX5_areTwoKings 1 = .ok (.invokestatic 54, 3) := by decide +kernel
theorem dX5_areTwoKings_4 : decode cX5_areTwoKings 4 = .ok (.ifCond .eq 19, 3) := by decide +kernel
theorem dX5_areTwoKings_7 : decode cX5_areTwoKings 7 = .ok (.iload_n 1, 1) := by decide +kernel
theorem dX5_areTwoKings_8 : decode cX5_areTwoKings 8 = .ok (.invokestatic 54, 3) := by decide +kernel
theorem dX5_areTwoKings_11 : decode cX5_areTwoKings 11 = .ok (.ifCond .eq 12, 3) := by decide +kernel
theorem dX5_areTwoKings_14 : decode cX5_areTwoKings 14 = .ok (.iload_n 0, 1) := by decide +kernel
theorem dX5_areTwoKings_15 : decode cX5_areTwoKings 15 = .ok (.iload_n 1, 1) := by decide +kernel
theorem dX5_areTwoKings_16 : decode cX5_areTwoKings 16 = .ok (.if_icmp .eq 7, 3) := by decide +kernel
theorem dX5_areTwoKings_19 : decode cX5_areTwoKings 19 = .ok (.iconst 1, 1) := by decide +kernel
theorem dX5_areTwoKings_20 : decode cX5_areTwoKings 20 = .ok (.goto 4, 3) := by decide +kernel
theorem dX5_areTwoKings_23 : decode cX5_areTwoKings 23 = .ok (.iconst 0, 1) := by decide +kernel
theorem dX5_areTwoKings_24 : decode cX5_areTwoKings 24 = .ok (.ireturn, 1) := by decide +kernel
theorem dX5_isKind_0 : decode cX5_isKind 0 = .ok (.iload_n 0, 1) := by decide +kernel
theorem dX5_isKind_1 : decode cX5_isKind 1 = .ok (.ifCond .lt 13, 3) := by decide +kernel
theorem dX5_isKind_4 : decode cX5_isKind 4 = .ok (.iload_n 0, 1) := by decide +kernel
theorem dX5_isKind_5 : decode cX5_isKind 5 = .ok (.bipush 6, 2) := by decide +kernel
theorem dX5_isKind_7 : decode cX5_isKind 7 = .ok (.if_icmp .ge 7, 3) := by decide +kernel
theorem dX5_isKind_10 : decode cX5_isKind 10 = .ok (.iconst 1, 1) := by decide +kernel
theorem dX5_isKind_11 : decode cX5_isKind 11 = .ok (.goto 4, 3) := by decide +kernel
theorem dX5_isKind_14 : decode cX5_isKind 14 = .ok (.iconst 0, 1) := by decide +kernel
theorem dX5_isKind_15 : decode cX5_isKind 15 = .ok (.ireturn, 1) := by decide +kernel
theorem dX5_isChild_0 : decode cX5_isChild 0 = .ok (.iload_n 1, 1) := by decide +kernel
theorem dX5_isChild_1 : decode cX5_isChild 1 = .ok (.ifCond .lt 18, 3) := by decide +kernel
theorem dX5_isChild_4 : decode cX5_isChild 4 = .ok (.iload_n 1, 1) := by decide +kernel
theorem dX5_isChild_5 : decode cX5_isChild 5 = .ok (.aload_n 0, 1) := by decide +kernel
theorem dX5_isChild_6 : decode cX5_isChild 6 = .ok (.getfield 10, 3) := by decide +kernel
theorem dX5_isChild_9 : decode cX5_isChild 9 = .ok (.getfield 81, 3) := by decide +kernel
theorem dX5_isChild_12 : decode cX5_isChild 12 = .ok (.if_icmp .ge 7, 3) := by decide +kernel
theorem dX5_isChild_15 : decode cX5_isChild 15 = .ok (.iconst 1, 1) := by decide +kernel
theorem dX5_isChild_16 : decode cX5_isChild 16 = .ok (.goto 4, 3) := by decide +kernel
theorem dX5_isChild_19 : decode cX5_isChild 19 = .ok (.iconst 0, 1) := by decide +kernel
theorem dX5_isChild_20 : decode cX5_isChild 20 = .ok (.ireturn, 1) := by decide +kernel
theorem dX5_isTreaty_0 : decode cX5_isTreaty 0 = .ok (.iload_n 1, 1) := by decide +kernel
theorem dX5_isTreaty_1 : decode cX5_isTreaty 1 = .ok (.ifCond .lt 18, 3) := by decide +kernel
theorem dX5_isTreaty_4 : decode cX5_isTreaty 4 = .ok (.iload_n 1, 1) := by decide +kernel
theorem dX5_isTreaty_5 : decode cX5_isTreaty 5 = .ok (.aload_n 0, 1) := by decide +kernel
theorem dX5_isTreaty_6 : decode cX5_isTreaty 6 = .ok (.getfield 10, 3) := by decide +kernel
theorem dX5_isTreaty_9 : decode cX5_isTreaty 9 = .ok (.getfield 128, 3) := by decide +kernel
theorem dX5_isTreaty_12 : decode cX5_isTreaty 12 = .ok (.if_icmp .ge 7, 3) := by decide +kernel
theorem dX5_isTreaty_15 : decode cX5_isTreaty 15 = .ok (.iconst 1, 1) := by decide +kernel
theorem dX5_isTreaty_16 : decode cX5_isTreaty 16 = .ok (.goto 4, 3) := by decide +kernel
theorem dX5_isTreaty_19 : decode cX5_isTreaty 19 = .ok (.iconst 0, 1) := by decide +kernel
theorem dX5_isTreaty_20 : decode cX5_isTreaty 20 = .ok (.ireturn, 1) := by decide +kernel
theorem dX5_isKindUnder_0 : decode cX5_isKindUnder 0 = .ok (.iload_n 0, 1) := by decide +kernel
theorem dX5_isKindUnder_1 : decode cX5_isKindUnder 1 = .ok (.istore_n 2, 1) := by decide +kernel
theorem dX5_isKindUnder_2 : decode cX5_isKindUnder 2 = .ok (.iconst 0, 1) := by decide +kernel
theorem dX5_isKindUnder_3 : decode cX5_isKindUnder 3 = .ok (.istore_n 3, 1) := by decide +kernel
theorem dX5_isKindUnder_4 : decode cX5_isKindUnder 4 = .ok (.iload_n 3, 1) := by decide +kernel
theorem dX5_isKindUnder_5 : decode cX5_isKindUnder 5 = .ok (.bipush 6, 2) := by decide +kernel
theorem dX5_isKindUnder_7 : decode cX5_isKindUnder 7 = .ok (.if_icmp .ge 26, 3) := by decide +kernel
theorem dX5_isKindUnder_10 : decode cX5_isKindUnder 10 = .ok (.iload_n 2, 1) := by decide +kernel
theorem dX5_isKindUnder_11 : decode cX5_isKindUnder 11 = .ok (.ifCond .lt 22, 3) := by decide +kernel
theorem dX5_isKindUnder_14 : decode cX5_isKindUnder 14 = .ok (.iload_n 2, 1) := by decide +kernel
theorem dX5_isKindUnder_15 : decode cX5_isKindUnder 15 = .ok (.iload_n 1, 1) := by decide +kernel
theorem dX5_isKindUnder_16 : decode cX5_isKindUnder 16 = .ok (.if_icmp .ne 5, 3) := by decide +kernel
theorem dX5_isKindUnder_19 : decode cX5_isKindUnder 19 = .ok (.iconst 1, 1) := by decide +kernel
theorem dX5_isKindUnder_20 : decode cX5_isKindUnder 20 = .ok (.ireturn, 1) := by decide +kernel
theorem dX5_isKindUnder_21 : decode cX5_isKindUnder 21 = .ok (.getstatic 291, 3) := by decide +kernel
theorem dX5_isKindUnder_24 : decode cX5_isKindUnder 24 = .ok (.iload_n 2, 1) := by decide +kernel
theorem dX5_isKindUnder_25 : decode cX5_isKindUnder 25 = .ok (.iaload, 1) := by decide +kernel
theorem dX5_isKindUnder_26 : decode cX5_isKindUnder 26 = .ok (.istore_n 2, 1) := by decide +kernel
theorem dX5_isKindUnder_27 : decode cX5_isKindUnder 27 = .ok (.iinc 3 1, 3) := by decide +kernel
theorem dX5_isKindUnder_30 : decode cX5_isKindUnder 30 = .ok (.goto (-26), 3) := by decide +kernel
theorem dX5_isKindUnder_33 : decode cX5_isKindUnder 33 = .ok (.iconst 0, 1) := by decide +kernel
theorem dX5_isKindUnder_34 : decode cX5_isKindUnder 34 = .ok (.ireturn, 1) := by decide +kernel
theorem dX5_sheetAt_0 : decode cX5_sheetAt 0 = .ok (.iload_n 1, 1) := by decide +kernel
theorem dX5_sheetAt_1 : decode cX5_sheetAt 1 = .ok (.ifCond .lt 17, 3) := by decide +kernel
theorem dX5_sheetAt_4 : decode cX5_sheetAt 4 = .ok (.iload_n 1, 1) := by decide +kernel
theorem dX5_sheetAt_5 : decode cX5_sheetAt 5 = .ok (.iconst 4, 1) := by decide +kernel
theorem dX5_sheetAt_6 : decode cX5_sheetAt 6 = .ok (.if_icmp .ge 12, 3) := by decide +kernel
theorem dX5_sheetAt_9 : decode cX5_sheetAt 9 = .ok (.aload_n 0, 1) := by decide +kernel
theorem dX5_sheetAt_10 : decode cX5_sheetAt 10 = .ok (.getfield 45, 3) := by decide +kernel
theorem dX5_sheetAt_13 : decode cX5_sheetAt 13 = .ok (.iload_n 1, 1) := by decide +kernel
theorem dX5_sheetAt_14 : decode cX5_sheetAt 14 = .ok (.aaload, 1) := by decide +kernel
theorem dX5_sheetAt_15 : decode cX5_sheetAt 15 = .ok (.goto 4, 3) := by decide +kernel
theorem dX5_sheetAt_18 : decode cX5_sheetAt 18 = .ok (.aconst_null, 1) := by decide +kernel
theorem dX5_sheetAt_19 : decode cX5_sheetAt 19 = .ok (.areturn, 1) := by decide +kernel
theorem dX5_broughtDownWith_0 : decode cX5_broughtDownWith 0 = .ok (.aload_n 0, 1) := by decide +kernel
theorem dX5_broughtDownWith_1 : decode cX5_broughtDownWith 1 = .ok (.getfield 19, 3) := by decide +kernel
theorem dX5_broughtDownWith_4 : decode cX5_broughtDownWith 4 = .ok (.aload_n 0, 1) := by decide +kernel
theorem dX5_broughtDownWith_5 : decode cX5_broughtDownWith 5 = .ok (.getfield 10, 3) := by decide +kernel
theorem dX5_broughtDownWith_8 : decode cX5_broughtDownWith 8 = .ok (.invokevirtual 168, 3) := by decide +kernel
theorem dX5_broughtDownWith_11 : decode cX5_broughtDownWith 11 = .ok (.aload_n 0, 1) := by decide +kernel
theorem dX5_broughtDownWith_12 : decode cX5_broughtDownWith 12 = .ok (.getfield 19, 3) := by decide +kernel
theorem dX5_broughtDownWith_15 : decode cX5_broughtDownWith 15 = .ok (.iconst 1, 1) := by decide +kernel
theorem dX5_broughtDownWith_16 : decode cX5_broughtDownWith 16 = .ok (.iload_n 1, 1) := by decide +kernel
theorem dX5_broughtDownWith_17 : decode cX5_broughtDownWith 17 = .ok (.ishl, 1) := by decide +kernel
theorem dX5_broughtDownWith_18 : decode cX5_broughtDownWith 18 = .ok (.invokevirtual 294, 3) := by decide +kernel
theorem dX5_broughtDownWith_21 : decode cX5_broughtDownWith 21 = .ok (.aload_n 0, 1) := by decide +kernel
theorem dX5_broughtDownWith_22 : decode cX5_broughtDownWith 22 = .ok (.getfield 19, 3) := by decide +kernel
theorem dX5_broughtDownWith_25 : decode cX5_broughtDownWith 25 = .ok (.invokevirtual 165, 3) := by decide +kernel
theorem dX5_broughtDownWith_28 : decode cX5_broughtDownWith 28 = .ok (.pop, 1) := by decide +kernel
theorem dX5_broughtDownWith_29 : decode cX5_broughtDownWith 29 = .ok (.aload_n 0, 1) := by decide +kernel
theorem dX5_broughtDownWith_30 : decode cX5_broughtDownWith 30 = .ok (.getfield 19, 3) := by decide +kernel
theorem dX5_broughtDownWith_33 : decode cX5_broughtDownWith 33 = .ok (.getfield 172, 3) := by decide +kernel
theorem dX5_broughtDownWith_36 : decode cX5_broughtDownWith 36 = .ok (.aload_n 0, 1) := by decide +kernel
theorem dX5_broughtDownWith_37 : decode cX5_broughtDownWith 37 = .ok (.getfield 10, 3) := by decide +kernel
theorem dX5_broughtDownWith_40 : decode cX5_broughtDownWith 40 = .ok (.getfield 172, 3) := by decide +kernel
theorem dX5_broughtDownWith_43 : decode cX5_broughtDownWith 43 = .ok (.iconst (-1), 1) := by decide +kernel
theorem dX5_broughtDownWith_44 : decode cX5_broughtDownWith 44 = .ok (.ixor, 1) := by decide +kernel
theorem dX5_broughtDownWith_45 : decode cX5_broughtDownWith 45 = .ok (.iand, 1) := by decide +kernel
theorem dX5_broughtDownWith_46 : decode cX5_broughtDownWith 46 = .ok (.ireturn, 1) := by decide +kernel
