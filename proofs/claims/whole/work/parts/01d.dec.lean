theorem dX6_init_0 : decode cX6_init 0 = .ok (.aload_n 0, 1) := by decide +kernel
theorem dX6_init_1 : decode cX6_init 1 = .ok (.invokespecial 1, 3) := by decide +kernel
theorem dX6_init_4 : decode cX6_init 4 = .ok (.aload_n 0, 1) := by decide +kernel
theorem dX6_init_5 : decode cX6_init 5 = .ok (.bipush 6, 2) := by decide +kernel
theorem dX6_init_7 : decode cX6_init 7 = .ok (.newarray .int, 2) := by decide +kernel
theorem dX6_init_9 : decode cX6_init 9 = .ok (.putfield 7, 3) := by decide +kernel
theorem dX6_init_12 : decode cX6_init 12 = .ok (.aload_n 0, 1) := by decide +kernel
theorem dX6_init_13 : decode cX6_init 13 = .ok (.bipush 14, 2) := by decide +kernel
theorem dX6_init_15 : decode cX6_init 15 = .ok (.newarray .int, 2) := by decide +kernel
theorem dX6_init_17 : decode cX6_init 17 = .ok (.putfield 13, 3) := by decide +kernel
theorem dX6_init_20 : decode cX6_init 20 = .ok (.aload_n 0, 1) := by decide +kernel
theorem dX6_init_21 : decode cX6_init 21 = .ok (.bipush 14, 2) := by decide +kernel
theorem dX6_init_23 : decode cX6_init 23 = .ok (.newarray .int, 2) := by decide +kernel
theorem dX6_init_25 : decode cX6_init 25 = .ok (.putfield 16, 3) := by decide +kernel
theorem dX6_init_28 : decode cX6_init 28 = .ok (.aload_n 0, 1) := by decide +kernel
theorem dX6_init_29 : decode cX6_init 29 = .ok (.bipush 14, 2) := by decide +kernel
theorem dX6_init_31 : decode cX6_init 31 = .ok (.newarray .int, 2) := by decide +kernel
theorem dX6_init_33 : decode cX6_init 33 = .ok (.putfield 19, 3) := by decide +kernel
theorem dX6_init_36 : decode cX6_init 36 = .ok (.aload_n 0, 1) := by decide +kernel
theorem dX6_init_37 : decode cX6_init 37 = .ok (.bipush 12, 2) := by decide +kernel
theorem dX6_init_39 : decode cX6_init 39 = .ok (.newarray .int, 2) := by decide +kernel
theorem dX6_init_41 : decode cX6_init 41 = .ok (.putfield 22, 3) := by decide +kernel
theorem dX6_init_44 : decode cX6_init 44 = .ok (.aload_n 0, 1) := by decide +kernel
theorem dX6_init_45 : decode cX6_init 45 = .ok (.bipush 12, 2) := by decide +kernel
theorem dX6_init_47 : decode cX6_init 47 = .ok (.newarray .int, 2) := by decide +kernel
theorem dX6_init_49 : decode cX6_init 49 = .ok (.putfield 25, 3) := by decide +kernel
theorem dX6_init_52 : decode cX6_init 52 = .ok (.aload_n 0, 1) := by decide +kernel
theorem dX6_init_53 : decode cX6_init 53 = .ok (.bipush 12, 2) := by decide +kernel
theorem dX6_init_55 : decode cX6_init 55 = .ok (.newarray .int, 2) := by decide +kernel
theorem dX6_init_57 : decode cX6_init 57 = .ok (.putfield 28, 3) := by decide +kernel
theorem dX6_init_60 : decode cX6_init 60 = .ok (.aload_n 0, 1) := by decide +kernel
theorem dX6_init_61 : decode cX6_init 61 = .ok (.bipush 12, 2) := by decide +kernel
theorem dX6_init_63 : decode cX6_init 63 = .ok (.newarray .int, 2) := by decide +kernel
theorem dX6_init_65 : decode cX6_init 65 = .ok (.putfield 31, 3) := by decide +kernel
theorem dX6_init_68 : decode cX6_init 68 = .ok (.aload_n 0, 1) := by decide +kernel
theorem dX6_init_69 : decode cX6_init 69 = .ok (.bipush 82, 2) := by decide +kernel
theorem dX6_init_71 : decode cX6_init 71 = .ok (.newarray .int, 2) := by decide +kernel
theorem dX6_init_73 : decode cX6_init 73 = .ok (.putfield 34, 3) := by decide +kernel
theorem dX6_init_76 : decode cX6_init 76 = .ok (.aload_n 0, 1) := by decide +kernel
theorem dX6_init_77 : decode cX6_init 77 = .ok (.bipush 7, 2) := by decide +kernel
theorem dX6_init_79 : decode cX6_init 79 = .ok (.newarray .int, 2) := by decide +kernel
theorem dX6_init_81 : decode cX6_init 81 = .ok (.putfield 37, 3) := by decide +kernel
theorem dX6_init_84 : decode cX6_init 84 = .ok (.aload_n 0, 1) := by decide +kernel
theorem dX6_init_85 : decode cX6_init 85 = .ok (.bipush 36, 2) := by decide +kernel
theorem dX6_init_87 : decode cX6_init 87 = .ok (.newarray .int, 2) := by decide +kernel
theorem dX6_init_89 : decode cX6_init 89 = .ok (.putfield 40, 3) := by decide +kernel
theorem dX6_init_92 : decode cX6_init 92 = .ok (.aload_n 0, 1) := by decide +kernel
theorem dX6_init_93 : decode cX6_init 93 = .ok (.bipush 8, 2) := by decide +kernel
theorem dX6_init_95 : decode cX6_init 95 = .ok (.newarray .int, 2) := by decide +kernel
theorem dX6_init_97 : decode cX6_init 97 = .ok (.putfield 43, 3) := by decide +kernel
theorem dX6_init_100 : decode cX6_init 100 = .ok (.aload_n 0, 1) := by decide +kernel
theorem dX6_init_101 : decode cX6_init 101 = .ok (.bipush 8, 2) := by decide +kernel
theorem dX6_init_103 : decode cX6_init 103 = .ok (.newarray .int, 2) := by decide +kernel
theorem dX6_init_105 : decode cX6_init 105 = .ok (.putfield 46, 3) := by decide +kernel
theorem dX6_init_108 : decode cX6_init 108 = .ok (.aload_n 0, 1) := by decide +kernel
theorem dX6_init_109 : decode cX6_init 109 = .ok (.sipush 256, 3) := by decide +kernel
theorem dX6_init_112 : decode cX6_init 112 = .ok (.newarray .boolean, 2) := by decide +kernel
theorem dX6_init_114 : decode cX6_init 114 = .ok (.putfield 49, 3) := by decide +kernel
theorem dX6_init_117 : decode cX6_init 117 = .ok (.aload_n 0, 1) := by decide +kernel
theorem dX6_init_118 : decode cX6_init 118 = .ok (.bipush 120, 2) := by decide +kernel
theorem dX6_init_120 : decode cX6_init 120 = .ok (.newarray .int, 2) := by decide +kernel
theorem dX6_init_122 : decode cX6_init 122 = .ok (.putfield 53, 3) := by decide +kernel
theorem dX6_init_125 : decode cX6_init 125 = .ok (.aload_n 0, 1) := by decide +kernel
theorem dX6_init_126 : decode cX6_init 126 = .ok (.iconst 4, 1) := by decide +kernel
theorem dX6_init_127 : decode cX6_init 127 = .ok (.newarray .int, 2) := by decide +kernel
theorem dX6_init_129 : decode cX6_init 129 = .ok (.putfield 56, 3) := by decide +kernel
theorem dX6_init_132 : decode cX6_init 132 = .ok (.aload_n 0, 1) := by decide +kernel
theorem dX6_init_133 : decode cX6_init 133 = .ok (.iconst 4, 1) := by decide +kernel
theorem dX6_init_134 : decode cX6_init 134 = .ok (.newarray .int, 2) := by decide +kernel
theorem dX6_init_136 : decode cX6_init 136 = .ok (.putfield 59, 3) := by decide +kernel
theorem dX6_init_139 : decode cX6_init 139 = .ok (.aload_n 0, 1) := by decide +kernel
theorem dX6_init_140 : decode cX6_init 140 = .ok (.sipush 160, 3) := by decide +kernel
theorem dX6_init_143 : decode cX6_init 143 = .ok (.newarray .long, 2) := by decide +kernel
theorem dX6_init_145 : decode cX6_init 145 = .ok (.putfield 62, 3) := by decide +kernel
theorem dX6_init_148 : decode cX6_init 148 = .ok (.aload_n 0, 1) := by decide +kernel
theorem dX6_init_149 : decode cX6_init 149 = .ok (.bipush 40, 2) := by decide +kernel
theorem dX6_init_151 : decode cX6_init 151 = .ok (.newarray .long, 2) := by decide +kernel
theorem dX6_init_153 : decode cX6_init 153 = .ok (.putfield 66, 3) := by decide +kernel
theorem dX6_init_156 : decode cX6_init 156 = .ok (.aload_n 0, 1) := by decide +kernel
theorem dX6_init_157 : decode cX6_init 157 = .ok (.sipush 150, 3) := by decide +kernel
theorem dX6_init_160 : decode cX6_init 160 = .ok (.newarray .int, 2) := by decide +kernel
theorem dX6_init_162 : decode cX6_init 162 = .ok (.putfield 69, 3) := by decide +kernel
theorem dX6_init_165 : decode cX6_init 165 = .ok (.aload_n 0, 1) := by decide +kernel
theorem dX6_init_166 : decode cX6_init 166 = .ok (.sipush 150, 3) := by decide +kernel
theorem dX6_init_169 : decode cX6_init 169 = .ok (.newarray .int, 2) := by decide +kernel
theorem dX6_init_171 : decode cX6_init 171 = .ok (.putfield 72, 3) := by decide +kernel
theorem dX6_init_174 : decode cX6_init 174 = .ok (.aload_n 0, 1) := by decide +kernel
theorem dX6_init_175 : decode cX6_init 175 = .ok (.iconst 2, 1) := by decide +kernel
theorem dX6_init_176 : decode cX6_init 176 = .ok (.newarray .int, 2) := by decide +kernel
theorem dX6_init_178 : decode cX6_init 178 = .ok (.putfield 75, 3) := by decide +kernel
theorem dX6_init_181 : decode cX6_init 181 = .ok (.return_, 1) := by decide +kernel
theorem dX6_in_0 : decode cX6_in 0 = .ok (.iload_n 0, 1) := by decide +kernel
theorem dX6_in_1 : decode cX6_in 1 = .ok (.iload_n 1, 1) := by decide +kernel
theorem dX6_in_2 : decode cX6_in 2 = .ok (.if_icmp .lt 12, 3) := by decide +kernel
theorem dX6_in_5 : decode cX6_in 5 = .ok (.iload_n 0, 1) := by decide +kernel
theorem dX6_in_6 : decode cX6_in 6 = .ok (.iload_n 2, 1) := by decide +kernel
theorem dX6_in_7 : decode cX6_in 7 = .ok (.if_icmp .gt 7, 3) := by decide +kernel
theorem dX6_in_10 : decode cX6_in 10 = .ok (.iconst 1, 1) := by decide +kernel
theorem dX6_in_11 : decode cX6_in 11 = .ok (.goto 4, 3) := by decide +kernel
theorem dX6_in_14 : decode cX6_in 14 = .ok (.iconst 0, 1) := by decide +kernel
theorem dX6_in_15 : decode cX6_in 15 = .ok (.ireturn, 1) := by decide +kernel
theorem dX6_finds_0 : decode cX6_finds 0 = .ok (.aload_n 0, 1) := by decide +kernel
theorem dX6_finds_1 : decode cX6_finds 1 = .ok (.getfield 37, 3) := by decide +kernel
theorem dX6_finds_4 : decode cX6_finds 4 = .ok (.ldc 78, 2) := by decide +kernel
theorem dX6_finds_6 : decode cX6_finds 6 = .ok (.iload_n 1, 1) := by decide +kernel
theorem dX6_finds_7 : decode cX6_finds 7 = .ok (.isub, 1) := by decide +kernel
theorem dX6_finds_8 : decode cX6_finds 8 = .ok (.dup2, 1) := by decide +kernel
theorem dX6_finds_9 : decode cX6_finds 9 = .ok (.iaload, 1) := by decide +kernel
theorem dX6_finds_10 : decode cX6_finds 10 = .ok (.iconst 1, 1) := by decide +kernel
theorem dX6_finds_11 : decode cX6_finds 11 = .ok (.iadd, 1) := by decide +kernel
theorem dX6_finds_12 : decode cX6_finds 12 = .ok (.iastore, 1) := by decide +kernel
theorem dX6_finds_13 : decode cX6_finds 13 = .ok (.iload_n 1, 1) := by decide +kernel
theorem dX6_finds_14 : decode cX6_finds 14 = .ok (.ireturn, 1) := by decide +kernel
theorem dX6_isKing_0 : decode cX6_isKing 0 = .ok (.iload_n 0, 1) := by decide +kernel
theorem dX6_isKing_1 : decode cX6_isKing 1 = .ok (.iconst 0, 1) := by decide +kernel
theorem dX6_isKing_2 : decode cX6_isKing 2 = .ok (.iconst 5, 1) := by decide +kernel
theorem dX6_isKing_3 : decode cX6_isKing 3 = .ok (.invokestatic 79, 3) := by decide +kernel
theorem dX6_isKing_6 : decode cX6_isKing 6 = .ok (.ireturn, 1) := by decide +kernel
theorem dX6_isChild_0 : decode cX6_isChild 0 = .ok (.iload_n 1, 1) := by decide +kernel
theorem dX6_isChild_1 : decode cX6_isChild 1 = .ok (.iconst 0, 1) := by decide +kernel
theorem dX6_isChild_2 : decode cX6_isChild 2 = .ok (.aload_n 0, 1) := by decide +kernel
theorem dX6_isChild_3 : decode cX6_isChild 3 = .ok (.getfield 83, 3) := by decide +kernel
theorem dX6_isChild_6 : decode cX6_isChild 6 = .ok (.iconst 1, 1) := by decide +kernel
theorem dX6_isChild_7 : decode cX6_isChild 7 = .ok (.isub, 1) := by decide +kernel
theorem dX6_isChild_8 : decode cX6_isChild 8 = .ok (.invokestatic 79, 3) := by decide +kernel
theorem dX6_isChild_11 : decode cX6_isChild 11 = .ok (.ireturn, 1) := by decide +kernel
theorem dX6_isKind_0 : decode cX6_isKind 0 = .ok (.iload_n 0, 1) := by decide +kernel
theorem dX6_isKind_1 : decode cX6_isKind 1 = .ok (.iconst 0, 1) := by decide +kernel
theorem dX6_isKind_2 : decode cX6_isKind 2 = .ok (.iconst 5, 1) := by decide +kernel
theorem dX6_isKind_3 : decode cX6_isKind 3 = .ok (.invokestatic 79, 3) := by decide +kernel
theorem dX6_isKind_6 : decode cX6_isKind 6 = .ok (.ireturn, 1) := by decide +kernel
theorem dX6_isTold_0 : decode cX6_isTold 0 = .ok (.iload_n 0, 1) := by decide +kernel
theorem dX6_isTold_1 : decode cX6_isTold 1 = .ok (.iconst 0, 1) := by decide +kernel
theorem dX6_isTold_2 : decode cX6_isTold 2 = .ok (.bipush 99, 2) := by decide +kernel
theorem dX6_isTold_4 : decode cX6_isTold 4 = .ok (.invokestatic 79, 3) := by decide +kernel
theorem dX6_isTold_7 : decode cX6_isTold 7 = .ok (.ireturn, 1) := by decide +kernel
theorem dX6_isLong_0 : decode cX6_isLong 0 = .ok (.iload_n 0, 1) := by decide +kernel
theorem dX6_isLong_1 : decode cX6_isLong 1 = .ok (.iconst 0, 1) := by decide +kernel
theorem dX6_isLong_2 : decode cX6_isLong 2 = .ok (.sipush 999, 3) := by decide +kernel
theorem dX6_isLong_5 : decode cX6_isLong 5 = .ok (.invokestatic 79, 3) := by decide +kernel
theorem dX6_isLong_8 : decode cX6_isLong 8 = .ok (.ireturn, 1) := by decide +kernel
theorem dX6_isTreaty_0 : decode cX6_isTreaty 0 = .ok (.iload_n 1, 1) := by decide +kernel
theorem dX6_isTreaty_1 : decode cX6_isTreaty 1 = .ok (.iconst 0, 1) := by decide +kernel
theorem dX6_isTreaty_2 : decode cX6_isTreaty 2 = .ok (.aload_n 0, 1) := by decide +kernel
theorem dX6_isTreaty_3 : decode cX6_isTreaty 3 = .ok (.getfield 87, 3) := by decide +kernel
theorem dX6_isTreaty_6 : decode cX6_isTreaty 6 = .ok (.iconst 1, 1) := by decide +kernel
theorem dX6_isTreaty_7 : decode cX6_isTreaty 7 = .ok (.isub, 1) := by decide +kernel
theorem dX6_isTreaty_8 : decode cX6_isTreaty 8 = .ok (.invokestatic 79, 3) := by decide +kernel
theorem dX6_isTreaty_11 : decode cX6_isTreaty 11 = .ok (.ireturn, 1) := by decide +kernel
theorem dX6_has_0 : decode cX6_has 0 = .ok (.iload_n 0, 1) := by decide +kernel
theorem dX6_has_1 : decode cX6_has 1 = .ok (.iload_n 1, 1) := by decide +kernel
theorem dX6_has_2 : decode cX6_has 2 = .ok (.ishr, 1) := by decide +kernel
theorem dX6_has_3 : decode cX6_has 3 = .ok (.iconst 1, 1) := by decide +kernel
theorem dX6_has_4 : decode cX6_has 4 = .ok (.iand, 1) := by decide +kernel
theorem dX6_has_5 : decode cX6_has 5 = .ok (.iconst 1, 1) := by decide +kernel
theorem dX6_has_6 : decode cX6_has 6 = .ok (.if_icmp .ne 7, 3) := by decide +kernel
theorem dX6_has_9 : decode cX6_has 9 = .ok (.iconst 1, 1) := by decide +kernel
theorem dX6_has_10 : decode cX6_has 10 = .ok (.goto 4, 3) := by decide +kernel
theorem dX6_has_13 : decode cX6_has 13 = .ok (.iconst 0, 1) := by decide +kernel
theorem dX6_has_14 : decode cX6_has 14 = .ok (.ireturn, 1) := by decide +kernel
theorem dX6_ones_0 : decode cX6_ones 0 = .ok (.iconst 0, 1) := by decide +kernel
theorem dX6_ones_1 : decode cX6_ones 1 = .ok (.istore_n 1, 1) := by decide +kernel
theorem dX6_ones_2 : decode cX6_ones 2 = .ok (.iload_n 0, 1) := by decide +kernel
theorem dX6_ones_3 : decode cX6_ones 3 = .ok (.istore_n 2, 1) := by decide +kernel
theorem dX6_ones_4 : decode cX6_ones 4 = .ok (.iload_n 2, 1) := by decide +kernel
theorem dX6_ones_5 : decode cX6_ones 5 = .ok (.ifCond .eq 15, 3) := by decide +kernel
theorem dX6_ones_8 : decode cX6_ones 8 = .ok (.iinc 1 1, 3) := by decide +kernel
theorem dX6_ones_11 : decode cX6_ones 11 = .ok (.iload_n 2, 1) := by decide +kernel
theorem dX6_ones_12 : decode cX6_ones 12 = .ok (.iload_n 2, 1) := by decide +kernel
theorem dX6_ones_13 : decode cX6_ones 13 = .ok (.iconst 1, 1) := by decide +kernel
theorem dX6_ones_14 : decode cX6_ones 14 = .ok (.isub, 1) := by decide +kernel
theorem dX6_ones_15 : decode cX6_ones 15 = .ok (.iand, 1) := by decide +kernel
theorem dX6_ones_16 : decode cX6_ones 16 = .ok (.istore_n 2, 1) := by decide +kernel
theorem dX6_ones_17 : decode cX6_ones 17 = .ok (.goto (-13), 3) := by decide +kernel
theorem dX6_ones_20 : decode cX6_ones 20 = .ok (.iload_n 1, 1) := by decide +kernel
theorem dX6_ones_21 : decode cX6_ones 21 = .ok (.ireturn, 1) := by decide +kernel
theorem dX6_lives_0 : decode cX6_lives 0 = .ok (.aload_n 0, 1) := by decide +kernel
theorem dX6_lives_1 : decode cX6_lives 1 = .ok (.getfield 34, 3) := by decide +kernel
theorem dX6_lives_4 : decode cX6_lives 4 = .ok (.aload_n 0, 1) := by decide +kernel
theorem dX6_lives_5 : decode cX6_lives 5 = .ok (.getfield 90, 3) := by decide +kernel
theorem dX6_lives_8 : decode cX6_lives 8 = .ok (.bipush 15, 2) := by decide +kernel
theorem dX6_lives_10 : decode cX6_lives 10 = .ok (.iadd, 1) := by decide +kernel
theorem dX6_lives_11 : decode cX6_lives 11 = .ok (.iload_n 1, 1) := by decide +kernel
theorem dX6_lives_12 : decode cX6_lives 12 = .ok (.iadd, 1) := by decide +kernel
theorem dX6_lives_13 : decode cX6_lives 13 = .ok (.iaload, 1) := by decide +kernel
theorem dX6_lives_14 : decode cX6_lives 14 = .ok (.ifCond .ne 7, 3) := by decide +kernel
theorem dX6_lives_17 : decode cX6_lives 17 = .ok (.iconst 1, 1) := by decide +kernel
theorem dX6_lives_18 : decode cX6_lives 18 = .ok (.goto 4, 3) := by decide +kernel
theorem dX6_lives_21 : decode cX6_lives 21 = .ok (.iconst 0, 1) := by decide +kernel
theorem dX6_lives_22 : decode cX6_lives 22 = .ok (.ireturn, 1) := by decide +kernel
theorem dX6_holder_0 : decode cX6_holder 0 = .ok (.aload_n 0, 1) := by decide +kernel
theorem dX6_holder_1 : decode cX6_holder 1 = .ok (.getfield 34, 3) := by decide +kernel
theorem dX6_holder_4 : decode cX6_holder 4 = .ok (.aload_n 0, 1) := by decide +kernel
theorem dX6_holder_5 : decode cX6_holder 5 = .ok (.getfield 90, 3) := by decide +kernel
theorem dX6_holder_8 : decode cX6_holder 8 = .ok (.iconst 1, 1) := by decide +kernel
theorem dX6_holder_9 : decode cX6_holder 9 = .ok (.iadd, 1) := by decide +kernel
theorem dX6_holder_10 : decode cX6_holder 10 = .ok (.iload_n 1, 1) := by decide +kernel
theorem dX6_holder_11 : decode cX6_holder 11 = .ok (.iadd, 1) := by decide +kernel
theorem dX6_holder_12 : decode cX6_holder 12 = .ok (.iaload, 1) := by decide +kernel
theorem dX6_holder_13 : decode cX6_holder 13 = .ok (.ireturn, 1) := by decide +kernel
theorem dX6_isHome_0 : decode cX6_isHome 0 = .ok (.aload_n 0, 1) := by decide +kernel
theorem dX6_isHome_1 : decode cX6_isHome 1 = .ok (.iload_n 1, 1) := by decide +kernel
theorem dX6_isHome_2 : decode cX6_isHome 2 = .ok (.invokevirtual 93, 3) := by decide +kernel
theorem dX6_isHome_5 : decode cX6_isHome 5 = .ok (.aload_n 0, 1) := by decide +kernel
theorem dX6_isHome_6 : decode cX6_isHome 6 = .ok (.getfield 16, 3) := by decide +kernel
theorem dX6_isHome_9 : decode cX6_isHome 9 = .ok (.iload_n 1, 1) := by decide +kernel
theorem dX6_isHome_10 : decode cX6_isHome 10 = .ok (.iaload, 1) := by decide +kernel
theorem dX6_isHome_11 : decode cX6_isHome 11 = .ok (.if_icmp .ne 7, 3) := by decide +kernel
theorem dX6_isHome_14 : decode cX6_isHome 14 = .ok (.iconst 1, 1) := by decide +kernel
theorem dX6_isHome_15 : decode cX6_isHome 15 = .ok (.goto 4, 3) := by decide +kernel
theorem dX6_isHome_18 : decode cX6_isHome 18 = .ok (.iconst 0, 1) := by decide +kernel
theorem dX6_isHome_19 : decode cX6_isHome 19 = .ok (.ireturn, 1) := by decide +kernel
theorem dX6_isInForce_0 : decode cX6_isInForce 0 = .ok (.aload_n 0, 1) := by decide +kernel
theorem dX6_isInForce_1 : decode cX6_isInForce 1 = .ok (.getfield 34, 3) := by decide +kernel
theorem dX6_isInForce_4 : decode cX6_isInForce 4 = .ok (.aload_n 0, 1) := by decide +kernel
theorem dX6_isInForce_5 : decode cX6_isInForce 5 = .ok (.getfield 90, 3) := by decide +kernel
theorem dX6_isInForce_8 : decode cX6_isInForce 8 = .ok (.bipush 29, 2) := by decide +kernel
theorem dX6_isInForce_10 : decode cX6_isInForce 10 = .ok (.iadd, 1) := by decide +kernel
theorem dX6_isInForce_11 : decode cX6_isInForce 11 = .ok (.iload_n 1, 1) := by decide +kernel
theorem dX6_isInForce_12 : decode cX6_isInForce 12 = .ok (.iadd, 1) := by decide +kernel
theorem dX6_isInForce_13 : decode cX6_isInForce 13 = .ok (.iaload, 1) := by decide +kernel
theorem dX6_isInForce_14 : decode cX6_isInForce 14 = .ok (.ifCond .ne 27, 3) := by decide +kernel
theorem dX6_isInForce_17 : decode cX6_isInForce 17 = .ok (.aload_n 0, 1) := by decide +kernel
theorem dX6_isInForce_18 : decode cX6_isInForce 18 = .ok (.getfield 34, 3) := by decide +kernel
theorem dX6_isInForce_21 : decode cX6_isInForce 21 = .ok (.aload_n 0, 1) := by decide +kernel
theorem dX6_isInForce_22 : decode cX6_isInForce 22 = .ok (.getfield 90, 3) := by decide +kernel
theorem dX6_isInForce_25 : decode cX6_isInForce 25 = .ok (.iconst 0, 1) := by decide +kernel
theorem dX6_isInForce_26 : decode cX6_isInForce 26 = .ok (.iadd, 1) := by decide +kernel
theorem dX6_isInForce_27 : decode cX6_isInForce 27 = .ok (.iaload, 1) := by decide +kernel
theorem dX6_isInForce_28 : decode cX6_isInForce 28 = .ok (.aload_n 0, 1) := by decide +kernel
theorem dX6_isInForce_29 : decode cX6_isInForce 29 = .ok (.getfield 31, 3) := by decide +kernel
theorem dX6_isInForce_32 : decode cX6_isInForce 32 = .ok (.iload_n 1, 1) := by decide +kernel
theorem dX6_isInForce_33 : decode cX6_isInForce 33 = .ok (.iaload, 1) := by decide +kernel
theorem dX6_isInForce_34 : decode cX6_isInForce 34 = .ok (.if_icmp .gt 7, 3) := by decide +kernel
theorem dX6_isInForce_37 : decode cX6_isInForce 37 = .ok (.iconst 1, 1) := by decide +kernel
theorem dX6_isInForce_38 : decode cX6_isInForce 38 = .ok (.goto 4, 3) := by decide +kernel
theorem dX6_isInForce_41 : decode cX6_isInForce 41 = .ok (.iconst 0, 1) := by decide +kernel
theorem dX6_isInForce_42 : decode cX6_isInForce 42 = .ok (.ireturn, 1) := by decide +kernel
theorem dX6_hasTwinAtHome_0 : decode cX6_hasTwinAtHome 0 = .ok (.iconst 0, 1) := by decide +kernel
theorem dX6_hasTwinAtHome_1 : decode cX6_hasTwinAtHome 1 = .ok (.istore_n 2, 1) := by decide +kernel
theorem dX6_hasTwinAtHome_2 : decode cX6_hasTwinAtHome 2 = .ok (.iconst 0, 1) := by decide +kernel
theorem dX6_hasTwinAtHome_3 : decode cX6_hasTwinAtHome 3 = .ok (.istore_n 3, 1) := by decide +kernel
theorem dX6_hasTwinAtHome_4 : decode cX6_hasTwinAtHome 4 = .ok (.iload_n 3, 1) := by decide +kernel
theorem dX6_hasTwinAtHome_5 : decode cX6_hasTwinAtHome 5 = .ok (.aload_n 0, 1) := by decide +kernel
theorem dX6_hasTwinAtHome_6 : decode cX6_hasTwinAtHome 6 = .ok (.getfield 83, 3) := by decide +kernel
theorem dX6_hasTwinAtHome_9 : decode cX6_hasTwinAtHome 9 = .ok (.if_icmp .ge 65, 3) := by decide +kernel
theorem dX6_hasTwinAtHome_12 : decode cX6_hasTwinAtHome 12 = .ok (.iload_n 2, 1) := by decide +kernel
theorem dX6_hasTwinAtHome_13 : decode cX6_hasTwinAtHome 13 = .ok (.ifCond .ne 49, 3) := by decide +kernel
theorem dX6_hasTwinAtHome_16 : decode cX6_hasTwinAtHome 16 = .ok (.iload_n 3, 1) := by decide +kernel
theorem dX6_hasTwinAtHome_17 : decode cX6_hasTwinAtHome 17 = .ok (.iload_n 1, 1) := by decide +kernel
theorem dX6_hasTwinAtHome_18 : decode cX6_hasTwinAtHome 18 = .ok (.if_icmp .eq 48, 3) := by decide +kernel
theorem dX6_hasTwinAtHome_21 : decode cX6_hasTwinAtHome 21 = .ok (.aload_n 0, 1) := by decide +kernel
theorem dX6_hasTwinAtHome_22 : decode cX6_hasTwinAtHome 22 = .ok (.getfield 13, 3) := by decide +kernel
theorem dX6_hasTwinAtHome_25 : decode cX6_hasTwinAtHome 25 = .ok (.iload_n 3, 1) := by decide +kernel
theorem dX6_hasTwinAtHome_26 : decode cX6_hasTwinAtHome 26 = .ok (.iaload, 1) := by decide +kernel
theorem dX6_hasTwinAtHome_27 : decode cX6_hasTwinAtHome 27 = .ok (.iconst 5, 1) := by decide +kernel
theorem dX6_hasTwinAtHome_28 : decode cX6_hasTwinAtHome 28 = .ok (.if_icmp .ne 38, 3) := by decide +kernel
theorem dX6_hasTwinAtHome_31 : decode cX6_hasTwinAtHome 31 = .ok (.aload_n 0, 1) := by decide +kernel
theorem dX6_hasTwinAtHome_32 : decode cX6_hasTwinAtHome 32 = .ok (.getfield 16, 3) := by decide +kernel
theorem dX6_hasTwinAtHome_35 : decode cX6_hasTwinAtHome 35 = .ok (.iload_n 3, 1) := by decide +kernel
theorem dX6_hasTwinAtHome_36 : decode cX6_hasTwinAtHome 36 = .ok (.iaload, 1) := by decide +kernel
theorem dX6_hasTwinAtHome_37 : decode cX6_hasTwinAtHome 37 = .ok (.aload_n 0, 1) := by decide +kernel
theorem dX6_hasTwinAtHome_38 : decode cX6_hasTwinAtHome 38 = .ok (.getfield 16, 3) := by decide +kernel
theorem dX6_hasTwinAtHome_41 : decode cX6_hasTwinAtHome 41 = .ok (.iload_n 1, 1) := by decide +kernel
theorem dX6_hasTwinAtHome_42 : decode cX6_hasTwinAtHome 42 = .ok (.iaload, 1) := by decide +kernel
theorem dX6_hasTwinAtHome_43 : decode cX6_hasTwinAtHome 43 = .ok (.if_icmp .ne 23, 3) := by decide +kernel
theorem dX6_hasTwinAtHome_46 : decode cX6_hasTwinAtHome 46 = .ok (.aload_n 0, 1) := by decide +kernel
theorem dX6_hasTwinAtHome_47 : decode cX6_hasTwinAtHome 47 = .ok (.iload_n 3, 1) := by decide +kernel
theorem dX6_hasTwinAtHome_48 : decode cX6_hasTwinAtHome 48 = .ok (.invokevirtual 97, 3) := by decide +kernel
theorem dX6_hasTwinAtHome_51 : decode cX6_hasTwinAtHome 51 = .ok (.ifCond .eq 15, 3) := by decide +kernel
theorem dX6_hasTwinAtHome_54 : decode cX6_hasTwinAtHome 54 = .ok (.aload_n 0, 1) := by decide +kernel
theorem dX6_hasTwinAtHome_55 : decode cX6_hasTwinAtHome 55 = .ok (.iload_n 3, 1) := by decide +kernel
theorem dX6_hasTwinAtHome_56 : decode cX6_hasTwinAtHome 56 = .ok (.invokevirtual 101, 3) := by decide +kernel
theorem dX6_hasTwinAtHome_59 : decode cX6_hasTwinAtHome 59 = .ok (.ifCond .eq 7, 3) := by decide +kernel
theorem dX6_hasTwinAtHome_62 : decode cX6_hasTwinAtHome 62 = .ok (.iconst 1, 1) := by decide +kernel
theorem dX6_hasTwinAtHome_63 : decode cX6_hasTwinAtHome 63 = .ok (.goto 4, 3) := by decide +kernel
theorem dX6_hasTwinAtHome_66 : decode cX6_hasTwinAtHome 66 = .ok (.iconst 0, 1) := by decide +kernel
theorem dX6_hasTwinAtHome_67 : decode cX6_hasTwinAtHome 67 = .ok (.istore_n 2, 1) := by decide +kernel
theorem dX6_hasTwinAtHome_68 : decode cX6_hasTwinAtHome 68 = .ok (.iinc 3 1, 3) := by decide +kernel
theorem dX6_hasTwinAtHome_71 : decode cX6_hasTwinAtHome 71 = .ok (.goto (-67), 3) := by decide +kernel
theorem dX6_hasTwinAtHome_74 : decode cX6_hasTwinAtHome 74 = .ok (.iload_n 2, 1) := by decide +kernel
theorem dX6_hasTwinAtHome_75 : decode cX6_hasTwinAtHome 75 = .ok (.ireturn, 1) := by decide +kernel
theorem dX6_loss_0 : decode cX6_loss 0 = .ok (.aload_n 0, 1) := by decide +kernel
theorem dX6_loss_1 : decode cX6_loss 1 = .ok (.getfield 19, 3) := by decide +kernel
theorem dX6_loss_4 : decode cX6_loss 4 = .ok (.iload_n 1, 1) := by decide +kernel
theorem dX6_loss_5 : decode cX6_loss 5 = .ok (.iaload, 1) := by decide +kernel
theorem dX6_loss_6 : decode cX6_loss 6 = .ok (.istore_n 2, 1) := by decide +kernel
theorem dX6_loss_7 : decode cX6_loss 7 = .ok (.aload_n 0, 1) := by decide +kernel
theorem dX6_loss_8 : decode cX6_loss 8 = .ok (.getfield 13, 3) := by decide +kernel
theorem dX6_loss_11 : decode cX6_loss 11 = .ok (.iload_n 1, 1) := by decide +kernel
theorem dX6_loss_12 : decode cX6_loss 12 = .ok (.iaload, 1) := by decide +kernel
theorem dX6_loss_13 : decode cX6_loss 13 = .ok (.tableswitch 83 1 5 #[35, 39, 43, 50, 67], 35) := by decide +kernel
theorem dX6_loss_48 : decode cX6_loss 48 = .ok (.iconst 2, 1) := by decide +kernel
theorem dX6_loss_49 : decode cX6_loss 49 = .ok (.iload_n 2, 1) := by decide +kernel
theorem dX6_loss_50 : decode cX6_loss 50 = .ok (.imul, 1) := by decide +kernel
theorem dX6_loss_51 : decode cX6_loss 51 = .ok (.ireturn, 1) := by decide +kernel
theorem dX6_loss_52 : decode cX6_loss 52 = .ok (.iload_n 2, 1) := by decide +kernel
theorem dX6_loss_53 : decode cX6_loss 53 = .ok (.iconst 2, 1) := by decide +kernel
theorem dX6_loss_54 : decode cX6_loss 54 = .ok (.idiv, 1) := by decide +kernel
theorem dX6_loss_55 : decode cX6_loss 55 = .ok (.ireturn, 1) := by decide +kernel
theorem dX6_loss_56 : decode cX6_loss 56 = .ok (.iconst 2, 1) := by decide +kernel
theorem dX6_loss_57 : decode cX6_loss 57 = .ok (.iload_n 2, 1) := by decide +kernel
theorem dX6_loss_58 : decode cX6_loss 58 = .ok (.imul, 1) := by decide +kernel
theorem dX6_loss_59 : decode cX6_loss 59 = .ok (.bipush 20, 2) := by decide +kernel
theorem dX6_loss_61 : decode cX6_loss 61 = .ok (.iadd, 1) := by decide +kernel
theorem dX6_loss_62 : decode cX6_loss 62 = .ok (.ireturn, 1) := by decide +kernel
theorem dX6_loss_63 : decode cX6_loss 63 = .ok (.iload_n 2, 1) := by decide +kernel
theorem dX6_loss_64 : decode cX6_loss 64 = .ok (.iconst 2, 1) := by decide +kernel
theorem dX6_loss_65 : decode cX6_loss 65 = .ok (.idiv, 1) := by decide +kernel
theorem dX6_loss_66 : decode cX6_loss 66 = .ok (.iconst 5, 1) := by decide +kernel
theorem dX6_loss_67 : decode cX6_loss 67 = .ok (.if_icmp .ge 7, 3) := by decide +kernel
theorem dX6_loss_70 : decode cX6_loss 70 = .ok (.iconst 0, 1) := by decide +kernel
theorem dX6_loss_71 : decode cX6_loss 71 = .ok (.goto 8, 3) := by decide +kernel
theorem dX6_loss_74 : decode cX6_loss 74 = .ok (.iload_n 2, 1) := by decide +kernel
theorem dX6_loss_75 : decode cX6_loss 75 = .ok (.iconst 2, 1) := by decide +kernel
theorem dX6_loss_76 : decode cX6_loss 76 = .ok (.idiv, 1) := by decide +kernel
theorem dX6_loss_77 : decode cX6_loss 77 = .ok (.iconst 5, 1) := by decide +kernel
theorem dX6_loss_78 : decode cX6_loss 78 = .ok (.isub, 1) := by decide +kernel
theorem dX6_loss_79 : decode cX6_loss 79 = .ok (.ireturn, 1) := by decide +kernel
theorem dX6_loss_80 : decode cX6_loss 80 = .ok (.aload_n 0, 1) := by decide +kernel
theorem dX6_loss_81 : decode cX6_loss 81 = .ok (.iload_n 1, 1) := by decide +kernel
theorem dX6_loss_82 : decode cX6_loss 82 = .ok (.invokevirtual 104, 3) := by decide +kernel
theorem dX6_loss_85 : decode cX6_loss 85 = .ok (.ifCond .eq 7, 3) := by decide +kernel
theorem dX6_loss_88 : decode cX6_loss 88 = .ok (.iload_n 2, 1) := by decide +kernel
theorem dX6_loss_89 : decode cX6_loss 89 = .ok (.goto 6, 3) := by decide +kernel
theorem dX6_loss_92 : decode cX6_loss 92 = .ok (.iconst 2, 1) := by decide +kernel
theorem dX6_loss_93 : decode cX6_loss 93 = .ok (.iload_n 2, 1) := by decide +kernel
theorem dX6_loss_94 : decode cX6_loss 94 = .ok (.imul, 1) := by decide +kernel
theorem dX6_loss_95 : decode cX6_loss 95 = .ok (.ireturn, 1) := by decide +kernel
theorem dX6_loss_96 : decode cX6_loss 96 = .ok (.iload_n 2, 1) := by decide +kernel
theorem dX6_loss_97 : decode cX6_loss 97 = .ok (.ireturn, 1) := by decide +kernel
theorem dX6_findPledges_0 : decode cX6_findPledges 0 = .ok (.iconst 0, 1) := by decide +kernel
theorem dX6_findPledges_1 : decode cX6_findPledges 1 = .ok (.istore_n 1, 1) := by decide +kernel
theorem dX6_findPledges_2 : decode cX6_findPledges 2 = .ok (.iload_n 1, 1) := by decide +kernel
theorem dX6_findPledges_3 : decode cX6_findPledges 3 = .ok (.bipush 36, 2) := by decide +kernel
theorem dX6_findPledges_5 : decode cX6_findPledges 5 = .ok (.if_icmp .ge 16, 3) := by decide +kernel
theorem dX6_findPledges_8 : decode cX6_findPledges 8 = .ok (.aload_n 0, 1) := by decide +kernel
theorem dX6_findPledges_9 : decode cX6_findPledges 9 = .ok (.getfield 40, 3) := by decide +kernel
theorem dX6_findPledges_12 : decode cX6_findPledges 12 = .ok (.iload_n 1, 1) := by decide +kernel
theorem dX6_findPledges_13 : decode cX6_findPledges 13 = .ok (.iconst 0, 1) := by decide +kernel
theorem dX6_findPledges_14 : decode cX6_findPledges 14 = .ok (.iastore, 1) := by decide +kernel
theorem dX6_findPledges_15 : decode cX6_findPledges 15 = .ok (.iinc 1 1, 3) := by decide +kernel
theorem dX6_findPledges_18 : decode cX6_findPledges 18 = .ok (.goto (-16), 3) := by decide +kernel
theorem dX6_findPledges_21 : decode cX6_findPledges 21 = .ok (.iconst 0, 1) := by decide +kernel
theorem dX6_findPledges_22 : decode cX6_findPledges 22 = .ok (.istore_n 1, 1) := by decide +kernel
theorem dX6_findPledges_23 : decode cX6_findPledges 23 = .ok (.iload_n 1, 1) := by decide +kernel
theorem dX6_findPledges_24 : decode cX6_findPledges 24 = .ok (.aload_n 0, 1) := by decide +kernel
theorem dX6_findPledges_25 : decode cX6_findPledges 25 = .ok (.getfield 83, 3) := by decide +kernel
theorem dX6_findPledges_28 : decode cX6_findPledges 28 = .ok (.if_icmp .ge 53, 3) := by decide +kernel
theorem dX6_findPledges_31 : decode cX6_findPledges 31 = .ok (.aload_n 0, 1) := by decide +kernel
theorem dX6_findPledges_32 : decode cX6_findPledges 32 = .ok (.iload_n 1, 1) := by decide +kernel
theorem dX6_findPledges_33 : decode cX6_findPledges 33 = .ok (.invokevirtual 97, 3) := by decide +kernel
theorem dX6_findPledges_36 : decode cX6_findPledges 36 = .ok (.ifCond .eq 39, 3) := by decide +kernel
theorem dX6_findPledges_39 : decode cX6_findPledges 39 = .ok (.aload_n 0, 1) := by decide +kernel
theorem dX6_findPledges_40 : decode cX6_findPledges 40 = .ok (.iload_n 1, 1) := by decide +kernel
theorem dX6_findPledges_41 : decode cX6_findPledges 41 = .ok (.invokevirtual 101, 3) := by decide +kernel
theorem dX6_findPledges_44 : decode cX6_findPledges 44 = .ok (.ifCond .ne 31, 3) := by decide +kernel
theorem dX6_findPledges_47 : decode cX6_findPledges 47 = .ok (.aload_n 0, 1) := by decide +kernel
theorem dX6_findPledges_48 : decode cX6_findPledges 48 = .ok (.getfield 40, 3) := by decide +kernel
theorem dX6_findPledges_51 : decode cX6_findPledges 51 = .ok (.bipush 6, 2) := by decide +kernel
theorem dX6_findPledges_53 : decode cX6_findPledges 53 = .ok (.aload_n 0, 1) := by decide +kernel
theorem dX6_findPledges_54 : decode cX6_findPledges 54 = .ok (.iload_n 1, 1) := by decide +kernel
theorem dX6_findPledges_55 : decode cX6_findPledges 55 = .ok (.invokevirtual 93, 3) := by decide +kernel
theorem dX6_findPledges_58 : decode cX6_findPledges 58 = .ok (.imul, 1) := by decide +kernel
theorem dX6_findPledges_59 : decode cX6_findPledges 59 = .ok (.aload_n 0, 1) := by decide +kernel
theorem dX6_findPledges_60 : decode cX6_findPledges 60 = .ok (.getfield 16, 3) := by decide +kernel
theorem dX6_findPledges_63 : decode cX6_findPledges 63 = .ok (.iload_n 1, 1) := by decide +kernel
theorem dX6_findPledges_64 : decode cX6_findPledges 64 = .ok (.iaload, 1) := by decide +kernel
theorem dX6_findPledges_65 : decode cX6_findPledges 65 = .ok (.iadd, 1) := by decide +kernel
theorem dX6_findPledges_66 : decode cX6_findPledges 66 = .ok (.dup2, 1) := by decide +kernel
theorem dX6_findPledges_67 : decode cX6_findPledges 67 = .ok (.iaload, 1) := by decide +kernel
theorem dX6_findPledges_68 : decode cX6_findPledges 68 = .ok (.aload_n 0, 1) := by decide +kernel
theorem dX6_findPledges_69 : decode cX6_findPledges 69 = .ok (.iload_n 1, 1) := by decide +kernel
theorem dX6_findPledges_70 : decode cX6_findPledges 70 = .ok (.invokevirtual 107, 3) := by decide +kernel
theorem dX6_findPledges_73 : decode cX6_findPledges 73 = .ok (.iadd, 1) := by decide +kernel
theorem dX6_findPledges_74 : decode cX6_findPledges 74 = .ok (.iastore, 1) := by decide +kernel
theorem dX6_findPledges_75 : decode cX6_findPledges 75 = .ok (.iinc 1 1, 3) := by decide +kernel
theorem dX6_findPledges_78 : decode cX6_findPledges 78 = .ok (.goto (-55), 3) := by decide +kernel
theorem dX6_findPledges_81 : decode cX6_findPledges 81 = .ok (.return_, 1) := by decide +kernel
theorem dX6_easeOf_0 : decode cX6_easeOf 0 = .ok (.aload_n 0, 1) := by decide +kernel
theorem dX6_easeOf_1 : decode cX6_easeOf 1 = .ok (.getfield 40, 3) := by decide +kernel
theorem dX6_easeOf_4 : decode cX6_easeOf 4 = .ok (.bipush 6, 2) := by decide +kernel
theorem dX6_easeOf_6 : decode cX6_easeOf 6 = .ok (.aload_n 0, 1) := by decide +kernel
theorem dX6_easeOf_7 : decode cX6_easeOf 7 = .ok (.getfield 25, 3) := by decide +kernel
theorem dX6_easeOf_10 : decode cX6_easeOf 10 = .ok (.iload_n 1, 1) := by decide +kernel
theorem dX6_easeOf_11 : decode cX6_easeOf 11 = .ok (.iaload, 1) := by decide +kernel
theorem dX6_easeOf_12 : decode cX6_easeOf 12 = .ok (.imul, 1) := by decide +kernel
theorem dX6_easeOf_13 : decode cX6_easeOf 13 = .ok (.aload_n 0, 1) := by decide +kernel
theorem dX6_easeOf_14 : decode cX6_easeOf 14 = .ok (.getfield 22, 3) := by decide +kernel
theorem dX6_easeOf_17 : decode cX6_easeOf 17 = .ok (.iload_n 1, 1) := by decide +kernel
theorem dX6_easeOf_18 : decode cX6_easeOf 18 = .ok (.iaload, 1) := by decide +kernel
theorem dX6_easeOf_19 : decode cX6_easeOf 19 = .ok (.iadd, 1) := by decide +kernel
theorem dX6_easeOf_20 : decode cX6_easeOf 20 = .ok (.iaload, 1) := by decide +kernel
theorem dX6_easeOf_21 : decode cX6_easeOf 21 = .ok (.aload_n 0, 1) := by decide +kernel
theorem dX6_easeOf_22 : decode cX6_easeOf 22 = .ok (.getfield 7, 3) := by decide +kernel
theorem dX6_easeOf_25 : decode cX6_easeOf 25 = .ok (.aload_n 0, 1) := by decide +kernel
theorem dX6_easeOf_26 : decode cX6_easeOf 26 = .ok (.getfield 22, 3) := by decide +kernel
theorem dX6_easeOf_29 : decode cX6_easeOf 29 = .ok (.iload_n 1, 1) := by decide +kernel
theorem dX6_easeOf_30 : decode cX6_easeOf 30 = .ok (.iaload, 1) := by decide +kernel
theorem dX6_easeOf_31 : decode cX6_easeOf 31 = .ok (.iaload, 1) := by decide +kernel
theorem dX6_easeOf_32 : decode cX6_easeOf 32 = .ok (.iadd, 1) := by decide +kernel
theorem dX6_easeOf_33 : decode cX6_easeOf 33 = .ok (.aload_n 0, 1) := by decide +kernel
theorem dX6_easeOf_34 : decode cX6_easeOf 34 = .ok (.getfield 28, 3) := by decide +kernel
theorem dX6_easeOf_37 : decode cX6_easeOf 37 = .ok (.iload_n 1, 1) := by decide +kernel
theorem dX6_easeOf_38 : decode cX6_easeOf 38 = .ok (.iaload, 1) := by decide +kernel
theorem dX6_easeOf_39 : decode cX6_easeOf 39 = .ok (.isub, 1) := by decide +kernel
theorem dX6_easeOf_40 : decode cX6_easeOf 40 = .ok (.ireturn, 1) := by decide +kernel
theorem dX6_looseSet_0 : decode cX6_looseSet 0 = .ok (.aload_n 0, 1) := by decide +kernel
theorem dX6_looseSet_1 : decode cX6_looseSet 1 = .ok (.invokevirtual 110, 3) := by decide +kernel
theorem dX6_looseSet_4 : decode cX6_looseSet 4 = .ok (.iconst 0, 1) := by decide +kernel
theorem dX6_looseSet_5 : decode cX6_looseSet 5 = .ok (.istore_n 1, 1) := by decide +kernel
theorem dX6_looseSet_6 : decode cX6_looseSet 6 = .ok (.iconst 0, 1) := by decide +kernel
theorem dX6_looseSet_7 : decode cX6_looseSet 7 = .ok (.istore_n 2, 1) := by decide +kernel
theorem dX6_looseSet_8 : decode cX6_looseSet 8 = .ok (.iload_n 2, 1) := by decide +kernel
theorem dX6_looseSet_9 : decode cX6_looseSet 9 = .ok (.aload_n 0, 1) := by decide +kernel
theorem dX6_looseSet_10 : decode cX6_looseSet 10 = .ok (.getfield 87, 3) := by decide +kernel
theorem dX6_looseSet_13 : decode cX6_looseSet 13 = .ok (.if_icmp .ge 35, 3) := by decide +kernel
theorem dX6_looseSet_16 : decode cX6_looseSet 16 = .ok (.iload_n 1, 1) := by decide +kernel
theorem dX6_looseSet_17 : decode cX6_looseSet 17 = .ok (.aload_n 0, 1) := by decide +kernel
theorem dX6_looseSet_18 : decode cX6_looseSet 18 = .ok (.iload_n 2, 1) := by decide +kernel
theorem dX6_looseSet_19 : decode cX6_looseSet 19 = .ok (.invokevirtual 113, 3) := by decide +kernel
theorem dX6_looseSet_22 : decode cX6_looseSet 22 = .ok (.ifCond .eq 17, 3) := by decide +kernel
theorem dX6_looseSet_25 : decode cX6_looseSet 25 = .ok (.aload_n 0, 1) := by decide +kernel
theorem dX6_looseSet_26 : decode cX6_looseSet 26 = .ok (.iload_n 2, 1) := by decide +kernel
theorem dX6_looseSet_27 : decode cX6_looseSet 27 = .ok (.invokevirtual 116, 3) := by decide +kernel
theorem dX6_looseSet_30 : decode cX6_looseSet 30 = .ok (.ifCond .ge 9, 3) := by decide +kernel
theorem dX6_looseSet_33 : decode cX6_looseSet 33 = .ok (.iconst 1, 1) := by decide +kernel
theorem dX6_looseSet_34 : decode cX6_looseSet 34 = .ok (.iload_n 2, 1) := by decide +kernel
theorem dX6_looseSet_35 : decode cX6_looseSet 35 = .ok (.ishl, 1) := by decide +kernel
theorem dX6_looseSet_36 : decode cX6_looseSet 36 = .ok (.goto 4, 3) := by decide +kernel
theorem dX6_looseSet_39 : decode cX6_looseSet 39 = .ok (.iconst 0, 1) := by decide +kernel
theorem dX6_looseSet_40 : decode cX6_looseSet 40 = .ok (.ior, 1) := by decide +kernel
theorem dX6_looseSet_41 : decode cX6_looseSet 41 = .ok (.istore_n 1, 1) := by decide +kernel
theorem dX6_looseSet_42 : decode cX6_looseSet 42 = .ok (.iinc 2 1, 3) := by decide +kernel
theorem dX6_looseSet_45 : decode cX6_looseSet 45 = .ok (.goto (-37), 3) := by decide +kernel
theorem dX6_looseSet_48 : decode cX6_looseSet 48 = .ok (.iload_n 1, 1) := by decide +kernel
theorem dX6_looseSet_49 : decode cX6_looseSet 49 = .ok (.ireturn, 1) := by decide +kernel
theorem dX6_forceSet_0 : decode cX6_forceSet 0 = .ok (.iconst 0, 1) := by decide +kernel
theorem dX6_forceSet_1 : decode cX6_forceSet 1 = .ok (.istore_n 1, 1) := by decide +kernel
theorem dX6_forceSet_2 : decode cX6_forceSet 2 = .ok (.iconst 0, 1) := by decide +kernel
theorem dX6_forceSet_3 : decode cX6_forceSet 3 = .ok (.istore_n 2, 1) := by decide +kernel
theorem dX6_forceSet_4 : decode cX6_forceSet 4 = .ok (.iload_n 2, 1) := by decide +kernel
theorem dX6_forceSet_5 : decode cX6_forceSet 5 = .ok (.aload_n 0, 1) := by decide +kernel
theorem dX6_forceSet_6 : decode cX6_forceSet 6 = .ok (.getfield 87, 3) := by decide +kernel
theorem dX6_forceSet_9 : decode cX6_forceSet 9 = .ok (.if_icmp .ge 27, 3) := by decide +kernel
theorem dX6_forceSet_12 : decode cX6_forceSet 12 = .ok (.iload_n 1, 1) := by decide +kernel
theorem dX6_forceSet_13 : decode cX6_forceSet 13 = .ok (.aload_n 0, 1) := by decide +kernel
theorem dX6_forceSet_14 : decode cX6_forceSet 14 = .ok (.iload_n 2, 1) := by decide +kernel
theorem dX6_forceSet_15 : decode cX6_forceSet 15 = .ok (.invokevirtual 113, 3) := by decide +kernel
theorem dX6_forceSet_18 : decode cX6_forceSet 18 = .ok (.ifCond .eq 9, 3) := by decide +kernel
theorem dX6_forceSet_21 : decode cX6_forceSet 21 = .ok (.iconst 1, 1) := by decide +kernel
theorem dX6_forceSet_22 : decode cX6_forceSet 22 = .ok (.iload_n 2, 1) := by decide +kernel
theorem dX6_forceSet_23 : decode cX6_forceSet 23 = .ok (.ishl, 1) := by decide +kernel
theorem dX6_forceSet_24 : decode cX6_forceSet 24 = .ok (.goto 4, 3) := by decide +kernel
theorem dX6_forceSet_27 : decode cX6_forceSet 27 = .ok (.iconst 0, 1) := by decide +kernel
theorem dX6_forceSet_28 : decode cX6_forceSet 28 = .ok (.ior, 1) := by decide +kernel
theorem dX6_forceSet_29 : decode cX6_forceSet 29 = .ok (.istore_n 1, 1) := by decide +kernel
theorem dX6_forceSet_30 : decode cX6_forceSet 30 = .ok (.iinc 2 1, 3) := by decide +kernel
theorem dX6_forceSet_33 : decode cX6_forceSet 33 = .ok (.goto (-29), 3) := by decide +kernel
theorem dX6_forceSet_36 : decode cX6_forceSet 36 = .ok (.iload_n 1, 1) := by decide +kernel
theorem dX6_forceSet_37 : decode cX6_forceSet 37 = .ok (.ireturn, 1) := by decide +kernel
theorem dX6_held_0 : decode cX6_held 0 = .ok (.iconst 0, 1) := by decide +kernel
theorem dX6_held_1 : decode cX6_held 1 = .ok (.istore_n 3, 1) := by decide +kernel
theorem dX6_held_2 : decode cX6_held 2 = .ok (.iconst 0, 1) := by decide +kernel
theorem dX6_held_3 : decode cX6_held 3 = .ok (.istore 4, 2) := by decide +kernel
theorem dX6_held_5 : decode cX6_held 5 = .ok (.iload 4, 2) := by decide +kernel
theorem dX6_held_7 : decode cX6_held 7 = .ok (.aload_n 0, 1) := by decide +kernel
theorem dX6_held_8 : decode cX6_held 8 = .ok (.getfield 83, 3) := by decide +kernel
theorem dX6_held_11 : decode cX6_held 11 = .ok (.if_icmp .ge 50, 3) := by decide +kernel
theorem dX6_held_14 : decode cX6_held 14 = .ok (.iload_n 3, 1) := by decide +kernel
theorem dX6_held_15 : decode cX6_held 15 = .ok (.aload_n 0, 1) := by decide +kernel
theorem dX6_held_16 : decode cX6_held 16 = .ok (.iload 4, 2) := by decide +kernel
theorem dX6_held_18 : decode cX6_held 18 = .ok (.invokevirtual 97, 3) := by decide +kernel
theorem dX6_held_21 : decode cX6_held 21 = .ok (.ifCond .eq 31, 3) := by decide +kernel
theorem dX6_held_24 : decode cX6_held 24 = .ok (.aload_n 0, 1) := by decide +kernel
theorem dX6_held_25 : decode cX6_held 25 = .ok (.getfield 16, 3) := by decide +kernel
theorem dX6_held_28 : decode cX6_held 28 = .ok (.iload 4, 2) := by decide +kernel
theorem dX6_held_30 : decode cX6_held 30 = .ok (.iaload, 1) := by decide +kernel
theorem dX6_held_31 : decode cX6_held 31 = .ok (.iload_n 2, 1) := by decide +kernel
theorem dX6_held_32 : decode cX6_held 32 = .ok (.if_icmp .ne 20, 3) := by decide +kernel
theorem dX6_held_35 : decode cX6_held 35 = .ok (.aload_n 0, 1) := by decide +kernel
theorem dX6_held_36 : decode cX6_held 36 = .ok (.iload 4, 2) := by decide +kernel
theorem dX6_held_38 : decode cX6_held 38 = .ok (.invokevirtual 93, 3) := by decide +kernel
theorem dX6_held_41 : decode cX6_held 41 = .ok (.iload_n 1, 1) := by decide +kernel
theorem dX6_held_42 : decode cX6_held 42 = .ok (.if_icmp .ne 10, 3) := by decide +kernel
theorem dX6_held_45 : decode cX6_held 45 = .ok (.iconst 1, 1) := by decide +kernel
theorem dX6_held_46 : decode cX6_held 46 = .ok (.iload 4, 2) := by decide +kernel
theorem dX6_held_48 : decode cX6_held 48 = .ok (.ishl, 1) := by decide +kernel
theorem dX6_held_49 : decode cX6_held 49 = .ok (.goto 4, 3) := by decide +kernel
theorem dX6_held_52 : decode cX6_held 52 = .ok (.iconst 0, 1) := by decide +kernel
theorem dX6_held_53 : decode cX6_held 53 = .ok (.ior, 1) := by decide +kernel
theorem dX6_held_54 : decode cX6_held 54 = .ok (.istore_n 3, 1) := by decide +kernel
theorem dX6_held_55 : decode cX6_held 55 = .ok (.iinc 4 1, 3) := by decide +kernel
theorem dX6_held_58 : decode cX6_held 58 = .ok (.goto (-53), 3) := by decide +kernel
theorem dX6_held_61 : decode cX6_held 61 = .ok (.iload_n 3, 1) := by decide +kernel
theorem dX6_held_62 : decode cX6_held 62 = .ok (.ireturn, 1) := by decide +kernel
theorem dX6_deadSet_0 : decode cX6_deadSet 0 = .ok (.iconst 0, 1) := by decide +kernel
theorem dX6_deadSet_1 : decode cX6_deadSet 1 = .ok (.istore_n 1, 1) := by decide +kernel
theorem dX6_deadSet_2 : decode cX6_deadSet 2 = .ok (.iconst 0, 1) := by decide +kernel
theorem dX6_deadSet_3 : decode cX6_deadSet 3 = .ok (.istore_n 2, 1) := by decide +kernel
theorem dX6_deadSet_4 : decode cX6_deadSet 4 = .ok (.iload_n 2, 1) := by decide +kernel
theorem dX6_deadSet_5 : decode cX6_deadSet 5 = .ok (.aload_n 0, 1) := by decide +kernel
theorem dX6_deadSet_6 : decode cX6_deadSet 6 = .ok (.getfield 83, 3) := by decide +kernel
theorem dX6_deadSet_9 : decode cX6_deadSet 9 = .ok (.if_icmp .ge 27, 3) := by decide +kernel
theorem dX6_deadSet_12 : decode cX6_deadSet 12 = .ok (.iload_n 1, 1) := by decide +kernel
theorem dX6_deadSet_13 : decode cX6_deadSet 13 = .ok (.aload_n 0, 1) := by decide +kernel
theorem dX6_deadSet_14 : decode cX6_deadSet 14 = .ok (.iload_n 2, 1) := by decide +kernel
theorem dX6_deadSet_15 : decode cX6_deadSet 15 = .ok (.invokevirtual 97, 3) := by decide +kernel
theorem dX6_deadSet_18 : decode cX6_deadSet 18 = .ok (.ifCond .eq 7, 3) := by decide +kernel
theorem dX6_deadSet_21 : decode cX6_deadSet 21 = .ok (.iconst 0, 1) := by decide +kernel
theorem dX6_deadSet_22 : decode cX6_deadSet 22 = .ok (.goto 6, 3) := by decide +kernel
theorem dX6_deadSet_25 : decode cX6_deadSet 25 = .ok (.iconst 1, 1) := by decide +kernel
theorem dX6_deadSet_26 : decode cX6_deadSet 26 = .ok (.iload_n 2, 1) := by decide +kernel
theorem dX6_deadSet_27 : decode cX6_deadSet 27 = .ok (.ishl, 1) := by decide +kernel
theorem dX6_deadSet_28 : decode cX6_deadSet 28 = .ok (.ior, 1) := by decide +kernel
theorem dX6_deadSet_29 : decode cX6_deadSet 29 = .ok (.istore_n 1, 1) := by decide +kernel
theorem dX6_deadSet_30 : decode cX6_deadSet 30 = .ok (.iinc 2 1, 3) := by decide +kernel
theorem dX6_deadSet_33 : decode cX6_deadSet 33 = .ok (.goto (-29), 3) := by decide +kernel
theorem dX6_deadSet_36 : decode cX6_deadSet 36 = .ok (.iload_n 1, 1) := by decide +kernel
theorem dX6_deadSet_37 : decode cX6_deadSet 37 = .ok (.ireturn, 1) := by decide +kernel
theorem dX6_fear_0 : decode cX6_fear 0 = .ok (.iload_n 1, 1) := by decide +kernel
theorem dX6_fear_1 : decode cX6_fear 1 = .ok (.invokestatic 119, 3) := by decide +kernel
theorem dX6_fear_4 : decode cX6_fear 4 = .ok (.ifCond .eq 10, 3) := by decide +kernel
theorem dX6_fear_7 : decode cX6_fear 7 = .ok (.iload_n 2, 1) := by decide +kernel
theorem dX6_fear_8 : decode cX6_fear 8 = .ok (.invokestatic 122, 3) := by decide +kernel
theorem dX6_fear_11 : decode cX6_fear 11 = .ok (.ifCond .ne 10, 3) := by decide +kernel
theorem dX6_fear_14 : decode cX6_fear 14 = .ok (.aload_n 0, 1) := by decide +kernel
theorem dX6_fear_15 : decode cX6_fear 15 = .ok (.ldc 78, 2) := by decide +kernel
theorem dX6_fear_17 : decode cX6_fear 17 = .ok (.invokevirtual 125, 3) := by decide +kernel
theorem dX6_fear_20 : decode cX6_fear 20 = .ok (.ireturn, 1) := by decide +kernel
theorem dX6_fear_21 : decode cX6_fear 21 = .ok (.aload_n 0, 1) := by decide +kernel
theorem dX6_fear_22 : decode cX6_fear 22 = .ok (.getfield 7, 3) := by decide +kernel
theorem dX6_fear_25 : decode cX6_fear 25 = .ok (.iload_n 1, 1) := by decide +kernel
theorem dX6_fear_26 : decode cX6_fear 26 = .ok (.iaload, 1) := by decide +kernel
theorem dX6_fear_27 : decode cX6_fear 27 = .ok (.istore_n 3, 1) := by decide +kernel
theorem dX6_fear_28 : decode cX6_fear 28 = .ok (.aload_n 0, 1) := by decide +kernel
theorem dX6_fear_29 : decode cX6_fear 29 = .ok (.getfield 7, 3) := by decide +kernel
theorem dX6_fear_32 : decode cX6_fear 32 = .ok (.iload_n 1, 1) := by decide +kernel
theorem dX6_fear_33 : decode cX6_fear 33 = .ok (.iload_n 2, 1) := by decide +kernel
theorem dX6_fear_34 : decode cX6_fear 34 = .ok (.iastore, 1) := by decide +kernel
theorem dX6_fear_35 : decode cX6_fear 35 = .ok (.iload_n 3, 1) := by decide +kernel
theorem dX6_fear_36 : decode cX6_fear 36 = .ok (.ireturn, 1) := by decide +kernel
theorem dX6_kingOf_0 : decode cX6_kingOf 0 = .ok (.iload_n 1, 1) := by decide +kernel
theorem dX6_kingOf_1 : decode cX6_kingOf 1 = .ok (.invokestatic 119, 3) := by decide +kernel
theorem dX6_kingOf_4 : decode cX6_kingOf 4 = .ok (.ifCond .eq 12, 3) := by decide +kernel
theorem dX6_kingOf_7 : decode cX6_kingOf 7 = .ok (.iload_n 2, 1) := by decide +kernel
theorem dX6_kingOf_8 : decode cX6_kingOf 8 = .ok (.iconst 0, 1) := by decide +kernel
theorem dX6_kingOf_9 : decode cX6_kingOf 9 = .ok (.iconst 3, 1) := by decide +kernel
theorem dX6_kingOf_10 : decode cX6_kingOf 10 = .ok (.invokestatic 79, 3) := by decide +kernel
theorem dX6_kingOf_13 : decode cX6_kingOf 13 = .ok (.ifCond .ne 10, 3) := by decide +kernel
theorem dX6_kingOf_16 : decode cX6_kingOf 16 = .ok (.aload_n 0, 1) := by decide +kernel
theorem dX6_kingOf_17 : decode cX6_kingOf 17 = .ok (.ldc 78, 2) := by decide +kernel
theorem dX6_kingOf_19 : decode cX6_kingOf 19 = .ok (.invokevirtual 125, 3) := by decide +kernel
theorem dX6_kingOf_22 : decode cX6_kingOf 22 = .ok (.ireturn, 1) := by decide +kernel
theorem dX6_kingOf_23 : decode cX6_kingOf 23 = .ok (.iconst 0, 1) := by decide +kernel
theorem dX6_kingOf_24 : decode cX6_kingOf 24 = .ok (.istore_n 3, 1) := by decide +kernel
theorem dX6_kingOf_25 : decode cX6_kingOf 25 = .ok (.iload_n 2, 1) := by decide +kernel
theorem dX6_kingOf_26 : decode cX6_kingOf 26 = .ok (.lookupswitch 84 #[(0, 26), (3, 33)], 26) := by decide +kernel
theorem dX6_kingOf_52 : decode cX6_kingOf 52 = .ok (.aload_n 0, 1) := by decide +kernel
theorem dX6_kingOf_53 : decode cX6_kingOf 53 = .ok (.getfield 7, 3) := by decide +kernel
theorem dX6_kingOf_56 : decode cX6_kingOf 56 = .ok (.iload_n 1, 1) := by decide +kernel
theorem dX6_kingOf_57 : decode cX6_kingOf 57 = .ok (.iaload, 1) := by decide +kernel
theorem dX6_kingOf_58 : decode cX6_kingOf 58 = .ok (.ireturn, 1) := by decide +kernel
theorem dX6_kingOf_59 : decode cX6_kingOf 59 = .ok (.iconst 0, 1) := by decide +kernel
theorem dX6_kingOf_60 : decode cX6_kingOf 60 = .ok (.istore 4, 2) := by decide +kernel
theorem dX6_kingOf_62 : decode cX6_kingOf 62 = .ok (.iload 4, 2) := by decide +kernel
theorem dX6_kingOf_64 : decode cX6_kingOf 64 = .ok (.aload_n 0, 1) := by decide +kernel
theorem dX6_kingOf_65 : decode cX6_kingOf 65 = .ok (.getfield 87, 3) := by decide +kernel
theorem dX6_kingOf_68 : decode cX6_kingOf 68 = .ok (.if_icmp .ge 40, 3) := by decide +kernel
theorem dX6_kingOf_71 : decode cX6_kingOf 71 = .ok (.iload_n 3, 1) := by decide +kernel
theorem dX6_kingOf_72 : decode cX6_kingOf 72 = .ok (.aload_n 0, 1) := by decide +kernel
theorem dX6_kingOf_73 : decode cX6_kingOf 73 = .ok (.getfield 22, 3) := by decide +kernel
theorem dX6_kingOf_76 : decode cX6_kingOf 76 = .ok (.iload 4, 2) := by decide +kernel
theorem dX6_kingOf_78 : decode cX6_kingOf 78 = .ok (.iaload, 1) := by decide +kernel
theorem dX6_kingOf_79 : decode cX6_kingOf 79 = .ok (.iload_n 1, 1) := by decide +kernel
theorem dX6_kingOf_80 : decode cX6_kingOf 80 = .ok (.if_icmp .ne 19, 3) := by decide +kernel
theorem dX6_kingOf_83 : decode cX6_kingOf 83 = .ok (.aload_n 0, 1) := by decide +kernel
theorem dX6_kingOf_84 : decode cX6_kingOf 84 = .ok (.iload 4, 2) := by decide +kernel
theorem dX6_kingOf_86 : decode cX6_kingOf 86 = .ok (.invokevirtual 113, 3) := by decide +kernel
theorem dX6_kingOf_89 : decode cX6_kingOf 89 = .ok (.ifCond .eq 10, 3) := by decide +kernel
theorem dX6_kingOf_92 : decode cX6_kingOf 92 = .ok (.iconst 1, 1) := by decide +kernel
theorem dX6_kingOf_93 : decode cX6_kingOf 93 = .ok (.iload 4, 2) := by decide +kernel
theorem dX6_kingOf_95 : decode cX6_kingOf 95 = .ok (.ishl, 1) := by decide +kernel
theorem dX6_kingOf_96 : decode cX6_kingOf 96 = .ok (.goto 4, 3) := by decide +kernel
theorem dX6_kingOf_99 : decode cX6_kingOf 99 = .ok (.iconst 0, 1) := by decide +kernel
theorem dX6_kingOf_100 : decode cX6_kingOf 100 = .ok (.ior, 1) := by decide +kernel
theorem dX6_kingOf_101 : decode cX6_kingOf 101 = .ok (.istore_n 3, 1) := by decide +kernel
theorem dX6_kingOf_102 : decode cX6_kingOf 102 = .ok (.iinc 4 1, 3) := by decide +kernel
theorem dX6_kingOf_105 : decode cX6_kingOf 105 = .ok (.goto (-43), 3) := by decide +kernel
theorem dX6_kingOf_108 : decode cX6_kingOf 108 = .ok (.iload_n 3, 1) := by decide +kernel
theorem dX6_kingOf_109 : decode cX6_kingOf 109 = .ok (.ireturn, 1) := by decide +kernel
theorem dX6_kingOf_110 : decode cX6_kingOf 110 = .ok (.iconst 0, 1) := by decide +kernel
theorem dX6_kingOf_111 : decode cX6_kingOf 111 = .ok (.istore 4, 2) := by decide +kernel
theorem dX6_kingOf_113 : decode cX6_kingOf 113 = .ok (.iload 4, 2) := by decide +kernel
theorem dX6_kingOf_115 : decode cX6_kingOf 115 = .ok (.aload_n 0, 1) := by decide +kernel
theorem dX6_kingOf_116 : decode cX6_kingOf 116 = .ok (.getfield 83, 3) := by decide +kernel
theorem dX6_kingOf_119 : decode cX6_kingOf 119 = .ok (.if_icmp .ge 84, 3) := by decide +kernel
theorem dX6_kingOf_122 : decode cX6_kingOf 122 = .ok (.iload_n 2, 1) := by decide +kernel
theorem dX6_kingOf_123 : decode cX6_kingOf 123 = .ok (.iconst 1, 1) := by decide +kernel
theorem dX6_kingOf_124 : decode cX6_kingOf 124 = .ok (.if_icmp .ne 22, 3) := by decide +kernel
theorem dX6_kingOf_127 : decode cX6_kingOf 127 = .ok (.aload_n 0, 1) := by decide +kernel
theorem dX6_kingOf_128 : decode cX6_kingOf 128 = .ok (.getfield 16, 3) := by decide +kernel
theorem dX6_kingOf_131 : decode cX6_kingOf 131 = .ok (.iload 4, 2) := by decide +kernel
theorem dX6_kingOf_133 : decode cX6_kingOf 133 = .ok (.iaload, 1) := by decide +kernel
theorem dX6_kingOf_134 : decode cX6_kingOf 134 = .ok (.iload_n 1, 1) := by decide +kernel
theorem dX6_kingOf_135 : decode cX6_kingOf 135 = .ok (.if_icmp .ne 7, 3) := by decide +kernel
theorem dX6_kingOf_138 : decode cX6_kingOf 138 = .ok (.iconst 1, 1) := by decide +kernel
theorem dX6_kingOf_139 : decode cX6_kingOf 139 = .ok (.goto 31, 3) := by decide +kernel
theorem dX6_kingOf_142 : decode cX6_kingOf 142 = .ok (.iconst 0, 1) := by decide +kernel
theorem dX6_kingOf_143 : decode cX6_kingOf 143 = .ok (.goto 27, 3) := by decide +kernel
theorem dX6_kingOf_146 : decode cX6_kingOf 146 = .ok (.aload_n 0, 1) := by decide +kernel
theorem dX6_kingOf_147 : decode cX6_kingOf 147 = .ok (.iload 4, 2) := by decide +kernel
theorem dX6_kingOf_149 : decode cX6_kingOf 149 = .ok (.invokevirtual 93, 3) := by decide +kernel
theorem dX6_kingOf_152 : decode cX6_kingOf 152 = .ok (.iload_n 1, 1) := by decide +kernel
theorem dX6_kingOf_153 : decode cX6_kingOf 153 = .ok (.if_icmp .ne 16, 3) := by decide +kernel
theorem dX6_kingOf_156 : decode cX6_kingOf 156 = .ok (.aload_n 0, 1) := by decide +kernel
theorem dX6_kingOf_157 : decode cX6_kingOf 157 = .ok (.iload 4, 2) := by decide +kernel
theorem dX6_kingOf_159 : decode cX6_kingOf 159 = .ok (.invokevirtual 101, 3) := by decide +kernel
theorem dX6_kingOf_162 : decode cX6_kingOf 162 = .ok (.ifCond .ne 7, 3) := by decide +kernel
theorem dX6_kingOf_165 : decode cX6_kingOf 165 = .ok (.iconst 1, 1) := by decide +kernel
theorem dX6_kingOf_166 : decode cX6_kingOf 166 = .ok (.goto 4, 3) := by decide +kernel
theorem dX6_kingOf_169 : decode cX6_kingOf 169 = .ok (.iconst 0, 1) := by decide +kernel
theorem dX6_kingOf_170 : decode cX6_kingOf 170 = .ok (.istore 5, 2) := by decide +kernel
theorem dX6_kingOf_172 : decode cX6_kingOf 172 = .ok (.iload_n 3, 1) := by decide +kernel
theorem dX6_kingOf_173 : decode cX6_kingOf 173 = .ok (.iload 5, 2) := by decide +kernel
theorem dX6_kingOf_175 : decode cX6_kingOf 175 = .ok (.ifCond .eq 19, 3) := by decide +kernel
theorem dX6_kingOf_178 : decode cX6_kingOf 178 = .ok (.aload_n 0, 1) := by decide +kernel
theorem dX6_kingOf_179 : decode cX6_kingOf 179 = .ok (.iload 4, 2) := by decide +kernel
theorem dX6_kingOf_181 : decode cX6_kingOf 181 = .ok (.invokevirtual 97, 3) := by decide +kernel
theorem dX6_kingOf_184 : decode cX6_kingOf 184 = .ok (.ifCond .eq 10, 3) := by decide +kernel
theorem dX6_kingOf_187 : decode cX6_kingOf 187 = .ok (.iconst 1, 1) := by decide +kernel
theorem dX6_kingOf_188 : decode cX6_kingOf 188 = .ok (.iload 4, 2) := by decide +kernel
theorem dX6_kingOf_190 : decode cX6_kingOf 190 = .ok (.ishl, 1) := by decide +kernel
theorem dX6_kingOf_191 : decode cX6_kingOf 191 = .ok (.goto 4, 3) := by decide +kernel
theorem dX6_kingOf_194 : decode cX6_kingOf 194 = .ok (.iconst 0, 1) := by decide +kernel
theorem dX6_kingOf_195 : decode cX6_kingOf 195 = .ok (.ior, 1) := by decide +kernel
theorem dX6_kingOf_196 : decode cX6_kingOf 196 = .ok (.istore_n 3, 1) := by decide +kernel
theorem dX6_kingOf_197 : decode cX6_kingOf 197 = .ok (.iinc 4 1, 3) := by decide +kernel
theorem dX6_kingOf_200 : decode cX6_kingOf 200 = .ok (.goto (-87), 3) := by decide +kernel
theorem dX6_kingOf_203 : decode cX6_kingOf 203 = .ok (.iload_n 3, 1) := by decide +kernel
theorem dX6_kingOf_204 : decode cX6_kingOf 204 = .ok (.ireturn, 1) := by decide +kernel
theorem dX6_addChild_0 : decode cX6_addChild 0 = .ok (.aload_n 0, 1) := by decide +kernel
theorem dX6_addChild_1 : decode cX6_addChild 1 = .ok (.getfield 13, 3) := by decide +kernel
theorem dX6_addChild_4 : decode cX6_addChild 4 = .ok (.aload_n 0, 1) := by decide +kernel
theorem dX6_addChild_5 : decode cX6_addChild 5 = .ok (.getfield 83, 3) := by decide +kernel
theorem dX6_addChild_8 : decode cX6_addChild 8 = .ok (.iload_n 1, 1) := by decide +kernel
theorem dX6_addChild_9 : decode cX6_addChild 9 = .ok (.iastore, 1) := by decide +kernel
theorem dX6_addChild_10 : decode cX6_addChild 10 = .ok (.aload_n 0, 1) := by decide +kernel
theorem dX6_addChild_11 : decode cX6_addChild 11 = .ok (.getfield 16, 3) := by decide +kernel
theorem dX6_addChild_14 : decode cX6_addChild 14 = .ok (.aload_n 0, 1) := by decide +kernel
theorem dX6_addChild_15 : decode cX6_addChild 15 = .ok (.getfield 83, 3) := by decide +kernel
theorem dX6_addChild_18 : decode cX6_addChild 18 = .ok (.iload_n 2, 1) := by decide +kernel
theorem dX6_addChild_19 : decode cX6_addChild 19 = .ok (.iastore, 1) := by decide +kernel
theorem dX6_addChild_20 : decode cX6_addChild 20 = .ok (.aload_n 0, 1) := by decide +kernel
theorem dX6_addChild_21 : decode cX6_addChild 21 = .ok (.getfield 19, 3) := by decide +kernel
theorem dX6_addChild_24 : decode cX6_addChild 24 = .ok (.aload_n 0, 1) := by decide +kernel
theorem dX6_addChild_25 : decode cX6_addChild 25 = .ok (.getfield 83, 3) := by decide +kernel
theorem dX6_addChild_28 : decode cX6_addChild 28 = .ok (.iload 4, 2) := by decide +kernel
theorem dX6_addChild_30 : decode cX6_addChild 30 = .ok (.iastore, 1) := by decide +kernel
theorem dX6_addChild_31 : decode cX6_addChild 31 = .ok (.aload_n 0, 1) := by decide +kernel
theorem dX6_addChild_32 : decode cX6_addChild 32 = .ok (.getfield 34, 3) := by decide +kernel
theorem dX6_addChild_35 : decode cX6_addChild 35 = .ok (.iconst 1, 1) := by decide +kernel
theorem dX6_addChild_36 : decode cX6_addChild 36 = .ok (.aload_n 0, 1) := by decide +kernel
theorem dX6_addChild_37 : decode cX6_addChild 37 = .ok (.getfield 83, 3) := by decide +kernel
theorem dX6_addChild_40 : decode cX6_addChild 40 = .ok (.iadd, 1) := by decide +kernel
theorem dX6_addChild_41 : decode cX6_addChild 41 = .ok (.iload_n 3, 1) := by decide +kernel
theorem dX6_addChild_42 : decode cX6_addChild 42 = .ok (.iastore, 1) := by decide +kernel
theorem dX6_addChild_43 : decode cX6_addChild 43 = .ok (.aload_n 0, 1) := by decide +kernel
theorem dX6_addChild_44 : decode cX6_addChild 44 = .ok (.getfield 34, 3) := by decide +kernel
theorem dX6_addChild_47 : decode cX6_addChild 47 = .ok (.bipush 15, 2) := by decide +kernel
theorem dX6_addChild_49 : decode cX6_addChild 49 = .ok (.aload_n 0, 1) := by decide +kernel
theorem dX6_addChild_50 : decode cX6_addChild 50 = .ok (.getfield 83, 3) := by decide +kernel
theorem dX6_addChild_53 : decode cX6_addChild 53 = .ok (.iadd, 1) := by decide +kernel
theorem dX6_addChild_54 : decode cX6_addChild 54 = .ok (.iconst 0, 1) := by decide +kernel
theorem dX6_addChild_55 : decode cX6_addChild 55 = .ok (.iastore, 1) := by decide +kernel
theorem dX6_addChild_56 : decode cX6_addChild 56 = .ok (.aload_n 0, 1) := by decide +kernel
theorem dX6_addChild_57 : decode cX6_addChild 57 = .ok (.dup, 1) := by decide +kernel
theorem dX6_addChild_58 : decode cX6_addChild 58 = .ok (.getfield 83, 3) := by decide +kernel
theorem dX6_addChild_61 : decode cX6_addChild 61 = .ok (.iconst 1, 1) := by decide +kernel
theorem dX6_addChild_62 : decode cX6_addChild 62 = .ok (.iadd, 1) := by decide +kernel
theorem dX6_addChild_63 : decode cX6_addChild 63 = .ok (.putfield 83, 3) := by decide +kernel
theorem dX6_addChild_66 : decode cX6_addChild 66 = .ok (.return_, 1) := by decide +kernel
theorem dX6_child_0 : decode cX6_child 0 = .ok (.iload_n 1, 1) := by decide +kernel
theorem dX6_child_1 : decode cX6_child 1 = .ok (.invokestatic 128, 3) := by decide +kernel
theorem dX6_child_4 : decode cX6_child 4 = .ok (.ifCond .eq 17, 3) := by decide +kernel
theorem dX6_child_7 : decode cX6_child 7 = .ok (.iload_n 2, 1) := by decide +kernel
theorem dX6_child_8 : decode cX6_child 8 = .ok (.invokestatic 119, 3) := by decide +kernel
theorem dX6_child_11 : decode cX6_child 11 = .ok (.ifCond .eq 10, 3) := by decide +kernel
theorem dX6_child_14 : decode cX6_child 14 = .ok (.iload_n 3, 1) := by decide +kernel
theorem dX6_child_15 : decode cX6_child 15 = .ok (.invokestatic 122, 3) := by decide +kernel
theorem dX6_child_18 : decode cX6_child 18 = .ok (.ifCond .ne 10, 3) := by decide +kernel
theorem dX6_child_21 : decode cX6_child 21 = .ok (.aload_n 0, 1) := by decide +kernel
theorem dX6_child_22 : decode cX6_child 22 = .ok (.ldc 78, 2) := by decide +kernel
theorem dX6_child_24 : decode cX6_child 24 = .ok (.invokevirtual 125, 3) := by decide +kernel
theorem dX6_child_27 : decode cX6_child 27 = .ok (.ireturn, 1) := by decide +kernel
theorem dX6_child_28 : decode cX6_child 28 = .ok (.aload_n 0, 1) := by decide +kernel
theorem dX6_child_29 : decode cX6_child 29 = .ok (.getfield 83, 3) := by decide +kernel
theorem dX6_child_32 : decode cX6_child 32 = .ok (.bipush 14, 2) := by decide +kernel
theorem dX6_child_34 : decode cX6_child 34 = .ok (.if_icmp .ne 10, 3) := by decide +kernel
theorem dX6_child_37 : decode cX6_child 37 = .ok (.aload_n 0, 1) := by decide +kernel
theorem dX6_child_38 : decode cX6_child 38 = .ok (.ldc 131, 2) := by decide +kernel
theorem dX6_child_40 : decode cX6_child 40 = .ok (.invokevirtual 125, 3) := by decide +kernel
theorem dX6_child_43 : decode cX6_child 43 = .ok (.ireturn, 1) := by decide +kernel
theorem dX6_child_44 : decode cX6_child 44 = .ok (.aload_n 0, 1) := by decide +kernel
theorem dX6_child_45 : decode cX6_child 45 = .ok (.iload_n 1, 1) := by decide +kernel
theorem dX6_child_46 : decode cX6_child 46 = .ok (.iload_n 2, 1) := by decide +kernel
theorem dX6_child_47 : decode cX6_child 47 = .ok (.iload_n 2, 1) := by decide +kernel
theorem dX6_child_48 : decode cX6_child 48 = .ok (.iload_n 3, 1) := by decide +kernel
theorem dX6_child_49 : decode cX6_child 49 = .ok (.invokevirtual 132, 3) := by decide +kernel
theorem dX6_child_52 : decode cX6_child 52 = .ok (.aload_n 0, 1) := by decide +kernel
theorem dX6_child_53 : decode cX6_child 53 = .ok (.getfield 83, 3) := by decide +kernel
theorem dX6_child_56 : decode cX6_child 56 = .ok (.iconst 1, 1) := by decide +kernel
theorem dX6_child_57 : decode cX6_child 57 = .ok (.isub, 1) := by decide +kernel
theorem dX6_child_58 : decode cX6_child 58 = .ok (.ireturn, 1) := by decide +kernel
theorem dX6_of_0 : decode cX6_of 0 = .ok (.aload_n 0, 1) := by decide +kernel
theorem dX6_of_1 : decode cX6_of 1 = .ok (.iload_n 1, 1) := by decide +kernel
theorem dX6_of_2 : decode cX6_of 2 = .ok (.invokevirtual 136, 3) := by decide +kernel
theorem dX6_of_5 : decode cX6_of 5 = .ok (.ifCond .eq 12, 3) := by decide +kernel
theorem dX6_of_8 : decode cX6_of 8 = .ok (.iload_n 2, 1) := by decide +kernel
theorem dX6_of_9 : decode cX6_of 9 = .ok (.iconst 0, 1) := by decide +kernel
theorem dX6_of_10 : decode cX6_of 10 = .ok (.iconst 5, 1) := by decide +kernel
theorem dX6_of_11 : decode cX6_of 11 = .ok (.invokestatic 79, 3) := by decide +kernel
theorem dX6_of_14 : decode cX6_of 14 = .ok (.ifCond .ne 10, 3) := by decide +kernel
theorem dX6_of_17 : decode cX6_of 17 = .ok (.aload_n 0, 1) := by decide +kernel
theorem dX6_of_18 : decode cX6_of 18 = .ok (.ldc 78, 2) := by decide +kernel
theorem dX6_of_20 : decode cX6_of 20 = .ok (.invokevirtual 125, 3) := by decide +kernel
theorem dX6_of_23 : decode cX6_of 23 = .ok (.ireturn, 1) := by decide +kernel
theorem dX6_of_24 : decode cX6_of 24 = .ok (.iload_n 2, 1) := by decide +kernel
theorem dX6_of_25 : decode cX6_of 25 = .ok (.tableswitch 76 0 4 #[35, 42, 49, 55, 62], 35) := by decide +kernel
theorem dX6_of_60 : decode cX6_of 60 = .ok (.aload_n 0, 1) := by decide +kernel
theorem dX6_of_61 : decode cX6_of 61 = .ok (.getfield 13, 3) := by decide +kernel
theorem dX6_of_64 : decode cX6_of 64 = .ok (.iload_n 1, 1) := by decide +kernel
theorem dX6_of_65 : decode cX6_of 65 = .ok (.iaload, 1) := by decide +kernel
theorem dX6_of_66 : decode cX6_of 66 = .ok (.ireturn, 1) := by decide +kernel
theorem dX6_of_67 : decode cX6_of 67 = .ok (.aload_n 0, 1) := by decide +kernel
theorem dX6_of_68 : decode cX6_of 68 = .ok (.getfield 16, 3) := by decide +kernel
theorem dX6_of_71 : decode cX6_of 71 = .ok (.iload_n 1, 1) := by decide +kernel
theorem dX6_of_72 : decode cX6_of 72 = .ok (.iaload, 1) := by decide +kernel
theorem dX6_of_73 : decode cX6_of 73 = .ok (.ireturn, 1) := by decide +kernel
theorem dX6_of_74 : decode cX6_of 74 = .ok (.aload_n 0, 1) := by decide +kernel
theorem dX6_of_75 : decode cX6_of 75 = .ok (.iload_n 1, 1) := by decide +kernel
theorem dX6_of_76 : decode cX6_of 76 = .ok (.invokevirtual 93, 3) := by decide +kernel
theorem dX6_of_79 : decode cX6_of 79 = .ok (.ireturn, 1) := by decide +kernel
theorem dX6_of_80 : decode cX6_of 80 = .ok (.aload_n 0, 1) := by decide +kernel
theorem dX6_of_81 : decode cX6_of 81 = .ok (.getfield 19, 3) := by decide +kernel
theorem dX6_of_84 : decode cX6_of 84 = .ok (.iload_n 1, 1) := by decide +kernel
theorem dX6_of_85 : decode cX6_of 85 = .ok (.iaload, 1) := by decide +kernel
theorem dX6_of_86 : decode cX6_of 86 = .ok (.ireturn, 1) := by decide +kernel
theorem dX6_of_87 : decode cX6_of 87 = .ok (.aload_n 0, 1) := by decide +kernel
theorem dX6_of_88 : decode cX6_of 88 = .ok (.iload_n 1, 1) := by decide +kernel
theorem dX6_of_89 : decode cX6_of 89 = .ok (.invokevirtual 97, 3) := by decide +kernel
theorem dX6_of_92 : decode cX6_of 92 = .ok (.ifCond .eq 7, 3) := by decide +kernel
theorem dX6_of_95 : decode cX6_of 95 = .ok (.iconst 0, 1) := by decide +kernel
theorem dX6_of_96 : decode cX6_of 96 = .ok (.goto 4, 3) := by decide +kernel
theorem dX6_of_99 : decode cX6_of 99 = .ok (.iconst 1, 1) := by decide +kernel
theorem dX6_of_100 : decode cX6_of 100 = .ok (.ireturn, 1) := by decide +kernel
theorem dX6_of_101 : decode cX6_of 101 = .ok (.aload_n 0, 1) := by decide +kernel
theorem dX6_of_102 : decode cX6_of 102 = .ok (.iload_n 1, 1) := by decide +kernel
theorem dX6_of_103 : decode cX6_of 103 = .ok (.invokevirtual 97, 3) := by decide +kernel
theorem dX6_of_106 : decode cX6_of 106 = .ok (.ifCond .eq 11, 3) := by decide +kernel
theorem dX6_of_109 : decode cX6_of 109 = .ok (.aload_n 0, 1) := by decide +kernel
theorem dX6_of_110 : decode cX6_of 110 = .ok (.iload_n 1, 1) := by decide +kernel
theorem dX6_of_111 : decode cX6_of 111 = .ok (.invokevirtual 107, 3) := by decide +kernel
theorem dX6_of_114 : decode cX6_of 114 = .ok (.goto 4, 3) := by decide +kernel
theorem dX6_of_117 : decode cX6_of 117 = .ok (.iconst 0, 1) := by decide +kernel
theorem dX6_of_118 : decode cX6_of 118 = .ok (.ireturn, 1) := by decide +kernel
theorem dX6_move_0 : decode cX6_move 0 = .ok (.aload_n 0, 1) := by decide +kernel
theorem dX6_move_1 : decode cX6_move 1 = .ok (.iload_n 1, 1) := by decide +kernel
theorem dX6_move_2 : decode cX6_move 2 = .ok (.invokevirtual 136, 3) := by decide +kernel
theorem dX6_move_5 : decode cX6_move 5 = .ok (.ifCond .eq 10, 3) := by decide +kernel
theorem dX6_move_8 : decode cX6_move 8 = .ok (.iload_n 2, 1) := by decide +kernel
theorem dX6_move_9 : decode cX6_move 9 = .ok (.invokestatic 119, 3) := by decide +kernel
theorem dX6_move_12 : decode cX6_move 12 = .ok (.ifCond .ne 10, 3) := by decide +kernel
theorem dX6_move_15 : decode cX6_move 15 = .ok (.aload_n 0, 1) := by decide +kernel
theorem dX6_move_16 : decode cX6_move 16 = .ok (.ldc 78, 2) := by decide +kernel
theorem dX6_move_18 : decode cX6_move 18 = .ok (.invokevirtual 125, 3) := by decide +kernel
theorem dX6_move_21 : decode cX6_move 21 = .ok (.ireturn, 1) := by decide +kernel
theorem dX6_move_22 : decode cX6_move 22 = .ok (.aload_n 0, 1) := by decide +kernel
theorem dX6_move_23 : decode cX6_move 23 = .ok (.iload_n 1, 1) := by decide +kernel
theorem dX6_move_24 : decode cX6_move 24 = .ok (.invokevirtual 97, 3) := by decide +kernel
theorem dX6_move_27 : decode cX6_move 27 = .ok (.ifCond .ne 10, 3) := by decide +kernel
theorem dX6_move_30 : decode cX6_move 30 = .ok (.aload_n 0, 1) := by decide +kernel
theorem dX6_move_31 : decode cX6_move 31 = .ok (.ldc 139, 2) := by decide +kernel
theorem dX6_move_33 : decode cX6_move 33 = .ok (.invokevirtual 125, 3) := by decide +kernel
theorem dX6_move_36 : decode cX6_move 36 = .ok (.ireturn, 1) := by decide +kernel
theorem dX6_move_37 : decode cX6_move 37 = .ok (.aload_n 0, 1) := by decide +kernel
theorem dX6_move_38 : decode cX6_move 38 = .ok (.getfield 34, 3) := by decide +kernel
theorem dX6_move_41 : decode cX6_move 41 = .ok (.iconst 1, 1) := by decide +kernel
theorem dX6_move_42 : decode cX6_move 42 = .ok (.iload_n 1, 1) := by decide +kernel
theorem dX6_move_43 : decode cX6_move 43 = .ok (.iadd, 1) := by decide +kernel
theorem dX6_move_44 : decode cX6_move 44 = .ok (.iaload, 1) := by decide +kernel
theorem dX6_move_45 : decode cX6_move 45 = .ok (.istore_n 3, 1) := by decide +kernel
theorem dX6_move_46 : decode cX6_move 46 = .ok (.aload_n 0, 1) := by decide +kernel
theorem dX6_move_47 : decode cX6_move 47 = .ok (.getfield 34, 3) := by decide +kernel
theorem dX6_move_50 : decode cX6_move 50 = .ok (.iconst 1, 1) := by decide +kernel
theorem dX6_move_51 : decode cX6_move 51 = .ok (.iload_n 1, 1) := by decide +kernel
theorem dX6_move_52 : decode cX6_move 52 = .ok (.iadd, 1) := by decide +kernel
theorem dX6_move_53 : decode cX6_move 53 = .ok (.iload_n 2, 1) := by decide +kernel
theorem dX6_move_54 : decode cX6_move 54 = .ok (.iastore, 1) := by decide +kernel
theorem dX6_move_55 : decode cX6_move 55 = .ok (.iload_n 3, 1) := by decide +kernel
theorem dX6_move_56 : decode cX6_move 56 = .ok (.ireturn, 1) := by decide +kernel
theorem dX6_worth_0 : decode cX6_worth 0 = .ok (.aload_n 0, 1) := by decide +kernel
theorem dX6_worth_1 : decode cX6_worth 1 = .ok (.iload_n 1, 1) := by decide +kernel
theorem dX6_worth_2 : decode cX6_worth 2 = .ok (.invokevirtual 136, 3) := by decide +kernel
theorem dX6_worth_5 : decode cX6_worth 5 = .ok (.ifCond .eq 10, 3) := by decide +kernel
theorem dX6_worth_8 : decode cX6_worth 8 = .ok (.iload_n 2, 1) := by decide +kernel
theorem dX6_worth_9 : decode cX6_worth 9 = .ok (.invokestatic 122, 3) := by decide +kernel
theorem dX6_worth_12 : decode cX6_worth 12 = .ok (.ifCond .ne 10, 3) := by decide +kernel
theorem dX6_worth_15 : decode cX6_worth 15 = .ok (.aload_n 0, 1) := by decide +kernel
theorem dX6_worth_16 : decode cX6_worth 16 = .ok (.ldc 78, 2) := by decide +kernel
theorem dX6_worth_18 : decode cX6_worth 18 = .ok (.invokevirtual 125, 3) := by decide +kernel
theorem dX6_worth_21 : decode cX6_worth 21 = .ok (.ireturn, 1) := by decide +kernel
theorem dX6_worth_22 : decode cX6_worth 22 = .ok (.aload_n 0, 1) := by decide +kernel
theorem dX6_worth_23 : decode cX6_worth 23 = .ok (.getfield 19, 3) := by decide +kernel
theorem dX6_worth_26 : decode cX6_worth 26 = .ok (.iload_n 1, 1) := by decide +kernel
theorem dX6_worth_27 : decode cX6_worth 27 = .ok (.iaload, 1) := by decide +kernel
theorem dX6_worth_28 : decode cX6_worth 28 = .ok (.istore_n 3, 1) := by decide +kernel
theorem dX6_worth_29 : decode cX6_worth 29 = .ok (.aload_n 0, 1) := by decide +kernel
theorem dX6_worth_30 : decode cX6_worth 30 = .ok (.getfield 19, 3) := by decide +kernel
theorem dX6_worth_33 : decode cX6_worth 33 = .ok (.iload_n 1, 1) := by decide +kernel
theorem dX6_worth_34 : decode cX6_worth 34 = .ok (.iload_n 2, 1) := by decide +kernel
theorem dX6_worth_35 : decode cX6_worth 35 = .ok (.iastore, 1) := by decide +kernel
theorem dX6_worth_36 : decode cX6_worth 36 = .ok (.iload_n 3, 1) := by decide +kernel
theorem dX6_worth_37 : decode cX6_worth 37 = .ok (.ireturn, 1) := by decide +kernel
theorem dX6_turn_0 : decode cX6_turn 0 = .ok (.aload_n 0, 1) := by decide +kernel
theorem dX6_turn_1 : decode cX6_turn 1 = .ok (.iload_n 1, 1) := by decide +kernel
theorem dX6_turn_2 : decode cX6_turn 2 = .ok (.invokevirtual 136, 3) := by decide +kernel
theorem dX6_turn_5 : decode cX6_turn 5 = .ok (.ifCond .eq 10, 3) := by decide +kernel
theorem dX6_turn_8 : decode cX6_turn 8 = .ok (.iload_n 2, 1) := by decide +kernel
theorem dX6_turn_9 : decode cX6_turn 9 = .ok (.invokestatic 128, 3) := by decide +kernel
theorem dX6_turn_12 : decode cX6_turn 12 = .ok (.ifCond .ne 10, 3) := by decide +kernel
theorem dX6_turn_15 : decode cX6_turn 15 = .ok (.aload_n 0, 1) := by decide +kernel
theorem dX6_turn_16 : decode cX6_turn 16 = .ok (.ldc 78, 2) := by decide +kernel
theorem dX6_turn_18 : decode cX6_turn 18 = .ok (.invokevirtual 125, 3) := by decide +kernel
theorem dX6_turn_21 : decode cX6_turn 21 = .ok (.ireturn, 1) := by decide +kernel
theorem dX6_turn_22 : decode cX6_turn 22 = .ok (.aload_n 0, 1) := by decide +kernel
theorem dX6_turn_23 : decode cX6_turn 23 = .ok (.getfield 13, 3) := by decide +kernel
theorem dX6_turn_26 : decode cX6_turn 26 = .ok (.iload_n 1, 1) := by decide +kernel
theorem dX6_turn_27 : decode cX6_turn 27 = .ok (.iaload, 1) := by decide +kernel
theorem dX6_turn_28 : decode cX6_turn 28 = .ok (.istore_n 3, 1) := by decide +kernel
theorem dX6_turn_29 : decode cX6_turn 29 = .ok (.aload_n 0, 1) := by decide +kernel
theorem dX6_turn_30 : decode cX6_turn 30 = .ok (.getfield 13, 3) := by decide +kernel
theorem dX6_turn_33 : decode cX6_turn 33 = .ok (.iload_n 1, 1) := by decide +kernel
theorem dX6_turn_34 : decode cX6_turn 34 = .ok (.iload_n 2, 1) := by decide +kernel
theorem dX6_turn_35 : decode cX6_turn 35 = .ok (.iastore, 1) := by decide +kernel
theorem dX6_turn_36 : decode cX6_turn 36 = .ok (.iload_n 3, 1) := by decide +kernel
theorem dX6_turn_37 : decode cX6_turn 37 = .ok (.ireturn, 1) := by decide +kernel
theorem dX6_isUnder_0 : decode cX6_isUnder 0 = .ok (.iload_n 1, 1) := by decide +kernel
theorem dX6_isUnder_1 : decode cX6_isUnder 1 = .ok (.ifCond .eq 33, 3) := by decide +kernel
theorem dX6_isUnder_4 : decode cX6_isUnder 4 = .ok (.iload_n 1, 1) := by decide +kernel
theorem dX6_isUnder_5 : decode cX6_isUnder 5 = .ok (.iload_n 0, 1) := by decide +kernel
theorem dX6_isUnder_6 : decode cX6_isUnder 6 = .ok (.if_icmp .eq 28, 3) := by decide +kernel
theorem dX6_isUnder_9 : decode cX6_isUnder 9 = .ok (.iload_n 1, 1) := by decide +kernel
theorem dX6_isUnder_10 : decode cX6_isUnder 10 = .ok (.iconst 1, 1) := by decide +kernel
theorem dX6_isUnder_11 : decode cX6_isUnder 11 = .ok (.if_icmp .ne 13, 3) := by decide +kernel
theorem dX6_isUnder_14 : decode cX6_isUnder 14 = .ok (.iload_n 0, 1) := by decide +kernel
theorem dX6_isUnder_15 : decode cX6_isUnder 15 = .ok (.iconst 3, 1) := by decide +kernel
theorem dX6_isUnder_16 : decode cX6_isUnder 16 = .ok (.if_icmp .eq 18, 3) := by decide +kernel
theorem dX6_isUnder_19 : decode cX6_isUnder 19 = .ok (.iload_n 0, 1) := by decide +kernel
theorem dX6_isUnder_20 : decode cX6_isUnder 20 = .ok (.iconst 5, 1) := by decide +kernel
theorem dX6_isUnder_21 : decode cX6_isUnder 21 = .ok (.if_icmp .eq 13, 3) := by decide +kernel
theorem dX6_isUnder_24 : decode cX6_isUnder 24 = .ok (.iload_n 1, 1) := by decide +kernel
theorem dX6_isUnder_25 : decode cX6_isUnder 25 = .ok (.iconst 2, 1) := by decide +kernel
theorem dX6_isUnder_26 : decode cX6_isUnder 26 = .ok (.if_icmp .ne 12, 3) := by decide +kernel
theorem dX6_isUnder_29 : decode cX6_isUnder 29 = .ok (.iload_n 0, 1) := by decide +kernel
theorem dX6_isUnder_30 : decode cX6_isUnder 30 = .ok (.iconst 4, 1) := by decide +kernel
theorem dX6_isUnder_31 : decode cX6_isUnder 31 = .ok (.if_icmp .ne 7, 3) := by decide +kernel
theorem dX6_isUnder_34 : decode cX6_isUnder 34 = .ok (.iconst 1, 1) := by decide +kernel
theorem dX6_isUnder_35 : decode cX6_isUnder 35 = .ok (.goto 4, 3) := by decide +kernel
theorem dX6_isUnder_38 : decode cX6_isUnder 38 = .ok (.iconst 0, 1) := by decide +kernel
theorem dX6_isUnder_39 : decode cX6_isUnder 39 = .ok (.ireturn, 1) := by decide +kernel
theorem dX6_as_0 : decode cX6_as 0 = .ok (.aload_n 0, 1) := by decide +kernel
theorem dX6_as_1 : decode cX6_as 1 = .ok (.iload_n 1, 1) := by decide +kernel
theorem dX6_as_2 : decode cX6_as 2 = .ok (.invokevirtual 136, 3) := by decide +kernel
theorem dX6_as_5 : decode cX6_as 5 = .ok (.ifCond .eq 10, 3) := by decide +kernel
theorem dX6_as_8 : decode cX6_as 8 = .ok (.iload_n 2, 1) := by decide +kernel
theorem dX6_as_9 : decode cX6_as 9 = .ok (.invokestatic 128, 3) := by decide +kernel
theorem dX6_as_12 : decode cX6_as 12 = .ok (.ifCond .ne 10, 3) := by decide +kernel
theorem dX6_as_15 : decode cX6_as 15 = .ok (.aload_n 0, 1) := by decide +kernel
theorem dX6_as_16 : decode cX6_as 16 = .ok (.ldc 78, 2) := by decide +kernel
theorem dX6_as_18 : decode cX6_as 18 = .ok (.invokevirtual 125, 3) := by decide +kernel
theorem dX6_as_21 : decode cX6_as 21 = .ok (.ireturn, 1) := by decide +kernel
theorem dX6_as_22 : decode cX6_as 22 = .ok (.aload_n 0, 1) := by decide +kernel
theorem dX6_as_23 : decode cX6_as 23 = .ok (.getfield 13, 3) := by decide +kernel
theorem dX6_as_26 : decode cX6_as 26 = .ok (.iload_n 1, 1) := by decide +kernel
theorem dX6_as_27 : decode cX6_as 27 = .ok (.iaload, 1) := by decide +kernel
theorem dX6_as_28 : decode cX6_as 28 = .ok (.iload_n 2, 1) := by decide +kernel
theorem dX6_as_29 : decode cX6_as 29 = .ok (.invokestatic 140, 3) := by decide +kernel
theorem dX6_as_32 : decode cX6_as 32 = .ok (.ifCond .eq 11, 3) := by decide +kernel
theorem dX6_as_35 : decode cX6_as 35 = .ok (.aload_n 0, 1) := by decide +kernel
theorem dX6_as_36 : decode cX6_as 36 = .ok (.iload_n 1, 1) := by decide +kernel
theorem dX6_as_37 : decode cX6_as 37 = .ok (.invokevirtual 93, 3) := by decide +kernel
theorem dX6_as_40 : decode cX6_as 40 = .ok (.goto 9, 3) := by decide +kernel
theorem dX6_as_43 : decode cX6_as 43 = .ok (.aload_n 0, 1) := by decide +kernel
theorem dX6_as_44 : decode cX6_as 44 = .ok (.ldc 144, 2) := by decide +kernel
theorem dX6_as_46 : decode cX6_as 46 = .ok (.invokevirtual 125, 3) := by decide +kernel
theorem dX6_as_49 : decode cX6_as 49 = .ok (.ireturn, 1) := by decide +kernel
theorem dX6_dies_0 : decode cX6_dies 0 = .ok (.aload_n 0, 1) := by decide +kernel
theorem dX6_dies_1 : decode cX6_dies 1 = .ok (.iload_n 1, 1) := by decide +kernel
theorem dX6_dies_2 : decode cX6_dies 2 = .ok (.invokevirtual 136, 3) := by decide +kernel
theorem dX6_dies_5 : decode cX6_dies 5 = .ok (.ifCond .ne 10, 3) := by decide +kernel
theorem dX6_dies_8 : decode cX6_dies 8 = .ok (.aload_n 0, 1) := by decide +kernel
theorem dX6_dies_9 : decode cX6_dies 9 = .ok (.ldc 78, 2) := by decide +kernel
theorem dX6_dies_11 : decode cX6_dies 11 = .ok (.invokevirtual 125, 3) := by decide +kernel
theorem dX6_dies_14 : decode cX6_dies 14 = .ok (.ireturn, 1) := by decide +kernel
theorem dX6_dies_15 : decode cX6_dies 15 = .ok (.aload_n 0, 1) := by decide +kernel
theorem dX6_dies_16 : decode cX6_dies 16 = .ok (.iload_n 1, 1) := by decide +kernel
theorem dX6_dies_17 : decode cX6_dies 17 = .ok (.invokevirtual 97, 3) := by decide +kernel
theorem dX6_dies_20 : decode cX6_dies 20 = .ok (.ifCond .ne 10, 3) := by decide +kernel
theorem dX6_dies_23 : decode cX6_dies 23 = .ok (.aload_n 0, 1) := by decide +kernel
theorem dX6_dies_24 : decode cX6_dies 24 = .ok (.ldc 139, 2) := by decide +kernel
theorem dX6_dies_26 : decode cX6_dies 26 = .ok (.invokevirtual 125, 3) := by decide +kernel
theorem dX6_dies_29 : decode cX6_dies 29 = .ok (.ireturn, 1) := by decide +kernel
theorem dX6_dies_30 : decode cX6_dies 30 = .ok (.aload_n 0, 1) := by decide +kernel
theorem dX6_dies_31 : decode cX6_dies 31 = .ok (.invokevirtual 145, 3) := by decide +kernel
theorem dX6_dies_34 : decode cX6_dies 34 = .ok (.istore_n 2, 1) := by decide +kernel
theorem dX6_dies_35 : decode cX6_dies 35 = .ok (.aload_n 0, 1) := by decide +kernel
theorem dX6_dies_36 : decode cX6_dies 36 = .ok (.getfield 34, 3) := by decide +kernel
theorem dX6_dies_39 : decode cX6_dies 39 = .ok (.bipush 15, 2) := by decide +kernel
theorem dX6_dies_41 : decode cX6_dies 41 = .ok (.iload_n 1, 1) := by decide +kernel
theorem dX6_dies_42 : decode cX6_dies 42 = .ok (.iadd, 1) := by decide +kernel
theorem dX6_dies_43 : decode cX6_dies 43 = .ok (.iconst 1, 1) := by decide +kernel
theorem dX6_dies_44 : decode cX6_dies 44 = .ok (.iastore, 1) := by decide +kernel
theorem dX6_dies_45 : decode cX6_dies 45 = .ok (.aload_n 0, 1) := by decide +kernel
theorem dX6_dies_46 : decode cX6_dies 46 = .ok (.invokevirtual 145, 3) := by decide +kernel
theorem dX6_dies_49 : decode cX6_dies 49 = .ok (.iload_n 2, 1) := by decide +kernel
theorem dX6_dies_50 : decode cX6_dies 50 = .ok (.iconst (-1), 1) := by decide +kernel
theorem dX6_dies_51 : decode cX6_dies 51 = .ok (.ixor, 1) := by decide +kernel
theorem dX6_dies_52 : decode cX6_dies 52 = .ok (.iand, 1) := by decide +kernel
theorem dX6_dies_53 : decode cX6_dies 53 = .ok (.invokestatic 149, 3) := by decide +kernel
theorem dX6_dies_56 : decode cX6_dies 56 = .ok (.ireturn, 1) := by decide +kernel
theorem dX6_swap_0 : decode cX6_swap 0 = .ok (.aload_n 0, 1) := by decide +kernel
theorem dX6_swap_1 : decode cX6_swap 1 = .ok (.iload_n 1, 1) := by decide +kernel
theorem dX6_swap_2 : decode cX6_swap 2 = .ok (.invokevirtual 136, 3) := by decide +kernel
theorem dX6_swap_5 : decode cX6_swap 5 = .ok (.ifCond .eq 16, 3) := by decide +kernel
theorem dX6_swap_8 : decode cX6_swap 8 = .ok (.aload_n 0, 1) := by decide +kernel
theorem dX6_swap_9 : decode cX6_swap 9 = .ok (.iload_n 2, 1) := by decide +kernel
theorem dX6_swap_10 : decode cX6_swap 10 = .ok (.invokevirtual 136, 3) := by decide +kernel
theorem dX6_swap_13 : decode cX6_swap 13 = .ok (.ifCond .eq 8, 3) := by decide +kernel
theorem dX6_swap_16 : decode cX6_swap 16 = .ok (.iload_n 1, 1) := by decide +kernel
theorem dX6_swap_17 : decode cX6_swap 17 = .ok (.iload_n 2, 1) := by decide +kernel
theorem dX6_swap_18 : decode cX6_swap 18 = .ok (.if_icmp .ne 10, 3) := by decide +kernel
theorem dX6_swap_21 : decode cX6_swap 21 = .ok (.aload_n 0, 1) := by decide +kernel
theorem dX6_swap_22 : decode cX6_swap 22 = .ok (.ldc 78, 2) := by decide +kernel
theorem dX6_swap_24 : decode cX6_swap 24 = .ok (.invokevirtual 125, 3) := by decide +kernel
theorem dX6_swap_27 : decode cX6_swap 27 = .ok (.ireturn, 1) := by decide +kernel
theorem dX6_swap_28 : decode cX6_swap 28 = .ok (.aload_n 0, 1) := by decide +kernel
theorem dX6_swap_29 : decode cX6_swap 29 = .ok (.iload_n 1, 1) := by decide +kernel
theorem dX6_swap_30 : decode cX6_swap 30 = .ok (.invokevirtual 97, 3) := by decide +kernel
theorem dX6_swap_33 : decode cX6_swap 33 = .ok (.ifCond .eq 11, 3) := by decide +kernel
theorem dX6_swap_36 : decode cX6_swap 36 = .ok (.aload_n 0, 1) := by decide +kernel
theorem dX6_swap_37 : decode cX6_swap 37 = .ok (.iload_n 2, 1) := by decide +kernel
theorem dX6_swap_38 : decode cX6_swap 38 = .ok (.invokevirtual 97, 3) := by decide +kernel
theorem dX6_swap_41 : decode cX6_swap 41 = .ok (.ifCond .ne 10, 3) := by decide +kernel
theorem dX6_swap_44 : decode cX6_swap 44 = .ok (.aload_n 0, 1) := by decide +kernel
theorem dX6_swap_45 : decode cX6_swap 45 = .ok (.ldc 139, 2) := by decide +kernel
theorem dX6_swap_47 : decode cX6_swap 47 = .ok (.invokevirtual 125, 3) := by decide +kernel
theorem dX6_swap_50 : decode cX6_swap 50 = .ok (.ireturn, 1) := by decide +kernel
theorem dX6_swap_51 : decode cX6_swap 51 = .ok (.aload_n 0, 1) := by decide +kernel
theorem dX6_swap_52 : decode cX6_swap 52 = .ok (.getfield 34, 3) := by decide +kernel
theorem dX6_swap_55 : decode cX6_swap 55 = .ok (.iconst 1, 1) := by decide +kernel
theorem dX6_swap_56 : decode cX6_swap 56 = .ok (.iload_n 1, 1) := by decide +kernel
theorem dX6_swap_57 : decode cX6_swap 57 = .ok (.iadd, 1) := by decide +kernel
theorem dX6_swap_58 : decode cX6_swap 58 = .ok (.iaload, 1) := by decide +kernel
theorem dX6_swap_59 : decode cX6_swap 59 = .ok (.istore_n 3, 1) := by decide +kernel
theorem dX6_swap_60 : decode cX6_swap 60 = .ok (.aload_n 0, 1) := by decide +kernel
theorem dX6_swap_61 : decode cX6_swap 61 = .ok (.getfield 34, 3) := by decide +kernel
theorem dX6_swap_64 : decode cX6_swap 64 = .ok (.iconst 1, 1) := by decide +kernel
theorem dX6_swap_65 : decode cX6_swap 65 = .ok (.iload_n 1, 1) := by decide +kernel
theorem dX6_swap_66 : decode cX6_swap 66 = .ok (.iadd, 1) := by decide +kernel
theorem dX6_swap_67 : decode cX6_swap 67 = .ok (.aload_n 0, 1) := by decide +kernel
theorem dX6_swap_68 : decode cX6_swap 68 = .ok (.getfield 34, 3) := by decide +kernel
theorem dX6_swap_71 : decode cX6_swap 71 = .ok (.iconst 1, 1) := by decide +kernel
theorem dX6_swap_72 : decode cX6_swap 72 = .ok (.iload_n 2, 1) := by decide +kernel
theorem dX6_swap_73 : decode cX6_swap 73 = .ok (.iadd, 1) := by decide +kernel
theorem dX6_swap_74 : decode cX6_swap 74 = .ok (.iaload, 1) := by decide +kernel
theorem dX6_swap_75 : decode cX6_swap 75 = .ok (.iastore, 1) := by decide +kernel
theorem dX6_swap_76 : decode cX6_swap 76 = .ok (.aload_n 0, 1) := by decide +kernel
theorem dX6_swap_77 : decode cX6_swap 77 = .ok (.getfield 34, 3) := by decide +kernel
theorem dX6_swap_80 : decode cX6_swap 80 = .ok (.iconst 1, 1) := by decide +kernel
theorem dX6_swap_81 : decode cX6_swap 81 = .ok (.iload_n 2, 1) := by decide +kernel
theorem dX6_swap_82 : decode cX6_swap 82 = .ok (.iadd, 1) := by decide +kernel
theorem dX6_swap_83 : decode cX6_swap 83 = .ok (.iload_n 3, 1) := by decide +kernel
theorem dX6_swap_84 : decode cX6_swap 84 = .ok (.iastore, 1) := by decide +kernel
theorem dX6_swap_85 : decode cX6_swap 85 = .ok (.iconst 1, 1) := by decide +kernel
theorem dX6_swap_86 : decode cX6_swap 86 = .ok (.ireturn, 1) := by decide +kernel
theorem dX6_addTreaty_0 : decode cX6_addTreaty 0 = .ok (.aload_n 0, 1) := by decide +kernel
theorem dX6_addTreaty_1 : decode cX6_addTreaty 1 = .ok (.getfield 22, 3) := by decide +kernel
theorem dX6_addTreaty_4 : decode cX6_addTreaty 4 = .ok (.aload_n 0, 1) := by decide +kernel
theorem dX6_addTreaty_5 : decode cX6_addTreaty 5 = .ok (.getfield 87, 3) := by decide +kernel
theorem dX6_addTreaty_8 : decode cX6_addTreaty 8 = .ok (.iload_n 1, 1) := by decide +kernel
theorem dX6_addTreaty_9 : decode cX6_addTreaty 9 = .ok (.iastore, 1) := by decide +kernel
theorem dX6_addTreaty_10 : decode cX6_addTreaty 10 = .ok (.aload_n 0, 1) := by decide +kernel
theorem dX6_addTreaty_11 : decode cX6_addTreaty 11 = .ok (.getfield 25, 3) := by decide +kernel
theorem dX6_addTreaty_14 : decode cX6_addTreaty 14 = .ok (.aload_n 0, 1) := by decide +kernel
theorem dX6_addTreaty_15 : decode cX6_addTreaty 15 = .ok (.getfield 87, 3) := by decide +kernel
theorem dX6_addTreaty_18 : decode cX6_addTreaty 18 = .ok (.iload_n 2, 1) := by decide +kernel
theorem dX6_addTreaty_19 : decode cX6_addTreaty 19 = .ok (.iastore, 1) := by decide +kernel
theorem dX6_addTreaty_20 : decode cX6_addTreaty 20 = .ok (.aload_n 0, 1) := by decide +kernel
theorem dX6_addTreaty_21 : decode cX6_addTreaty 21 = .ok (.getfield 28, 3) := by decide +kernel
theorem dX6_addTreaty_24 : decode cX6_addTreaty 24 = .ok (.aload_n 0, 1) := by decide +kernel
theorem dX6_addTreaty_25 : decode cX6_addTreaty 25 = .ok (.getfield 87, 3) := by decide +kernel
theorem dX6_addTreaty_28 : decode cX6_addTreaty 28 = .ok (.iload_n 3, 1) := by decide +kernel
theorem dX6_addTreaty_29 : decode cX6_addTreaty 29 = .ok (.iastore, 1) := by decide +kernel
theorem dX6_addTreaty_30 : decode cX6_addTreaty 30 = .ok (.aload_n 0, 1) := by decide +kernel
theorem dX6_addTreaty_31 : decode cX6_addTreaty 31 = .ok (.getfield 31, 3) := by decide +kernel
theorem dX6_addTreaty_34 : decode cX6_addTreaty 34 = .ok (.aload_n 0, 1) := by decide +kernel
theorem dX6_addTreaty_35 : decode cX6_addTreaty 35 = .ok (.getfield 87, 3) := by decide +kernel
theorem dX6_addTreaty_38 : decode cX6_addTreaty 38 = .ok (.iload 4, 2) := by decide +kernel
theorem dX6_addTreaty_40 : decode cX6_addTreaty 40 = .ok (.iastore, 1) := by decide +kernel
theorem dX6_addTreaty_41 : decode cX6_addTreaty 41 = .ok (.aload_n 0, 1) := by decide +kernel
theorem dX6_addTreaty_42 : decode cX6_addTreaty 42 = .ok (.getfield 34, 3) := by decide +kernel
theorem dX6_addTreaty_45 : decode cX6_addTreaty 45 = .ok (.bipush 29, 2) := by decide +kernel
theorem dX6_addTreaty_47 : decode cX6_addTreaty 47 = .ok (.aload_n 0, 1) := by decide +kernel
theorem dX6_addTreaty_48 : decode cX6_addTreaty 48 = .ok (.getfield 87, 3) := by decide +kernel
theorem dX6_addTreaty_51 : decode cX6_addTreaty 51 = .ok (.iadd, 1) := by decide +kernel
theorem dX6_addTreaty_52 : decode cX6_addTreaty 52 = .ok (.iconst 0, 1) := by decide +kernel
theorem dX6_addTreaty_53 : decode cX6_addTreaty 53 = .ok (.iastore, 1) := by decide +kernel
theorem dX6_addTreaty_54 : decode cX6_addTreaty 54 = .ok (.aload_n 0, 1) := by decide +kernel
theorem dX6_addTreaty_55 : decode cX6_addTreaty 55 = .ok (.dup, 1) := by decide +kernel
theorem dX6_addTreaty_56 : decode cX6_addTreaty 56 = .ok (.getfield 87, 3) := by decide +kernel
theorem dX6_addTreaty_59 : decode cX6_addTreaty 59 = .ok (.iconst 1, 1) := by decide +kernel
theorem dX6_addTreaty_60 : decode cX6_addTreaty 60 = .ok (.iadd, 1) := by decide +kernel
theorem dX6_addTreaty_61 : decode cX6_addTreaty 61 = .ok (.putfield 87, 3) := by decide +kernel
theorem dX6_addTreaty_64 : decode cX6_addTreaty 64 = .ok (.return_, 1) := by decide +kernel
theorem dX6_treaty_0 : decode cX6_treaty 0 = .ok (.iload_n 1, 1) := by decide +kernel
theorem dX6_treaty_1 : decode cX6_treaty 1 = .ok (.invokestatic 119, 3) := by decide +kernel
theorem dX6_treaty_4 : decode cX6_treaty 4 = .ok (.ifCond .eq 30, 3) := by decide +kernel
theorem dX6_treaty_7 : decode cX6_treaty 7 = .ok (.iload_n 2, 1) := by decide +kernel
theorem dX6_treaty_8 : decode cX6_treaty 8 = .ok (.invokestatic 119, 3) := by decide +kernel
theorem dX6_treaty_11 : decode cX6_treaty 11 = .ok (.ifCond .eq 23, 3) := by decide +kernel
theorem dX6_treaty_14 : decode cX6_treaty 14 = .ok (.iload_n 1, 1) := by decide +kernel
theorem dX6_treaty_15 : decode cX6_treaty 15 = .ok (.iload_n 2, 1) := by decide +kernel
theorem dX6_treaty_16 : decode cX6_treaty 16 = .ok (.if_icmp .eq 18, 3) := by decide +kernel
theorem dX6_treaty_19 : decode cX6_treaty 19 = .ok (.iload_n 3, 1) := by decide +kernel
theorem dX6_treaty_20 : decode cX6_treaty 20 = .ok (.invokestatic 152, 3) := by decide +kernel
theorem dX6_treaty_23 : decode cX6_treaty 23 = .ok (.ifCond .eq 11, 3) := by decide +kernel
theorem dX6_treaty_26 : decode cX6_treaty 26 = .ok (.iload 4, 2) := by decide +kernel
theorem dX6_treaty_28 : decode cX6_treaty 28 = .ok (.invokestatic 152, 3) := by decide +kernel
theorem dX6_treaty_31 : decode cX6_treaty 31 = .ok (.ifCond .ne 10, 3) := by decide +kernel
theorem dX6_treaty_34 : decode cX6_treaty 34 = .ok (.aload_n 0, 1) := by decide +kernel
theorem dX6_treaty_35 : decode cX6_treaty 35 = .ok (.ldc 78, 2) := by decide +kernel
theorem dX6_treaty_37 : decode cX6_treaty 37 = .ok (.invokevirtual 125, 3) := by decide +kernel
theorem dX6_treaty_40 : decode cX6_treaty 40 = .ok (.ireturn, 1) := by decide +kernel
theorem dX6_treaty_41 : decode cX6_treaty 41 = .ok (.aload_n 0, 1) := by decide +kernel
theorem dX6_treaty_42 : decode cX6_treaty 42 = .ok (.getfield 87, 3) := by decide +kernel
theorem dX6_treaty_45 : decode cX6_treaty 45 = .ok (.bipush 12, 2) := by decide +kernel
theorem dX6_treaty_47 : decode cX6_treaty 47 = .ok (.if_icmp .ne 10, 3) := by decide +kernel
theorem dX6_treaty_50 : decode cX6_treaty 50 = .ok (.aload_n 0, 1) := by decide +kernel
theorem dX6_treaty_51 : decode cX6_treaty 51 = .ok (.ldc 131, 2) := by decide +kernel
theorem dX6_treaty_53 : decode cX6_treaty 53 = .ok (.invokevirtual 125, 3) := by decide +kernel
theorem dX6_treaty_56 : decode cX6_treaty 56 = .ok (.ireturn, 1) := by decide +kernel
theorem dX6_treaty_57 : decode cX6_treaty 57 = .ok (.aload_n 0, 1) := by decide +kernel
theorem dX6_treaty_58 : decode cX6_treaty 58 = .ok (.iload_n 1, 1) := by decide +kernel
theorem dX6_treaty_59 : decode cX6_treaty 59 = .ok (.iload_n 2, 1) := by decide +kernel
theorem dX6_treaty_60 : decode cX6_treaty 60 = .ok (.iload_n 3, 1) := by decide +kernel
theorem dX6_treaty_61 : decode cX6_treaty 61 = .ok (.iload 4, 2) := by decide +kernel
theorem dX6_treaty_63 : decode cX6_treaty 63 = .ok (.invokevirtual 155, 3) := by decide +kernel
theorem dX6_treaty_66 : decode cX6_treaty 66 = .ok (.aload_n 0, 1) := by decide +kernel
theorem dX6_treaty_67 : decode cX6_treaty 67 = .ok (.getfield 87, 3) := by decide +kernel
theorem dX6_treaty_70 : decode cX6_treaty 70 = .ok (.iconst 1, 1) := by decide +kernel
theorem dX6_treaty_71 : decode cX6_treaty 71 = .ok (.isub, 1) := by decide +kernel
theorem dX6_treaty_72 : decode cX6_treaty 72 = .ok (.ireturn, 1) := by decide +kernel
theorem dX6_treatyOf_0 : decode cX6_treatyOf 0 = .ok (.aload_n 0, 1) := by decide +kernel
theorem dX6_treatyOf_1 : decode cX6_treatyOf 1 = .ok (.iload_n 1, 1) := by decide +kernel
theorem dX6_treatyOf_2 : decode cX6_treatyOf 2 = .ok (.invokevirtual 158, 3) := by decide +kernel
theorem dX6_treatyOf_5 : decode cX6_treatyOf 5 = .ok (.ifCond .eq 13, 3) := by decide +kernel
theorem dX6_treatyOf_8 : decode cX6_treatyOf 8 = .ok (.iload_n 2, 1) := by decide +kernel
theorem dX6_treatyOf_9 : decode cX6_treatyOf 9 = .ok (.iconst 0, 1) := by decide +kernel
theorem dX6_treatyOf_10 : decode cX6_treatyOf 10 = .ok (.bipush 6, 2) := by decide +kernel
theorem dX6_treatyOf_12 : decode cX6_treatyOf 12 = .ok (.invokestatic 79, 3) := by decide +kernel
theorem dX6_treatyOf_15 : decode cX6_treatyOf 15 = .ok (.ifCond .ne 10, 3) := by decide +kernel
theorem dX6_treatyOf_18 : decode cX6_treatyOf 18 = .ok (.aload_n 0, 1) := by decide +kernel
theorem dX6_treatyOf_19 : decode cX6_treatyOf 19 = .ok (.ldc 78, 2) := by decide +kernel
theorem dX6_treatyOf_21 : decode cX6_treatyOf 21 = .ok (.invokevirtual 125, 3) := by decide +kernel
theorem dX6_treatyOf_24 : decode cX6_treatyOf 24 = .ok (.ireturn, 1) := by decide +kernel
theorem dX6_treatyOf_25 : decode cX6_treatyOf 25 = .ok (.iload_n 2, 1) := by decide +kernel
theorem dX6_treatyOf_26 : decode cX6_treatyOf 26 = .ok (.tableswitch 90 0 5 #[38, 45, 52, 59, 66, 76], 38) := by decide +kernel
theorem dX6_treatyOf_64 : decode cX6_treatyOf 64 = .ok (.aload_n 0, 1) := by decide +kernel
theorem dX6_treatyOf_65 : decode cX6_treatyOf 65 = .ok (.getfield 22, 3) := by decide +kernel
theorem dX6_treatyOf_68 : decode cX6_treatyOf 68 = .ok (.iload_n 1, 1) := by decide +kernel
theorem dX6_treatyOf_69 : decode cX6_treatyOf 69 = .ok (.iaload, 1) := by decide +kernel
theorem dX6_treatyOf_70 : decode cX6_treatyOf 70 = .ok (.ireturn, 1) := by decide +kernel
theorem dX6_treatyOf_71 : decode cX6_treatyOf 71 = .ok (.aload_n 0, 1) := by decide +kernel
theorem dX6_treatyOf_72 : decode cX6_treatyOf 72 = .ok (.getfield 25, 3) := by decide +kernel
theorem dX6_treatyOf_75 : decode cX6_treatyOf 75 = .ok (.iload_n 1, 1) := by decide +kernel
theorem dX6_treatyOf_76 : decode cX6_treatyOf 76 = .ok (.iaload, 1) := by decide +kernel
theorem dX6_treatyOf_77 : decode cX6_treatyOf 77 = .ok (.ireturn, 1) := by decide +kernel
theorem dX6_treatyOf_78 : decode cX6_treatyOf 78 = .ok (.aload_n 0, 1) := by decide +kernel
theorem dX6_treatyOf_79 : decode cX6_treatyOf 79 = .ok (.getfield 28, 3) := by decide +kernel
theorem dX6_treatyOf_82 : decode cX6_treatyOf 82 = .ok (.iload_n 1, 1) := by decide +kernel
theorem dX6_treatyOf_83 : decode cX6_treatyOf 83 = .ok (.iaload, 1) := by decide +kernel
theorem dX6_treatyOf_84 : decode cX6_treatyOf 84 = .ok (.ireturn, 1) := by decide +kernel
theorem dX6_treatyOf_85 : decode cX6_treatyOf 85 = .ok (.aload_n 0, 1) := by decide +kernel
theorem dX6_treatyOf_86 : decode cX6_treatyOf 86 = .ok (.getfield 31, 3) := by decide +kernel
theorem dX6_treatyOf_89 : decode cX6_treatyOf 89 = .ok (.iload_n 1, 1) := by decide +kernel
theorem dX6_treatyOf_90 : decode cX6_treatyOf 90 = .ok (.iaload, 1) := by decide +kernel
theorem dX6_treatyOf_91 : decode cX6_treatyOf 91 = .ok (.ireturn, 1) := by decide +kernel
theorem dX6_treatyOf_92 : decode cX6_treatyOf 92 = .ok (.aload_n 0, 1) := by decide +kernel
theorem dX6_treatyOf_93 : decode cX6_treatyOf 93 = .ok (.getfield 34, 3) := by decide +kernel
theorem dX6_treatyOf_96 : decode cX6_treatyOf 96 = .ok (.bipush 29, 2) := by decide +kernel
theorem dX6_treatyOf_98 : decode cX6_treatyOf 98 = .ok (.iload_n 1, 1) := by decide +kernel
theorem dX6_treatyOf_99 : decode cX6_treatyOf 99 = .ok (.iadd, 1) := by decide +kernel
theorem dX6_treatyOf_100 : decode cX6_treatyOf 100 = .ok (.iaload, 1) := by decide +kernel
theorem dX6_treatyOf_101 : decode cX6_treatyOf 101 = .ok (.ireturn, 1) := by decide +kernel
theorem dX6_treatyOf_102 : decode cX6_treatyOf 102 = .ok (.aload_n 0, 1) := by decide +kernel
theorem dX6_treatyOf_103 : decode cX6_treatyOf 103 = .ok (.iload_n 1, 1) := by decide +kernel
theorem dX6_treatyOf_104 : decode cX6_treatyOf 104 = .ok (.invokevirtual 113, 3) := by decide +kernel
theorem dX6_treatyOf_107 : decode cX6_treatyOf 107 = .ok (.ifCond .eq 7, 3) := by decide +kernel
theorem dX6_treatyOf_110 : decode cX6_treatyOf 110 = .ok (.iconst 1, 1) := by decide +kernel
theorem dX6_treatyOf_111 : decode cX6_treatyOf 111 = .ok (.goto 4, 3) := by decide +kernel
theorem dX6_treatyOf_114 : decode cX6_treatyOf 114 = .ok (.iconst 0, 1) := by decide +kernel
theorem dX6_treatyOf_115 : decode cX6_treatyOf 115 = .ok (.ireturn, 1) := by decide +kernel
theorem dX6_treatyOf_116 : decode cX6_treatyOf 116 = .ok (.aload_n 0, 1) := by decide +kernel
theorem dX6_treatyOf_117 : decode cX6_treatyOf 117 = .ok (.invokevirtual 145, 3) := by decide +kernel
theorem dX6_treatyOf_120 : decode cX6_treatyOf 120 = .ok (.iload_n 1, 1) := by decide +kernel
theorem dX6_treatyOf_121 : decode cX6_treatyOf 121 = .ok (.invokestatic 161, 3) := by decide +kernel
theorem dX6_treatyOf_124 : decode cX6_treatyOf 124 = .ok (.ifCond .eq 7, 3) := by decide +kernel
theorem dX6_treatyOf_127 : decode cX6_treatyOf 127 = .ok (.iconst 1, 1) := by decide +kernel
theorem dX6_treatyOf_128 : decode cX6_treatyOf 128 = .ok (.goto 4, 3) := by decide +kernel
theorem dX6_treatyOf_131 : decode cX6_treatyOf 131 = .ok (.iconst 0, 1) := by decide +kernel
theorem dX6_treatyOf_132 : decode cX6_treatyOf 132 = .ok (.ireturn, 1) := by decide +kernel
theorem dX6_gain_0 : decode cX6_gain 0 = .ok (.aload_n 0, 1) := by decide +kernel
theorem dX6_gain_1 : decode cX6_gain 1 = .ok (.iload_n 1, 1) := by decide +kernel
theorem dX6_gain_2 : decode cX6_gain 2 = .ok (.invokevirtual 158, 3) := by decide +kernel
theorem dX6_gain_5 : decode cX6_gain 5 = .ok (.ifCond .eq 10, 3) := by decide +kernel
theorem dX6_gain_8 : decode cX6_gain 8 = .ok (.iload_n 2, 1) := by decide +kernel
theorem dX6_gain_9 : decode cX6_gain 9 = .ok (.invokestatic 152, 3) := by decide +kernel
theorem dX6_gain_12 : decode cX6_gain 12 = .ok (.ifCond .ne 10, 3) := by decide +kernel
theorem dX6_gain_15 : decode cX6_gain 15 = .ok (.aload_n 0, 1) := by decide +kernel
theorem dX6_gain_16 : decode cX6_gain 16 = .ok (.ldc 78, 2) := by decide +kernel
theorem dX6_gain_18 : decode cX6_gain 18 = .ok (.invokevirtual 125, 3) := by decide +kernel
theorem dX6_gain_21 : decode cX6_gain 21 = .ok (.ireturn, 1) := by decide +kernel
theorem dX6_gain_22 : decode cX6_gain 22 = .ok (.aload_n 0, 1) := by decide +kernel
theorem dX6_gain_23 : decode cX6_gain 23 = .ok (.getfield 28, 3) := by decide +kernel
theorem dX6_gain_26 : decode cX6_gain 26 = .ok (.iload_n 1, 1) := by decide +kernel
theorem dX6_gain_27 : decode cX6_gain 27 = .ok (.iaload, 1) := by decide +kernel
theorem dX6_gain_28 : decode cX6_gain 28 = .ok (.istore_n 3, 1) := by decide +kernel
theorem dX6_gain_29 : decode cX6_gain 29 = .ok (.aload_n 0, 1) := by decide +kernel
theorem dX6_gain_30 : decode cX6_gain 30 = .ok (.getfield 28, 3) := by decide +kernel
theorem dX6_gain_33 : decode cX6_gain 33 = .ok (.iload_n 1, 1) := by decide +kernel
theorem dX6_gain_34 : decode cX6_gain 34 = .ok (.iload_n 2, 1) := by decide +kernel
theorem dX6_gain_35 : decode cX6_gain 35 = .ok (.iastore, 1) := by decide +kernel
theorem dX6_gain_36 : decode cX6_gain 36 = .ok (.iload_n 3, 1) := by decide +kernel
theorem dX6_gain_37 : decode cX6_gain 37 = .ok (.ireturn, 1) := by decide +kernel
theorem dX6_areTwo_0 : decode cX6_areTwo 0 = .ok (.iload_n 0, 1) := by decide +kernel
theorem dX6_areTwo_1 : decode cX6_areTwo 1 = .ok (.invokestatic 119, 3) := by decide +kernel
theorem dX6_areTwo_4 : decode cX6_areTwo 4 = .ok (.ifCond .eq 19, 3) := by decide +kernel
theorem dX6_areTwo_7 : decode cX6_areTwo 7 = .ok (.iload_n 1, 1) := by decide +kernel
theorem dX6_areTwo_8 : decode cX6_areTwo 8 = .ok (.invokestatic 119, 3) := by decide +kernel
theorem dX6_areTwo_11 : decode cX6_areTwo 11 = .ok (.ifCond .eq 12, 3) := by decide +kernel
theorem dX6_areTwo_14 : decode cX6_areTwo 14 = .ok (.iload_n 0, 1) := by decide +kernel
theorem dX6_areTwo_15 : decode cX6_areTwo 15 = .ok (.iload_n 1, 1) := by decide +kernel
theorem dX6_areTwo_16 : decode cX6_areTwo 16 = .ok (.if_icmp .eq 7, 3) := by decide +kernel
theorem dX6_areTwo_19 : decode cX6_areTwo 19 = .ok (.iconst 1, 1) := by decide +kernel
theorem dX6_areTwo_20 : decode cX6_areTwo 20 = .ok (.goto 4, 3) := by decide +kernel
theorem dX6_areTwo_23 : decode cX6_areTwo 23 = .ok (.iconst 0, 1) := by decide +kernel
theorem dX6_areTwo_24 : decode cX6_areTwo 24 = .ok (.ireturn, 1) := by decide +kernel
theorem dX6_pledge_0 : decode cX6_pledge 0 = .ok (.iload_n 1, 1) := by decide +kernel
theorem dX6_pledge_1 : decode cX6_pledge 1 = .ok (.iload_n 2, 1) := by decide +kernel
theorem dX6_pledge_2 : decode cX6_pledge 2 = .ok (.invokestatic 164, 3) := by decide +kernel
theorem dX6_pledge_5 : decode cX6_pledge 5 = .ok (.ifCond .ne 10, 3) := by decide +kernel
theorem dX6_pledge_8 : decode cX6_pledge 8 = .ok (.aload_n 0, 1) := by decide +kernel
theorem dX6_pledge_9 : decode cX6_pledge 9 = .ok (.ldc 78, 2) := by decide +kernel
theorem dX6_pledge_11 : decode cX6_pledge 11 = .ok (.invokevirtual 125, 3) := by decide +kernel
theorem dX6_pledge_14 : decode cX6_pledge 14 = .ok (.ireturn, 1) := by decide +kernel
theorem dX6_pledge_15 : decode cX6_pledge 15 = .ok (.aload_n 0, 1) := by decide +kernel
theorem dX6_pledge_16 : decode cX6_pledge 16 = .ok (.invokevirtual 110, 3) := by decide +kernel
theorem dX6_pledge_19 : decode cX6_pledge 19 = .ok (.aload_n 0, 1) := by decide +kernel
theorem dX6_pledge_20 : decode cX6_pledge 20 = .ok (.getfield 40, 3) := by decide +kernel
theorem dX6_pledge_23 : decode cX6_pledge 23 = .ok (.bipush 6, 2) := by decide +kernel
theorem dX6_pledge_25 : decode cX6_pledge 25 = .ok (.iload_n 1, 1) := by decide +kernel
theorem dX6_pledge_26 : decode cX6_pledge 26 = .ok (.imul, 1) := by decide +kernel
theorem dX6_pledge_27 : decode cX6_pledge 27 = .ok (.iload_n 2, 1) := by decide +kernel
theorem dX6_pledge_28 : decode cX6_pledge 28 = .ok (.iadd, 1) := by decide +kernel
theorem dX6_pledge_29 : decode cX6_pledge 29 = .ok (.iaload, 1) := by decide +kernel
theorem dX6_pledge_30 : decode cX6_pledge 30 = .ok (.ireturn, 1) := by decide +kernel
theorem dX6_ease_0 : decode cX6_ease 0 = .ok (.aload_n 0, 1) := by decide +kernel
theorem dX6_ease_1 : decode cX6_ease 1 = .ok (.iload_n 1, 1) := by decide +kernel
theorem dX6_ease_2 : decode cX6_ease 2 = .ok (.invokevirtual 158, 3) := by decide +kernel
theorem dX6_ease_5 : decode cX6_ease 5 = .ok (.ifCond .ne 10, 3) := by decide +kernel
theorem dX6_ease_8 : decode cX6_ease 8 = .ok (.aload_n 0, 1) := by decide +kernel
theorem dX6_ease_9 : decode cX6_ease 9 = .ok (.ldc 78, 2) := by decide +kernel
theorem dX6_ease_11 : decode cX6_ease 11 = .ok (.invokevirtual 125, 3) := by decide +kernel
theorem dX6_ease_14 : decode cX6_ease 14 = .ok (.ireturn, 1) := by decide +kernel
theorem dX6_ease_15 : decode cX6_ease 15 = .ok (.aload_n 0, 1) := by decide +kernel
theorem dX6_ease_16 : decode cX6_ease 16 = .ok (.iload_n 1, 1) := by decide +kernel
theorem dX6_ease_17 : decode cX6_ease 17 = .ok (.invokevirtual 113, 3) := by decide +kernel
theorem dX6_ease_20 : decode cX6_ease 20 = .ok (.ifCond .ne 10, 3) := by decide +kernel
theorem dX6_ease_23 : decode cX6_ease 23 = .ok (.aload_n 0, 1) := by decide +kernel
theorem dX6_ease_24 : decode cX6_ease 24 = .ok (.ldc 139, 2) := by decide +kernel
theorem dX6_ease_26 : decode cX6_ease 26 = .ok (.invokevirtual 125, 3) := by decide +kernel
theorem dX6_ease_29 : decode cX6_ease 29 = .ok (.ireturn, 1) := by decide +kernel
theorem dX6_ease_30 : decode cX6_ease 30 = .ok (.aload_n 0, 1) := by decide +kernel
theorem dX6_ease_31 : decode cX6_ease 31 = .ok (.invokevirtual 110, 3) := by decide +kernel
theorem dX6_ease_34 : decode cX6_ease 34 = .ok (.aload_n 0, 1) := by decide +kernel
theorem dX6_ease_35 : decode cX6_ease 35 = .ok (.iload_n 1, 1) := by decide +kernel
theorem dX6_ease_36 : decode cX6_ease 36 = .ok (.invokevirtual 116, 3) := by decide +kernel
theorem dX6_ease_39 : decode cX6_ease 39 = .ok (.ireturn, 1) := by decide +kernel
theorem dX6_loose_0 : decode cX6_loose 0 = .ok (.aload_n 0, 1) := by decide +kernel
theorem dX6_loose_1 : decode cX6_loose 1 = .ok (.invokevirtual 145, 3) := by decide +kernel
theorem dX6_loose_4 : decode cX6_loose 4 = .ok (.ireturn, 1) := by decide +kernel
theorem dX6_pays_0 : decode cX6_pays 0 = .ok (.iconst 0, 1) := by decide +kernel
theorem dX6_pays_1 : decode cX6_pays 1 = .ok (.aload_n 0, 1) := by decide +kernel
theorem dX6_pays_2 : decode cX6_pays 2 = .ok (.getfield 7, 3) := by decide +kernel
theorem dX6_pays_5 : decode cX6_pays 5 = .ok (.iload_n 1, 1) := by decide +kernel
theorem dX6_pays_6 : decode cX6_pays 6 = .ok (.iaload, 1) := by decide +kernel
theorem dX6_pays_7 : decode cX6_pays 7 = .ok (.isub, 1) := by decide +kernel
theorem dX6_pays_8 : decode cX6_pays 8 = .ok (.aload_n 0, 1) := by decide +kernel
theorem dX6_pays_9 : decode cX6_pays 9 = .ok (.getfield 7, 3) := by decide +kernel
theorem dX6_pays_12 : decode cX6_pays 12 = .ok (.iload_n 2, 1) := by decide +kernel
theorem dX6_pays_13 : decode cX6_pays 13 = .ok (.iaload, 1) := by decide +kernel
theorem dX6_pays_14 : decode cX6_pays 14 = .ok (.isub, 1) := by decide +kernel
theorem dX6_pays_15 : decode cX6_pays 15 = .ok (.istore_n 3, 1) := by decide +kernel
theorem dX6_pays_16 : decode cX6_pays 16 = .ok (.iconst 0, 1) := by decide +kernel
theorem dX6_pays_17 : decode cX6_pays 17 = .ok (.istore 4, 2) := by decide +kernel
theorem dX6_pays_19 : decode cX6_pays 19 = .ok (.iload 4, 2) := by decide +kernel
theorem dX6_pays_21 : decode cX6_pays 21 = .ok (.aload_n 0, 1) := by decide +kernel
theorem dX6_pays_22 : decode cX6_pays 22 = .ok (.getfield 87, 3) := by decide +kernel
theorem dX6_pays_25 : decode cX6_pays 25 = .ok (.if_icmp .ge 88, 3) := by decide +kernel
theorem dX6_pays_28 : decode cX6_pays 28 = .ok (.aload_n 0, 1) := by decide +kernel
theorem dX6_pays_29 : decode cX6_pays 29 = .ok (.getfield 22, 3) := by decide +kernel
theorem dX6_pays_32 : decode cX6_pays 32 = .ok (.iload 4, 2) := by decide +kernel
theorem dX6_pays_34 : decode cX6_pays 34 = .ok (.iaload, 1) := by decide +kernel
theorem dX6_pays_35 : decode cX6_pays 35 = .ok (.iload_n 1, 1) := by decide +kernel
theorem dX6_pays_36 : decode cX6_pays 36 = .ok (.if_icmp .eq 14, 3) := by decide +kernel
theorem dX6_pays_39 : decode cX6_pays 39 = .ok (.aload_n 0, 1) := by decide +kernel
theorem dX6_pays_40 : decode cX6_pays 40 = .ok (.getfield 22, 3) := by decide +kernel
theorem dX6_pays_43 : decode cX6_pays 43 = .ok (.iload 4, 2) := by decide +kernel
theorem dX6_pays_45 : decode cX6_pays 45 = .ok (.iaload, 1) := by decide +kernel
theorem dX6_pays_46 : decode cX6_pays 46 = .ok (.iload_n 2, 1) := by decide +kernel
theorem dX6_pays_47 : decode cX6_pays 47 = .ok (.if_icmp .ne 7, 3) := by decide +kernel
theorem dX6_pays_50 : decode cX6_pays 50 = .ok (.iconst 1, 1) := by decide +kernel
theorem dX6_pays_51 : decode cX6_pays 51 = .ok (.goto 4, 3) := by decide +kernel
theorem dX6_pays_54 : decode cX6_pays 54 = .ok (.iconst 0, 1) := by decide +kernel
theorem dX6_pays_55 : decode cX6_pays 55 = .ok (.istore 5, 2) := by decide +kernel
theorem dX6_pays_57 : decode cX6_pays 57 = .ok (.iload_n 3, 1) := by decide +kernel
theorem dX6_pays_58 : decode cX6_pays 58 = .ok (.iload 5, 2) := by decide +kernel
theorem dX6_pays_60 : decode cX6_pays 60 = .ok (.ifCond .eq 44, 3) := by decide +kernel
theorem dX6_pays_63 : decode cX6_pays 63 = .ok (.aload_n 0, 1) := by decide +kernel
theorem dX6_pays_64 : decode cX6_pays 64 = .ok (.getfield 25, 3) := by decide +kernel
theorem dX6_pays_67 : decode cX6_pays 67 = .ok (.iload 4, 2) := by decide +kernel
theorem dX6_pays_69 : decode cX6_pays 69 = .ok (.iaload, 1) := by decide +kernel
theorem dX6_pays_70 : decode cX6_pays 70 = .ok (.iload_n 1, 1) := by decide +kernel
theorem dX6_pays_71 : decode cX6_pays 71 = .ok (.if_icmp .eq 33, 3) := by decide +kernel
theorem dX6_pays_74 : decode cX6_pays 74 = .ok (.aload_n 0, 1) := by decide +kernel
theorem dX6_pays_75 : decode cX6_pays 75 = .ok (.getfield 25, 3) := by decide +kernel
theorem dX6_pays_78 : decode cX6_pays 78 = .ok (.iload 4, 2) := by decide +kernel
theorem dX6_pays_80 : decode cX6_pays 80 = .ok (.iaload, 1) := by decide +kernel
theorem dX6_pays_81 : decode cX6_pays 81 = .ok (.iload_n 2, 1) := by decide +kernel
theorem dX6_pays_82 : decode cX6_pays 82 = .ok (.if_icmp .eq 22, 3) := by decide +kernel
theorem dX6_pays_85 : decode cX6_pays 85 = .ok (.aload_n 0, 1) := by decide +kernel
theorem dX6_pays_86 : decode cX6_pays 86 = .ok (.iload 4, 2) := by decide +kernel
theorem dX6_pays_88 : decode cX6_pays 88 = .ok (.invokevirtual 113, 3) := by decide +kernel
theorem dX6_pays_91 : decode cX6_pays 91 = .ok (.ifCond .eq 13, 3) := by decide +kernel
theorem dX6_pays_94 : decode cX6_pays 94 = .ok (.aload_n 0, 1) := by decide +kernel
theorem dX6_pays_95 : decode cX6_pays 95 = .ok (.getfield 28, 3) := by decide +kernel
theorem dX6_pays_98 : decode cX6_pays 98 = .ok (.iload 4, 2) := by decide +kernel
theorem dX6_pays_100 : decode cX6_pays 100 = .ok (.iaload, 1) := by decide +kernel
theorem dX6_pays_101 : decode cX6_pays 101 = .ok (.goto 4, 3) := by decide +kernel
theorem dX6_pays_104 : decode cX6_pays 104 = .ok (.iconst 0, 1) := by decide +kernel
theorem dX6_pays_105 : decode cX6_pays 105 = .ok (.iadd, 1) := by decide +kernel
theorem dX6_pays_106 : decode cX6_pays 106 = .ok (.istore_n 3, 1) := by decide +kernel
theorem dX6_pays_107 : decode cX6_pays 107 = .ok (.iinc 4 1, 3) := by decide +kernel
theorem dX6_pays_110 : decode cX6_pays 110 = .ok (.goto (-91), 3) := by decide +kernel
theorem dX6_pays_113 : decode cX6_pays 113 = .ok (.iconst 0, 1) := by decide +kernel
theorem dX6_pays_114 : decode cX6_pays 114 = .ok (.istore 4, 2) := by decide +kernel
theorem dX6_pays_116 : decode cX6_pays 116 = .ok (.iload 4, 2) := by decide +kernel
theorem dX6_pays_118 : decode cX6_pays 118 = .ok (.bipush 6, 2) := by decide +kernel
theorem dX6_pays_120 : decode cX6_pays 120 = .ok (.if_icmp .ge 53, 3) := by decide +kernel
theorem dX6_pays_123 : decode cX6_pays 123 = .ok (.iload_n 3, 1) := by decide +kernel
theorem dX6_pays_124 : decode cX6_pays 124 = .ok (.iload 4, 2) := by decide +kernel
theorem dX6_pays_126 : decode cX6_pays 126 = .ok (.iload_n 1, 1) := by decide +kernel
theorem dX6_pays_127 : decode cX6_pays 127 = .ok (.if_icmp .eq 37, 3) := by decide +kernel
theorem dX6_pays_130 : decode cX6_pays 130 = .ok (.iload 4, 2) := by decide +kernel
theorem dX6_pays_132 : decode cX6_pays 132 = .ok (.iload_n 2, 1) := by decide +kernel
theorem dX6_pays_133 : decode cX6_pays 133 = .ok (.if_icmp .eq 31, 3) := by decide +kernel
theorem dX6_pays_136 : decode cX6_pays 136 = .ok (.aload_n 0, 1) := by decide +kernel
theorem dX6_pays_137 : decode cX6_pays 137 = .ok (.getfield 40, 3) := by decide +kernel
theorem dX6_pays_140 : decode cX6_pays 140 = .ok (.bipush 6, 2) := by decide +kernel
theorem dX6_pays_142 : decode cX6_pays 142 = .ok (.iload 4, 2) := by decide +kernel
theorem dX6_pays_144 : decode cX6_pays 144 = .ok (.imul, 1) := by decide +kernel
theorem dX6_pays_145 : decode cX6_pays 145 = .ok (.iload_n 1, 1) := by decide +kernel
theorem dX6_pays_146 : decode cX6_pays 146 = .ok (.iadd, 1) := by decide +kernel
theorem dX6_pays_147 : decode cX6_pays 147 = .ok (.iaload, 1) := by decide +kernel
theorem dX6_pays_148 : decode cX6_pays 148 = .ok (.aload_n 0, 1) := by decide +kernel
theorem dX6_pays_149 : decode cX6_pays 149 = .ok (.getfield 40, 3) := by decide +kernel
theorem dX6_pays_152 : decode cX6_pays 152 = .ok (.bipush 6, 2) := by decide +kernel
theorem dX6_pays_154 : decode cX6_pays 154 = .ok (.iload 4, 2) := by decide +kernel
theorem dX6_pays_156 : decode cX6_pays 156 = .ok (.imul, 1) := by decide +kernel
theorem dX6_pays_157 : decode cX6_pays 157 = .ok (.iload_n 2, 1) := by decide +kernel
theorem dX6_pays_158 : decode cX6_pays 158 = .ok (.iadd, 1) := by decide +kernel
theorem dX6_pays_159 : decode cX6_pays 159 = .ok (.iaload, 1) := by decide +kernel
theorem dX6_pays_160 : decode cX6_pays 160 = .ok (.iadd, 1) := by decide +kernel
theorem dX6_pays_161 : decode cX6_pays 161 = .ok (.goto 4, 3) := by decide +kernel
theorem dX6_pays_164 : decode cX6_pays 164 = .ok (.iconst 0, 1) := by decide +kernel
theorem dX6_pays_165 : decode cX6_pays 165 = .ok (.isub, 1) := by decide +kernel
theorem dX6_pays_166 : decode cX6_pays 166 = .ok (.istore_n 3, 1) := by decide +kernel
theorem dX6_pays_167 : decode cX6_pays 167 = .ok (.iinc 4 1, 3) := by decide +kernel
theorem dX6_pays_170 : decode cX6_pays 170 = .ok (.goto (-54), 3) := by decide +kernel
theorem dX6_pays_173 : decode cX6_pays 173 = .ok (.iload_n 3, 1) := by decide +kernel
theorem dX6_pays_174 : decode cX6_pays 174 = .ok (.ifCond .le 7, 3) := by decide +kernel
theorem dX6_pays_177 : decode cX6_pays 177 = .ok (.iconst 1, 1) := by decide +kernel
theorem dX6_pays_178 : decode cX6_pays 178 = .ok (.goto 4, 3) := by decide +kernel
theorem dX6_pays_181 : decode cX6_pays 181 = .ok (.iconst 0, 1) := by decide +kernel
theorem dX6_pays_182 : decode cX6_pays 182 = .ok (.ireturn, 1) := by decide +kernel
theorem dX6_pact_0 : decode cX6_pact 0 = .ok (.iload_n 1, 1) := by decide +kernel
theorem dX6_pact_1 : decode cX6_pact 1 = .ok (.iload_n 2, 1) := by decide +kernel
theorem dX6_pact_2 : decode cX6_pact 2 = .ok (.invokestatic 164, 3) := by decide +kernel
theorem dX6_pact_5 : decode cX6_pact 5 = .ok (.ifCond .ne 10, 3) := by decide +kernel
theorem dX6_pact_8 : decode cX6_pact 8 = .ok (.aload_n 0, 1) := by decide +kernel
theorem dX6_pact_9 : decode cX6_pact 9 = .ok (.ldc 78, 2) := by decide +kernel
theorem dX6_pact_11 : decode cX6_pact 11 = .ok (.invokevirtual 125, 3) := by decide +kernel
theorem dX6_pact_14 : decode cX6_pact 14 = .ok (.ireturn, 1) := by decide +kernel
theorem dX6_pact_15 : decode cX6_pact 15 = .ok (.aload_n 0, 1) := by decide +kernel
theorem dX6_pact_16 : decode cX6_pact 16 = .ok (.invokevirtual 110, 3) := by decide +kernel
theorem dX6_pact_19 : decode cX6_pact 19 = .ok (.aload_n 0, 1) := by decide +kernel
theorem dX6_pact_20 : decode cX6_pact 20 = .ok (.iload_n 1, 1) := by decide +kernel
theorem dX6_pact_21 : decode cX6_pact 21 = .ok (.iload_n 2, 1) := by decide +kernel
theorem dX6_pact_22 : decode cX6_pact 22 = .ok (.invokevirtual 167, 3) := by decide +kernel
theorem dX6_pact_25 : decode cX6_pact 25 = .ok (.ifCond .eq 7, 3) := by decide +kernel
theorem dX6_pact_28 : decode cX6_pact 28 = .ok (.iconst 1, 1) := by decide +kernel
theorem dX6_pact_29 : decode cX6_pact 29 = .ok (.goto 4, 3) := by decide +kernel
theorem dX6_pact_32 : decode cX6_pact 32 = .ok (.iconst 0, 1) := by decide +kernel
theorem dX6_pact_33 : decode cX6_pact 33 = .ok (.ireturn, 1) := by decide +kernel
theorem dX6_plot_0 : decode cX6_plot 0 = .ok (.aload_n 0, 1) := by decide +kernel
theorem dX6_plot_1 : decode cX6_plot 1 = .ok (.invokevirtual 110, 3) := by decide +kernel
theorem dX6_plot_4 : decode cX6_plot 4 = .ok (.iconst 0, 1) := by decide +kernel
theorem dX6_plot_5 : decode cX6_plot 5 = .ok (.istore_n 1, 1) := by decide +kernel
theorem dX6_plot_6 : decode cX6_plot 6 = .ok (.iload_n 1, 1) := by decide +kernel
theorem dX6_plot_7 : decode cX6_plot 7 = .ok (.bipush 6, 2) := by decide +kernel
theorem dX6_plot_9 : decode cX6_plot 9 = .ok (.if_icmp .ge 41, 3) := by decide +kernel
theorem dX6_plot_12 : decode cX6_plot 12 = .ok (.iload_n 1, 1) := by decide +kernel
theorem dX6_plot_13 : decode cX6_plot 13 = .ok (.iconst 1, 1) := by decide +kernel
theorem dX6_plot_14 : decode cX6_plot 14 = .ok (.iadd, 1) := by decide +kernel
theorem dX6_plot_15 : decode cX6_plot 15 = .ok (.istore_n 2, 1) := by decide +kernel
theorem dX6_plot_16 : decode cX6_plot 16 = .ok (.iload_n 2, 1) := by decide +kernel
theorem dX6_plot_17 : decode cX6_plot 17 = .ok (.bipush 6, 2) := by decide +kernel
theorem dX6_plot_19 : decode cX6_plot 19 = .ok (.if_icmp .ge 25, 3) := by decide +kernel
theorem dX6_plot_22 : decode cX6_plot 22 = .ok (.aload_n 0, 1) := by decide +kernel
theorem dX6_plot_23 : decode cX6_plot 23 = .ok (.iload_n 1, 1) := by decide +kernel
theorem dX6_plot_24 : decode cX6_plot 24 = .ok (.iload_n 2, 1) := by decide +kernel
theorem dX6_plot_25 : decode cX6_plot 25 = .ok (.invokevirtual 167, 3) := by decide +kernel
theorem dX6_plot_28 : decode cX6_plot 28 = .ok (.ifCond .eq 10, 3) := by decide +kernel
theorem dX6_plot_31 : decode cX6_plot 31 = .ok (.bipush 10, 2) := by decide +kernel
theorem dX6_plot_33 : decode cX6_plot 33 = .ok (.iload_n 1, 1) := by decide +kernel
theorem dX6_plot_34 : decode cX6_plot 34 = .ok (.imul, 1) := by decide +kernel
theorem dX6_plot_35 : decode cX6_plot 35 = .ok (.iload_n 2, 1) := by decide +kernel
theorem dX6_plot_36 : decode cX6_plot 36 = .ok (.iadd, 1) := by decide +kernel
theorem dX6_plot_37 : decode cX6_plot 37 = .ok (.ireturn, 1) := by decide +kernel
theorem dX6_plot_38 : decode cX6_plot 38 = .ok (.iinc 2 1, 3) := by decide +kernel
theorem dX6_plot_41 : decode cX6_plot 41 = .ok (.goto (-25), 3) := by decide +kernel
theorem dX6_plot_44 : decode cX6_plot 44 = .ok (.iinc 1 1, 3) := by decide +kernel
theorem dX6_plot_47 : decode cX6_plot 47 = .ok (.goto (-41), 3) := by decide +kernel
theorem dX6_plot_50 : decode cX6_plot 50 = .ok (.aload_n 0, 1) := by decide +kernel
theorem dX6_plot_51 : decode cX6_plot 51 = .ok (.ldc 170, 2) := by decide +kernel
theorem dX6_plot_53 : decode cX6_plot 53 = .ok (.invokevirtual 125, 3) := by decide +kernel
theorem dX6_plot_56 : decode cX6_plot 56 = .ok (.ireturn, 1) := by decide +kernel
theorem dX6_breaks_0 : decode cX6_breaks 0 = .ok (.aload_n 0, 1) := by decide +kernel
theorem dX6_breaks_1 : decode cX6_breaks 1 = .ok (.getfield 34, 3) := by decide +kernel
theorem dX6_breaks_4 : decode cX6_breaks 4 = .ok (.aload_n 0, 1) := by decide +kernel
theorem dX6_breaks_5 : decode cX6_breaks 5 = .ok (.getfield 90, 3) := by decide +kernel
theorem dX6_breaks_8 : decode cX6_breaks 8 = .ok (.bipush 29, 2) := by decide +kernel
theorem dX6_breaks_10 : decode cX6_breaks 10 = .ok (.iadd, 1) := by decide +kernel
theorem dX6_breaks_11 : decode cX6_breaks 11 = .ok (.iload_n 1, 1) := by decide +kernel
theorem dX6_breaks_12 : decode cX6_breaks 12 = .ok (.iadd, 1) := by decide +kernel
theorem dX6_breaks_13 : decode cX6_breaks 13 = .ok (.iconst 1, 1) := by decide +kernel
theorem dX6_breaks_14 : decode cX6_breaks 14 = .ok (.iastore, 1) := by decide +kernel
theorem dX6_breaks_15 : decode cX6_breaks 15 = .ok (.iconst 0, 1) := by decide +kernel
theorem dX6_breaks_16 : decode cX6_breaks 16 = .ok (.istore_n 2, 1) := by decide +kernel
theorem dX6_breaks_17 : decode cX6_breaks 17 = .ok (.iload_n 2, 1) := by decide +kernel
theorem dX6_breaks_18 : decode cX6_breaks 18 = .ok (.aload_n 0, 1) := by decide +kernel
theorem dX6_breaks_19 : decode cX6_breaks 19 = .ok (.getfield 83, 3) := by decide +kernel
theorem dX6_breaks_22 : decode cX6_breaks 22 = .ok (.if_icmp .ge 53, 3) := by decide +kernel
theorem dX6_breaks_25 : decode cX6_breaks 25 = .ok (.aload_n 0, 1) := by decide +kernel
theorem dX6_breaks_26 : decode cX6_breaks 26 = .ok (.getfield 16, 3) := by decide +kernel
theorem dX6_breaks_29 : decode cX6_breaks 29 = .ok (.iload_n 2, 1) := by decide +kernel
theorem dX6_breaks_30 : decode cX6_breaks 30 = .ok (.iaload, 1) := by decide +kernel
theorem dX6_breaks_31 : decode cX6_breaks 31 = .ok (.aload_n 0, 1) := by decide +kernel
theorem dX6_breaks_32 : decode cX6_breaks 32 = .ok (.getfield 22, 3) := by decide +kernel
theorem dX6_breaks_35 : decode cX6_breaks 35 = .ok (.iload_n 1, 1) := by decide +kernel
theorem dX6_breaks_36 : decode cX6_breaks 36 = .ok (.iaload, 1) := by decide +kernel
theorem dX6_breaks_37 : decode cX6_breaks 37 = .ok (.if_icmp .ne 32, 3) := by decide +kernel
theorem dX6_breaks_40 : decode cX6_breaks 40 = .ok (.aload_n 0, 1) := by decide +kernel
theorem dX6_breaks_41 : decode cX6_breaks 41 = .ok (.iload_n 2, 1) := by decide +kernel
theorem dX6_breaks_42 : decode cX6_breaks 42 = .ok (.invokevirtual 93, 3) := by decide +kernel
theorem dX6_breaks_45 : decode cX6_breaks 45 = .ok (.aload_n 0, 1) := by decide +kernel
theorem dX6_breaks_46 : decode cX6_breaks 46 = .ok (.getfield 25, 3) := by decide +kernel
theorem dX6_breaks_49 : decode cX6_breaks 49 = .ok (.iload_n 1, 1) := by decide +kernel
theorem dX6_breaks_50 : decode cX6_breaks 50 = .ok (.iaload, 1) := by decide +kernel
theorem dX6_breaks_51 : decode cX6_breaks 51 = .ok (.if_icmp .ne 18, 3) := by decide +kernel
theorem dX6_breaks_54 : decode cX6_breaks 54 = .ok (.aload_n 0, 1) := by decide +kernel
theorem dX6_breaks_55 : decode cX6_breaks 55 = .ok (.getfield 34, 3) := by decide +kernel
theorem dX6_breaks_58 : decode cX6_breaks 58 = .ok (.aload_n 0, 1) := by decide +kernel
theorem dX6_breaks_59 : decode cX6_breaks 59 = .ok (.getfield 90, 3) := by decide +kernel
theorem dX6_breaks_62 : decode cX6_breaks 62 = .ok (.bipush 15, 2) := by decide +kernel
theorem dX6_breaks_64 : decode cX6_breaks 64 = .ok (.iadd, 1) := by decide +kernel
theorem dX6_breaks_65 : decode cX6_breaks 65 = .ok (.iload_n 2, 1) := by decide +kernel
theorem dX6_breaks_66 : decode cX6_breaks 66 = .ok (.iadd, 1) := by decide +kernel
theorem dX6_breaks_67 : decode cX6_breaks 67 = .ok (.iconst 1, 1) := by decide +kernel
theorem dX6_breaks_68 : decode cX6_breaks 68 = .ok (.iastore, 1) := by decide +kernel
theorem dX6_breaks_69 : decode cX6_breaks 69 = .ok (.iinc 2 1, 3) := by decide +kernel
theorem dX6_breaks_72 : decode cX6_breaks 72 = .ok (.goto (-55), 3) := by decide +kernel
theorem dX6_breaks_75 : decode cX6_breaks 75 = .ok (.return_, 1) := by decide +kernel
theorem dX6_falls_0 : decode cX6_falls 0 = .ok (.aload_n 0, 1) := by decide +kernel
theorem dX6_falls_1 : decode cX6_falls 1 = .ok (.iconst 0, 1) := by decide +kernel
theorem dX6_falls_2 : decode cX6_falls 2 = .ok (.putfield 171, 3) := by decide +kernel
theorem dX6_falls_5 : decode cX6_falls 5 = .ok (.aload_n 0, 1) := by decide +kernel
theorem dX6_falls_6 : decode cX6_falls 6 = .ok (.iconst 0, 1) := by decide +kernel
theorem dX6_falls_7 : decode cX6_falls 7 = .ok (.putfield 174, 3) := by decide +kernel
theorem dX6_falls_10 : decode cX6_falls 10 = .ok (.aload_n 0, 1) := by decide +kernel
theorem dX6_falls_11 : decode cX6_falls 11 = .ok (.iconst 0, 1) := by decide +kernel
theorem dX6_falls_12 : decode cX6_falls 12 = .ok (.putfield 177, 3) := by decide +kernel
theorem dX6_falls_15 : decode cX6_falls 15 = .ok (.aload_n 0, 1) := by decide +kernel
theorem dX6_falls_16 : decode cX6_falls 16 = .ok (.invokevirtual 145, 3) := by decide +kernel
theorem dX6_falls_19 : decode cX6_falls 19 = .ok (.istore_n 1, 1) := by decide +kernel
theorem dX6_falls_20 : decode cX6_falls 20 = .ok (.iload_n 1, 1) := by decide +kernel
theorem dX6_falls_21 : decode cX6_falls 21 = .ok (.ifCond .eq 80, 3) := by decide +kernel
theorem dX6_falls_24 : decode cX6_falls 24 = .ok (.aload_n 0, 1) := by decide +kernel
theorem dX6_falls_25 : decode cX6_falls 25 = .ok (.dup, 1) := by decide +kernel
theorem dX6_falls_26 : decode cX6_falls 26 = .ok (.getfield 171, 3) := by decide +kernel
theorem dX6_falls_29 : decode cX6_falls 29 = .ok (.iconst 1, 1) := by decide +kernel
theorem dX6_falls_30 : decode cX6_falls 30 = .ok (.iadd, 1) := by decide +kernel
theorem dX6_falls_31 : decode cX6_falls 31 = .ok (.putfield 171, 3) := by decide +kernel
theorem dX6_falls_34 : decode cX6_falls 34 = .ok (.aload_n 0, 1) := by decide +kernel
theorem dX6_falls_35 : decode cX6_falls 35 = .ok (.aload_n 0, 1) := by decide +kernel
theorem dX6_falls_36 : decode cX6_falls 36 = .ok (.getfield 171, 3) := by decide +kernel
theorem dX6_falls_39 : decode cX6_falls 39 = .ok (.iconst 1, 1) := by decide +kernel
theorem dX6_falls_40 : decode cX6_falls 40 = .ok (.if_icmp .ne 7, 3) := by decide +kernel
theorem dX6_falls_43 : decode cX6_falls 43 = .ok (.iload_n 1, 1) := by decide +kernel
theorem dX6_falls_44 : decode cX6_falls 44 = .ok (.goto 7, 3) := by decide +kernel
theorem dX6_falls_47 : decode cX6_falls 47 = .ok (.aload_n 0, 1) := by decide +kernel
theorem dX6_falls_48 : decode cX6_falls 48 = .ok (.getfield 174, 3) := by decide +kernel
theorem dX6_falls_51 : decode cX6_falls 51 = .ok (.putfield 174, 3) := by decide +kernel
theorem dX6_falls_54 : decode cX6_falls 54 = .ok (.aload_n 0, 1) := by decide +kernel
theorem dX6_falls_55 : decode cX6_falls 55 = .ok (.dup, 1) := by decide +kernel
theorem dX6_falls_56 : decode cX6_falls 56 = .ok (.getfield 177, 3) := by decide +kernel
theorem dX6_falls_59 : decode cX6_falls 59 = .ok (.iload_n 1, 1) := by decide +kernel
theorem dX6_falls_60 : decode cX6_falls 60 = .ok (.ior, 1) := by decide +kernel
theorem dX6_falls_61 : decode cX6_falls 61 = .ok (.putfield 177, 3) := by decide +kernel
theorem dX6_falls_64 : decode cX6_falls 64 = .ok (.iconst 0, 1) := by decide +kernel
theorem dX6_falls_65 : decode cX6_falls 65 = .ok (.istore_n 2, 1) := by decide +kernel
theorem dX6_falls_66 : decode cX6_falls 66 = .ok (.iload_n 2, 1) := by decide +kernel
theorem dX6_falls_67 : decode cX6_falls 67 = .ok (.aload_n 0, 1) := by decide +kernel
theorem dX6_falls_68 : decode cX6_falls 68 = .ok (.getfield 87, 3) := by decide +kernel
theorem dX6_falls_71 : decode cX6_falls 71 = .ok (.if_icmp .ge 22, 3) := by decide +kernel
theorem dX6_falls_74 : decode cX6_falls 74 = .ok (.iload_n 1, 1) := by decide +kernel
theorem dX6_falls_75 : decode cX6_falls 75 = .ok (.iload_n 2, 1) := by decide +kernel
theorem dX6_falls_76 : decode cX6_falls 76 = .ok (.invokestatic 161, 3) := by decide +kernel
theorem dX6_falls_79 : decode cX6_falls 79 = .ok (.ifCond .eq 8, 3) := by decide +kernel
theorem dX6_falls_82 : decode cX6_falls 82 = .ok (.aload_n 0, 1) := by decide +kernel
theorem dX6_falls_83 : decode cX6_falls 83 = .ok (.iload_n 2, 1) := by decide +kernel
theorem dX6_falls_84 : decode cX6_falls 84 = .ok (.invokevirtual 180, 3) := by decide +kernel
theorem dX6_falls_87 : decode cX6_falls 87 = .ok (.iinc 2 1, 3) := by decide +kernel
theorem dX6_falls_90 : decode cX6_falls 90 = .ok (.goto (-24), 3) := by decide +kernel
theorem dX6_falls_93 : decode cX6_falls 93 = .ok (.aload_n 0, 1) := by decide +kernel
theorem dX6_falls_94 : decode cX6_falls 94 = .ok (.invokevirtual 145, 3) := by decide +kernel
theorem dX6_falls_97 : decode cX6_falls 97 = .ok (.istore_n 1, 1) := by decide +kernel
theorem dX6_falls_98 : decode cX6_falls 98 = .ok (.goto (-78), 3) := by decide +kernel
theorem dX6_falls_101 : decode cX6_falls 101 = .ok (.return_, 1) := by decide +kernel
theorem dX6_lends_0 : decode cX6_lends 0 = .ok (.aload_n 0, 1) := by decide +kernel
theorem dX6_lends_1 : decode cX6_lends 1 = .ok (.iconst 0, 1) := by decide +kernel
theorem dX6_lends_2 : decode cX6_lends 2 = .ok (.putfield 90, 3) := by decide +kernel
theorem dX6_lends_5 : decode cX6_lends 5 = .ok (.iconst 0, 1) := by decide +kernel
theorem dX6_lends_6 : decode cX6_lends 6 = .ok (.istore_n 1, 1) := by decide +kernel
theorem dX6_lends_7 : decode cX6_lends 7 = .ok (.iload_n 1, 1) := by decide +kernel
theorem dX6_lends_8 : decode cX6_lends 8 = .ok (.bipush 41, 2) := by decide +kernel
theorem dX6_lends_10 : decode cX6_lends 10 = .ok (.if_icmp .ge 24, 3) := by decide +kernel
theorem dX6_lends_13 : decode cX6_lends 13 = .ok (.aload_n 0, 1) := by decide +kernel
theorem dX6_lends_14 : decode cX6_lends 14 = .ok (.getfield 34, 3) := by decide +kernel
theorem dX6_lends_17 : decode cX6_lends 17 = .ok (.bipush 41, 2) := by decide +kernel
theorem dX6_lends_19 : decode cX6_lends 19 = .ok (.iload_n 1, 1) := by decide +kernel
theorem dX6_lends_20 : decode cX6_lends 20 = .ok (.iadd, 1) := by decide +kernel
theorem dX6_lends_21 : decode cX6_lends 21 = .ok (.aload_n 0, 1) := by decide +kernel
theorem dX6_lends_22 : decode cX6_lends 22 = .ok (.getfield 34, 3) := by decide +kernel
theorem dX6_lends_25 : decode cX6_lends 25 = .ok (.iload_n 1, 1) := by decide +kernel
theorem dX6_lends_26 : decode cX6_lends 26 = .ok (.iaload, 1) := by decide +kernel
theorem dX6_lends_27 : decode cX6_lends 27 = .ok (.iastore, 1) := by decide +kernel
theorem dX6_lends_28 : decode cX6_lends 28 = .ok (.iinc 1 1, 3) := by decide +kernel
theorem dX6_lends_31 : decode cX6_lends 31 = .ok (.goto (-24), 3) := by decide +kernel
theorem dX6_lends_34 : decode cX6_lends 34 = .ok (.aload_n 0, 1) := by decide +kernel
theorem dX6_lends_35 : decode cX6_lends 35 = .ok (.bipush 41, 2) := by decide +kernel
theorem dX6_lends_37 : decode cX6_lends 37 = .ok (.putfield 90, 3) := by decide +kernel
theorem dX6_lends_40 : decode cX6_lends 40 = .ok (.return_, 1) := by decide +kernel
theorem dX6_fall_0 : decode cX6_fall 0 = .ok (.aload_n 0, 1) := by decide +kernel
theorem dX6_fall_1 : decode cX6_fall 1 = .ok (.invokevirtual 184, 3) := by decide +kernel
theorem dX6_fall_4 : decode cX6_fall 4 = .ok (.aload_n 0, 1) := by decide +kernel
theorem dX6_fall_5 : decode cX6_fall 5 = .ok (.getfield 171, 3) := by decide +kernel
theorem dX6_fall_8 : decode cX6_fall 8 = .ok (.ireturn, 1) := by decide +kernel
theorem dX6_wouldFall_0 : decode cX6_wouldFall 0 = .ok (.iload_n 1, 1) := by decide +kernel
theorem dX6_wouldFall_1 : decode cX6_wouldFall 1 = .ok (.iconst 0, 1) := by decide +kernel
theorem dX6_wouldFall_2 : decode cX6_wouldFall 2 = .ok (.iconst 3, 1) := by decide +kernel
theorem dX6_wouldFall_3 : decode cX6_wouldFall 3 = .ok (.invokestatic 79, 3) := by decide +kernel
theorem dX6_wouldFall_6 : decode cX6_wouldFall 6 = .ok (.ifCond .ne 10, 3) := by decide +kernel
theorem dX6_wouldFall_9 : decode cX6_wouldFall 9 = .ok (.aload_n 0, 1) := by decide +kernel
theorem dX6_wouldFall_10 : decode cX6_wouldFall 10 = .ok (.ldc 78, 2) := by decide +kernel
theorem dX6_wouldFall_12 : decode cX6_wouldFall 12 = .ok (.invokevirtual 125, 3) := by decide +kernel
theorem dX6_wouldFall_15 : decode cX6_wouldFall 15 = .ok (.ireturn, 1) := by decide +kernel
theorem dX6_wouldFall_16 : decode cX6_wouldFall 16 = .ok (.aload_n 0, 1) := by decide +kernel
theorem dX6_wouldFall_17 : decode cX6_wouldFall 17 = .ok (.invokevirtual 187, 3) := by decide +kernel
theorem dX6_wouldFall_20 : decode cX6_wouldFall 20 = .ok (.istore_n 2, 1) := by decide +kernel
theorem dX6_wouldFall_21 : decode cX6_wouldFall 21 = .ok (.aload_n 0, 1) := by decide +kernel
theorem dX6_wouldFall_22 : decode cX6_wouldFall 22 = .ok (.invokevirtual 190, 3) := by decide +kernel
theorem dX6_wouldFall_25 : decode cX6_wouldFall 25 = .ok (.aload_n 0, 1) := by decide +kernel
theorem dX6_wouldFall_26 : decode cX6_wouldFall 26 = .ok (.invokevirtual 184, 3) := by decide +kernel
theorem dX6_wouldFall_29 : decode cX6_wouldFall 29 = .ok (.aload_n 0, 1) := by decide +kernel
theorem dX6_wouldFall_30 : decode cX6_wouldFall 30 = .ok (.invokevirtual 187, 3) := by decide +kernel
theorem dX6_wouldFall_33 : decode cX6_wouldFall 33 = .ok (.iload_n 2, 1) := by decide +kernel
theorem dX6_wouldFall_34 : decode cX6_wouldFall 34 = .ok (.iconst (-1), 1) := by decide +kernel
theorem dX6_wouldFall_35 : decode cX6_wouldFall 35 = .ok (.ixor, 1) := by decide +kernel
theorem dX6_wouldFall_36 : decode cX6_wouldFall 36 = .ok (.iand, 1) := by decide +kernel
theorem dX6_wouldFall_37 : decode cX6_wouldFall 37 = .ok (.istore_n 3, 1) := by decide +kernel
theorem dX6_wouldFall_38 : decode cX6_wouldFall 38 = .ok (.aload_n 0, 1) := by decide +kernel
theorem dX6_wouldFall_39 : decode cX6_wouldFall 39 = .ok (.iconst 0, 1) := by decide +kernel
theorem dX6_wouldFall_40 : decode cX6_wouldFall 40 = .ok (.putfield 90, 3) := by decide +kernel
theorem dX6_wouldFall_43 : decode cX6_wouldFall 43 = .ok (.iload_n 1, 1) := by decide +kernel
theorem dX6_wouldFall_44 : decode cX6_wouldFall 44 = .ok (.ifCond .ne 10, 3) := by decide +kernel
theorem dX6_wouldFall_47 : decode cX6_wouldFall 47 = .ok (.aload_n 0, 1) := by decide +kernel
theorem dX6_wouldFall_48 : decode cX6_wouldFall 48 = .ok (.getfield 171, 3) := by decide +kernel
theorem dX6_wouldFall_51 : decode cX6_wouldFall 51 = .ok (.goto 28, 3) := by decide +kernel
theorem dX6_wouldFall_54 : decode cX6_wouldFall 54 = .ok (.iload_n 1, 1) := by decide +kernel
theorem dX6_wouldFall_55 : decode cX6_wouldFall 55 = .ok (.iconst 1, 1) := by decide +kernel
theorem dX6_wouldFall_56 : decode cX6_wouldFall 56 = .ok (.if_icmp .ne 10, 3) := by decide +kernel
theorem dX6_wouldFall_59 : decode cX6_wouldFall 59 = .ok (.aload_n 0, 1) := by decide +kernel
theorem dX6_wouldFall_60 : decode cX6_wouldFall 60 = .ok (.getfield 177, 3) := by decide +kernel
theorem dX6_wouldFall_63 : decode cX6_wouldFall 63 = .ok (.goto 16, 3) := by decide +kernel
theorem dX6_wouldFall_66 : decode cX6_wouldFall 66 = .ok (.iload_n 1, 1) := by decide +kernel
theorem dX6_wouldFall_67 : decode cX6_wouldFall 67 = .ok (.iconst 2, 1) := by decide +kernel
theorem dX6_wouldFall_68 : decode cX6_wouldFall 68 = .ok (.if_icmp .ne 7, 3) := by decide +kernel
theorem dX6_wouldFall_71 : decode cX6_wouldFall 71 = .ok (.iload_n 3, 1) := by decide +kernel
theorem dX6_wouldFall_72 : decode cX6_wouldFall 72 = .ok (.goto 7, 3) := by decide +kernel
theorem dX6_wouldFall_75 : decode cX6_wouldFall 75 = .ok (.aload_n 0, 1) := by decide +kernel
theorem dX6_wouldFall_76 : decode cX6_wouldFall 76 = .ok (.getfield 174, 3) := by decide +kernel
theorem dX6_wouldFall_79 : decode cX6_wouldFall 79 = .ok (.ireturn, 1) := by decide +kernel
theorem dX6_pullsDown_0 : decode cX6_pullsDown 0 = .ok (.aload_n 0, 1) := by decide +kernel
theorem dX6_pullsDown_1 : decode cX6_pullsDown 1 = .ok (.invokevirtual 190, 3) := by decide +kernel
theorem dX6_pullsDown_4 : decode cX6_pullsDown 4 = .ok (.aload_n 0, 1) := by decide +kernel
theorem dX6_pullsDown_5 : decode cX6_pullsDown 5 = .ok (.iload_n 1, 1) := by decide +kernel
theorem dX6_pullsDown_6 : decode cX6_pullsDown 6 = .ok (.invokevirtual 180, 3) := by decide +kernel
theorem dX6_pullsDown_9 : decode cX6_pullsDown 9 = .ok (.aload_n 0, 1) := by decide +kernel
theorem dX6_pullsDown_10 : decode cX6_pullsDown 10 = .ok (.invokevirtual 184, 3) := by decide +kernel
theorem dX6_pullsDown_13 : decode cX6_pullsDown 13 = .ok (.aload_n 0, 1) := by decide +kernel
theorem dX6_pullsDown_14 : decode cX6_pullsDown 14 = .ok (.iconst 0, 1) := by decide +kernel
theorem dX6_pullsDown_15 : decode cX6_pullsDown 15 = .ok (.putfield 90, 3) := by decide +kernel
theorem dX6_pullsDown_18 : decode cX6_pullsDown 18 = .ok (.aload_n 0, 1) := by decide +kernel
theorem dX6_pullsDown_19 : decode cX6_pullsDown 19 = .ok (.getfield 177, 3) := by decide +kernel
theorem dX6_pullsDown_22 : decode cX6_pullsDown 22 = .ok (.iconst 1, 1) := by decide +kernel
theorem dX6_pullsDown_23 : decode cX6_pullsDown 23 = .ok (.iload_n 1, 1) := by decide +kernel
theorem dX6_pullsDown_24 : decode cX6_pullsDown 24 = .ok (.ishl, 1) := by decide +kernel
theorem dX6_pullsDown_25 : decode cX6_pullsDown 25 = .ok (.ior, 1) := by decide +kernel
theorem dX6_pullsDown_26 : decode cX6_pullsDown 26 = .ok (.ireturn, 1) := by decide +kernel
theorem dX6_pulls_0 : decode cX6_pulls 0 = .ok (.aload_n 0, 1) := by decide +kernel
theorem dX6_pulls_1 : decode cX6_pulls 1 = .ok (.iload_n 1, 1) := by decide +kernel
theorem dX6_pulls_2 : decode cX6_pulls 2 = .ok (.invokevirtual 158, 3) := by decide +kernel
theorem dX6_pulls_5 : decode cX6_pulls 5 = .ok (.ifCond .ne 10, 3) := by decide +kernel
theorem dX6_pulls_8 : decode cX6_pulls 8 = .ok (.aload_n 0, 1) := by decide +kernel
theorem dX6_pulls_9 : decode cX6_pulls 9 = .ok (.ldc 78, 2) := by decide +kernel
theorem dX6_pulls_11 : decode cX6_pulls 11 = .ok (.invokevirtual 125, 3) := by decide +kernel
theorem dX6_pulls_14 : decode cX6_pulls 14 = .ok (.ireturn, 1) := by decide +kernel
theorem dX6_pulls_15 : decode cX6_pulls 15 = .ok (.aload_n 0, 1) := by decide +kernel
theorem dX6_pulls_16 : decode cX6_pulls 16 = .ok (.iload_n 1, 1) := by decide +kernel
theorem dX6_pulls_17 : decode cX6_pulls 17 = .ok (.invokevirtual 113, 3) := by decide +kernel
theorem dX6_pulls_20 : decode cX6_pulls 20 = .ok (.ifCond .eq 11, 3) := by decide +kernel
theorem dX6_pulls_23 : decode cX6_pulls 23 = .ok (.aload_n 0, 1) := by decide +kernel
theorem dX6_pulls_24 : decode cX6_pulls 24 = .ok (.iload_n 1, 1) := by decide +kernel
theorem dX6_pulls_25 : decode cX6_pulls 25 = .ok (.invokevirtual 193, 3) := by decide +kernel
theorem dX6_pulls_28 : decode cX6_pulls 28 = .ok (.goto 9, 3) := by decide +kernel
theorem dX6_pulls_31 : decode cX6_pulls 31 = .ok (.aload_n 0, 1) := by decide +kernel
theorem dX6_pulls_32 : decode cX6_pulls 32 = .ok (.ldc 139, 2) := by decide +kernel
theorem dX6_pulls_34 : decode cX6_pulls 34 = .ok (.invokevirtual 125, 3) := by decide +kernel
theorem dX6_pulls_37 : decode cX6_pulls 37 = .ok (.ireturn, 1) := by decide +kernel
theorem dX6_keystone_0 : decode cX6_keystone 0 = .ok (.iconst (-1), 1) := by decide +kernel
theorem dX6_keystone_1 : decode cX6_keystone 1 = .ok (.istore_n 1, 1) := by decide +kernel
theorem dX6_keystone_2 : decode cX6_keystone 2 = .ok (.iconst 0, 1) := by decide +kernel
theorem dX6_keystone_3 : decode cX6_keystone 3 = .ok (.istore_n 2, 1) := by decide +kernel
theorem dX6_keystone_4 : decode cX6_keystone 4 = .ok (.iconst 0, 1) := by decide +kernel
theorem dX6_keystone_5 : decode cX6_keystone 5 = .ok (.istore_n 3, 1) := by decide +kernel
theorem dX6_keystone_6 : decode cX6_keystone 6 = .ok (.iload_n 3, 1) := by decide +kernel
theorem dX6_keystone_7 : decode cX6_keystone 7 = .ok (.aload_n 0, 1) := by decide +kernel
theorem dX6_keystone_8 : decode cX6_keystone 8 = .ok (.getfield 87, 3) := by decide +kernel
theorem dX6_keystone_11 : decode cX6_keystone 11 = .ok (.if_icmp .ge 56, 3) := by decide +kernel
theorem dX6_keystone_14 : decode cX6_keystone 14 = .ok (.aload_n 0, 1) := by decide +kernel
theorem dX6_keystone_15 : decode cX6_keystone 15 = .ok (.iload_n 3, 1) := by decide +kernel
theorem dX6_keystone_16 : decode cX6_keystone 16 = .ok (.invokevirtual 113, 3) := by decide +kernel
theorem dX6_keystone_19 : decode cX6_keystone 19 = .ok (.ifCond .eq 14, 3) := by decide +kernel
theorem dX6_keystone_22 : decode cX6_keystone 22 = .ok (.aload_n 0, 1) := by decide +kernel
theorem dX6_keystone_23 : decode cX6_keystone 23 = .ok (.iload_n 3, 1) := by decide +kernel
theorem dX6_keystone_24 : decode cX6_keystone 24 = .ok (.invokevirtual 193, 3) := by decide +kernel
theorem dX6_keystone_27 : decode cX6_keystone 27 = .ok (.invokestatic 149, 3) := by decide +kernel
theorem dX6_keystone_30 : decode cX6_keystone 30 = .ok (.goto 4, 3) := by decide +kernel
theorem dX6_keystone_33 : decode cX6_keystone 33 = .ok (.iconst 0, 1) := by decide +kernel
theorem dX6_keystone_34 : decode cX6_keystone 34 = .ok (.istore 4, 2) := by decide +kernel
theorem dX6_keystone_36 : decode cX6_keystone 36 = .ok (.iload 4, 2) := by decide +kernel
theorem dX6_keystone_38 : decode cX6_keystone 38 = .ok (.iload_n 2, 1) := by decide +kernel
theorem dX6_keystone_39 : decode cX6_keystone 39 = .ok (.if_icmp .le 7, 3) := by decide +kernel
theorem dX6_keystone_42 : decode cX6_keystone 42 = .ok (.iload_n 3, 1) := by decide +kernel
theorem dX6_keystone_43 : decode cX6_keystone 43 = .ok (.goto 4, 3) := by decide +kernel
theorem dX6_keystone_46 : decode cX6_keystone 46 = .ok (.iload_n 1, 1) := by decide +kernel
theorem dX6_keystone_47 : decode cX6_keystone 47 = .ok (.istore_n 1, 1) := by decide +kernel
theorem dX6_keystone_48 : decode cX6_keystone 48 = .ok (.iload 4, 2) := by decide +kernel
theorem dX6_keystone_50 : decode cX6_keystone 50 = .ok (.iload_n 2, 1) := by decide +kernel
theorem dX6_keystone_51 : decode cX6_keystone 51 = .ok (.if_icmp .le 8, 3) := by decide +kernel
theorem dX6_keystone_54 : decode cX6_keystone 54 = .ok (.iload 4, 2) := by decide +kernel
theorem dX6_keystone_56 : decode cX6_keystone 56 = .ok (.goto 4, 3) := by decide +kernel
theorem dX6_keystone_59 : decode cX6_keystone 59 = .ok (.iload_n 2, 1) := by decide +kernel
theorem dX6_keystone_60 : decode cX6_keystone 60 = .ok (.istore_n 2, 1) := by decide +kernel
theorem dX6_keystone_61 : decode cX6_keystone 61 = .ok (.iinc 3 1, 3) := by decide +kernel
theorem dX6_keystone_64 : decode cX6_keystone 64 = .ok (.goto (-58), 3) := by decide +kernel
theorem dX6_keystone_67 : decode cX6_keystone 67 = .ok (.iload_n 1, 1) := by decide +kernel
theorem dX6_keystone_68 : decode cX6_keystone 68 = .ok (.ifCond .ge 12, 3) := by decide +kernel
theorem dX6_keystone_71 : decode cX6_keystone 71 = .ok (.aload_n 0, 1) := by decide +kernel
theorem dX6_keystone_72 : decode cX6_keystone 72 = .ok (.ldc 170, 2) := by decide +kernel
theorem dX6_keystone_74 : decode cX6_keystone 74 = .ok (.invokevirtual 125, 3) := by decide +kernel
theorem dX6_keystone_77 : decode cX6_keystone 77 = .ok (.goto 4, 3) := by decide +kernel
theorem dX6_keystone_80 : decode cX6_keystone 80 = .ok (.iload_n 1, 1) := by decide +kernel
theorem dX6_keystone_81 : decode cX6_keystone 81 = .ok (.ireturn, 1) := by decide +kernel
theorem dX6_brokenMany_0 : decode cX6_brokenMany 0 = .ok (.iconst 0, 1) := by decide +kernel
theorem dX6_brokenMany_1 : decode cX6_brokenMany 1 = .ok (.istore_n 1, 1) := by decide +kernel
theorem dX6_brokenMany_2 : decode cX6_brokenMany 2 = .ok (.iconst 0, 1) := by decide +kernel
theorem dX6_brokenMany_3 : decode cX6_brokenMany 3 = .ok (.istore_n 2, 1) := by decide +kernel
theorem dX6_brokenMany_4 : decode cX6_brokenMany 4 = .ok (.iload_n 2, 1) := by decide +kernel
theorem dX6_brokenMany_5 : decode cX6_brokenMany 5 = .ok (.aload_n 0, 1) := by decide +kernel
theorem dX6_brokenMany_6 : decode cX6_brokenMany 6 = .ok (.getfield 87, 3) := by decide +kernel
theorem dX6_brokenMany_9 : decode cX6_brokenMany 9 = .ok (.if_icmp .ge 26, 3) := by decide +kernel
theorem dX6_brokenMany_12 : decode cX6_brokenMany 12 = .ok (.iload_n 1, 1) := by decide +kernel
theorem dX6_brokenMany_13 : decode cX6_brokenMany 13 = .ok (.aload_n 0, 1) := by decide +kernel
theorem dX6_brokenMany_14 : decode cX6_brokenMany 14 = .ok (.getfield 34, 3) := by decide +kernel
theorem dX6_brokenMany_17 : decode cX6_brokenMany 17 = .ok (.aload_n 0, 1) := by decide +kernel
theorem dX6_brokenMany_18 : decode cX6_brokenMany 18 = .ok (.getfield 90, 3) := by decide +kernel
theorem dX6_brokenMany_21 : decode cX6_brokenMany 21 = .ok (.bipush 29, 2) := by decide +kernel
theorem dX6_brokenMany_23 : decode cX6_brokenMany 23 = .ok (.iadd, 1) := by decide +kernel
theorem dX6_brokenMany_24 : decode cX6_brokenMany 24 = .ok (.iload_n 2, 1) := by decide +kernel
theorem dX6_brokenMany_25 : decode cX6_brokenMany 25 = .ok (.iadd, 1) := by decide +kernel
theorem dX6_brokenMany_26 : decode cX6_brokenMany 26 = .ok (.iaload, 1) := by decide +kernel
theorem dX6_brokenMany_27 : decode cX6_brokenMany 27 = .ok (.iadd, 1) := by decide +kernel
theorem dX6_brokenMany_28 : decode cX6_brokenMany 28 = .ok (.istore_n 1, 1) := by decide +kernel
theorem dX6_brokenMany_29 : decode cX6_brokenMany 29 = .ok (.iinc 2 1, 3) := by decide +kernel
theorem dX6_brokenMany_32 : decode cX6_brokenMany 32 = .ok (.goto (-28), 3) := by decide +kernel
theorem dX6_brokenMany_35 : decode cX6_brokenMany 35 = .ok (.iload_n 1, 1) := by decide +kernel
theorem dX6_brokenMany_36 : decode cX6_brokenMany 36 = .ok (.ireturn, 1) := by decide +kernel
theorem dX6_go_0 : decode cX6_go 0 = .ok (.iconst 0, 1) := by decide +kernel
theorem dX6_go_1 : decode cX6_go 1 = .ok (.istore_n 2, 1) := by decide +kernel
theorem dX6_go_2 : decode cX6_go 2 = .ok (.iload_n 2, 1) := by decide +kernel
theorem dX6_go_3 : decode cX6_go 3 = .ok (.iload_n 1, 1) := by decide +kernel
theorem dX6_go_4 : decode cX6_go 4 = .ok (.if_icmp .ge 28, 3) := by decide +kernel
theorem dX6_go_7 : decode cX6_go 7 = .ok (.aload_n 0, 1) := by decide +kernel
theorem dX6_go_8 : decode cX6_go 8 = .ok (.invokevirtual 184, 3) := by decide +kernel
theorem dX6_go_11 : decode cX6_go 11 = .ok (.aload_n 0, 1) := by decide +kernel
theorem dX6_go_12 : decode cX6_go 12 = .ok (.getfield 34, 3) := by decide +kernel
theorem dX6_go_15 : decode cX6_go 15 = .ok (.aload_n 0, 1) := by decide +kernel
theorem dX6_go_16 : decode cX6_go 16 = .ok (.getfield 90, 3) := by decide +kernel
theorem dX6_go_19 : decode cX6_go 19 = .ok (.iconst 0, 1) := by decide +kernel
theorem dX6_go_20 : decode cX6_go 20 = .ok (.iadd, 1) := by decide +kernel
theorem dX6_go_21 : decode cX6_go 21 = .ok (.dup2, 1) := by decide +kernel
theorem dX6_go_22 : decode cX6_go 22 = .ok (.iaload, 1) := by decide +kernel
theorem dX6_go_23 : decode cX6_go 23 = .ok (.iconst 1, 1) := by decide +kernel
theorem dX6_go_24 : decode cX6_go 24 = .ok (.iadd, 1) := by decide +kernel
theorem dX6_go_25 : decode cX6_go 25 = .ok (.iastore, 1) := by decide +kernel
theorem dX6_go_26 : decode cX6_go 26 = .ok (.iinc 2 1, 3) := by decide +kernel
theorem dX6_go_29 : decode cX6_go 29 = .ok (.goto (-27), 3) := by decide +kernel
theorem dX6_go_32 : decode cX6_go 32 = .ok (.return_, 1) := by decide +kernel
theorem dX6_isLate_0 : decode cX6_isLate 0 = .ok (.aload_n 0, 1) := by decide +kernel
theorem dX6_isLate_1 : decode cX6_isLate 1 = .ok (.getfield 34, 3) := by decide +kernel
theorem dX6_isLate_4 : decode cX6_isLate 4 = .ok (.iconst 0, 1) := by decide +kernel
theorem dX6_isLate_5 : decode cX6_isLate 5 = .ok (.iaload, 1) := by decide +kernel
theorem dX6_isLate_6 : decode cX6_isLate 6 = .ok (.iload_n 1, 1) := by decide +kernel
theorem dX6_isLate_7 : decode cX6_isLate 7 = .ok (.iadd, 1) := by decide +kernel
theorem dX6_isLate_8 : decode cX6_isLate 8 = .ok (.sipush 999, 3) := by decide +kernel
theorem dX6_isLate_11 : decode cX6_isLate 11 = .ok (.if_icmp .le 7, 3) := by decide +kernel
theorem dX6_isLate_14 : decode cX6_isLate 14 = .ok (.iconst 1, 1) := by decide +kernel
theorem dX6_isLate_15 : decode cX6_isLate 15 = .ok (.goto 4, 3) := by decide +kernel
theorem dX6_isLate_18 : decode cX6_isLate 18 = .ok (.iconst 0, 1) := by decide +kernel
theorem dX6_isLate_19 : decode cX6_isLate 19 = .ok (.ireturn, 1) := by decide +kernel
theorem dX6_months_0 : decode cX6_months 0 = .ok (.iload_n 1, 1) := by decide +kernel
theorem dX6_months_1 : decode cX6_months 1 = .ok (.iconst 1, 1) := by decide +kernel
theorem dX6_months_2 : decode cX6_months 2 = .ok (.bipush 60, 2) := by decide +kernel
theorem dX6_months_4 : decode cX6_months 4 = .ok (.invokestatic 79, 3) := by decide +kernel
theorem dX6_months_7 : decode cX6_months 7 = .ok (.ifCond .ne 10, 3) := by decide +kernel
theorem dX6_months_10 : decode cX6_months 10 = .ok (.aload_n 0, 1) := by decide +kernel
theorem dX6_months_11 : decode cX6_months 11 = .ok (.ldc 78, 2) := by decide +kernel
theorem dX6_months_13 : decode cX6_months 13 = .ok (.invokevirtual 125, 3) := by decide +kernel
theorem dX6_months_16 : decode cX6_months 16 = .ok (.ireturn, 1) := by decide +kernel
theorem dX6_months_17 : decode cX6_months 17 = .ok (.aload_n 0, 1) := by decide +kernel
theorem dX6_months_18 : decode cX6_months 18 = .ok (.iload_n 1, 1) := by decide +kernel
theorem dX6_months_19 : decode cX6_months 19 = .ok (.invokevirtual 196, 3) := by decide +kernel
theorem dX6_months_22 : decode cX6_months 22 = .ok (.ifCond .eq 10, 3) := by decide +kernel
theorem dX6_months_25 : decode cX6_months 25 = .ok (.aload_n 0, 1) := by decide +kernel
theorem dX6_months_26 : decode cX6_months 26 = .ok (.ldc 139, 2) := by decide +kernel
theorem dX6_months_28 : decode cX6_months 28 = .ok (.invokevirtual 125, 3) := by decide +kernel
theorem dX6_months_31 : decode cX6_months 31 = .ok (.ireturn, 1) := by decide +kernel
theorem dX6_months_32 : decode cX6_months 32 = .ok (.aload_n 0, 1) := by decide +kernel
theorem dX6_months_33 : decode cX6_months 33 = .ok (.invokevirtual 199, 3) := by decide +kernel
theorem dX6_months_36 : decode cX6_months 36 = .ok (.istore_n 2, 1) := by decide +kernel
theorem dX6_months_37 : decode cX6_months 37 = .ok (.aload_n 0, 1) := by decide +kernel
theorem dX6_months_38 : decode cX6_months 38 = .ok (.iload_n 1, 1) := by decide +kernel
theorem dX6_months_39 : decode cX6_months 39 = .ok (.invokevirtual 202, 3) := by decide +kernel
theorem dX6_months_42 : decode cX6_months 42 = .ok (.aload_n 0, 1) := by decide +kernel
theorem dX6_months_43 : decode cX6_months 43 = .ok (.invokevirtual 199, 3) := by decide +kernel
theorem dX6_months_46 : decode cX6_months 46 = .ok (.iload_n 2, 1) := by decide +kernel
theorem dX6_months_47 : decode cX6_months 47 = .ok (.isub, 1) := by decide +kernel
theorem dX6_months_48 : decode cX6_months 48 = .ok (.ireturn, 1) := by decide +kernel
theorem dX6_now_0 : decode cX6_now 0 = .ok (.iconst 0, 1) := by decide +kernel
theorem dX6_now_1 : decode cX6_now 1 = .ok (.istore_n 2, 1) := by decide +kernel
theorem dX6_now_2 : decode cX6_now 2 = .ok (.iload_n 1, 1) := by decide +kernel
theorem dX6_now_3 : decode cX6_now 3 = .ok (.tableswitch 108 0 4 #[33, 40, 48, 53, 66], 33) := by decide +kernel
theorem dX6_now_36 : decode cX6_now 36 = .ok (.aload_n 0, 1) := by decide +kernel
theorem dX6_now_37 : decode cX6_now 37 = .ok (.getfield 34, 3) := by decide +kernel
theorem dX6_now_40 : decode cX6_now 40 = .ok (.iconst 0, 1) := by decide +kernel
theorem dX6_now_41 : decode cX6_now 41 = .ok (.iaload, 1) := by decide +kernel
theorem dX6_now_42 : decode cX6_now 42 = .ok (.ireturn, 1) := by decide +kernel
theorem dX6_now_43 : decode cX6_now 43 = .ok (.aload_n 0, 1) := by decide +kernel
theorem dX6_now_44 : decode cX6_now 44 = .ok (.invokevirtual 205, 3) := by decide +kernel
theorem dX6_now_47 : decode cX6_now 47 = .ok (.invokestatic 149, 3) := by decide +kernel
theorem dX6_now_50 : decode cX6_now 50 = .ok (.ireturn, 1) := by decide +kernel
theorem dX6_now_51 : decode cX6_now 51 = .ok (.aload_n 0, 1) := by decide +kernel
theorem dX6_now_52 : decode cX6_now 52 = .ok (.invokevirtual 199, 3) := by decide +kernel
theorem dX6_now_55 : decode cX6_now 55 = .ok (.ireturn, 1) := by decide +kernel
theorem dX6_now_56 : decode cX6_now 56 = .ok (.aload_n 0, 1) := by decide +kernel
theorem dX6_now_57 : decode cX6_now 57 = .ok (.getfield 83, 3) := by decide +kernel
theorem dX6_now_60 : decode cX6_now 60 = .ok (.aload_n 0, 1) := by decide +kernel
theorem dX6_now_61 : decode cX6_now 61 = .ok (.invokevirtual 187, 3) := by decide +kernel
theorem dX6_now_64 : decode cX6_now 64 = .ok (.invokestatic 149, 3) := by decide +kernel
theorem dX6_now_67 : decode cX6_now 67 = .ok (.isub, 1) := by decide +kernel
theorem dX6_now_68 : decode cX6_now 68 = .ok (.ireturn, 1) := by decide +kernel
theorem dX6_now_69 : decode cX6_now 69 = .ok (.iconst 0, 1) := by decide +kernel
theorem dX6_now_70 : decode cX6_now 70 = .ok (.istore_n 3, 1) := by decide +kernel
theorem dX6_now_71 : decode cX6_now 71 = .ok (.iload_n 3, 1) := by decide +kernel
theorem dX6_now_72 : decode cX6_now 72 = .ok (.aload_n 0, 1) := by decide +kernel
theorem dX6_now_73 : decode cX6_now 73 = .ok (.getfield 83, 3) := by decide +kernel
theorem dX6_now_76 : decode cX6_now 76 = .ok (.if_icmp .ge 33, 3) := by decide +kernel
theorem dX6_now_79 : decode cX6_now 79 = .ok (.iload_n 2, 1) := by decide +kernel
theorem dX6_now_80 : decode cX6_now 80 = .ok (.aload_n 0, 1) := by decide +kernel
theorem dX6_now_81 : decode cX6_now 81 = .ok (.iload_n 3, 1) := by decide +kernel
theorem dX6_now_82 : decode cX6_now 82 = .ok (.invokevirtual 97, 3) := by decide +kernel
theorem dX6_now_85 : decode cX6_now 85 = .ok (.ifCond .eq 15, 3) := by decide +kernel
theorem dX6_now_88 : decode cX6_now 88 = .ok (.aload_n 0, 1) := by decide +kernel
theorem dX6_now_89 : decode cX6_now 89 = .ok (.iload_n 3, 1) := by decide +kernel
theorem dX6_now_90 : decode cX6_now 90 = .ok (.invokevirtual 101, 3) := by decide +kernel
theorem dX6_now_93 : decode cX6_now 93 = .ok (.ifCond .eq 7, 3) := by decide +kernel
theorem dX6_now_96 : decode cX6_now 96 = .ok (.iconst 1, 1) := by decide +kernel
theorem dX6_now_97 : decode cX6_now 97 = .ok (.goto 4, 3) := by decide +kernel
theorem dX6_now_100 : decode cX6_now 100 = .ok (.iconst 0, 1) := by decide +kernel
theorem dX6_now_101 : decode cX6_now 101 = .ok (.iadd, 1) := by decide +kernel
theorem dX6_now_102 : decode cX6_now 102 = .ok (.istore_n 2, 1) := by decide +kernel
theorem dX6_now_103 : decode cX6_now 103 = .ok (.iinc 3 1, 3) := by decide +kernel
theorem dX6_now_106 : decode cX6_now 106 = .ok (.goto (-35), 3) := by decide +kernel
theorem dX6_now_109 : decode cX6_now 109 = .ok (.iload_n 2, 1) := by decide +kernel
theorem dX6_now_110 : decode cX6_now 110 = .ok (.ireturn, 1) := by decide +kernel
theorem dX6_now_111 : decode cX6_now 111 = .ok (.aload_n 0, 1) := by decide +kernel
theorem dX6_now_112 : decode cX6_now 112 = .ok (.ldc 78, 2) := by decide +kernel
theorem dX6_now_114 : decode cX6_now 114 = .ok (.invokevirtual 125, 3) := by decide +kernel
theorem dX6_now_117 : decode cX6_now 117 = .ok (.ireturn, 1) := by decide +kernel
theorem dX6_on_0 : decode cX6_on 0 = .ok (.iload_n 1, 1) := by decide +kernel
theorem dX6_on_1 : decode cX6_on 1 = .ok (.iconst 0, 1) := by decide +kernel
theorem dX6_on_2 : decode cX6_on 2 = .ok (.bipush 120, 2) := by decide +kernel
theorem dX6_on_4 : decode cX6_on 4 = .ok (.invokestatic 79, 3) := by decide +kernel
theorem dX6_on_7 : decode cX6_on 7 = .ok (.ifCond .ne 10, 3) := by decide +kernel
theorem dX6_on_10 : decode cX6_on 10 = .ok (.aload_n 0, 1) := by decide +kernel
theorem dX6_on_11 : decode cX6_on 11 = .ok (.ldc 78, 2) := by decide +kernel
theorem dX6_on_13 : decode cX6_on 13 = .ok (.invokevirtual 125, 3) := by decide +kernel
theorem dX6_on_16 : decode cX6_on 16 = .ok (.ireturn, 1) := by decide +kernel
theorem dX6_on_17 : decode cX6_on 17 = .ok (.aload_n 0, 1) := by decide +kernel
theorem dX6_on_18 : decode cX6_on 18 = .ok (.iload_n 1, 1) := by decide +kernel
theorem dX6_on_19 : decode cX6_on 19 = .ok (.invokevirtual 196, 3) := by decide +kernel
theorem dX6_on_22 : decode cX6_on 22 = .ok (.ifCond .eq 10, 3) := by decide +kernel
theorem dX6_on_25 : decode cX6_on 25 = .ok (.aload_n 0, 1) := by decide +kernel
theorem dX6_on_26 : decode cX6_on 26 = .ok (.ldc 139, 2) := by decide +kernel
theorem dX6_on_28 : decode cX6_on 28 = .ok (.invokevirtual 125, 3) := by decide +kernel
theorem dX6_on_31 : decode cX6_on 31 = .ok (.ireturn, 1) := by decide +kernel
theorem dX6_on_32 : decode cX6_on 32 = .ok (.aload_n 0, 1) := by decide +kernel
theorem dX6_on_33 : decode cX6_on 33 = .ok (.invokevirtual 190, 3) := by decide +kernel
theorem dX6_on_36 : decode cX6_on 36 = .ok (.aload_n 0, 1) := by decide +kernel
theorem dX6_on_37 : decode cX6_on 37 = .ok (.iload_n 1, 1) := by decide +kernel
theorem dX6_on_38 : decode cX6_on 38 = .ok (.invokevirtual 202, 3) := by decide +kernel
theorem dX6_on_41 : decode cX6_on 41 = .ok (.aload_n 0, 1) := by decide +kernel
theorem dX6_on_42 : decode cX6_on 42 = .ok (.invokevirtual 205, 3) := by decide +kernel
theorem dX6_on_45 : decode cX6_on 45 = .ok (.istore_n 2, 1) := by decide +kernel
theorem dX6_on_46 : decode cX6_on 46 = .ok (.aload_n 0, 1) := by decide +kernel
theorem dX6_on_47 : decode cX6_on 47 = .ok (.iconst 0, 1) := by decide +kernel
theorem dX6_on_48 : decode cX6_on 48 = .ok (.putfield 90, 3) := by decide +kernel
theorem dX6_on_51 : decode cX6_on 51 = .ok (.iload_n 2, 1) := by decide +kernel
theorem dX6_on_52 : decode cX6_on 52 = .ok (.ireturn, 1) := by decide +kernel
theorem dX6_findsOne_0 : decode cX6_findsOne 0 = .ok (.iconst 0, 1) := by decide +kernel
theorem dX6_findsOne_1 : decode cX6_findsOne 1 = .ok (.istore_n 1, 1) := by decide +kernel
theorem dX6_findsOne_2 : decode cX6_findsOne 2 = .ok (.iload_n 1, 1) := by decide +kernel
theorem dX6_findsOne_3 : decode cX6_findsOne 3 = .ok (.bipush 6, 2) := by decide +kernel
theorem dX6_findsOne_5 : decode cX6_findsOne 5 = .ok (.aload_n 0, 1) := by decide +kernel
theorem dX6_findsOne_6 : decode cX6_findsOne 6 = .ok (.getfield 83, 3) := by decide +kernel
theorem dX6_findsOne_9 : decode cX6_findsOne 9 = .ok (.imul, 1) := by decide +kernel
theorem dX6_findsOne_10 : decode cX6_findsOne 10 = .ok (.if_icmp .ge 93, 3) := by decide +kernel
theorem dX6_findsOne_13 : decode cX6_findsOne 13 = .ok (.iload_n 1, 1) := by decide +kernel
theorem dX6_findsOne_14 : decode cX6_findsOne 14 = .ok (.bipush 6, 2) := by decide +kernel
theorem dX6_findsOne_16 : decode cX6_findsOne 16 = .ok (.idiv, 1) := by decide +kernel
theorem dX6_findsOne_17 : decode cX6_findsOne 17 = .ok (.istore_n 2, 1) := by decide +kernel
theorem dX6_findsOne_18 : decode cX6_findsOne 18 = .ok (.aload_n 0, 1) := by decide +kernel
theorem dX6_findsOne_19 : decode cX6_findsOne 19 = .ok (.iload_n 2, 1) := by decide +kernel
theorem dX6_findsOne_20 : decode cX6_findsOne 20 = .ok (.invokevirtual 93, 3) := by decide +kernel
theorem dX6_findsOne_23 : decode cX6_findsOne 23 = .ok (.istore_n 3, 1) := by decide +kernel
theorem dX6_findsOne_24 : decode cX6_findsOne 24 = .ok (.aload_n 0, 1) := by decide +kernel
theorem dX6_findsOne_25 : decode cX6_findsOne 25 = .ok (.iload_n 2, 1) := by decide +kernel
theorem dX6_findsOne_26 : decode cX6_findsOne 26 = .ok (.invokevirtual 97, 3) := by decide +kernel
theorem dX6_findsOne_29 : decode cX6_findsOne 29 = .ok (.ifCond .eq 68, 3) := by decide +kernel
theorem dX6_findsOne_32 : decode cX6_findsOne 32 = .ok (.iload_n 1, 1) := by decide +kernel
theorem dX6_findsOne_33 : decode cX6_findsOne 33 = .ok (.bipush 6, 2) := by decide +kernel
theorem dX6_findsOne_35 : decode cX6_findsOne 35 = .ok (.irem, 1) := by decide +kernel
theorem dX6_findsOne_36 : decode cX6_findsOne 36 = .ok (.iload_n 3, 1) := by decide +kernel
theorem dX6_findsOne_37 : decode cX6_findsOne 37 = .ok (.if_icmp .eq 60, 3) := by decide +kernel
theorem dX6_findsOne_40 : decode cX6_findsOne 40 = .ok (.aload_n 0, 1) := by decide +kernel
theorem dX6_findsOne_41 : decode cX6_findsOne 41 = .ok (.getfield 34, 3) := by decide +kernel
theorem dX6_findsOne_44 : decode cX6_findsOne 44 = .ok (.aload_n 0, 1) := by decide +kernel
theorem dX6_findsOne_45 : decode cX6_findsOne 45 = .ok (.getfield 90, 3) := by decide +kernel
theorem dX6_findsOne_48 : decode cX6_findsOne 48 = .ok (.iconst 1, 1) := by decide +kernel
theorem dX6_findsOne_49 : decode cX6_findsOne 49 = .ok (.iadd, 1) := by decide +kernel
theorem dX6_findsOne_50 : decode cX6_findsOne 50 = .ok (.iload_n 2, 1) := by decide +kernel
theorem dX6_findsOne_51 : decode cX6_findsOne 51 = .ok (.iadd, 1) := by decide +kernel
theorem dX6_findsOne_52 : decode cX6_findsOne 52 = .ok (.iload_n 1, 1) := by decide +kernel
theorem dX6_findsOne_53 : decode cX6_findsOne 53 = .ok (.bipush 6, 2) := by decide +kernel
theorem dX6_findsOne_55 : decode cX6_findsOne 55 = .ok (.irem, 1) := by decide +kernel
theorem dX6_findsOne_56 : decode cX6_findsOne 56 = .ok (.iastore, 1) := by decide +kernel
theorem dX6_findsOne_57 : decode cX6_findsOne 57 = .ok (.aload_n 0, 1) := by decide +kernel
theorem dX6_findsOne_58 : decode cX6_findsOne 58 = .ok (.invokevirtual 145, 3) := by decide +kernel
theorem dX6_findsOne_61 : decode cX6_findsOne 61 = .ok (.ifCond .ne 7, 3) := by decide +kernel
theorem dX6_findsOne_64 : decode cX6_findsOne 64 = .ok (.iconst 1, 1) := by decide +kernel
theorem dX6_findsOne_65 : decode cX6_findsOne 65 = .ok (.goto 4, 3) := by decide +kernel
theorem dX6_findsOne_68 : decode cX6_findsOne 68 = .ok (.iconst 0, 1) := by decide +kernel
theorem dX6_findsOne_69 : decode cX6_findsOne 69 = .ok (.istore 4, 2) := by decide +kernel
theorem dX6_findsOne_71 : decode cX6_findsOne 71 = .ok (.aload_n 0, 1) := by decide +kernel
theorem dX6_findsOne_72 : decode cX6_findsOne 72 = .ok (.getfield 34, 3) := by decide +kernel
theorem dX6_findsOne_75 : decode cX6_findsOne 75 = .ok (.aload_n 0, 1) := by decide +kernel
theorem dX6_findsOne_76 : decode cX6_findsOne 76 = .ok (.getfield 90, 3) := by decide +kernel
theorem dX6_findsOne_79 : decode cX6_findsOne 79 = .ok (.iconst 1, 1) := by decide +kernel
theorem dX6_findsOne_80 : decode cX6_findsOne 80 = .ok (.iadd, 1) := by decide +kernel
theorem dX6_findsOne_81 : decode cX6_findsOne 81 = .ok (.iload_n 2, 1) := by decide +kernel
theorem dX6_findsOne_82 : decode cX6_findsOne 82 = .ok (.iadd, 1) := by decide +kernel
theorem dX6_findsOne_83 : decode cX6_findsOne 83 = .ok (.iload_n 3, 1) := by decide +kernel
theorem dX6_findsOne_84 : decode cX6_findsOne 84 = .ok (.iastore, 1) := by decide +kernel
theorem dX6_findsOne_85 : decode cX6_findsOne 85 = .ok (.iload 4, 2) := by decide +kernel
theorem dX6_findsOne_87 : decode cX6_findsOne 87 = .ok (.ifCond .eq 10, 3) := by decide +kernel
theorem dX6_findsOne_90 : decode cX6_findsOne 90 = .ok (.aload_n 0, 1) := by decide +kernel
theorem dX6_findsOne_91 : decode cX6_findsOne 91 = .ok (.iload_n 1, 1) := by decide +kernel
theorem dX6_findsOne_92 : decode cX6_findsOne 92 = .ok (.putfield 208, 3) := by decide +kernel
theorem dX6_findsOne_95 : decode cX6_findsOne 95 = .ok (.iconst 1, 1) := by decide +kernel
theorem dX6_findsOne_96 : decode cX6_findsOne 96 = .ok (.ireturn, 1) := by decide +kernel
theorem dX6_findsOne_97 : decode cX6_findsOne 97 = .ok (.iinc 1 1, 3) := by decide +kernel
theorem dX6_findsOne_100 : decode cX6_findsOne 100 = .ok (.goto (-98), 3) := by decide +kernel
theorem dX6_findsOne_103 : decode cX6_findsOne 103 = .ok (.iconst 0, 1) := by decide +kernel
theorem dX6_findsOne_104 : decode cX6_findsOne 104 = .ok (.ireturn, 1) := by decide +kernel
theorem dX6_findsBehind_0 : decode cX6_findsBehind 0 = .ok (.bipush 6, 2) := by decide +kernel
theorem dX6_findsBehind_2 : decode cX6_findsBehind 2 = .ok (.iload_n 1, 1) := by decide +kernel
theorem dX6_findsBehind_3 : decode cX6_findsBehind 3 = .ok (.iconst 1, 1) := by decide +kernel
theorem dX6_findsBehind_4 : decode cX6_findsBehind 4 = .ok (.iadd, 1) := by decide +kernel
theorem dX6_findsBehind_5 : decode cX6_findsBehind 5 = .ok (.imul, 1) := by decide +kernel
theorem dX6_findsBehind_6 : decode cX6_findsBehind 6 = .ok (.istore_n 2, 1) := by decide +kernel
theorem dX6_findsBehind_7 : decode cX6_findsBehind 7 = .ok (.iload_n 2, 1) := by decide +kernel
theorem dX6_findsBehind_8 : decode cX6_findsBehind 8 = .ok (.bipush 6, 2) := by decide +kernel
theorem dX6_findsBehind_10 : decode cX6_findsBehind 10 = .ok (.aload_n 0, 1) := by decide +kernel
theorem dX6_findsBehind_11 : decode cX6_findsBehind 11 = .ok (.getfield 83, 3) := by decide +kernel
theorem dX6_findsBehind_14 : decode cX6_findsBehind 14 = .ok (.imul, 1) := by decide +kernel
theorem dX6_findsBehind_15 : decode cX6_findsBehind 15 = .ok (.if_icmp .ge 96, 3) := by decide +kernel
theorem dX6_findsBehind_18 : decode cX6_findsBehind 18 = .ok (.iload_n 2, 1) := by decide +kernel
theorem dX6_findsBehind_19 : decode cX6_findsBehind 19 = .ok (.bipush 6, 2) := by decide +kernel
theorem dX6_findsBehind_21 : decode cX6_findsBehind 21 = .ok (.idiv, 1) := by decide +kernel
theorem dX6_findsBehind_22 : decode cX6_findsBehind 22 = .ok (.istore_n 3, 1) := by decide +kernel
theorem dX6_findsBehind_23 : decode cX6_findsBehind 23 = .ok (.aload_n 0, 1) := by decide +kernel
theorem dX6_findsBehind_24 : decode cX6_findsBehind 24 = .ok (.iload_n 3, 1) := by decide +kernel
theorem dX6_findsBehind_25 : decode cX6_findsBehind 25 = .ok (.invokevirtual 93, 3) := by decide +kernel
theorem dX6_findsBehind_28 : decode cX6_findsBehind 28 = .ok (.istore 4, 2) := by decide +kernel
theorem dX6_findsBehind_30 : decode cX6_findsBehind 30 = .ok (.aload_n 0, 1) := by decide +kernel
theorem dX6_findsBehind_31 : decode cX6_findsBehind 31 = .ok (.iload_n 3, 1) := by decide +kernel
theorem dX6_findsBehind_32 : decode cX6_findsBehind 32 = .ok (.invokevirtual 97, 3) := by decide +kernel
theorem dX6_findsBehind_35 : decode cX6_findsBehind 35 = .ok (.ifCond .eq 70, 3) := by decide +kernel
theorem dX6_findsBehind_38 : decode cX6_findsBehind 38 = .ok (.iload_n 2, 1) := by decide +kernel
theorem dX6_findsBehind_39 : decode cX6_findsBehind 39 = .ok (.bipush 6, 2) := by decide +kernel
theorem dX6_findsBehind_41 : decode cX6_findsBehind 41 = .ok (.irem, 1) := by decide +kernel
theorem dX6_findsBehind_42 : decode cX6_findsBehind 42 = .ok (.iload 4, 2) := by decide +kernel
theorem dX6_findsBehind_44 : decode cX6_findsBehind 44 = .ok (.if_icmp .eq 61, 3) := by decide +kernel
theorem dX6_findsBehind_47 : decode cX6_findsBehind 47 = .ok (.aload_n 0, 1) := by decide +kernel
theorem dX6_findsBehind_48 : decode cX6_findsBehind 48 = .ok (.getfield 34, 3) := by decide +kernel
theorem dX6_findsBehind_51 : decode cX6_findsBehind 51 = .ok (.aload_n 0, 1) := by decide +kernel
theorem dX6_findsBehind_52 : decode cX6_findsBehind 52 = .ok (.getfield 90, 3) := by decide +kernel
theorem dX6_findsBehind_55 : decode cX6_findsBehind 55 = .ok (.iconst 1, 1) := by decide +kernel
theorem dX6_findsBehind_56 : decode cX6_findsBehind 56 = .ok (.iadd, 1) := by decide +kernel
theorem dX6_findsBehind_57 : decode cX6_findsBehind 57 = .ok (.iload_n 3, 1) := by decide +kernel
theorem dX6_findsBehind_58 : decode cX6_findsBehind 58 = .ok (.iadd, 1) := by decide +kernel
theorem dX6_findsBehind_59 : decode cX6_findsBehind 59 = .ok (.iload_n 2, 1) := by decide +kernel
theorem dX6_findsBehind_60 : decode cX6_findsBehind 60 = .ok (.bipush 6, 2) := by decide +kernel
theorem dX6_findsBehind_62 : decode cX6_findsBehind 62 = .ok (.irem, 1) := by decide +kernel
theorem dX6_findsBehind_63 : decode cX6_findsBehind 63 = .ok (.iastore, 1) := by decide +kernel
theorem dX6_findsBehind_64 : decode cX6_findsBehind 64 = .ok (.aload_n 0, 1) := by decide +kernel
theorem dX6_findsBehind_65 : decode cX6_findsBehind 65 = .ok (.invokevirtual 145, 3) := by decide +kernel
theorem dX6_findsBehind_68 : decode cX6_findsBehind 68 = .ok (.ifCond .ne 7, 3) := by decide +kernel
theorem dX6_findsBehind_71 : decode cX6_findsBehind 71 = .ok (.iconst 1, 1) := by decide +kernel
theorem dX6_findsBehind_72 : decode cX6_findsBehind 72 = .ok (.goto 4, 3) := by decide +kernel
theorem dX6_findsBehind_75 : decode cX6_findsBehind 75 = .ok (.iconst 0, 1) := by decide +kernel
theorem dX6_findsBehind_76 : decode cX6_findsBehind 76 = .ok (.istore 5, 2) := by decide +kernel
theorem dX6_findsBehind_78 : decode cX6_findsBehind 78 = .ok (.aload_n 0, 1) := by decide +kernel
theorem dX6_findsBehind_79 : decode cX6_findsBehind 79 = .ok (.getfield 34, 3) := by decide +kernel
theorem dX6_findsBehind_82 : decode cX6_findsBehind 82 = .ok (.aload_n 0, 1) := by decide +kernel
theorem dX6_findsBehind_83 : decode cX6_findsBehind 83 = .ok (.getfield 90, 3) := by decide +kernel
theorem dX6_findsBehind_86 : decode cX6_findsBehind 86 = .ok (.iconst 1, 1) := by decide +kernel
