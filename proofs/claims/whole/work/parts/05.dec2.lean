theorem dX6_init_0 : decode cX6_init 0 = .ok (.aload_n 0, 1) := by decide +kernel
theorem dX6_init_1 : decode cX6_init 1 = .ok (.invokespecial 1, 3) := by decide +kernel
theorem dX6_init_4 : decode cX6_init 4 = .ok (.aload_n 0, 1) := by decide +kernel
theorem dX6_init_5 : decode cX6_init 5 = .ok (.bipush 80, 2) := by decide +kernel
theorem dX6_init_7 : decode cX6_init 7 = .ok (.newarray .int, 2) := by decide +kernel
theorem dX6_init_9 : decode cX6_init 9 = .ok (.putfield 7, 3) := by decide +kernel
theorem dX6_init_12 : decode cX6_init 12 = .ok (.aload_n 0, 1) := by decide +kernel
theorem dX6_init_13 : decode cX6_init 13 = .ok (.bipush 40, 2) := by decide +kernel
theorem dX6_init_15 : decode cX6_init 15 = .ok (.newarray .int, 2) := by decide +kernel
theorem dX6_init_17 : decode cX6_init 17 = .ok (.putfield 13, 3) := by decide +kernel
theorem dX6_init_20 : decode cX6_init 20 = .ok (.aload_n 0, 1) := by decide +kernel
theorem dX6_init_21 : decode cX6_init 21 = .ok (.bipush 40, 2) := by decide +kernel
theorem dX6_init_23 : decode cX6_init 23 = .ok (.newarray .int, 2) := by decide +kernel
theorem dX6_init_25 : decode cX6_init 25 = .ok (.putfield 16, 3) := by decide +kernel
theorem dX6_init_28 : decode cX6_init 28 = .ok (.aload_n 0, 1) := by decide +kernel
theorem dX6_init_29 : decode cX6_init 29 = .ok (.bipush 40, 2) := by decide +kernel
theorem dX6_init_31 : decode cX6_init 31 = .ok (.newarray .int, 2) := by decide +kernel
theorem dX6_init_33 : decode cX6_init 33 = .ok (.putfield 19, 3) := by decide +kernel
theorem dX6_init_36 : decode cX6_init 36 = .ok (.aload_n 0, 1) := by decide +kernel
theorem dX6_init_37 : decode cX6_init 37 = .ok (.bipush 40, 2) := by decide +kernel
theorem dX6_init_39 : decode cX6_init 39 = .ok (.newarray .int, 2) := by decide +kernel
theorem dX6_init_41 : decode cX6_init 41 = .ok (.putfield 22, 3) := by decide +kernel
theorem dX6_init_44 : decode cX6_init 44 = .ok (.aload_n 0, 1) := by decide +kernel
theorem dX6_init_45 : decode cX6_init 45 = .ok (.sipush 1600, 3) := by decide +kernel
theorem dX6_init_48 : decode cX6_init 48 = .ok (.newarray .int, 2) := by decide +kernel
theorem dX6_init_50 : decode cX6_init 50 = .ok (.putfield 25, 3) := by decide +kernel
theorem dX6_init_53 : decode cX6_init 53 = .ok (.aload_n 0, 1) := by decide +kernel
theorem dX6_init_54 : decode cX6_init 54 = .ok (.bipush 20, 2) := by decide +kernel
theorem dX6_init_56 : decode cX6_init 56 = .ok (.newarray .int, 2) := by decide +kernel
theorem dX6_init_58 : decode cX6_init 58 = .ok (.putfield 28, 3) := by decide +kernel
theorem dX6_init_61 : decode cX6_init 61 = .ok (.aload_n 0, 1) := by decide +kernel
theorem dX6_init_62 : decode cX6_init 62 = .ok (.sipush 480, 3) := by decide +kernel
theorem dX6_init_65 : decode cX6_init 65 = .ok (.newarray .int, 2) := by decide +kernel
theorem dX6_init_67 : decode cX6_init 67 = .ok (.putfield 31, 3) := by decide +kernel
theorem dX6_init_70 : decode cX6_init 70 = .ok (.aload_n 0, 1) := by decide +kernel
theorem dX6_init_71 : decode cX6_init 71 = .ok (.bipush 6, 2) := by decide +kernel
theorem dX6_init_73 : decode cX6_init 73 = .ok (.newarray .int, 2) := by decide +kernel
theorem dX6_init_75 : decode cX6_init 75 = .ok (.putfield 34, 3) := by decide +kernel
theorem dX6_init_78 : decode cX6_init 78 = .ok (.aload_n 0, 1) := by decide +kernel
theorem dX6_init_79 : decode cX6_init 79 = .ok (.bipush 6, 2) := by decide +kernel
theorem dX6_init_81 : decode cX6_init 81 = .ok (.newarray .int, 2) := by decide +kernel
theorem dX6_init_83 : decode cX6_init 83 = .ok (.putfield 37, 3) := by decide +kernel
theorem dX6_init_86 : decode cX6_init 86 = .ok (.aload_n 0, 1) := by decide +kernel
theorem dX6_init_87 : decode cX6_init 87 = .ok (.bipush 20, 2) := by decide +kernel
theorem dX6_init_89 : decode cX6_init 89 = .ok (.putfield 40, 3) := by decide +kernel
theorem dX6_init_92 : decode cX6_init 92 = .ok (.aload_n 0, 1) := by decide +kernel
theorem dX6_init_93 : decode cX6_init 93 = .ok (.sipush 24000, 3) := by decide +kernel
theorem dX6_init_96 : decode cX6_init 96 = .ok (.newarray .int, 2) := by decide +kernel
theorem dX6_init_98 : decode cX6_init 98 = .ok (.putfield 44, 3) := by decide +kernel
theorem dX6_init_101 : decode cX6_init 101 = .ok (.aload_n 0, 1) := by decide +kernel
theorem dX6_init_102 : decode cX6_init 102 = .ok (.sipush 600, 3) := by decide +kernel
theorem dX6_init_105 : decode cX6_init 105 = .ok (.newarray .int, 2) := by decide +kernel
theorem dX6_init_107 : decode cX6_init 107 = .ok (.putfield 47, 3) := by decide +kernel
theorem dX6_init_110 : decode cX6_init 110 = .ok (.aload_n 0, 1) := by decide +kernel
theorem dX6_init_111 : decode cX6_init 111 = .ok (.bipush 6, 2) := by decide +kernel
theorem dX6_init_113 : decode cX6_init 113 = .ok (.newarray .int, 2) := by decide +kernel
theorem dX6_init_115 : decode cX6_init 115 = .ok (.putfield 50, 3) := by decide +kernel
theorem dX6_init_118 : decode cX6_init 118 = .ok (.aload_n 0, 1) := by decide +kernel
theorem dX6_init_119 : decode cX6_init 119 = .ok (.sipush 480, 3) := by decide +kernel
theorem dX6_init_122 : decode cX6_init 122 = .ok (.newarray .int, 2) := by decide +kernel
theorem dX6_init_124 : decode cX6_init 124 = .ok (.putfield 53, 3) := by decide +kernel
theorem dX6_init_127 : decode cX6_init 127 = .ok (.aload_n 0, 1) := by decide +kernel
theorem dX6_init_128 : decode cX6_init 128 = .ok (.sipush 5000, 3) := by decide +kernel
theorem dX6_init_131 : decode cX6_init 131 = .ok (.putfield 56, 3) := by decide +kernel
theorem dX6_init_134 : decode cX6_init 134 = .ok (.aload_n 0, 1) := by decide +kernel
theorem dX6_init_135 : decode cX6_init 135 = .ok (.bipush 6, 2) := by decide +kernel
theorem dX6_init_137 : decode cX6_init 137 = .ok (.newarray .int, 2) := by decide +kernel
theorem dX6_init_139 : decode cX6_init 139 = .ok (.putfield 59, 3) := by decide +kernel
theorem dX6_init_142 : decode cX6_init 142 = .ok (.aload_n 0, 1) := by decide +kernel
theorem dX6_init_143 : decode cX6_init 143 = .ok (.sipush 160, 3) := by decide +kernel
theorem dX6_init_146 : decode cX6_init 146 = .ok (.newarray .int, 2) := by decide +kernel
theorem dX6_init_148 : decode cX6_init 148 = .ok (.putfield 62, 3) := by decide +kernel
theorem dX6_init_151 : decode cX6_init 151 = .ok (.aload_n 0, 1) := by decide +kernel
theorem dX6_init_152 : decode cX6_init 152 = .ok (.sipush 1600, 3) := by decide +kernel
theorem dX6_init_155 : decode cX6_init 155 = .ok (.newarray .int, 2) := by decide +kernel
theorem dX6_init_157 : decode cX6_init 157 = .ok (.putfield 65, 3) := by decide +kernel
theorem dX6_init_160 : decode cX6_init 160 = .ok (.aload_n 0, 1) := by decide +kernel
theorem dX6_init_161 : decode cX6_init 161 = .ok (.sipush 4000, 3) := by decide +kernel
theorem dX6_init_164 : decode cX6_init 164 = .ok (.newarray .int, 2) := by decide +kernel
theorem dX6_init_166 : decode cX6_init 166 = .ok (.putfield 68, 3) := by decide +kernel
theorem dX6_init_169 : decode cX6_init 169 = .ok (.aload_n 0, 1) := by decide +kernel
theorem dX6_init_170 : decode cX6_init 170 = .ok (.bipush 100, 2) := by decide +kernel
theorem dX6_init_172 : decode cX6_init 172 = .ok (.newarray .int, 2) := by decide +kernel
theorem dX6_init_174 : decode cX6_init 174 = .ok (.putfield 71, 3) := by decide +kernel
theorem dX6_init_177 : decode cX6_init 177 = .ok (.return_, 1) := by decide +kernel
theorem dX6_thrown_0 : decode cX6_thrown 0 = .ok (.aload_n 0, 1) := by decide +kernel
theorem dX6_thrown_1 : decode cX6_thrown 1 = .ok (.getfield 74, 3) := by decide +kernel
theorem dX6_thrown_4 : decode cX6_thrown 4 = .ok (.ireturn, 1) := by decide +kernel
theorem dX6_in_0 : decode cX6_in 0 = .ok (.iload_n 0, 1) := by decide +kernel
theorem dX6_in_1 : decode cX6_in 1 = .ok (.iload_n 1, 1) := by decide +kernel
theorem dX6_in_2 : decode cX6_in 2 = .ok (.if_icmp .lt 12, 3) := by decide +kernel
theorem dX6_in_5 : decode cX6_in 5 = .ok (.iload_n 0, 1) := by decide +kernel
theorem dX6_in_6 : decode cX6_in 6 = .ok (.iload_n 2, 1) := by decide +kernel
theorem dX6_in_7 : decode cX6_in 7 = .ok (.if_icmp .gt 7, 3) := by decide +kernel
theorem dX6_in_10 : decode cX6_in 10 = .ok (.iconst 1, 1) := by decide +kernel
theorem dX6_in_11 : decode cX6_in 11 = .ok (.goto 4, 3) := by decide +kernel
theorem dX6_in_14 : decode cX6_in 14 = .ok (.iconst 0, 1) := by decide +kernel
theorem dX6_in_15 : decode cX6_in 15 = .ok (.ireturn, 1) := by decide +kernel
theorem dX6_goesOn_0 : decode cX6_goesOn 0 = .ok (.aload_n 0, 1) := by decide +kernel
theorem dX6_goesOn_1 : decode cX6_goesOn 1 = .ok (.iload_n 1, 1) := by decide +kernel
theorem dX6_goesOn_2 : decode cX6_goesOn 2 = .ok (.putfield 74, 3) := by decide +kernel
theorem dX6_goesOn_5 : decode cX6_goesOn 5 = .ok (.iload_n 1, 1) := by decide +kernel
theorem dX6_goesOn_6 : decode cX6_goesOn 6 = .ok (.ifCond .ne 7, 3) := by decide +kernel
theorem dX6_goesOn_9 : decode cX6_goesOn 9 = .ok (.iconst 1, 1) := by decide +kernel
theorem dX6_goesOn_10 : decode cX6_goesOn 10 = .ok (.goto 4, 3) := by decide +kernel
theorem dX6_goesOn_13 : decode cX6_goesOn 13 = .ok (.iconst 0, 1) := by decide +kernel
theorem dX6_goesOn_14 : decode cX6_goesOn 14 = .ok (.ireturn, 1) := by decide +kernel
theorem dX6_type_0 : decode cX6_type 0 = .ok (.iload_n 1, 1) := by decide +kernel
theorem dX6_type_1 : decode cX6_type 1 = .ok (.bipush 32, 2) := by decide +kernel
theorem dX6_type_3 : decode cX6_type 3 = .ok (.if_icmp .eq 14, 3) := by decide +kernel
theorem dX6_type_6 : decode cX6_type 6 = .ok (.iload_n 1, 1) := by decide +kernel
theorem dX6_type_7 : decode cX6_type 7 = .ok (.bipush 97, 2) := by decide +kernel
theorem dX6_type_9 : decode cX6_type 9 = .ok (.bipush 122, 2) := by decide +kernel
theorem dX6_type_11 : decode cX6_type 11 = .ok (.invokestatic 77, 3) := by decide +kernel
theorem dX6_type_14 : decode cX6_type 14 = .ok (.ifCond .eq 7, 3) := by decide +kernel
theorem dX6_type_17 : decode cX6_type 17 = .ok (.iconst 1, 1) := by decide +kernel
theorem dX6_type_18 : decode cX6_type 18 = .ok (.goto 4, 3) := by decide +kernel
theorem dX6_type_21 : decode cX6_type 21 = .ok (.iconst 0, 1) := by decide +kernel
theorem dX6_type_22 : decode cX6_type 22 = .ok (.istore_n 2, 1) := by decide +kernel
theorem dX6_type_23 : decode cX6_type 23 = .ok (.aload_n 0, 1) := by decide +kernel
theorem dX6_type_24 : decode cX6_type 24 = .ok (.iload_n 2, 1) := by decide +kernel
theorem dX6_type_25 : decode cX6_type 25 = .ok (.ifCond .ne 7, 3) := by decide +kernel
theorem dX6_type_28 : decode cX6_type 28 = .ok (.iconst 1, 1) := by decide +kernel
theorem dX6_type_29 : decode cX6_type 29 = .ok (.goto 17, 3) := by decide +kernel
theorem dX6_type_32 : decode cX6_type 32 = .ok (.aload_n 0, 1) := by decide +kernel
theorem dX6_type_33 : decode cX6_type 33 = .ok (.getfield 81, 3) := by decide +kernel
theorem dX6_type_36 : decode cX6_type 36 = .ok (.bipush 80, 2) := by decide +kernel
theorem dX6_type_38 : decode cX6_type 38 = .ok (.if_icmp .ne 7, 3) := by decide +kernel
theorem dX6_type_41 : decode cX6_type 41 = .ok (.iconst 2, 1) := by decide +kernel
theorem dX6_type_42 : decode cX6_type 42 = .ok (.goto 4, 3) := by decide +kernel
theorem dX6_type_45 : decode cX6_type 45 = .ok (.iconst 0, 1) := by decide +kernel
theorem dX6_type_46 : decode cX6_type 46 = .ok (.invokevirtual 84, 3) := by decide +kernel
theorem dX6_type_49 : decode cX6_type 49 = .ok (.ifCond .ne 5, 3) := by decide +kernel
theorem dX6_type_52 : decode cX6_type 52 = .ok (.iconst 0, 1) := by decide +kernel
theorem dX6_type_53 : decode cX6_type 53 = .ok (.ireturn, 1) := by decide +kernel
theorem dX6_type_54 : decode cX6_type 54 = .ok (.aload_n 0, 1) := by decide +kernel
theorem dX6_type_55 : decode cX6_type 55 = .ok (.getfield 7, 3) := by decide +kernel
theorem dX6_type_58 : decode cX6_type 58 = .ok (.aload_n 0, 1) := by decide +kernel
theorem dX6_type_59 : decode cX6_type 59 = .ok (.getfield 81, 3) := by decide +kernel
theorem dX6_type_62 : decode cX6_type 62 = .ok (.iload_n 1, 1) := by decide +kernel
theorem dX6_type_63 : decode cX6_type 63 = .ok (.bipush 32, 2) := by decide +kernel
theorem dX6_type_65 : decode cX6_type 65 = .ok (.if_icmp .ne 7, 3) := by decide +kernel
theorem dX6_type_68 : decode cX6_type 68 = .ok (.iconst 0, 1) := by decide +kernel
theorem dX6_type_69 : decode cX6_type 69 = .ok (.goto 9, 3) := by decide +kernel
theorem dX6_type_72 : decode cX6_type 72 = .ok (.iload_n 1, 1) := by decide +kernel
theorem dX6_type_73 : decode cX6_type 73 = .ok (.bipush 97, 2) := by decide +kernel
theorem dX6_type_75 : decode cX6_type 75 = .ok (.isub, 1) := by decide +kernel
theorem dX6_type_76 : decode cX6_type 76 = .ok (.iconst 1, 1) := by decide +kernel
theorem dX6_type_77 : decode cX6_type 77 = .ok (.iadd, 1) := by decide +kernel
theorem dX6_type_78 : decode cX6_type 78 = .ok (.iastore, 1) := by decide +kernel
theorem dX6_type_79 : decode cX6_type 79 = .ok (.aload_n 0, 1) := by decide +kernel
theorem dX6_type_80 : decode cX6_type 80 = .ok (.dup, 1) := by decide +kernel
theorem dX6_type_81 : decode cX6_type 81 = .ok (.getfield 81, 3) := by decide +kernel
theorem dX6_type_84 : decode cX6_type 84 = .ok (.iconst 1, 1) := by decide +kernel
theorem dX6_type_85 : decode cX6_type 85 = .ok (.iadd, 1) := by decide +kernel
theorem dX6_type_86 : decode cX6_type 86 = .ok (.putfield 81, 3) := by decide +kernel
theorem dX6_type_89 : decode cX6_type 89 = .ok (.aload_n 0, 1) := by decide +kernel
theorem dX6_type_90 : decode cX6_type 90 = .ok (.getfield 81, 3) := by decide +kernel
theorem dX6_type_93 : decode cX6_type 93 = .ok (.ireturn, 1) := by decide +kernel
theorem dX6_clear_0 : decode cX6_clear 0 = .ok (.aload_n 0, 1) := by decide +kernel
theorem dX6_clear_1 : decode cX6_clear 1 = .ok (.iconst 0, 1) := by decide +kernel
theorem dX6_clear_2 : decode cX6_clear 2 = .ok (.putfield 74, 3) := by decide +kernel
theorem dX6_clear_5 : decode cX6_clear 5 = .ok (.aload_n 0, 1) := by decide +kernel
theorem dX6_clear_6 : decode cX6_clear 6 = .ok (.getfield 81, 3) := by decide +kernel
theorem dX6_clear_9 : decode cX6_clear 9 = .ok (.istore_n 1, 1) := by decide +kernel
theorem dX6_clear_10 : decode cX6_clear 10 = .ok (.aload_n 0, 1) := by decide +kernel
theorem dX6_clear_11 : decode cX6_clear 11 = .ok (.iconst 0, 1) := by decide +kernel
theorem dX6_clear_12 : decode cX6_clear 12 = .ok (.putfield 81, 3) := by decide +kernel
theorem dX6_clear_15 : decode cX6_clear 15 = .ok (.iload_n 1, 1) := by decide +kernel
theorem dX6_clear_16 : decode cX6_clear 16 = .ok (.ireturn, 1) := by decide +kernel
theorem dX6_hasBlank_0 : decode cX6_hasBlank 0 = .ok (.iconst 0, 1) := by decide +kernel
theorem dX6_hasBlank_1 : decode cX6_hasBlank 1 = .ok (.istore_n 1, 1) := by decide +kernel
theorem dX6_hasBlank_2 : decode cX6_hasBlank 2 = .ok (.iconst 0, 1) := by decide +kernel
theorem dX6_hasBlank_3 : decode cX6_hasBlank 3 = .ok (.istore_n 2, 1) := by decide +kernel
theorem dX6_hasBlank_4 : decode cX6_hasBlank 4 = .ok (.iload_n 2, 1) := by decide +kernel
theorem dX6_hasBlank_5 : decode cX6_hasBlank 5 = .ok (.aload_n 0, 1) := by decide +kernel
theorem dX6_hasBlank_6 : decode cX6_hasBlank 6 = .ok (.getfield 81, 3) := by decide +kernel
theorem dX6_hasBlank_9 : decode cX6_hasBlank 9 = .ok (.if_icmp .ge 28, 3) := by decide +kernel
theorem dX6_hasBlank_12 : decode cX6_hasBlank 12 = .ok (.iload_n 1, 1) := by decide +kernel
theorem dX6_hasBlank_13 : decode cX6_hasBlank 13 = .ok (.ifCond .ne 12, 3) := by decide +kernel
theorem dX6_hasBlank_16 : decode cX6_hasBlank 16 = .ok (.aload_n 0, 1) := by decide +kernel
theorem dX6_hasBlank_17 : decode cX6_hasBlank 17 = .ok (.getfield 7, 3) := by decide +kernel
theorem dX6_hasBlank_20 : decode cX6_hasBlank 20 = .ok (.iload_n 2, 1) := by decide +kernel
theorem dX6_hasBlank_21 : decode cX6_hasBlank 21 = .ok (.iaload, 1) := by decide +kernel
theorem dX6_hasBlank_22 : decode cX6_hasBlank 22 = .ok (.ifCond .ne 7, 3) := by decide +kernel
theorem dX6_hasBlank_25 : decode cX6_hasBlank 25 = .ok (.iconst 1, 1) := by decide +kernel
theorem dX6_hasBlank_26 : decode cX6_hasBlank 26 = .ok (.goto 4, 3) := by decide +kernel
theorem dX6_hasBlank_29 : decode cX6_hasBlank 29 = .ok (.iconst 0, 1) := by decide +kernel
theorem dX6_hasBlank_30 : decode cX6_hasBlank 30 = .ok (.istore_n 1, 1) := by decide +kernel
theorem dX6_hasBlank_31 : decode cX6_hasBlank 31 = .ok (.iinc 2 1, 3) := by decide +kernel
theorem dX6_hasBlank_34 : decode cX6_hasBlank 34 = .ok (.goto (-30), 3) := by decide +kernel
theorem dX6_hasBlank_37 : decode cX6_hasBlank 37 = .ok (.iload_n 1, 1) := by decide +kernel
theorem dX6_hasBlank_38 : decode cX6_hasBlank 38 = .ok (.ireturn, 1) := by decide +kernel
theorem dX6_ruleLetters_0 : decode cX6_ruleLetters 0 = .ok (.aload_n 0, 1) := by decide +kernel
theorem dX6_ruleLetters_1 : decode cX6_ruleLetters 1 = .ok (.getfield 81, 3) := by decide +kernel
theorem dX6_ruleLetters_4 : decode cX6_ruleLetters 4 = .ok (.iconst 1, 1) := by decide +kernel
theorem dX6_ruleLetters_5 : decode cX6_ruleLetters 5 = .ok (.iconst 4, 1) := by decide +kernel
theorem dX6_ruleLetters_6 : decode cX6_ruleLetters 6 = .ok (.invokestatic 77, 3) := by decide +kernel
theorem dX6_ruleLetters_9 : decode cX6_ruleLetters 9 = .ok (.ifCond .eq 10, 3) := by decide +kernel
theorem dX6_ruleLetters_12 : decode cX6_ruleLetters 12 = .ok (.aload_n 0, 1) := by decide +kernel
theorem dX6_ruleLetters_13 : decode cX6_ruleLetters 13 = .ok (.invokevirtual 88, 3) := by decide +kernel
theorem dX6_ruleLetters_16 : decode cX6_ruleLetters 16 = .ok (.ifCond .eq 5, 3) := by decide +kernel
theorem dX6_ruleLetters_19 : decode cX6_ruleLetters 19 = .ok (.iconst (-1), 1) := by decide +kernel
theorem dX6_ruleLetters_20 : decode cX6_ruleLetters 20 = .ok (.ireturn, 1) := by decide +kernel
theorem dX6_ruleLetters_21 : decode cX6_ruleLetters 21 = .ok (.iconst 0, 1) := by decide +kernel
theorem dX6_ruleLetters_22 : decode cX6_ruleLetters 22 = .ok (.istore_n 1, 1) := by decide +kernel
theorem dX6_ruleLetters_23 : decode cX6_ruleLetters 23 = .ok (.iconst 0, 1) := by decide +kernel
theorem dX6_ruleLetters_24 : decode cX6_ruleLetters 24 = .ok (.istore_n 2, 1) := by decide +kernel
theorem dX6_ruleLetters_25 : decode cX6_ruleLetters 25 = .ok (.iload_n 2, 1) := by decide +kernel
theorem dX6_ruleLetters_26 : decode cX6_ruleLetters 26 = .ok (.iconst 4, 1) := by decide +kernel
theorem dX6_ruleLetters_27 : decode cX6_ruleLetters 27 = .ok (.if_icmp .ge 33, 3) := by decide +kernel
theorem dX6_ruleLetters_30 : decode cX6_ruleLetters 30 = .ok (.bipush 27, 2) := by decide +kernel
theorem dX6_ruleLetters_32 : decode cX6_ruleLetters 32 = .ok (.iload_n 1, 1) := by decide +kernel
theorem dX6_ruleLetters_33 : decode cX6_ruleLetters 33 = .ok (.imul, 1) := by decide +kernel
theorem dX6_ruleLetters_34 : decode cX6_ruleLetters 34 = .ok (.iload_n 2, 1) := by decide +kernel
theorem dX6_ruleLetters_35 : decode cX6_ruleLetters 35 = .ok (.aload_n 0, 1) := by decide +kernel
theorem dX6_ruleLetters_36 : decode cX6_ruleLetters 36 = .ok (.getfield 81, 3) := by decide +kernel
theorem dX6_ruleLetters_39 : decode cX6_ruleLetters 39 = .ok (.if_icmp .ge 12, 3) := by decide +kernel
theorem dX6_ruleLetters_42 : decode cX6_ruleLetters 42 = .ok (.aload_n 0, 1) := by decide +kernel
theorem dX6_ruleLetters_43 : decode cX6_ruleLetters 43 = .ok (.getfield 7, 3) := by decide +kernel
theorem dX6_ruleLetters_46 : decode cX6_ruleLetters 46 = .ok (.iload_n 2, 1) := by decide +kernel
theorem dX6_ruleLetters_47 : decode cX6_ruleLetters 47 = .ok (.iaload, 1) := by decide +kernel
theorem dX6_ruleLetters_48 : decode cX6_ruleLetters 48 = .ok (.goto 4, 3) := by decide +kernel
theorem dX6_ruleLetters_51 : decode cX6_ruleLetters 51 = .ok (.iconst 0, 1) := by decide +kernel
theorem dX6_ruleLetters_52 : decode cX6_ruleLetters 52 = .ok (.iadd, 1) := by decide +kernel
theorem dX6_ruleLetters_53 : decode cX6_ruleLetters 53 = .ok (.istore_n 1, 1) := by decide +kernel
theorem dX6_ruleLetters_54 : decode cX6_ruleLetters 54 = .ok (.iinc 2 1, 3) := by decide +kernel
theorem dX6_ruleLetters_57 : decode cX6_ruleLetters 57 = .ok (.goto (-32), 3) := by decide +kernel
theorem dX6_ruleLetters_60 : decode cX6_ruleLetters 60 = .ok (.iload_n 1, 1) := by decide +kernel
theorem dX6_ruleLetters_61 : decode cX6_ruleLetters 61 = .ok (.ireturn, 1) := by decide +kernel
theorem dX6_power_0 : decode cX6_power 0 = .ok (.iload_n 0, 1) := by decide +kernel
theorem dX6_power_1 : decode cX6_power 1 = .ok (.ifCond .ne 9, 3) := by decide +kernel
theorem dX6_power_4 : decode cX6_power 4 = .ok (.sipush 19683, 3) := by decide +kernel
theorem dX6_power_7 : decode cX6_power 7 = .ok (.goto 25, 3) := by decide +kernel
theorem dX6_power_10 : decode cX6_power 10 = .ok (.iload_n 0, 1) := by decide +kernel
theorem dX6_power_11 : decode cX6_power 11 = .ok (.iconst 1, 1) := by decide +kernel
theorem dX6_power_12 : decode cX6_power 12 = .ok (.if_icmp .ne 9, 3) := by decide +kernel
theorem dX6_power_15 : decode cX6_power 15 = .ok (.sipush 729, 3) := by decide +kernel
theorem dX6_power_18 : decode cX6_power 18 = .ok (.goto 14, 3) := by decide +kernel
theorem dX6_power_21 : decode cX6_power 21 = .ok (.iload_n 0, 1) := by decide +kernel
theorem dX6_power_22 : decode cX6_power 22 = .ok (.iconst 2, 1) := by decide +kernel
theorem dX6_power_23 : decode cX6_power 23 = .ok (.if_icmp .ne 8, 3) := by decide +kernel
theorem dX6_power_26 : decode cX6_power 26 = .ok (.bipush 27, 2) := by decide +kernel
theorem dX6_power_28 : decode cX6_power 28 = .ok (.goto 4, 3) := by decide +kernel
theorem dX6_power_31 : decode cX6_power 31 = .ok (.iconst 1, 1) := by decide +kernel
theorem dX6_power_32 : decode cX6_power 32 = .ok (.ireturn, 1) := by decide +kernel
theorem dX6_letterOf_0 : decode cX6_letterOf 0 = .ok (.aload_n 0, 1) := by decide +kernel
theorem dX6_letterOf_1 : decode cX6_letterOf 1 = .ok (.getfield 13, 3) := by decide +kernel
theorem dX6_letterOf_4 : decode cX6_letterOf 4 = .ok (.iload_n 1, 1) := by decide +kernel
theorem dX6_letterOf_5 : decode cX6_letterOf 5 = .ok (.iaload, 1) := by decide +kernel
theorem dX6_letterOf_6 : decode cX6_letterOf 6 = .ok (.iload_n 2, 1) := by decide +kernel
theorem dX6_letterOf_7 : decode cX6_letterOf 7 = .ok (.invokestatic 92, 3) := by decide +kernel
theorem dX6_letterOf_10 : decode cX6_letterOf 10 = .ok (.idiv, 1) := by decide +kernel
theorem dX6_letterOf_11 : decode cX6_letterOf 11 = .ok (.bipush 27, 2) := by decide +kernel
theorem dX6_letterOf_13 : decode cX6_letterOf 13 = .ok (.irem, 1) := by decide +kernel
theorem dX6_letterOf_14 : decode cX6_letterOf 14 = .ok (.ireturn, 1) := by decide +kernel
theorem dX6_lengthOf_0 : decode cX6_lengthOf 0 = .ok (.iconst 0, 1) := by decide +kernel
theorem dX6_lengthOf_1 : decode cX6_lengthOf 1 = .ok (.istore_n 2, 1) := by decide +kernel
theorem dX6_lengthOf_2 : decode cX6_lengthOf 2 = .ok (.iconst 0, 1) := by decide +kernel
theorem dX6_lengthOf_3 : decode cX6_lengthOf 3 = .ok (.istore_n 3, 1) := by decide +kernel
theorem dX6_lengthOf_4 : decode cX6_lengthOf 4 = .ok (.iload_n 3, 1) := by decide +kernel
theorem dX6_lengthOf_5 : decode cX6_lengthOf 5 = .ok (.iconst 4, 1) := by decide +kernel
theorem dX6_lengthOf_6 : decode cX6_lengthOf 6 = .ok (.if_icmp .ge 26, 3) := by decide +kernel
theorem dX6_lengthOf_9 : decode cX6_lengthOf 9 = .ok (.iload_n 2, 1) := by decide +kernel
theorem dX6_lengthOf_10 : decode cX6_lengthOf 10 = .ok (.aload_n 0, 1) := by decide +kernel
theorem dX6_lengthOf_11 : decode cX6_lengthOf 11 = .ok (.iload_n 1, 1) := by decide +kernel
theorem dX6_lengthOf_12 : decode cX6_lengthOf 12 = .ok (.iload_n 3, 1) := by decide +kernel
theorem dX6_lengthOf_13 : decode cX6_lengthOf 13 = .ok (.invokevirtual 96, 3) := by decide +kernel
theorem dX6_lengthOf_16 : decode cX6_lengthOf 16 = .ok (.ifCond .le 7, 3) := by decide +kernel
theorem dX6_lengthOf_19 : decode cX6_lengthOf 19 = .ok (.iconst 1, 1) := by decide +kernel
theorem dX6_lengthOf_20 : decode cX6_lengthOf 20 = .ok (.goto 4, 3) := by decide +kernel
theorem dX6_lengthOf_23 : decode cX6_lengthOf 23 = .ok (.iconst 0, 1) := by decide +kernel
theorem dX6_lengthOf_24 : decode cX6_lengthOf 24 = .ok (.iadd, 1) := by decide +kernel
theorem dX6_lengthOf_25 : decode cX6_lengthOf 25 = .ok (.istore_n 2, 1) := by decide +kernel
theorem dX6_lengthOf_26 : decode cX6_lengthOf 26 = .ok (.iinc 3 1, 3) := by decide +kernel
theorem dX6_lengthOf_29 : decode cX6_lengthOf 29 = .ok (.goto (-25), 3) := by decide +kernel
theorem dX6_lengthOf_32 : decode cX6_lengthOf 32 = .ok (.iload_n 2, 1) := by decide +kernel
theorem dX6_lengthOf_33 : decode cX6_lengthOf 33 = .ok (.ireturn, 1) := by decide +kernel
theorem dX6_ruleOf_0 : decode cX6_ruleOf 0 = .ok (.iconst (-1), 1) := by decide +kernel
theorem dX6_ruleOf_1 : decode cX6_ruleOf 1 = .ok (.istore_n 2, 1) := by decide +kernel
theorem dX6_ruleOf_2 : decode cX6_ruleOf 2 = .ok (.iconst 0, 1) := by decide +kernel
theorem dX6_ruleOf_3 : decode cX6_ruleOf 3 = .ok (.istore_n 3, 1) := by decide +kernel
theorem dX6_ruleOf_4 : decode cX6_ruleOf 4 = .ok (.iload_n 3, 1) := by decide +kernel
theorem dX6_ruleOf_5 : decode cX6_ruleOf 5 = .ok (.aload_n 0, 1) := by decide +kernel
theorem dX6_ruleOf_6 : decode cX6_ruleOf 6 = .ok (.getfield 100, 3) := by decide +kernel
theorem dX6_ruleOf_9 : decode cX6_ruleOf 9 = .ok (.if_icmp .ge 25, 3) := by decide +kernel
theorem dX6_ruleOf_12 : decode cX6_ruleOf 12 = .ok (.aload_n 0, 1) := by decide +kernel
theorem dX6_ruleOf_13 : decode cX6_ruleOf 13 = .ok (.getfield 13, 3) := by decide +kernel
theorem dX6_ruleOf_16 : decode cX6_ruleOf 16 = .ok (.iload_n 3, 1) := by decide +kernel
theorem dX6_ruleOf_17 : decode cX6_ruleOf 17 = .ok (.iaload, 1) := by decide +kernel
theorem dX6_ruleOf_18 : decode cX6_ruleOf 18 = .ok (.iload_n 1, 1) := by decide +kernel
theorem dX6_ruleOf_19 : decode cX6_ruleOf 19 = .ok (.if_icmp .ne 7, 3) := by decide +kernel
theorem dX6_ruleOf_22 : decode cX6_ruleOf 22 = .ok (.iload_n 3, 1) := by decide +kernel
theorem dX6_ruleOf_23 : decode cX6_ruleOf 23 = .ok (.goto 4, 3) := by decide +kernel
theorem dX6_ruleOf_26 : decode cX6_ruleOf 26 = .ok (.iload_n 2, 1) := by decide +kernel
theorem dX6_ruleOf_27 : decode cX6_ruleOf 27 = .ok (.istore_n 2, 1) := by decide +kernel
theorem dX6_ruleOf_28 : decode cX6_ruleOf 28 = .ok (.iinc 3 1, 3) := by decide +kernel
theorem dX6_ruleOf_31 : decode cX6_ruleOf 31 = .ok (.goto (-27), 3) := by decide +kernel
theorem dX6_ruleOf_34 : decode cX6_ruleOf 34 = .ok (.iload_n 2, 1) := by decide +kernel
theorem dX6_ruleOf_35 : decode cX6_ruleOf 35 = .ok (.ireturn, 1) := by decide +kernel
theorem dX6_areFine_0 : decode cX6_areFine 0 = .ok (.iload_n 0, 1) := by decide +kernel
theorem dX6_areFine_1 : decode cX6_areFine 1 = .ok (.iconst 1, 1) := by decide +kernel
theorem dX6_areFine_2 : decode cX6_areFine 2 = .ok (.iconst 2, 1) := by decide +kernel
theorem dX6_areFine_3 : decode cX6_areFine 3 = .ok (.invokestatic 77, 3) := by decide +kernel
theorem dX6_areFine_6 : decode cX6_areFine 6 = .ok (.ifCond .eq 27, 3) := by decide +kernel
theorem dX6_areFine_9 : decode cX6_areFine 9 = .ok (.iload_n 1, 1) := by decide +kernel
theorem dX6_areFine_10 : decode cX6_areFine 10 = .ok (.iconst 1, 1) := by decide +kernel
theorem dX6_areFine_11 : decode cX6_areFine 11 = .ok (.bipush 63, 2) := by decide +kernel
theorem dX6_areFine_13 : decode cX6_areFine 13 = .ok (.invokestatic 77, 3) := by decide +kernel
theorem dX6_areFine_16 : decode cX6_areFine 16 = .ok (.ifCond .eq 17, 3) := by decide +kernel
theorem dX6_areFine_19 : decode cX6_areFine 19 = .ok (.iload_n 2, 1) := by decide +kernel
theorem dX6_areFine_20 : decode cX6_areFine 20 = .ok (.iconst 0, 1) := by decide +kernel
theorem dX6_areFine_21 : decode cX6_areFine 21 = .ok (.bipush 63, 2) := by decide +kernel
theorem dX6_areFine_23 : decode cX6_areFine 23 = .ok (.invokestatic 77, 3) := by decide +kernel
theorem dX6_areFine_26 : decode cX6_areFine 26 = .ok (.ifCond .eq 7, 3) := by decide +kernel
theorem dX6_areFine_29 : decode cX6_areFine 29 = .ok (.iconst 1, 1) := by decide +kernel
theorem dX6_areFine_30 : decode cX6_areFine 30 = .ok (.goto 4, 3) := by decide +kernel
theorem dX6_areFine_33 : decode cX6_areFine 33 = .ok (.iconst 0, 1) := by decide +kernel
theorem dX6_areFine_34 : decode cX6_areFine 34 = .ok (.ireturn, 1) := by decide +kernel
theorem dX6_moves_0 : decode cX6_moves 0 = .ok (.aload_n 0, 1) := by decide +kernel
theorem dX6_moves_1 : decode cX6_moves 1 = .ok (.getfield 13, 3) := by decide +kernel
theorem dX6_moves_4 : decode cX6_moves 4 = .ok (.iload_n 2, 1) := by decide +kernel
theorem dX6_moves_5 : decode cX6_moves 5 = .ok (.aload_n 0, 1) := by decide +kernel
theorem dX6_moves_6 : decode cX6_moves 6 = .ok (.getfield 13, 3) := by decide +kernel
theorem dX6_moves_9 : decode cX6_moves 9 = .ok (.iload_n 1, 1) := by decide +kernel
theorem dX6_moves_10 : decode cX6_moves 10 = .ok (.iaload, 1) := by decide +kernel
theorem dX6_moves_11 : decode cX6_moves 11 = .ok (.iastore, 1) := by decide +kernel
theorem dX6_moves_12 : decode cX6_moves 12 = .ok (.aload_n 0, 1) := by decide +kernel
theorem dX6_moves_13 : decode cX6_moves 13 = .ok (.getfield 16, 3) := by decide +kernel
theorem dX6_moves_16 : decode cX6_moves 16 = .ok (.iload_n 2, 1) := by decide +kernel
theorem dX6_moves_17 : decode cX6_moves 17 = .ok (.aload_n 0, 1) := by decide +kernel
theorem dX6_moves_18 : decode cX6_moves 18 = .ok (.getfield 16, 3) := by decide +kernel
theorem dX6_moves_21 : decode cX6_moves 21 = .ok (.iload_n 1, 1) := by decide +kernel
theorem dX6_moves_22 : decode cX6_moves 22 = .ok (.iaload, 1) := by decide +kernel
theorem dX6_moves_23 : decode cX6_moves 23 = .ok (.iastore, 1) := by decide +kernel
theorem dX6_moves_24 : decode cX6_moves 24 = .ok (.aload_n 0, 1) := by decide +kernel
theorem dX6_moves_25 : decode cX6_moves 25 = .ok (.getfield 19, 3) := by decide +kernel
theorem dX6_moves_28 : decode cX6_moves 28 = .ok (.iload_n 2, 1) := by decide +kernel
theorem dX6_moves_29 : decode cX6_moves 29 = .ok (.aload_n 0, 1) := by decide +kernel
theorem dX6_moves_30 : decode cX6_moves 30 = .ok (.getfield 19, 3) := by decide +kernel
theorem dX6_moves_33 : decode cX6_moves 33 = .ok (.iload_n 1, 1) := by decide +kernel
theorem dX6_moves_34 : decode cX6_moves 34 = .ok (.iaload, 1) := by decide +kernel
theorem dX6_moves_35 : decode cX6_moves 35 = .ok (.iastore, 1) := by decide +kernel
theorem dX6_moves_36 : decode cX6_moves 36 = .ok (.aload_n 0, 1) := by decide +kernel
theorem dX6_moves_37 : decode cX6_moves 37 = .ok (.getfield 22, 3) := by decide +kernel
theorem dX6_moves_40 : decode cX6_moves 40 = .ok (.iload_n 2, 1) := by decide +kernel
theorem dX6_moves_41 : decode cX6_moves 41 = .ok (.aload_n 0, 1) := by decide +kernel
theorem dX6_moves_42 : decode cX6_moves 42 = .ok (.getfield 22, 3) := by decide +kernel
theorem dX6_moves_45 : decode cX6_moves 45 = .ok (.iload_n 1, 1) := by decide +kernel
theorem dX6_moves_46 : decode cX6_moves 46 = .ok (.iaload, 1) := by decide +kernel
theorem dX6_moves_47 : decode cX6_moves 47 = .ok (.iastore, 1) := by decide +kernel
theorem dX6_moves_48 : decode cX6_moves 48 = .ok (.return_, 1) := by decide +kernel
theorem dX6_puts_0 : decode cX6_puts 0 = .ok (.aload_n 0, 1) := by decide +kernel
theorem dX6_puts_1 : decode cX6_puts 1 = .ok (.getfield 13, 3) := by decide +kernel
theorem dX6_puts_4 : decode cX6_puts 4 = .ok (.iload_n 1, 1) := by decide +kernel
theorem dX6_puts_5 : decode cX6_puts 5 = .ok (.iload_n 2, 1) := by decide +kernel
theorem dX6_puts_6 : decode cX6_puts 6 = .ok (.iastore, 1) := by decide +kernel
theorem dX6_puts_7 : decode cX6_puts 7 = .ok (.aload_n 0, 1) := by decide +kernel
theorem dX6_puts_8 : decode cX6_puts 8 = .ok (.getfield 16, 3) := by decide +kernel
theorem dX6_puts_11 : decode cX6_puts 11 = .ok (.iload_n 1, 1) := by decide +kernel
theorem dX6_puts_12 : decode cX6_puts 12 = .ok (.iload_n 3, 1) := by decide +kernel
theorem dX6_puts_13 : decode cX6_puts 13 = .ok (.iastore, 1) := by decide +kernel
theorem dX6_puts_14 : decode cX6_puts 14 = .ok (.aload_n 0, 1) := by decide +kernel
theorem dX6_puts_15 : decode cX6_puts 15 = .ok (.getfield 19, 3) := by decide +kernel
theorem dX6_puts_18 : decode cX6_puts 18 = .ok (.iload_n 1, 1) := by decide +kernel
theorem dX6_puts_19 : decode cX6_puts 19 = .ok (.iload 4, 2) := by decide +kernel
theorem dX6_puts_21 : decode cX6_puts 21 = .ok (.iastore, 1) := by decide +kernel
theorem dX6_puts_22 : decode cX6_puts 22 = .ok (.aload_n 0, 1) := by decide +kernel
theorem dX6_puts_23 : decode cX6_puts 23 = .ok (.getfield 22, 3) := by decide +kernel
theorem dX6_puts_26 : decode cX6_puts 26 = .ok (.iload_n 1, 1) := by decide +kernel
theorem dX6_puts_27 : decode cX6_puts 27 = .ok (.iload 5, 2) := by decide +kernel
theorem dX6_puts_29 : decode cX6_puts 29 = .ok (.iastore, 1) := by decide +kernel
theorem dX6_puts_30 : decode cX6_puts 30 = .ok (.return_, 1) := by decide +kernel
theorem dX6_addRule_0 : decode cX6_addRule 0 = .ok (.aload_n 0, 1) := by decide +kernel
theorem dX6_addRule_1 : decode cX6_addRule 1 = .ok (.invokevirtual 103, 3) := by decide +kernel
theorem dX6_addRule_4 : decode cX6_addRule 4 = .ok (.istore 4, 2) := by decide +kernel
theorem dX6_addRule_6 : decode cX6_addRule 6 = .ok (.iload_n 1, 1) := by decide +kernel
theorem dX6_addRule_7 : decode cX6_addRule 7 = .ok (.iload_n 2, 1) := by decide +kernel
theorem dX6_addRule_8 : decode cX6_addRule 8 = .ok (.iload_n 3, 1) := by decide +kernel
theorem dX6_addRule_9 : decode cX6_addRule 9 = .ok (.invokestatic 107, 3) := by decide +kernel
theorem dX6_addRule_12 : decode cX6_addRule 12 = .ok (.ifCond .eq 13, 3) := by decide +kernel
theorem dX6_addRule_15 : decode cX6_addRule 15 = .ok (.iload 4, 2) := by decide +kernel
theorem dX6_addRule_17 : decode cX6_addRule 17 = .ok (.iconst (-1), 1) := by decide +kernel
theorem dX6_addRule_18 : decode cX6_addRule 18 = .ok (.if_icmp .eq 7, 3) := by decide +kernel
theorem dX6_addRule_21 : decode cX6_addRule 21 = .ok (.iconst 1, 1) := by decide +kernel
theorem dX6_addRule_22 : decode cX6_addRule 22 = .ok (.goto 4, 3) := by decide +kernel
theorem dX6_addRule_25 : decode cX6_addRule 25 = .ok (.iconst 0, 1) := by decide +kernel
theorem dX6_addRule_26 : decode cX6_addRule 26 = .ok (.istore 5, 2) := by decide +kernel
theorem dX6_addRule_28 : decode cX6_addRule 28 = .ok (.aload_n 0, 1) := by decide +kernel
theorem dX6_addRule_29 : decode cX6_addRule 29 = .ok (.iload 5, 2) := by decide +kernel
theorem dX6_addRule_31 : decode cX6_addRule 31 = .ok (.ifCond .ne 7, 3) := by decide +kernel
theorem dX6_addRule_34 : decode cX6_addRule 34 = .ok (.iconst 1, 1) := by decide +kernel
theorem dX6_addRule_35 : decode cX6_addRule 35 = .ok (.goto 31, 3) := by decide +kernel
theorem dX6_addRule_38 : decode cX6_addRule 38 = .ok (.aload_n 0, 1) := by decide +kernel
theorem dX6_addRule_39 : decode cX6_addRule 39 = .ok (.getfield 100, 3) := by decide +kernel
theorem dX6_addRule_42 : decode cX6_addRule 42 = .ok (.bipush 40, 2) := by decide +kernel
theorem dX6_addRule_44 : decode cX6_addRule 44 = .ok (.if_icmp .ne 7, 3) := by decide +kernel
theorem dX6_addRule_47 : decode cX6_addRule 47 = .ok (.iconst 2, 1) := by decide +kernel
theorem dX6_addRule_48 : decode cX6_addRule 48 = .ok (.goto 18, 3) := by decide +kernel
theorem dX6_addRule_51 : decode cX6_addRule 51 = .ok (.aload_n 0, 1) := by decide +kernel
theorem dX6_addRule_52 : decode cX6_addRule 52 = .ok (.iload 4, 2) := by decide +kernel
theorem dX6_addRule_54 : decode cX6_addRule 54 = .ok (.invokevirtual 110, 3) := by decide +kernel
theorem dX6_addRule_57 : decode cX6_addRule 57 = .ok (.iconst (-1), 1) := by decide +kernel
theorem dX6_addRule_58 : decode cX6_addRule 58 = .ok (.if_icmp .eq 7, 3) := by decide +kernel
theorem dX6_addRule_61 : decode cX6_addRule 61 = .ok (.iconst 3, 1) := by decide +kernel
theorem dX6_addRule_62 : decode cX6_addRule 62 = .ok (.goto 4, 3) := by decide +kernel
theorem dX6_addRule_65 : decode cX6_addRule 65 = .ok (.iconst 0, 1) := by decide +kernel
theorem dX6_addRule_66 : decode cX6_addRule 66 = .ok (.invokevirtual 84, 3) := by decide +kernel
theorem dX6_addRule_69 : decode cX6_addRule 69 = .ok (.ifCond .ne 5, 3) := by decide +kernel
theorem dX6_addRule_72 : decode cX6_addRule 72 = .ok (.iconst 0, 1) := by decide +kernel
theorem dX6_addRule_73 : decode cX6_addRule 73 = .ok (.ireturn, 1) := by decide +kernel
theorem dX6_addRule_74 : decode cX6_addRule 74 = .ok (.aload_n 0, 1) := by decide +kernel
theorem dX6_addRule_75 : decode cX6_addRule 75 = .ok (.invokevirtual 113, 3) := by decide +kernel
theorem dX6_addRule_78 : decode cX6_addRule 78 = .ok (.aload_n 0, 1) := by decide +kernel
theorem dX6_addRule_79 : decode cX6_addRule 79 = .ok (.getfield 100, 3) := by decide +kernel
theorem dX6_addRule_82 : decode cX6_addRule 82 = .ok (.istore 6, 2) := by decide +kernel
theorem dX6_addRule_84 : decode cX6_addRule 84 = .ok (.iload 6, 2) := by decide +kernel
theorem dX6_addRule_86 : decode cX6_addRule 86 = .ok (.ifCond .le 33, 3) := by decide +kernel
theorem dX6_addRule_89 : decode cX6_addRule 89 = .ok (.aload_n 0, 1) := by decide +kernel
theorem dX6_addRule_90 : decode cX6_addRule 90 = .ok (.getfield 13, 3) := by decide +kernel
theorem dX6_addRule_93 : decode cX6_addRule 93 = .ok (.iload 6, 2) := by decide +kernel
theorem dX6_addRule_95 : decode cX6_addRule 95 = .ok (.iconst 1, 1) := by decide +kernel
theorem dX6_addRule_96 : decode cX6_addRule 96 = .ok (.isub, 1) := by decide +kernel
theorem dX6_addRule_97 : decode cX6_addRule 97 = .ok (.iaload, 1) := by decide +kernel
theorem dX6_addRule_98 : decode cX6_addRule 98 = .ok (.iload 4, 2) := by decide +kernel
theorem dX6_addRule_100 : decode cX6_addRule 100 = .ok (.if_icmp .le 19, 3) := by decide +kernel
theorem dX6_addRule_103 : decode cX6_addRule 103 = .ok (.aload_n 0, 1) := by decide +kernel
theorem dX6_addRule_104 : decode cX6_addRule 104 = .ok (.iload 6, 2) := by decide +kernel
theorem dX6_addRule_106 : decode cX6_addRule 106 = .ok (.iconst 1, 1) := by decide +kernel
theorem dX6_addRule_107 : decode cX6_addRule 107 = .ok (.isub, 1) := by decide +kernel
theorem dX6_addRule_108 : decode cX6_addRule 108 = .ok (.iload 6, 2) := by decide +kernel
theorem dX6_addRule_110 : decode cX6_addRule 110 = .ok (.invokevirtual 116, 3) := by decide +kernel
theorem dX6_addRule_113 : decode cX6_addRule 113 = .ok (.iinc 6 (-1), 3) := by decide +kernel
theorem dX6_addRule_116 : decode cX6_addRule 116 = .ok (.goto (-32), 3) := by decide +kernel
theorem dX6_addRule_119 : decode cX6_addRule 119 = .ok (.aload_n 0, 1) := by decide +kernel
theorem dX6_addRule_120 : decode cX6_addRule 120 = .ok (.iload 6, 2) := by decide +kernel
theorem dX6_addRule_122 : decode cX6_addRule 122 = .ok (.iload 4, 2) := by decide +kernel
theorem dX6_addRule_124 : decode cX6_addRule 124 = .ok (.iload_n 1, 1) := by decide +kernel
theorem dX6_addRule_125 : decode cX6_addRule 125 = .ok (.iload_n 2, 1) := by decide +kernel
theorem dX6_addRule_126 : decode cX6_addRule 126 = .ok (.iload_n 3, 1) := by decide +kernel
theorem dX6_addRule_127 : decode cX6_addRule 127 = .ok (.invokevirtual 120, 3) := by decide +kernel
theorem dX6_addRule_130 : decode cX6_addRule 130 = .ok (.aload_n 0, 1) := by decide +kernel
theorem dX6_addRule_131 : decode cX6_addRule 131 = .ok (.dup, 1) := by decide +kernel
theorem dX6_addRule_132 : decode cX6_addRule 132 = .ok (.getfield 100, 3) := by decide +kernel
theorem dX6_addRule_135 : decode cX6_addRule 135 = .ok (.iconst 1, 1) := by decide +kernel
theorem dX6_addRule_136 : decode cX6_addRule 136 = .ok (.iadd, 1) := by decide +kernel
theorem dX6_addRule_137 : decode cX6_addRule 137 = .ok (.putfield 100, 3) := by decide +kernel
theorem dX6_addRule_140 : decode cX6_addRule 140 = .ok (.aload_n 0, 1) := by decide +kernel
theorem dX6_addRule_141 : decode cX6_addRule 141 = .ok (.iconst 0, 1) := by decide +kernel
theorem dX6_addRule_142 : decode cX6_addRule 142 = .ok (.putfield 81, 3) := by decide +kernel
theorem dX6_addRule_145 : decode cX6_addRule 145 = .ok (.aload_n 0, 1) := by decide +kernel
theorem dX6_addRule_146 : decode cX6_addRule 146 = .ok (.invokevirtual 124, 3) := by decide +kernel
theorem dX6_addRule_149 : decode cX6_addRule 149 = .ok (.istore 7, 2) := by decide +kernel
theorem dX6_addRule_151 : decode cX6_addRule 151 = .ok (.iload 6, 2) := by decide +kernel
theorem dX6_addRule_153 : decode cX6_addRule 153 = .ok (.ireturn, 1) := by decide +kernel
theorem dX6_mend_0 : decode cX6_mend 0 = .ok (.aload_n 0, 1) := by decide +kernel
theorem dX6_mend_1 : decode cX6_mend 1 = .ok (.invokevirtual 103, 3) := by decide +kernel
theorem dX6_mend_4 : decode cX6_mend 4 = .ok (.istore 4, 2) := by decide +kernel
theorem dX6_mend_6 : decode cX6_mend 6 = .ok (.iload 4, 2) := by decide +kernel
theorem dX6_mend_8 : decode cX6_mend 8 = .ok (.iconst (-1), 1) := by decide +kernel
theorem dX6_mend_9 : decode cX6_mend 9 = .ok (.if_icmp .ne 7, 3) := by decide +kernel
theorem dX6_mend_12 : decode cX6_mend 12 = .ok (.iconst (-1), 1) := by decide +kernel
theorem dX6_mend_13 : decode cX6_mend 13 = .ok (.goto 9, 3) := by decide +kernel
theorem dX6_mend_16 : decode cX6_mend 16 = .ok (.aload_n 0, 1) := by decide +kernel
theorem dX6_mend_17 : decode cX6_mend 17 = .ok (.iload 4, 2) := by decide +kernel
theorem dX6_mend_19 : decode cX6_mend 19 = .ok (.invokevirtual 110, 3) := by decide +kernel
theorem dX6_mend_22 : decode cX6_mend 22 = .ok (.istore 5, 2) := by decide +kernel
theorem dX6_mend_24 : decode cX6_mend 24 = .ok (.aload_n 0, 1) := by decide +kernel
theorem dX6_mend_25 : decode cX6_mend 25 = .ok (.iload_n 1, 1) := by decide +kernel
theorem dX6_mend_26 : decode cX6_mend 26 = .ok (.iload_n 2, 1) := by decide +kernel
theorem dX6_mend_27 : decode cX6_mend 27 = .ok (.iload_n 3, 1) := by decide +kernel
theorem dX6_mend_28 : decode cX6_mend 28 = .ok (.invokestatic 107, 3) := by decide +kernel
theorem dX6_mend_31 : decode cX6_mend 31 = .ok (.ifCond .ne 7, 3) := by decide +kernel
theorem dX6_mend_34 : decode cX6_mend 34 = .ok (.iconst 1, 1) := by decide +kernel
theorem dX6_mend_35 : decode cX6_mend 35 = .ok (.goto 14, 3) := by decide +kernel
theorem dX6_mend_38 : decode cX6_mend 38 = .ok (.iload 5, 2) := by decide +kernel
theorem dX6_mend_40 : decode cX6_mend 40 = .ok (.iconst (-1), 1) := by decide +kernel
theorem dX6_mend_41 : decode cX6_mend 41 = .ok (.if_icmp .ne 7, 3) := by decide +kernel
theorem dX6_mend_44 : decode cX6_mend 44 = .ok (.iconst 2, 1) := by decide +kernel
theorem dX6_mend_45 : decode cX6_mend 45 = .ok (.goto 4, 3) := by decide +kernel
theorem dX6_mend_48 : decode cX6_mend 48 = .ok (.iconst 0, 1) := by decide +kernel
theorem dX6_mend_49 : decode cX6_mend 49 = .ok (.invokevirtual 84, 3) := by decide +kernel
theorem dX6_mend_52 : decode cX6_mend 52 = .ok (.ifCond .ne 5, 3) := by decide +kernel
theorem dX6_mend_55 : decode cX6_mend 55 = .ok (.iconst 0, 1) := by decide +kernel
theorem dX6_mend_56 : decode cX6_mend 56 = .ok (.ireturn, 1) := by decide +kernel
theorem dX6_mend_57 : decode cX6_mend 57 = .ok (.aload_n 0, 1) := by decide +kernel
theorem dX6_mend_58 : decode cX6_mend 58 = .ok (.invokevirtual 113, 3) := by decide +kernel
theorem dX6_mend_61 : decode cX6_mend 61 = .ok (.aload_n 0, 1) := by decide +kernel
theorem dX6_mend_62 : decode cX6_mend 62 = .ok (.iload 5, 2) := by decide +kernel
theorem dX6_mend_64 : decode cX6_mend 64 = .ok (.iload 4, 2) := by decide +kernel
theorem dX6_mend_66 : decode cX6_mend 66 = .ok (.iload_n 1, 1) := by decide +kernel
theorem dX6_mend_67 : decode cX6_mend 67 = .ok (.iload_n 2, 1) := by decide +kernel
theorem dX6_mend_68 : decode cX6_mend 68 = .ok (.iload_n 3, 1) := by decide +kernel
theorem dX6_mend_69 : decode cX6_mend 69 = .ok (.invokevirtual 120, 3) := by decide +kernel
theorem dX6_mend_72 : decode cX6_mend 72 = .ok (.aload_n 0, 1) := by decide +kernel
theorem dX6_mend_73 : decode cX6_mend 73 = .ok (.iconst 0, 1) := by decide +kernel
theorem dX6_mend_74 : decode cX6_mend 74 = .ok (.putfield 81, 3) := by decide +kernel
theorem dX6_mend_77 : decode cX6_mend 77 = .ok (.aload_n 0, 1) := by decide +kernel
theorem dX6_mend_78 : decode cX6_mend 78 = .ok (.invokevirtual 124, 3) := by decide +kernel
theorem dX6_mend_81 : decode cX6_mend 81 = .ok (.ireturn, 1) := by decide +kernel
theorem dX6_removeRule_0 : decode cX6_removeRule 0 = .ok (.aload_n 0, 1) := by decide +kernel
theorem dX6_removeRule_1 : decode cX6_removeRule 1 = .ok (.iload_n 1, 1) := by decide +kernel
theorem dX6_removeRule_2 : decode cX6_removeRule 2 = .ok (.iconst 0, 1) := by decide +kernel
theorem dX6_removeRule_3 : decode cX6_removeRule 3 = .ok (.aload_n 0, 1) := by decide +kernel
theorem dX6_removeRule_4 : decode cX6_removeRule 4 = .ok (.getfield 100, 3) := by decide +kernel
theorem dX6_removeRule_7 : decode cX6_removeRule 7 = .ok (.iconst 1, 1) := by decide +kernel
theorem dX6_removeRule_8 : decode cX6_removeRule 8 = .ok (.isub, 1) := by decide +kernel
theorem dX6_removeRule_9 : decode cX6_removeRule 9 = .ok (.invokestatic 77, 3) := by decide +kernel
theorem dX6_removeRule_12 : decode cX6_removeRule 12 = .ok (.ifCond .eq 7, 3) := by decide +kernel
theorem dX6_removeRule_15 : decode cX6_removeRule 15 = .ok (.iconst 0, 1) := by decide +kernel
theorem dX6_removeRule_16 : decode cX6_removeRule 16 = .ok (.goto 4, 3) := by decide +kernel
theorem dX6_removeRule_19 : decode cX6_removeRule 19 = .ok (.iconst 1, 1) := by decide +kernel
theorem dX6_removeRule_20 : decode cX6_removeRule 20 = .ok (.invokevirtual 84, 3) := by decide +kernel
theorem dX6_removeRule_23 : decode cX6_removeRule 23 = .ok (.ifCond .ne 5, 3) := by decide +kernel
theorem dX6_removeRule_26 : decode cX6_removeRule 26 = .ok (.iconst 0, 1) := by decide +kernel
theorem dX6_removeRule_27 : decode cX6_removeRule 27 = .ok (.ireturn, 1) := by decide +kernel
theorem dX6_removeRule_28 : decode cX6_removeRule 28 = .ok (.aload_n 0, 1) := by decide +kernel
theorem dX6_removeRule_29 : decode cX6_removeRule 29 = .ok (.invokevirtual 113, 3) := by decide +kernel
theorem dX6_removeRule_32 : decode cX6_removeRule 32 = .ok (.iload_n 1, 1) := by decide +kernel
theorem dX6_removeRule_33 : decode cX6_removeRule 33 = .ok (.iconst 1, 1) := by decide +kernel
theorem dX6_removeRule_34 : decode cX6_removeRule 34 = .ok (.iadd, 1) := by decide +kernel
theorem dX6_removeRule_35 : decode cX6_removeRule 35 = .ok (.istore_n 2, 1) := by decide +kernel
theorem dX6_removeRule_36 : decode cX6_removeRule 36 = .ok (.iload_n 2, 1) := by decide +kernel
theorem dX6_removeRule_37 : decode cX6_removeRule 37 = .ok (.aload_n 0, 1) := by decide +kernel
theorem dX6_removeRule_38 : decode cX6_removeRule 38 = .ok (.getfield 100, 3) := by decide +kernel
theorem dX6_removeRule_41 : decode cX6_removeRule 41 = .ok (.if_icmp .ge 17, 3) := by decide +kernel
theorem dX6_removeRule_44 : decode cX6_removeRule 44 = .ok (.aload_n 0, 1) := by decide +kernel
theorem dX6_removeRule_45 : decode cX6_removeRule 45 = .ok (.iload_n 2, 1) := by decide +kernel
theorem dX6_removeRule_46 : decode cX6_removeRule 46 = .ok (.iload_n 2, 1) := by decide +kernel
theorem dX6_removeRule_47 : decode cX6_removeRule 47 = .ok (.iconst 1, 1) := by decide +kernel
theorem dX6_removeRule_48 : decode cX6_removeRule 48 = .ok (.isub, 1) := by decide +kernel
theorem dX6_removeRule_49 : decode cX6_removeRule 49 = .ok (.invokevirtual 116, 3) := by decide +kernel
theorem dX6_removeRule_52 : decode cX6_removeRule 52 = .ok (.iinc 2 1, 3) := by decide +kernel
theorem dX6_removeRule_55 : decode cX6_removeRule 55 = .ok (.goto (-19), 3) := by decide +kernel
theorem dX6_removeRule_58 : decode cX6_removeRule 58 = .ok (.aload_n 0, 1) := by decide +kernel
theorem dX6_removeRule_59 : decode cX6_removeRule 59 = .ok (.dup, 1) := by decide +kernel
theorem dX6_removeRule_60 : decode cX6_removeRule 60 = .ok (.getfield 100, 3) := by decide +kernel
theorem dX6_removeRule_63 : decode cX6_removeRule 63 = .ok (.iconst 1, 1) := by decide +kernel
theorem dX6_removeRule_64 : decode cX6_removeRule 64 = .ok (.isub, 1) := by decide +kernel
theorem dX6_removeRule_65 : decode cX6_removeRule 65 = .ok (.putfield 100, 3) := by decide +kernel
theorem dX6_removeRule_68 : decode cX6_removeRule 68 = .ok (.aload_n 0, 1) := by decide +kernel
theorem dX6_removeRule_69 : decode cX6_removeRule 69 = .ok (.invokevirtual 124, 3) := by decide +kernel
theorem dX6_removeRule_72 : decode cX6_removeRule 72 = .ok (.istore_n 2, 1) := by decide +kernel
theorem dX6_removeRule_73 : decode cX6_removeRule 73 = .ok (.aload_n 0, 1) := by decide +kernel
theorem dX6_removeRule_74 : decode cX6_removeRule 74 = .ok (.getfield 100, 3) := by decide +kernel
theorem dX6_removeRule_77 : decode cX6_removeRule 77 = .ok (.ireturn, 1) := by decide +kernel
theorem dX6_ruleAt_0 : decode cX6_ruleAt 0 = .ok (.iload_n 1, 1) := by decide +kernel
theorem dX6_ruleAt_1 : decode cX6_ruleAt 1 = .ok (.iconst 0, 1) := by decide +kernel
theorem dX6_ruleAt_2 : decode cX6_ruleAt 2 = .ok (.aload_n 0, 1) := by decide +kernel
theorem dX6_ruleAt_3 : decode cX6_ruleAt 3 = .ok (.getfield 100, 3) := by decide +kernel
theorem dX6_ruleAt_6 : decode cX6_ruleAt 6 = .ok (.iconst 1, 1) := by decide +kernel
theorem dX6_ruleAt_7 : decode cX6_ruleAt 7 = .ok (.isub, 1) := by decide +kernel
theorem dX6_ruleAt_8 : decode cX6_ruleAt 8 = .ok (.invokestatic 77, 3) := by decide +kernel
theorem dX6_ruleAt_11 : decode cX6_ruleAt 11 = .ok (.istore_n 3, 1) := by decide +kernel
theorem dX6_ruleAt_12 : decode cX6_ruleAt 12 = .ok (.iload_n 3, 1) := by decide +kernel
theorem dX6_ruleAt_13 : decode cX6_ruleAt 13 = .ok (.ifCond .eq 22, 3) := by decide +kernel
theorem dX6_ruleAt_16 : decode cX6_ruleAt 16 = .ok (.iload_n 2, 1) := by decide +kernel
theorem dX6_ruleAt_17 : decode cX6_ruleAt 17 = .ok (.iconst 0, 1) := by decide +kernel
theorem dX6_ruleAt_18 : decode cX6_ruleAt 18 = .ok (.aload_n 0, 1) := by decide +kernel
theorem dX6_ruleAt_19 : decode cX6_ruleAt 19 = .ok (.iload_n 1, 1) := by decide +kernel
theorem dX6_ruleAt_20 : decode cX6_ruleAt 20 = .ok (.invokevirtual 127, 3) := by decide +kernel
theorem dX6_ruleAt_23 : decode cX6_ruleAt 23 = .ok (.iconst 1, 1) := by decide +kernel
theorem dX6_ruleAt_24 : decode cX6_ruleAt 24 = .ok (.isub, 1) := by decide +kernel
theorem dX6_ruleAt_25 : decode cX6_ruleAt 25 = .ok (.invokestatic 77, 3) := by decide +kernel
theorem dX6_ruleAt_28 : decode cX6_ruleAt 28 = .ok (.ifCond .eq 7, 3) := by decide +kernel
theorem dX6_ruleAt_31 : decode cX6_ruleAt 31 = .ok (.iconst 1, 1) := by decide +kernel
theorem dX6_ruleAt_32 : decode cX6_ruleAt 32 = .ok (.goto 4, 3) := by decide +kernel
theorem dX6_ruleAt_35 : decode cX6_ruleAt 35 = .ok (.iconst 0, 1) := by decide +kernel
theorem dX6_ruleAt_36 : decode cX6_ruleAt 36 = .ok (.istore 4, 2) := by decide +kernel
theorem dX6_ruleAt_38 : decode cX6_ruleAt 38 = .ok (.aload_n 0, 1) := by decide +kernel
theorem dX6_ruleAt_39 : decode cX6_ruleAt 39 = .ok (.iload_n 3, 1) := by decide +kernel
theorem dX6_ruleAt_40 : decode cX6_ruleAt 40 = .ok (.ifCond .ne 7, 3) := by decide +kernel
theorem dX6_ruleAt_43 : decode cX6_ruleAt 43 = .ok (.iconst 1, 1) := by decide +kernel
theorem dX6_ruleAt_44 : decode cX6_ruleAt 44 = .ok (.goto 13, 3) := by decide +kernel
theorem dX6_ruleAt_47 : decode cX6_ruleAt 47 = .ok (.iload 4, 2) := by decide +kernel
theorem dX6_ruleAt_49 : decode cX6_ruleAt 49 = .ok (.ifCond .ne 7, 3) := by decide +kernel
theorem dX6_ruleAt_52 : decode cX6_ruleAt 52 = .ok (.iconst 2, 1) := by decide +kernel
theorem dX6_ruleAt_53 : decode cX6_ruleAt 53 = .ok (.goto 4, 3) := by decide +kernel
theorem dX6_ruleAt_56 : decode cX6_ruleAt 56 = .ok (.iconst 0, 1) := by decide +kernel
theorem dX6_ruleAt_57 : decode cX6_ruleAt 57 = .ok (.invokevirtual 84, 3) := by decide +kernel
theorem dX6_ruleAt_60 : decode cX6_ruleAt 60 = .ok (.ifCond .eq 18, 3) := by decide +kernel
theorem dX6_ruleAt_63 : decode cX6_ruleAt 63 = .ok (.bipush 97, 2) := by decide +kernel
theorem dX6_ruleAt_65 : decode cX6_ruleAt 65 = .ok (.aload_n 0, 1) := by decide +kernel
theorem dX6_ruleAt_66 : decode cX6_ruleAt 66 = .ok (.iload_n 1, 1) := by decide +kernel
theorem dX6_ruleAt_67 : decode cX6_ruleAt 67 = .ok (.iload_n 2, 1) := by decide +kernel
theorem dX6_ruleAt_68 : decode cX6_ruleAt 68 = .ok (.invokevirtual 96, 3) := by decide +kernel
theorem dX6_ruleAt_71 : decode cX6_ruleAt 71 = .ok (.iadd, 1) := by decide +kernel
theorem dX6_ruleAt_72 : decode cX6_ruleAt 72 = .ok (.iconst 1, 1) := by decide +kernel
theorem dX6_ruleAt_73 : decode cX6_ruleAt 73 = .ok (.isub, 1) := by decide +kernel
theorem dX6_ruleAt_74 : decode cX6_ruleAt 74 = .ok (.i2c, 1) := by decide +kernel
theorem dX6_ruleAt_75 : decode cX6_ruleAt 75 = .ok (.goto 4, 3) := by decide +kernel
theorem dX6_ruleAt_78 : decode cX6_ruleAt 78 = .ok (.iconst 0, 1) := by decide +kernel
theorem dX6_ruleAt_79 : decode cX6_ruleAt 79 = .ok (.ireturn, 1) := by decide +kernel
theorem dX6_isThis_0 : decode cX6_isThis 0 = .ok (.aload_n 0, 1) := by decide +kernel
theorem dX6_isThis_1 : decode cX6_isThis 1 = .ok (.getfield 28, 3) := by decide +kernel
theorem dX6_isThis_4 : decode cX6_isThis 4 = .ok (.iload_n 1, 1) := by decide +kernel
theorem dX6_isThis_5 : decode cX6_isThis 5 = .ok (.iaload, 1) := by decide +kernel
theorem dX6_isThis_6 : decode cX6_isThis 6 = .ok (.iload_n 3, 1) := by decide +kernel
theorem dX6_isThis_7 : decode cX6_isThis 7 = .ok (.if_icmp .ne 7, 3) := by decide +kernel
theorem dX6_isThis_10 : decode cX6_isThis 10 = .ok (.iconst 1, 1) := by decide +kernel
theorem dX6_isThis_11 : decode cX6_isThis 11 = .ok (.goto 4, 3) := by decide +kernel
theorem dX6_isThis_14 : decode cX6_isThis 14 = .ok (.iconst 0, 1) := by decide +kernel
theorem dX6_isThis_15 : decode cX6_isThis 15 = .ok (.istore 4, 2) := by decide +kernel
theorem dX6_isThis_17 : decode cX6_isThis 17 = .ok (.iconst 0, 1) := by decide +kernel
theorem dX6_isThis_18 : decode cX6_isThis 18 = .ok (.istore 5, 2) := by decide +kernel
theorem dX6_isThis_20 : decode cX6_isThis 20 = .ok (.iload 5, 2) := by decide +kernel
theorem dX6_isThis_22 : decode cX6_isThis 22 = .ok (.iload_n 3, 1) := by decide +kernel
theorem dX6_isThis_23 : decode cX6_isThis 23 = .ok (.if_icmp .ge 45, 3) := by decide +kernel
theorem dX6_isThis_26 : decode cX6_isThis 26 = .ok (.iload 4, 2) := by decide +kernel
theorem dX6_isThis_28 : decode cX6_isThis 28 = .ok (.ifCond .eq 40, 3) := by decide +kernel
theorem dX6_isThis_31 : decode cX6_isThis 31 = .ok (.aload_n 0, 1) := by decide +kernel
theorem dX6_isThis_32 : decode cX6_isThis 32 = .ok (.getfield 25, 3) := by decide +kernel
theorem dX6_isThis_35 : decode cX6_isThis 35 = .ok (.bipush 80, 2) := by decide +kernel
theorem dX6_isThis_37 : decode cX6_isThis 37 = .ok (.iload_n 1, 1) := by decide +kernel
theorem dX6_isThis_38 : decode cX6_isThis 38 = .ok (.imul, 1) := by decide +kernel
theorem dX6_isThis_39 : decode cX6_isThis 39 = .ok (.iload 5, 2) := by decide +kernel
theorem dX6_isThis_41 : decode cX6_isThis 41 = .ok (.iadd, 1) := by decide +kernel
theorem dX6_isThis_42 : decode cX6_isThis 42 = .ok (.iaload, 1) := by decide +kernel
theorem dX6_isThis_43 : decode cX6_isThis 43 = .ok (.aload_n 0, 1) := by decide +kernel
theorem dX6_isThis_44 : decode cX6_isThis 44 = .ok (.getfield 31, 3) := by decide +kernel
theorem dX6_isThis_47 : decode cX6_isThis 47 = .ok (.iload_n 2, 1) := by decide +kernel
theorem dX6_isThis_48 : decode cX6_isThis 48 = .ok (.iload 5, 2) := by decide +kernel
theorem dX6_isThis_50 : decode cX6_isThis 50 = .ok (.iadd, 1) := by decide +kernel
theorem dX6_isThis_51 : decode cX6_isThis 51 = .ok (.iaload, 1) := by decide +kernel
theorem dX6_isThis_52 : decode cX6_isThis 52 = .ok (.if_icmp .ne 7, 3) := by decide +kernel
theorem dX6_isThis_55 : decode cX6_isThis 55 = .ok (.iconst 1, 1) := by decide +kernel
theorem dX6_isThis_56 : decode cX6_isThis 56 = .ok (.goto 4, 3) := by decide +kernel
theorem dX6_isThis_59 : decode cX6_isThis 59 = .ok (.iconst 0, 1) := by decide +kernel
theorem dX6_isThis_60 : decode cX6_isThis 60 = .ok (.istore 4, 2) := by decide +kernel
theorem dX6_isThis_62 : decode cX6_isThis 62 = .ok (.iinc 5 1, 3) := by decide +kernel
theorem dX6_isThis_65 : decode cX6_isThis 65 = .ok (.goto (-45), 3) := by decide +kernel
theorem dX6_isThis_68 : decode cX6_isThis 68 = .ok (.iload 4, 2) := by decide +kernel
theorem dX6_isThis_70 : decode cX6_isThis 70 = .ok (.ireturn, 1) := by decide +kernel
theorem dX6_isException_0 : decode cX6_isException 0 = .ok (.iconst 0, 1) := by decide +kernel
theorem dX6_isException_1 : decode cX6_isException 1 = .ok (.istore_n 3, 1) := by decide +kernel
theorem dX6_isException_2 : decode cX6_isException 2 = .ok (.iconst 0, 1) := by decide +kernel
theorem dX6_isException_3 : decode cX6_isException 3 = .ok (.istore 4, 2) := by decide +kernel
theorem dX6_isException_5 : decode cX6_isException 5 = .ok (.iload 4, 2) := by decide +kernel
theorem dX6_isException_7 : decode cX6_isException 7 = .ok (.aload_n 0, 1) := by decide +kernel
theorem dX6_isException_8 : decode cX6_isException 8 = .ok (.getfield 130, 3) := by decide +kernel
theorem dX6_isException_11 : decode cX6_isException 11 = .ok (.if_icmp .ge 30, 3) := by decide +kernel
theorem dX6_isException_14 : decode cX6_isException 14 = .ok (.iload_n 3, 1) := by decide +kernel
theorem dX6_isException_15 : decode cX6_isException 15 = .ok (.ifCond .ne 14, 3) := by decide +kernel
theorem dX6_isException_18 : decode cX6_isException 18 = .ok (.aload_n 0, 1) := by decide +kernel
theorem dX6_isException_19 : decode cX6_isException 19 = .ok (.iload 4, 2) := by decide +kernel
theorem dX6_isException_21 : decode cX6_isException 21 = .ok (.iload_n 1, 1) := by decide +kernel
theorem dX6_isException_22 : decode cX6_isException 22 = .ok (.iload_n 2, 1) := by decide +kernel
theorem dX6_isException_23 : decode cX6_isException 23 = .ok (.invokevirtual 133, 3) := by decide +kernel
theorem dX6_isException_26 : decode cX6_isException 26 = .ok (.ifCond .eq 7, 3) := by decide +kernel
theorem dX6_isException_29 : decode cX6_isException 29 = .ok (.iconst 1, 1) := by decide +kernel
theorem dX6_isException_30 : decode cX6_isException 30 = .ok (.goto 4, 3) := by decide +kernel
theorem dX6_isException_33 : decode cX6_isException 33 = .ok (.iconst 0, 1) := by decide +kernel
theorem dX6_isException_34 : decode cX6_isException 34 = .ok (.istore_n 3, 1) := by decide +kernel
theorem dX6_isException_35 : decode cX6_isException 35 = .ok (.iinc 4 1, 3) := by decide +kernel
theorem dX6_isException_38 : decode cX6_isException 38 = .ok (.goto (-33), 3) := by decide +kernel
theorem dX6_isException_41 : decode cX6_isException 41 = .ok (.iload_n 3, 1) := by decide +kernel
theorem dX6_isException_42 : decode cX6_isException 42 = .ok (.ireturn, 1) := by decide +kernel
theorem dX6_exceptionInBuffer_0 : decode cX6_exceptionInBuffer 0 = .ok (.iconst (-1), 1) := by decide +kernel
theorem dX6_exceptionInBuffer_1 : decode cX6_exceptionInBuffer 1 = .ok (.istore_n 1, 1) := by decide +kernel
theorem dX6_exceptionInBuffer_2 : decode cX6_exceptionInBuffer 2 = .ok (.iconst 0, 1) := by decide +kernel
theorem dX6_exceptionInBuffer_3 : decode cX6_exceptionInBuffer 3 = .ok (.istore_n 2, 1) := by decide +kernel
theorem dX6_exceptionInBuffer_4 : decode cX6_exceptionInBuffer 4 = .ok (.iload_n 2, 1) := by decide +kernel
theorem dX6_exceptionInBuffer_5 : decode cX6_exceptionInBuffer 5 = .ok (.aload_n 0, 1) := by decide +kernel
theorem dX6_exceptionInBuffer_6 : decode cX6_exceptionInBuffer 6 = .ok (.getfield 130, 3) := by decide +kernel
theorem dX6_exceptionInBuffer_9 : decode cX6_exceptionInBuffer 9 = .ok (.if_icmp .ge 88, 3) := by decide +kernel
theorem dX6_exceptionInBuffer_12 : decode cX6_exceptionInBuffer 12 = .ok (.aload_n 0, 1) := by decide +kernel
theorem dX6_exceptionInBuffer_13 : decode cX6_exceptionInBuffer 13 = .ok (.getfield 28, 3) := by decide +kernel
theorem dX6_exceptionInBuffer_16 : decode cX6_exceptionInBuffer 16 = .ok (.iload_n 2, 1) := by decide +kernel
theorem dX6_exceptionInBuffer_17 : decode cX6_exceptionInBuffer 17 = .ok (.iaload, 1) := by decide +kernel
theorem dX6_exceptionInBuffer_18 : decode cX6_exceptionInBuffer 18 = .ok (.aload_n 0, 1) := by decide +kernel
theorem dX6_exceptionInBuffer_19 : decode cX6_exceptionInBuffer 19 = .ok (.getfield 81, 3) := by decide +kernel
theorem dX6_exceptionInBuffer_22 : decode cX6_exceptionInBuffer 22 = .ok (.if_icmp .ne 7, 3) := by decide +kernel
theorem dX6_exceptionInBuffer_25 : decode cX6_exceptionInBuffer 25 = .ok (.iconst 1, 1) := by decide +kernel
theorem dX6_exceptionInBuffer_26 : decode cX6_exceptionInBuffer 26 = .ok (.goto 4, 3) := by decide +kernel
theorem dX6_exceptionInBuffer_29 : decode cX6_exceptionInBuffer 29 = .ok (.iconst 0, 1) := by decide +kernel
theorem dX6_exceptionInBuffer_30 : decode cX6_exceptionInBuffer 30 = .ok (.istore_n 3, 1) := by decide +kernel
theorem dX6_exceptionInBuffer_31 : decode cX6_exceptionInBuffer 31 = .ok (.iconst 0, 1) := by decide +kernel
theorem dX6_exceptionInBuffer_32 : decode cX6_exceptionInBuffer 32 = .ok (.istore 4, 2) := by decide +kernel
theorem dX6_exceptionInBuffer_34 : decode cX6_exceptionInBuffer 34 = .ok (.iload 4, 2) := by decide +kernel
theorem dX6_exceptionInBuffer_36 : decode cX6_exceptionInBuffer 36 = .ok (.aload_n 0, 1) := by decide +kernel
theorem dX6_exceptionInBuffer_37 : decode cX6_exceptionInBuffer 37 = .ok (.getfield 81, 3) := by decide +kernel
theorem dX6_exceptionInBuffer_40 : decode cX6_exceptionInBuffer 40 = .ok (.if_icmp .ge 41, 3) := by decide +kernel
theorem dX6_exceptionInBuffer_43 : decode cX6_exceptionInBuffer 43 = .ok (.iload_n 3, 1) := by decide +kernel
theorem dX6_exceptionInBuffer_44 : decode cX6_exceptionInBuffer 44 = .ok (.ifCond .eq 37, 3) := by decide +kernel
theorem dX6_exceptionInBuffer_47 : decode cX6_exceptionInBuffer 47 = .ok (.aload_n 0, 1) := by decide +kernel
theorem dX6_exceptionInBuffer_48 : decode cX6_exceptionInBuffer 48 = .ok (.getfield 25, 3) := by decide +kernel
theorem dX6_exceptionInBuffer_51 : decode cX6_exceptionInBuffer 51 = .ok (.bipush 80, 2) := by decide +kernel
theorem dX6_exceptionInBuffer_53 : decode cX6_exceptionInBuffer 53 = .ok (.iload_n 2, 1) := by decide +kernel
theorem dX6_exceptionInBuffer_54 : decode cX6_exceptionInBuffer 54 = .ok (.imul, 1) := by decide +kernel
theorem dX6_exceptionInBuffer_55 : decode cX6_exceptionInBuffer 55 = .ok (.iload 4, 2) := by decide +kernel
theorem dX6_exceptionInBuffer_57 : decode cX6_exceptionInBuffer 57 = .ok (.iadd, 1) := by decide +kernel
theorem dX6_exceptionInBuffer_58 : decode cX6_exceptionInBuffer 58 = .ok (.iaload, 1) := by decide +kernel
theorem dX6_exceptionInBuffer_59 : decode cX6_exceptionInBuffer 59 = .ok (.aload_n 0, 1) := by decide +kernel
theorem dX6_exceptionInBuffer_60 : decode cX6_exceptionInBuffer 60 = .ok (.getfield 7, 3) := by decide +kernel
theorem dX6_exceptionInBuffer_63 : decode cX6_exceptionInBuffer 63 = .ok (.iload 4, 2) := by decide +kernel
theorem dX6_exceptionInBuffer_65 : decode cX6_exceptionInBuffer 65 = .ok (.iaload, 1) := by decide +kernel
theorem dX6_exceptionInBuffer_66 : decode cX6_exceptionInBuffer 66 = .ok (.if_icmp .ne 7, 3) := by decide +kernel
theorem dX6_exceptionInBuffer_69 : decode cX6_exceptionInBuffer 69 = .ok (.iconst 1, 1) := by decide +kernel
theorem dX6_exceptionInBuffer_70 : decode cX6_exceptionInBuffer 70 = .ok (.goto 4, 3) := by decide +kernel
theorem dX6_exceptionInBuffer_73 : decode cX6_exceptionInBuffer 73 = .ok (.iconst 0, 1) := by decide +kernel
theorem dX6_exceptionInBuffer_74 : decode cX6_exceptionInBuffer 74 = .ok (.istore_n 3, 1) := by decide +kernel
theorem dX6_exceptionInBuffer_75 : decode cX6_exceptionInBuffer 75 = .ok (.iinc 4 1, 3) := by decide +kernel
theorem dX6_exceptionInBuffer_78 : decode cX6_exceptionInBuffer 78 = .ok (.goto (-44), 3) := by decide +kernel
theorem dX6_exceptionInBuffer_81 : decode cX6_exceptionInBuffer 81 = .ok (.iload_n 3, 1) := by decide +kernel
theorem dX6_exceptionInBuffer_82 : decode cX6_exceptionInBuffer 82 = .ok (.ifCond .eq 7, 3) := by decide +kernel
theorem dX6_exceptionInBuffer_85 : decode cX6_exceptionInBuffer 85 = .ok (.iload_n 2, 1) := by decide +kernel
theorem dX6_exceptionInBuffer_86 : decode cX6_exceptionInBuffer 86 = .ok (.goto 4, 3) := by decide +kernel
theorem dX6_exceptionInBuffer_89 : decode cX6_exceptionInBuffer 89 = .ok (.iload_n 1, 1) := by decide +kernel
theorem dX6_exceptionInBuffer_90 : decode cX6_exceptionInBuffer 90 = .ok (.istore_n 1, 1) := by decide +kernel
theorem dX6_exceptionInBuffer_91 : decode cX6_exceptionInBuffer 91 = .ok (.iinc 2 1, 3) := by decide +kernel
theorem dX6_exceptionInBuffer_94 : decode cX6_exceptionInBuffer 94 = .ok (.goto (-90), 3) := by decide +kernel
theorem dX6_exceptionInBuffer_97 : decode cX6_exceptionInBuffer 97 = .ok (.iload_n 1, 1) := by decide +kernel
theorem dX6_exceptionInBuffer_98 : decode cX6_exceptionInBuffer 98 = .ok (.ireturn, 1) := by decide +kernel
theorem dX6_turnException_0 : decode cX6_turnException 0 = .ok (.aload_n 0, 1) := by decide +kernel
theorem dX6_turnException_1 : decode cX6_turnException 1 = .ok (.getfield 81, 3) := by decide +kernel
theorem dX6_turnException_4 : decode cX6_turnException 4 = .ok (.ifCond .le 14, 3) := by decide +kernel
theorem dX6_turnException_7 : decode cX6_turnException 7 = .ok (.aload_n 0, 1) := by decide +kernel
theorem dX6_turnException_8 : decode cX6_turnException 8 = .ok (.invokevirtual 88, 3) := by decide +kernel
theorem dX6_turnException_11 : decode cX6_turnException 11 = .ok (.ifCond .ne 7, 3) := by decide +kernel
theorem dX6_turnException_14 : decode cX6_turnException 14 = .ok (.iconst 1, 1) := by decide +kernel
theorem dX6_turnException_15 : decode cX6_turnException 15 = .ok (.goto 4, 3) := by decide +kernel
theorem dX6_turnException_18 : decode cX6_turnException 18 = .ok (.iconst 0, 1) := by decide +kernel
theorem dX6_turnException_19 : decode cX6_turnException 19 = .ok (.istore_n 1, 1) := by decide +kernel
theorem dX6_turnException_20 : decode cX6_turnException 20 = .ok (.iload_n 1, 1) := by decide +kernel
theorem dX6_turnException_21 : decode cX6_turnException 21 = .ok (.ifCond .eq 10, 3) := by decide +kernel
theorem dX6_turnException_24 : decode cX6_turnException 24 = .ok (.aload_n 0, 1) := by decide +kernel
theorem dX6_turnException_25 : decode cX6_turnException 25 = .ok (.invokevirtual 136, 3) := by decide +kernel
theorem dX6_turnException_28 : decode cX6_turnException 28 = .ok (.goto 4, 3) := by decide +kernel
theorem dX6_turnException_31 : decode cX6_turnException 31 = .ok (.iconst (-1), 1) := by decide +kernel
theorem dX6_turnException_32 : decode cX6_turnException 32 = .ok (.istore_n 2, 1) := by decide +kernel
theorem dX6_turnException_33 : decode cX6_turnException 33 = .ok (.aload_n 0, 1) := by decide +kernel
theorem dX6_turnException_34 : decode cX6_turnException 34 = .ok (.iload_n 1, 1) := by decide +kernel
theorem dX6_turnException_35 : decode cX6_turnException 35 = .ok (.ifCond .ne 7, 3) := by decide +kernel
theorem dX6_turnException_38 : decode cX6_turnException 38 = .ok (.iconst 1, 1) := by decide +kernel
theorem dX6_turnException_39 : decode cX6_turnException 39 = .ok (.goto 22, 3) := by decide +kernel
theorem dX6_turnException_42 : decode cX6_turnException 42 = .ok (.iload_n 2, 1) := by decide +kernel
theorem dX6_turnException_43 : decode cX6_turnException 43 = .ok (.iconst (-1), 1) := by decide +kernel
theorem dX6_turnException_44 : decode cX6_turnException 44 = .ok (.if_icmp .ne 16, 3) := by decide +kernel
theorem dX6_turnException_47 : decode cX6_turnException 47 = .ok (.aload_n 0, 1) := by decide +kernel
theorem dX6_turnException_48 : decode cX6_turnException 48 = .ok (.getfield 130, 3) := by decide +kernel
theorem dX6_turnException_51 : decode cX6_turnException 51 = .ok (.bipush 20, 2) := by decide +kernel
theorem dX6_turnException_53 : decode cX6_turnException 53 = .ok (.if_icmp .ne 7, 3) := by decide +kernel
theorem dX6_turnException_56 : decode cX6_turnException 56 = .ok (.iconst 2, 1) := by decide +kernel
theorem dX6_turnException_57 : decode cX6_turnException 57 = .ok (.goto 4, 3) := by decide +kernel
theorem dX6_turnException_60 : decode cX6_turnException 60 = .ok (.iconst 0, 1) := by decide +kernel
theorem dX6_turnException_61 : decode cX6_turnException 61 = .ok (.invokevirtual 84, 3) := by decide +kernel
theorem dX6_turnException_64 : decode cX6_turnException 64 = .ok (.ifCond .ne 5, 3) := by decide +kernel
theorem dX6_turnException_67 : decode cX6_turnException 67 = .ok (.iconst 0, 1) := by decide +kernel
theorem dX6_turnException_68 : decode cX6_turnException 68 = .ok (.ireturn, 1) := by decide +kernel
theorem dX6_turnException_69 : decode cX6_turnException 69 = .ok (.aload_n 0, 1) := by decide +kernel
theorem dX6_turnException_70 : decode cX6_turnException 70 = .ok (.invokevirtual 113, 3) := by decide +kernel
theorem dX6_turnException_73 : decode cX6_turnException 73 = .ok (.iload_n 2, 1) := by decide +kernel
theorem dX6_turnException_74 : decode cX6_turnException 74 = .ok (.iconst (-1), 1) := by decide +kernel
theorem dX6_turnException_75 : decode cX6_turnException 75 = .ok (.if_icmp .ne 65, 3) := by decide +kernel
theorem dX6_turnException_78 : decode cX6_turnException 78 = .ok (.iconst 0, 1) := by decide +kernel
theorem dX6_turnException_79 : decode cX6_turnException 79 = .ok (.istore_n 3, 1) := by decide +kernel
theorem dX6_turnException_80 : decode cX6_turnException 80 = .ok (.iload_n 3, 1) := by decide +kernel
theorem dX6_turnException_81 : decode cX6_turnException 81 = .ok (.aload_n 0, 1) := by decide +kernel
theorem dX6_turnException_82 : decode cX6_turnException 82 = .ok (.getfield 81, 3) := by decide +kernel
theorem dX6_turnException_85 : decode cX6_turnException 85 = .ok (.if_icmp .ge 29, 3) := by decide +kernel
theorem dX6_turnException_88 : decode cX6_turnException 88 = .ok (.aload_n 0, 1) := by decide +kernel
theorem dX6_turnException_89 : decode cX6_turnException 89 = .ok (.getfield 25, 3) := by decide +kernel
theorem dX6_turnException_92 : decode cX6_turnException 92 = .ok (.bipush 80, 2) := by decide +kernel
theorem dX6_turnException_94 : decode cX6_turnException 94 = .ok (.aload_n 0, 1) := by decide +kernel
theorem dX6_turnException_95 : decode cX6_turnException 95 = .ok (.getfield 130, 3) := by decide +kernel
theorem dX6_turnException_98 : decode cX6_turnException 98 = .ok (.imul, 1) := by decide +kernel
theorem dX6_turnException_99 : decode cX6_turnException 99 = .ok (.iload_n 3, 1) := by decide +kernel
theorem dX6_turnException_100 : decode cX6_turnException 100 = .ok (.iadd, 1) := by decide +kernel
theorem dX6_turnException_101 : decode cX6_turnException 101 = .ok (.aload_n 0, 1) := by decide +kernel
theorem dX6_turnException_102 : decode cX6_turnException 102 = .ok (.getfield 7, 3) := by decide +kernel
theorem dX6_turnException_105 : decode cX6_turnException 105 = .ok (.iload_n 3, 1) := by decide +kernel
theorem dX6_turnException_106 : decode cX6_turnException 106 = .ok (.iaload, 1) := by decide +kernel
theorem dX6_turnException_107 : decode cX6_turnException 107 = .ok (.iastore, 1) := by decide +kernel
theorem dX6_turnException_108 : decode cX6_turnException 108 = .ok (.iinc 3 1, 3) := by decide +kernel
theorem dX6_turnException_111 : decode cX6_turnException 111 = .ok (.goto (-31), 3) := by decide +kernel
theorem dX6_turnException_114 : decode cX6_turnException 114 = .ok (.aload_n 0, 1) := by decide +kernel
theorem dX6_turnException_115 : decode cX6_turnException 115 = .ok (.getfield 28, 3) := by decide +kernel
theorem dX6_turnException_118 : decode cX6_turnException 118 = .ok (.aload_n 0, 1) := by decide +kernel
theorem dX6_turnException_119 : decode cX6_turnException 119 = .ok (.getfield 130, 3) := by decide +kernel
theorem dX6_turnException_122 : decode cX6_turnException 122 = .ok (.aload_n 0, 1) := by decide +kernel
theorem dX6_turnException_123 : decode cX6_turnException 123 = .ok (.getfield 81, 3) := by decide +kernel
theorem dX6_turnException_126 : decode cX6_turnException 126 = .ok (.iastore, 1) := by decide +kernel
theorem dX6_turnException_127 : decode cX6_turnException 127 = .ok (.aload_n 0, 1) := by decide +kernel
theorem dX6_turnException_128 : decode cX6_turnException 128 = .ok (.dup, 1) := by decide +kernel
theorem dX6_turnException_129 : decode cX6_turnException 129 = .ok (.getfield 130, 3) := by decide +kernel
theorem dX6_turnException_132 : decode cX6_turnException 132 = .ok (.iconst 1, 1) := by decide +kernel
theorem dX6_turnException_133 : decode cX6_turnException 133 = .ok (.iadd, 1) := by decide +kernel
theorem dX6_turnException_134 : decode cX6_turnException 134 = .ok (.putfield 130, 3) := by decide +kernel
theorem dX6_turnException_137 : decode cX6_turnException 137 = .ok (.goto 67, 3) := by decide +kernel
theorem dX6_turnException_140 : decode cX6_turnException 140 = .ok (.aload_n 0, 1) := by decide +kernel
theorem dX6_turnException_141 : decode cX6_turnException 141 = .ok (.dup, 1) := by decide +kernel
theorem dX6_turnException_142 : decode cX6_turnException 142 = .ok (.getfield 130, 3) := by decide +kernel
theorem dX6_turnException_145 : decode cX6_turnException 145 = .ok (.iconst 1, 1) := by decide +kernel
theorem dX6_turnException_146 : decode cX6_turnException 146 = .ok (.isub, 1) := by decide +kernel
theorem dX6_turnException_147 : decode cX6_turnException 147 = .ok (.putfield 130, 3) := by decide +kernel
theorem dX6_turnException_150 : decode cX6_turnException 150 = .ok (.iconst 0, 1) := by decide +kernel
theorem dX6_turnException_151 : decode cX6_turnException 151 = .ok (.istore_n 3, 1) := by decide +kernel
theorem dX6_turnException_152 : decode cX6_turnException 152 = .ok (.iload_n 3, 1) := by decide +kernel
theorem dX6_turnException_153 : decode cX6_turnException 153 = .ok (.bipush 80, 2) := by decide +kernel
theorem dX6_turnException_155 : decode cX6_turnException 155 = .ok (.if_icmp .ge 34, 3) := by decide +kernel
theorem dX6_turnException_158 : decode cX6_turnException 158 = .ok (.aload_n 0, 1) := by decide +kernel
theorem dX6_turnException_159 : decode cX6_turnException 159 = .ok (.getfield 25, 3) := by decide +kernel
theorem dX6_turnException_162 : decode cX6_turnException 162 = .ok (.bipush 80, 2) := by decide +kernel
theorem dX6_turnException_164 : decode cX6_turnException 164 = .ok (.iload_n 2, 1) := by decide +kernel
theorem dX6_turnException_165 : decode cX6_turnException 165 = .ok (.imul, 1) := by decide +kernel
theorem dX6_turnException_166 : decode cX6_turnException 166 = .ok (.iload_n 3, 1) := by decide +kernel
theorem dX6_turnException_167 : decode cX6_turnException 167 = .ok (.iadd, 1) := by decide +kernel
theorem dX6_turnException_168 : decode cX6_turnException 168 = .ok (.aload_n 0, 1) := by decide +kernel
theorem dX6_turnException_169 : decode cX6_turnException 169 = .ok (.getfield 25, 3) := by decide +kernel
theorem dX6_turnException_172 : decode cX6_turnException 172 = .ok (.bipush 80, 2) := by decide +kernel
theorem dX6_turnException_174 : decode cX6_turnException 174 = .ok (.aload_n 0, 1) := by decide +kernel
theorem dX6_turnException_175 : decode cX6_turnException 175 = .ok (.getfield 130, 3) := by decide +kernel
theorem dX6_turnException_178 : decode cX6_turnException 178 = .ok (.imul, 1) := by decide +kernel
theorem dX6_turnException_179 : decode cX6_turnException 179 = .ok (.iload_n 3, 1) := by decide +kernel
theorem dX6_turnException_180 : decode cX6_turnException 180 = .ok (.iadd, 1) := by decide +kernel
theorem dX6_turnException_181 : decode cX6_turnException 181 = .ok (.iaload, 1) := by decide +kernel
theorem dX6_turnException_182 : decode cX6_turnException 182 = .ok (.iastore, 1) := by decide +kernel
theorem dX6_turnException_183 : decode cX6_turnException 183 = .ok (.iinc 3 1, 3) := by decide +kernel
theorem dX6_turnException_186 : decode cX6_turnException 186 = .ok (.goto (-34), 3) := by decide +kernel
theorem dX6_turnException_189 : decode cX6_turnException 189 = .ok (.aload_n 0, 1) := by decide +kernel
theorem dX6_turnException_190 : decode cX6_turnException 190 = .ok (.getfield 28, 3) := by decide +kernel
theorem dX6_turnException_193 : decode cX6_turnException 193 = .ok (.iload_n 2, 1) := by decide +kernel
theorem dX6_turnException_194 : decode cX6_turnException 194 = .ok (.aload_n 0, 1) := by decide +kernel
theorem dX6_turnException_195 : decode cX6_turnException 195 = .ok (.getfield 28, 3) := by decide +kernel
theorem dX6_turnException_198 : decode cX6_turnException 198 = .ok (.aload_n 0, 1) := by decide +kernel
theorem dX6_turnException_199 : decode cX6_turnException 199 = .ok (.getfield 130, 3) := by decide +kernel
theorem dX6_turnException_202 : decode cX6_turnException 202 = .ok (.iaload, 1) := by decide +kernel
theorem dX6_turnException_203 : decode cX6_turnException 203 = .ok (.iastore, 1) := by decide +kernel
theorem dX6_turnException_204 : decode cX6_turnException 204 = .ok (.aload_n 0, 1) := by decide +kernel
theorem dX6_turnException_205 : decode cX6_turnException 205 = .ok (.iconst 0, 1) := by decide +kernel
theorem dX6_turnException_206 : decode cX6_turnException 206 = .ok (.putfield 81, 3) := by decide +kernel
theorem dX6_turnException_209 : decode cX6_turnException 209 = .ok (.aload_n 0, 1) := by decide +kernel
theorem dX6_turnException_210 : decode cX6_turnException 210 = .ok (.invokevirtual 124, 3) := by decide +kernel
theorem dX6_turnException_213 : decode cX6_turnException 213 = .ok (.istore_n 3, 1) := by decide +kernel
theorem dX6_turnException_214 : decode cX6_turnException 214 = .ok (.iload_n 2, 1) := by decide +kernel
theorem dX6_turnException_215 : decode cX6_turnException 215 = .ok (.iconst (-1), 1) := by decide +kernel
theorem dX6_turnException_216 : decode cX6_turnException 216 = .ok (.if_icmp .ne 7, 3) := by decide +kernel
theorem dX6_turnException_219 : decode cX6_turnException 219 = .ok (.iconst 1, 1) := by decide +kernel
theorem dX6_turnException_220 : decode cX6_turnException 220 = .ok (.goto 4, 3) := by decide +kernel
theorem dX6_turnException_223 : decode cX6_turnException 223 = .ok (.iconst 0, 1) := by decide +kernel
theorem dX6_turnException_224 : decode cX6_turnException 224 = .ok (.ireturn, 1) := by decide +kernel
theorem dX6_isBegin_0 : decode cX6_isBegin 0 = .ok (.bipush 80, 2) := by decide +kernel
theorem dX6_isBegin_2 : decode cX6_isBegin 2 = .ok (.iload_n 1, 1) := by decide +kernel
theorem dX6_isBegin_3 : decode cX6_isBegin 3 = .ok (.imul, 1) := by decide +kernel
theorem dX6_isBegin_4 : decode cX6_isBegin 4 = .ok (.iload_n 2, 1) := by decide +kernel
theorem dX6_isBegin_5 : decode cX6_isBegin 5 = .ok (.iadd, 1) := by decide +kernel
theorem dX6_isBegin_6 : decode cX6_isBegin 6 = .ok (.istore_n 3, 1) := by decide +kernel
theorem dX6_isBegin_7 : decode cX6_isBegin 7 = .ok (.aload_n 0, 1) := by decide +kernel
theorem dX6_isBegin_8 : decode cX6_isBegin 8 = .ok (.getfield 31, 3) := by decide +kernel
theorem dX6_isBegin_11 : decode cX6_isBegin 11 = .ok (.iload_n 3, 1) := by decide +kernel
theorem dX6_isBegin_12 : decode cX6_isBegin 12 = .ok (.iaload, 1) := by decide +kernel
theorem dX6_isBegin_13 : decode cX6_isBegin 13 = .ok (.ifCond .le 22, 3) := by decide +kernel
theorem dX6_isBegin_16 : decode cX6_isBegin 16 = .ok (.iload_n 2, 1) := by decide +kernel
theorem dX6_isBegin_17 : decode cX6_isBegin 17 = .ok (.ifCond .eq 14, 3) := by decide +kernel
theorem dX6_isBegin_20 : decode cX6_isBegin 20 = .ok (.aload_n 0, 1) := by decide +kernel
theorem dX6_isBegin_21 : decode cX6_isBegin 21 = .ok (.getfield 31, 3) := by decide +kernel
theorem dX6_isBegin_24 : decode cX6_isBegin 24 = .ok (.iload_n 3, 1) := by decide +kernel
theorem dX6_isBegin_25 : decode cX6_isBegin 25 = .ok (.iconst 1, 1) := by decide +kernel
theorem dX6_isBegin_26 : decode cX6_isBegin 26 = .ok (.isub, 1) := by decide +kernel
theorem dX6_isBegin_27 : decode cX6_isBegin 27 = .ok (.iaload, 1) := by decide +kernel
theorem dX6_isBegin_28 : decode cX6_isBegin 28 = .ok (.ifCond .ne 7, 3) := by decide +kernel
theorem dX6_isBegin_31 : decode cX6_isBegin 31 = .ok (.iconst 1, 1) := by decide +kernel
theorem dX6_isBegin_32 : decode cX6_isBegin 32 = .ok (.goto 4, 3) := by decide +kernel
theorem dX6_isBegin_35 : decode cX6_isBegin 35 = .ok (.iconst 0, 1) := by decide +kernel
theorem dX6_isBegin_36 : decode cX6_isBegin 36 = .ok (.ireturn, 1) := by decide +kernel
theorem dX6_wordsOf_0 : decode cX6_wordsOf 0 = .ok (.iconst 0, 1) := by decide +kernel
theorem dX6_wordsOf_1 : decode cX6_wordsOf 1 = .ok (.istore_n 2, 1) := by decide +kernel
theorem dX6_wordsOf_2 : decode cX6_wordsOf 2 = .ok (.iconst 0, 1) := by decide +kernel
theorem dX6_wordsOf_3 : decode cX6_wordsOf 3 = .ok (.istore_n 3, 1) := by decide +kernel
theorem dX6_wordsOf_4 : decode cX6_wordsOf 4 = .ok (.iload_n 3, 1) := by decide +kernel
theorem dX6_wordsOf_5 : decode cX6_wordsOf 5 = .ok (.aload_n 0, 1) := by decide +kernel
theorem dX6_wordsOf_6 : decode cX6_wordsOf 6 = .ok (.getfield 34, 3) := by decide +kernel
theorem dX6_wordsOf_9 : decode cX6_wordsOf 9 = .ok (.iload_n 1, 1) := by decide +kernel
theorem dX6_wordsOf_10 : decode cX6_wordsOf 10 = .ok (.iaload, 1) := by decide +kernel
theorem dX6_wordsOf_11 : decode cX6_wordsOf 11 = .ok (.if_icmp .ge 26, 3) := by decide +kernel
theorem dX6_wordsOf_14 : decode cX6_wordsOf 14 = .ok (.iload_n 2, 1) := by decide +kernel
theorem dX6_wordsOf_15 : decode cX6_wordsOf 15 = .ok (.aload_n 0, 1) := by decide +kernel
theorem dX6_wordsOf_16 : decode cX6_wordsOf 16 = .ok (.iload_n 1, 1) := by decide +kernel
theorem dX6_wordsOf_17 : decode cX6_wordsOf 17 = .ok (.iload_n 3, 1) := by decide +kernel
theorem dX6_wordsOf_18 : decode cX6_wordsOf 18 = .ok (.invokevirtual 139, 3) := by decide +kernel
theorem dX6_wordsOf_21 : decode cX6_wordsOf 21 = .ok (.ifCond .eq 7, 3) := by decide +kernel
theorem dX6_wordsOf_24 : decode cX6_wordsOf 24 = .ok (.iconst 1, 1) := by decide +kernel
theorem dX6_wordsOf_25 : decode cX6_wordsOf 25 = .ok (.goto 4, 3) := by decide +kernel
theorem dX6_wordsOf_28 : decode cX6_wordsOf 28 = .ok (.iconst 0, 1) := by decide +kernel
theorem dX6_wordsOf_29 : decode cX6_wordsOf 29 = .ok (.iadd, 1) := by decide +kernel
theorem dX6_wordsOf_30 : decode cX6_wordsOf 30 = .ok (.istore_n 2, 1) := by decide +kernel
theorem dX6_wordsOf_31 : decode cX6_wordsOf 31 = .ok (.iinc 3 1, 3) := by decide +kernel
theorem dX6_wordsOf_34 : decode cX6_wordsOf 34 = .ok (.goto (-30), 3) := by decide +kernel
theorem dX6_wordsOf_37 : decode cX6_wordsOf 37 = .ok (.iload_n 2, 1) := by decide +kernel
theorem dX6_wordsOf_38 : decode cX6_wordsOf 38 = .ok (.ireturn, 1) := by decide +kernel
theorem dX6_beginOf_0 : decode cX6_beginOf 0 = .ok (.iload_n 2, 1) := by decide +kernel
theorem dX6_beginOf_1 : decode cX6_beginOf 1 = .ok (.istore_n 3, 1) := by decide +kernel
theorem dX6_beginOf_2 : decode cX6_beginOf 2 = .ok (.iconst 0, 1) := by decide +kernel
theorem dX6_beginOf_3 : decode cX6_beginOf 3 = .ok (.istore 4, 2) := by decide +kernel
theorem dX6_beginOf_5 : decode cX6_beginOf 5 = .ok (.aload_n 0, 1) := by decide +kernel
theorem dX6_beginOf_6 : decode cX6_beginOf 6 = .ok (.iload_n 1, 1) := by decide +kernel
theorem dX6_beginOf_7 : decode cX6_beginOf 7 = .ok (.iload 4, 2) := by decide +kernel
theorem dX6_beginOf_9 : decode cX6_beginOf 9 = .ok (.invokevirtual 139, 3) := by decide +kernel
theorem dX6_beginOf_12 : decode cX6_beginOf 12 = .ok (.ifCond .eq 7, 3) := by decide +kernel
theorem dX6_beginOf_15 : decode cX6_beginOf 15 = .ok (.iload_n 3, 1) := by decide +kernel
theorem dX6_beginOf_16 : decode cX6_beginOf 16 = .ok (.ifCond .le 27, 3) := by decide +kernel
theorem dX6_beginOf_19 : decode cX6_beginOf 19 = .ok (.iload_n 3, 1) := by decide +kernel
theorem dX6_beginOf_20 : decode cX6_beginOf 20 = .ok (.aload_n 0, 1) := by decide +kernel
theorem dX6_beginOf_21 : decode cX6_beginOf 21 = .ok (.iload_n 1, 1) := by decide +kernel
theorem dX6_beginOf_22 : decode cX6_beginOf 22 = .ok (.iload 4, 2) := by decide +kernel
theorem dX6_beginOf_24 : decode cX6_beginOf 24 = .ok (.invokevirtual 139, 3) := by decide +kernel
theorem dX6_beginOf_27 : decode cX6_beginOf 27 = .ok (.ifCond .eq 7, 3) := by decide +kernel
theorem dX6_beginOf_30 : decode cX6_beginOf 30 = .ok (.iconst 1, 1) := by decide +kernel
theorem dX6_beginOf_31 : decode cX6_beginOf 31 = .ok (.goto 4, 3) := by decide +kernel
theorem dX6_beginOf_34 : decode cX6_beginOf 34 = .ok (.iconst 0, 1) := by decide +kernel
theorem dX6_beginOf_35 : decode cX6_beginOf 35 = .ok (.isub, 1) := by decide +kernel
theorem dX6_beginOf_36 : decode cX6_beginOf 36 = .ok (.istore_n 3, 1) := by decide +kernel
theorem dX6_beginOf_37 : decode cX6_beginOf 37 = .ok (.iinc 4 1, 3) := by decide +kernel
theorem dX6_beginOf_40 : decode cX6_beginOf 40 = .ok (.goto (-35), 3) := by decide +kernel
theorem dX6_beginOf_43 : decode cX6_beginOf 43 = .ok (.bipush 80, 2) := by decide +kernel
theorem dX6_beginOf_45 : decode cX6_beginOf 45 = .ok (.iload_n 1, 1) := by decide +kernel
theorem dX6_beginOf_46 : decode cX6_beginOf 46 = .ok (.imul, 1) := by decide +kernel
theorem dX6_beginOf_47 : decode cX6_beginOf 47 = .ok (.iload 4, 2) := by decide +kernel
theorem dX6_beginOf_49 : decode cX6_beginOf 49 = .ok (.iadd, 1) := by decide +kernel
theorem dX6_beginOf_50 : decode cX6_beginOf 50 = .ok (.ireturn, 1) := by decide +kernel
theorem dX6_letterCount_0 : decode cX6_letterCount 0 = .ok (.bipush 80, 2) := by decide +kernel
theorem dX6_letterCount_2 : decode cX6_letterCount 2 = .ok (.iload_n 1, 1) := by decide +kernel
theorem dX6_letterCount_3 : decode cX6_letterCount 3 = .ok (.imul, 1) := by decide +kernel
theorem dX6_letterCount_4 : decode cX6_letterCount 4 = .ok (.aload_n 0, 1) := by decide +kernel
theorem dX6_letterCount_5 : decode cX6_letterCount 5 = .ok (.getfield 34, 3) := by decide +kernel
theorem dX6_letterCount_8 : decode cX6_letterCount 8 = .ok (.iload_n 1, 1) := by decide +kernel
theorem dX6_letterCount_9 : decode cX6_letterCount 9 = .ok (.iaload, 1) := by decide +kernel
theorem dX6_letterCount_10 : decode cX6_letterCount 10 = .ok (.iadd, 1) := by decide +kernel
theorem dX6_letterCount_11 : decode cX6_letterCount 11 = .ok (.istore_n 3, 1) := by decide +kernel
theorem dX6_letterCount_12 : decode cX6_letterCount 12 = .ok (.iconst 0, 1) := by decide +kernel
theorem dX6_letterCount_13 : decode cX6_letterCount 13 = .ok (.istore 4, 2) := by decide +kernel
theorem dX6_letterCount_15 : decode cX6_letterCount 15 = .ok (.iload_n 2, 1) := by decide +kernel
theorem dX6_letterCount_16 : decode cX6_letterCount 16 = .ok (.iload 4, 2) := by decide +kernel
theorem dX6_letterCount_18 : decode cX6_letterCount 18 = .ok (.iadd, 1) := by decide +kernel
theorem dX6_letterCount_19 : decode cX6_letterCount 19 = .ok (.iload_n 3, 1) := by decide +kernel
theorem dX6_letterCount_20 : decode cX6_letterCount 20 = .ok (.if_icmp .ge 21, 3) := by decide +kernel
theorem dX6_letterCount_23 : decode cX6_letterCount 23 = .ok (.aload_n 0, 1) := by decide +kernel
theorem dX6_letterCount_24 : decode cX6_letterCount 24 = .ok (.getfield 31, 3) := by decide +kernel
theorem dX6_letterCount_27 : decode cX6_letterCount 27 = .ok (.iload_n 2, 1) := by decide +kernel
theorem dX6_letterCount_28 : decode cX6_letterCount 28 = .ok (.iload 4, 2) := by decide +kernel
theorem dX6_letterCount_30 : decode cX6_letterCount 30 = .ok (.iadd, 1) := by decide +kernel
theorem dX6_letterCount_31 : decode cX6_letterCount 31 = .ok (.iaload, 1) := by decide +kernel
theorem dX6_letterCount_32 : decode cX6_letterCount 32 = .ok (.ifCond .le 9, 3) := by decide +kernel
theorem dX6_letterCount_35 : decode cX6_letterCount 35 = .ok (.iinc 4 1, 3) := by decide +kernel
theorem dX6_letterCount_38 : decode cX6_letterCount 38 = .ok (.goto (-23), 3) := by decide +kernel
theorem dX6_letterCount_41 : decode cX6_letterCount 41 = .ok (.iload 4, 2) := by decide +kernel
theorem dX6_letterCount_43 : decode cX6_letterCount 43 = .ok (.ireturn, 1) := by decide +kernel
theorem dX6_stands_0 : decode cX6_stands 0 = .ok (.aload_n 0, 1) := by decide +kernel
theorem dX6_stands_1 : decode cX6_stands 1 = .ok (.iload_n 1, 1) := by decide +kernel
theorem dX6_stands_2 : decode cX6_stands 2 = .ok (.invokevirtual 127, 3) := by decide +kernel
theorem dX6_stands_5 : decode cX6_stands 5 = .ok (.istore 4, 2) := by decide +kernel
theorem dX6_stands_7 : decode cX6_stands 7 = .ok (.iload 4, 2) := by decide +kernel
theorem dX6_stands_9 : decode cX6_stands 9 = .ok (.iload_n 3, 1) := by decide +kernel
theorem dX6_stands_10 : decode cX6_stands 10 = .ok (.if_icmp .gt 7, 3) := by decide +kernel
theorem dX6_stands_13 : decode cX6_stands 13 = .ok (.iconst 1, 1) := by decide +kernel
theorem dX6_stands_14 : decode cX6_stands 14 = .ok (.goto 4, 3) := by decide +kernel
theorem dX6_stands_17 : decode cX6_stands 17 = .ok (.iconst 0, 1) := by decide +kernel
theorem dX6_stands_18 : decode cX6_stands 18 = .ok (.istore 5, 2) := by decide +kernel
theorem dX6_stands_20 : decode cX6_stands 20 = .ok (.iconst 0, 1) := by decide +kernel
theorem dX6_stands_21 : decode cX6_stands 21 = .ok (.istore 6, 2) := by decide +kernel
theorem dX6_stands_23 : decode cX6_stands 23 = .ok (.iload 6, 2) := by decide +kernel
theorem dX6_stands_25 : decode cX6_stands 25 = .ok (.iload 4, 2) := by decide +kernel
theorem dX6_stands_27 : decode cX6_stands 27 = .ok (.if_icmp .ge 40, 3) := by decide +kernel
theorem dX6_stands_30 : decode cX6_stands 30 = .ok (.iload 5, 2) := by decide +kernel
theorem dX6_stands_32 : decode cX6_stands 32 = .ok (.ifCond .eq 35, 3) := by decide +kernel
theorem dX6_stands_35 : decode cX6_stands 35 = .ok (.aload_n 0, 1) := by decide +kernel
theorem dX6_stands_36 : decode cX6_stands 36 = .ok (.iload_n 1, 1) := by decide +kernel
theorem dX6_stands_37 : decode cX6_stands 37 = .ok (.iload 6, 2) := by decide +kernel
theorem dX6_stands_39 : decode cX6_stands 39 = .ok (.invokevirtual 96, 3) := by decide +kernel
theorem dX6_stands_42 : decode cX6_stands 42 = .ok (.aload_n 0, 1) := by decide +kernel
theorem dX6_stands_43 : decode cX6_stands 43 = .ok (.getfield 31, 3) := by decide +kernel
theorem dX6_stands_46 : decode cX6_stands 46 = .ok (.iload_n 2, 1) := by decide +kernel
theorem dX6_stands_47 : decode cX6_stands 47 = .ok (.iload 6, 2) := by decide +kernel
theorem dX6_stands_49 : decode cX6_stands 49 = .ok (.iadd, 1) := by decide +kernel
theorem dX6_stands_50 : decode cX6_stands 50 = .ok (.iaload, 1) := by decide +kernel
theorem dX6_stands_51 : decode cX6_stands 51 = .ok (.if_icmp .ne 7, 3) := by decide +kernel
theorem dX6_stands_54 : decode cX6_stands 54 = .ok (.iconst 1, 1) := by decide +kernel
theorem dX6_stands_55 : decode cX6_stands 55 = .ok (.goto 4, 3) := by decide +kernel
theorem dX6_stands_58 : decode cX6_stands 58 = .ok (.iconst 0, 1) := by decide +kernel
theorem dX6_stands_59 : decode cX6_stands 59 = .ok (.istore 5, 2) := by decide +kernel
theorem dX6_stands_61 : decode cX6_stands 61 = .ok (.iinc 6 1, 3) := by decide +kernel
theorem dX6_stands_64 : decode cX6_stands 64 = .ok (.goto (-41), 3) := by decide +kernel
theorem dX6_stands_67 : decode cX6_stands 67 = .ok (.iload 5, 2) := by decide +kernel
theorem dX6_stands_69 : decode cX6_stands 69 = .ok (.ireturn, 1) := by decide +kernel
theorem dX6_longest_0 : decode cX6_longest 0 = .ok (.iconst (-1), 1) := by decide +kernel
theorem dX6_longest_1 : decode cX6_longest 1 = .ok (.istore 5, 2) := by decide +kernel
theorem dX6_longest_3 : decode cX6_longest 3 = .ok (.iconst 0, 1) := by decide +kernel
theorem dX6_longest_4 : decode cX6_longest 4 = .ok (.istore 6, 2) := by decide +kernel
theorem dX6_longest_6 : decode cX6_longest 6 = .ok (.iload 6, 2) := by decide +kernel
theorem dX6_longest_8 : decode cX6_longest 8 = .ok (.aload_n 0, 1) := by decide +kernel
theorem dX6_longest_9 : decode cX6_longest 9 = .ok (.getfield 100, 3) := by decide +kernel
theorem dX6_longest_12 : decode cX6_longest 12 = .ok (.if_icmp .ge 84, 3) := by decide +kernel
theorem dX6_longest_15 : decode cX6_longest 15 = .ok (.aload_n 0, 1) := by decide +kernel
theorem dX6_longest_16 : decode cX6_longest 16 = .ok (.getfield 16, 3) := by decide +kernel
theorem dX6_longest_19 : decode cX6_longest 19 = .ok (.iload 6, 2) := by decide +kernel
theorem dX6_longest_21 : decode cX6_longest 21 = .ok (.iaload, 1) := by decide +kernel
theorem dX6_longest_22 : decode cX6_longest 22 = .ok (.iload 4, 2) := by decide +kernel
theorem dX6_longest_24 : decode cX6_longest 24 = .ok (.if_icmp .gt 28, 3) := by decide +kernel
theorem dX6_longest_27 : decode cX6_longest 27 = .ok (.aload_n 0, 1) := by decide +kernel
theorem dX6_longest_28 : decode cX6_longest 28 = .ok (.iload 6, 2) := by decide +kernel
theorem dX6_longest_30 : decode cX6_longest 30 = .ok (.invokevirtual 127, 3) := by decide +kernel
theorem dX6_longest_33 : decode cX6_longest 33 = .ok (.iload_n 3, 1) := by decide +kernel
theorem dX6_longest_34 : decode cX6_longest 34 = .ok (.if_icmp .gt 18, 3) := by decide +kernel
theorem dX6_longest_37 : decode cX6_longest 37 = .ok (.aload_n 0, 1) := by decide +kernel
theorem dX6_longest_38 : decode cX6_longest 38 = .ok (.iload 6, 2) := by decide +kernel
theorem dX6_longest_40 : decode cX6_longest 40 = .ok (.iload_n 1, 1) := by decide +kernel
theorem dX6_longest_41 : decode cX6_longest 41 = .ok (.iload_n 2, 1) := by decide +kernel
theorem dX6_longest_42 : decode cX6_longest 42 = .ok (.invokevirtual 143, 3) := by decide +kernel
theorem dX6_longest_45 : decode cX6_longest 45 = .ok (.ifCond .eq 7, 3) := by decide +kernel
theorem dX6_longest_48 : decode cX6_longest 48 = .ok (.iconst 1, 1) := by decide +kernel
theorem dX6_longest_49 : decode cX6_longest 49 = .ok (.goto 4, 3) := by decide +kernel
theorem dX6_longest_52 : decode cX6_longest 52 = .ok (.iconst 0, 1) := by decide +kernel
theorem dX6_longest_53 : decode cX6_longest 53 = .ok (.istore 7, 2) := by decide +kernel
theorem dX6_longest_55 : decode cX6_longest 55 = .ok (.iload 7, 2) := by decide +kernel
theorem dX6_longest_57 : decode cX6_longest 57 = .ok (.ifCond .eq 29, 3) := by decide +kernel
theorem dX6_longest_60 : decode cX6_longest 60 = .ok (.iload 5, 2) := by decide +kernel
theorem dX6_longest_62 : decode cX6_longest 62 = .ok (.iconst (-1), 1) := by decide +kernel
theorem dX6_longest_63 : decode cX6_longest 63 = .ok (.if_icmp .eq 18, 3) := by decide +kernel
theorem dX6_longest_66 : decode cX6_longest 66 = .ok (.aload_n 0, 1) := by decide +kernel
theorem dX6_longest_67 : decode cX6_longest 67 = .ok (.iload 6, 2) := by decide +kernel
theorem dX6_longest_69 : decode cX6_longest 69 = .ok (.invokevirtual 127, 3) := by decide +kernel
theorem dX6_longest_72 : decode cX6_longest 72 = .ok (.aload_n 0, 1) := by decide +kernel
theorem dX6_longest_73 : decode cX6_longest 73 = .ok (.iload 5, 2) := by decide +kernel
theorem dX6_longest_75 : decode cX6_longest 75 = .ok (.invokevirtual 127, 3) := by decide +kernel
theorem dX6_longest_78 : decode cX6_longest 78 = .ok (.if_icmp .le 8, 3) := by decide +kernel
theorem dX6_longest_81 : decode cX6_longest 81 = .ok (.iload 6, 2) := by decide +kernel
theorem dX6_longest_83 : decode cX6_longest 83 = .ok (.goto 5, 3) := by decide +kernel
theorem dX6_longest_86 : decode cX6_longest 86 = .ok (.iload 5, 2) := by decide +kernel
theorem dX6_longest_88 : decode cX6_longest 88 = .ok (.istore 5, 2) := by decide +kernel
theorem dX6_longest_90 : decode cX6_longest 90 = .ok (.iinc 6 1, 3) := by decide +kernel
theorem dX6_longest_93 : decode cX6_longest 93 = .ok (.goto (-87), 3) := by decide +kernel
theorem dX6_longest_96 : decode cX6_longest 96 = .ok (.iload 5, 2) := by decide +kernel
theorem dX6_longest_98 : decode cX6_longest 98 = .ok (.ireturn, 1) := by decide +kernel
theorem dX6_translates_0 : decode cX6_translates 0 = .ok (.aload_n 0, 1) := by decide +kernel
theorem dX6_translates_1 : decode cX6_translates 1 = .ok (.iload_n 1, 1) := by decide +kernel
theorem dX6_translates_2 : decode cX6_translates 2 = .ok (.iload_n 2, 1) := by decide +kernel
theorem dX6_translates_3 : decode cX6_translates 3 = .ok (.invokevirtual 146, 3) := by decide +kernel
theorem dX6_translates_6 : decode cX6_translates 6 = .ok (.istore_n 3, 1) := by decide +kernel
theorem dX6_translates_7 : decode cX6_translates 7 = .ok (.aload_n 0, 1) := by decide +kernel
theorem dX6_translates_8 : decode cX6_translates 8 = .ok (.iload_n 1, 1) := by decide +kernel
theorem dX6_translates_9 : decode cX6_translates 9 = .ok (.iload_n 3, 1) := by decide +kernel
theorem dX6_translates_10 : decode cX6_translates 10 = .ok (.invokevirtual 149, 3) := by decide +kernel
theorem dX6_translates_13 : decode cX6_translates 13 = .ok (.istore 4, 2) := by decide +kernel
theorem dX6_translates_15 : decode cX6_translates 15 = .ok (.aload_n 0, 1) := by decide +kernel
theorem dX6_translates_16 : decode cX6_translates 16 = .ok (.iload_n 3, 1) := by decide +kernel
theorem dX6_translates_17 : decode cX6_translates 17 = .ok (.iload 4, 2) := by decide +kernel
theorem dX6_translates_19 : decode cX6_translates 19 = .ok (.invokevirtual 152, 3) := by decide +kernel
theorem dX6_translates_22 : decode cX6_translates 22 = .ok (.ifCond .eq 7, 3) := by decide +kernel
theorem dX6_translates_25 : decode cX6_translates 25 = .ok (.iconst 1, 1) := by decide +kernel
theorem dX6_translates_26 : decode cX6_translates 26 = .ok (.goto 4, 3) := by decide +kernel
theorem dX6_translates_29 : decode cX6_translates 29 = .ok (.iconst 4, 1) := by decide +kernel
theorem dX6_translates_30 : decode cX6_translates 30 = .ok (.istore 5, 2) := by decide +kernel
theorem dX6_translates_32 : decode cX6_translates 32 = .ok (.aload_n 0, 1) := by decide +kernel
theorem dX6_translates_33 : decode cX6_translates 33 = .ok (.iconst 0, 1) := by decide +kernel
theorem dX6_translates_34 : decode cX6_translates 34 = .ok (.putfield 155, 3) := by decide +kernel
theorem dX6_translates_37 : decode cX6_translates 37 = .ok (.iconst 0, 1) := by decide +kernel
theorem dX6_translates_38 : decode cX6_translates 38 = .ok (.istore 6, 2) := by decide +kernel
theorem dX6_translates_40 : decode cX6_translates 40 = .ok (.iload 6, 2) := by decide +kernel
theorem dX6_translates_42 : decode cX6_translates 42 = .ok (.iload 4, 2) := by decide +kernel
theorem dX6_translates_44 : decode cX6_translates 44 = .ok (.if_icmp .ge 129, 3) := by decide +kernel
theorem dX6_translates_47 : decode cX6_translates 47 = .ok (.aload_n 0, 1) := by decide +kernel
theorem dX6_translates_48 : decode cX6_translates 48 = .ok (.iload_n 3, 1) := by decide +kernel
theorem dX6_translates_49 : decode cX6_translates 49 = .ok (.iload 6, 2) := by decide +kernel
theorem dX6_translates_51 : decode cX6_translates 51 = .ok (.iadd, 1) := by decide +kernel
theorem dX6_translates_52 : decode cX6_translates 52 = .ok (.iload 4, 2) := by decide +kernel
theorem dX6_translates_54 : decode cX6_translates 54 = .ok (.iload 6, 2) := by decide +kernel
theorem dX6_translates_56 : decode cX6_translates 56 = .ok (.isub, 1) := by decide +kernel
theorem dX6_translates_57 : decode cX6_translates 57 = .ok (.iload 5, 2) := by decide +kernel
theorem dX6_translates_59 : decode cX6_translates 59 = .ok (.aload_n 0, 1) := by decide +kernel
theorem dX6_translates_60 : decode cX6_translates 60 = .ok (.getfield 37, 3) := by decide +kernel
theorem dX6_translates_63 : decode cX6_translates 63 = .ok (.iload_n 1, 1) := by decide +kernel
theorem dX6_translates_64 : decode cX6_translates 64 = .ok (.iaload, 1) := by decide +kernel
theorem dX6_translates_65 : decode cX6_translates 65 = .ok (.invokevirtual 158, 3) := by decide +kernel
theorem dX6_translates_68 : decode cX6_translates 68 = .ok (.istore 7, 2) := by decide +kernel
theorem dX6_translates_70 : decode cX6_translates 70 = .ok (.aload_n 0, 1) := by decide +kernel
theorem dX6_translates_71 : decode cX6_translates 71 = .ok (.getfield 62, 3) := by decide +kernel
theorem dX6_translates_74 : decode cX6_translates 74 = .ok (.aload_n 0, 1) := by decide +kernel
theorem dX6_translates_75 : decode cX6_translates 75 = .ok (.getfield 155, 3) := by decide +kernel
theorem dX6_translates_78 : decode cX6_translates 78 = .ok (.iload 7, 2) := by decide +kernel
theorem dX6_translates_80 : decode cX6_translates 80 = .ok (.iconst (-1), 1) := by decide +kernel
theorem dX6_translates_81 : decode cX6_translates 81 = .ok (.if_icmp .ne 8, 3) := by decide +kernel
theorem dX6_translates_84 : decode cX6_translates 84 = .ok (.bipush 63, 2) := by decide +kernel
theorem dX6_translates_86 : decode cX6_translates 86 = .ok (.goto 10, 3) := by decide +kernel
theorem dX6_translates_89 : decode cX6_translates 89 = .ok (.aload_n 0, 1) := by decide +kernel
theorem dX6_translates_90 : decode cX6_translates 90 = .ok (.getfield 19, 3) := by decide +kernel
theorem dX6_translates_93 : decode cX6_translates 93 = .ok (.iload 7, 2) := by decide +kernel
theorem dX6_translates_95 : decode cX6_translates 95 = .ok (.iaload, 1) := by decide +kernel
theorem dX6_translates_96 : decode cX6_translates 96 = .ok (.iastore, 1) := by decide +kernel
theorem dX6_translates_97 : decode cX6_translates 97 = .ok (.aload_n 0, 1) := by decide +kernel
theorem dX6_translates_98 : decode cX6_translates 98 = .ok (.dup, 1) := by decide +kernel
theorem dX6_translates_99 : decode cX6_translates 99 = .ok (.getfield 155, 3) := by decide +kernel
theorem dX6_translates_102 : decode cX6_translates 102 = .ok (.iconst 1, 1) := by decide +kernel
theorem dX6_translates_103 : decode cX6_translates 103 = .ok (.iadd, 1) := by decide +kernel
theorem dX6_translates_104 : decode cX6_translates 104 = .ok (.putfield 155, 3) := by decide +kernel
theorem dX6_translates_107 : decode cX6_translates 107 = .ok (.iload 7, 2) := by decide +kernel
theorem dX6_translates_109 : decode cX6_translates 109 = .ok (.iconst (-1), 1) := by decide +kernel
theorem dX6_translates_110 : decode cX6_translates 110 = .ok (.if_icmp .eq 39, 3) := by decide +kernel
theorem dX6_translates_113 : decode cX6_translates 113 = .ok (.aload_n 0, 1) := by decide +kernel
theorem dX6_translates_114 : decode cX6_translates 114 = .ok (.getfield 22, 3) := by decide +kernel
theorem dX6_translates_117 : decode cX6_translates 117 = .ok (.iload 7, 2) := by decide +kernel
theorem dX6_translates_119 : decode cX6_translates 119 = .ok (.iaload, 1) := by decide +kernel
theorem dX6_translates_120 : decode cX6_translates 120 = .ok (.ifCond .le 29, 3) := by decide +kernel
theorem dX6_translates_123 : decode cX6_translates 123 = .ok (.aload_n 0, 1) := by decide +kernel
theorem dX6_translates_124 : decode cX6_translates 124 = .ok (.getfield 62, 3) := by decide +kernel
theorem dX6_translates_127 : decode cX6_translates 127 = .ok (.aload_n 0, 1) := by decide +kernel
theorem dX6_translates_128 : decode cX6_translates 128 = .ok (.getfield 155, 3) := by decide +kernel
theorem dX6_translates_131 : decode cX6_translates 131 = .ok (.aload_n 0, 1) := by decide +kernel
theorem dX6_translates_132 : decode cX6_translates 132 = .ok (.getfield 22, 3) := by decide +kernel
theorem dX6_translates_135 : decode cX6_translates 135 = .ok (.iload 7, 2) := by decide +kernel
theorem dX6_translates_137 : decode cX6_translates 137 = .ok (.iaload, 1) := by decide +kernel
theorem dX6_translates_138 : decode cX6_translates 138 = .ok (.iastore, 1) := by decide +kernel
theorem dX6_translates_139 : decode cX6_translates 139 = .ok (.aload_n 0, 1) := by decide +kernel
theorem dX6_translates_140 : decode cX6_translates 140 = .ok (.dup, 1) := by decide +kernel
theorem dX6_translates_141 : decode cX6_translates 141 = .ok (.getfield 155, 3) := by decide +kernel
theorem dX6_translates_144 : decode cX6_translates 144 = .ok (.iconst 1, 1) := by decide +kernel
theorem dX6_translates_145 : decode cX6_translates 145 = .ok (.iadd, 1) := by decide +kernel
theorem dX6_translates_146 : decode cX6_translates 146 = .ok (.putfield 155, 3) := by decide +kernel
theorem dX6_translates_149 : decode cX6_translates 149 = .ok (.iload 6, 2) := by decide +kernel
theorem dX6_translates_151 : decode cX6_translates 151 = .ok (.iload 7, 2) := by decide +kernel
theorem dX6_translates_153 : decode cX6_translates 153 = .ok (.iconst (-1), 1) := by decide +kernel
theorem dX6_translates_154 : decode cX6_translates 154 = .ok (.if_icmp .ne 7, 3) := by decide +kernel
theorem dX6_translates_157 : decode cX6_translates 157 = .ok (.iconst 1, 1) := by decide +kernel
theorem dX6_translates_158 : decode cX6_translates 158 = .ok (.goto 9, 3) := by decide +kernel
theorem dX6_translates_161 : decode cX6_translates 161 = .ok (.aload_n 0, 1) := by decide +kernel
theorem dX6_translates_162 : decode cX6_translates 162 = .ok (.iload 7, 2) := by decide +kernel
theorem dX6_translates_164 : decode cX6_translates 164 = .ok (.invokevirtual 127, 3) := by decide +kernel
theorem dX6_translates_167 : decode cX6_translates 167 = .ok (.iadd, 1) := by decide +kernel
theorem dX6_translates_168 : decode cX6_translates 168 = .ok (.istore 6, 2) := by decide +kernel
theorem dX6_translates_170 : decode cX6_translates 170 = .ok (.goto (-130), 3) := by decide +kernel
theorem dX6_translates_173 : decode cX6_translates 173 = .ok (.return_, 1) := by decide +kernel
theorem dX6_keepsCells_0 : decode cX6_keepsCells 0 = .ok (.iconst 0, 1) := by decide +kernel
theorem dX6_keepsCells_1 : decode cX6_keepsCells 1 = .ok (.istore_n 1, 1) := by decide +kernel
theorem dX6_keepsCells_2 : decode cX6_keepsCells 2 = .ok (.iconst 0, 1) := by decide +kernel
theorem dX6_keepsCells_3 : decode cX6_keepsCells 3 = .ok (.istore_n 2, 1) := by decide +kernel
theorem dX6_keepsCells_4 : decode cX6_keepsCells 4 = .ok (.iload_n 2, 1) := by decide +kernel
theorem dX6_keepsCells_5 : decode cX6_keepsCells 5 = .ok (.aload_n 0, 1) := by decide +kernel
theorem dX6_keepsCells_6 : decode cX6_keepsCells 6 = .ok (.getfield 162, 3) := by decide +kernel
theorem dX6_keepsCells_9 : decode cX6_keepsCells 9 = .ok (.if_icmp .ge 84, 3) := by decide +kernel
theorem dX6_keepsCells_12 : decode cX6_keepsCells 12 = .ok (.aload_n 0, 1) := by decide +kernel
theorem dX6_keepsCells_13 : decode cX6_keepsCells 13 = .ok (.iload_n 2, 1) := by decide +kernel
theorem dX6_keepsCells_14 : decode cX6_keepsCells 14 = .ok (.invokevirtual 165, 3) := by decide +kernel
theorem dX6_keepsCells_17 : decode cX6_keepsCells 17 = .ok (.istore_n 3, 1) := by decide +kernel
theorem dX6_keepsCells_18 : decode cX6_keepsCells 18 = .ok (.iconst 0, 1) := by decide +kernel
theorem dX6_keepsCells_19 : decode cX6_keepsCells 19 = .ok (.istore 4, 2) := by decide +kernel
theorem dX6_keepsCells_21 : decode cX6_keepsCells 21 = .ok (.iload 4, 2) := by decide +kernel
theorem dX6_keepsCells_23 : decode cX6_keepsCells 23 = .ok (.iload_n 3, 1) := by decide +kernel
theorem dX6_keepsCells_24 : decode cX6_keepsCells 24 = .ok (.if_icmp .ge 63, 3) := by decide +kernel
theorem dX6_keepsCells_27 : decode cX6_keepsCells 27 = .ok (.aload_n 0, 1) := by decide +kernel
theorem dX6_keepsCells_28 : decode cX6_keepsCells 28 = .ok (.iload_n 2, 1) := by decide +kernel
theorem dX6_keepsCells_29 : decode cX6_keepsCells 29 = .ok (.iload 4, 2) := by decide +kernel
theorem dX6_keepsCells_31 : decode cX6_keepsCells 31 = .ok (.invokevirtual 168, 3) := by decide +kernel
theorem dX6_keepsCells_34 : decode cX6_keepsCells 34 = .ok (.aload_n 0, 1) := by decide +kernel
theorem dX6_keepsCells_35 : decode cX6_keepsCells 35 = .ok (.getfield 65, 3) := by decide +kernel
theorem dX6_keepsCells_38 : decode cX6_keepsCells 38 = .ok (.iload_n 1, 1) := by decide +kernel
theorem dX6_keepsCells_39 : decode cX6_keepsCells 39 = .ok (.aload_n 0, 1) := by decide +kernel
theorem dX6_keepsCells_40 : decode cX6_keepsCells 40 = .ok (.getfield 155, 3) := by decide +kernel
theorem dX6_keepsCells_43 : decode cX6_keepsCells 43 = .ok (.iastore, 1) := by decide +kernel
theorem dX6_keepsCells_44 : decode cX6_keepsCells 44 = .ok (.iinc 1 1, 3) := by decide +kernel
theorem dX6_keepsCells_47 : decode cX6_keepsCells 47 = .ok (.iconst 0, 1) := by decide +kernel
theorem dX6_keepsCells_48 : decode cX6_keepsCells 48 = .ok (.istore 5, 2) := by decide +kernel
theorem dX6_keepsCells_50 : decode cX6_keepsCells 50 = .ok (.iload 5, 2) := by decide +kernel
theorem dX6_keepsCells_52 : decode cX6_keepsCells 52 = .ok (.aload_n 0, 1) := by decide +kernel
theorem dX6_keepsCells_53 : decode cX6_keepsCells 53 = .ok (.getfield 155, 3) := by decide +kernel
theorem dX6_keepsCells_56 : decode cX6_keepsCells 56 = .ok (.if_icmp .ge 25, 3) := by decide +kernel
theorem dX6_keepsCells_59 : decode cX6_keepsCells 59 = .ok (.aload_n 0, 1) := by decide +kernel
theorem dX6_keepsCells_60 : decode cX6_keepsCells 60 = .ok (.getfield 65, 3) := by decide +kernel
theorem dX6_keepsCells_63 : decode cX6_keepsCells 63 = .ok (.iload_n 1, 1) := by decide +kernel
theorem dX6_keepsCells_64 : decode cX6_keepsCells 64 = .ok (.aload_n 0, 1) := by decide +kernel
theorem dX6_keepsCells_65 : decode cX6_keepsCells 65 = .ok (.getfield 62, 3) := by decide +kernel
theorem dX6_keepsCells_68 : decode cX6_keepsCells 68 = .ok (.iload 5, 2) := by decide +kernel
theorem dX6_keepsCells_70 : decode cX6_keepsCells 70 = .ok (.iaload, 1) := by decide +kernel
theorem dX6_keepsCells_71 : decode cX6_keepsCells 71 = .ok (.iastore, 1) := by decide +kernel
theorem dX6_keepsCells_72 : decode cX6_keepsCells 72 = .ok (.iinc 1 1, 3) := by decide +kernel
theorem dX6_keepsCells_75 : decode cX6_keepsCells 75 = .ok (.iinc 5 1, 3) := by decide +kernel
theorem dX6_keepsCells_78 : decode cX6_keepsCells 78 = .ok (.goto (-28), 3) := by decide +kernel
theorem dX6_keepsCells_81 : decode cX6_keepsCells 81 = .ok (.iinc 4 1, 3) := by decide +kernel
theorem dX6_keepsCells_84 : decode cX6_keepsCells 84 = .ok (.goto (-63), 3) := by decide +kernel
theorem dX6_keepsCells_87 : decode cX6_keepsCells 87 = .ok (.iinc 2 1, 3) := by decide +kernel
theorem dX6_keepsCells_90 : decode cX6_keepsCells 90 = .ok (.goto (-86), 3) := by decide +kernel
theorem dX6_keepsCells_93 : decode cX6_keepsCells 93 = .ok (.return_, 1) := by decide +kernel
theorem dX6_textsChanged_0 : decode cX6_textsChanged 0 = .ok (.iconst 0, 1) := by decide +kernel
theorem dX6_textsChanged_1 : decode cX6_textsChanged 1 = .ok (.istore_n 1, 1) := by decide +kernel
theorem dX6_textsChanged_2 : decode cX6_textsChanged 2 = .ok (.iconst 0, 1) := by decide +kernel
theorem dX6_textsChanged_3 : decode cX6_textsChanged 3 = .ok (.istore_n 2, 1) := by decide +kernel
theorem dX6_textsChanged_4 : decode cX6_textsChanged 4 = .ok (.iconst 0, 1) := by decide +kernel
theorem dX6_textsChanged_5 : decode cX6_textsChanged 5 = .ok (.istore_n 3, 1) := by decide +kernel
theorem dX6_textsChanged_6 : decode cX6_textsChanged 6 = .ok (.iload_n 3, 1) := by decide +kernel
theorem dX6_textsChanged_7 : decode cX6_textsChanged 7 = .ok (.aload_n 0, 1) := by decide +kernel
theorem dX6_textsChanged_8 : decode cX6_textsChanged 8 = .ok (.getfield 162, 3) := by decide +kernel
theorem dX6_textsChanged_11 : decode cX6_textsChanged 11 = .ok (.if_icmp .ge 187, 3) := by decide +kernel
theorem dX6_textsChanged_14 : decode cX6_textsChanged 14 = .ok (.aload_n 0, 1) := by decide +kernel
theorem dX6_textsChanged_15 : decode cX6_textsChanged 15 = .ok (.iload_n 3, 1) := by decide +kernel
theorem dX6_textsChanged_16 : decode cX6_textsChanged 16 = .ok (.invokevirtual 165, 3) := by decide +kernel
theorem dX6_textsChanged_19 : decode cX6_textsChanged 19 = .ok (.istore 4, 2) := by decide +kernel
theorem dX6_textsChanged_21 : decode cX6_textsChanged 21 = .ok (.iconst 0, 1) := by decide +kernel
theorem dX6_textsChanged_22 : decode cX6_textsChanged 22 = .ok (.istore 5, 2) := by decide +kernel
theorem dX6_textsChanged_24 : decode cX6_textsChanged 24 = .ok (.iconst 0, 1) := by decide +kernel
theorem dX6_textsChanged_25 : decode cX6_textsChanged 25 = .ok (.istore 6, 2) := by decide +kernel
theorem dX6_textsChanged_27 : decode cX6_textsChanged 27 = .ok (.iload 6, 2) := by decide +kernel
theorem dX6_textsChanged_29 : decode cX6_textsChanged 29 = .ok (.iload 4, 2) := by decide +kernel
theorem dX6_textsChanged_31 : decode cX6_textsChanged 31 = .ok (.if_icmp .ge 148, 3) := by decide +kernel
theorem dX6_textsChanged_34 : decode cX6_textsChanged 34 = .ok (.aload_n 0, 1) := by decide +kernel
theorem dX6_textsChanged_35 : decode cX6_textsChanged 35 = .ok (.iload_n 3, 1) := by decide +kernel
theorem dX6_textsChanged_36 : decode cX6_textsChanged 36 = .ok (.iload 6, 2) := by decide +kernel
theorem dX6_textsChanged_38 : decode cX6_textsChanged 38 = .ok (.invokevirtual 168, 3) := by decide +kernel
theorem dX6_textsChanged_41 : decode cX6_textsChanged 41 = .ok (.aload_n 0, 1) := by decide +kernel
theorem dX6_textsChanged_42 : decode cX6_textsChanged 42 = .ok (.getfield 65, 3) := by decide +kernel
theorem dX6_textsChanged_45 : decode cX6_textsChanged 45 = .ok (.iload_n 1, 1) := by decide +kernel
theorem dX6_textsChanged_46 : decode cX6_textsChanged 46 = .ok (.iaload, 1) := by decide +kernel
theorem dX6_textsChanged_47 : decode cX6_textsChanged 47 = .ok (.istore 7, 2) := by decide +kernel
theorem dX6_textsChanged_49 : decode cX6_textsChanged 49 = .ok (.iload 7, 2) := by decide +kernel
theorem dX6_textsChanged_51 : decode cX6_textsChanged 51 = .ok (.aload_n 0, 1) := by decide +kernel
theorem dX6_textsChanged_52 : decode cX6_textsChanged 52 = .ok (.getfield 155, 3) := by decide +kernel
theorem dX6_textsChanged_55 : decode cX6_textsChanged 55 = .ok (.if_icmp .ne 7, 3) := by decide +kernel
theorem dX6_textsChanged_58 : decode cX6_textsChanged 58 = .ok (.iconst 1, 1) := by decide +kernel
theorem dX6_textsChanged_59 : decode cX6_textsChanged 59 = .ok (.goto 4, 3) := by decide +kernel
theorem dX6_textsChanged_62 : decode cX6_textsChanged 62 = .ok (.iconst 0, 1) := by decide +kernel
theorem dX6_textsChanged_63 : decode cX6_textsChanged 63 = .ok (.istore 8, 2) := by decide +kernel
theorem dX6_textsChanged_65 : decode cX6_textsChanged 65 = .ok (.iconst 0, 1) := by decide +kernel
theorem dX6_textsChanged_66 : decode cX6_textsChanged 66 = .ok (.istore 9, 2) := by decide +kernel
theorem dX6_textsChanged_68 : decode cX6_textsChanged 68 = .ok (.iload 9, 2) := by decide +kernel
theorem dX6_textsChanged_70 : decode cX6_textsChanged 70 = .ok (.iload 7, 2) := by decide +kernel
theorem dX6_textsChanged_72 : decode cX6_textsChanged 72 = .ok (.if_icmp .ge 42, 3) := by decide +kernel
theorem dX6_textsChanged_75 : decode cX6_textsChanged 75 = .ok (.iload 8, 2) := by decide +kernel
theorem dX6_textsChanged_77 : decode cX6_textsChanged 77 = .ok (.ifCond .eq 37, 3) := by decide +kernel
theorem dX6_textsChanged_80 : decode cX6_textsChanged 80 = .ok (.aload_n 0, 1) := by decide +kernel
theorem dX6_textsChanged_81 : decode cX6_textsChanged 81 = .ok (.getfield 65, 3) := by decide +kernel
theorem dX6_textsChanged_84 : decode cX6_textsChanged 84 = .ok (.iload_n 1, 1) := by decide +kernel
theorem dX6_textsChanged_85 : decode cX6_textsChanged 85 = .ok (.iconst 1, 1) := by decide +kernel
theorem dX6_textsChanged_86 : decode cX6_textsChanged 86 = .ok (.iadd, 1) := by decide +kernel
theorem dX6_textsChanged_87 : decode cX6_textsChanged 87 = .ok (.iload 9, 2) := by decide +kernel
theorem dX6_textsChanged_89 : decode cX6_textsChanged 89 = .ok (.iadd, 1) := by decide +kernel
theorem dX6_textsChanged_90 : decode cX6_textsChanged 90 = .ok (.iaload, 1) := by decide +kernel
theorem dX6_textsChanged_91 : decode cX6_textsChanged 91 = .ok (.aload_n 0, 1) := by decide +kernel
theorem dX6_textsChanged_92 : decode cX6_textsChanged 92 = .ok (.getfield 62, 3) := by decide +kernel
theorem dX6_textsChanged_95 : decode cX6_textsChanged 95 = .ok (.iload 9, 2) := by decide +kernel
theorem dX6_textsChanged_97 : decode cX6_textsChanged 97 = .ok (.iaload, 1) := by decide +kernel
theorem dX6_textsChanged_98 : decode cX6_textsChanged 98 = .ok (.if_icmp .ne 7, 3) := by decide +kernel
theorem dX6_textsChanged_101 : decode cX6_textsChanged 101 = .ok (.iconst 1, 1) := by decide +kernel
theorem dX6_textsChanged_102 : decode cX6_textsChanged 102 = .ok (.goto 4, 3) := by decide +kernel
theorem dX6_textsChanged_105 : decode cX6_textsChanged 105 = .ok (.iconst 0, 1) := by decide +kernel
theorem dX6_textsChanged_106 : decode cX6_textsChanged 106 = .ok (.istore 8, 2) := by decide +kernel
theorem dX6_textsChanged_108 : decode cX6_textsChanged 108 = .ok (.iinc 9 1, 3) := by decide +kernel
theorem dX6_textsChanged_111 : decode cX6_textsChanged 111 = .ok (.goto (-43), 3) := by decide +kernel
theorem dX6_textsChanged_114 : decode cX6_textsChanged 114 = .ok (.iload_n 1, 1) := by decide +kernel
theorem dX6_textsChanged_115 : decode cX6_textsChanged 115 = .ok (.iconst 1, 1) := by decide +kernel
theorem dX6_textsChanged_116 : decode cX6_textsChanged 116 = .ok (.iload 7, 2) := by decide +kernel
theorem dX6_textsChanged_118 : decode cX6_textsChanged 118 = .ok (.iadd, 1) := by decide +kernel
theorem dX6_textsChanged_119 : decode cX6_textsChanged 119 = .ok (.iadd, 1) := by decide +kernel
theorem dX6_textsChanged_120 : decode cX6_textsChanged 120 = .ok (.istore_n 1, 1) := by decide +kernel
theorem dX6_textsChanged_121 : decode cX6_textsChanged 121 = .ok (.iload 5, 2) := by decide +kernel
theorem dX6_textsChanged_123 : decode cX6_textsChanged 123 = .ok (.ifCond .ne 8, 3) := by decide +kernel
theorem dX6_textsChanged_126 : decode cX6_textsChanged 126 = .ok (.iload 8, 2) := by decide +kernel
theorem dX6_textsChanged_128 : decode cX6_textsChanged 128 = .ok (.ifCond .ne 7, 3) := by decide +kernel
theorem dX6_textsChanged_131 : decode cX6_textsChanged 131 = .ok (.iconst 1, 1) := by decide +kernel
theorem dX6_textsChanged_132 : decode cX6_textsChanged 132 = .ok (.goto 4, 3) := by decide +kernel
theorem dX6_textsChanged_135 : decode cX6_textsChanged 135 = .ok (.iconst 0, 1) := by decide +kernel
theorem dX6_textsChanged_136 : decode cX6_textsChanged 136 = .ok (.istore 5, 2) := by decide +kernel
theorem dX6_textsChanged_138 : decode cX6_textsChanged 138 = .ok (.iload 8, 2) := by decide +kernel
theorem dX6_textsChanged_140 : decode cX6_textsChanged 140 = .ok (.ifCond .ne 33, 3) := by decide +kernel
theorem dX6_textsChanged_143 : decode cX6_textsChanged 143 = .ok (.aload_n 0, 1) := by decide +kernel
theorem dX6_textsChanged_144 : decode cX6_textsChanged 144 = .ok (.getfield 53, 3) := by decide +kernel
theorem dX6_textsChanged_147 : decode cX6_textsChanged 147 = .ok (.bipush 40, 2) := by decide +kernel
theorem dX6_textsChanged_149 : decode cX6_textsChanged 149 = .ok (.iload_n 3, 1) := by decide +kernel
theorem dX6_textsChanged_150 : decode cX6_textsChanged 150 = .ok (.imul, 1) := by decide +kernel
theorem dX6_textsChanged_151 : decode cX6_textsChanged 151 = .ok (.iload 6, 2) := by decide +kernel
theorem dX6_textsChanged_153 : decode cX6_textsChanged 153 = .ok (.iadd, 1) := by decide +kernel
theorem dX6_textsChanged_154 : decode cX6_textsChanged 154 = .ok (.iconst 0, 1) := by decide +kernel
theorem dX6_textsChanged_155 : decode cX6_textsChanged 155 = .ok (.iastore, 1) := by decide +kernel
theorem dX6_textsChanged_156 : decode cX6_textsChanged 156 = .ok (.aload_n 0, 1) := by decide +kernel
theorem dX6_textsChanged_157 : decode cX6_textsChanged 157 = .ok (.getfield 53, 3) := by decide +kernel
theorem dX6_textsChanged_160 : decode cX6_textsChanged 160 = .ok (.sipush 240, 3) := by decide +kernel
theorem dX6_textsChanged_163 : decode cX6_textsChanged 163 = .ok (.bipush 40, 2) := by decide +kernel
theorem dX6_textsChanged_165 : decode cX6_textsChanged 165 = .ok (.iload_n 3, 1) := by decide +kernel
theorem dX6_textsChanged_166 : decode cX6_textsChanged 166 = .ok (.imul, 1) := by decide +kernel
theorem dX6_textsChanged_167 : decode cX6_textsChanged 167 = .ok (.iadd, 1) := by decide +kernel
theorem dX6_textsChanged_168 : decode cX6_textsChanged 168 = .ok (.iload 6, 2) := by decide +kernel
theorem dX6_textsChanged_170 : decode cX6_textsChanged 170 = .ok (.iadd, 1) := by decide +kernel
theorem dX6_textsChanged_171 : decode cX6_textsChanged 171 = .ok (.iconst 0, 1) := by decide +kernel
theorem dX6_textsChanged_172 : decode cX6_textsChanged 172 = .ok (.iastore, 1) := by decide +kernel
theorem dX6_textsChanged_173 : decode cX6_textsChanged 173 = .ok (.iinc 6 1, 3) := by decide +kernel
theorem dX6_textsChanged_176 : decode cX6_textsChanged 176 = .ok (.goto (-149), 3) := by decide +kernel
theorem dX6_textsChanged_179 : decode cX6_textsChanged 179 = .ok (.iload_n 2, 1) := by decide +kernel
theorem dX6_textsChanged_180 : decode cX6_textsChanged 180 = .ok (.iload 5, 2) := by decide +kernel
theorem dX6_textsChanged_182 : decode cX6_textsChanged 182 = .ok (.ifCond .eq 7, 3) := by decide +kernel
theorem dX6_textsChanged_185 : decode cX6_textsChanged 185 = .ok (.iconst 1, 1) := by decide +kernel
theorem dX6_textsChanged_186 : decode cX6_textsChanged 186 = .ok (.goto 4, 3) := by decide +kernel
theorem dX6_textsChanged_189 : decode cX6_textsChanged 189 = .ok (.iconst 0, 1) := by decide +kernel
theorem dX6_textsChanged_190 : decode cX6_textsChanged 190 = .ok (.iadd, 1) := by decide +kernel
theorem dX6_textsChanged_191 : decode cX6_textsChanged 191 = .ok (.istore_n 2, 1) := by decide +kernel
theorem dX6_textsChanged_192 : decode cX6_textsChanged 192 = .ok (.iinc 3 1, 3) := by decide +kernel
theorem dX6_textsChanged_195 : decode cX6_textsChanged 195 = .ok (.goto (-189), 3) := by decide +kernel
theorem dX6_textsChanged_198 : decode cX6_textsChanged 198 = .ok (.iload_n 2, 1) := by decide +kernel
theorem dX6_textsChanged_199 : decode cX6_textsChanged 199 = .ok (.ireturn, 1) := by decide +kernel
theorem dX6_isText_0 : decode cX6_isText 0 = .ok (.iload_n 1, 1) := by decide +kernel
theorem dX6_isText_1 : decode cX6_isText 1 = .ok (.iconst 0, 1) := by decide +kernel
theorem dX6_isText_2 : decode cX6_isText 2 = .ok (.aload_n 0, 1) := by decide +kernel
theorem dX6_isText_3 : decode cX6_isText 3 = .ok (.getfield 162, 3) := by decide +kernel
theorem dX6_isText_6 : decode cX6_isText 6 = .ok (.iconst 1, 1) := by decide +kernel
theorem dX6_isText_7 : decode cX6_isText 7 = .ok (.isub, 1) := by decide +kernel
theorem dX6_isText_8 : decode cX6_isText 8 = .ok (.invokestatic 77, 3) := by decide +kernel
theorem dX6_isText_11 : decode cX6_isText 11 = .ok (.ireturn, 1) := by decide +kernel
theorem dX6_setText_0 : decode cX6_setText 0 = .ok (.aload_n 0, 1) := by decide +kernel
theorem dX6_setText_1 : decode cX6_setText 1 = .ok (.iload_n 1, 1) := by decide +kernel
theorem dX6_setText_2 : decode cX6_setText 2 = .ok (.invokevirtual 171, 3) := by decide +kernel
theorem dX6_setText_5 : decode cX6_setText 5 = .ok (.ifCond .ne 20, 3) := by decide +kernel
theorem dX6_setText_8 : decode cX6_setText 8 = .ok (.iload_n 1, 1) := by decide +kernel
theorem dX6_setText_9 : decode cX6_setText 9 = .ok (.aload_n 0, 1) := by decide +kernel
theorem dX6_setText_10 : decode cX6_setText 10 = .ok (.getfield 162, 3) := by decide +kernel
theorem dX6_setText_13 : decode cX6_setText 13 = .ok (.if_icmp .ne 16, 3) := by decide +kernel
theorem dX6_setText_16 : decode cX6_setText 16 = .ok (.aload_n 0, 1) := by decide +kernel
theorem dX6_setText_17 : decode cX6_setText 17 = .ok (.getfield 162, 3) := by decide +kernel
theorem dX6_setText_20 : decode cX6_setText 20 = .ok (.bipush 6, 2) := by decide +kernel
theorem dX6_setText_22 : decode cX6_setText 22 = .ok (.if_icmp .ge 7, 3) := by decide +kernel
theorem dX6_setText_25 : decode cX6_setText 25 = .ok (.iconst 1, 1) := by decide +kernel
theorem dX6_setText_26 : decode cX6_setText 26 = .ok (.goto 4, 3) := by decide +kernel
theorem dX6_setText_29 : decode cX6_setText 29 = .ok (.iconst 0, 1) := by decide +kernel
theorem dX6_setText_30 : decode cX6_setText 30 = .ok (.istore_n 3, 1) := by decide +kernel
theorem dX6_setText_31 : decode cX6_setText 31 = .ok (.aload_n 0, 1) := by decide +kernel
theorem dX6_setText_32 : decode cX6_setText 32 = .ok (.iload_n 3, 1) := by decide +kernel
theorem dX6_setText_33 : decode cX6_setText 33 = .ok (.ifCond .ne 7, 3) := by decide +kernel
theorem dX6_setText_36 : decode cX6_setText 36 = .ok (.iconst 1, 1) := by decide +kernel
theorem dX6_setText_37 : decode cX6_setText 37 = .ok (.goto 17, 3) := by decide +kernel
theorem dX6_setText_40 : decode cX6_setText 40 = .ok (.iload_n 2, 1) := by decide +kernel
theorem dX6_setText_41 : decode cX6_setText 41 = .ok (.iconst 1, 1) := by decide +kernel
theorem dX6_setText_42 : decode cX6_setText 42 = .ok (.iconst 2, 1) := by decide +kernel
theorem dX6_setText_43 : decode cX6_setText 43 = .ok (.invokestatic 77, 3) := by decide +kernel
theorem dX6_setText_46 : decode cX6_setText 46 = .ok (.ifCond .ne 7, 3) := by decide +kernel
theorem dX6_setText_49 : decode cX6_setText 49 = .ok (.iconst 2, 1) := by decide +kernel
theorem dX6_setText_50 : decode cX6_setText 50 = .ok (.goto 4, 3) := by decide +kernel
theorem dX6_setText_53 : decode cX6_setText 53 = .ok (.iconst 0, 1) := by decide +kernel
theorem dX6_setText_54 : decode cX6_setText 54 = .ok (.invokevirtual 84, 3) := by decide +kernel
theorem dX6_setText_57 : decode cX6_setText 57 = .ok (.ifCond .ne 5, 3) := by decide +kernel
theorem dX6_setText_60 : decode cX6_setText 60 = .ok (.iconst 0, 1) := by decide +kernel
theorem dX6_setText_61 : decode cX6_setText 61 = .ok (.ireturn, 1) := by decide +kernel
theorem dX6_setText_62 : decode cX6_setText 62 = .ok (.aload_n 0, 1) := by decide +kernel
theorem dX6_setText_63 : decode cX6_setText 63 = .ok (.dup, 1) := by decide +kernel
theorem dX6_setText_64 : decode cX6_setText 64 = .ok (.getfield 162, 3) := by decide +kernel
theorem dX6_setText_67 : decode cX6_setText 67 = .ok (.iload_n 1, 1) := by decide +kernel
theorem dX6_setText_68 : decode cX6_setText 68 = .ok (.aload_n 0, 1) := by decide +kernel
theorem dX6_setText_69 : decode cX6_setText 69 = .ok (.getfield 162, 3) := by decide +kernel
theorem dX6_setText_72 : decode cX6_setText 72 = .ok (.if_icmp .ne 7, 3) := by decide +kernel
theorem dX6_setText_75 : decode cX6_setText 75 = .ok (.iconst 1, 1) := by decide +kernel
theorem dX6_setText_76 : decode cX6_setText 76 = .ok (.goto 4, 3) := by decide +kernel
theorem dX6_setText_79 : decode cX6_setText 79 = .ok (.iconst 0, 1) := by decide +kernel
theorem dX6_setText_80 : decode cX6_setText 80 = .ok (.iadd, 1) := by decide +kernel
theorem dX6_setText_81 : decode cX6_setText 81 = .ok (.putfield 162, 3) := by decide +kernel
theorem dX6_setText_84 : decode cX6_setText 84 = .ok (.iconst 0, 1) := by decide +kernel
theorem dX6_setText_85 : decode cX6_setText 85 = .ok (.istore 4, 2) := by decide +kernel
theorem dX6_setText_87 : decode cX6_setText 87 = .ok (.iload 4, 2) := by decide +kernel
theorem dX6_setText_89 : decode cX6_setText 89 = .ok (.bipush 80, 2) := by decide +kernel
theorem dX6_setText_91 : decode cX6_setText 91 = .ok (.if_icmp .ge 41, 3) := by decide +kernel
theorem dX6_setText_94 : decode cX6_setText 94 = .ok (.aload_n 0, 1) := by decide +kernel
theorem dX6_setText_95 : decode cX6_setText 95 = .ok (.getfield 31, 3) := by decide +kernel
theorem dX6_setText_98 : decode cX6_setText 98 = .ok (.bipush 80, 2) := by decide +kernel
theorem dX6_setText_100 : decode cX6_setText 100 = .ok (.iload_n 1, 1) := by decide +kernel
theorem dX6_setText_101 : decode cX6_setText 101 = .ok (.imul, 1) := by decide +kernel
theorem dX6_setText_102 : decode cX6_setText 102 = .ok (.iload 4, 2) := by decide +kernel
theorem dX6_setText_104 : decode cX6_setText 104 = .ok (.iadd, 1) := by decide +kernel
theorem dX6_setText_105 : decode cX6_setText 105 = .ok (.iload 4, 2) := by decide +kernel
theorem dX6_setText_107 : decode cX6_setText 107 = .ok (.aload_n 0, 1) := by decide +kernel
theorem dX6_setText_108 : decode cX6_setText 108 = .ok (.getfield 81, 3) := by decide +kernel
theorem dX6_setText_111 : decode cX6_setText 111 = .ok (.if_icmp .ge 13, 3) := by decide +kernel
theorem dX6_setText_114 : decode cX6_setText 114 = .ok (.aload_n 0, 1) := by decide +kernel
theorem dX6_setText_115 : decode cX6_setText 115 = .ok (.getfield 7, 3) := by decide +kernel
theorem dX6_setText_118 : decode cX6_setText 118 = .ok (.iload 4, 2) := by decide +kernel
theorem dX6_setText_120 : decode cX6_setText 120 = .ok (.iaload, 1) := by decide +kernel
theorem dX6_setText_121 : decode cX6_setText 121 = .ok (.goto 4, 3) := by decide +kernel
theorem dX6_setText_124 : decode cX6_setText 124 = .ok (.iconst 0, 1) := by decide +kernel
theorem dX6_setText_125 : decode cX6_setText 125 = .ok (.iastore, 1) := by decide +kernel
theorem dX6_setText_126 : decode cX6_setText 126 = .ok (.iinc 4 1, 3) := by decide +kernel
theorem dX6_setText_129 : decode cX6_setText 129 = .ok (.goto (-42), 3) := by decide +kernel
theorem dX6_setText_132 : decode cX6_setText 132 = .ok (.aload_n 0, 1) := by decide +kernel
theorem dX6_setText_133 : decode cX6_setText 133 = .ok (.getfield 34, 3) := by decide +kernel
theorem dX6_setText_136 : decode cX6_setText 136 = .ok (.iload_n 1, 1) := by decide +kernel
theorem dX6_setText_137 : decode cX6_setText 137 = .ok (.aload_n 0, 1) := by decide +kernel
theorem dX6_setText_138 : decode cX6_setText 138 = .ok (.getfield 81, 3) := by decide +kernel
theorem dX6_setText_141 : decode cX6_setText 141 = .ok (.iastore, 1) := by decide +kernel
theorem dX6_setText_142 : decode cX6_setText 142 = .ok (.aload_n 0, 1) := by decide +kernel
theorem dX6_setText_143 : decode cX6_setText 143 = .ok (.getfield 37, 3) := by decide +kernel
theorem dX6_setText_146 : decode cX6_setText 146 = .ok (.iload_n 1, 1) := by decide +kernel
theorem dX6_setText_147 : decode cX6_setText 147 = .ok (.iload_n 2, 1) := by decide +kernel
theorem dX6_setText_148 : decode cX6_setText 148 = .ok (.iastore, 1) := by decide +kernel
theorem dX6_setText_149 : decode cX6_setText 149 = .ok (.aload_n 0, 1) := by decide +kernel
theorem dX6_setText_150 : decode cX6_setText 150 = .ok (.iconst 0, 1) := by decide +kernel
theorem dX6_setText_151 : decode cX6_setText 151 = .ok (.putfield 81, 3) := by decide +kernel
theorem dX6_setText_154 : decode cX6_setText 154 = .ok (.iconst 0, 1) := by decide +kernel
theorem dX6_setText_155 : decode cX6_setText 155 = .ok (.istore 4, 2) := by decide +kernel
theorem dX6_setText_157 : decode cX6_setText 157 = .ok (.iload 4, 2) := by decide +kernel
theorem dX6_setText_159 : decode cX6_setText 159 = .ok (.bipush 40, 2) := by decide +kernel
theorem dX6_setText_161 : decode cX6_setText 161 = .ok (.if_icmp .ge 39, 3) := by decide +kernel
theorem dX6_setText_164 : decode cX6_setText 164 = .ok (.aload_n 0, 1) := by decide +kernel
theorem dX6_setText_165 : decode cX6_setText 165 = .ok (.getfield 53, 3) := by decide +kernel
theorem dX6_setText_168 : decode cX6_setText 168 = .ok (.bipush 40, 2) := by decide +kernel
theorem dX6_setText_170 : decode cX6_setText 170 = .ok (.iload_n 1, 1) := by decide +kernel
theorem dX6_setText_171 : decode cX6_setText 171 = .ok (.imul, 1) := by decide +kernel
theorem dX6_setText_172 : decode cX6_setText 172 = .ok (.iload 4, 2) := by decide +kernel
theorem dX6_setText_174 : decode cX6_setText 174 = .ok (.iadd, 1) := by decide +kernel
theorem dX6_setText_175 : decode cX6_setText 175 = .ok (.iconst 0, 1) := by decide +kernel
theorem dX6_setText_176 : decode cX6_setText 176 = .ok (.iastore, 1) := by decide +kernel
theorem dX6_setText_177 : decode cX6_setText 177 = .ok (.aload_n 0, 1) := by decide +kernel
theorem dX6_setText_178 : decode cX6_setText 178 = .ok (.getfield 53, 3) := by decide +kernel
theorem dX6_setText_181 : decode cX6_setText 181 = .ok (.sipush 240, 3) := by decide +kernel
theorem dX6_setText_184 : decode cX6_setText 184 = .ok (.bipush 40, 2) := by decide +kernel
theorem dX6_setText_186 : decode cX6_setText 186 = .ok (.iload_n 1, 1) := by decide +kernel
theorem dX6_setText_187 : decode cX6_setText 187 = .ok (.imul, 1) := by decide +kernel
theorem dX6_setText_188 : decode cX6_setText 188 = .ok (.iadd, 1) := by decide +kernel
theorem dX6_setText_189 : decode cX6_setText 189 = .ok (.iload 4, 2) := by decide +kernel
theorem dX6_setText_191 : decode cX6_setText 191 = .ok (.iadd, 1) := by decide +kernel
theorem dX6_setText_192 : decode cX6_setText 192 = .ok (.iconst 0, 1) := by decide +kernel
theorem dX6_setText_193 : decode cX6_setText 193 = .ok (.iastore, 1) := by decide +kernel
theorem dX6_setText_194 : decode cX6_setText 194 = .ok (.iinc 4 1, 3) := by decide +kernel
theorem dX6_setText_197 : decode cX6_setText 197 = .ok (.goto (-40), 3) := by decide +kernel
theorem dX6_setText_200 : decode cX6_setText 200 = .ok (.aload_n 0, 1) := by decide +kernel
theorem dX6_setText_201 : decode cX6_setText 201 = .ok (.iload_n 1, 1) := by decide +kernel
theorem dX6_setText_202 : decode cX6_setText 202 = .ok (.invokevirtual 165, 3) := by decide +kernel
theorem dX6_setText_205 : decode cX6_setText 205 = .ok (.ireturn, 1) := by decide +kernel
theorem dX6_setWidth_0 : decode cX6_setWidth 0 = .ok (.aload_n 0, 1) := by decide +kernel
theorem dX6_setWidth_1 : decode cX6_setWidth 1 = .ok (.iload_n 1, 1) := by decide +kernel
theorem dX6_setWidth_2 : decode cX6_setWidth 2 = .ok (.bipush 8, 2) := by decide +kernel
theorem dX6_setWidth_4 : decode cX6_setWidth 4 = .ok (.bipush 40, 2) := by decide +kernel
theorem dX6_setWidth_6 : decode cX6_setWidth 6 = .ok (.invokestatic 77, 3) := by decide +kernel
theorem dX6_setWidth_9 : decode cX6_setWidth 9 = .ok (.ifCond .eq 7, 3) := by decide +kernel
theorem dX6_setWidth_12 : decode cX6_setWidth 12 = .ok (.iconst 0, 1) := by decide +kernel
theorem dX6_setWidth_13 : decode cX6_setWidth 13 = .ok (.goto 4, 3) := by decide +kernel
theorem dX6_setWidth_16 : decode cX6_setWidth 16 = .ok (.iconst 1, 1) := by decide +kernel
theorem dX6_setWidth_17 : decode cX6_setWidth 17 = .ok (.invokevirtual 84, 3) := by decide +kernel
theorem dX6_setWidth_20 : decode cX6_setWidth 20 = .ok (.ifCond .ne 5, 3) := by decide +kernel
theorem dX6_setWidth_23 : decode cX6_setWidth 23 = .ok (.iconst 0, 1) := by decide +kernel
theorem dX6_setWidth_24 : decode cX6_setWidth 24 = .ok (.ireturn, 1) := by decide +kernel
theorem dX6_setWidth_25 : decode cX6_setWidth 25 = .ok (.aload_n 0, 1) := by decide +kernel
theorem dX6_setWidth_26 : decode cX6_setWidth 26 = .ok (.getfield 40, 3) := by decide +kernel
theorem dX6_setWidth_29 : decode cX6_setWidth 29 = .ok (.istore_n 2, 1) := by decide +kernel
theorem dX6_setWidth_30 : decode cX6_setWidth 30 = .ok (.aload_n 0, 1) := by decide +kernel
theorem dX6_setWidth_31 : decode cX6_setWidth 31 = .ok (.iload_n 1, 1) := by decide +kernel
theorem dX6_setWidth_32 : decode cX6_setWidth 32 = .ok (.putfield 40, 3) := by decide +kernel
theorem dX6_setWidth_35 : decode cX6_setWidth 35 = .ok (.iload_n 2, 1) := by decide +kernel
theorem dX6_setWidth_36 : decode cX6_setWidth 36 = .ok (.ireturn, 1) := by decide +kernel
theorem dX6_words_0 : decode cX6_words 0 = .ok (.aload_n 0, 1) := by decide +kernel
theorem dX6_words_1 : decode cX6_words 1 = .ok (.aload_n 0, 1) := by decide +kernel
theorem dX6_words_2 : decode cX6_words 2 = .ok (.iload_n 1, 1) := by decide +kernel
theorem dX6_words_3 : decode cX6_words 3 = .ok (.invokevirtual 171, 3) := by decide +kernel
theorem dX6_words_6 : decode cX6_words 6 = .ok (.ifCond .eq 7, 3) := by decide +kernel
theorem dX6_words_9 : decode cX6_words 9 = .ok (.iconst 0, 1) := by decide +kernel
theorem dX6_words_10 : decode cX6_words 10 = .ok (.goto 4, 3) := by decide +kernel
theorem dX6_words_13 : decode cX6_words 13 = .ok (.iconst 1, 1) := by decide +kernel
theorem dX6_words_14 : decode cX6_words 14 = .ok (.invokevirtual 84, 3) := by decide +kernel
theorem dX6_words_17 : decode cX6_words 17 = .ok (.ifCond .eq 11, 3) := by decide +kernel
theorem dX6_words_20 : decode cX6_words 20 = .ok (.aload_n 0, 1) := by decide +kernel
theorem dX6_words_21 : decode cX6_words 21 = .ok (.iload_n 1, 1) := by decide +kernel
theorem dX6_words_22 : decode cX6_words 22 = .ok (.invokevirtual 165, 3) := by decide +kernel
theorem dX6_words_25 : decode cX6_words 25 = .ok (.goto 4, 3) := by decide +kernel
theorem dX6_words_28 : decode cX6_words 28 = .ok (.iconst 0, 1) := by decide +kernel
theorem dX6_words_29 : decode cX6_words 29 = .ok (.ireturn, 1) := by decide +kernel
theorem dX6_isWord_0 : decode cX6_isWord 0 = .ok (.aload_n 0, 1) := by decide +kernel
theorem dX6_isWord_1 : decode cX6_isWord 1 = .ok (.iload_n 1, 1) := by decide +kernel
theorem dX6_isWord_2 : decode cX6_isWord 2 = .ok (.invokevirtual 171, 3) := by decide +kernel
theorem dX6_isWord_5 : decode cX6_isWord 5 = .ok (.ifCond .eq 22, 3) := by decide +kernel
theorem dX6_isWord_8 : decode cX6_isWord 8 = .ok (.iload_n 2, 1) := by decide +kernel
theorem dX6_isWord_9 : decode cX6_isWord 9 = .ok (.iconst 0, 1) := by decide +kernel
theorem dX6_isWord_10 : decode cX6_isWord 10 = .ok (.aload_n 0, 1) := by decide +kernel
theorem dX6_isWord_11 : decode cX6_isWord 11 = .ok (.iload_n 1, 1) := by decide +kernel
theorem dX6_isWord_12 : decode cX6_isWord 12 = .ok (.invokevirtual 165, 3) := by decide +kernel
theorem dX6_isWord_15 : decode cX6_isWord 15 = .ok (.iconst 1, 1) := by decide +kernel
theorem dX6_isWord_16 : decode cX6_isWord 16 = .ok (.isub, 1) := by decide +kernel
theorem dX6_isWord_17 : decode cX6_isWord 17 = .ok (.invokestatic 77, 3) := by decide +kernel
theorem dX6_isWord_20 : decode cX6_isWord 20 = .ok (.ifCond .eq 7, 3) := by decide +kernel
theorem dX6_isWord_23 : decode cX6_isWord 23 = .ok (.iconst 1, 1) := by decide +kernel
theorem dX6_isWord_24 : decode cX6_isWord 24 = .ok (.goto 4, 3) := by decide +kernel
theorem dX6_isWord_27 : decode cX6_isWord 27 = .ok (.iconst 0, 1) := by decide +kernel
theorem dX6_isWord_28 : decode cX6_isWord 28 = .ok (.ireturn, 1) := by decide +kernel
theorem dX6_length_0 : decode cX6_length 0 = .ok (.aload_n 0, 1) := by decide +kernel
theorem dX6_length_1 : decode cX6_length 1 = .ok (.aload_n 0, 1) := by decide +kernel
theorem dX6_length_2 : decode cX6_length 2 = .ok (.iload_n 1, 1) := by decide +kernel
theorem dX6_length_3 : decode cX6_length 3 = .ok (.iload_n 2, 1) := by decide +kernel
theorem dX6_length_4 : decode cX6_length 4 = .ok (.invokevirtual 174, 3) := by decide +kernel
theorem dX6_length_7 : decode cX6_length 7 = .ok (.ifCond .eq 7, 3) := by decide +kernel
theorem dX6_length_10 : decode cX6_length 10 = .ok (.iconst 0, 1) := by decide +kernel
theorem dX6_length_11 : decode cX6_length 11 = .ok (.goto 4, 3) := by decide +kernel
theorem dX6_length_14 : decode cX6_length 14 = .ok (.iconst 1, 1) := by decide +kernel
theorem dX6_length_15 : decode cX6_length 15 = .ok (.invokevirtual 84, 3) := by decide +kernel
theorem dX6_length_18 : decode cX6_length 18 = .ok (.ifCond .ne 5, 3) := by decide +kernel
theorem dX6_length_21 : decode cX6_length 21 = .ok (.iconst 0, 1) := by decide +kernel
theorem dX6_length_22 : decode cX6_length 22 = .ok (.ireturn, 1) := by decide +kernel
theorem dX6_length_23 : decode cX6_length 23 = .ok (.aload_n 0, 1) := by decide +kernel
theorem dX6_length_24 : decode cX6_length 24 = .ok (.iload_n 1, 1) := by decide +kernel
theorem dX6_length_25 : decode cX6_length 25 = .ok (.iload_n 2, 1) := by decide +kernel
theorem dX6_length_26 : decode cX6_length 26 = .ok (.invokevirtual 168, 3) := by decide +kernel
theorem dX6_length_29 : decode cX6_length 29 = .ok (.aload_n 0, 1) := by decide +kernel
theorem dX6_length_30 : decode cX6_length 30 = .ok (.getfield 155, 3) := by decide +kernel
theorem dX6_length_33 : decode cX6_length 33 = .ok (.ireturn, 1) := by decide +kernel
theorem dX6_cellOf_0 : decode cX6_cellOf 0 = .ok (.aload_n 0, 1) := by decide +kernel
theorem dX6_cellOf_1 : decode cX6_cellOf 1 = .ok (.iload_n 1, 1) := by decide +kernel
theorem dX6_cellOf_2 : decode cX6_cellOf 2 = .ok (.iload_n 2, 1) := by decide +kernel
theorem dX6_cellOf_3 : decode cX6_cellOf 3 = .ok (.invokevirtual 174, 3) := by decide +kernel
theorem dX6_cellOf_6 : decode cX6_cellOf 6 = .ok (.istore 4, 2) := by decide +kernel
theorem dX6_cellOf_8 : decode cX6_cellOf 8 = .ok (.iload 4, 2) := by decide +kernel
theorem dX6_cellOf_10 : decode cX6_cellOf 10 = .ok (.ifCond .eq 9, 3) := by decide +kernel
theorem dX6_cellOf_13 : decode cX6_cellOf 13 = .ok (.aload_n 0, 1) := by decide +kernel
theorem dX6_cellOf_14 : decode cX6_cellOf 14 = .ok (.iload_n 1, 1) := by decide +kernel
theorem dX6_cellOf_15 : decode cX6_cellOf 15 = .ok (.iload_n 2, 1) := by decide +kernel
theorem dX6_cellOf_16 : decode cX6_cellOf 16 = .ok (.invokevirtual 168, 3) := by decide +kernel
theorem dX6_cellOf_19 : decode cX6_cellOf 19 = .ok (.aload_n 0, 1) := by decide +kernel
theorem dX6_cellOf_20 : decode cX6_cellOf 20 = .ok (.iload 4, 2) := by decide +kernel
theorem dX6_cellOf_22 : decode cX6_cellOf 22 = .ok (.ifCond .ne 7, 3) := by decide +kernel
theorem dX6_cellOf_25 : decode cX6_cellOf 25 = .ok (.iconst 1, 1) := by decide +kernel
theorem dX6_cellOf_26 : decode cX6_cellOf 26 = .ok (.goto 22, 3) := by decide +kernel
theorem dX6_cellOf_29 : decode cX6_cellOf 29 = .ok (.iload_n 3, 1) := by decide +kernel
theorem dX6_cellOf_30 : decode cX6_cellOf 30 = .ok (.iconst 0, 1) := by decide +kernel
theorem dX6_cellOf_31 : decode cX6_cellOf 31 = .ok (.aload_n 0, 1) := by decide +kernel
theorem dX6_cellOf_32 : decode cX6_cellOf 32 = .ok (.getfield 155, 3) := by decide +kernel
theorem dX6_cellOf_35 : decode cX6_cellOf 35 = .ok (.iconst 1, 1) := by decide +kernel
theorem dX6_cellOf_36 : decode cX6_cellOf 36 = .ok (.isub, 1) := by decide +kernel
theorem dX6_cellOf_37 : decode cX6_cellOf 37 = .ok (.invokestatic 77, 3) := by decide +kernel
theorem dX6_cellOf_40 : decode cX6_cellOf 40 = .ok (.ifCond .ne 7, 3) := by decide +kernel
theorem dX6_cellOf_43 : decode cX6_cellOf 43 = .ok (.iconst 2, 1) := by decide +kernel
theorem dX6_cellOf_44 : decode cX6_cellOf 44 = .ok (.goto 4, 3) := by decide +kernel
theorem dX6_cellOf_47 : decode cX6_cellOf 47 = .ok (.iconst 0, 1) := by decide +kernel
theorem dX6_cellOf_48 : decode cX6_cellOf 48 = .ok (.invokevirtual 84, 3) := by decide +kernel
theorem dX6_cellOf_51 : decode cX6_cellOf 51 = .ok (.ifCond .eq 12, 3) := by decide +kernel
theorem dX6_cellOf_54 : decode cX6_cellOf 54 = .ok (.aload_n 0, 1) := by decide +kernel
theorem dX6_cellOf_55 : decode cX6_cellOf 55 = .ok (.getfield 62, 3) := by decide +kernel
theorem dX6_cellOf_58 : decode cX6_cellOf 58 = .ok (.iload_n 3, 1) := by decide +kernel
theorem dX6_cellOf_59 : decode cX6_cellOf 59 = .ok (.iaload, 1) := by decide +kernel
theorem dX6_cellOf_60 : decode cX6_cellOf 60 = .ok (.goto 4, 3) := by decide +kernel
theorem dX6_cellOf_63 : decode cX6_cellOf 63 = .ok (.iconst 0, 1) := by decide +kernel
theorem dX6_cellOf_64 : decode cX6_cellOf 64 = .ok (.ireturn, 1) := by decide +kernel
theorem dX6_addsCell_0 : decode cX6_addsCell 0 = .ok (.aload_n 0, 1) := by decide +kernel
theorem dX6_addsCell_1 : decode cX6_addsCell 1 = .ok (.getfield 68, 3) := by decide +kernel
theorem dX6_addsCell_4 : decode cX6_addsCell 4 = .ok (.bipush 40, 2) := by decide +kernel
theorem dX6_addsCell_6 : decode cX6_addsCell 6 = .ok (.aload_n 0, 1) := by decide +kernel
theorem dX6_addsCell_7 : decode cX6_addsCell 7 = .ok (.getfield 177, 3) := by decide +kernel
theorem dX6_addsCell_10 : decode cX6_addsCell 10 = .ok (.iconst 1, 1) := by decide +kernel
theorem dX6_addsCell_11 : decode cX6_addsCell 11 = .ok (.isub, 1) := by decide +kernel
theorem dX6_addsCell_12 : decode cX6_addsCell 12 = .ok (.imul, 1) := by decide +kernel
theorem dX6_addsCell_13 : decode cX6_addsCell 13 = .ok (.aload_n 0, 1) := by decide +kernel
theorem dX6_addsCell_14 : decode cX6_addsCell 14 = .ok (.getfield 71, 3) := by decide +kernel
theorem dX6_addsCell_17 : decode cX6_addsCell 17 = .ok (.aload_n 0, 1) := by decide +kernel
theorem dX6_addsCell_18 : decode cX6_addsCell 18 = .ok (.getfield 177, 3) := by decide +kernel
theorem dX6_addsCell_21 : decode cX6_addsCell 21 = .ok (.iconst 1, 1) := by decide +kernel
theorem dX6_addsCell_22 : decode cX6_addsCell 22 = .ok (.isub, 1) := by decide +kernel
theorem dX6_addsCell_23 : decode cX6_addsCell 23 = .ok (.iaload, 1) := by decide +kernel
theorem dX6_addsCell_24 : decode cX6_addsCell 24 = .ok (.iadd, 1) := by decide +kernel
theorem dX6_addsCell_25 : decode cX6_addsCell 25 = .ok (.iload_n 1, 1) := by decide +kernel
theorem dX6_addsCell_26 : decode cX6_addsCell 26 = .ok (.iastore, 1) := by decide +kernel
theorem dX6_addsCell_27 : decode cX6_addsCell 27 = .ok (.aload_n 0, 1) := by decide +kernel
theorem dX6_addsCell_28 : decode cX6_addsCell 28 = .ok (.getfield 71, 3) := by decide +kernel
theorem dX6_addsCell_31 : decode cX6_addsCell 31 = .ok (.aload_n 0, 1) := by decide +kernel
theorem dX6_addsCell_32 : decode cX6_addsCell 32 = .ok (.getfield 177, 3) := by decide +kernel
theorem dX6_addsCell_35 : decode cX6_addsCell 35 = .ok (.iconst 1, 1) := by decide +kernel
theorem dX6_addsCell_36 : decode cX6_addsCell 36 = .ok (.isub, 1) := by decide +kernel
theorem dX6_addsCell_37 : decode cX6_addsCell 37 = .ok (.dup2, 1) := by decide +kernel
theorem dX6_addsCell_38 : decode cX6_addsCell 38 = .ok (.iaload, 1) := by decide +kernel
theorem dX6_addsCell_39 : decode cX6_addsCell 39 = .ok (.iconst 1, 1) := by decide +kernel
theorem dX6_addsCell_40 : decode cX6_addsCell 40 = .ok (.iadd, 1) := by decide +kernel
theorem dX6_addsCell_41 : decode cX6_addsCell 41 = .ok (.iastore, 1) := by decide +kernel
theorem dX6_addsCell_42 : decode cX6_addsCell 42 = .ok (.return_, 1) := by decide +kernel
theorem dX6_begins_0 : decode cX6_begins 0 = .ok (.aload_n 0, 1) := by decide +kernel
theorem dX6_begins_1 : decode cX6_begins 1 = .ok (.getfield 71, 3) := by decide +kernel
theorem dX6_begins_4 : decode cX6_begins 4 = .ok (.aload_n 0, 1) := by decide +kernel
theorem dX6_begins_5 : decode cX6_begins 5 = .ok (.getfield 177, 3) := by decide +kernel
theorem dX6_begins_8 : decode cX6_begins 8 = .ok (.iconst 0, 1) := by decide +kernel
theorem dX6_begins_9 : decode cX6_begins 9 = .ok (.iastore, 1) := by decide +kernel
theorem dX6_begins_10 : decode cX6_begins 10 = .ok (.aload_n 0, 1) := by decide +kernel
theorem dX6_begins_11 : decode cX6_begins 11 = .ok (.dup, 1) := by decide +kernel
theorem dX6_begins_12 : decode cX6_begins 12 = .ok (.getfield 177, 3) := by decide +kernel
theorem dX6_begins_15 : decode cX6_begins 15 = .ok (.iconst 1, 1) := by decide +kernel
theorem dX6_begins_16 : decode cX6_begins 16 = .ok (.iadd, 1) := by decide +kernel
theorem dX6_begins_17 : decode cX6_begins 17 = .ok (.putfield 177, 3) := by decide +kernel
theorem dX6_begins_20 : decode cX6_begins 20 = .ok (.return_, 1) := by decide +kernel
theorem dX6_breaks_0 : decode cX6_breaks 0 = .ok (.iconst (-1), 1) := by decide +kernel
theorem dX6_breaks_1 : decode cX6_breaks 1 = .ok (.istore_n 3, 1) := by decide +kernel
theorem dX6_breaks_2 : decode cX6_breaks 2 = .ok (.aload_n 0, 1) := by decide +kernel
theorem dX6_breaks_3 : decode cX6_breaks 3 = .ok (.iload_n 1, 1) := by decide +kernel
theorem dX6_breaks_4 : decode cX6_breaks 4 = .ok (.invokevirtual 165, 3) := by decide +kernel
theorem dX6_breaks_7 : decode cX6_breaks 7 = .ok (.istore 4, 2) := by decide +kernel
theorem dX6_breaks_9 : decode cX6_breaks 9 = .ok (.aload_n 0, 1) := by decide +kernel
theorem dX6_breaks_10 : decode cX6_breaks 10 = .ok (.iconst 0, 1) := by decide +kernel
theorem dX6_breaks_11 : decode cX6_breaks 11 = .ok (.putfield 177, 3) := by decide +kernel
theorem dX6_breaks_14 : decode cX6_breaks 14 = .ok (.iconst 0, 1) := by decide +kernel
theorem dX6_breaks_15 : decode cX6_breaks 15 = .ok (.istore 5, 2) := by decide +kernel
theorem dX6_breaks_17 : decode cX6_breaks 17 = .ok (.iload 5, 2) := by decide +kernel
theorem dX6_breaks_19 : decode cX6_breaks 19 = .ok (.iload 4, 2) := by decide +kernel
theorem dX6_breaks_21 : decode cX6_breaks 21 = .ok (.if_icmp .ge 140, 3) := by decide +kernel
theorem dX6_breaks_24 : decode cX6_breaks 24 = .ok (.aload_n 0, 1) := by decide +kernel
theorem dX6_breaks_25 : decode cX6_breaks 25 = .ok (.iload_n 1, 1) := by decide +kernel
theorem dX6_breaks_26 : decode cX6_breaks 26 = .ok (.iload 5, 2) := by decide +kernel
theorem dX6_breaks_28 : decode cX6_breaks 28 = .ok (.invokevirtual 168, 3) := by decide +kernel
theorem dX6_breaks_31 : decode cX6_breaks 31 = .ok (.aload_n 0, 1) := by decide +kernel
theorem dX6_breaks_32 : decode cX6_breaks 32 = .ok (.getfield 177, 3) := by decide +kernel
theorem dX6_breaks_35 : decode cX6_breaks 35 = .ok (.ifCond .le 32, 3) := by decide +kernel
theorem dX6_breaks_38 : decode cX6_breaks 38 = .ok (.aload_n 0, 1) := by decide +kernel
theorem dX6_breaks_39 : decode cX6_breaks 39 = .ok (.getfield 71, 3) := by decide +kernel
theorem dX6_breaks_42 : decode cX6_breaks 42 = .ok (.aload_n 0, 1) := by decide +kernel
theorem dX6_breaks_43 : decode cX6_breaks 43 = .ok (.getfield 177, 3) := by decide +kernel
theorem dX6_breaks_46 : decode cX6_breaks 46 = .ok (.iconst 1, 1) := by decide +kernel
theorem dX6_breaks_47 : decode cX6_breaks 47 = .ok (.isub, 1) := by decide +kernel
theorem dX6_breaks_48 : decode cX6_breaks 48 = .ok (.iaload, 1) := by decide +kernel
theorem dX6_breaks_49 : decode cX6_breaks 49 = .ok (.iconst 1, 1) := by decide +kernel
theorem dX6_breaks_50 : decode cX6_breaks 50 = .ok (.iadd, 1) := by decide +kernel
theorem dX6_breaks_51 : decode cX6_breaks 51 = .ok (.aload_n 0, 1) := by decide +kernel
theorem dX6_breaks_52 : decode cX6_breaks 52 = .ok (.getfield 155, 3) := by decide +kernel
theorem dX6_breaks_55 : decode cX6_breaks 55 = .ok (.iadd, 1) := by decide +kernel
theorem dX6_breaks_56 : decode cX6_breaks 56 = .ok (.aload_n 0, 1) := by decide +kernel
theorem dX6_breaks_57 : decode cX6_breaks 57 = .ok (.getfield 40, 3) := by decide +kernel
theorem dX6_breaks_60 : decode cX6_breaks 60 = .ok (.if_icmp .gt 7, 3) := by decide +kernel
theorem dX6_breaks_63 : decode cX6_breaks 63 = .ok (.iconst 1, 1) := by decide +kernel
theorem dX6_breaks_64 : decode cX6_breaks 64 = .ok (.goto 4, 3) := by decide +kernel
theorem dX6_breaks_67 : decode cX6_breaks 67 = .ok (.iconst 0, 1) := by decide +kernel
theorem dX6_breaks_68 : decode cX6_breaks 68 = .ok (.istore 6, 2) := by decide +kernel
theorem dX6_breaks_70 : decode cX6_breaks 70 = .ok (.iload 6, 2) := by decide +kernel
theorem dX6_breaks_72 : decode cX6_breaks 72 = .ok (.ifCond .eq 11, 3) := by decide +kernel
theorem dX6_breaks_75 : decode cX6_breaks 75 = .ok (.aload_n 0, 1) := by decide +kernel
theorem dX6_breaks_76 : decode cX6_breaks 76 = .ok (.iconst 0, 1) := by decide +kernel
theorem dX6_breaks_77 : decode cX6_breaks 77 = .ok (.invokevirtual 180, 3) := by decide +kernel
theorem dX6_breaks_80 : decode cX6_breaks 80 = .ok (.goto 7, 3) := by decide +kernel
theorem dX6_breaks_83 : decode cX6_breaks 83 = .ok (.aload_n 0, 1) := by decide +kernel
theorem dX6_breaks_84 : decode cX6_breaks 84 = .ok (.invokevirtual 184, 3) := by decide +kernel
theorem dX6_breaks_87 : decode cX6_breaks 87 = .ok (.iload 5, 2) := by decide +kernel
theorem dX6_breaks_89 : decode cX6_breaks 89 = .ok (.iload_n 2, 1) := by decide +kernel
theorem dX6_breaks_90 : decode cX6_breaks 90 = .ok (.if_icmp .ne 12, 3) := by decide +kernel
theorem dX6_breaks_93 : decode cX6_breaks 93 = .ok (.aload_n 0, 1) := by decide +kernel
theorem dX6_breaks_94 : decode cX6_breaks 94 = .ok (.getfield 177, 3) := by decide +kernel
theorem dX6_breaks_97 : decode cX6_breaks 97 = .ok (.iconst 1, 1) := by decide +kernel
theorem dX6_breaks_98 : decode cX6_breaks 98 = .ok (.isub, 1) := by decide +kernel
theorem dX6_breaks_99 : decode cX6_breaks 99 = .ok (.goto 4, 3) := by decide +kernel
theorem dX6_breaks_102 : decode cX6_breaks 102 = .ok (.iload_n 3, 1) := by decide +kernel
theorem dX6_breaks_103 : decode cX6_breaks 103 = .ok (.istore_n 3, 1) := by decide +kernel
theorem dX6_breaks_104 : decode cX6_breaks 104 = .ok (.iconst 0, 1) := by decide +kernel
theorem dX6_breaks_105 : decode cX6_breaks 105 = .ok (.istore 7, 2) := by decide +kernel
theorem dX6_breaks_107 : decode cX6_breaks 107 = .ok (.iload 7, 2) := by decide +kernel
theorem dX6_breaks_109 : decode cX6_breaks 109 = .ok (.aload_n 0, 1) := by decide +kernel
theorem dX6_breaks_110 : decode cX6_breaks 110 = .ok (.getfield 155, 3) := by decide +kernel
theorem dX6_breaks_113 : decode cX6_breaks 113 = .ok (.if_icmp .ge 42, 3) := by decide +kernel
theorem dX6_breaks_116 : decode cX6_breaks 116 = .ok (.aload_n 0, 1) := by decide +kernel
theorem dX6_breaks_117 : decode cX6_breaks 117 = .ok (.getfield 71, 3) := by decide +kernel
theorem dX6_breaks_120 : decode cX6_breaks 120 = .ok (.aload_n 0, 1) := by decide +kernel
theorem dX6_breaks_121 : decode cX6_breaks 121 = .ok (.getfield 177, 3) := by decide +kernel
theorem dX6_breaks_124 : decode cX6_breaks 124 = .ok (.iconst 1, 1) := by decide +kernel
theorem dX6_breaks_125 : decode cX6_breaks 125 = .ok (.isub, 1) := by decide +kernel
theorem dX6_breaks_126 : decode cX6_breaks 126 = .ok (.iaload, 1) := by decide +kernel
theorem dX6_breaks_127 : decode cX6_breaks 127 = .ok (.aload_n 0, 1) := by decide +kernel
theorem dX6_breaks_128 : decode cX6_breaks 128 = .ok (.getfield 40, 3) := by decide +kernel
theorem dX6_breaks_131 : decode cX6_breaks 131 = .ok (.if_icmp .ne 7, 3) := by decide +kernel
theorem dX6_breaks_134 : decode cX6_breaks 134 = .ok (.aload_n 0, 1) := by decide +kernel
theorem dX6_breaks_135 : decode cX6_breaks 135 = .ok (.invokevirtual 184, 3) := by decide +kernel
theorem dX6_breaks_138 : decode cX6_breaks 138 = .ok (.aload_n 0, 1) := by decide +kernel
theorem dX6_breaks_139 : decode cX6_breaks 139 = .ok (.aload_n 0, 1) := by decide +kernel
theorem dX6_breaks_140 : decode cX6_breaks 140 = .ok (.getfield 62, 3) := by decide +kernel
theorem dX6_breaks_143 : decode cX6_breaks 143 = .ok (.iload 7, 2) := by decide +kernel
theorem dX6_breaks_145 : decode cX6_breaks 145 = .ok (.iaload, 1) := by decide +kernel
theorem dX6_breaks_146 : decode cX6_breaks 146 = .ok (.invokevirtual 180, 3) := by decide +kernel
theorem dX6_breaks_149 : decode cX6_breaks 149 = .ok (.iinc 7 1, 3) := by decide +kernel
theorem dX6_breaks_152 : decode cX6_breaks 152 = .ok (.goto (-45), 3) := by decide +kernel
theorem dX6_breaks_155 : decode cX6_breaks 155 = .ok (.iinc 5 1, 3) := by decide +kernel
theorem dX6_breaks_158 : decode cX6_breaks 158 = .ok (.goto (-141), 3) := by decide +kernel
theorem dX6_breaks_161 : decode cX6_breaks 161 = .ok (.iload_n 3, 1) := by decide +kernel
theorem dX6_breaks_162 : decode cX6_breaks 162 = .ok (.ireturn, 1) := by decide +kernel
theorem dX6_lines_0 : decode cX6_lines 0 = .ok (.aload_n 0, 1) := by decide +kernel
theorem dX6_lines_1 : decode cX6_lines 1 = .ok (.aload_n 0, 1) := by decide +kernel
theorem dX6_lines_2 : decode cX6_lines 2 = .ok (.iload_n 1, 1) := by decide +kernel
theorem dX6_lines_3 : decode cX6_lines 3 = .ok (.invokevirtual 171, 3) := by decide +kernel
theorem dX6_lines_6 : decode cX6_lines 6 = .ok (.ifCond .eq 7, 3) := by decide +kernel
theorem dX6_lines_9 : decode cX6_lines 9 = .ok (.iconst 0, 1) := by decide +kernel
theorem dX6_lines_10 : decode cX6_lines 10 = .ok (.goto 4, 3) := by decide +kernel
theorem dX6_lines_13 : decode cX6_lines 13 = .ok (.iconst 1, 1) := by decide +kernel
theorem dX6_lines_14 : decode cX6_lines 14 = .ok (.invokevirtual 84, 3) := by decide +kernel
theorem dX6_lines_17 : decode cX6_lines 17 = .ok (.ifCond .ne 5, 3) := by decide +kernel
theorem dX6_lines_20 : decode cX6_lines 20 = .ok (.iconst 0, 1) := by decide +kernel
theorem dX6_lines_21 : decode cX6_lines 21 = .ok (.ireturn, 1) := by decide +kernel
theorem dX6_lines_22 : decode cX6_lines 22 = .ok (.aload_n 0, 1) := by decide +kernel
theorem dX6_lines_23 : decode cX6_lines 23 = .ok (.iload_n 1, 1) := by decide +kernel
theorem dX6_lines_24 : decode cX6_lines 24 = .ok (.iconst (-1), 1) := by decide +kernel
theorem dX6_lines_25 : decode cX6_lines 25 = .ok (.invokevirtual 187, 3) := by decide +kernel
theorem dX6_lines_28 : decode cX6_lines 28 = .ok (.istore_n 2, 1) := by decide +kernel
theorem dX6_lines_29 : decode cX6_lines 29 = .ok (.aload_n 0, 1) := by decide +kernel
theorem dX6_lines_30 : decode cX6_lines 30 = .ok (.getfield 177, 3) := by decide +kernel
theorem dX6_lines_33 : decode cX6_lines 33 = .ok (.ireturn, 1) := by decide +kernel
theorem dX6_lineAt_0 : decode cX6_lineAt 0 = .ok (.aload_n 0, 1) := by decide +kernel
theorem dX6_lineAt_1 : decode cX6_lineAt 1 = .ok (.iload_n 1, 1) := by decide +kernel
theorem dX6_lineAt_2 : decode cX6_lineAt 2 = .ok (.invokevirtual 171, 3) := by decide +kernel
theorem dX6_lineAt_5 : decode cX6_lineAt 5 = .ok (.istore 4, 2) := by decide +kernel
theorem dX6_lineAt_7 : decode cX6_lineAt 7 = .ok (.iload 4, 2) := by decide +kernel
theorem dX6_lineAt_9 : decode cX6_lineAt 9 = .ok (.ifCond .eq 12, 3) := by decide +kernel
theorem dX6_lineAt_12 : decode cX6_lineAt 12 = .ok (.aload_n 0, 1) := by decide +kernel
theorem dX6_lineAt_13 : decode cX6_lineAt 13 = .ok (.iload_n 1, 1) := by decide +kernel
theorem dX6_lineAt_14 : decode cX6_lineAt 14 = .ok (.iconst (-1), 1) := by decide +kernel
theorem dX6_lineAt_15 : decode cX6_lineAt 15 = .ok (.invokevirtual 187, 3) := by decide +kernel
theorem dX6_lineAt_18 : decode cX6_lineAt 18 = .ok (.goto 4, 3) := by decide +kernel
theorem dX6_lineAt_21 : decode cX6_lineAt 21 = .ok (.iconst (-1), 1) := by decide +kernel
theorem dX6_lineAt_22 : decode cX6_lineAt 22 = .ok (.istore 5, 2) := by decide +kernel
theorem dX6_lineAt_24 : decode cX6_lineAt 24 = .ok (.iload 4, 2) := by decide +kernel
theorem dX6_lineAt_26 : decode cX6_lineAt 26 = .ok (.ifCond .eq 21, 3) := by decide +kernel
theorem dX6_lineAt_29 : decode cX6_lineAt 29 = .ok (.iload_n 2, 1) := by decide +kernel
theorem dX6_lineAt_30 : decode cX6_lineAt 30 = .ok (.iconst 0, 1) := by decide +kernel
theorem dX6_lineAt_31 : decode cX6_lineAt 31 = .ok (.aload_n 0, 1) := by decide +kernel
theorem dX6_lineAt_32 : decode cX6_lineAt 32 = .ok (.getfield 177, 3) := by decide +kernel
theorem dX6_lineAt_35 : decode cX6_lineAt 35 = .ok (.iconst 1, 1) := by decide +kernel
theorem dX6_lineAt_36 : decode cX6_lineAt 36 = .ok (.isub, 1) := by decide +kernel
theorem dX6_lineAt_37 : decode cX6_lineAt 37 = .ok (.invokestatic 77, 3) := by decide +kernel
theorem dX6_lineAt_40 : decode cX6_lineAt 40 = .ok (.ifCond .eq 7, 3) := by decide +kernel
theorem dX6_lineAt_43 : decode cX6_lineAt 43 = .ok (.iconst 1, 1) := by decide +kernel
theorem dX6_lineAt_44 : decode cX6_lineAt 44 = .ok (.goto 4, 3) := by decide +kernel
theorem dX6_lineAt_47 : decode cX6_lineAt 47 = .ok (.iconst 0, 1) := by decide +kernel
theorem dX6_lineAt_48 : decode cX6_lineAt 48 = .ok (.istore 6, 2) := by decide +kernel
theorem dX6_lineAt_50 : decode cX6_lineAt 50 = .ok (.aload_n 0, 1) := by decide +kernel
theorem dX6_lineAt_51 : decode cX6_lineAt 51 = .ok (.iload 6, 2) := by decide +kernel
theorem dX6_lineAt_53 : decode cX6_lineAt 53 = .ok (.ifCond .ne 7, 3) := by decide +kernel
theorem dX6_lineAt_56 : decode cX6_lineAt 56 = .ok (.iconst 1, 1) := by decide +kernel
theorem dX6_lineAt_57 : decode cX6_lineAt 57 = .ok (.goto 24, 3) := by decide +kernel
theorem dX6_lineAt_60 : decode cX6_lineAt 60 = .ok (.iload_n 3, 1) := by decide +kernel
theorem dX6_lineAt_61 : decode cX6_lineAt 61 = .ok (.iconst 0, 1) := by decide +kernel
theorem dX6_lineAt_62 : decode cX6_lineAt 62 = .ok (.aload_n 0, 1) := by decide +kernel
theorem dX6_lineAt_63 : decode cX6_lineAt 63 = .ok (.getfield 71, 3) := by decide +kernel
theorem dX6_lineAt_66 : decode cX6_lineAt 66 = .ok (.iload_n 2, 1) := by decide +kernel
theorem dX6_lineAt_67 : decode cX6_lineAt 67 = .ok (.iaload, 1) := by decide +kernel
theorem dX6_lineAt_68 : decode cX6_lineAt 68 = .ok (.iconst 1, 1) := by decide +kernel
theorem dX6_lineAt_69 : decode cX6_lineAt 69 = .ok (.isub, 1) := by decide +kernel
theorem dX6_lineAt_70 : decode cX6_lineAt 70 = .ok (.invokestatic 77, 3) := by decide +kernel
theorem dX6_lineAt_73 : decode cX6_lineAt 73 = .ok (.ifCond .ne 7, 3) := by decide +kernel
theorem dX6_lineAt_76 : decode cX6_lineAt 76 = .ok (.iconst 2, 1) := by decide +kernel
theorem dX6_lineAt_77 : decode cX6_lineAt 77 = .ok (.goto 4, 3) := by decide +kernel
theorem dX6_lineAt_80 : decode cX6_lineAt 80 = .ok (.iconst 0, 1) := by decide +kernel
theorem dX6_lineAt_81 : decode cX6_lineAt 81 = .ok (.invokevirtual 84, 3) := by decide +kernel
theorem dX6_lineAt_84 : decode cX6_lineAt 84 = .ok (.ifCond .eq 17, 3) := by decide +kernel
theorem dX6_lineAt_87 : decode cX6_lineAt 87 = .ok (.aload_n 0, 1) := by decide +kernel
theorem dX6_lineAt_88 : decode cX6_lineAt 88 = .ok (.getfield 68, 3) := by decide +kernel
theorem dX6_lineAt_91 : decode cX6_lineAt 91 = .ok (.bipush 40, 2) := by decide +kernel
theorem dX6_lineAt_93 : decode cX6_lineAt 93 = .ok (.iload_n 2, 1) := by decide +kernel
theorem dX6_lineAt_94 : decode cX6_lineAt 94 = .ok (.imul, 1) := by decide +kernel
theorem dX6_lineAt_95 : decode cX6_lineAt 95 = .ok (.iload_n 3, 1) := by decide +kernel
theorem dX6_lineAt_96 : decode cX6_lineAt 96 = .ok (.iadd, 1) := by decide +kernel
theorem dX6_lineAt_97 : decode cX6_lineAt 97 = .ok (.iaload, 1) := by decide +kernel
theorem dX6_lineAt_98 : decode cX6_lineAt 98 = .ok (.goto 4, 3) := by decide +kernel
theorem dX6_lineAt_101 : decode cX6_lineAt 101 = .ok (.iconst 0, 1) := by decide +kernel
theorem dX6_lineAt_102 : decode cX6_lineAt 102 = .ok (.ireturn, 1) := by decide +kernel
theorem dX6_lineOf_0 : decode cX6_lineOf 0 = .ok (.aload_n 0, 1) := by decide +kernel
theorem dX6_lineOf_1 : decode cX6_lineOf 1 = .ok (.aload_n 0, 1) := by decide +kernel
theorem dX6_lineOf_2 : decode cX6_lineOf 2 = .ok (.iload_n 1, 1) := by decide +kernel
theorem dX6_lineOf_3 : decode cX6_lineOf 3 = .ok (.iload_n 2, 1) := by decide +kernel
theorem dX6_lineOf_4 : decode cX6_lineOf 4 = .ok (.invokevirtual 174, 3) := by decide +kernel
theorem dX6_lineOf_7 : decode cX6_lineOf 7 = .ok (.ifCond .eq 7, 3) := by decide +kernel
theorem dX6_lineOf_10 : decode cX6_lineOf 10 = .ok (.iconst 0, 1) := by decide +kernel
theorem dX6_lineOf_11 : decode cX6_lineOf 11 = .ok (.goto 4, 3) := by decide +kernel
theorem dX6_lineOf_14 : decode cX6_lineOf 14 = .ok (.iconst 1, 1) := by decide +kernel
theorem dX6_lineOf_15 : decode cX6_lineOf 15 = .ok (.invokevirtual 84, 3) := by decide +kernel
theorem dX6_lineOf_18 : decode cX6_lineOf 18 = .ok (.ifCond .eq 12, 3) := by decide +kernel
theorem dX6_lineOf_21 : decode cX6_lineOf 21 = .ok (.aload_n 0, 1) := by decide +kernel
theorem dX6_lineOf_22 : decode cX6_lineOf 22 = .ok (.iload_n 1, 1) := by decide +kernel
theorem dX6_lineOf_23 : decode cX6_lineOf 23 = .ok (.iload_n 2, 1) := by decide +kernel
theorem dX6_lineOf_24 : decode cX6_lineOf 24 = .ok (.invokevirtual 187, 3) := by decide +kernel
theorem dX6_lineOf_27 : decode cX6_lineOf 27 = .ok (.goto 4, 3) := by decide +kernel
theorem dX6_lineOf_30 : decode cX6_lineOf 30 = .ok (.iconst 0, 1) := by decide +kernel
theorem dX6_lineOf_31 : decode cX6_lineOf 31 = .ok (.ireturn, 1) := by decide +kernel
theorem dX6_isEmbossed_0 : decode cX6_isEmbossed 0 = .ok (.bipush 100, 2) := by decide +kernel
theorem dX6_isEmbossed_2 : decode cX6_isEmbossed 2 = .ok (.iload_n 1, 1) := by decide +kernel
theorem dX6_isEmbossed_3 : decode cX6_isEmbossed 3 = .ok (.imul, 1) := by decide +kernel
theorem dX6_isEmbossed_4 : decode cX6_isEmbossed 4 = .ok (.iload_n 2, 1) := by decide +kernel
theorem dX6_isEmbossed_5 : decode cX6_isEmbossed 5 = .ok (.iadd, 1) := by decide +kernel
theorem dX6_isEmbossed_6 : decode cX6_isEmbossed 6 = .ok (.istore_n 3, 1) := by decide +kernel
theorem dX6_isEmbossed_7 : decode cX6_isEmbossed 7 = .ok (.iload_n 2, 1) := by decide +kernel
theorem dX6_isEmbossed_8 : decode cX6_isEmbossed 8 = .ok (.aload_n 0, 1) := by decide +kernel
theorem dX6_isEmbossed_9 : decode cX6_isEmbossed 9 = .ok (.getfield 50, 3) := by decide +kernel
theorem dX6_isEmbossed_12 : decode cX6_isEmbossed 12 = .ok (.iload_n 1, 1) := by decide +kernel
theorem dX6_isEmbossed_13 : decode cX6_isEmbossed 13 = .ok (.iaload, 1) := by decide +kernel
theorem dX6_isEmbossed_14 : decode cX6_isEmbossed 14 = .ok (.if_icmp .ge 22, 3) := by decide +kernel
theorem dX6_isEmbossed_17 : decode cX6_isEmbossed 17 = .ok (.aload_n 0, 1) := by decide +kernel
theorem dX6_isEmbossed_18 : decode cX6_isEmbossed 18 = .ok (.getfield 47, 3) := by decide +kernel
theorem dX6_isEmbossed_21 : decode cX6_isEmbossed 21 = .ok (.iload_n 3, 1) := by decide +kernel
theorem dX6_isEmbossed_22 : decode cX6_isEmbossed 22 = .ok (.iaload, 1) := by decide +kernel
theorem dX6_isEmbossed_23 : decode cX6_isEmbossed 23 = .ok (.aload_n 0, 1) := by decide +kernel
theorem dX6_isEmbossed_24 : decode cX6_isEmbossed 24 = .ok (.getfield 71, 3) := by decide +kernel
theorem dX6_isEmbossed_27 : decode cX6_isEmbossed 27 = .ok (.iload_n 2, 1) := by decide +kernel
theorem dX6_isEmbossed_28 : decode cX6_isEmbossed 28 = .ok (.iaload, 1) := by decide +kernel
theorem dX6_isEmbossed_29 : decode cX6_isEmbossed 29 = .ok (.if_icmp .ne 7, 3) := by decide +kernel
theorem dX6_isEmbossed_32 : decode cX6_isEmbossed 32 = .ok (.iconst 1, 1) := by decide +kernel
theorem dX6_isEmbossed_33 : decode cX6_isEmbossed 33 = .ok (.goto 4, 3) := by decide +kernel
theorem dX6_isEmbossed_36 : decode cX6_isEmbossed 36 = .ok (.iconst 0, 1) := by decide +kernel
theorem dX6_isEmbossed_37 : decode cX6_isEmbossed 37 = .ok (.istore 4, 2) := by decide +kernel
theorem dX6_isEmbossed_39 : decode cX6_isEmbossed 39 = .ok (.iconst 0, 1) := by decide +kernel
theorem dX6_isEmbossed_40 : decode cX6_isEmbossed 40 = .ok (.istore 5, 2) := by decide +kernel
theorem dX6_isEmbossed_42 : decode cX6_isEmbossed 42 = .ok (.iload 5, 2) := by decide +kernel
theorem dX6_isEmbossed_44 : decode cX6_isEmbossed 44 = .ok (.aload_n 0, 1) := by decide +kernel
theorem dX6_isEmbossed_45 : decode cX6_isEmbossed 45 = .ok (.getfield 71, 3) := by decide +kernel
theorem dX6_isEmbossed_48 : decode cX6_isEmbossed 48 = .ok (.iload_n 2, 1) := by decide +kernel
theorem dX6_isEmbossed_49 : decode cX6_isEmbossed 49 = .ok (.iaload, 1) := by decide +kernel
theorem dX6_isEmbossed_50 : decode cX6_isEmbossed 50 = .ok (.if_icmp .ge 48, 3) := by decide +kernel
theorem dX6_isEmbossed_53 : decode cX6_isEmbossed 53 = .ok (.iload 4, 2) := by decide +kernel
theorem dX6_isEmbossed_55 : decode cX6_isEmbossed 55 = .ok (.ifCond .eq 43, 3) := by decide +kernel
theorem dX6_isEmbossed_58 : decode cX6_isEmbossed 58 = .ok (.aload_n 0, 1) := by decide +kernel
theorem dX6_isEmbossed_59 : decode cX6_isEmbossed 59 = .ok (.getfield 44, 3) := by decide +kernel
theorem dX6_isEmbossed_62 : decode cX6_isEmbossed 62 = .ok (.bipush 40, 2) := by decide +kernel
theorem dX6_isEmbossed_64 : decode cX6_isEmbossed 64 = .ok (.iload_n 3, 1) := by decide +kernel
theorem dX6_isEmbossed_65 : decode cX6_isEmbossed 65 = .ok (.imul, 1) := by decide +kernel
theorem dX6_isEmbossed_66 : decode cX6_isEmbossed 66 = .ok (.iload 5, 2) := by decide +kernel
theorem dX6_isEmbossed_68 : decode cX6_isEmbossed 68 = .ok (.iadd, 1) := by decide +kernel
theorem dX6_isEmbossed_69 : decode cX6_isEmbossed 69 = .ok (.iaload, 1) := by decide +kernel
theorem dX6_isEmbossed_70 : decode cX6_isEmbossed 70 = .ok (.aload_n 0, 1) := by decide +kernel
theorem dX6_isEmbossed_71 : decode cX6_isEmbossed 71 = .ok (.getfield 68, 3) := by decide +kernel
theorem dX6_isEmbossed_74 : decode cX6_isEmbossed 74 = .ok (.bipush 40, 2) := by decide +kernel
theorem dX6_isEmbossed_76 : decode cX6_isEmbossed 76 = .ok (.iload_n 2, 1) := by decide +kernel
theorem dX6_isEmbossed_77 : decode cX6_isEmbossed 77 = .ok (.imul, 1) := by decide +kernel
theorem dX6_isEmbossed_78 : decode cX6_isEmbossed 78 = .ok (.iload 5, 2) := by decide +kernel
theorem dX6_isEmbossed_80 : decode cX6_isEmbossed 80 = .ok (.iadd, 1) := by decide +kernel
theorem dX6_isEmbossed_81 : decode cX6_isEmbossed 81 = .ok (.iaload, 1) := by decide +kernel
theorem dX6_isEmbossed_82 : decode cX6_isEmbossed 82 = .ok (.if_icmp .ne 7, 3) := by decide +kernel
theorem dX6_isEmbossed_85 : decode cX6_isEmbossed 85 = .ok (.iconst 1, 1) := by decide +kernel
theorem dX6_isEmbossed_86 : decode cX6_isEmbossed 86 = .ok (.goto 4, 3) := by decide +kernel
theorem dX6_isEmbossed_89 : decode cX6_isEmbossed 89 = .ok (.iconst 0, 1) := by decide +kernel
theorem dX6_isEmbossed_90 : decode cX6_isEmbossed 90 = .ok (.istore 4, 2) := by decide +kernel
theorem dX6_isEmbossed_92 : decode cX6_isEmbossed 92 = .ok (.iinc 5 1, 3) := by decide +kernel
theorem dX6_isEmbossed_95 : decode cX6_isEmbossed 95 = .ok (.goto (-53), 3) := by decide +kernel
theorem dX6_isEmbossed_98 : decode cX6_isEmbossed 98 = .ok (.iload 4, 2) := by decide +kernel
theorem dX6_isEmbossed_100 : decode cX6_isEmbossed 100 = .ok (.ireturn, 1) := by decide +kernel
theorem dX6_due_0 : decode cX6_due 0 = .ok (.iconst 0, 1) := by decide +kernel
theorem dX6_due_1 : decode cX6_due 1 = .ok (.istore_n 3, 1) := by decide +kernel
theorem dX6_due_2 : decode cX6_due 2 = .ok (.iconst 0, 1) := by decide +kernel
theorem dX6_due_3 : decode cX6_due 3 = .ok (.istore 4, 2) := by decide +kernel
theorem dX6_due_5 : decode cX6_due 5 = .ok (.iload 4, 2) := by decide +kernel
theorem dX6_due_7 : decode cX6_due 7 = .ok (.aload_n 0, 1) := by decide +kernel
theorem dX6_due_8 : decode cX6_due 8 = .ok (.getfield 177, 3) := by decide +kernel
theorem dX6_due_11 : decode cX6_due 11 = .ok (.if_icmp .ge 60, 3) := by decide +kernel
theorem dX6_due_14 : decode cX6_due 14 = .ok (.iconst 0, 1) := by decide +kernel
theorem dX6_due_15 : decode cX6_due 15 = .ok (.istore 5, 2) := by decide +kernel
theorem dX6_due_17 : decode cX6_due 17 = .ok (.iload 5, 2) := by decide +kernel
theorem dX6_due_19 : decode cX6_due 19 = .ok (.aload_n 0, 1) := by decide +kernel
theorem dX6_due_20 : decode cX6_due 20 = .ok (.getfield 71, 3) := by decide +kernel
theorem dX6_due_23 : decode cX6_due 23 = .ok (.iload 4, 2) := by decide +kernel
theorem dX6_due_25 : decode cX6_due 25 = .ok (.iaload, 1) := by decide +kernel
theorem dX6_due_26 : decode cX6_due 26 = .ok (.if_icmp .ge 39, 3) := by decide +kernel
theorem dX6_due_29 : decode cX6_due 29 = .ok (.aload_n 0, 1) := by decide +kernel
theorem dX6_due_30 : decode cX6_due 30 = .ok (.iload_n 1, 1) := by decide +kernel
theorem dX6_due_31 : decode cX6_due 31 = .ok (.iload 4, 2) := by decide +kernel
theorem dX6_due_33 : decode cX6_due 33 = .ok (.invokevirtual 190, 3) := by decide +kernel
theorem dX6_due_36 : decode cX6_due 36 = .ok (.ifCond .ne 29, 3) := by decide +kernel
theorem dX6_due_39 : decode cX6_due 39 = .ok (.iload_n 3, 1) := by decide +kernel
theorem dX6_due_40 : decode cX6_due 40 = .ok (.aload_n 0, 1) := by decide +kernel
theorem dX6_due_41 : decode cX6_due 41 = .ok (.getfield 68, 3) := by decide +kernel
theorem dX6_due_44 : decode cX6_due 44 = .ok (.bipush 40, 2) := by decide +kernel
theorem dX6_due_46 : decode cX6_due 46 = .ok (.iload 4, 2) := by decide +kernel
theorem dX6_due_48 : decode cX6_due 48 = .ok (.imul, 1) := by decide +kernel
theorem dX6_due_49 : decode cX6_due 49 = .ok (.iload 5, 2) := by decide +kernel
theorem dX6_due_51 : decode cX6_due 51 = .ok (.iadd, 1) := by decide +kernel
theorem dX6_due_52 : decode cX6_due 52 = .ok (.iaload, 1) := by decide +kernel
theorem dX6_due_53 : decode cX6_due 53 = .ok (.iload_n 2, 1) := by decide +kernel
theorem dX6_due_54 : decode cX6_due 54 = .ok (.ishr, 1) := by decide +kernel
theorem dX6_due_55 : decode cX6_due 55 = .ok (.iconst 1, 1) := by decide +kernel
theorem dX6_due_56 : decode cX6_due 56 = .ok (.iand, 1) := by decide +kernel
theorem dX6_due_57 : decode cX6_due 57 = .ok (.iadd, 1) := by decide +kernel
theorem dX6_due_58 : decode cX6_due 58 = .ok (.istore_n 3, 1) := by decide +kernel
theorem dX6_due_59 : decode cX6_due 59 = .ok (.iinc 5 1, 3) := by decide +kernel
theorem dX6_due_62 : decode cX6_due 62 = .ok (.goto (-45), 3) := by decide +kernel
theorem dX6_due_65 : decode cX6_due 65 = .ok (.iinc 4 1, 3) := by decide +kernel
theorem dX6_due_68 : decode cX6_due 68 = .ok (.goto (-63), 3) := by decide +kernel
theorem dX6_due_71 : decode cX6_due 71 = .ok (.iload_n 3, 1) := by decide +kernel
theorem dX6_due_72 : decode cX6_due 72 = .ok (.ireturn, 1) := by decide +kernel
theorem dX6_isWorn_0 : decode cX6_isWorn 0 = .ok (.iconst 0, 1) := by decide +kernel
theorem dX6_isWorn_1 : decode cX6_isWorn 1 = .ok (.istore_n 2, 1) := by decide +kernel
theorem dX6_isWorn_2 : decode cX6_isWorn 2 = .ok (.iconst 0, 1) := by decide +kernel
theorem dX6_isWorn_3 : decode cX6_isWorn 3 = .ok (.istore_n 3, 1) := by decide +kernel
theorem dX6_isWorn_4 : decode cX6_isWorn 4 = .ok (.iload_n 3, 1) := by decide +kernel
theorem dX6_isWorn_5 : decode cX6_isWorn 5 = .ok (.bipush 6, 2) := by decide +kernel
theorem dX6_isWorn_7 : decode cX6_isWorn 7 = .ok (.if_icmp .ge 48, 3) := by decide +kernel
theorem dX6_isWorn_10 : decode cX6_isWorn 10 = .ok (.aload_n 0, 1) := by decide +kernel
theorem dX6_isWorn_11 : decode cX6_isWorn 11 = .ok (.iload_n 1, 1) := by decide +kernel
theorem dX6_isWorn_12 : decode cX6_isWorn 12 = .ok (.iload_n 3, 1) := by decide +kernel
theorem dX6_isWorn_13 : decode cX6_isWorn 13 = .ok (.invokevirtual 193, 3) := by decide +kernel
theorem dX6_isWorn_16 : decode cX6_isWorn 16 = .ok (.istore 4, 2) := by decide +kernel
theorem dX6_isWorn_18 : decode cX6_isWorn 18 = .ok (.iload_n 2, 1) := by decide +kernel
theorem dX6_isWorn_19 : decode cX6_isWorn 19 = .ok (.ifCond .ne 24, 3) := by decide +kernel
theorem dX6_isWorn_22 : decode cX6_isWorn 22 = .ok (.iload 4, 2) := by decide +kernel
theorem dX6_isWorn_24 : decode cX6_isWorn 24 = .ok (.ifCond .le 23, 3) := by decide +kernel
theorem dX6_isWorn_27 : decode cX6_isWorn 27 = .ok (.aload_n 0, 1) := by decide +kernel
theorem dX6_isWorn_28 : decode cX6_isWorn 28 = .ok (.getfield 59, 3) := by decide +kernel
theorem dX6_isWorn_31 : decode cX6_isWorn 31 = .ok (.iload_n 3, 1) := by decide +kernel
theorem dX6_isWorn_32 : decode cX6_isWorn 32 = .ok (.iaload, 1) := by decide +kernel
theorem dX6_isWorn_33 : decode cX6_isWorn 33 = .ok (.iload 4, 2) := by decide +kernel
theorem dX6_isWorn_35 : decode cX6_isWorn 35 = .ok (.iadd, 1) := by decide +kernel
theorem dX6_isWorn_36 : decode cX6_isWorn 36 = .ok (.aload_n 0, 1) := by decide +kernel
theorem dX6_isWorn_37 : decode cX6_isWorn 37 = .ok (.getfield 56, 3) := by decide +kernel
theorem dX6_isWorn_40 : decode cX6_isWorn 40 = .ok (.if_icmp .le 7, 3) := by decide +kernel
theorem dX6_isWorn_43 : decode cX6_isWorn 43 = .ok (.iconst 1, 1) := by decide +kernel
theorem dX6_isWorn_44 : decode cX6_isWorn 44 = .ok (.goto 4, 3) := by decide +kernel
theorem dX6_isWorn_47 : decode cX6_isWorn 47 = .ok (.iconst 0, 1) := by decide +kernel
theorem dX6_isWorn_48 : decode cX6_isWorn 48 = .ok (.istore_n 2, 1) := by decide +kernel
theorem dX6_isWorn_49 : decode cX6_isWorn 49 = .ok (.iinc 3 1, 3) := by decide +kernel
theorem dX6_isWorn_52 : decode cX6_isWorn 52 = .ok (.goto (-48), 3) := by decide +kernel
theorem dX6_isWorn_55 : decode cX6_isWorn 55 = .ok (.iload_n 2, 1) := by decide +kernel
theorem dX6_isWorn_56 : decode cX6_isWorn 56 = .ok (.ireturn, 1) := by decide +kernel
theorem dX6_emboss_0 : decode cX6_emboss 0 = .ok (.aload_n 0, 1) := by decide +kernel
theorem dX6_emboss_1 : decode cX6_emboss 1 = .ok (.iload_n 1, 1) := by decide +kernel
theorem dX6_emboss_2 : decode cX6_emboss 2 = .ok (.invokevirtual 171, 3) := by decide +kernel
theorem dX6_emboss_5 : decode cX6_emboss 5 = .ok (.istore_n 2, 1) := by decide +kernel
theorem dX6_emboss_6 : decode cX6_emboss 6 = .ok (.iload_n 2, 1) := by decide +kernel
theorem dX6_emboss_7 : decode cX6_emboss 7 = .ok (.ifCond .eq 12, 3) := by decide +kernel
theorem dX6_emboss_10 : decode cX6_emboss 10 = .ok (.aload_n 0, 1) := by decide +kernel
theorem dX6_emboss_11 : decode cX6_emboss 11 = .ok (.iload_n 1, 1) := by decide +kernel
theorem dX6_emboss_12 : decode cX6_emboss 12 = .ok (.iconst (-1), 1) := by decide +kernel
theorem dX6_emboss_13 : decode cX6_emboss 13 = .ok (.invokevirtual 187, 3) := by decide +kernel
theorem dX6_emboss_16 : decode cX6_emboss 16 = .ok (.goto 4, 3) := by decide +kernel
theorem dX6_emboss_19 : decode cX6_emboss 19 = .ok (.iconst (-1), 1) := by decide +kernel
theorem dX6_emboss_20 : decode cX6_emboss 20 = .ok (.istore_n 3, 1) := by decide +kernel
theorem dX6_emboss_21 : decode cX6_emboss 21 = .ok (.aload_n 0, 1) := by decide +kernel
theorem dX6_emboss_22 : decode cX6_emboss 22 = .ok (.iload_n 2, 1) := by decide +kernel
theorem dX6_emboss_23 : decode cX6_emboss 23 = .ok (.ifCond .ne 7, 3) := by decide +kernel
theorem dX6_emboss_26 : decode cX6_emboss 26 = .ok (.iconst 1, 1) := by decide +kernel
theorem dX6_emboss_27 : decode cX6_emboss 27 = .ok (.goto 16, 3) := by decide +kernel
theorem dX6_emboss_30 : decode cX6_emboss 30 = .ok (.aload_n 0, 1) := by decide +kernel
theorem dX6_emboss_31 : decode cX6_emboss 31 = .ok (.iload_n 1, 1) := by decide +kernel
theorem dX6_emboss_32 : decode cX6_emboss 32 = .ok (.invokevirtual 196, 3) := by decide +kernel
theorem dX6_emboss_35 : decode cX6_emboss 35 = .ok (.ifCond .eq 7, 3) := by decide +kernel
theorem dX6_emboss_38 : decode cX6_emboss 38 = .ok (.iconst 2, 1) := by decide +kernel
theorem dX6_emboss_39 : decode cX6_emboss 39 = .ok (.goto 4, 3) := by decide +kernel
theorem dX6_emboss_42 : decode cX6_emboss 42 = .ok (.iconst 0, 1) := by decide +kernel
theorem dX6_emboss_43 : decode cX6_emboss 43 = .ok (.invokevirtual 84, 3) := by decide +kernel
theorem dX6_emboss_46 : decode cX6_emboss 46 = .ok (.ifCond .ne 5, 3) := by decide +kernel
theorem dX6_emboss_49 : decode cX6_emboss 49 = .ok (.iconst 0, 1) := by decide +kernel
theorem dX6_emboss_50 : decode cX6_emboss 50 = .ok (.ireturn, 1) := by decide +kernel
theorem dX6_emboss_51 : decode cX6_emboss 51 = .ok (.iconst 0, 1) := by decide +kernel
theorem dX6_emboss_52 : decode cX6_emboss 52 = .ok (.istore 4, 2) := by decide +kernel
theorem dX6_emboss_54 : decode cX6_emboss 54 = .ok (.iload 4, 2) := by decide +kernel
theorem dX6_emboss_56 : decode cX6_emboss 56 = .ok (.bipush 6, 2) := by decide +kernel
theorem dX6_emboss_58 : decode cX6_emboss 58 = .ok (.if_icmp .ge 26, 3) := by decide +kernel
theorem dX6_emboss_61 : decode cX6_emboss 61 = .ok (.aload_n 0, 1) := by decide +kernel
theorem dX6_emboss_62 : decode cX6_emboss 62 = .ok (.getfield 59, 3) := by decide +kernel
theorem dX6_emboss_65 : decode cX6_emboss 65 = .ok (.iload 4, 2) := by decide +kernel
theorem dX6_emboss_67 : decode cX6_emboss 67 = .ok (.dup2, 1) := by decide +kernel
theorem dX6_emboss_68 : decode cX6_emboss 68 = .ok (.iaload, 1) := by decide +kernel
theorem dX6_emboss_69 : decode cX6_emboss 69 = .ok (.aload_n 0, 1) := by decide +kernel
theorem dX6_emboss_70 : decode cX6_emboss 70 = .ok (.iload_n 1, 1) := by decide +kernel
theorem dX6_emboss_71 : decode cX6_emboss 71 = .ok (.iload 4, 2) := by decide +kernel
theorem dX6_emboss_73 : decode cX6_emboss 73 = .ok (.invokevirtual 193, 3) := by decide +kernel
theorem dX6_emboss_76 : decode cX6_emboss 76 = .ok (.iadd, 1) := by decide +kernel
theorem dX6_emboss_77 : decode cX6_emboss 77 = .ok (.iastore, 1) := by decide +kernel
theorem dX6_emboss_78 : decode cX6_emboss 78 = .ok (.iinc 4 1, 3) := by decide +kernel
theorem dX6_emboss_81 : decode cX6_emboss 81 = .ok (.goto (-27), 3) := by decide +kernel
theorem dX6_emboss_84 : decode cX6_emboss 84 = .ok (.iconst 0, 1) := by decide +kernel
theorem dX6_emboss_85 : decode cX6_emboss 85 = .ok (.istore 4, 2) := by decide +kernel
theorem dX6_emboss_87 : decode cX6_emboss 87 = .ok (.iconst 0, 1) := by decide +kernel
theorem dX6_emboss_88 : decode cX6_emboss 88 = .ok (.istore 5, 2) := by decide +kernel
theorem dX6_emboss_90 : decode cX6_emboss 90 = .ok (.iconst (-1), 1) := by decide +kernel
theorem dX6_emboss_91 : decode cX6_emboss 91 = .ok (.istore 6, 2) := by decide +kernel
theorem dX6_emboss_93 : decode cX6_emboss 93 = .ok (.iconst 0, 1) := by decide +kernel
theorem dX6_emboss_94 : decode cX6_emboss 94 = .ok (.istore 7, 2) := by decide +kernel
theorem dX6_emboss_96 : decode cX6_emboss 96 = .ok (.iload 7, 2) := by decide +kernel
theorem dX6_emboss_98 : decode cX6_emboss 98 = .ok (.aload_n 0, 1) := by decide +kernel
theorem dX6_emboss_99 : decode cX6_emboss 99 = .ok (.getfield 177, 3) := by decide +kernel
theorem dX6_emboss_102 : decode cX6_emboss 102 = .ok (.if_icmp .ge 47, 3) := by decide +kernel
theorem dX6_emboss_105 : decode cX6_emboss 105 = .ok (.aload_n 0, 1) := by decide +kernel
theorem dX6_emboss_106 : decode cX6_emboss 106 = .ok (.iload_n 1, 1) := by decide +kernel
theorem dX6_emboss_107 : decode cX6_emboss 107 = .ok (.iload 7, 2) := by decide +kernel
theorem dX6_emboss_109 : decode cX6_emboss 109 = .ok (.invokevirtual 190, 3) := by decide +kernel
theorem dX6_emboss_112 : decode cX6_emboss 112 = .ok (.ifCond .ne 31, 3) := by decide +kernel
theorem dX6_emboss_115 : decode cX6_emboss 115 = .ok (.iinc 4 1, 3) := by decide +kernel
theorem dX6_emboss_118 : decode cX6_emboss 118 = .ok (.iload 5, 2) := by decide +kernel
theorem dX6_emboss_120 : decode cX6_emboss 120 = .ok (.iload 7, 2) := by decide +kernel
theorem dX6_emboss_122 : decode cX6_emboss 122 = .ok (.iconst 4, 1) := by decide +kernel
theorem dX6_emboss_123 : decode cX6_emboss 123 = .ok (.idiv, 1) := by decide +kernel
theorem dX6_emboss_124 : decode cX6_emboss 124 = .ok (.iload 6, 2) := by decide +kernel
theorem dX6_emboss_126 : decode cX6_emboss 126 = .ok (.if_icmp .eq 7, 3) := by decide +kernel
theorem dX6_emboss_129 : decode cX6_emboss 129 = .ok (.iconst 1, 1) := by decide +kernel
theorem dX6_emboss_130 : decode cX6_emboss 130 = .ok (.goto 4, 3) := by decide +kernel
theorem dX6_emboss_133 : decode cX6_emboss 133 = .ok (.iconst 0, 1) := by decide +kernel
theorem dX6_emboss_134 : decode cX6_emboss 134 = .ok (.iadd, 1) := by decide +kernel
theorem dX6_emboss_135 : decode cX6_emboss 135 = .ok (.istore 5, 2) := by decide +kernel
theorem dX6_emboss_137 : decode cX6_emboss 137 = .ok (.iload 7, 2) := by decide +kernel
theorem dX6_emboss_139 : decode cX6_emboss 139 = .ok (.iconst 4, 1) := by decide +kernel
theorem dX6_emboss_140 : decode cX6_emboss 140 = .ok (.idiv, 1) := by decide +kernel
theorem dX6_emboss_141 : decode cX6_emboss 141 = .ok (.istore 6, 2) := by decide +kernel
theorem dX6_emboss_143 : decode cX6_emboss 143 = .ok (.iinc 7 1, 3) := by decide +kernel
theorem dX6_emboss_146 : decode cX6_emboss 146 = .ok (.goto (-50), 3) := by decide +kernel
theorem dX6_emboss_149 : decode cX6_emboss 149 = .ok (.iconst 0, 1) := by decide +kernel
theorem dX6_emboss_150 : decode cX6_emboss 150 = .ok (.istore 7, 2) := by decide +kernel
theorem dX6_emboss_152 : decode cX6_emboss 152 = .ok (.iload 7, 2) := by decide +kernel
theorem dX6_emboss_154 : decode cX6_emboss 154 = .ok (.aload_n 0, 1) := by decide +kernel
theorem dX6_emboss_155 : decode cX6_emboss 155 = .ok (.getfield 177, 3) := by decide +kernel
theorem dX6_emboss_158 : decode cX6_emboss 158 = .ok (.if_icmp .ge 80, 3) := by decide +kernel
theorem dX6_emboss_161 : decode cX6_emboss 161 = .ok (.aload_n 0, 1) := by decide +kernel
theorem dX6_emboss_162 : decode cX6_emboss 162 = .ok (.getfield 47, 3) := by decide +kernel
theorem dX6_emboss_165 : decode cX6_emboss 165 = .ok (.bipush 100, 2) := by decide +kernel
theorem dX6_emboss_167 : decode cX6_emboss 167 = .ok (.iload_n 1, 1) := by decide +kernel
theorem dX6_emboss_168 : decode cX6_emboss 168 = .ok (.imul, 1) := by decide +kernel
theorem dX6_emboss_169 : decode cX6_emboss 169 = .ok (.iload 7, 2) := by decide +kernel
theorem dX6_emboss_171 : decode cX6_emboss 171 = .ok (.iadd, 1) := by decide +kernel
theorem dX6_emboss_172 : decode cX6_emboss 172 = .ok (.aload_n 0, 1) := by decide +kernel
theorem dX6_emboss_173 : decode cX6_emboss 173 = .ok (.getfield 71, 3) := by decide +kernel
theorem dX6_emboss_176 : decode cX6_emboss 176 = .ok (.iload 7, 2) := by decide +kernel
theorem dX6_emboss_178 : decode cX6_emboss 178 = .ok (.iaload, 1) := by decide +kernel
theorem dX6_emboss_179 : decode cX6_emboss 179 = .ok (.iastore, 1) := by decide +kernel
theorem dX6_emboss_180 : decode cX6_emboss 180 = .ok (.iconst 0, 1) := by decide +kernel
theorem dX6_emboss_181 : decode cX6_emboss 181 = .ok (.istore 8, 2) := by decide +kernel
theorem dX6_emboss_183 : decode cX6_emboss 183 = .ok (.iload 8, 2) := by decide +kernel
theorem dX6_emboss_185 : decode cX6_emboss 185 = .ok (.aload_n 0, 1) := by decide +kernel
theorem dX6_emboss_186 : decode cX6_emboss 186 = .ok (.getfield 71, 3) := by decide +kernel
theorem dX6_emboss_189 : decode cX6_emboss 189 = .ok (.iload 7, 2) := by decide +kernel
theorem dX6_emboss_191 : decode cX6_emboss 191 = .ok (.iaload, 1) := by decide +kernel
theorem dX6_emboss_192 : decode cX6_emboss 192 = .ok (.if_icmp .ge 40, 3) := by decide +kernel
theorem dX6_emboss_195 : decode cX6_emboss 195 = .ok (.aload_n 0, 1) := by decide +kernel
theorem dX6_emboss_196 : decode cX6_emboss 196 = .ok (.getfield 44, 3) := by decide +kernel
theorem dX6_emboss_199 : decode cX6_emboss 199 = .ok (.bipush 40, 2) := by decide +kernel
theorem dX6_emboss_201 : decode cX6_emboss 201 = .ok (.bipush 100, 2) := by decide +kernel
theorem dX6_emboss_203 : decode cX6_emboss 203 = .ok (.iload_n 1, 1) := by decide +kernel
theorem dX6_emboss_204 : decode cX6_emboss 204 = .ok (.imul, 1) := by decide +kernel
theorem dX6_emboss_205 : decode cX6_emboss 205 = .ok (.iload 7, 2) := by decide +kernel
theorem dX6_emboss_207 : decode cX6_emboss 207 = .ok (.iadd, 1) := by decide +kernel
theorem dX6_emboss_208 : decode cX6_emboss 208 = .ok (.imul, 1) := by decide +kernel
theorem dX6_emboss_209 : decode cX6_emboss 209 = .ok (.iload 8, 2) := by decide +kernel
theorem dX6_emboss_211 : decode cX6_emboss 211 = .ok (.iadd, 1) := by decide +kernel
theorem dX6_emboss_212 : decode cX6_emboss 212 = .ok (.aload_n 0, 1) := by decide +kernel
theorem dX6_emboss_213 : decode cX6_emboss 213 = .ok (.getfield 68, 3) := by decide +kernel
theorem dX6_emboss_216 : decode cX6_emboss 216 = .ok (.bipush 40, 2) := by decide +kernel
theorem dX6_emboss_218 : decode cX6_emboss 218 = .ok (.iload 7, 2) := by decide +kernel
theorem dX6_emboss_220 : decode cX6_emboss 220 = .ok (.imul, 1) := by decide +kernel
theorem dX6_emboss_221 : decode cX6_emboss 221 = .ok (.iload 8, 2) := by decide +kernel
theorem dX6_emboss_223 : decode cX6_emboss 223 = .ok (.iadd, 1) := by decide +kernel
theorem dX6_emboss_224 : decode cX6_emboss 224 = .ok (.iaload, 1) := by decide +kernel
theorem dX6_emboss_225 : decode cX6_emboss 225 = .ok (.iastore, 1) := by decide +kernel
theorem dX6_emboss_226 : decode cX6_emboss 226 = .ok (.iinc 8 1, 3) := by decide +kernel
theorem dX6_emboss_229 : decode cX6_emboss 229 = .ok (.goto (-46), 3) := by decide +kernel
theorem dX6_emboss_232 : decode cX6_emboss 232 = .ok (.iinc 7 1, 3) := by decide +kernel
theorem dX6_emboss_235 : decode cX6_emboss 235 = .ok (.goto (-83), 3) := by decide +kernel
theorem dX6_emboss_238 : decode cX6_emboss 238 = .ok (.aload_n 0, 1) := by decide +kernel
theorem dX6_emboss_239 : decode cX6_emboss 239 = .ok (.getfield 50, 3) := by decide +kernel
theorem dX6_emboss_242 : decode cX6_emboss 242 = .ok (.iload_n 1, 1) := by decide +kernel
theorem dX6_emboss_243 : decode cX6_emboss 243 = .ok (.aload_n 0, 1) := by decide +kernel
theorem dX6_emboss_244 : decode cX6_emboss 244 = .ok (.getfield 177, 3) := by decide +kernel
theorem dX6_emboss_247 : decode cX6_emboss 247 = .ok (.iastore, 1) := by decide +kernel
theorem dX6_emboss_248 : decode cX6_emboss 248 = .ok (.bipush 100, 2) := by decide +kernel
theorem dX6_emboss_250 : decode cX6_emboss 250 = .ok (.iload 5, 2) := by decide +kernel
theorem dX6_emboss_252 : decode cX6_emboss 252 = .ok (.imul, 1) := by decide +kernel
theorem dX6_emboss_253 : decode cX6_emboss 253 = .ok (.iload 4, 2) := by decide +kernel
theorem dX6_emboss_255 : decode cX6_emboss 255 = .ok (.iadd, 1) := by decide +kernel
theorem dX6_emboss_256 : decode cX6_emboss 256 = .ok (.ireturn, 1) := by decide +kernel
theorem dX6_changed_0 : decode cX6_changed 0 = .ok (.aload_n 0, 1) := by decide +kernel
theorem dX6_changed_1 : decode cX6_changed 1 = .ok (.aload_n 0, 1) := by decide +kernel
theorem dX6_changed_2 : decode cX6_changed 2 = .ok (.iload_n 1, 1) := by decide +kernel
theorem dX6_changed_3 : decode cX6_changed 3 = .ok (.invokevirtual 171, 3) := by decide +kernel
theorem dX6_changed_6 : decode cX6_changed 6 = .ok (.ifCond .eq 7, 3) := by decide +kernel
theorem dX6_changed_9 : decode cX6_changed 9 = .ok (.iconst 0, 1) := by decide +kernel
theorem dX6_changed_10 : decode cX6_changed 10 = .ok (.goto 4, 3) := by decide +kernel
theorem dX6_changed_13 : decode cX6_changed 13 = .ok (.iconst 1, 1) := by decide +kernel
theorem dX6_changed_14 : decode cX6_changed 14 = .ok (.invokevirtual 84, 3) := by decide +kernel
theorem dX6_changed_17 : decode cX6_changed 17 = .ok (.ifCond .ne 5, 3) := by decide +kernel
theorem dX6_changed_20 : decode cX6_changed 20 = .ok (.iconst 0, 1) := by decide +kernel
theorem dX6_changed_21 : decode cX6_changed 21 = .ok (.ireturn, 1) := by decide +kernel
theorem dX6_changed_22 : decode cX6_changed 22 = .ok (.aload_n 0, 1) := by decide +kernel
theorem dX6_changed_23 : decode cX6_changed 23 = .ok (.iload_n 1, 1) := by decide +kernel
theorem dX6_changed_24 : decode cX6_changed 24 = .ok (.iconst (-1), 1) := by decide +kernel
theorem dX6_changed_25 : decode cX6_changed 25 = .ok (.invokevirtual 187, 3) := by decide +kernel
theorem dX6_changed_28 : decode cX6_changed 28 = .ok (.istore_n 2, 1) := by decide +kernel
theorem dX6_changed_29 : decode cX6_changed 29 = .ok (.aload_n 0, 1) := by decide +kernel
theorem dX6_changed_30 : decode cX6_changed 30 = .ok (.getfield 50, 3) := by decide +kernel
theorem dX6_changed_33 : decode cX6_changed 33 = .ok (.iload_n 1, 1) := by decide +kernel
theorem dX6_changed_34 : decode cX6_changed 34 = .ok (.iaload, 1) := by decide +kernel
theorem dX6_changed_35 : decode cX6_changed 35 = .ok (.aload_n 0, 1) := by decide +kernel
theorem dX6_changed_36 : decode cX6_changed 36 = .ok (.getfield 177, 3) := by decide +kernel
theorem dX6_changed_39 : decode cX6_changed 39 = .ok (.if_icmp .le 17, 3) := by decide +kernel
theorem dX6_changed_42 : decode cX6_changed 42 = .ok (.aload_n 0, 1) := by decide +kernel
theorem dX6_changed_43 : decode cX6_changed 43 = .ok (.getfield 50, 3) := by decide +kernel
theorem dX6_changed_46 : decode cX6_changed 46 = .ok (.iload_n 1, 1) := by decide +kernel
theorem dX6_changed_47 : decode cX6_changed 47 = .ok (.iaload, 1) := by decide +kernel
theorem dX6_changed_48 : decode cX6_changed 48 = .ok (.aload_n 0, 1) := by decide +kernel
theorem dX6_changed_49 : decode cX6_changed 49 = .ok (.getfield 177, 3) := by decide +kernel
theorem dX6_changed_52 : decode cX6_changed 52 = .ok (.isub, 1) := by decide +kernel
theorem dX6_changed_53 : decode cX6_changed 53 = .ok (.goto 4, 3) := by decide +kernel
theorem dX6_changed_56 : decode cX6_changed 56 = .ok (.iconst 0, 1) := by decide +kernel
theorem dX6_changed_57 : decode cX6_changed 57 = .ok (.istore_n 3, 1) := by decide +kernel
theorem dX6_changed_58 : decode cX6_changed 58 = .ok (.iconst 0, 1) := by decide +kernel
theorem dX6_changed_59 : decode cX6_changed 59 = .ok (.istore 4, 2) := by decide +kernel
theorem dX6_changed_61 : decode cX6_changed 61 = .ok (.iload 4, 2) := by decide +kernel
theorem dX6_changed_63 : decode cX6_changed 63 = .ok (.aload_n 0, 1) := by decide +kernel
theorem dX6_changed_64 : decode cX6_changed 64 = .ok (.getfield 177, 3) := by decide +kernel
theorem dX6_changed_67 : decode cX6_changed 67 = .ok (.if_icmp .ge 27, 3) := by decide +kernel
theorem dX6_changed_70 : decode cX6_changed 70 = .ok (.iload_n 3, 1) := by decide +kernel
theorem dX6_changed_71 : decode cX6_changed 71 = .ok (.aload_n 0, 1) := by decide +kernel
theorem dX6_changed_72 : decode cX6_changed 72 = .ok (.iload_n 1, 1) := by decide +kernel
theorem dX6_changed_73 : decode cX6_changed 73 = .ok (.iload 4, 2) := by decide +kernel
theorem dX6_changed_75 : decode cX6_changed 75 = .ok (.invokevirtual 190, 3) := by decide +kernel
theorem dX6_changed_78 : decode cX6_changed 78 = .ok (.ifCond .eq 7, 3) := by decide +kernel
theorem dX6_changed_81 : decode cX6_changed 81 = .ok (.iconst 0, 1) := by decide +kernel
theorem dX6_changed_82 : decode cX6_changed 82 = .ok (.goto 4, 3) := by decide +kernel
theorem dX6_changed_85 : decode cX6_changed 85 = .ok (.iconst 1, 1) := by decide +kernel
theorem dX6_changed_86 : decode cX6_changed 86 = .ok (.iadd, 1) := by decide +kernel
theorem dX6_changed_87 : decode cX6_changed 87 = .ok (.istore_n 3, 1) := by decide +kernel
theorem dX6_changed_88 : decode cX6_changed 88 = .ok (.iinc 4 1, 3) := by decide +kernel
theorem dX6_changed_91 : decode cX6_changed 91 = .ok (.goto (-30), 3) := by decide +kernel
theorem dX6_changed_94 : decode cX6_changed 94 = .ok (.iload_n 3, 1) := by decide +kernel
theorem dX6_changed_95 : decode cX6_changed 95 = .ok (.ireturn, 1) := by decide +kernel
theorem dX6_setBearing_0 : decode cX6_setBearing 0 = .ok (.aload_n 0, 1) := by decide +kernel
theorem dX6_setBearing_1 : decode cX6_setBearing 1 = .ok (.iload_n 1, 1) := by decide +kernel
theorem dX6_setBearing_2 : decode cX6_setBearing 2 = .ok (.bipush 10, 2) := by decide +kernel
theorem dX6_setBearing_4 : decode cX6_setBearing 4 = .ok (.sipush 9999, 3) := by decide +kernel
theorem dX6_setBearing_7 : decode cX6_setBearing 7 = .ok (.invokestatic 77, 3) := by decide +kernel
theorem dX6_setBearing_10 : decode cX6_setBearing 10 = .ok (.ifCond .eq 7, 3) := by decide +kernel
theorem dX6_setBearing_13 : decode cX6_setBearing 13 = .ok (.iconst 0, 1) := by decide +kernel
theorem dX6_setBearing_14 : decode cX6_setBearing 14 = .ok (.goto 4, 3) := by decide +kernel
theorem dX6_setBearing_17 : decode cX6_setBearing 17 = .ok (.iconst 1, 1) := by decide +kernel
theorem dX6_setBearing_18 : decode cX6_setBearing 18 = .ok (.invokevirtual 84, 3) := by decide +kernel
theorem dX6_setBearing_21 : decode cX6_setBearing 21 = .ok (.ifCond .ne 5, 3) := by decide +kernel
theorem dX6_setBearing_24 : decode cX6_setBearing 24 = .ok (.iconst 0, 1) := by decide +kernel
theorem dX6_setBearing_25 : decode cX6_setBearing 25 = .ok (.ireturn, 1) := by decide +kernel
theorem dX6_setBearing_26 : decode cX6_setBearing 26 = .ok (.aload_n 0, 1) := by decide +kernel
theorem dX6_setBearing_27 : decode cX6_setBearing 27 = .ok (.getfield 56, 3) := by decide +kernel
theorem dX6_setBearing_30 : decode cX6_setBearing 30 = .ok (.istore_n 2, 1) := by decide +kernel
theorem dX6_setBearing_31 : decode cX6_setBearing 31 = .ok (.aload_n 0, 1) := by decide +kernel
theorem dX6_setBearing_32 : decode cX6_setBearing 32 = .ok (.iload_n 1, 1) := by decide +kernel
theorem dX6_setBearing_33 : decode cX6_setBearing 33 = .ok (.putfield 56, 3) := by decide +kernel
theorem dX6_setBearing_36 : decode cX6_setBearing 36 = .ok (.iload_n 2, 1) := by decide +kernel
theorem dX6_setBearing_37 : decode cX6_setBearing 37 = .ok (.ireturn, 1) := by decide +kernel
theorem dX6_replace_0 : decode cX6_replace 0 = .ok (.aload_n 0, 1) := by decide +kernel
theorem dX6_replace_1 : decode cX6_replace 1 = .ok (.iload_n 1, 1) := by decide +kernel
theorem dX6_replace_2 : decode cX6_replace 2 = .ok (.iconst 1, 1) := by decide +kernel
theorem dX6_replace_3 : decode cX6_replace 3 = .ok (.bipush 6, 2) := by decide +kernel
theorem dX6_replace_5 : decode cX6_replace 5 = .ok (.invokestatic 77, 3) := by decide +kernel
theorem dX6_replace_8 : decode cX6_replace 8 = .ok (.ifCond .eq 7, 3) := by decide +kernel
theorem dX6_replace_11 : decode cX6_replace 11 = .ok (.iconst 0, 1) := by decide +kernel
theorem dX6_replace_12 : decode cX6_replace 12 = .ok (.goto 4, 3) := by decide +kernel
theorem dX6_replace_15 : decode cX6_replace 15 = .ok (.iconst 1, 1) := by decide +kernel
theorem dX6_replace_16 : decode cX6_replace 16 = .ok (.invokevirtual 84, 3) := by decide +kernel
theorem dX6_replace_19 : decode cX6_replace 19 = .ok (.ifCond .ne 5, 3) := by decide +kernel
theorem dX6_replace_22 : decode cX6_replace 22 = .ok (.iconst 0, 1) := by decide +kernel
theorem dX6_replace_23 : decode cX6_replace 23 = .ok (.ireturn, 1) := by decide +kernel
theorem dX6_replace_24 : decode cX6_replace 24 = .ok (.aload_n 0, 1) := by decide +kernel
theorem dX6_replace_25 : decode cX6_replace 25 = .ok (.getfield 59, 3) := by decide +kernel
theorem dX6_replace_28 : decode cX6_replace 28 = .ok (.iload_n 1, 1) := by decide +kernel
theorem dX6_replace_29 : decode cX6_replace 29 = .ok (.iconst 1, 1) := by decide +kernel
theorem dX6_replace_30 : decode cX6_replace 30 = .ok (.isub, 1) := by decide +kernel
theorem dX6_replace_31 : decode cX6_replace 31 = .ok (.iaload, 1) := by decide +kernel
theorem dX6_replace_32 : decode cX6_replace 32 = .ok (.istore_n 2, 1) := by decide +kernel
theorem dX6_replace_33 : decode cX6_replace 33 = .ok (.aload_n 0, 1) := by decide +kernel
theorem dX6_replace_34 : decode cX6_replace 34 = .ok (.getfield 59, 3) := by decide +kernel
theorem dX6_replace_37 : decode cX6_replace 37 = .ok (.iload_n 1, 1) := by decide +kernel
theorem dX6_replace_38 : decode cX6_replace 38 = .ok (.iconst 1, 1) := by decide +kernel
theorem dX6_replace_39 : decode cX6_replace 39 = .ok (.isub, 1) := by decide +kernel
theorem dX6_replace_40 : decode cX6_replace 40 = .ok (.iconst 0, 1) := by decide +kernel
theorem dX6_replace_41 : decode cX6_replace 41 = .ok (.iastore, 1) := by decide +kernel
theorem dX6_replace_42 : decode cX6_replace 42 = .ok (.iload_n 2, 1) := by decide +kernel
theorem dX6_replace_43 : decode cX6_replace 43 = .ok (.ireturn, 1) := by decide +kernel
theorem dX6_strikes_0 : decode cX6_strikes 0 = .ok (.aload_n 0, 1) := by decide +kernel
theorem dX6_strikes_1 : decode cX6_strikes 1 = .ok (.iload_n 1, 1) := by decide +kernel
theorem dX6_strikes_2 : decode cX6_strikes 2 = .ok (.iconst 1, 1) := by decide +kernel
theorem dX6_strikes_3 : decode cX6_strikes 3 = .ok (.bipush 6, 2) := by decide +kernel
theorem dX6_strikes_5 : decode cX6_strikes 5 = .ok (.invokestatic 77, 3) := by decide +kernel
theorem dX6_strikes_8 : decode cX6_strikes 8 = .ok (.ifCond .eq 7, 3) := by decide +kernel
theorem dX6_strikes_11 : decode cX6_strikes 11 = .ok (.iconst 0, 1) := by decide +kernel
theorem dX6_strikes_12 : decode cX6_strikes 12 = .ok (.goto 4, 3) := by decide +kernel
theorem dX6_strikes_15 : decode cX6_strikes 15 = .ok (.iconst 1, 1) := by decide +kernel
theorem dX6_strikes_16 : decode cX6_strikes 16 = .ok (.invokevirtual 84, 3) := by decide +kernel
theorem dX6_strikes_19 : decode cX6_strikes 19 = .ok (.ifCond .eq 14, 3) := by decide +kernel
theorem dX6_strikes_22 : decode cX6_strikes 22 = .ok (.aload_n 0, 1) := by decide +kernel
theorem dX6_strikes_23 : decode cX6_strikes 23 = .ok (.getfield 59, 3) := by decide +kernel
theorem dX6_strikes_26 : decode cX6_strikes 26 = .ok (.iload_n 1, 1) := by decide +kernel
theorem dX6_strikes_27 : decode cX6_strikes 27 = .ok (.iconst 1, 1) := by decide +kernel
theorem dX6_strikes_28 : decode cX6_strikes 28 = .ok (.isub, 1) := by decide +kernel
theorem dX6_strikes_29 : decode cX6_strikes 29 = .ok (.iaload, 1) := by decide +kernel
theorem dX6_strikes_30 : decode cX6_strikes 30 = .ok (.goto 4, 3) := by decide +kernel
theorem dX6_strikes_33 : decode cX6_strikes 33 = .ok (.iconst 0, 1) := by decide +kernel
theorem dX6_strikes_34 : decode cX6_strikes 34 = .ok (.ireturn, 1) := by decide +kernel
theorem dX6_mark_0 : decode cX6_mark 0 = .ok (.aload_n 0, 1) := by decide +kernel
theorem dX6_mark_1 : decode cX6_mark 1 = .ok (.iload_n 1, 1) := by decide +kernel
theorem dX6_mark_2 : decode cX6_mark 2 = .ok (.iconst 0, 1) := by decide +kernel
theorem dX6_mark_3 : decode cX6_mark 3 = .ok (.iconst 1, 1) := by decide +kernel
theorem dX6_mark_4 : decode cX6_mark 4 = .ok (.invokestatic 77, 3) := by decide +kernel
theorem dX6_mark_7 : decode cX6_mark 7 = .ok (.ifCond .eq 16, 3) := by decide +kernel
theorem dX6_mark_10 : decode cX6_mark 10 = .ok (.aload_n 0, 1) := by decide +kernel
theorem dX6_mark_11 : decode cX6_mark 11 = .ok (.iload_n 2, 1) := by decide +kernel
theorem dX6_mark_12 : decode cX6_mark 12 = .ok (.iload_n 3, 1) := by decide +kernel
theorem dX6_mark_13 : decode cX6_mark 13 = .ok (.invokevirtual 174, 3) := by decide +kernel
theorem dX6_mark_16 : decode cX6_mark 16 = .ok (.ifCond .eq 7, 3) := by decide +kernel
theorem dX6_mark_19 : decode cX6_mark 19 = .ok (.iconst 0, 1) := by decide +kernel
theorem dX6_mark_20 : decode cX6_mark 20 = .ok (.goto 4, 3) := by decide +kernel
theorem dX6_mark_23 : decode cX6_mark 23 = .ok (.iconst 1, 1) := by decide +kernel
theorem dX6_mark_24 : decode cX6_mark 24 = .ok (.invokevirtual 84, 3) := by decide +kernel
theorem dX6_mark_27 : decode cX6_mark 27 = .ok (.ifCond .ne 5, 3) := by decide +kernel
theorem dX6_mark_30 : decode cX6_mark 30 = .ok (.iconst 0, 1) := by decide +kernel
theorem dX6_mark_31 : decode cX6_mark 31 = .ok (.ireturn, 1) := by decide +kernel
theorem dX6_mark_32 : decode cX6_mark 32 = .ok (.iload 4, 2) := by decide +kernel
theorem dX6_mark_34 : decode cX6_mark 34 = .ok (.ifCond .eq 7, 3) := by decide +kernel
theorem dX6_mark_37 : decode cX6_mark 37 = .ok (.iconst 1, 1) := by decide +kernel
theorem dX6_mark_38 : decode cX6_mark 38 = .ok (.goto 4, 3) := by decide +kernel
theorem dX6_mark_41 : decode cX6_mark 41 = .ok (.iconst 2, 1) := by decide +kernel
theorem dX6_mark_42 : decode cX6_mark 42 = .ok (.istore 5, 2) := by decide +kernel
theorem dX6_mark_44 : decode cX6_mark 44 = .ok (.aload_n 0, 1) := by decide +kernel
theorem dX6_mark_45 : decode cX6_mark 45 = .ok (.getfield 53, 3) := by decide +kernel
theorem dX6_mark_48 : decode cX6_mark 48 = .ok (.sipush 240, 3) := by decide +kernel
theorem dX6_mark_51 : decode cX6_mark 51 = .ok (.iload_n 1, 1) := by decide +kernel
theorem dX6_mark_52 : decode cX6_mark 52 = .ok (.imul, 1) := by decide +kernel
theorem dX6_mark_53 : decode cX6_mark 53 = .ok (.bipush 40, 2) := by decide +kernel
theorem dX6_mark_55 : decode cX6_mark 55 = .ok (.iload_n 2, 1) := by decide +kernel
theorem dX6_mark_56 : decode cX6_mark 56 = .ok (.imul, 1) := by decide +kernel
theorem dX6_mark_57 : decode cX6_mark 57 = .ok (.iadd, 1) := by decide +kernel
theorem dX6_mark_58 : decode cX6_mark 58 = .ok (.iload_n 3, 1) := by decide +kernel
theorem dX6_mark_59 : decode cX6_mark 59 = .ok (.iadd, 1) := by decide +kernel
theorem dX6_mark_60 : decode cX6_mark 60 = .ok (.iload 5, 2) := by decide +kernel
theorem dX6_mark_62 : decode cX6_mark 62 = .ok (.iastore, 1) := by decide +kernel
theorem dX6_mark_63 : decode cX6_mark 63 = .ok (.aload_n 0, 1) := by decide +kernel
theorem dX6_mark_64 : decode cX6_mark 64 = .ok (.getfield 53, 3) := by decide +kernel
theorem dX6_mark_67 : decode cX6_mark 67 = .ok (.sipush 240, 3) := by decide +kernel
theorem dX6_mark_70 : decode cX6_mark 70 = .ok (.iconst 1, 1) := by decide +kernel
theorem dX6_mark_71 : decode cX6_mark 71 = .ok (.iload_n 1, 1) := by decide +kernel
theorem dX6_mark_72 : decode cX6_mark 72 = .ok (.isub, 1) := by decide +kernel
theorem dX6_mark_73 : decode cX6_mark 73 = .ok (.imul, 1) := by decide +kernel
theorem dX6_mark_74 : decode cX6_mark 74 = .ok (.bipush 40, 2) := by decide +kernel
theorem dX6_mark_76 : decode cX6_mark 76 = .ok (.iload_n 2, 1) := by decide +kernel
theorem dX6_mark_77 : decode cX6_mark 77 = .ok (.imul, 1) := by decide +kernel
theorem dX6_mark_78 : decode cX6_mark 78 = .ok (.iadd, 1) := by decide +kernel
theorem dX6_mark_79 : decode cX6_mark 79 = .ok (.iload_n 3, 1) := by decide +kernel
theorem dX6_mark_80 : decode cX6_mark 80 = .ok (.iadd, 1) := by decide +kernel
theorem dX6_mark_81 : decode cX6_mark 81 = .ok (.iaload, 1) := by decide +kernel
theorem dX6_mark_82 : decode cX6_mark 82 = .ok (.iload 5, 2) := by decide +kernel
theorem dX6_mark_84 : decode cX6_mark 84 = .ok (.if_icmp .ne 7, 3) := by decide +kernel
theorem dX6_mark_87 : decode cX6_mark 87 = .ok (.iconst 1, 1) := by decide +kernel
theorem dX6_mark_88 : decode cX6_mark 88 = .ok (.goto 4, 3) := by decide +kernel
theorem dX6_mark_91 : decode cX6_mark 91 = .ok (.iconst 0, 1) := by decide +kernel
theorem dX6_mark_92 : decode cX6_mark 92 = .ok (.ireturn, 1) := by decide +kernel
theorem dX6_markOf_0 : decode cX6_markOf 0 = .ok (.aload_n 0, 1) := by decide +kernel
theorem dX6_markOf_1 : decode cX6_markOf 1 = .ok (.iload_n 1, 1) := by decide +kernel
theorem dX6_markOf_2 : decode cX6_markOf 2 = .ok (.iconst 0, 1) := by decide +kernel
theorem dX6_markOf_3 : decode cX6_markOf 3 = .ok (.iconst 1, 1) := by decide +kernel
theorem dX6_markOf_4 : decode cX6_markOf 4 = .ok (.invokestatic 77, 3) := by decide +kernel
theorem dX6_markOf_7 : decode cX6_markOf 7 = .ok (.ifCond .eq 16, 3) := by decide +kernel
theorem dX6_markOf_10 : decode cX6_markOf 10 = .ok (.aload_n 0, 1) := by decide +kernel
theorem dX6_markOf_11 : decode cX6_markOf 11 = .ok (.iload_n 2, 1) := by decide +kernel
theorem dX6_markOf_12 : decode cX6_markOf 12 = .ok (.iload_n 3, 1) := by decide +kernel
theorem dX6_markOf_13 : decode cX6_markOf 13 = .ok (.invokevirtual 174, 3) := by decide +kernel
theorem dX6_markOf_16 : decode cX6_markOf 16 = .ok (.ifCond .eq 7, 3) := by decide +kernel
theorem dX6_markOf_19 : decode cX6_markOf 19 = .ok (.iconst 0, 1) := by decide +kernel
theorem dX6_markOf_20 : decode cX6_markOf 20 = .ok (.goto 4, 3) := by decide +kernel
theorem dX6_markOf_23 : decode cX6_markOf 23 = .ok (.iconst 1, 1) := by decide +kernel
theorem dX6_markOf_24 : decode cX6_markOf 24 = .ok (.invokevirtual 84, 3) := by decide +kernel
theorem dX6_markOf_27 : decode cX6_markOf 27 = .ok (.ifCond .ne 5, 3) := by decide +kernel
theorem dX6_markOf_30 : decode cX6_markOf 30 = .ok (.iconst 0, 1) := by decide +kernel
theorem dX6_markOf_31 : decode cX6_markOf 31 = .ok (.ireturn, 1) := by decide +kernel
theorem dX6_markOf_32 : decode cX6_markOf 32 = .ok (.aload_n 0, 1) := by decide +kernel
theorem dX6_markOf_33 : decode cX6_markOf 33 = .ok (.getfield 53, 3) := by decide +kernel
theorem dX6_markOf_36 : decode cX6_markOf 36 = .ok (.sipush 240, 3) := by decide +kernel
theorem dX6_markOf_39 : decode cX6_markOf 39 = .ok (.iload_n 1, 1) := by decide +kernel
theorem dX6_markOf_40 : decode cX6_markOf 40 = .ok (.imul, 1) := by decide +kernel
theorem dX6_markOf_41 : decode cX6_markOf 41 = .ok (.bipush 40, 2) := by decide +kernel
theorem dX6_markOf_43 : decode cX6_markOf 43 = .ok (.iload_n 2, 1) := by decide +kernel
theorem dX6_markOf_44 : decode cX6_markOf 44 = .ok (.imul, 1) := by decide +kernel
theorem dX6_markOf_45 : decode cX6_markOf 45 = .ok (.iadd, 1) := by decide +kernel
theorem dX6_markOf_46 : decode cX6_markOf 46 = .ok (.iload_n 3, 1) := by decide +kernel
theorem dX6_markOf_47 : decode cX6_markOf 47 = .ok (.iadd, 1) := by decide +kernel
theorem dX6_markOf_48 : decode cX6_markOf 48 = .ok (.iaload, 1) := by decide +kernel
theorem dX6_markOf_49 : decode cX6_markOf 49 = .ok (.istore 4, 2) := by decide +kernel
theorem dX6_markOf_51 : decode cX6_markOf 51 = .ok (.iload 4, 2) := by decide +kernel
theorem dX6_markOf_53 : decode cX6_markOf 53 = .ok (.ifCond .ne 8, 3) := by decide +kernel
theorem dX6_markOf_56 : decode cX6_markOf 56 = .ok (.bipush 45, 2) := by decide +kernel
theorem dX6_markOf_58 : decode cX6_markOf 58 = .ok (.goto 16, 3) := by decide +kernel
theorem dX6_markOf_61 : decode cX6_markOf 61 = .ok (.iload 4, 2) := by decide +kernel
theorem dX6_markOf_63 : decode cX6_markOf 63 = .ok (.iconst 1, 1) := by decide +kernel
theorem dX6_markOf_64 : decode cX6_markOf 64 = .ok (.if_icmp .ne 8, 3) := by decide +kernel
theorem dX6_markOf_67 : decode cX6_markOf 67 = .ok (.bipush 114, 2) := by decide +kernel
theorem dX6_markOf_69 : decode cX6_markOf 69 = .ok (.goto 5, 3) := by decide +kernel
theorem dX6_markOf_72 : decode cX6_markOf 72 = .ok (.bipush 119, 2) := by decide +kernel
theorem dX6_markOf_74 : decode cX6_markOf 74 = .ok (.ireturn, 1) := by decide +kernel
theorem dX6_checksum_0 : decode cX6_checksum 0 = .ok (.aload_n 0, 1) := by decide +kernel
theorem dX6_checksum_1 : decode cX6_checksum 1 = .ok (.iconst 0, 1) := by decide +kernel
theorem dX6_checksum_2 : decode cX6_checksum 2 = .ok (.putfield 74, 3) := by decide +kernel
theorem dX6_checksum_5 : decode cX6_checksum 5 = .ok (.lconst 0, 1) := by decide +kernel
theorem dX6_checksum_6 : decode cX6_checksum 6 = .ok (.lstore_n 1, 1) := by decide +kernel
theorem dX6_checksum_7 : decode cX6_checksum 7 = .ok (.iconst 0, 1) := by decide +kernel
theorem dX6_checksum_8 : decode cX6_checksum 8 = .ok (.istore_n 3, 1) := by decide +kernel
theorem dX6_checksum_9 : decode cX6_checksum 9 = .ok (.iload_n 3, 1) := by decide +kernel
theorem dX6_checksum_10 : decode cX6_checksum 10 = .ok (.aload_n 0, 1) := by decide +kernel
theorem dX6_checksum_11 : decode cX6_checksum 11 = .ok (.getfield 162, 3) := by decide +kernel
theorem dX6_checksum_14 : decode cX6_checksum 14 = .ok (.if_icmp .ge 77, 3) := by decide +kernel
theorem dX6_checksum_17 : decode cX6_checksum 17 = .ok (.aload_n 0, 1) := by decide +kernel
theorem dX6_checksum_18 : decode cX6_checksum 18 = .ok (.iload_n 3, 1) := by decide +kernel
theorem dX6_checksum_19 : decode cX6_checksum 19 = .ok (.iconst (-1), 1) := by decide +kernel
theorem dX6_checksum_20 : decode cX6_checksum 20 = .ok (.invokevirtual 187, 3) := by decide +kernel
theorem dX6_checksum_23 : decode cX6_checksum 23 = .ok (.istore 4, 2) := by decide +kernel
theorem dX6_checksum_25 : decode cX6_checksum 25 = .ok (.iconst 0, 1) := by decide +kernel
theorem dX6_checksum_26 : decode cX6_checksum 26 = .ok (.istore 5, 2) := by decide +kernel
theorem dX6_checksum_28 : decode cX6_checksum 28 = .ok (.iload 5, 2) := by decide +kernel
theorem dX6_checksum_30 : decode cX6_checksum 30 = .ok (.aload_n 0, 1) := by decide +kernel
theorem dX6_checksum_31 : decode cX6_checksum 31 = .ok (.getfield 177, 3) := by decide +kernel
theorem dX6_checksum_34 : decode cX6_checksum 34 = .ok (.if_icmp .ge 51, 3) := by decide +kernel
theorem dX6_checksum_37 : decode cX6_checksum 37 = .ok (.iconst 0, 1) := by decide +kernel
theorem dX6_checksum_38 : decode cX6_checksum 38 = .ok (.istore 6, 2) := by decide +kernel
theorem dX6_checksum_40 : decode cX6_checksum 40 = .ok (.iload 6, 2) := by decide +kernel
theorem dX6_checksum_42 : decode cX6_checksum 42 = .ok (.aload_n 0, 1) := by decide +kernel
theorem dX6_checksum_43 : decode cX6_checksum 43 = .ok (.getfield 71, 3) := by decide +kernel
theorem dX6_checksum_46 : decode cX6_checksum 46 = .ok (.iload 5, 2) := by decide +kernel
theorem dX6_checksum_48 : decode cX6_checksum 48 = .ok (.iaload, 1) := by decide +kernel
theorem dX6_checksum_49 : decode cX6_checksum 49 = .ok (.if_icmp .ge 30, 3) := by decide +kernel
theorem dX6_checksum_52 : decode cX6_checksum 52 = .ok (.ldc2_w 199, 3) := by decide +kernel
theorem dX6_checksum_55 : decode cX6_checksum 55 = .ok (.lload_n 1, 1) := by decide +kernel
theorem dX6_checksum_56 : decode cX6_checksum 56 = .ok (.lmul, 1) := by decide +kernel
theorem dX6_checksum_57 : decode cX6_checksum 57 = .ok (.aload_n 0, 1) := by decide +kernel
theorem dX6_checksum_58 : decode cX6_checksum 58 = .ok (.getfield 68, 3) := by decide +kernel
theorem dX6_checksum_61 : decode cX6_checksum 61 = .ok (.bipush 40, 2) := by decide +kernel
theorem dX6_checksum_63 : decode cX6_checksum 63 = .ok (.iload 5, 2) := by decide +kernel
theorem dX6_checksum_65 : decode cX6_checksum 65 = .ok (.imul, 1) := by decide +kernel
theorem dX6_checksum_66 : decode cX6_checksum 66 = .ok (.iload 6, 2) := by decide +kernel
theorem dX6_checksum_68 : decode cX6_checksum 68 = .ok (.iadd, 1) := by decide +kernel
theorem dX6_checksum_69 : decode cX6_checksum 69 = .ok (.iaload, 1) := by decide +kernel
theorem dX6_checksum_70 : decode cX6_checksum 70 = .ok (.i2l, 1) := by decide +kernel
theorem dX6_checksum_71 : decode cX6_checksum 71 = .ok (.ladd, 1) := by decide +kernel
theorem dX6_checksum_72 : decode cX6_checksum 72 = .ok (.lstore_n 1, 1) := by decide +kernel
theorem dX6_checksum_73 : decode cX6_checksum 73 = .ok (.iinc 6 1, 3) := by decide +kernel
theorem dX6_checksum_76 : decode cX6_checksum 76 = .ok (.goto (-36), 3) := by decide +kernel
theorem dX6_checksum_79 : decode cX6_checksum 79 = .ok (.iinc 5 1, 3) := by decide +kernel
theorem dX6_checksum_82 : decode cX6_checksum 82 = .ok (.goto (-54), 3) := by decide +kernel
theorem dX6_checksum_85 : decode cX6_checksum 85 = .ok (.iinc 3 1, 3) := by decide +kernel
theorem dX6_checksum_88 : decode cX6_checksum 88 = .ok (.goto (-79), 3) := by decide +kernel
theorem dX6_checksum_91 : decode cX6_checksum 91 = .ok (.lload_n 1, 1) := by decide +kernel
theorem dX6_checksum_92 : decode cX6_checksum 92 = .ok (.lreturn, 1) := by decide +kernel
theorem dX6_provedShare_0 : decode cX6_provedShare 0 = .ok (.iconst 0, 1) := by decide +kernel
theorem dX6_provedShare_1 : decode cX6_provedShare 1 = .ok (.istore_n 1, 1) := by decide +kernel
theorem dX6_provedShare_2 : decode cX6_provedShare 2 = .ok (.iconst 0, 1) := by decide +kernel
theorem dX6_provedShare_3 : decode cX6_provedShare 3 = .ok (.istore_n 2, 1) := by decide +kernel
theorem dX6_provedShare_4 : decode cX6_provedShare 4 = .ok (.iconst 0, 1) := by decide +kernel
theorem dX6_provedShare_5 : decode cX6_provedShare 5 = .ok (.istore_n 3, 1) := by decide +kernel
theorem dX6_provedShare_6 : decode cX6_provedShare 6 = .ok (.iload_n 3, 1) := by decide +kernel
theorem dX6_provedShare_7 : decode cX6_provedShare 7 = .ok (.aload_n 0, 1) := by decide +kernel
theorem dX6_provedShare_8 : decode cX6_provedShare 8 = .ok (.getfield 162, 3) := by decide +kernel
theorem dX6_provedShare_11 : decode cX6_provedShare 11 = .ok (.if_icmp .ge 81, 3) := by decide +kernel
theorem dX6_provedShare_14 : decode cX6_provedShare 14 = .ok (.aload_n 0, 1) := by decide +kernel
theorem dX6_provedShare_15 : decode cX6_provedShare 15 = .ok (.iload_n 3, 1) := by decide +kernel
theorem dX6_provedShare_16 : decode cX6_provedShare 16 = .ok (.invokevirtual 165, 3) := by decide +kernel
theorem dX6_provedShare_19 : decode cX6_provedShare 19 = .ok (.istore 4, 2) := by decide +kernel
theorem dX6_provedShare_21 : decode cX6_provedShare 21 = .ok (.iload_n 1, 1) := by decide +kernel
theorem dX6_provedShare_22 : decode cX6_provedShare 22 = .ok (.iload 4, 2) := by decide +kernel
theorem dX6_provedShare_24 : decode cX6_provedShare 24 = .ok (.iadd, 1) := by decide +kernel
theorem dX6_provedShare_25 : decode cX6_provedShare 25 = .ok (.istore_n 1, 1) := by decide +kernel
theorem dX6_provedShare_26 : decode cX6_provedShare 26 = .ok (.iconst 0, 1) := by decide +kernel
theorem dX6_provedShare_27 : decode cX6_provedShare 27 = .ok (.istore 5, 2) := by decide +kernel
theorem dX6_provedShare_29 : decode cX6_provedShare 29 = .ok (.iload 5, 2) := by decide +kernel
theorem dX6_provedShare_31 : decode cX6_provedShare 31 = .ok (.iload 4, 2) := by decide +kernel
theorem dX6_provedShare_33 : decode cX6_provedShare 33 = .ok (.if_icmp .ge 53, 3) := by decide +kernel
theorem dX6_provedShare_36 : decode cX6_provedShare 36 = .ok (.iload_n 2, 1) := by decide +kernel
theorem dX6_provedShare_37 : decode cX6_provedShare 37 = .ok (.aload_n 0, 1) := by decide +kernel
theorem dX6_provedShare_38 : decode cX6_provedShare 38 = .ok (.getfield 53, 3) := by decide +kernel
theorem dX6_provedShare_41 : decode cX6_provedShare 41 = .ok (.bipush 40, 2) := by decide +kernel
theorem dX6_provedShare_43 : decode cX6_provedShare 43 = .ok (.iload_n 3, 1) := by decide +kernel
theorem dX6_provedShare_44 : decode cX6_provedShare 44 = .ok (.imul, 1) := by decide +kernel
theorem dX6_provedShare_45 : decode cX6_provedShare 45 = .ok (.iload 5, 2) := by decide +kernel
theorem dX6_provedShare_47 : decode cX6_provedShare 47 = .ok (.iadd, 1) := by decide +kernel
theorem dX6_provedShare_48 : decode cX6_provedShare 48 = .ok (.iaload, 1) := by decide +kernel
theorem dX6_provedShare_49 : decode cX6_provedShare 49 = .ok (.iconst 1, 1) := by decide +kernel
theorem dX6_provedShare_50 : decode cX6_provedShare 50 = .ok (.if_icmp .ne 27, 3) := by decide +kernel
theorem dX6_provedShare_53 : decode cX6_provedShare 53 = .ok (.aload_n 0, 1) := by decide +kernel
theorem dX6_provedShare_54 : decode cX6_provedShare 54 = .ok (.getfield 53, 3) := by decide +kernel
theorem dX6_provedShare_57 : decode cX6_provedShare 57 = .ok (.sipush 240, 3) := by decide +kernel
theorem dX6_provedShare_60 : decode cX6_provedShare 60 = .ok (.bipush 40, 2) := by decide +kernel
theorem dX6_provedShare_62 : decode cX6_provedShare 62 = .ok (.iload_n 3, 1) := by decide +kernel
theorem dX6_provedShare_63 : decode cX6_provedShare 63 = .ok (.imul, 1) := by decide +kernel
theorem dX6_provedShare_64 : decode cX6_provedShare 64 = .ok (.iadd, 1) := by decide +kernel
theorem dX6_provedShare_65 : decode cX6_provedShare 65 = .ok (.iload 5, 2) := by decide +kernel
theorem dX6_provedShare_67 : decode cX6_provedShare 67 = .ok (.iadd, 1) := by decide +kernel
theorem dX6_provedShare_68 : decode cX6_provedShare 68 = .ok (.iaload, 1) := by decide +kernel
theorem dX6_provedShare_69 : decode cX6_provedShare 69 = .ok (.iconst 1, 1) := by decide +kernel
theorem dX6_provedShare_70 : decode cX6_provedShare 70 = .ok (.if_icmp .ne 7, 3) := by decide +kernel
theorem dX6_provedShare_73 : decode cX6_provedShare 73 = .ok (.iconst 1, 1) := by decide +kernel
theorem dX6_provedShare_74 : decode cX6_provedShare 74 = .ok (.goto 4, 3) := by decide +kernel
theorem dX6_provedShare_77 : decode cX6_provedShare 77 = .ok (.iconst 0, 1) := by decide +kernel
theorem dX6_provedShare_78 : decode cX6_provedShare 78 = .ok (.iadd, 1) := by decide +kernel
theorem dX6_provedShare_79 : decode cX6_provedShare 79 = .ok (.istore_n 2, 1) := by decide +kernel
theorem dX6_provedShare_80 : decode cX6_provedShare 80 = .ok (.iinc 5 1, 3) := by decide +kernel
theorem dX6_provedShare_83 : decode cX6_provedShare 83 = .ok (.goto (-54), 3) := by decide +kernel
theorem dX6_provedShare_86 : decode cX6_provedShare 86 = .ok (.iinc 3 1, 3) := by decide +kernel
theorem dX6_provedShare_89 : decode cX6_provedShare 89 = .ok (.goto (-83), 3) := by decide +kernel
theorem dX6_provedShare_92 : decode cX6_provedShare 92 = .ok (.aload_n 0, 1) := by decide +kernel
theorem dX6_provedShare_93 : decode cX6_provedShare 93 = .ok (.iload_n 1, 1) := by decide +kernel
theorem dX6_provedShare_94 : decode cX6_provedShare 94 = .ok (.ifCond .ne 7, 3) := by decide +kernel
theorem dX6_provedShare_97 : decode cX6_provedShare 97 = .ok (.iconst 1, 1) := by decide +kernel
theorem dX6_provedShare_98 : decode cX6_provedShare 98 = .ok (.goto 4, 3) := by decide +kernel
theorem dX6_provedShare_101 : decode cX6_provedShare 101 = .ok (.iconst 0, 1) := by decide +kernel
theorem dX6_provedShare_102 : decode cX6_provedShare 102 = .ok (.invokevirtual 84, 3) := by decide +kernel
theorem dX6_provedShare_105 : decode cX6_provedShare 105 = .ok (.ifCond .eq 11, 3) := by decide +kernel
theorem dX6_provedShare_108 : decode cX6_provedShare 108 = .ok (.iload_n 2, 1) := by decide +kernel
theorem dX6_provedShare_109 : decode cX6_provedShare 109 = .ok (.i2f, 1) := by decide +kernel
theorem dX6_provedShare_110 : decode cX6_provedShare 110 = .ok (.iload_n 1, 1) := by decide +kernel
theorem dX6_provedShare_111 : decode cX6_provedShare 111 = .ok (.i2f, 1) := by decide +kernel
theorem dX6_provedShare_112 : decode cX6_provedShare 112 = .ok (.fdiv, 1) := by decide +kernel
theorem dX6_provedShare_113 : decode cX6_provedShare 113 = .ok (.goto 4, 3) := by decide +kernel
theorem dX6_provedShare_116 : decode cX6_provedShare 116 = .ok (.fconst 0, 1) := by decide +kernel
theorem dX6_provedShare_117 : decode cX6_provedShare 117 = .ok (.freturn, 1) := by decide +kernel
theorem dX6_meanStrikes_0 : decode cX6_meanStrikes 0 = .ok (.aload_n 0, 1) := by decide +kernel
theorem dX6_meanStrikes_1 : decode cX6_meanStrikes 1 = .ok (.iconst 0, 1) := by decide +kernel
theorem dX6_meanStrikes_2 : decode cX6_meanStrikes 2 = .ok (.putfield 74, 3) := by decide +kernel
theorem dX6_meanStrikes_5 : decode cX6_meanStrikes 5 = .ok (.iconst 0, 1) := by decide +kernel
theorem dX6_meanStrikes_6 : decode cX6_meanStrikes 6 = .ok (.istore_n 1, 1) := by decide +kernel
theorem dX6_meanStrikes_7 : decode cX6_meanStrikes 7 = .ok (.iconst 0, 1) := by decide +kernel
theorem dX6_meanStrikes_8 : decode cX6_meanStrikes 8 = .ok (.istore_n 2, 1) := by decide +kernel
theorem dX6_meanStrikes_9 : decode cX6_meanStrikes 9 = .ok (.iload_n 2, 1) := by decide +kernel
theorem dX6_meanStrikes_10 : decode cX6_meanStrikes 10 = .ok (.bipush 6, 2) := by decide +kernel
theorem dX6_meanStrikes_12 : decode cX6_meanStrikes 12 = .ok (.if_icmp .ge 18, 3) := by decide +kernel
theorem dX6_meanStrikes_15 : decode cX6_meanStrikes 15 = .ok (.iload_n 1, 1) := by decide +kernel
theorem dX6_meanStrikes_16 : decode cX6_meanStrikes 16 = .ok (.aload_n 0, 1) := by decide +kernel
theorem dX6_meanStrikes_17 : decode cX6_meanStrikes 17 = .ok (.getfield 59, 3) := by decide +kernel
theorem dX6_meanStrikes_20 : decode cX6_meanStrikes 20 = .ok (.iload_n 2, 1) := by decide +kernel
theorem dX6_meanStrikes_21 : decode cX6_meanStrikes 21 = .ok (.iaload, 1) := by decide +kernel
theorem dX6_meanStrikes_22 : decode cX6_meanStrikes 22 = .ok (.iadd, 1) := by decide +kernel
theorem dX6_meanStrikes_23 : decode cX6_meanStrikes 23 = .ok (.istore_n 1, 1) := by decide +kernel
theorem dX6_meanStrikes_24 : decode cX6_meanStrikes 24 = .ok (.iinc 2 1, 3) := by decide +kernel
theorem dX6_meanStrikes_27 : decode cX6_meanStrikes 27 = .ok (.goto (-18), 3) := by decide +kernel
theorem dX6_meanStrikes_30 : decode cX6_meanStrikes 30 = .ok (.iload_n 1, 1) := by decide +kernel
theorem dX6_meanStrikes_31 : decode cX6_meanStrikes 31 = .ok (.i2d, 1) := by decide +kernel
theorem dX6_meanStrikes_32 : decode cX6_meanStrikes 32 = .ok (.ldc2_w 201, 3) := by decide +kernel
theorem dX6_meanStrikes_35 : decode cX6_meanStrikes 35 = .ok (.ddiv, 1) := by decide +kernel
theorem dX6_meanStrikes_36 : decode cX6_meanStrikes 36 = .ok (.dreturn, 1) := by decide +kernel
theorem dX6_isSound_0 : decode cX6_isSound 0 = .ok (.aload_n 0, 1) := by decide +kernel
theorem dX6_isSound_1 : decode cX6_isSound 1 = .ok (.iconst 0, 1) := by decide +kernel
theorem dX6_isSound_2 : decode cX6_isSound 2 = .ok (.putfield 74, 3) := by decide +kernel
theorem dX6_isSound_5 : decode cX6_isSound 5 = .ok (.iconst 1, 1) := by decide +kernel
theorem dX6_isSound_6 : decode cX6_isSound 6 = .ok (.ireturn, 1) := by decide +kernel
