theorem dL_cell_0 : decode cL_cell 0 = .ok (.iload_n 1, 1) := by decide +kernel
theorem dL_cell_1 : decode cL_cell 1 = .ok (.aload_n 0, 1) := by decide +kernel
theorem dL_cell_2 : decode cL_cell 2 = .ok (.arraylength, 1) := by decide +kernel
theorem dL_cell_3 : decode cL_cell 3 = .ok (.if_icmp .ge 9, 3) := by decide +kernel
theorem dL_cell_6 : decode cL_cell 6 = .ok (.aload_n 0, 1) := by decide +kernel
theorem dL_cell_7 : decode cL_cell 7 = .ok (.iload_n 1, 1) := by decide +kernel
theorem dL_cell_8 : decode cL_cell 8 = .ok (.iaload, 1) := by decide +kernel
theorem dL_cell_9 : decode cL_cell 9 = .ok (.goto 11, 3) := by decide +kernel
theorem dL_cell_12 : decode cL_cell 12 = .ok (.ldc 7, 2) := by decide +kernel
theorem dL_cell_14 : decode cL_cell 14 = .ok (.iload_n 1, 1) := by decide +kernel
theorem dL_cell_15 : decode cL_cell 15 = .ok (.imul, 1) := by decide +kernel
theorem dL_cell_16 : decode cL_cell 16 = .ok (.sipush 5779, 3) := by decide +kernel
theorem dL_cell_19 : decode cL_cell 19 = .ok (.iadd, 1) := by decide +kernel
theorem dL_cell_20 : decode cL_cell 20 = .ok (.ireturn, 1) := by decide +kernel
theorem dL_low_0 : decode cL_low 0 = .ok (.iload_n 0, 1) := by decide +kernel
theorem dL_low_1 : decode cL_low 1 = .ok (.ldc 8, 2) := by decide +kernel
theorem dL_low_3 : decode cL_low 3 = .ok (.iand, 1) := by decide +kernel
theorem dL_low_4 : decode cL_low 4 = .ok (.iload_n 1, 1) := by decide +kernel
theorem dL_low_5 : decode cL_low 5 = .ok (.irem, 1) := by decide +kernel
theorem dL_low_6 : decode cL_low 6 = .ok (.ireturn, 1) := by decide +kernel
theorem dL_types_0 : decode cL_types 0 = .ok (.aload_n 0, 1) := by decide +kernel
theorem dL_types_1 : decode cL_types 1 = .ok (.invokevirtual 9, 3) := by decide +kernel
theorem dL_types_4 : decode cL_types 4 = .ok (.istore 4, 2) := by decide +kernel
theorem dL_types_6 : decode cL_types 6 = .ok (.iconst 1, 1) := by decide +kernel
theorem dL_types_7 : decode cL_types 7 = .ok (.iload_n 1, 1) := by decide +kernel
theorem dL_types_8 : decode cL_types 8 = .ok (.iload_n 2, 1) := by decide +kernel
theorem dL_types_9 : decode cL_types 9 = .ok (.invokestatic 15, 3) := by decide +kernel
theorem dL_types_12 : decode cL_types 12 = .ok (.iadd, 1) := by decide +kernel
theorem dL_types_13 : decode cL_types 13 = .ok (.istore 5, 2) := by decide +kernel
theorem dL_types_15 : decode cL_types 15 = .ok (.iconst 0, 1) := by decide +kernel
theorem dL_types_16 : decode cL_types 16 = .ok (.istore 6, 2) := by decide +kernel
theorem dL_types_18 : decode cL_types 18 = .ok (.iload 6, 2) := by decide +kernel
theorem dL_types_20 : decode cL_types 20 = .ok (.iload 5, 2) := by decide +kernel
theorem dL_types_22 : decode cL_types 22 = .ok (.if_icmp .ge 63, 3) := by decide +kernel
theorem dL_types_25 : decode cL_types 25 = .ok (.ldc 7, 2) := by decide +kernel
theorem dL_types_27 : decode cL_types 27 = .ok (.iload_n 1, 1) := by decide +kernel
theorem dL_types_28 : decode cL_types 28 = .ok (.iconst 5, 1) := by decide +kernel
theorem dL_types_29 : decode cL_types 29 = .ok (.ishr, 1) := by decide +kernel
theorem dL_types_30 : decode cL_types 30 = .ok (.imul, 1) := by decide +kernel
theorem dL_types_31 : decode cL_types 31 = .ok (.sipush 2749, 3) := by decide +kernel
theorem dL_types_34 : decode cL_types 34 = .ok (.iload 6, 2) := by decide +kernel
theorem dL_types_36 : decode cL_types 36 = .ok (.imul, 1) := by decide +kernel
theorem dL_types_37 : decode cL_types 37 = .ok (.iadd, 1) := by decide +kernel
theorem dL_types_38 : decode cL_types 38 = .ok (.iconst 3, 1) := by decide +kernel
theorem dL_types_39 : decode cL_types 39 = .ok (.ishr, 1) := by decide +kernel
theorem dL_types_40 : decode cL_types 40 = .ok (.istore 7, 2) := by decide +kernel
theorem dL_types_42 : decode cL_types 42 = .ok (.aload_n 0, 1) := by decide +kernel
theorem dL_types_43 : decode cL_types 43 = .ok (.iload_n 3, 1) := by decide +kernel
theorem dL_types_44 : decode cL_types 44 = .ok (.ifCond .eq 17, 3) := by decide +kernel
theorem dL_types_47 : decode cL_types 47 = .ok (.iload 7, 2) := by decide +kernel
theorem dL_types_49 : decode cL_types 49 = .ok (.iconst 4, 1) := by decide +kernel
theorem dL_types_50 : decode cL_types 50 = .ok (.invokestatic 15, 3) := by decide +kernel
theorem dL_types_53 : decode cL_types 53 = .ok (.ifCond .ne 8, 3) := by decide +kernel
theorem dL_types_56 : decode cL_types 56 = .ok (.bipush 32, 2) := by decide +kernel
theorem dL_types_58 : decode cL_types 58 = .ok (.goto 16, 3) := by decide +kernel
theorem dL_types_61 : decode cL_types 61 = .ok (.ldc 21, 2) := by decide +kernel
theorem dL_types_63 : decode cL_types 63 = .ok (.iload 7, 2) := by decide +kernel
theorem dL_types_65 : decode cL_types 65 = .ok (.iconst 2, 1) := by decide +kernel
theorem dL_types_66 : decode cL_types 66 = .ok (.ishr, 1) := by decide +kernel
theorem dL_types_67 : decode cL_types 67 = .ok (.iconst 4, 1) := by decide +kernel
theorem dL_types_68 : decode cL_types 68 = .ok (.invokestatic 15, 3) := by decide +kernel
theorem dL_types_71 : decode cL_types 71 = .ok (.invokevirtual 23, 3) := by decide +kernel
theorem dL_types_74 : decode cL_types 74 = .ok (.invokevirtual 29, 3) := by decide +kernel
theorem dL_types_77 : decode cL_types 77 = .ok (.istore 8, 2) := by decide +kernel
theorem dL_types_79 : decode cL_types 79 = .ok (.iinc 6 1, 3) := by decide +kernel
theorem dL_types_82 : decode cL_types 82 = .ok (.goto (-64), 3) := by decide +kernel
theorem dL_types_85 : decode cL_types 85 = .ok (.return_, 1) := by decide +kernel
theorem dL_line_0 : decode cL_line 0 = .ok (.ldc 54, 2) := by decide +kernel
theorem dL_line_2 : decode cL_line 2 = .ok (.astore_n 3, 1) := by decide +kernel
theorem dL_line_3 : decode cL_line 3 = .ok (.iconst 0, 1) := by decide +kernel
theorem dL_line_4 : decode cL_line 4 = .ok (.istore 4, 2) := by decide +kernel
theorem dL_line_6 : decode cL_line 6 = .ok (.iload 4, 2) := by decide +kernel
theorem dL_line_8 : decode cL_line 8 = .ok (.bipush 40, 2) := by decide +kernel
theorem dL_line_10 : decode cL_line 10 = .ok (.if_icmp .gt 36, 3) := by decide +kernel
theorem dL_line_13 : decode cL_line 13 = .ok (.new 56, 3) := by decide +kernel
theorem dL_line_16 : decode cL_line 16 = .ok (.dup, 1) := by decide +kernel
theorem dL_line_17 : decode cL_line 17 = .ok (.invokespecial 58, 3) := by decide +kernel
theorem dL_line_20 : decode cL_line 20 = .ok (.aload_n 3, 1) := by decide +kernel
theorem dL_line_21 : decode cL_line 21 = .ok (.invokevirtual 59, 3) := by decide +kernel
theorem dL_line_24 : decode cL_line 24 = .ok (.aload_n 0, 1) := by decide +kernel
theorem dL_line_25 : decode cL_line 25 = .ok (.iload_n 1, 1) := by decide +kernel
theorem dL_line_26 : decode cL_line 26 = .ok (.iload_n 2, 1) := by decide +kernel
theorem dL_line_27 : decode cL_line 27 = .ok (.iload 4, 2) := by decide +kernel
theorem dL_line_29 : decode cL_line 29 = .ok (.invokevirtual 63, 3) := by decide +kernel
theorem dL_line_32 : decode cL_line 32 = .ok (.i2c, 1) := by decide +kernel
theorem dL_line_33 : decode cL_line 33 = .ok (.invokevirtual 66, 3) := by decide +kernel
theorem dL_line_36 : decode cL_line 36 = .ok (.invokevirtual 69, 3) := by decide +kernel
theorem dL_line_39 : decode cL_line 39 = .ok (.astore_n 3, 1) := by decide +kernel
theorem dL_line_40 : decode cL_line 40 = .ok (.iinc 4 1, 3) := by decide +kernel
theorem dL_line_43 : decode cL_line 43 = .ok (.goto (-37), 3) := by decide +kernel
theorem dL_line_46 : decode cL_line 46 = .ok (.aload_n 3, 1) := by decide +kernel
theorem dL_line_47 : decode cL_line 47 = .ok (.areturn, 1) := by decide +kernel
theorem dL_line_48 : decode cL_line 48 = .ok (.astore 4, 2) := by decide +kernel
theorem dL_line_50 : decode cL_line 50 = .ok (.aload_n 3, 1) := by decide +kernel
theorem dL_line_51 : decode cL_line 51 = .ok (.areturn, 1) := by decide +kernel
theorem dL_word_0 : decode cL_word 0 = .ok (.ldc 54, 2) := by decide +kernel
theorem dL_word_2 : decode cL_word 2 = .ok (.astore_n 3, 1) := by decide +kernel
theorem dL_word_3 : decode cL_word 3 = .ok (.iconst 0, 1) := by decide +kernel
theorem dL_word_4 : decode cL_word 4 = .ok (.istore 4, 2) := by decide +kernel
theorem dL_word_6 : decode cL_word 6 = .ok (.iload 4, 2) := by decide +kernel
theorem dL_word_8 : decode cL_word 8 = .ok (.aload_n 0, 1) := by decide +kernel
theorem dL_word_9 : decode cL_word 9 = .ok (.iload_n 1, 1) := by decide +kernel
theorem dL_word_10 : decode cL_word 10 = .ok (.iload_n 2, 1) := by decide +kernel
theorem dL_word_11 : decode cL_word 11 = .ok (.invokevirtual 73, 3) := by decide +kernel
theorem dL_word_14 : decode cL_word 14 = .ok (.if_icmp .ge 36, 3) := by decide +kernel
theorem dL_word_17 : decode cL_word 17 = .ok (.new 56, 3) := by decide +kernel
theorem dL_word_20 : decode cL_word 20 = .ok (.dup, 1) := by decide +kernel
theorem dL_word_21 : decode cL_word 21 = .ok (.invokespecial 58, 3) := by decide +kernel
theorem dL_word_24 : decode cL_word 24 = .ok (.aload_n 3, 1) := by decide +kernel
theorem dL_word_25 : decode cL_word 25 = .ok (.invokevirtual 59, 3) := by decide +kernel
theorem dL_word_28 : decode cL_word 28 = .ok (.aload_n 0, 1) := by decide +kernel
theorem dL_word_29 : decode cL_word 29 = .ok (.iload_n 1, 1) := by decide +kernel
theorem dL_word_30 : decode cL_word 30 = .ok (.iload_n 2, 1) := by decide +kernel
theorem dL_word_31 : decode cL_word 31 = .ok (.iload 4, 2) := by decide +kernel
theorem dL_word_33 : decode cL_word 33 = .ok (.invokevirtual 76, 3) := by decide +kernel
theorem dL_word_36 : decode cL_word 36 = .ok (.i2c, 1) := by decide +kernel
theorem dL_word_37 : decode cL_word 37 = .ok (.invokevirtual 66, 3) := by decide +kernel
theorem dL_word_40 : decode cL_word 40 = .ok (.invokevirtual 69, 3) := by decide +kernel
theorem dL_word_43 : decode cL_word 43 = .ok (.astore_n 3, 1) := by decide +kernel
theorem dL_word_44 : decode cL_word 44 = .ok (.iinc 4 1, 3) := by decide +kernel
theorem dL_word_47 : decode cL_word 47 = .ok (.goto (-41), 3) := by decide +kernel
theorem dL_word_50 : decode cL_word 50 = .ok (.aload_n 3, 1) := by decide +kernel
theorem dL_word_51 : decode cL_word 51 = .ok (.areturn, 1) := by decide +kernel
theorem dL_areAlike_0 : decode cL_areAlike 0 = .ok (.aload_n 0, 1) := by decide +kernel
theorem dL_areAlike_1 : decode cL_areAlike 1 = .ok (.invokevirtual 79, 3) := by decide +kernel
theorem dL_areAlike_4 : decode cL_areAlike 4 = .ok (.aload_n 1, 1) := by decide +kernel
theorem dL_areAlike_5 : decode cL_areAlike 5 = .ok (.invokevirtual 79, 3) := by decide +kernel
theorem dL_areAlike_8 : decode cL_areAlike 8 = .ok (.if_icmp .ne 7, 3) := by decide +kernel
theorem dL_areAlike_11 : decode cL_areAlike 11 = .ok (.iconst 1, 1) := by decide +kernel
theorem dL_areAlike_12 : decode cL_areAlike 12 = .ok (.goto 4, 3) := by decide +kernel
theorem dL_areAlike_15 : decode cL_areAlike 15 = .ok (.iconst 0, 1) := by decide +kernel
theorem dL_areAlike_16 : decode cL_areAlike 16 = .ok (.istore_n 2, 1) := by decide +kernel
theorem dL_areAlike_17 : decode cL_areAlike 17 = .ok (.iconst 0, 1) := by decide +kernel
theorem dL_areAlike_18 : decode cL_areAlike 18 = .ok (.istore_n 3, 1) := by decide +kernel
theorem dL_areAlike_19 : decode cL_areAlike 19 = .ok (.iload_n 3, 1) := by decide +kernel
theorem dL_areAlike_20 : decode cL_areAlike 20 = .ok (.aload_n 0, 1) := by decide +kernel
theorem dL_areAlike_21 : decode cL_areAlike 21 = .ok (.invokevirtual 79, 3) := by decide +kernel
theorem dL_areAlike_24 : decode cL_areAlike 24 = .ok (.if_icmp .ge 32, 3) := by decide +kernel
theorem dL_areAlike_27 : decode cL_areAlike 27 = .ok (.iload_n 2, 1) := by decide +kernel
theorem dL_areAlike_28 : decode cL_areAlike 28 = .ok (.ifCond .eq 28, 3) := by decide +kernel
theorem dL_areAlike_31 : decode cL_areAlike 31 = .ok (.aload_n 0, 1) := by decide +kernel
theorem dL_areAlike_32 : decode cL_areAlike 32 = .ok (.iload_n 3, 1) := by decide +kernel
theorem dL_areAlike_33 : decode cL_areAlike 33 = .ok (.invokevirtual 23, 3) := by decide +kernel
theorem dL_areAlike_36 : decode cL_areAlike 36 = .ok (.aload_n 1, 1) := by decide +kernel
theorem dL_areAlike_37 : decode cL_areAlike 37 = .ok (.iload_n 3, 1) := by decide +kernel
theorem dL_areAlike_38 : decode cL_areAlike 38 = .ok (.invokevirtual 23, 3) := by decide +kernel
theorem dL_areAlike_41 : decode cL_areAlike 41 = .ok (.if_icmp .ne 7, 3) := by decide +kernel
theorem dL_areAlike_44 : decode cL_areAlike 44 = .ok (.iconst 1, 1) := by decide +kernel
theorem dL_areAlike_45 : decode cL_areAlike 45 = .ok (.goto 4, 3) := by decide +kernel
theorem dL_areAlike_48 : decode cL_areAlike 48 = .ok (.iconst 0, 1) := by decide +kernel
theorem dL_areAlike_49 : decode cL_areAlike 49 = .ok (.istore_n 2, 1) := by decide +kernel
theorem dL_areAlike_50 : decode cL_areAlike 50 = .ok (.iinc 3 1, 3) := by decide +kernel
theorem dL_areAlike_53 : decode cL_areAlike 53 = .ok (.goto (-34), 3) := by decide +kernel
theorem dL_areAlike_56 : decode cL_areAlike 56 = .ok (.iload_n 2, 1) := by decide +kernel
theorem dL_areAlike_57 : decode cL_areAlike 57 = .ok (.ireturn, 1) := by decide +kernel
theorem dL_isSet_0 : decode cL_isSet 0 = .ok (.ldc 54, 2) := by decide +kernel
theorem dL_isSet_2 : decode cL_isSet 2 = .ok (.astore_n 3, 1) := by decide +kernel
theorem dL_isSet_3 : decode cL_isSet 3 = .ok (.ldc 54, 2) := by decide +kernel
theorem dL_isSet_5 : decode cL_isSet 5 = .ok (.astore 4, 2) := by decide +kernel
theorem dL_isSet_7 : decode cL_isSet 7 = .ok (.iconst 1, 1) := by decide +kernel
theorem dL_isSet_8 : decode cL_isSet 8 = .ok (.istore 5, 2) := by decide +kernel
theorem dL_isSet_10 : decode cL_isSet 10 = .ok (.iconst 0, 1) := by decide +kernel
theorem dL_isSet_11 : decode cL_isSet 11 = .ok (.istore 6, 2) := by decide +kernel
theorem dL_isSet_13 : decode cL_isSet 13 = .ok (.iload 6, 2) := by decide +kernel
theorem dL_isSet_15 : decode cL_isSet 15 = .ok (.aload_n 0, 1) := by decide +kernel
theorem dL_isSet_16 : decode cL_isSet 16 = .ok (.iload_n 1, 1) := by decide +kernel
theorem dL_isSet_17 : decode cL_isSet 17 = .ok (.invokevirtual 81, 3) := by decide +kernel
theorem dL_isSet_20 : decode cL_isSet 20 = .ok (.if_icmp .ge 148, 3) := by decide +kernel
theorem dL_isSet_23 : decode cL_isSet 23 = .ok (.iload 5, 2) := by decide +kernel
theorem dL_isSet_25 : decode cL_isSet 25 = .ok (.ifCond .eq 143, 3) := by decide +kernel
theorem dL_isSet_28 : decode cL_isSet 28 = .ok (.aload_n 0, 1) := by decide +kernel
theorem dL_isSet_29 : decode cL_isSet 29 = .ok (.iload_n 1, 1) := by decide +kernel
theorem dL_isSet_30 : decode cL_isSet 30 = .ok (.iload 6, 2) := by decide +kernel
theorem dL_isSet_32 : decode cL_isSet 32 = .ok (.invokestatic 84, 3) := by decide +kernel
theorem dL_isSet_35 : decode cL_isSet 35 = .ok (.astore 7, 2) := by decide +kernel
theorem dL_isSet_37 : decode cL_isSet 37 = .ok (.aload 7, 2) := by decide +kernel
theorem dL_isSet_39 : decode cL_isSet 39 = .ok (.invokevirtual 79, 3) := by decide +kernel
theorem dL_isSet_42 : decode cL_isSet 42 = .ok (.ifCond .le 40, 3) := by decide +kernel
theorem dL_isSet_45 : decode cL_isSet 45 = .ok (.aload 7, 2) := by decide +kernel
theorem dL_isSet_47 : decode cL_isSet 47 = .ok (.invokevirtual 79, 3) := by decide +kernel
theorem dL_isSet_50 : decode cL_isSet 50 = .ok (.iload_n 2, 1) := by decide +kernel
theorem dL_isSet_51 : decode cL_isSet 51 = .ok (.if_icmp .gt 31, 3) := by decide +kernel
theorem dL_isSet_54 : decode cL_isSet 54 = .ok (.aload 7, 2) := by decide +kernel
theorem dL_isSet_56 : decode cL_isSet 56 = .ok (.iconst 0, 1) := by decide +kernel
theorem dL_isSet_57 : decode cL_isSet 57 = .ok (.invokevirtual 23, 3) := by decide +kernel
theorem dL_isSet_60 : decode cL_isSet 60 = .ok (.ifCond .eq 22, 3) := by decide +kernel
theorem dL_isSet_63 : decode cL_isSet 63 = .ok (.aload 7, 2) := by decide +kernel
theorem dL_isSet_65 : decode cL_isSet 65 = .ok (.aload 7, 2) := by decide +kernel
theorem dL_isSet_67 : decode cL_isSet 67 = .ok (.invokevirtual 79, 3) := by decide +kernel
theorem dL_isSet_70 : decode cL_isSet 70 = .ok (.iconst 1, 1) := by decide +kernel
theorem dL_isSet_71 : decode cL_isSet 71 = .ok (.isub, 1) := by decide +kernel
theorem dL_isSet_72 : decode cL_isSet 72 = .ok (.invokevirtual 23, 3) := by decide +kernel
theorem dL_isSet_75 : decode cL_isSet 75 = .ok (.ifCond .eq 7, 3) := by decide +kernel
theorem dL_isSet_78 : decode cL_isSet 78 = .ok (.iconst 1, 1) := by decide +kernel
theorem dL_isSet_79 : decode cL_isSet 79 = .ok (.goto 4, 3) := by decide +kernel
theorem dL_isSet_82 : decode cL_isSet 82 = .ok (.iconst 0, 1) := by decide +kernel
theorem dL_isSet_83 : decode cL_isSet 83 = .ok (.istore 5, 2) := by decide +kernel
theorem dL_isSet_85 : decode cL_isSet 85 = .ok (.iconst 0, 1) := by decide +kernel
theorem dL_isSet_86 : decode cL_isSet 86 = .ok (.istore 8, 2) := by decide +kernel
theorem dL_isSet_88 : decode cL_isSet 88 = .ok (.iload 8, 2) := by decide +kernel
theorem dL_isSet_90 : decode cL_isSet 90 = .ok (.aload 7, 2) := by decide +kernel
theorem dL_isSet_92 : decode cL_isSet 92 = .ok (.invokevirtual 79, 3) := by decide +kernel
theorem dL_isSet_95 : decode cL_isSet 95 = .ok (.if_icmp .ge 67, 3) := by decide +kernel
theorem dL_isSet_98 : decode cL_isSet 98 = .ok (.new 56, 3) := by decide +kernel
theorem dL_isSet_101 : decode cL_isSet 101 = .ok (.dup, 1) := by decide +kernel
theorem dL_isSet_102 : decode cL_isSet 102 = .ok (.invokespecial 58, 3) := by decide +kernel
theorem dL_isSet_105 : decode cL_isSet 105 = .ok (.aload_n 3, 1) := by decide +kernel
theorem dL_isSet_106 : decode cL_isSet 106 = .ok (.invokevirtual 59, 3) := by decide +kernel
theorem dL_isSet_109 : decode cL_isSet 109 = .ok (.aload 7, 2) := by decide +kernel
theorem dL_isSet_111 : decode cL_isSet 111 = .ok (.iload 8, 2) := by decide +kernel
theorem dL_isSet_113 : decode cL_isSet 113 = .ok (.invokevirtual 23, 3) := by decide +kernel
theorem dL_isSet_116 : decode cL_isSet 116 = .ok (.ifCond .ne 8, 3) := by decide +kernel
theorem dL_isSet_119 : decode cL_isSet 119 = .ok (.ldc 54, 2) := by decide +kernel
theorem dL_isSet_121 : decode cL_isSet 121 = .ok (.goto 28, 3) := by decide +kernel
theorem dL_isSet_124 : decode cL_isSet 124 = .ok (.new 56, 3) := by decide +kernel
theorem dL_isSet_127 : decode cL_isSet 127 = .ok (.dup, 1) := by decide +kernel
theorem dL_isSet_128 : decode cL_isSet 128 = .ok (.invokespecial 58, 3) := by decide +kernel
theorem dL_isSet_131 : decode cL_isSet 131 = .ok (.ldc 54, 2) := by decide +kernel
theorem dL_isSet_133 : decode cL_isSet 133 = .ok (.invokevirtual 59, 3) := by decide +kernel
theorem dL_isSet_136 : decode cL_isSet 136 = .ok (.aload 7, 2) := by decide +kernel
theorem dL_isSet_138 : decode cL_isSet 138 = .ok (.iload 8, 2) := by decide +kernel
theorem dL_isSet_140 : decode cL_isSet 140 = .ok (.invokevirtual 23, 3) := by decide +kernel
theorem dL_isSet_143 : decode cL_isSet 143 = .ok (.invokevirtual 66, 3) := by decide +kernel
theorem dL_isSet_146 : decode cL_isSet 146 = .ok (.invokevirtual 69, 3) := by decide +kernel
theorem dL_isSet_149 : decode cL_isSet 149 = .ok (.invokevirtual 59, 3) := by decide +kernel
theorem dL_isSet_152 : decode cL_isSet 152 = .ok (.invokevirtual 69, 3) := by decide +kernel
theorem dL_isSet_155 : decode cL_isSet 155 = .ok (.astore_n 3, 1) := by decide +kernel
theorem dL_isSet_156 : decode cL_isSet 156 = .ok (.iinc 8 1, 3) := by decide +kernel
theorem dL_isSet_159 : decode cL_isSet 159 = .ok (.goto (-71), 3) := by decide +kernel
theorem dL_isSet_162 : decode cL_isSet 162 = .ok (.iinc 6 1, 3) := by decide +kernel
theorem dL_isSet_165 : decode cL_isSet 165 = .ok (.goto (-152), 3) := by decide +kernel
theorem dL_isSet_168 : decode cL_isSet 168 = .ok (.iconst 0, 1) := by decide +kernel
theorem dL_isSet_169 : decode cL_isSet 169 = .ok (.istore 6, 2) := by decide +kernel
theorem dL_isSet_171 : decode cL_isSet 171 = .ok (.iconst 0, 1) := by decide +kernel
theorem dL_isSet_172 : decode cL_isSet 172 = .ok (.istore 7, 2) := by decide +kernel
theorem dL_isSet_174 : decode cL_isSet 174 = .ok (.iload 7, 2) := by decide +kernel
theorem dL_isSet_176 : decode cL_isSet 176 = .ok (.aload_n 0, 1) := by decide +kernel
theorem dL_isSet_177 : decode cL_isSet 177 = .ok (.iload_n 1, 1) := by decide +kernel
theorem dL_isSet_178 : decode cL_isSet 178 = .ok (.invokevirtual 88, 3) := by decide +kernel
theorem dL_isSet_181 : decode cL_isSet 181 = .ok (.if_icmp .ge 69, 3) := by decide +kernel
theorem dL_isSet_184 : decode cL_isSet 184 = .ok (.iload 5, 2) := by decide +kernel
theorem dL_isSet_186 : decode cL_isSet 186 = .ok (.ifCond .eq 64, 3) := by decide +kernel
theorem dL_isSet_189 : decode cL_isSet 189 = .ok (.new 56, 3) := by decide +kernel
theorem dL_isSet_192 : decode cL_isSet 192 = .ok (.dup, 1) := by decide +kernel
theorem dL_isSet_193 : decode cL_isSet 193 = .ok (.invokespecial 58, 3) := by decide +kernel
theorem dL_isSet_196 : decode cL_isSet 196 = .ok (.aload 4, 2) := by decide +kernel
theorem dL_isSet_198 : decode cL_isSet 198 = .ok (.invokevirtual 59, 3) := by decide +kernel
theorem dL_isSet_201 : decode cL_isSet 201 = .ok (.aload_n 0, 1) := by decide +kernel
theorem dL_isSet_202 : decode cL_isSet 202 = .ok (.iload_n 1, 1) := by decide +kernel
theorem dL_isSet_203 : decode cL_isSet 203 = .ok (.iload 7, 2) := by decide +kernel
theorem dL_isSet_205 : decode cL_isSet 205 = .ok (.invokestatic 91, 3) := by decide +kernel
theorem dL_isSet_208 : decode cL_isSet 208 = .ok (.invokevirtual 59, 3) := by decide +kernel
theorem dL_isSet_211 : decode cL_isSet 211 = .ok (.invokevirtual 69, 3) := by decide +kernel
theorem dL_isSet_214 : decode cL_isSet 214 = .ok (.astore 4, 2) := by decide +kernel
theorem dL_isSet_216 : decode cL_isSet 216 = .ok (.aload_n 0, 1) := by decide +kernel
theorem dL_isSet_217 : decode cL_isSet 217 = .ok (.iload_n 1, 1) := by decide +kernel
theorem dL_isSet_218 : decode cL_isSet 218 = .ok (.iload 7, 2) := by decide +kernel
theorem dL_isSet_220 : decode cL_isSet 220 = .ok (.invokevirtual 94, 3) := by decide +kernel
theorem dL_isSet_223 : decode cL_isSet 223 = .ok (.iload 6, 2) := by decide +kernel
theorem dL_isSet_225 : decode cL_isSet 225 = .ok (.if_icmp .lt 7, 3) := by decide +kernel
theorem dL_isSet_228 : decode cL_isSet 228 = .ok (.iconst 1, 1) := by decide +kernel
theorem dL_isSet_229 : decode cL_isSet 229 = .ok (.goto 4, 3) := by decide +kernel
theorem dL_isSet_232 : decode cL_isSet 232 = .ok (.iconst 0, 1) := by decide +kernel
theorem dL_isSet_233 : decode cL_isSet 233 = .ok (.istore 5, 2) := by decide +kernel
theorem dL_isSet_235 : decode cL_isSet 235 = .ok (.aload_n 0, 1) := by decide +kernel
theorem dL_isSet_236 : decode cL_isSet 236 = .ok (.iload_n 1, 1) := by decide +kernel
theorem dL_isSet_237 : decode cL_isSet 237 = .ok (.iload 7, 2) := by decide +kernel
theorem dL_isSet_239 : decode cL_isSet 239 = .ok (.invokevirtual 94, 3) := by decide +kernel
theorem dL_isSet_242 : decode cL_isSet 242 = .ok (.istore 6, 2) := by decide +kernel
theorem dL_isSet_244 : decode cL_isSet 244 = .ok (.iinc 7 1, 3) := by decide +kernel
theorem dL_isSet_247 : decode cL_isSet 247 = .ok (.goto (-73), 3) := by decide +kernel
theorem dL_isSet_250 : decode cL_isSet 250 = .ok (.iload 5, 2) := by decide +kernel
theorem dL_isSet_252 : decode cL_isSet 252 = .ok (.ifCond .eq 16, 3) := by decide +kernel
theorem dL_isSet_255 : decode cL_isSet 255 = .ok (.aload_n 3, 1) := by decide +kernel
theorem dL_isSet_256 : decode cL_isSet 256 = .ok (.aload 4, 2) := by decide +kernel
theorem dL_isSet_258 : decode cL_isSet 258 = .ok (.invokestatic 97, 3) := by decide +kernel
theorem dL_isSet_261 : decode cL_isSet 261 = .ok (.ifCond .eq 7, 3) := by decide +kernel
theorem dL_isSet_264 : decode cL_isSet 264 = .ok (.iconst 1, 1) := by decide +kernel
theorem dL_isSet_265 : decode cL_isSet 265 = .ok (.goto 4, 3) := by decide +kernel
theorem dL_isSet_268 : decode cL_isSet 268 = .ok (.iconst 0, 1) := by decide +kernel
theorem dL_isSet_269 : decode cL_isSet 269 = .ok (.ireturn, 1) := by decide +kernel
theorem dL_acts_0 : decode cL_acts 0 = .ok (.iload_n 1, 1) := by decide +kernel
theorem dL_acts_1 : decode cL_acts 1 = .ok (.iconst 4, 1) := by decide +kernel
theorem dL_acts_2 : decode cL_acts 2 = .ok (.ishr, 1) := by decide +kernel
theorem dL_acts_3 : decode cL_acts 3 = .ok (.iconst 1, 1) := by decide +kernel
theorem dL_acts_4 : decode cL_acts 4 = .ok (.iload_n 2, 1) := by decide +kernel
theorem dL_acts_5 : decode cL_acts 5 = .ok (.invokestatic 110, 3) := by decide +kernel
theorem dL_acts_8 : decode cL_acts 8 = .ok (.invokestatic 15, 3) := by decide +kernel
theorem dL_acts_11 : decode cL_acts 11 = .ok (.istore 4, 2) := by decide +kernel
theorem dL_acts_13 : decode cL_acts 13 = .ok (.iload_n 1, 1) := by decide +kernel
theorem dL_acts_14 : decode cL_acts 14 = .ok (.bipush 14, 2) := by decide +kernel
theorem dL_acts_16 : decode cL_acts 16 = .ok (.invokestatic 15, 3) := by decide +kernel
theorem dL_acts_19 : decode cL_acts 19 = .ok (.tableswitch 304 0 11 #[61, 61, 125, 125, 170, 184, 210, 210, 258, 258, 258, 281], 61) := by decide +kernel
theorem dL_acts_80 : decode cL_acts 80 = .ok (.aload_n 0, 1) := by decide +kernel
theorem dL_acts_81 : decode cL_acts 81 = .ok (.iload_n 1, 1) := by decide +kernel
theorem dL_acts_82 : decode cL_acts 82 = .ok (.iconst 4, 1) := by decide +kernel
theorem dL_acts_83 : decode cL_acts 83 = .ok (.ishr, 1) := by decide +kernel
theorem dL_acts_84 : decode cL_acts 84 = .ok (.iconst 4, 1) := by decide +kernel
theorem dL_acts_85 : decode cL_acts 85 = .ok (.iconst 0, 1) := by decide +kernel
theorem dL_acts_86 : decode cL_acts 86 = .ok (.invokestatic 115, 3) := by decide +kernel
theorem dL_acts_89 : decode cL_acts 89 = .ok (.aload_n 0, 1) := by decide +kernel
theorem dL_acts_90 : decode cL_acts 90 = .ok (.iconst 1, 1) := by decide +kernel
theorem dL_acts_91 : decode cL_acts 91 = .ok (.iload_n 1, 1) := by decide +kernel
theorem dL_acts_92 : decode cL_acts 92 = .ok (.bipush 8, 2) := by decide +kernel
theorem dL_acts_94 : decode cL_acts 94 = .ok (.ishr, 1) := by decide +kernel
theorem dL_acts_95 : decode cL_acts 95 = .ok (.iconst 2, 1) := by decide +kernel
theorem dL_acts_96 : decode cL_acts 96 = .ok (.invokestatic 15, 3) := by decide +kernel
theorem dL_acts_99 : decode cL_acts 99 = .ok (.iadd, 1) := by decide +kernel
theorem dL_acts_100 : decode cL_acts 100 = .ok (.iconst 1, 1) := by decide +kernel
theorem dL_acts_101 : decode cL_acts 101 = .ok (.iload_n 1, 1) := by decide +kernel
theorem dL_acts_102 : decode cL_acts 102 = .ok (.bipush 9, 2) := by decide +kernel
theorem dL_acts_104 : decode cL_acts 104 = .ok (.ishr, 1) := by decide +kernel
theorem dL_acts_105 : decode cL_acts 105 = .ok (.bipush 63, 2) := by decide +kernel
theorem dL_acts_107 : decode cL_acts 107 = .ok (.invokestatic 15, 3) := by decide +kernel
theorem dL_acts_110 : decode cL_acts 110 = .ok (.iadd, 1) := by decide +kernel
theorem dL_acts_111 : decode cL_acts 111 = .ok (.iload_n 1, 1) := by decide +kernel
theorem dL_acts_112 : decode cL_acts 112 = .ok (.bipush 15, 2) := by decide +kernel
theorem dL_acts_114 : decode cL_acts 114 = .ok (.ishr, 1) := by decide +kernel
theorem dL_acts_115 : decode cL_acts 115 = .ok (.iconst 2, 1) := by decide +kernel
theorem dL_acts_116 : decode cL_acts 116 = .ok (.invokestatic 15, 3) := by decide +kernel
theorem dL_acts_119 : decode cL_acts 119 = .ok (.iconst 1, 1) := by decide +kernel
theorem dL_acts_120 : decode cL_acts 120 = .ok (.iload_n 1, 1) := by decide +kernel
theorem dL_acts_121 : decode cL_acts 121 = .ok (.bipush 16, 2) := by decide +kernel
theorem dL_acts_123 : decode cL_acts 123 = .ok (.ishr, 1) := by decide +kernel
theorem dL_acts_124 : decode cL_acts 124 = .ok (.bipush 63, 2) := by decide +kernel
theorem dL_acts_126 : decode cL_acts 126 = .ok (.invokestatic 15, 3) := by decide +kernel
theorem dL_acts_129 : decode cL_acts 129 = .ok (.iadd, 1) := by decide +kernel
theorem dL_acts_130 : decode cL_acts 130 = .ok (.imul, 1) := by decide +kernel
theorem dL_acts_131 : decode cL_acts 131 = .ok (.invokestatic 119, 3) := by decide +kernel
theorem dL_acts_134 : decode cL_acts 134 = .ok (.iconst (-1), 1) := by decide +kernel
theorem dL_acts_135 : decode cL_acts 135 = .ok (.if_icmp .lt 7, 3) := by decide +kernel
theorem dL_acts_138 : decode cL_acts 138 = .ok (.iconst 1, 1) := by decide +kernel
theorem dL_acts_139 : decode cL_acts 139 = .ok (.goto 4, 3) := by decide +kernel
theorem dL_acts_142 : decode cL_acts 142 = .ok (.iconst 0, 1) := by decide +kernel
theorem dL_acts_143 : decode cL_acts 143 = .ok (.ireturn, 1) := by decide +kernel
theorem dL_acts_144 : decode cL_acts 144 = .ok (.aload_n 0, 1) := by decide +kernel
theorem dL_acts_145 : decode cL_acts 145 = .ok (.iload_n 1, 1) := by decide +kernel
theorem dL_acts_146 : decode cL_acts 146 = .ok (.iconst 4, 1) := by decide +kernel
theorem dL_acts_147 : decode cL_acts 147 = .ok (.ishr, 1) := by decide +kernel
theorem dL_acts_148 : decode cL_acts 148 = .ok (.iconst 3, 1) := by decide +kernel
theorem dL_acts_149 : decode cL_acts 149 = .ok (.iconst 0, 1) := by decide +kernel
theorem dL_acts_150 : decode cL_acts 150 = .ok (.invokestatic 115, 3) := by decide +kernel
theorem dL_acts_153 : decode cL_acts 153 = .ok (.aload_n 0, 1) := by decide +kernel
theorem dL_acts_154 : decode cL_acts 154 = .ok (.iconst 1, 1) := by decide +kernel
theorem dL_acts_155 : decode cL_acts 155 = .ok (.iload_n 1, 1) := by decide +kernel
theorem dL_acts_156 : decode cL_acts 156 = .ok (.bipush 8, 2) := by decide +kernel
theorem dL_acts_158 : decode cL_acts 158 = .ok (.ishr, 1) := by decide +kernel
theorem dL_acts_159 : decode cL_acts 159 = .ok (.iconst 2, 1) := by decide +kernel
theorem dL_acts_160 : decode cL_acts 160 = .ok (.invokestatic 15, 3) := by decide +kernel
theorem dL_acts_163 : decode cL_acts 163 = .ok (.iadd, 1) := by decide +kernel
theorem dL_acts_164 : decode cL_acts 164 = .ok (.iconst 1, 1) := by decide +kernel
theorem dL_acts_165 : decode cL_acts 165 = .ok (.iload_n 1, 1) := by decide +kernel
theorem dL_acts_166 : decode cL_acts 166 = .ok (.bipush 9, 2) := by decide +kernel
theorem dL_acts_168 : decode cL_acts 168 = .ok (.ishr, 1) := by decide +kernel
theorem dL_acts_169 : decode cL_acts 169 = .ok (.bipush 63, 2) := by decide +kernel
theorem dL_acts_171 : decode cL_acts 171 = .ok (.invokestatic 15, 3) := by decide +kernel
theorem dL_acts_174 : decode cL_acts 174 = .ok (.iadd, 1) := by decide +kernel
theorem dL_acts_175 : decode cL_acts 175 = .ok (.iconst 0, 1) := by decide +kernel
theorem dL_acts_176 : decode cL_acts 176 = .ok (.invokestatic 123, 3) := by decide +kernel
theorem dL_acts_179 : decode cL_acts 179 = .ok (.iconst (-1), 1) := by decide +kernel
theorem dL_acts_180 : decode cL_acts 180 = .ok (.if_icmp .lt 7, 3) := by decide +kernel
theorem dL_acts_183 : decode cL_acts 183 = .ok (.iconst 1, 1) := by decide +kernel
theorem dL_acts_184 : decode cL_acts 184 = .ok (.goto 4, 3) := by decide +kernel
theorem dL_acts_187 : decode cL_acts 187 = .ok (.iconst 0, 1) := by decide +kernel
theorem dL_acts_188 : decode cL_acts 188 = .ok (.ireturn, 1) := by decide +kernel
theorem dL_acts_189 : decode cL_acts 189 = .ok (.aload_n 0, 1) := by decide +kernel
theorem dL_acts_190 : decode cL_acts 190 = .ok (.iload_n 1, 1) := by decide +kernel
theorem dL_acts_191 : decode cL_acts 191 = .ok (.iconst 4, 1) := by decide +kernel
theorem dL_acts_192 : decode cL_acts 192 = .ok (.ishr, 1) := by decide +kernel
theorem dL_acts_193 : decode cL_acts 193 = .ok (.iconst 4, 1) := by decide +kernel
theorem dL_acts_194 : decode cL_acts 194 = .ok (.iconst 0, 1) := by decide +kernel
theorem dL_acts_195 : decode cL_acts 195 = .ok (.invokestatic 115, 3) := by decide +kernel
theorem dL_acts_198 : decode cL_acts 198 = .ok (.aload_n 0, 1) := by decide +kernel
theorem dL_acts_199 : decode cL_acts 199 = .ok (.invokestatic 125, 3) := by decide +kernel
theorem dL_acts_202 : decode cL_acts 202 = .ok (.ireturn, 1) := by decide +kernel
theorem dL_acts_203 : decode cL_acts 203 = .ok (.aload_n 0, 1) := by decide +kernel
theorem dL_acts_204 : decode cL_acts 204 = .ok (.bipush 8, 2) := by decide +kernel
theorem dL_acts_206 : decode cL_acts 206 = .ok (.iload_n 1, 1) := by decide +kernel
theorem dL_acts_207 : decode cL_acts 207 = .ok (.iconst 4, 1) := by decide +kernel
theorem dL_acts_208 : decode cL_acts 208 = .ok (.ishr, 1) := by decide +kernel
theorem dL_acts_209 : decode cL_acts 209 = .ok (.bipush 33, 2) := by decide +kernel
theorem dL_acts_211 : decode cL_acts 211 = .ok (.invokestatic 15, 3) := by decide +kernel
theorem dL_acts_214 : decode cL_acts 214 = .ok (.iadd, 1) := by decide +kernel
theorem dL_acts_215 : decode cL_acts 215 = .ok (.invokevirtual 129, 3) := by decide +kernel
theorem dL_acts_218 : decode cL_acts 218 = .ok (.bipush 8, 2) := by decide +kernel
theorem dL_acts_220 : decode cL_acts 220 = .ok (.if_icmp .lt 7, 3) := by decide +kernel
theorem dL_acts_223 : decode cL_acts 223 = .ok (.iconst 1, 1) := by decide +kernel
theorem dL_acts_224 : decode cL_acts 224 = .ok (.goto 4, 3) := by decide +kernel
theorem dL_acts_227 : decode cL_acts 227 = .ok (.iconst 0, 1) := by decide +kernel
theorem dL_acts_228 : decode cL_acts 228 = .ok (.ireturn, 1) := by decide +kernel
theorem dL_acts_229 : decode cL_acts 229 = .ok (.iload_n 2, 1) := by decide +kernel
theorem dL_acts_230 : decode cL_acts 230 = .ok (.ifCond .ne 5, 3) := by decide +kernel
theorem dL_acts_233 : decode cL_acts 233 = .ok (.iconst 1, 1) := by decide +kernel
theorem dL_acts_234 : decode cL_acts 234 = .ok (.ireturn, 1) := by decide +kernel
theorem dL_acts_235 : decode cL_acts 235 = .ok (.aload_n 0, 1) := by decide +kernel
theorem dL_acts_236 : decode cL_acts 236 = .ok (.iload_n 1, 1) := by decide +kernel
theorem dL_acts_237 : decode cL_acts 237 = .ok (.bipush 7, 2) := by decide +kernel
theorem dL_acts_239 : decode cL_acts 239 = .ok (.ishr, 1) := by decide +kernel
theorem dL_acts_240 : decode cL_acts 240 = .ok (.bipush 40, 2) := by decide +kernel
theorem dL_acts_242 : decode cL_acts 242 = .ok (.iconst 1, 1) := by decide +kernel
theorem dL_acts_243 : decode cL_acts 243 = .ok (.invokestatic 115, 3) := by decide +kernel
theorem dL_acts_246 : decode cL_acts 246 = .ok (.aload_n 0, 1) := by decide +kernel
theorem dL_acts_247 : decode cL_acts 247 = .ok (.iload 4, 2) := by decide +kernel
theorem dL_acts_249 : decode cL_acts 249 = .ok (.iconst 1, 1) := by decide +kernel
theorem dL_acts_250 : decode cL_acts 250 = .ok (.iload_n 1, 1) := by decide +kernel
theorem dL_acts_251 : decode cL_acts 251 = .ok (.bipush 12, 2) := by decide +kernel
theorem dL_acts_253 : decode cL_acts 253 = .ok (.ishr, 1) := by decide +kernel
theorem dL_acts_254 : decode cL_acts 254 = .ok (.iconst 2, 1) := by decide +kernel
theorem dL_acts_255 : decode cL_acts 255 = .ok (.invokestatic 15, 3) := by decide +kernel
theorem dL_acts_258 : decode cL_acts 258 = .ok (.iadd, 1) := by decide +kernel
theorem dL_acts_259 : decode cL_acts 259 = .ok (.invokevirtual 132, 3) := by decide +kernel
theorem dL_acts_262 : decode cL_acts 262 = .ok (.aload_n 0, 1) := by decide +kernel
theorem dL_acts_263 : decode cL_acts 263 = .ok (.iload 4, 2) := by decide +kernel
theorem dL_acts_265 : decode cL_acts 265 = .ok (.invokevirtual 88, 3) := by decide +kernel
theorem dL_acts_268 : decode cL_acts 268 = .ok (.if_icmp .ne 7, 3) := by decide +kernel
theorem dL_acts_271 : decode cL_acts 271 = .ok (.iconst 1, 1) := by decide +kernel
theorem dL_acts_272 : decode cL_acts 272 = .ok (.goto 4, 3) := by decide +kernel
theorem dL_acts_275 : decode cL_acts 275 = .ok (.iconst 0, 1) := by decide +kernel
theorem dL_acts_276 : decode cL_acts 276 = .ok (.ireturn, 1) := by decide +kernel
theorem dL_acts_277 : decode cL_acts 277 = .ok (.iload_n 2, 1) := by decide +kernel
theorem dL_acts_278 : decode cL_acts 278 = .ok (.ifCond .eq 16, 3) := by decide +kernel
theorem dL_acts_281 : decode cL_acts 281 = .ok (.aload_n 0, 1) := by decide +kernel
theorem dL_acts_282 : decode cL_acts 282 = .ok (.iload 4, 2) := by decide +kernel
theorem dL_acts_284 : decode cL_acts 284 = .ok (.aload_n 3, 1) := by decide +kernel
theorem dL_acts_285 : decode cL_acts 285 = .ok (.iload 4, 2) := by decide +kernel
theorem dL_acts_287 : decode cL_acts 287 = .ok (.aaload, 1) := by decide +kernel
theorem dL_acts_288 : decode cL_acts 288 = .ok (.invokestatic 135, 3) := by decide +kernel
theorem dL_acts_291 : decode cL_acts 291 = .ok (.ifCond .eq 7, 3) := by decide +kernel
theorem dL_acts_294 : decode cL_acts 294 = .ok (.iconst 1, 1) := by decide +kernel
theorem dL_acts_295 : decode cL_acts 295 = .ok (.goto 4, 3) := by decide +kernel
theorem dL_acts_298 : decode cL_acts 298 = .ok (.iconst 0, 1) := by decide +kernel
theorem dL_acts_299 : decode cL_acts 299 = .ok (.ireturn, 1) := by decide +kernel
theorem dL_acts_300 : decode cL_acts 300 = .ok (.aload_n 0, 1) := by decide +kernel
theorem dL_acts_301 : decode cL_acts 301 = .ok (.iconst 1, 1) := by decide +kernel
theorem dL_acts_302 : decode cL_acts 302 = .ok (.iload_n 1, 1) := by decide +kernel
theorem dL_acts_303 : decode cL_acts 303 = .ok (.iconst 4, 1) := by decide +kernel
theorem dL_acts_304 : decode cL_acts 304 = .ok (.ishr, 1) := by decide +kernel
theorem dL_acts_305 : decode cL_acts 305 = .ok (.bipush 6, 2) := by decide +kernel
theorem dL_acts_307 : decode cL_acts 307 = .ok (.invokestatic 15, 3) := by decide +kernel
theorem dL_acts_310 : decode cL_acts 310 = .ok (.iadd, 1) := by decide +kernel
theorem dL_acts_311 : decode cL_acts 311 = .ok (.invokevirtual 139, 3) := by decide +kernel
theorem dL_acts_314 : decode cL_acts 314 = .ok (.ifCond .lt 7, 3) := by decide +kernel
theorem dL_acts_317 : decode cL_acts 317 = .ok (.iconst 1, 1) := by decide +kernel
theorem dL_acts_318 : decode cL_acts 318 = .ok (.goto 4, 3) := by decide +kernel
theorem dL_acts_321 : decode cL_acts 321 = .ok (.iconst 0, 1) := by decide +kernel
theorem dL_acts_322 : decode cL_acts 322 = .ok (.ireturn, 1) := by decide +kernel
theorem dL_acts_323 : decode cL_acts 323 = .ok (.iload_n 2, 1) := by decide +kernel
theorem dL_acts_324 : decode cL_acts 324 = .ok (.ifCond .eq 12, 3) := by decide +kernel
theorem dL_acts_327 : decode cL_acts 327 = .ok (.aload_n 0, 1) := by decide +kernel
theorem dL_acts_328 : decode cL_acts 328 = .ok (.iload 4, 2) := by decide +kernel
theorem dL_acts_330 : decode cL_acts 330 = .ok (.invokevirtual 88, 3) := by decide +kernel
theorem dL_acts_333 : decode cL_acts 333 = .ok (.ifCond .ne 5, 3) := by decide +kernel
theorem dL_acts_336 : decode cL_acts 336 = .ok (.iconst 1, 1) := by decide +kernel
theorem dL_acts_337 : decode cL_acts 337 = .ok (.ireturn, 1) := by decide +kernel
theorem dL_acts_338 : decode cL_acts 338 = .ok (.iload_n 1, 1) := by decide +kernel
theorem dL_acts_339 : decode cL_acts 339 = .ok (.bipush 7, 2) := by decide +kernel
theorem dL_acts_341 : decode cL_acts 341 = .ok (.ishr, 1) := by decide +kernel
theorem dL_acts_342 : decode cL_acts 342 = .ok (.aload_n 0, 1) := by decide +kernel
theorem dL_acts_343 : decode cL_acts 343 = .ok (.iload 4, 2) := by decide +kernel
theorem dL_acts_345 : decode cL_acts 345 = .ok (.invokevirtual 88, 3) := by decide +kernel
theorem dL_acts_348 : decode cL_acts 348 = .ok (.invokestatic 15, 3) := by decide +kernel
theorem dL_acts_351 : decode cL_acts 351 = .ok (.istore 5, 2) := by decide +kernel
theorem dL_acts_353 : decode cL_acts 353 = .ok (.iload_n 1, 1) := by decide +kernel
theorem dL_acts_354 : decode cL_acts 354 = .ok (.bipush 12, 2) := by decide +kernel
theorem dL_acts_356 : decode cL_acts 356 = .ok (.ishr, 1) := by decide +kernel
theorem dL_acts_357 : decode cL_acts 357 = .ok (.iconst 2, 1) := by decide +kernel
theorem dL_acts_358 : decode cL_acts 358 = .ok (.invokestatic 15, 3) := by decide +kernel
theorem dL_acts_361 : decode cL_acts 361 = .ok (.istore 6, 2) := by decide +kernel
theorem dL_acts_363 : decode cL_acts 363 = .ok (.iload_n 1, 1) := by decide +kernel
theorem dL_acts_364 : decode cL_acts 364 = .ok (.bipush 13, 2) := by decide +kernel
theorem dL_acts_366 : decode cL_acts 366 = .ok (.ishr, 1) := by decide +kernel
theorem dL_acts_367 : decode cL_acts 367 = .ok (.iconst 3, 1) := by decide +kernel
theorem dL_acts_368 : decode cL_acts 368 = .ok (.invokestatic 15, 3) := by decide +kernel
theorem dL_acts_371 : decode cL_acts 371 = .ok (.ifCond .le 7, 3) := by decide +kernel
theorem dL_acts_374 : decode cL_acts 374 = .ok (.iconst 1, 1) := by decide +kernel
theorem dL_acts_375 : decode cL_acts 375 = .ok (.goto 4, 3) := by decide +kernel
theorem dL_acts_378 : decode cL_acts 378 = .ok (.iconst 0, 1) := by decide +kernel
theorem dL_acts_379 : decode cL_acts 379 = .ok (.istore 7, 2) := by decide +kernel
theorem dL_acts_381 : decode cL_acts 381 = .ok (.aload_n 0, 1) := by decide +kernel
theorem dL_acts_382 : decode cL_acts 382 = .ok (.iconst 1, 1) := by decide +kernel
theorem dL_acts_383 : decode cL_acts 383 = .ok (.iload 6, 2) := by decide +kernel
theorem dL_acts_385 : decode cL_acts 385 = .ok (.isub, 1) := by decide +kernel
theorem dL_acts_386 : decode cL_acts 386 = .ok (.iload 4, 2) := by decide +kernel
theorem dL_acts_388 : decode cL_acts 388 = .ok (.iload 5, 2) := by decide +kernel
theorem dL_acts_390 : decode cL_acts 390 = .ok (.invokevirtual 142, 3) := by decide +kernel
theorem dL_acts_393 : decode cL_acts 393 = .ok (.istore 8, 2) := by decide +kernel
theorem dL_acts_395 : decode cL_acts 395 = .ok (.aload_n 0, 1) := by decide +kernel
theorem dL_acts_396 : decode cL_acts 396 = .ok (.iload 6, 2) := by decide +kernel
theorem dL_acts_398 : decode cL_acts 398 = .ok (.iload 4, 2) := by decide +kernel
theorem dL_acts_400 : decode cL_acts 400 = .ok (.iload 5, 2) := by decide +kernel
theorem dL_acts_402 : decode cL_acts 402 = .ok (.iload 7, 2) := by decide +kernel
theorem dL_acts_404 : decode cL_acts 404 = .ok (.invokevirtual 146, 3) := by decide +kernel
theorem dL_acts_407 : decode cL_acts 407 = .ok (.iload 8, 2) := by decide +kernel
theorem dL_acts_409 : decode cL_acts 409 = .ok (.iload 7, 2) := by decide +kernel
theorem dL_acts_411 : decode cL_acts 411 = .ok (.ifCond .eq 8, 3) := by decide +kernel
theorem dL_acts_414 : decode cL_acts 414 = .ok (.bipush 114, 2) := by decide +kernel
theorem dL_acts_416 : decode cL_acts 416 = .ok (.goto 5, 3) := by decide +kernel
theorem dL_acts_419 : decode cL_acts 419 = .ok (.bipush 119, 2) := by decide +kernel
theorem dL_acts_421 : decode cL_acts 421 = .ok (.if_icmp .ne 7, 3) := by decide +kernel
theorem dL_acts_424 : decode cL_acts 424 = .ok (.iconst 1, 1) := by decide +kernel
theorem dL_acts_425 : decode cL_acts 425 = .ok (.goto 4, 3) := by decide +kernel
theorem dL_acts_428 : decode cL_acts 428 = .ok (.iconst 0, 1) := by decide +kernel
theorem dL_acts_429 : decode cL_acts 429 = .ok (.if_icmp .ne 32, 3) := by decide +kernel
theorem dL_acts_432 : decode cL_acts 432 = .ok (.aload_n 0, 1) := by decide +kernel
theorem dL_acts_433 : decode cL_acts 433 = .ok (.iload 6, 2) := by decide +kernel
theorem dL_acts_435 : decode cL_acts 435 = .ok (.iload 4, 2) := by decide +kernel
theorem dL_acts_437 : decode cL_acts 437 = .ok (.iload 5, 2) := by decide +kernel
theorem dL_acts_439 : decode cL_acts 439 = .ok (.invokevirtual 142, 3) := by decide +kernel
theorem dL_acts_442 : decode cL_acts 442 = .ok (.iload 7, 2) := by decide +kernel
theorem dL_acts_444 : decode cL_acts 444 = .ok (.ifCond .eq 8, 3) := by decide +kernel
theorem dL_acts_447 : decode cL_acts 447 = .ok (.bipush 114, 2) := by decide +kernel
theorem dL_acts_449 : decode cL_acts 449 = .ok (.goto 5, 3) := by decide +kernel
theorem dL_acts_452 : decode cL_acts 452 = .ok (.bipush 119, 2) := by decide +kernel
theorem dL_acts_454 : decode cL_acts 454 = .ok (.if_icmp .ne 7, 3) := by decide +kernel
theorem dL_acts_457 : decode cL_acts 457 = .ok (.iconst 1, 1) := by decide +kernel
theorem dL_acts_458 : decode cL_acts 458 = .ok (.goto 4, 3) := by decide +kernel
theorem dL_acts_461 : decode cL_acts 461 = .ok (.iconst 0, 1) := by decide +kernel
theorem dL_acts_462 : decode cL_acts 462 = .ok (.ireturn, 1) := by decide +kernel
theorem dL_law_0 : decode cL_law 0 = .ok (.new 10, 3) := by decide +kernel
theorem dL_law_3 : decode cL_law 3 = .ok (.dup, 1) := by decide +kernel
theorem dL_law_4 : decode cL_law 4 = .ok (.invokespecial 150, 3) := by decide +kernel
theorem dL_law_7 : decode cL_law 7 = .ok (.astore_n 1, 1) := by decide +kernel
theorem dL_law_8 : decode cL_law 8 = .ok (.bipush 6, 2) := by decide +kernel
theorem dL_law_10 : decode cL_law 10 = .ok (.bipush 100, 2) := by decide +kernel
theorem dL_law_12 : decode cL_law 12 = .ok (.multianewarray 151 2, 4) := by decide +kernel
theorem dL_law_16 : decode cL_law 16 = .ok (.astore_n 2, 1) := by decide +kernel
theorem dL_law_17 : decode cL_law 17 = .ok (.iconst 0, 1) := by decide +kernel
theorem dL_law_18 : decode cL_law 18 = .ok (.istore_n 3, 1) := by decide +kernel
theorem dL_law_19 : decode cL_law 19 = .ok (.iconst 1, 1) := by decide +kernel
theorem dL_law_20 : decode cL_law 20 = .ok (.istore 4, 2) := by decide +kernel
theorem dL_law_22 : decode cL_law 22 = .ok (.aload_n 1, 1) := by decide +kernel
theorem dL_law_23 : decode cL_law 23 = .ok (.aload_n 0, 1) := by decide +kernel
theorem dL_law_24 : decode cL_law 24 = .ok (.iconst 0, 1) := by decide +kernel
theorem dL_law_25 : decode cL_law 25 = .ok (.invokestatic 153, 3) := by decide +kernel
theorem dL_law_28 : decode cL_law 28 = .ok (.iconst 3, 1) := by decide +kernel
theorem dL_law_29 : decode cL_law 29 = .ok (.invokestatic 15, 3) := by decide +kernel
theorem dL_law_32 : decode cL_law 32 = .ok (.ifCond .ne 22, 3) := by decide +kernel
theorem dL_law_35 : decode cL_law 35 = .ok (.bipush 10, 2) := by decide +kernel
theorem dL_law_37 : decode cL_law 37 = .ok (.aload_n 0, 1) := by decide +kernel
theorem dL_law_38 : decode cL_law 38 = .ok (.iconst 0, 1) := by decide +kernel
theorem dL_law_39 : decode cL_law 39 = .ok (.invokestatic 153, 3) := by decide +kernel
theorem dL_law_42 : decode cL_law 42 = .ok (.iconst 2, 1) := by decide +kernel
theorem dL_law_43 : decode cL_law 43 = .ok (.ishr, 1) := by decide +kernel
theorem dL_law_44 : decode cL_law 44 = .ok (.sipush 200, 3) := by decide +kernel
theorem dL_law_47 : decode cL_law 47 = .ok (.invokestatic 15, 3) := by decide +kernel
theorem dL_law_50 : decode cL_law 50 = .ok (.iadd, 1) := by decide +kernel
theorem dL_law_51 : decode cL_law 51 = .ok (.goto 6, 3) := by decide +kernel
theorem dL_law_54 : decode cL_law 54 = .ok (.sipush 9999, 3) := by decide +kernel
theorem dL_law_57 : decode cL_law 57 = .ok (.invokevirtual 157, 3) := by decide +kernel
theorem dL_law_60 : decode cL_law 60 = .ok (.istore 5, 2) := by decide +kernel
theorem dL_law_62 : decode cL_law 62 = .ok (.iconst 0, 1) := by decide +kernel
theorem dL_law_63 : decode cL_law 63 = .ok (.istore 6, 2) := by decide +kernel
theorem dL_law_65 : decode cL_law 65 = .ok (.iload 6, 2) := by decide +kernel
theorem dL_law_67 : decode cL_law 67 = .ok (.bipush 40, 2) := by decide +kernel
theorem dL_law_69 : decode cL_law 69 = .ok (.if_icmp .ge 407, 3) := by decide +kernel
theorem dL_law_72 : decode cL_law 72 = .ok (.iload 4, 2) := by decide +kernel
theorem dL_law_74 : decode cL_law 74 = .ok (.ifCond .eq 402, 3) := by decide +kernel
theorem dL_law_77 : decode cL_law 77 = .ok (.aload_n 0, 1) := by decide +kernel
theorem dL_law_78 : decode cL_law 78 = .ok (.iconst 1, 1) := by decide +kernel
theorem dL_law_79 : decode cL_law 79 = .ok (.iload 6, 2) := by decide +kernel
theorem dL_law_81 : decode cL_law 81 = .ok (.iadd, 1) := by decide +kernel
theorem dL_law_82 : decode cL_law 82 = .ok (.invokestatic 153, 3) := by decide +kernel
theorem dL_law_85 : decode cL_law 85 = .ok (.istore 7, 2) := by decide +kernel
theorem dL_law_87 : decode cL_law 87 = .ok (.iload_n 3, 1) := by decide +kernel
theorem dL_law_88 : decode cL_law 88 = .ok (.bipush 6, 2) := by decide +kernel
theorem dL_law_90 : decode cL_law 90 = .ok (.if_icmp .ge 64, 3) := by decide +kernel
theorem dL_law_93 : decode cL_law 93 = .ok (.iload 7, 2) := by decide +kernel
theorem dL_law_95 : decode cL_law 95 = .ok (.bipush 18, 2) := by decide +kernel
theorem dL_law_97 : decode cL_law 97 = .ok (.ishr, 1) := by decide +kernel
theorem dL_law_98 : decode cL_law 98 = .ok (.bipush 6, 2) := by decide +kernel
theorem dL_law_100 : decode cL_law 100 = .ok (.invokestatic 15, 3) := by decide +kernel
theorem dL_law_103 : decode cL_law 103 = .ok (.ifCond .ne 51, 3) := by decide +kernel
theorem dL_law_106 : decode cL_law 106 = .ok (.aload_n 1, 1) := by decide +kernel
theorem dL_law_107 : decode cL_law 107 = .ok (.iload 7, 2) := by decide +kernel
theorem dL_law_109 : decode cL_law 109 = .ok (.iconst 3, 1) := by decide +kernel
theorem dL_law_110 : decode cL_law 110 = .ok (.ishr, 1) := by decide +kernel
theorem dL_law_111 : decode cL_law 111 = .ok (.bipush 60, 2) := by decide +kernel
theorem dL_law_113 : decode cL_law 113 = .ok (.iconst 1, 1) := by decide +kernel
theorem dL_law_114 : decode cL_law 114 = .ok (.invokestatic 115, 3) := by decide +kernel
theorem dL_law_117 : decode cL_law 117 = .ok (.aload_n 1, 1) := by decide +kernel
theorem dL_law_118 : decode cL_law 118 = .ok (.iload_n 3, 1) := by decide +kernel
theorem dL_law_119 : decode cL_law 119 = .ok (.iconst 1, 1) := by decide +kernel
theorem dL_law_120 : decode cL_law 120 = .ok (.iload 7, 2) := by decide +kernel
theorem dL_law_122 : decode cL_law 122 = .ok (.bipush 9, 2) := by decide +kernel
theorem dL_law_124 : decode cL_law 124 = .ok (.ishr, 1) := by decide +kernel
theorem dL_law_125 : decode cL_law 125 = .ok (.iconst 2, 1) := by decide +kernel
theorem dL_law_126 : decode cL_law 126 = .ok (.invokestatic 15, 3) := by decide +kernel
theorem dL_law_129 : decode cL_law 129 = .ok (.iadd, 1) := by decide +kernel
theorem dL_law_130 : decode cL_law 130 = .ok (.invokevirtual 132, 3) := by decide +kernel
theorem dL_law_133 : decode cL_law 133 = .ok (.aload_n 1, 1) := by decide +kernel
theorem dL_law_134 : decode cL_law 134 = .ok (.iload_n 3, 1) := by decide +kernel
theorem dL_law_135 : decode cL_law 135 = .ok (.invokevirtual 88, 3) := by decide +kernel
theorem dL_law_138 : decode cL_law 138 = .ok (.if_icmp .ne 7, 3) := by decide +kernel
theorem dL_law_141 : decode cL_law 141 = .ok (.iconst 1, 1) := by decide +kernel
theorem dL_law_142 : decode cL_law 142 = .ok (.goto 4, 3) := by decide +kernel
theorem dL_law_145 : decode cL_law 145 = .ok (.iconst 0, 1) := by decide +kernel
theorem dL_law_146 : decode cL_law 146 = .ok (.istore 4, 2) := by decide +kernel
theorem dL_law_148 : decode cL_law 148 = .ok (.iinc 3 1, 3) := by decide +kernel
theorem dL_law_151 : decode cL_law 151 = .ok (.goto 319, 3) := by decide +kernel
theorem dL_law_154 : decode cL_law 154 = .ok (.iload_n 3, 1) := by decide +kernel
theorem dL_law_155 : decode cL_law 155 = .ok (.bipush 40, 2) := by decide +kernel
theorem dL_law_157 : decode cL_law 157 = .ok (.imul, 1) := by decide +kernel
theorem dL_law_158 : decode cL_law 158 = .ok (.anewarray 24, 3) := by decide +kernel
theorem dL_law_161 : decode cL_law 161 = .ok (.astore 8, 2) := by decide +kernel
theorem dL_law_163 : decode cL_law 163 = .ok (.iload_n 3, 1) := by decide +kernel
theorem dL_law_164 : decode cL_law 164 = .ok (.bipush 80, 2) := by decide +kernel
theorem dL_law_166 : decode cL_law 166 = .ok (.imul, 1) := by decide +kernel
theorem dL_law_167 : decode cL_law 167 = .ok (.newarray .char, 2) := by decide +kernel
theorem dL_law_169 : decode cL_law 169 = .ok (.astore 9, 2) := by decide +kernel
theorem dL_law_171 : decode cL_law 171 = .ok (.bipush 6, 2) := by decide +kernel
theorem dL_law_173 : decode cL_law 173 = .ok (.newarray .int, 2) := by decide +kernel
theorem dL_law_175 : decode cL_law 175 = .ok (.astore 10, 2) := by decide +kernel
theorem dL_law_177 : decode cL_law 177 = .ok (.iconst 0, 1) := by decide +kernel
theorem dL_law_178 : decode cL_law 178 = .ok (.istore 11, 2) := by decide +kernel
theorem dL_law_180 : decode cL_law 180 = .ok (.iload 11, 2) := by decide +kernel
theorem dL_law_182 : decode cL_law 182 = .ok (.iload_n 3, 1) := by decide +kernel
theorem dL_law_183 : decode cL_law 183 = .ok (.if_icmp .ge 104, 3) := by decide +kernel
theorem dL_law_186 : decode cL_law 186 = .ok (.aload 10, 2) := by decide +kernel
theorem dL_law_188 : decode cL_law 188 = .ok (.iload 11, 2) := by decide +kernel
theorem dL_law_190 : decode cL_law 190 = .ok (.aload_n 1, 1) := by decide +kernel
theorem dL_law_191 : decode cL_law 191 = .ok (.iload 11, 2) := by decide +kernel
theorem dL_law_193 : decode cL_law 193 = .ok (.invokevirtual 88, 3) := by decide +kernel
theorem dL_law_196 : decode cL_law 196 = .ok (.iastore, 1) := by decide +kernel
theorem dL_law_197 : decode cL_law 197 = .ok (.iconst 0, 1) := by decide +kernel
theorem dL_law_198 : decode cL_law 198 = .ok (.istore 12, 2) := by decide +kernel
theorem dL_law_200 : decode cL_law 200 = .ok (.iload 12, 2) := by decide +kernel
theorem dL_law_202 : decode cL_law 202 = .ok (.aload 10, 2) := by decide +kernel
theorem dL_law_204 : decode cL_law 204 = .ok (.iload 11, 2) := by decide +kernel
theorem dL_law_206 : decode cL_law 206 = .ok (.iaload, 1) := by decide +kernel
theorem dL_law_207 : decode cL_law 207 = .ok (.if_icmp .ge 74, 3) := by decide +kernel
theorem dL_law_210 : decode cL_law 210 = .ok (.aload 8, 2) := by decide +kernel
theorem dL_law_212 : decode cL_law 212 = .ok (.bipush 40, 2) := by decide +kernel
theorem dL_law_214 : decode cL_law 214 = .ok (.iload 11, 2) := by decide +kernel
theorem dL_law_216 : decode cL_law 216 = .ok (.imul, 1) := by decide +kernel
theorem dL_law_217 : decode cL_law 217 = .ok (.iload 12, 2) := by decide +kernel
theorem dL_law_219 : decode cL_law 219 = .ok (.iadd, 1) := by decide +kernel
theorem dL_law_220 : decode cL_law 220 = .ok (.aload_n 1, 1) := by decide +kernel
theorem dL_law_221 : decode cL_law 221 = .ok (.iload 11, 2) := by decide +kernel
theorem dL_law_223 : decode cL_law 223 = .ok (.iload 12, 2) := by decide +kernel
theorem dL_law_225 : decode cL_law 225 = .ok (.invokestatic 91, 3) := by decide +kernel
theorem dL_law_228 : decode cL_law 228 = .ok (.aastore, 1) := by decide +kernel
theorem dL_law_229 : decode cL_law 229 = .ok (.aload 9, 2) := by decide +kernel
theorem dL_law_231 : decode cL_law 231 = .ok (.bipush 80, 2) := by decide +kernel
theorem dL_law_233 : decode cL_law 233 = .ok (.iload 11, 2) := by decide +kernel
theorem dL_law_235 : decode cL_law 235 = .ok (.imul, 1) := by decide +kernel
theorem dL_law_236 : decode cL_law 236 = .ok (.iconst 2, 1) := by decide +kernel
theorem dL_law_237 : decode cL_law 237 = .ok (.iload 12, 2) := by decide +kernel
theorem dL_law_239 : decode cL_law 239 = .ok (.imul, 1) := by decide +kernel
theorem dL_law_240 : decode cL_law 240 = .ok (.iadd, 1) := by decide +kernel
theorem dL_law_241 : decode cL_law 241 = .ok (.aload_n 1, 1) := by decide +kernel
theorem dL_law_242 : decode cL_law 242 = .ok (.iconst 0, 1) := by decide +kernel
theorem dL_law_243 : decode cL_law 243 = .ok (.iload 11, 2) := by decide +kernel
theorem dL_law_245 : decode cL_law 245 = .ok (.iload 12, 2) := by decide +kernel
theorem dL_law_247 : decode cL_law 247 = .ok (.invokevirtual 142, 3) := by decide +kernel
theorem dL_law_250 : decode cL_law 250 = .ok (.castore, 1) := by decide +kernel
theorem dL_law_251 : decode cL_law 251 = .ok (.aload 9, 2) := by decide +kernel
theorem dL_law_253 : decode cL_law 253 = .ok (.bipush 80, 2) := by decide +kernel
theorem dL_law_255 : decode cL_law 255 = .ok (.iload 11, 2) := by decide +kernel
theorem dL_law_257 : decode cL_law 257 = .ok (.imul, 1) := by decide +kernel
theorem dL_law_258 : decode cL_law 258 = .ok (.iconst 2, 1) := by decide +kernel
theorem dL_law_259 : decode cL_law 259 = .ok (.iload 12, 2) := by decide +kernel
theorem dL_law_261 : decode cL_law 261 = .ok (.imul, 1) := by decide +kernel
theorem dL_law_262 : decode cL_law 262 = .ok (.iadd, 1) := by decide +kernel
theorem dL_law_263 : decode cL_law 263 = .ok (.iconst 1, 1) := by decide +kernel
theorem dL_law_264 : decode cL_law 264 = .ok (.iadd, 1) := by decide +kernel
theorem dL_law_265 : decode cL_law 265 = .ok (.aload_n 1, 1) := by decide +kernel
theorem dL_law_266 : decode cL_law 266 = .ok (.iconst 1, 1) := by decide +kernel
theorem dL_law_267 : decode cL_law 267 = .ok (.iload 11, 2) := by decide +kernel
theorem dL_law_269 : decode cL_law 269 = .ok (.iload 12, 2) := by decide +kernel
theorem dL_law_271 : decode cL_law 271 = .ok (.invokevirtual 142, 3) := by decide +kernel
theorem dL_law_274 : decode cL_law 274 = .ok (.castore, 1) := by decide +kernel
theorem dL_law_275 : decode cL_law 275 = .ok (.iinc 12 1, 3) := by decide +kernel
theorem dL_law_278 : decode cL_law 278 = .ok (.goto (-78), 3) := by decide +kernel
theorem dL_law_281 : decode cL_law 281 = .ok (.iinc 11 1, 3) := by decide +kernel
theorem dL_law_284 : decode cL_law 284 = .ok (.goto (-104), 3) := by decide +kernel
theorem dL_law_287 : decode cL_law 287 = .ok (.aload_n 1, 1) := by decide +kernel
theorem dL_law_288 : decode cL_law 288 = .ok (.iload 7, 2) := by decide +kernel
theorem dL_law_290 : decode cL_law 290 = .ok (.iload_n 3, 1) := by decide +kernel
theorem dL_law_291 : decode cL_law 291 = .ok (.aload_n 2, 1) := by decide +kernel
theorem dL_law_292 : decode cL_law 292 = .ok (.invokestatic 160, 3) := by decide +kernel
theorem dL_law_295 : decode cL_law 295 = .ok (.istore 4, 2) := by decide +kernel
theorem dL_law_297 : decode cL_law 297 = .ok (.iload 7, 2) := by decide +kernel
theorem dL_law_299 : decode cL_law 299 = .ok (.bipush 14, 2) := by decide +kernel
theorem dL_law_301 : decode cL_law 301 = .ok (.invokestatic 15, 3) := by decide +kernel
theorem dL_law_304 : decode cL_law 304 = .ok (.istore 11, 2) := by decide +kernel
theorem dL_law_306 : decode cL_law 306 = .ok (.iconst 0, 1) := by decide +kernel
theorem dL_law_307 : decode cL_law 307 = .ok (.istore 12, 2) := by decide +kernel
theorem dL_law_309 : decode cL_law 309 = .ok (.iload 12, 2) := by decide +kernel
theorem dL_law_311 : decode cL_law 311 = .ok (.iload_n 3, 1) := by decide +kernel
theorem dL_law_312 : decode cL_law 312 = .ok (.if_icmp .ge 158, 3) := by decide +kernel
theorem dL_law_315 : decode cL_law 315 = .ok (.iload 4, 2) := by decide +kernel
theorem dL_law_317 : decode cL_law 317 = .ok (.ifCond .eq 153, 3) := by decide +kernel
theorem dL_law_320 : decode cL_law 320 = .ok (.aload_n 1, 1) := by decide +kernel
theorem dL_law_321 : decode cL_law 321 = .ok (.iload 12, 2) := by decide +kernel
theorem dL_law_323 : decode cL_law 323 = .ok (.bipush 40, 2) := by decide +kernel
theorem dL_law_325 : decode cL_law 325 = .ok (.invokestatic 164, 3) := by decide +kernel
theorem dL_law_328 : decode cL_law 328 = .ok (.istore 4, 2) := by decide +kernel
theorem dL_law_330 : decode cL_law 330 = .ok (.iconst 0, 1) := by decide +kernel
theorem dL_law_331 : decode cL_law 331 = .ok (.istore 13, 2) := by decide +kernel
theorem dL_law_333 : decode cL_law 333 = .ok (.iload 13, 2) := by decide +kernel
theorem dL_law_335 : decode cL_law 335 = .ok (.aload 10, 2) := by decide +kernel
theorem dL_law_337 : decode cL_law 337 = .ok (.iload 12, 2) := by decide +kernel
theorem dL_law_339 : decode cL_law 339 = .ok (.iaload, 1) := by decide +kernel
theorem dL_law_340 : decode cL_law 340 = .ok (.if_icmp .ge 124, 3) := by decide +kernel
theorem dL_law_343 : decode cL_law 343 = .ok (.iload 4, 2) := by decide +kernel
theorem dL_law_345 : decode cL_law 345 = .ok (.ifCond .eq 119, 3) := by decide +kernel
theorem dL_law_348 : decode cL_law 348 = .ok (.iload 11, 2) := by decide +kernel
theorem dL_law_350 : decode cL_law 350 = .ok (.bipush 6, 2) := by decide +kernel
theorem dL_law_352 : decode cL_law 352 = .ok (.if_icmp .ge 112, 3) := by decide +kernel
theorem dL_law_355 : decode cL_law 355 = .ok (.aload 8, 2) := by decide +kernel
theorem dL_law_357 : decode cL_law 357 = .ok (.bipush 40, 2) := by decide +kernel
theorem dL_law_359 : decode cL_law 359 = .ok (.iload 12, 2) := by decide +kernel
theorem dL_law_361 : decode cL_law 361 = .ok (.imul, 1) := by decide +kernel
theorem dL_law_362 : decode cL_law 362 = .ok (.iload 13, 2) := by decide +kernel
theorem dL_law_364 : decode cL_law 364 = .ok (.iadd, 1) := by decide +kernel
theorem dL_law_365 : decode cL_law 365 = .ok (.aaload, 1) := by decide +kernel
theorem dL_law_366 : decode cL_law 366 = .ok (.aload_n 1, 1) := by decide +kernel
theorem dL_law_367 : decode cL_law 367 = .ok (.iload 12, 2) := by decide +kernel
theorem dL_law_369 : decode cL_law 369 = .ok (.iload 13, 2) := by decide +kernel
theorem dL_law_371 : decode cL_law 371 = .ok (.invokestatic 91, 3) := by decide +kernel
theorem dL_law_374 : decode cL_law 374 = .ok (.invokestatic 97, 3) := by decide +kernel
theorem dL_law_377 : decode cL_law 377 = .ok (.istore 14, 2) := by decide +kernel
theorem dL_law_379 : decode cL_law 379 = .ok (.aload_n 1, 1) := by decide +kernel
theorem dL_law_380 : decode cL_law 380 = .ok (.iconst 0, 1) := by decide +kernel
theorem dL_law_381 : decode cL_law 381 = .ok (.iload 12, 2) := by decide +kernel
theorem dL_law_383 : decode cL_law 383 = .ok (.iload 13, 2) := by decide +kernel
theorem dL_law_385 : decode cL_law 385 = .ok (.invokevirtual 142, 3) := by decide +kernel
theorem dL_law_388 : decode cL_law 388 = .ok (.iload 14, 2) := by decide +kernel
theorem dL_law_390 : decode cL_law 390 = .ok (.ifCond .eq 19, 3) := by decide +kernel
theorem dL_law_393 : decode cL_law 393 = .ok (.aload 9, 2) := by decide +kernel
theorem dL_law_395 : decode cL_law 395 = .ok (.bipush 80, 2) := by decide +kernel
theorem dL_law_397 : decode cL_law 397 = .ok (.iload 12, 2) := by decide +kernel
theorem dL_law_399 : decode cL_law 399 = .ok (.imul, 1) := by decide +kernel
theorem dL_law_400 : decode cL_law 400 = .ok (.iconst 2, 1) := by decide +kernel
theorem dL_law_401 : decode cL_law 401 = .ok (.iload 13, 2) := by decide +kernel
theorem dL_law_403 : decode cL_law 403 = .ok (.imul, 1) := by decide +kernel
theorem dL_law_404 : decode cL_law 404 = .ok (.iadd, 1) := by decide +kernel
theorem dL_law_405 : decode cL_law 405 = .ok (.caload, 1) := by decide +kernel
theorem dL_law_406 : decode cL_law 406 = .ok (.goto 5, 3) := by decide +kernel
theorem dL_law_409 : decode cL_law 409 = .ok (.bipush 45, 2) := by decide +kernel
theorem dL_law_411 : decode cL_law 411 = .ok (.if_icmp .ne 44, 3) := by decide +kernel
theorem dL_law_414 : decode cL_law 414 = .ok (.aload_n 1, 1) := by decide +kernel
theorem dL_law_415 : decode cL_law 415 = .ok (.iconst 1, 1) := by decide +kernel
theorem dL_law_416 : decode cL_law 416 = .ok (.iload 12, 2) := by decide +kernel
theorem dL_law_418 : decode cL_law 418 = .ok (.iload 13, 2) := by decide +kernel
theorem dL_law_420 : decode cL_law 420 = .ok (.invokevirtual 142, 3) := by decide +kernel
theorem dL_law_423 : decode cL_law 423 = .ok (.iload 14, 2) := by decide +kernel
theorem dL_law_425 : decode cL_law 425 = .ok (.ifCond .eq 21, 3) := by decide +kernel
theorem dL_law_428 : decode cL_law 428 = .ok (.aload 9, 2) := by decide +kernel
theorem dL_law_430 : decode cL_law 430 = .ok (.bipush 80, 2) := by decide +kernel
theorem dL_law_432 : decode cL_law 432 = .ok (.iload 12, 2) := by decide +kernel
theorem dL_law_434 : decode cL_law 434 = .ok (.imul, 1) := by decide +kernel
theorem dL_law_435 : decode cL_law 435 = .ok (.iconst 2, 1) := by decide +kernel
theorem dL_law_436 : decode cL_law 436 = .ok (.iload 13, 2) := by decide +kernel
theorem dL_law_438 : decode cL_law 438 = .ok (.imul, 1) := by decide +kernel
theorem dL_law_439 : decode cL_law 439 = .ok (.iadd, 1) := by decide +kernel
theorem dL_law_440 : decode cL_law 440 = .ok (.iconst 1, 1) := by decide +kernel
theorem dL_law_441 : decode cL_law 441 = .ok (.iadd, 1) := by decide +kernel
theorem dL_law_442 : decode cL_law 442 = .ok (.caload, 1) := by decide +kernel
theorem dL_law_443 : decode cL_law 443 = .ok (.goto 5, 3) := by decide +kernel
theorem dL_law_446 : decode cL_law 446 = .ok (.bipush 45, 2) := by decide +kernel
theorem dL_law_448 : decode cL_law 448 = .ok (.if_icmp .ne 7, 3) := by decide +kernel
theorem dL_law_451 : decode cL_law 451 = .ok (.iconst 1, 1) := by decide +kernel
theorem dL_law_452 : decode cL_law 452 = .ok (.goto 4, 3) := by decide +kernel
theorem dL_law_455 : decode cL_law 455 = .ok (.iconst 0, 1) := by decide +kernel
theorem dL_law_456 : decode cL_law 456 = .ok (.istore 4, 2) := by decide +kernel
theorem dL_law_458 : decode cL_law 458 = .ok (.iinc 13 1, 3) := by decide +kernel
theorem dL_law_461 : decode cL_law 461 = .ok (.goto (-128), 3) := by decide +kernel
theorem dL_law_464 : decode cL_law 464 = .ok (.iinc 12 1, 3) := by decide +kernel
theorem dL_law_467 : decode cL_law 467 = .ok (.goto (-158), 3) := by decide +kernel
theorem dL_law_470 : decode cL_law 470 = .ok (.iinc 6 1, 3) := by decide +kernel
theorem dL_law_473 : decode cL_law 473 = .ok (.goto (-408), 3) := by decide +kernel
theorem dL_law_476 : decode cL_law 476 = .ok (.iload 4, 2) := by decide +kernel
theorem dL_law_478 : decode cL_law 478 = .ok (.ifCond .eq 14, 3) := by decide +kernel
theorem dL_law_481 : decode cL_law 481 = .ok (.aload_n 1, 1) := by decide +kernel
theorem dL_law_482 : decode cL_law 482 = .ok (.invokevirtual 168, 3) := by decide +kernel
theorem dL_law_485 : decode cL_law 485 = .ok (.ifCond .eq 7, 3) := by decide +kernel
theorem dL_law_488 : decode cL_law 488 = .ok (.iconst 1, 1) := by decide +kernel
theorem dL_law_489 : decode cL_law 489 = .ok (.goto 4, 3) := by decide +kernel
theorem dL_law_492 : decode cL_law 492 = .ok (.iconst 0, 1) := by decide +kernel
theorem dL_law_493 : decode cL_law 493 = .ok (.ireturn, 1) := by decide +kernel
