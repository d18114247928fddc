theorem dL_type_0 : decode cL_type 0 = .ok (.aload_n 2, 1) := by decide +kernel
theorem dL_type_1 : decode cL_type 1 = .ok (.iconst 0, 1) := by decide +kernel
theorem dL_type_2 : decode cL_type 2 = .ok (.aload_n 0, 1) := by decide +kernel
theorem dL_type_3 : decode cL_type 3 = .ok (.iload_n 1, 1) := by decide +kernel
theorem dL_type_4 : decode cL_type 4 = .ok (.invokevirtual 7, 3) := by decide +kernel
theorem dL_type_7 : decode cL_type 7 = .ok (.i2l, 1) := by decide +kernel
theorem dL_type_8 : decode cL_type 8 = .ok (.lastore, 1) := by decide +kernel
theorem dL_type_9 : decode cL_type 9 = .ok (.goto 9, 3) := by decide +kernel
theorem dL_type_12 : decode cL_type 12 = .ok (.astore_n 3, 1) := by decide +kernel
theorem dL_type_13 : decode cL_type 13 = .ok (.iconst 1, 1) := by decide +kernel
theorem dL_type_14 : decode cL_type 14 = .ok (.ireturn, 1) := by decide +kernel
theorem dL_type_15 : decode cL_type 15 = .ok (.astore_n 3, 1) := by decide +kernel
theorem dL_type_16 : decode cL_type 16 = .ok (.iconst 2, 1) := by decide +kernel
theorem dL_type_17 : decode cL_type 17 = .ok (.ireturn, 1) := by decide +kernel
theorem dL_type_18 : decode cL_type 18 = .ok (.iconst 0, 1) := by decide +kernel
theorem dL_type_19 : decode cL_type 19 = .ok (.ireturn, 1) := by decide +kernel
theorem dL_addRule_0 : decode cL_addRule 0 = .ok (.aload 4, 2) := by decide +kernel
theorem dL_addRule_2 : decode cL_addRule 2 = .ok (.iconst 0, 1) := by decide +kernel
theorem dL_addRule_3 : decode cL_addRule 3 = .ok (.aload_n 0, 1) := by decide +kernel
theorem dL_addRule_4 : decode cL_addRule 4 = .ok (.iload_n 1, 1) := by decide +kernel
theorem dL_addRule_5 : decode cL_addRule 5 = .ok (.iload_n 2, 1) := by decide +kernel
theorem dL_addRule_6 : decode cL_addRule 6 = .ok (.iload_n 3, 1) := by decide +kernel
theorem dL_addRule_7 : decode cL_addRule 7 = .ok (.invokevirtual 17, 3) := by decide +kernel
theorem dL_addRule_10 : decode cL_addRule 10 = .ok (.i2l, 1) := by decide +kernel
theorem dL_addRule_11 : decode cL_addRule 11 = .ok (.lastore, 1) := by decide +kernel
theorem dL_addRule_12 : decode cL_addRule 12 = .ok (.goto 15, 3) := by decide +kernel
theorem dL_addRule_15 : decode cL_addRule 15 = .ok (.astore 5, 2) := by decide +kernel
theorem dL_addRule_17 : decode cL_addRule 17 = .ok (.iconst 1, 1) := by decide +kernel
theorem dL_addRule_18 : decode cL_addRule 18 = .ok (.ireturn, 1) := by decide +kernel
theorem dL_addRule_19 : decode cL_addRule 19 = .ok (.astore 5, 2) := by decide +kernel
theorem dL_addRule_21 : decode cL_addRule 21 = .ok (.iconst 2, 1) := by decide +kernel
theorem dL_addRule_22 : decode cL_addRule 22 = .ok (.ireturn, 1) := by decide +kernel
theorem dL_addRule_23 : decode cL_addRule 23 = .ok (.astore 5, 2) := by decide +kernel
theorem dL_addRule_25 : decode cL_addRule 25 = .ok (.iconst 3, 1) := by decide +kernel
theorem dL_addRule_26 : decode cL_addRule 26 = .ok (.ireturn, 1) := by decide +kernel
theorem dL_addRule_27 : decode cL_addRule 27 = .ok (.iconst 0, 1) := by decide +kernel
theorem dL_addRule_28 : decode cL_addRule 28 = .ok (.ireturn, 1) := by decide +kernel
theorem dL_mend_0 : decode cL_mend 0 = .ok (.aload 4, 2) := by decide +kernel
theorem dL_mend_2 : decode cL_mend 2 = .ok (.iconst 0, 1) := by decide +kernel
theorem dL_mend_3 : decode cL_mend 3 = .ok (.aload_n 0, 1) := by decide +kernel
theorem dL_mend_4 : decode cL_mend 4 = .ok (.iload_n 1, 1) := by decide +kernel
theorem dL_mend_5 : decode cL_mend 5 = .ok (.iload_n 2, 1) := by decide +kernel
theorem dL_mend_6 : decode cL_mend 6 = .ok (.iload_n 3, 1) := by decide +kernel
theorem dL_mend_7 : decode cL_mend 7 = .ok (.invokevirtual 23, 3) := by decide +kernel
theorem dL_mend_10 : decode cL_mend 10 = .ok (.i2l, 1) := by decide +kernel
theorem dL_mend_11 : decode cL_mend 11 = .ok (.lastore, 1) := by decide +kernel
theorem dL_mend_12 : decode cL_mend 12 = .ok (.goto 11, 3) := by decide +kernel
theorem dL_mend_15 : decode cL_mend 15 = .ok (.astore 5, 2) := by decide +kernel
theorem dL_mend_17 : decode cL_mend 17 = .ok (.iconst 1, 1) := by decide +kernel
theorem dL_mend_18 : decode cL_mend 18 = .ok (.ireturn, 1) := by decide +kernel
theorem dL_mend_19 : decode cL_mend 19 = .ok (.astore 5, 2) := by decide +kernel
theorem dL_mend_21 : decode cL_mend 21 = .ok (.iconst 2, 1) := by decide +kernel
theorem dL_mend_22 : decode cL_mend 22 = .ok (.ireturn, 1) := by decide +kernel
theorem dL_mend_23 : decode cL_mend 23 = .ok (.iconst 0, 1) := by decide +kernel
theorem dL_mend_24 : decode cL_mend 24 = .ok (.ireturn, 1) := by decide +kernel
theorem dL_removeRule_0 : decode cL_removeRule 0 = .ok (.aload_n 2, 1) := by decide +kernel
theorem dL_removeRule_1 : decode cL_removeRule 1 = .ok (.iconst 0, 1) := by decide +kernel
theorem dL_removeRule_2 : decode cL_removeRule 2 = .ok (.aload_n 0, 1) := by decide +kernel
theorem dL_removeRule_3 : decode cL_removeRule 3 = .ok (.iload_n 1, 1) := by decide +kernel
theorem dL_removeRule_4 : decode cL_removeRule 4 = .ok (.invokevirtual 28, 3) := by decide +kernel
theorem dL_removeRule_7 : decode cL_removeRule 7 = .ok (.i2l, 1) := by decide +kernel
theorem dL_removeRule_8 : decode cL_removeRule 8 = .ok (.lastore, 1) := by decide +kernel
theorem dL_removeRule_9 : decode cL_removeRule 9 = .ok (.goto 6, 3) := by decide +kernel
theorem dL_removeRule_12 : decode cL_removeRule 12 = .ok (.astore_n 3, 1) := by decide +kernel
theorem dL_removeRule_13 : decode cL_removeRule 13 = .ok (.iconst 1, 1) := by decide +kernel
theorem dL_removeRule_14 : decode cL_removeRule 14 = .ok (.ireturn, 1) := by decide +kernel
theorem dL_removeRule_15 : decode cL_removeRule 15 = .ok (.iconst 0, 1) := by decide +kernel
theorem dL_removeRule_16 : decode cL_removeRule 16 = .ok (.ireturn, 1) := by decide +kernel
theorem dL_ruleAt_0 : decode cL_ruleAt 0 = .ok (.aload_n 3, 1) := by decide +kernel
theorem dL_ruleAt_1 : decode cL_ruleAt 1 = .ok (.iconst 0, 1) := by decide +kernel
theorem dL_ruleAt_2 : decode cL_ruleAt 2 = .ok (.aload_n 0, 1) := by decide +kernel
theorem dL_ruleAt_3 : decode cL_ruleAt 3 = .ok (.iload_n 1, 1) := by decide +kernel
theorem dL_ruleAt_4 : decode cL_ruleAt 4 = .ok (.iload_n 2, 1) := by decide +kernel
theorem dL_ruleAt_5 : decode cL_ruleAt 5 = .ok (.invokevirtual 34, 3) := by decide +kernel
theorem dL_ruleAt_8 : decode cL_ruleAt 8 = .ok (.i2l, 1) := by decide +kernel
theorem dL_ruleAt_9 : decode cL_ruleAt 9 = .ok (.lastore, 1) := by decide +kernel
theorem dL_ruleAt_10 : decode cL_ruleAt 10 = .ok (.goto 11, 3) := by decide +kernel
theorem dL_ruleAt_13 : decode cL_ruleAt 13 = .ok (.astore 4, 2) := by decide +kernel
theorem dL_ruleAt_15 : decode cL_ruleAt 15 = .ok (.iconst 1, 1) := by decide +kernel
theorem dL_ruleAt_16 : decode cL_ruleAt 16 = .ok (.ireturn, 1) := by decide +kernel
theorem dL_ruleAt_17 : decode cL_ruleAt 17 = .ok (.astore 4, 2) := by decide +kernel
theorem dL_ruleAt_19 : decode cL_ruleAt 19 = .ok (.iconst 2, 1) := by decide +kernel
theorem dL_ruleAt_20 : decode cL_ruleAt 20 = .ok (.ireturn, 1) := by decide +kernel
theorem dL_ruleAt_21 : decode cL_ruleAt 21 = .ok (.iconst 0, 1) := by decide +kernel
theorem dL_ruleAt_22 : decode cL_ruleAt 22 = .ok (.ireturn, 1) := by decide +kernel
theorem dL_turnException_0 : decode cL_turnException 0 = .ok (.aload_n 1, 1) := by decide +kernel
theorem dL_turnException_1 : decode cL_turnException 1 = .ok (.iconst 0, 1) := by decide +kernel
theorem dL_turnException_2 : decode cL_turnException 2 = .ok (.aload_n 0, 1) := by decide +kernel
theorem dL_turnException_3 : decode cL_turnException 3 = .ok (.invokevirtual 38, 3) := by decide +kernel
theorem dL_turnException_6 : decode cL_turnException 6 = .ok (.ifCond .eq 7, 3) := by decide +kernel
theorem dL_turnException_9 : decode cL_turnException 9 = .ok (.lconst 1, 1) := by decide +kernel
theorem dL_turnException_10 : decode cL_turnException 10 = .ok (.goto 4, 3) := by decide +kernel
theorem dL_turnException_13 : decode cL_turnException 13 = .ok (.lconst 0, 1) := by decide +kernel
theorem dL_turnException_14 : decode cL_turnException 14 = .ok (.lastore, 1) := by decide +kernel
theorem dL_turnException_15 : decode cL_turnException 15 = .ok (.goto 9, 3) := by decide +kernel
theorem dL_turnException_18 : decode cL_turnException 18 = .ok (.astore_n 2, 1) := by decide +kernel
theorem dL_turnException_19 : decode cL_turnException 19 = .ok (.iconst 1, 1) := by decide +kernel
theorem dL_turnException_20 : decode cL_turnException 20 = .ok (.ireturn, 1) := by decide +kernel
theorem dL_turnException_21 : decode cL_turnException 21 = .ok (.astore_n 2, 1) := by decide +kernel
theorem dL_turnException_22 : decode cL_turnException 22 = .ok (.iconst 2, 1) := by decide +kernel
theorem dL_turnException_23 : decode cL_turnException 23 = .ok (.ireturn, 1) := by decide +kernel
theorem dL_turnException_24 : decode cL_turnException 24 = .ok (.iconst 0, 1) := by decide +kernel
theorem dL_turnException_25 : decode cL_turnException 25 = .ok (.ireturn, 1) := by decide +kernel
theorem dL_setText_0 : decode cL_setText 0 = .ok (.aload_n 3, 1) := by decide +kernel
theorem dL_setText_1 : decode cL_setText 1 = .ok (.iconst 0, 1) := by decide +kernel
theorem dL_setText_2 : decode cL_setText 2 = .ok (.aload_n 0, 1) := by decide +kernel
theorem dL_setText_3 : decode cL_setText 3 = .ok (.iload_n 1, 1) := by decide +kernel
theorem dL_setText_4 : decode cL_setText 4 = .ok (.iload_n 2, 1) := by decide +kernel
theorem dL_setText_5 : decode cL_setText 5 = .ok (.invokevirtual 42, 3) := by decide +kernel
theorem dL_setText_8 : decode cL_setText 8 = .ok (.i2l, 1) := by decide +kernel
theorem dL_setText_9 : decode cL_setText 9 = .ok (.lastore, 1) := by decide +kernel
theorem dL_setText_10 : decode cL_setText 10 = .ok (.goto 11, 3) := by decide +kernel
theorem dL_setText_13 : decode cL_setText 13 = .ok (.astore 4, 2) := by decide +kernel
theorem dL_setText_15 : decode cL_setText 15 = .ok (.iconst 1, 1) := by decide +kernel
theorem dL_setText_16 : decode cL_setText 16 = .ok (.ireturn, 1) := by decide +kernel
theorem dL_setText_17 : decode cL_setText 17 = .ok (.astore 4, 2) := by decide +kernel
theorem dL_setText_19 : decode cL_setText 19 = .ok (.iconst 2, 1) := by decide +kernel
theorem dL_setText_20 : decode cL_setText 20 = .ok (.ireturn, 1) := by decide +kernel
theorem dL_setText_21 : decode cL_setText 21 = .ok (.iconst 0, 1) := by decide +kernel
theorem dL_setText_22 : decode cL_setText 22 = .ok (.ireturn, 1) := by decide +kernel
theorem dL_setWidth_0 : decode cL_setWidth 0 = .ok (.aload_n 2, 1) := by decide +kernel
theorem dL_setWidth_1 : decode cL_setWidth 1 = .ok (.iconst 0, 1) := by decide +kernel
theorem dL_setWidth_2 : decode cL_setWidth 2 = .ok (.aload_n 0, 1) := by decide +kernel
theorem dL_setWidth_3 : decode cL_setWidth 3 = .ok (.iload_n 1, 1) := by decide +kernel
theorem dL_setWidth_4 : decode cL_setWidth 4 = .ok (.invokevirtual 46, 3) := by decide +kernel
theorem dL_setWidth_7 : decode cL_setWidth 7 = .ok (.i2l, 1) := by decide +kernel
theorem dL_setWidth_8 : decode cL_setWidth 8 = .ok (.lastore, 1) := by decide +kernel
theorem dL_setWidth_9 : decode cL_setWidth 9 = .ok (.goto 6, 3) := by decide +kernel
theorem dL_setWidth_12 : decode cL_setWidth 12 = .ok (.astore_n 3, 1) := by decide +kernel
theorem dL_setWidth_13 : decode cL_setWidth 13 = .ok (.iconst 1, 1) := by decide +kernel
theorem dL_setWidth_14 : decode cL_setWidth 14 = .ok (.ireturn, 1) := by decide +kernel
theorem dL_setWidth_15 : decode cL_setWidth 15 = .ok (.iconst 0, 1) := by decide +kernel
theorem dL_setWidth_16 : decode cL_setWidth 16 = .ok (.ireturn, 1) := by decide +kernel
theorem dL_words_0 : decode cL_words 0 = .ok (.aload_n 2, 1) := by decide +kernel
theorem dL_words_1 : decode cL_words 1 = .ok (.iconst 0, 1) := by decide +kernel
theorem dL_words_2 : decode cL_words 2 = .ok (.aload_n 0, 1) := by decide +kernel
theorem dL_words_3 : decode cL_words 3 = .ok (.iload_n 1, 1) := by decide +kernel
theorem dL_words_4 : decode cL_words 4 = .ok (.invokevirtual 49, 3) := by decide +kernel
theorem dL_words_7 : decode cL_words 7 = .ok (.i2l, 1) := by decide +kernel
theorem dL_words_8 : decode cL_words 8 = .ok (.lastore, 1) := by decide +kernel
theorem dL_words_9 : decode cL_words 9 = .ok (.goto 6, 3) := by decide +kernel
theorem dL_words_12 : decode cL_words 12 = .ok (.astore_n 3, 1) := by decide +kernel
theorem dL_words_13 : decode cL_words 13 = .ok (.iconst 1, 1) := by decide +kernel
theorem dL_words_14 : decode cL_words 14 = .ok (.ireturn, 1) := by decide +kernel
theorem dL_words_15 : decode cL_words 15 = .ok (.iconst 0, 1) := by decide +kernel
theorem dL_words_16 : decode cL_words 16 = .ok (.ireturn, 1) := by decide +kernel
theorem dL_length_0 : decode cL_length 0 = .ok (.aload_n 3, 1) := by decide +kernel
theorem dL_length_1 : decode cL_length 1 = .ok (.iconst 0, 1) := by decide +kernel
theorem dL_length_2 : decode cL_length 2 = .ok (.aload_n 0, 1) := by decide +kernel
theorem dL_length_3 : decode cL_length 3 = .ok (.iload_n 1, 1) := by decide +kernel
theorem dL_length_4 : decode cL_length 4 = .ok (.iload_n 2, 1) := by decide +kernel
theorem dL_length_5 : decode cL_length 5 = .ok (.invokevirtual 52, 3) := by decide +kernel
theorem dL_length_8 : decode cL_length 8 = .ok (.i2l, 1) := by decide +kernel
theorem dL_length_9 : decode cL_length 9 = .ok (.lastore, 1) := by decide +kernel
theorem dL_length_10 : decode cL_length 10 = .ok (.goto 7, 3) := by decide +kernel
theorem dL_length_13 : decode cL_length 13 = .ok (.astore 4, 2) := by decide +kernel
theorem dL_length_15 : decode cL_length 15 = .ok (.iconst 1, 1) := by decide +kernel
theorem dL_length_16 : decode cL_length 16 = .ok (.ireturn, 1) := by decide +kernel
theorem dL_length_17 : decode cL_length 17 = .ok (.iconst 0, 1) := by decide +kernel
theorem dL_length_18 : decode cL_length 18 = .ok (.ireturn, 1) := by decide +kernel
theorem dL_cellOf_0 : decode cL_cellOf 0 = .ok (.aload 4, 2) := by decide +kernel
theorem dL_cellOf_2 : decode cL_cellOf 2 = .ok (.iconst 0, 1) := by decide +kernel
theorem dL_cellOf_3 : decode cL_cellOf 3 = .ok (.aload_n 0, 1) := by decide +kernel
theorem dL_cellOf_4 : decode cL_cellOf 4 = .ok (.iload_n 1, 1) := by decide +kernel
theorem dL_cellOf_5 : decode cL_cellOf 5 = .ok (.iload_n 2, 1) := by decide +kernel
theorem dL_cellOf_6 : decode cL_cellOf 6 = .ok (.iload_n 3, 1) := by decide +kernel
theorem dL_cellOf_7 : decode cL_cellOf 7 = .ok (.invokevirtual 55, 3) := by decide +kernel
theorem dL_cellOf_10 : decode cL_cellOf 10 = .ok (.i2l, 1) := by decide +kernel
theorem dL_cellOf_11 : decode cL_cellOf 11 = .ok (.lastore, 1) := by decide +kernel
theorem dL_cellOf_12 : decode cL_cellOf 12 = .ok (.goto 11, 3) := by decide +kernel
theorem dL_cellOf_15 : decode cL_cellOf 15 = .ok (.astore 5, 2) := by decide +kernel
theorem dL_cellOf_17 : decode cL_cellOf 17 = .ok (.iconst 1, 1) := by decide +kernel
theorem dL_cellOf_18 : decode cL_cellOf 18 = .ok (.ireturn, 1) := by decide +kernel
theorem dL_cellOf_19 : decode cL_cellOf 19 = .ok (.astore 5, 2) := by decide +kernel
theorem dL_cellOf_21 : decode cL_cellOf 21 = .ok (.iconst 2, 1) := by decide +kernel
theorem dL_cellOf_22 : decode cL_cellOf 22 = .ok (.ireturn, 1) := by decide +kernel
theorem dL_cellOf_23 : decode cL_cellOf 23 = .ok (.iconst 0, 1) := by decide +kernel
theorem dL_cellOf_24 : decode cL_cellOf 24 = .ok (.ireturn, 1) := by decide +kernel
theorem dL_lines_0 : decode cL_lines 0 = .ok (.aload_n 2, 1) := by decide +kernel
theorem dL_lines_1 : decode cL_lines 1 = .ok (.iconst 0, 1) := by decide +kernel
theorem dL_lines_2 : decode cL_lines 2 = .ok (.aload_n 0, 1) := by decide +kernel
theorem dL_lines_3 : decode cL_lines 3 = .ok (.iload_n 1, 1) := by decide +kernel
theorem dL_lines_4 : decode cL_lines 4 = .ok (.invokevirtual 58, 3) := by decide +kernel
theorem dL_lines_7 : decode cL_lines 7 = .ok (.i2l, 1) := by decide +kernel
theorem dL_lines_8 : decode cL_lines 8 = .ok (.lastore, 1) := by decide +kernel
theorem dL_lines_9 : decode cL_lines 9 = .ok (.goto 6, 3) := by decide +kernel
theorem dL_lines_12 : decode cL_lines 12 = .ok (.astore_n 3, 1) := by decide +kernel
theorem dL_lines_13 : decode cL_lines 13 = .ok (.iconst 1, 1) := by decide +kernel
theorem dL_lines_14 : decode cL_lines 14 = .ok (.ireturn, 1) := by decide +kernel
theorem dL_lines_15 : decode cL_lines 15 = .ok (.iconst 0, 1) := by decide +kernel
theorem dL_lines_16 : decode cL_lines 16 = .ok (.ireturn, 1) := by decide +kernel
theorem dL_lineAt_0 : decode cL_lineAt 0 = .ok (.aload 4, 2) := by decide +kernel
theorem dL_lineAt_2 : decode cL_lineAt 2 = .ok (.iconst 0, 1) := by decide +kernel
theorem dL_lineAt_3 : decode cL_lineAt 3 = .ok (.aload_n 0, 1) := by decide +kernel
theorem dL_lineAt_4 : decode cL_lineAt 4 = .ok (.iload_n 1, 1) := by decide +kernel
theorem dL_lineAt_5 : decode cL_lineAt 5 = .ok (.iload_n 2, 1) := by decide +kernel
theorem dL_lineAt_6 : decode cL_lineAt 6 = .ok (.iload_n 3, 1) := by decide +kernel
theorem dL_lineAt_7 : decode cL_lineAt 7 = .ok (.invokevirtual 61, 3) := by decide +kernel
theorem dL_lineAt_10 : decode cL_lineAt 10 = .ok (.i2l, 1) := by decide +kernel
theorem dL_lineAt_11 : decode cL_lineAt 11 = .ok (.lastore, 1) := by decide +kernel
theorem dL_lineAt_12 : decode cL_lineAt 12 = .ok (.goto 11, 3) := by decide +kernel
theorem dL_lineAt_15 : decode cL_lineAt 15 = .ok (.astore 5, 2) := by decide +kernel
theorem dL_lineAt_17 : decode cL_lineAt 17 = .ok (.iconst 1, 1) := by decide +kernel
theorem dL_lineAt_18 : decode cL_lineAt 18 = .ok (.ireturn, 1) := by decide +kernel
theorem dL_lineAt_19 : decode cL_lineAt 19 = .ok (.astore 5, 2) := by decide +kernel
theorem dL_lineAt_21 : decode cL_lineAt 21 = .ok (.iconst 2, 1) := by decide +kernel
theorem dL_lineAt_22 : decode cL_lineAt 22 = .ok (.ireturn, 1) := by decide +kernel
theorem dL_lineAt_23 : decode cL_lineAt 23 = .ok (.iconst 0, 1) := by decide +kernel
theorem dL_lineAt_24 : decode cL_lineAt 24 = .ok (.ireturn, 1) := by decide +kernel
theorem dL_lineOf_0 : decode cL_lineOf 0 = .ok (.aload_n 3, 1) := by decide +kernel
theorem dL_lineOf_1 : decode cL_lineOf 1 = .ok (.iconst 0, 1) := by decide +kernel
theorem dL_lineOf_2 : decode cL_lineOf 2 = .ok (.aload_n 0, 1) := by decide +kernel
theorem dL_lineOf_3 : decode cL_lineOf 3 = .ok (.iload_n 1, 1) := by decide +kernel
theorem dL_lineOf_4 : decode cL_lineOf 4 = .ok (.iload_n 2, 1) := by decide +kernel
theorem dL_lineOf_5 : decode cL_lineOf 5 = .ok (.invokevirtual 64, 3) := by decide +kernel
theorem dL_lineOf_8 : decode cL_lineOf 8 = .ok (.i2l, 1) := by decide +kernel
theorem dL_lineOf_9 : decode cL_lineOf 9 = .ok (.lastore, 1) := by decide +kernel
theorem dL_lineOf_10 : decode cL_lineOf 10 = .ok (.goto 7, 3) := by decide +kernel
theorem dL_lineOf_13 : decode cL_lineOf 13 = .ok (.astore 4, 2) := by decide +kernel
theorem dL_lineOf_15 : decode cL_lineOf 15 = .ok (.iconst 1, 1) := by decide +kernel
theorem dL_lineOf_16 : decode cL_lineOf 16 = .ok (.ireturn, 1) := by decide +kernel
theorem dL_lineOf_17 : decode cL_lineOf 17 = .ok (.iconst 0, 1) := by decide +kernel
theorem dL_lineOf_18 : decode cL_lineOf 18 = .ok (.ireturn, 1) := by decide +kernel
theorem dL_emboss_0 : decode cL_emboss 0 = .ok (.aload_n 2, 1) := by decide +kernel
theorem dL_emboss_1 : decode cL_emboss 1 = .ok (.iconst 0, 1) := by decide +kernel
theorem dL_emboss_2 : decode cL_emboss 2 = .ok (.aload_n 0, 1) := by decide +kernel
theorem dL_emboss_3 : decode cL_emboss 3 = .ok (.iload_n 1, 1) := by decide +kernel
theorem dL_emboss_4 : decode cL_emboss 4 = .ok (.invokevirtual 67, 3) := by decide +kernel
theorem dL_emboss_7 : decode cL_emboss 7 = .ok (.i2l, 1) := by decide +kernel
theorem dL_emboss_8 : decode cL_emboss 8 = .ok (.lastore, 1) := by decide +kernel
theorem dL_emboss_9 : decode cL_emboss 9 = .ok (.goto 9, 3) := by decide +kernel
theorem dL_emboss_12 : decode cL_emboss 12 = .ok (.astore_n 3, 1) := by decide +kernel
theorem dL_emboss_13 : decode cL_emboss 13 = .ok (.iconst 1, 1) := by decide +kernel
theorem dL_emboss_14 : decode cL_emboss 14 = .ok (.ireturn, 1) := by decide +kernel
theorem dL_emboss_15 : decode cL_emboss 15 = .ok (.astore_n 3, 1) := by decide +kernel
theorem dL_emboss_16 : decode cL_emboss 16 = .ok (.iconst 2, 1) := by decide +kernel
theorem dL_emboss_17 : decode cL_emboss 17 = .ok (.ireturn, 1) := by decide +kernel
theorem dL_emboss_18 : decode cL_emboss 18 = .ok (.iconst 0, 1) := by decide +kernel
theorem dL_emboss_19 : decode cL_emboss 19 = .ok (.ireturn, 1) := by decide +kernel
theorem dL_changed_0 : decode cL_changed 0 = .ok (.aload_n 2, 1) := by decide +kernel
theorem dL_changed_1 : decode cL_changed 1 = .ok (.iconst 0, 1) := by decide +kernel
theorem dL_changed_2 : decode cL_changed 2 = .ok (.aload_n 0, 1) := by decide +kernel
theorem dL_changed_3 : decode cL_changed 3 = .ok (.iload_n 1, 1) := by decide +kernel
theorem dL_changed_4 : decode cL_changed 4 = .ok (.invokevirtual 70, 3) := by decide +kernel
theorem dL_changed_7 : decode cL_changed 7 = .ok (.i2l, 1) := by decide +kernel
theorem dL_changed_8 : decode cL_changed 8 = .ok (.lastore, 1) := by decide +kernel
theorem dL_changed_9 : decode cL_changed 9 = .ok (.goto 6, 3) := by decide +kernel
theorem dL_changed_12 : decode cL_changed 12 = .ok (.astore_n 3, 1) := by decide +kernel
theorem dL_changed_13 : decode cL_changed 13 = .ok (.iconst 1, 1) := by decide +kernel
theorem dL_changed_14 : decode cL_changed 14 = .ok (.ireturn, 1) := by decide +kernel
theorem dL_changed_15 : decode cL_changed 15 = .ok (.iconst 0, 1) := by decide +kernel
theorem dL_changed_16 : decode cL_changed 16 = .ok (.ireturn, 1) := by decide +kernel
theorem dL_setBearing_0 : decode cL_setBearing 0 = .ok (.aload_n 2, 1) := by decide +kernel
theorem dL_setBearing_1 : decode cL_setBearing 1 = .ok (.iconst 0, 1) := by decide +kernel
theorem dL_setBearing_2 : decode cL_setBearing 2 = .ok (.aload_n 0, 1) := by decide +kernel
theorem dL_setBearing_3 : decode cL_setBearing 3 = .ok (.iload_n 1, 1) := by decide +kernel
theorem dL_setBearing_4 : decode cL_setBearing 4 = .ok (.invokevirtual 73, 3) := by decide +kernel
theorem dL_setBearing_7 : decode cL_setBearing 7 = .ok (.i2l, 1) := by decide +kernel
theorem dL_setBearing_8 : decode cL_setBearing 8 = .ok (.lastore, 1) := by decide +kernel
theorem dL_setBearing_9 : decode cL_setBearing 9 = .ok (.goto 6, 3) := by decide +kernel
theorem dL_setBearing_12 : decode cL_setBearing 12 = .ok (.astore_n 3, 1) := by decide +kernel
theorem dL_setBearing_13 : decode cL_setBearing 13 = .ok (.iconst 1, 1) := by decide +kernel
theorem dL_setBearing_14 : decode cL_setBearing 14 = .ok (.ireturn, 1) := by decide +kernel
theorem dL_setBearing_15 : decode cL_setBearing 15 = .ok (.iconst 0, 1) := by decide +kernel
theorem dL_setBearing_16 : decode cL_setBearing 16 = .ok (.ireturn, 1) := by decide +kernel
theorem dL_replace_0 : decode cL_replace 0 = .ok (.aload_n 2, 1) := by decide +kernel
theorem dL_replace_1 : decode cL_replace 1 = .ok (.iconst 0, 1) := by decide +kernel
theorem dL_replace_2 : decode cL_replace 2 = .ok (.aload_n 0, 1) := by decide +kernel
theorem dL_replace_3 : decode cL_replace 3 = .ok (.iload_n 1, 1) := by decide +kernel
theorem dL_replace_4 : decode cL_replace 4 = .ok (.invokevirtual 76, 3) := by decide +kernel
theorem dL_replace_7 : decode cL_replace 7 = .ok (.i2l, 1) := by decide +kernel
theorem dL_replace_8 : decode cL_replace 8 = .ok (.lastore, 1) := by decide +kernel
theorem dL_replace_9 : decode cL_replace 9 = .ok (.goto 6, 3) := by decide +kernel
theorem dL_replace_12 : decode cL_replace 12 = .ok (.astore_n 3, 1) := by decide +kernel
theorem dL_replace_13 : decode cL_replace 13 = .ok (.iconst 1, 1) := by decide +kernel
theorem dL_replace_14 : decode cL_replace 14 = .ok (.ireturn, 1) := by decide +kernel
theorem dL_replace_15 : decode cL_replace 15 = .ok (.iconst 0, 1) := by decide +kernel
theorem dL_replace_16 : decode cL_replace 16 = .ok (.ireturn, 1) := by decide +kernel
theorem dL_strikes_0 : decode cL_strikes 0 = .ok (.aload_n 2, 1) := by decide +kernel
theorem dL_strikes_1 : decode cL_strikes 1 = .ok (.iconst 0, 1) := by decide +kernel
theorem dL_strikes_2 : decode cL_strikes 2 = .ok (.aload_n 0, 1) := by decide +kernel
theorem dL_strikes_3 : decode cL_strikes 3 = .ok (.iload_n 1, 1) := by decide +kernel
theorem dL_strikes_4 : decode cL_strikes 4 = .ok (.invokevirtual 79, 3) := by decide +kernel
theorem dL_strikes_7 : decode cL_strikes 7 = .ok (.i2l, 1) := by decide +kernel
theorem dL_strikes_8 : decode cL_strikes 8 = .ok (.lastore, 1) := by decide +kernel
theorem dL_strikes_9 : decode cL_strikes 9 = .ok (.goto 6, 3) := by decide +kernel
theorem dL_strikes_12 : decode cL_strikes 12 = .ok (.astore_n 3, 1) := by decide +kernel
theorem dL_strikes_13 : decode cL_strikes 13 = .ok (.iconst 1, 1) := by decide +kernel
theorem dL_strikes_14 : decode cL_strikes 14 = .ok (.ireturn, 1) := by decide +kernel
theorem dL_strikes_15 : decode cL_strikes 15 = .ok (.iconst 0, 1) := by decide +kernel
theorem dL_strikes_16 : decode cL_strikes 16 = .ok (.ireturn, 1) := by decide +kernel
theorem dL_mark_0 : decode cL_mark 0 = .ok (.aload 5, 2) := by decide +kernel
theorem dL_mark_2 : decode cL_mark 2 = .ok (.iconst 0, 1) := by decide +kernel
theorem dL_mark_3 : decode cL_mark 3 = .ok (.aload_n 0, 1) := by decide +kernel
theorem dL_mark_4 : decode cL_mark 4 = .ok (.iload_n 1, 1) := by decide +kernel
theorem dL_mark_5 : decode cL_mark 5 = .ok (.iload_n 2, 1) := by decide +kernel
theorem dL_mark_6 : decode cL_mark 6 = .ok (.iload_n 3, 1) := by decide +kernel
theorem dL_mark_7 : decode cL_mark 7 = .ok (.iload 4, 2) := by decide +kernel
theorem dL_mark_9 : decode cL_mark 9 = .ok (.invokevirtual 82, 3) := by decide +kernel
theorem dL_mark_12 : decode cL_mark 12 = .ok (.ifCond .eq 7, 3) := by decide +kernel
theorem dL_mark_15 : decode cL_mark 15 = .ok (.lconst 1, 1) := by decide +kernel
theorem dL_mark_16 : decode cL_mark 16 = .ok (.goto 4, 3) := by decide +kernel
theorem dL_mark_19 : decode cL_mark 19 = .ok (.lconst 0, 1) := by decide +kernel
theorem dL_mark_20 : decode cL_mark 20 = .ok (.lastore, 1) := by decide +kernel
theorem dL_mark_21 : decode cL_mark 21 = .ok (.goto 7, 3) := by decide +kernel
theorem dL_mark_24 : decode cL_mark 24 = .ok (.astore 6, 2) := by decide +kernel
theorem dL_mark_26 : decode cL_mark 26 = .ok (.iconst 1, 1) := by decide +kernel
theorem dL_mark_27 : decode cL_mark 27 = .ok (.ireturn, 1) := by decide +kernel
theorem dL_mark_28 : decode cL_mark 28 = .ok (.iconst 0, 1) := by decide +kernel
theorem dL_mark_29 : decode cL_mark 29 = .ok (.ireturn, 1) := by decide +kernel
theorem dL_markOf_0 : decode cL_markOf 0 = .ok (.aload 4, 2) := by decide +kernel
theorem dL_markOf_2 : decode cL_markOf 2 = .ok (.iconst 0, 1) := by decide +kernel
theorem dL_markOf_3 : decode cL_markOf 3 = .ok (.aload_n 0, 1) := by decide +kernel
theorem dL_markOf_4 : decode cL_markOf 4 = .ok (.iload_n 1, 1) := by decide +kernel
theorem dL_markOf_5 : decode cL_markOf 5 = .ok (.iload_n 2, 1) := by decide +kernel
theorem dL_markOf_6 : decode cL_markOf 6 = .ok (.iload_n 3, 1) := by decide +kernel
theorem dL_markOf_7 : decode cL_markOf 7 = .ok (.invokevirtual 86, 3) := by decide +kernel
theorem dL_markOf_10 : decode cL_markOf 10 = .ok (.i2l, 1) := by decide +kernel
theorem dL_markOf_11 : decode cL_markOf 11 = .ok (.lastore, 1) := by decide +kernel
theorem dL_markOf_12 : decode cL_markOf 12 = .ok (.goto 7, 3) := by decide +kernel
theorem dL_markOf_15 : decode cL_markOf 15 = .ok (.astore 5, 2) := by decide +kernel
theorem dL_markOf_17 : decode cL_markOf 17 = .ok (.iconst 1, 1) := by decide +kernel
theorem dL_markOf_18 : decode cL_markOf 18 = .ok (.ireturn, 1) := by decide +kernel
theorem dL_markOf_19 : decode cL_markOf 19 = .ok (.iconst 0, 1) := by decide +kernel
theorem dL_markOf_20 : decode cL_markOf 20 = .ok (.ireturn, 1) := by decide +kernel
theorem dL_provedShare_0 : decode cL_provedShare 0 = .ok (.aload_n 1, 1) := by decide +kernel
theorem dL_provedShare_1 : decode cL_provedShare 1 = .ok (.iconst 0, 1) := by decide +kernel
theorem dL_provedShare_2 : decode cL_provedShare 2 = .ok (.aload_n 0, 1) := by decide +kernel
theorem dL_provedShare_3 : decode cL_provedShare 3 = .ok (.invokevirtual 90, 3) := by decide +kernel
theorem dL_provedShare_6 : decode cL_provedShare 6 = .ok (.f2d, 1) := by decide +kernel
theorem dL_provedShare_7 : decode cL_provedShare 7 = .ok (.dastore, 1) := by decide +kernel
theorem dL_provedShare_8 : decode cL_provedShare 8 = .ok (.goto 6, 3) := by decide +kernel
theorem dL_provedShare_11 : decode cL_provedShare 11 = .ok (.astore_n 2, 1) := by decide +kernel
theorem dL_provedShare_12 : decode cL_provedShare 12 = .ok (.iconst 1, 1) := by decide +kernel
theorem dL_provedShare_13 : decode cL_provedShare 13 = .ok (.ireturn, 1) := by decide +kernel
theorem dL_provedShare_14 : decode cL_provedShare 14 = .ok (.iconst 0, 1) := by decide +kernel
theorem dL_provedShare_15 : decode cL_provedShare 15 = .ok (.ireturn, 1) := by decide +kernel
