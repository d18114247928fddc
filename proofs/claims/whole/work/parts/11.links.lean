theorem fp_X2_9 : jFp RX2 9 2 1 true false := ⟨RX2, TX2, 2, rfl, by decide, rfl, lay_X2, fl_X2_9, rfl, rfl, (fun q => by cases q), rfl, ⟨tyX2, tyX2_ok⟩, nmX2, tyX2 1, tyX2_ok 1 (by decide), (fun _ v => ⟨rfl, rfl⟩), (fun q => by cases q)⟩
theorem fp_X2_15 : jFp RX2 15 2 0 false true := ⟨RX2, TX2, 2, rfl, by decide, rfl, lay_X2, fl_X2_15, rfl, rfl, (fun _ => rfl), rfl, ⟨tyX2, tyX2_ok⟩, nmX2, tyX2 0, tyX2_ok 0 (by decide), (fun q => by cases q), (fun _ r => by cases r <;> exact ⟨rfl, rfl⟩)⟩
theorem im_oi : Cond.instanceMethod Lib.objectInit ∈ gT := by decide +kernel
theorem cd_oi : Cond.code Lib.objectInit ⟨#[0xb1]⟩ 1 none ∈ gT := by decide +kernel
theorem ff_X2_9 : jFd RX2 9 2 1 true := ⟨RX2, TX2, 2, rfl, by decide, rfl, lay_X2, fl_X2_9, rfl⟩
theorem ff_X2_15 : jFd RX2 15 2 0 false := ⟨RX2, TX2, 2, rfl, by decide, rfl, lay_X2, fl_X2_15, rfl⟩
theorem fp_X0_14 : jFp RX0 14 0 0 false true := ⟨RX0, TX0, 3, rfl, by decide, rfl, lay_X0, fl_X0_14, rfl, rfl, (fun _ => rfl), rfl, ⟨tyX0, tyX0_ok⟩, nmX0, tyX0 0, tyX0_ok 0 (by decide), (fun q => by cases q), (fun _ r => by cases r <;> exact ⟨rfl, rfl⟩)⟩
theorem fp_X0_20 : jFp RX0 20 0 1 false true := ⟨RX0, TX0, 3, rfl, by decide, rfl, lay_X0, fl_X0_20, rfl, rfl, (fun _ => rfl), rfl, ⟨tyX0, tyX0_ok⟩, nmX0, tyX0 1, tyX0_ok 1 (by decide), (fun q => by cases q), (fun _ r => by cases r <;> exact ⟨rfl, rfl⟩)⟩
theorem fp_X0_23 : jFp RX0 23 0 2 true false := ⟨RX0, TX0, 3, rfl, by decide, rfl, lay_X0, fl_X0_23, rfl, rfl, (fun q => by cases q), rfl, ⟨tyX0, tyX0_ok⟩, nmX0, tyX0 2, tyX0_ok 2 (by decide), (fun _ v => ⟨rfl, rfl⟩), (fun q => by cases q)⟩
theorem ff_X0_14 : jFd RX0 14 0 0 false := ⟨RX0, TX0, 3, rfl, by decide, rfl, lay_X0, fl_X0_14, rfl⟩
theorem ff_X0_20 : jFd RX0 20 0 1 false := ⟨RX0, TX0, 3, rfl, by decide, rfl, lay_X0, fl_X0_20, rfl⟩
theorem mm_X0_27 : jLk RX0 27 yX2_add cX2_add 2 none 1 := ⟨ml_X0_27, ini_X2, cd_yX2_add, by decide +kernel⟩
theorem mm_X0_11 : jLk RX0 11 yX2_init cX2_init 2 none 1 := ⟨ml_X0_11, ini_X2, cd_yX2_init, by decide +kernel⟩
theorem nw_X2 : ∀ j, j < 2 → (jfb 2)[j]? = some (decide (tyX2 j = .int)) ∧ (tyX2 j ≠ .int → defaultValue (tyX2 j) = .null) := by decide +kernel
theorem ff_X0_23 : jFd RX0 23 0 2 true := ⟨RX0, TX0, 3, rfl, by decide, rfl, lay_X0, fl_X0_23, rfl⟩
theorem mm_X0_30 : jLk RX0 30 yX2_get cX2_get 2 (some FieldType.int) 1 := ⟨ml_X0_30, ini_X2, cd_yX2_get, by decide +kernel⟩
theorem mm_X0_37 : jLk RX0 37 yX2_set cX2_set 3 none 2 := ⟨ml_X0_37, ini_X2, cd_yX2_set, by decide +kernel⟩
theorem mm_X0_34 : jLk RX0 34 yX0_wearOf cX0_wearOf 2 (some FieldType.int) 1 := ⟨ml_X0_34, ini_X0, cd_yX0_wearOf, by decide +kernel⟩
theorem fp_X1_12 : jFp RX1 12 1 0 false true := ⟨RX1, TX1, 2, rfl, by decide, rfl, lay_X1, fl_X1_12, rfl, rfl, (fun _ => rfl), rfl, ⟨tyX1, tyX1_ok⟩, nmX1, tyX1 0, tyX1_ok 0 (by decide), (fun q => by cases q), (fun _ r => by cases r <;> exact ⟨rfl, rfl⟩)⟩
theorem fp_X1_18 : jFp RX1 18 1 1 false true := ⟨RX1, TX1, 2, rfl, by decide, rfl, lay_X1, fl_X1_18, rfl, rfl, (fun _ => rfl), rfl, ⟨tyX1, tyX1_ok⟩, nmX1, tyX1 1, tyX1_ok 1 (by decide), (fun q => by cases q), (fun _ r => by cases r <;> exact ⟨rfl, rfl⟩)⟩
theorem mm_X1_9 : jLk RX1 9 yX2_init cX2_init 2 none 1 := ⟨ml_X1_9, ini_X2, cd_yX2_init, by decide +kernel⟩
theorem ff_X1_12 : jFd RX1 12 1 0 false := ⟨RX1, TX1, 2, rfl, by decide, rfl, lay_X1, fl_X1_12, rfl⟩
theorem ff_X1_18 : jFd RX1 18 1 1 false := ⟨RX1, TX1, 2, rfl, by decide, rfl, lay_X1, fl_X1_18, rfl⟩
theorem mm_X1_21 : jLk RX1 21 yX2_count cX2_count 1 (some FieldType.int) 0 := ⟨ml_X1_21, ini_X2, cd_yX2_count, by decide +kernel⟩
theorem mm_X1_25 : jLk RX1 25 yX2_get cX2_get 2 (some FieldType.int) 1 := ⟨ml_X1_25, ini_X2, cd_yX2_get, by decide +kernel⟩
theorem mm_X1_32 : jLk RX1 32 yX1_startOf cX1_startOf 2 (some FieldType.int) 1 := ⟨ml_X1_32, ini_X1, cd_yX1_startOf, by decide +kernel⟩
theorem mm_X1_29 : jLk RX1 29 yX1_endOf cX1_endOf 2 (some FieldType.int) 1 := ⟨ml_X1_29, ini_X1, cd_yX1_endOf, by decide +kernel⟩
theorem mm_X1_35 : jLk RX1 35 yX1_count cX1_count 1 (some FieldType.int) 0 := ⟨ml_X1_35, ini_X1, cd_yX1_count, by decide +kernel⟩
theorem mm_X1_36 : jLk RX1 36 yX2_add cX2_add 2 none 1 := ⟨ml_X1_36, ini_X2, cd_yX2_add, by decide +kernel⟩
theorem mm_X1_39 : jLk RX1 39 yX1_uncutSize cX1_uncutSize 1 (some FieldType.int) 0 := ⟨ml_X1_39, ini_X1, cd_yX1_uncutSize, by decide +kernel⟩
theorem mm_X1_42 : jLk RX1 42 yX2_empty cX2_empty 1 none 0 := ⟨ml_X1_42, ini_X2, cd_yX2_empty, by decide +kernel⟩
theorem st_cp : Cond.static arraycopyName ∈ gT := by decide +kernel
theorem ini_sy : Cond.initialized "java/lang/System" ∈ gT := by decide +kernel
theorem mm_X1_51 : jLk RX1 51 yX2_set cX2_set 3 none 2 := ⟨ml_X1_51, ini_X2, cd_yX2_set, by decide +kernel⟩
theorem mm_X1_48 : jLk RX1 48 yX2_remove cX2_remove 2 none 1 := ⟨ml_X1_48, ini_X2, cd_yX2_remove, by decide +kernel⟩
theorem mm_X1_45 : jLk RX1 45 yX1_sizeOf cX1_sizeOf 2 (some FieldType.int) 1 := ⟨ml_X1_45, ini_X1, cd_yX1_sizeOf, by decide +kernel⟩
theorem mm_X1_55 : jLk RX1 55 yX1_isSame cX1_isSame 7 (some FieldType.boolean) 4 := ⟨ml_X1_55, ini_X1, cd_yX1_isSame, by decide +kernel⟩
theorem mm_X2_35 : jLk RX2 35 yX2_add cX2_add 2 none 1 := ⟨ml_X2_35, ini_X2, cd_yX2_add, by decide +kernel⟩
theorem mm_X2_25 : jLk RX2 25 yX2_get cX2_get 2 (some FieldType.int) 1 := ⟨ml_X2_25, ini_X2, cd_yX2_get, by decide +kernel⟩
theorem mm_X2_32 : jLk RX2 32 yX2_count cX2_count 1 (some FieldType.int) 0 := ⟨ml_X2_32, ini_X2, cd_yX2_count, by decide +kernel⟩
theorem mm_X2_29 : jLk RX2 29 yX2_empty cX2_empty 1 none 0 := ⟨ml_X2_29, ini_X2, cd_yX2_empty, by decide +kernel⟩
theorem mm_X1_59 : jLk RX1 59 yX2_takeOver cX2_takeOver 3 none 1 := ⟨ml_X1_59, ini_X2, cd_yX2_takeOver, by decide +kernel⟩
theorem fp_X3_16 : jFp RX3 16 3 0 false true := ⟨RX3, TX3, 5, rfl, by decide, rfl, lay_X3, fl_X3_16, rfl, rfl, (fun _ => rfl), rfl, ⟨tyX3, tyX3_ok⟩, nmX3, tyX3 0, tyX3_ok 0 (by decide), (fun q => by cases q), (fun _ r => by cases r <;> exact ⟨rfl, rfl⟩)⟩
theorem fp_X3_20 : jFp RX3 20 3 1 false true := ⟨RX3, TX3, 5, rfl, by decide, rfl, lay_X3, fl_X3_20, rfl, rfl, (fun _ => rfl), rfl, ⟨tyX3, tyX3_ok⟩, nmX3, tyX3 1, tyX3_ok 1 (by decide), (fun q => by cases q), (fun _ r => by cases r <;> exact ⟨rfl, rfl⟩)⟩
theorem fp_X3_23 : jFp RX3 23 3 2 false true := ⟨RX3, TX3, 5, rfl, by decide, rfl, lay_X3, fl_X3_23, rfl, rfl, (fun _ => rfl), rfl, ⟨tyX3, tyX3_ok⟩, nmX3, tyX3 2, tyX3_ok 2 (by decide), (fun q => by cases q), (fun _ r => by cases r <;> exact ⟨rfl, rfl⟩)⟩
theorem fp_X3_26 : jFp RX3 26 3 3 false true := ⟨RX3, TX3, 5, rfl, by decide, rfl, lay_X3, fl_X3_26, rfl, rfl, (fun _ => rfl), rfl, ⟨tyX3, tyX3_ok⟩, nmX3, tyX3 3, tyX3_ok 3 (by decide), (fun q => by cases q), (fun _ r => by cases r <;> exact ⟨rfl, rfl⟩)⟩
theorem fp_X3_34 : jFp RX3 34 3 4 false true := ⟨RX3, TX3, 5, rfl, by decide, rfl, lay_X3, fl_X3_34, rfl, rfl, (fun _ => rfl), rfl, ⟨tyX3, tyX3_ok⟩, nmX3, tyX3 4, tyX3_ok 4 (by decide), (fun q => by cases q), (fun _ r => by cases r <;> exact ⟨rfl, rfl⟩)⟩
theorem mm_X3_31 : jLk RX3 31 yX1_init cX1_init 3 none 2 := ⟨ml_X3_31, ini_X1, cd_yX1_init, by decide +kernel⟩
theorem nw_X1 : ∀ j, j < 2 → (jfb 1)[j]? = some (decide (tyX1 j = .int)) ∧ (tyX1 j ≠ .int → defaultValue (tyX1 j) = .null) := by decide +kernel
theorem mm_X3_13 : jLk RX3 13 yX2_init cX2_init 2 none 1 := ⟨ml_X3_13, ini_X2, cd_yX2_init, by decide +kernel⟩
theorem mm_X3_38 : jLk RX3 38 yX2_get cX2_get 2 (some FieldType.int) 1 := ⟨ml_X3_38, ini_X2, cd_yX2_get, by decide +kernel⟩
theorem ff_X3_16 : jFd RX3 16 3 0 false := ⟨RX3, TX3, 5, rfl, by decide, rfl, lay_X3, fl_X3_16, rfl⟩
theorem mm_X3_42 : jLk RX3 42 yX2_count cX2_count 1 (some FieldType.int) 0 := ⟨ml_X3_42, ini_X2, cd_yX2_count, by decide +kernel⟩
theorem mm_X3_46 : jLk RX3 46 yX2_isFull cX2_isFull 1 (some FieldType.boolean) 0 := ⟨ml_X3_46, ini_X2, cd_yX2_isFull, by decide +kernel⟩
theorem mm_X3_50 : jLk RX3 50 yX2_placeOf cX2_placeOf 3 (some FieldType.int) 1 := ⟨ml_X3_50, ini_X2, cd_yX2_placeOf, by decide +kernel⟩
theorem ff_X3_20 : jFd RX3 20 3 1 false := ⟨RX3, TX3, 5, rfl, by decide, rfl, lay_X3, fl_X3_20, rfl⟩
theorem ff_X3_23 : jFd RX3 23 3 2 false := ⟨RX3, TX3, 5, rfl, by decide, rfl, lay_X3, fl_X3_23, rfl⟩
theorem ff_X3_26 : jFd RX3 26 3 3 false := ⟨RX3, TX3, 5, rfl, by decide, rfl, lay_X3, fl_X3_26, rfl⟩
theorem mm_X3_53 : jLk RX3 53 yX2_insert cX2_insert 3 none 2 := ⟨ml_X3_53, ini_X2, cd_yX2_insert, by decide +kernel⟩
theorem mm_X3_56 : jLk RX3 56 yX2_set cX2_set 3 none 2 := ⟨ml_X3_56, ini_X2, cd_yX2_set, by decide +kernel⟩
theorem mm_X3_59 : jLk RX3 59 yX2_remove cX2_remove 2 none 1 := ⟨ml_X3_59, ini_X2, cd_yX2_remove, by decide +kernel⟩
theorem ff_X3_34 : jFd RX3 34 3 4 false := ⟨RX3, TX3, 5, rfl, by decide, rfl, lay_X3, fl_X3_34, rfl⟩
theorem mm_X3_63 : jLk RX3 63 yX1_isSame cX1_isSame 7 (some FieldType.boolean) 4 := ⟨ml_X3_63, ini_X1, cd_yX1_isSame, by decide +kernel⟩
theorem mm_X3_62 : jLk RX3 62 yX1_count cX1_count 1 (some FieldType.int) 0 := ⟨ml_X3_62, ini_X1, cd_yX1_count, by decide +kernel⟩
theorem mm_X3_70 : jLk RX3 70 yX1_cut cX1_cut 1 none 0 := ⟨ml_X3_70, ini_X1, cd_yX1_cut, by decide +kernel⟩
theorem mm_X3_67 : jLk RX3 67 yX1_add cX1_add 2 none 1 := ⟨ml_X3_67, ini_X1, cd_yX1_add, by decide +kernel⟩
theorem mm_X3_73 : jLk RX3 73 yX1_drop cX1_drop 5 none 1 := ⟨ml_X3_73, ini_X1, cd_yX1_drop, by decide +kernel⟩
theorem mm_X3_90 : jLk RX3 90 yX3_keyOf cX3_keyOf 6 (some FieldType.int) 3 := ⟨ml_X3_90, ini_X3, cd_yX3_keyOf, by decide +kernel⟩
theorem st_mmin : Cond.static Lib.Math.min.name ∈ gT := st_yJ9_min_7cf53
theorem cd_mmin : Cond.code Lib.Math.min.name Lib.Math.min.code 2 (some .int) ∈ gT := by decide +kernel
theorem ini_m : Cond.initialized "java/lang/Math" ∈ gT := by decide +kernel
theorem mm_X3_86 : jLk RX3 86 yX3_addCells cX3_addCells 8 (some FieldType.int) 5 := ⟨ml_X3_86, ini_X3, cd_yX3_addCells, by decide +kernel⟩
theorem mm_X3_76 : jLk RX3 76 yX3_placeOfException cX3_placeOfException 5 (some FieldType.int) 3 := ⟨ml_X3_76, ini_X3, cd_yX3_placeOfException, by decide +kernel⟩
theorem fp_X4_14 : jFp RX4 14 4 0 false true := ⟨RX4, TX4, 7, rfl, by decide, rfl, lay_X4, fl_X4_14, rfl, rfl, (fun _ => rfl), rfl, ⟨tyX4, tyX4_ok⟩, nmX4, tyX4 0, tyX4_ok 0 (by decide), (fun q => by cases q), (fun _ r => by cases r <;> exact ⟨rfl, rfl⟩)⟩
theorem fp_X4_20 : jFp RX4 20 4 1 false true := ⟨RX4, TX4, 7, rfl, by decide, rfl, lay_X4, fl_X4_20, rfl, rfl, (fun _ => rfl), rfl, ⟨tyX4, tyX4_ok⟩, nmX4, tyX4 1, tyX4_ok 1 (by decide), (fun q => by cases q), (fun _ r => by cases r <;> exact ⟨rfl, rfl⟩)⟩
theorem fp_X4_28 : jFp RX4 28 4 2 false true := ⟨RX4, TX4, 7, rfl, by decide, rfl, lay_X4, fl_X4_28, rfl, rfl, (fun _ => rfl), rfl, ⟨tyX4, tyX4_ok⟩, nmX4, tyX4 2, tyX4_ok 2 (by decide), (fun q => by cases q), (fun _ r => by cases r <;> exact ⟨rfl, rfl⟩)⟩
theorem fp_X4_32 : jFp RX4 32 4 3 false true := ⟨RX4, TX4, 7, rfl, by decide, rfl, lay_X4, fl_X4_32, rfl, rfl, (fun _ => rfl), rfl, ⟨tyX4, tyX4_ok⟩, nmX4, tyX4 3, tyX4_ok 3 (by decide), (fun q => by cases q), (fun _ r => by cases r <;> exact ⟨rfl, rfl⟩)⟩
theorem fp_X4_35 : jFp RX4 35 4 4 false true := ⟨RX4, TX4, 7, rfl, by decide, rfl, lay_X4, fl_X4_35, rfl, rfl, (fun _ => rfl), rfl, ⟨tyX4, tyX4_ok⟩, nmX4, tyX4 4, tyX4_ok 4 (by decide), (fun q => by cases q), (fun _ r => by cases r <;> exact ⟨rfl, rfl⟩)⟩
theorem fp_X4_38 : jFp RX4 38 4 5 false true := ⟨RX4, TX4, 7, rfl, by decide, rfl, lay_X4, fl_X4_38, rfl, rfl, (fun _ => rfl), rfl, ⟨tyX4, tyX4_ok⟩, nmX4, tyX4 5, tyX4_ok 5 (by decide), (fun q => by cases q), (fun _ r => by cases r <;> exact ⟨rfl, rfl⟩)⟩
theorem fp_X4_41 : jFp RX4 41 4 6 true false := ⟨RX4, TX4, 7, rfl, by decide, rfl, lay_X4, fl_X4_41, rfl, rfl, (fun q => by cases q), rfl, ⟨tyX4, tyX4_ok⟩, nmX4, tyX4 6, tyX4_ok 6 (by decide), (fun _ v => ⟨rfl, rfl⟩), (fun q => by cases q)⟩
theorem mm_X4_11 : jLk RX4 11 yX1_init cX1_init 3 none 2 := ⟨ml_X4_11, ini_X1, cd_yX1_init, by decide +kernel⟩
theorem mm_X4_25 : jLk RX4 25 yX2_init cX2_init 2 none 1 := ⟨ml_X4_25, ini_X2, cd_yX2_init, by decide +kernel⟩
theorem ff_X4_14 : jFd RX4 14 4 0 false := ⟨RX4, TX4, 7, rfl, by decide, rfl, lay_X4, fl_X4_14, rfl⟩
theorem ff_X4_28 : jFd RX4 28 4 2 false := ⟨RX4, TX4, 7, rfl, by decide, rfl, lay_X4, fl_X4_28, rfl⟩
theorem mm_X4_64 : jLk RX4 64 yX2_add cX2_add 2 none 1 := ⟨ml_X4_64, ini_X2, cd_yX2_add, by decide +kernel⟩
theorem mm_X4_63 : jLk RX4 63 yX1_count cX1_count 1 (some FieldType.int) 0 := ⟨ml_X4_63, ini_X1, cd_yX1_count, by decide +kernel⟩
theorem mm_X4_62 : jLk RX4 62 yX2_empty cX2_empty 1 none 0 := ⟨ml_X4_62, ini_X2, cd_yX2_empty, by decide +kernel⟩
theorem mm_X4_56 : jLk RX4 56 yX1_cut cX1_cut 1 none 0 := ⟨ml_X4_56, ini_X1, cd_yX1_cut, by decide +kernel⟩
theorem mm_X4_59 : jLk RX4 59 yX1_add cX1_add 2 none 1 := ⟨ml_X4_59, ini_X1, cd_yX1_add, by decide +kernel⟩
theorem mm_X4_52 : jLk RX4 52 yX2_get cX2_get 2 (some FieldType.int) 1 := ⟨ml_X4_52, ini_X2, cd_yX2_get, by decide +kernel⟩
theorem mm_X4_48 : jLk RX4 48 yX2_count cX2_count 1 (some FieldType.int) 0 := ⟨ml_X4_48, ini_X2, cd_yX2_count, by decide +kernel⟩
theorem mm_X4_45 : jLk RX4 45 yX1_empty cX1_empty 1 none 0 := ⟨ml_X4_45, ini_X1, cd_yX1_empty, by decide +kernel⟩
theorem mm_X4_113 : jLk RX4 113 yX2_set cX2_set 3 none 2 := ⟨ml_X4_113, ini_X2, cd_yX2_set, by decide +kernel⟩
theorem mm_X4_116 : jLk RX4 116 yX4_putMark cX4_putMark 4 none 3 := ⟨ml_X4_116, ini_X4, cd_yX4_putMark, by decide +kernel⟩
theorem ff_X4_20 : jFd RX4 20 4 1 false := ⟨RX4, TX4, 7, rfl, by decide, rfl, lay_X4, fl_X4_20, rfl⟩
theorem mm_X4_88 : jLk RX4 88 yX1_takeOver cX1_takeOver 2 none 1 := ⟨ml_X4_88, ini_X1, cd_yX1_takeOver, by decide +kernel⟩
theorem ff_X4_41 : jFd RX4 41 4 6 true := ⟨RX4, TX4, 7, rfl, by decide, rfl, lay_X4, fl_X4_41, rfl⟩
theorem mm_X4_85 : jLk RX4 85 yX4_unmark cX4_unmark 3 none 1 := ⟨ml_X4_85, ini_X4, cd_yX4_unmark, by decide +kernel⟩
theorem mm_X4_81 : jLk RX4 81 yX1_shares cX1_shares 3 (some FieldType.boolean) 2 := ⟨ml_X4_81, ini_X1, cd_yX1_shares, by decide +kernel⟩
theorem mm_X4_75 : jLk RX4 75 yX3_translate cX3_translate 11 none 5 := ⟨ml_X4_75, ini_X3, cd_yX3_translate, by decide +kernel⟩
theorem mm_X4_72 : jLk RX4 72 yX1_endOf cX1_endOf 2 (some FieldType.int) 1 := ⟨ml_X4_72, ini_X1, cd_yX1_endOf, by decide +kernel⟩
theorem mm_X4_69 : jLk RX4 69 yX1_startOf cX1_startOf 2 (some FieldType.int) 1 := ⟨ml_X4_69, ini_X1, cd_yX1_startOf, by decide +kernel⟩
theorem mm_X4_65 : jLk RX4 65 yX1_uncut cX1_uncut 1 (some (FieldType.object "Dotpress$Row")) 0 := ⟨ml_X4_65, ini_X1, cd_yX1_uncut, by decide +kernel⟩
theorem ff_X4_32 : jFd RX4 32 4 3 false := ⟨RX4, TX4, 7, rfl, by decide, rfl, lay_X4, fl_X4_32, rfl⟩
theorem mm_X4_98 : jLk RX4 98 yX1_uncutSize cX1_uncutSize 1 (some FieldType.int) 0 := ⟨ml_X4_98, ini_X1, cd_yX1_uncutSize, by decide +kernel⟩
theorem ff_X4_35 : jFd RX4 35 4 4 false := ⟨RX4, TX4, 7, rfl, by decide, rfl, lay_X4, fl_X4_35, rfl⟩
theorem mm_X4_101 : jLk RX4 101 yX1_get cX1_get 3 (some FieldType.int) 2 := ⟨ml_X4_101, ini_X1, cd_yX1_get, by decide +kernel⟩
theorem mm_X4_92 : jLk RX4 92 yX1_sizeOf cX1_sizeOf 2 (some FieldType.int) 1 := ⟨ml_X4_92, ini_X1, cd_yX1_sizeOf, by decide +kernel⟩
theorem mm_X4_95 : jLk RX4 95 yX4_beginWord cX4_beginWord 4 none 2 := ⟨ml_X4_95, ini_X4, cd_yX4_beginWord, by decide +kernel⟩
theorem ff_X4_38 : jFd RX4 38 4 5 false := ⟨RX4, TX4, 7, rfl, by decide, rfl, lay_X4, fl_X4_38, rfl⟩
theorem st_mmax : Cond.static Lib.Math.max.name ∈ gT := st_yJ9_max_7cf53
theorem cd_mmax : Cond.code Lib.Math.max.name Lib.Math.max.code 2 (some .int) ∈ gT := by decide +kernel
theorem mm_X4_109 : jLk RX4 109 yX4_isOther cX4_isOther 2 (some FieldType.boolean) 1 := ⟨ml_X4_109, ini_X4, cd_yX4_isOther, by decide +kernel⟩
theorem mm_X4_120 : jLk RX4 120 yX4_markBy cX4_markBy 3 (some FieldType.char) 2 := ⟨ml_X4_120, ini_X4, cd_yX4_markBy, by decide +kernel⟩
theorem fp_X5_14 : jFp RX5 14 5 0 false true := ⟨RX5, TX5, 7, rfl, by decide, rfl, lay_X5, fl_X5_14, rfl, rfl, (fun _ => rfl), rfl, ⟨tyX5, tyX5_ok⟩, nmX5, tyX5 0, tyX5_ok 0 (by decide), (fun q => by cases q), (fun _ r => by cases r <;> exact ⟨rfl, rfl⟩)⟩
theorem fp_X5_21 : jFp RX5 21 5 1 false true := ⟨RX5, TX5, 7, rfl, by decide, rfl, lay_X5, fl_X5_21, rfl, rfl, (fun _ => rfl), rfl, ⟨tyX5, tyX5_ok⟩, nmX5, tyX5 1, tyX5_ok 1 (by decide), (fun q => by cases q), (fun _ r => by cases r <;> exact ⟨rfl, rfl⟩)⟩
theorem fp_X5_28 : jFp RX5 28 5 2 false true := ⟨RX5, TX5, 7, rfl, by decide, rfl, lay_X5, fl_X5_28, rfl, rfl, (fun _ => rfl), rfl, ⟨tyX5, tyX5_ok⟩, nmX5, tyX5 2, tyX5_ok 2 (by decide), (fun q => by cases q), (fun _ r => by cases r <;> exact ⟨rfl, rfl⟩)⟩
theorem fp_X5_34 : jFp RX5 34 5 3 false true := ⟨RX5, TX5, 7, rfl, by decide, rfl, lay_X5, fl_X5_34, rfl, rfl, (fun _ => rfl), rfl, ⟨tyX5, tyX5_ok⟩, nmX5, tyX5 3, tyX5_ok 3 (by decide), (fun q => by cases q), (fun _ r => by cases r <;> exact ⟨rfl, rfl⟩)⟩
theorem fp_X5_43 : jFp RX5 43 5 4 false true := ⟨RX5, TX5, 7, rfl, by decide, rfl, lay_X5, fl_X5_43, rfl, rfl, (fun _ => rfl), rfl, ⟨tyX5, tyX5_ok⟩, nmX5, tyX5 4, tyX5_ok 4 (by decide), (fun q => by cases q), (fun _ r => by cases r <;> exact ⟨rfl, rfl⟩)⟩
theorem fp_X5_47 : jFp RX5 47 5 5 true false := ⟨RX5, TX5, 7, rfl, by decide, rfl, lay_X5, fl_X5_47, rfl, rfl, (fun q => by cases q), rfl, ⟨tyX5, tyX5_ok⟩, nmX5, tyX5 5, tyX5_ok 5 (by decide), (fun _ v => ⟨rfl, rfl⟩), (fun q => by cases q)⟩
theorem fp_X5_51 : jFp RX5 51 5 6 true false := ⟨RX5, TX5, 7, rfl, by decide, rfl, lay_X5, fl_X5_51, rfl, rfl, (fun q => by cases q), rfl, ⟨tyX5, tyX5_ok⟩, nmX5, tyX5 6, tyX5_ok 6 (by decide), (fun _ v => ⟨rfl, rfl⟩), (fun q => by cases q)⟩
theorem mm_X5_40 : jLk RX5 40 yX1_init cX1_init 3 none 2 := ⟨ml_X5_40, ini_X1, cd_yX1_init, by decide +kernel⟩
theorem mm_X5_27 : jLk RX5 27 yX0_init cX0_init 2 none 0 := ⟨ml_X5_27, ini_X0, cd_yX0_init, by decide +kernel⟩
theorem nw_X0 : ∀ j, j < 3 → (jfb 0)[j]? = some (decide (tyX0 j = .int)) ∧ (tyX0 j ≠ .int → defaultValue (tyX0 j) = .null) := by decide +kernel
theorem mn_X5_20_ : jLkN RX5 20 yX3_init cX3_init 1 none 0 := ⟨by decide +kernel, ini_X3, cd_yX3_init, by decide +kernel⟩
theorem nw_X3 : ∀ j, j < 5 → (jfb 3)[j]? = some (decide (tyX3 j = .int)) ∧ (tyX3 j ≠ .int → defaultValue (tyX3 j) = .null) := by decide +kernel
theorem mm_X5_11 : jLk RX5 11 yX2_init cX2_init 2 none 1 := ⟨ml_X5_11, ini_X2, cd_yX2_init, by decide +kernel⟩
theorem ff_X5_14 : jFd RX5 14 5 0 false := ⟨RX5, TX5, 7, rfl, by decide, rfl, lay_X5, fl_X5_14, rfl⟩
theorem mm_X5_73 : jLk RX5 73 yX2_count cX2_count 1 (some FieldType.int) 0 := ⟨ml_X5_73, ini_X2, cd_yX2_count, by decide +kernel⟩
theorem mm_X5_70 : jLk RX5 70 yX2_add cX2_add 2 none 1 := ⟨ml_X5_70, ini_X2, cd_yX2_add, by decide +kernel⟩
theorem tha_X5_65 : (∀ w ∈ vx_atS RX5 69 "java/lang/IllegalStateException" ["java/lang/RuntimeException", "java/lang/Exception"], w ∈ gT ∨ (w ∈ jNt ∧ w.onTables = true)) ∧ (∀ w ∈ Cond.classLink RX5 65 "java/lang/IllegalStateException" :: Cond.initialized "java/lang/IllegalStateException" :: vx_atS RX5 69 "java/lang/IllegalStateException" ["java/lang/RuntimeException", "java/lang/Exception"], vx_ot w = true) := by decide +kernel
theorem th_X5_65_67 : jTh RX5 65 67 69 "java/lang/IllegalStateException" "the buffer is full" ["java/lang/RuntimeException", "java/lang/Exception"] := ⟨by decide +kernel, by decide +kernel, cl_X5_65, ini_IllegalStateException, by decide +kernel, tha_X5_65.1, tha_X5_65.2⟩
theorem mm_X5_61 : jLk RX5 61 yX2_isFull cX2_isFull 1 (some FieldType.boolean) 0 := ⟨ml_X5_61, ini_X2, cd_yX2_isFull, by decide +kernel⟩
theorem tha_X5_54 : (∀ w ∈ vx_atS RX5 58 "java/lang/IllegalArgumentException" ["java/lang/RuntimeException", "java/lang/Exception"], w ∈ gT ∨ (w ∈ jNt ∧ w.onTables = true)) ∧ (∀ w ∈ Cond.classLink RX5 54 "java/lang/IllegalArgumentException" :: Cond.initialized "java/lang/IllegalArgumentException" :: vx_atS RX5 58 "java/lang/IllegalArgumentException" ["java/lang/RuntimeException", "java/lang/Exception"], vx_ot w = true) := by decide +kernel
theorem th_X5_54_56 : jTh RX5 54 56 58 "java/lang/IllegalArgumentException" "neither a letter nor a blank" ["java/lang/RuntimeException", "java/lang/Exception"] := ⟨by decide +kernel, by decide +kernel, cl_X5_54, ini_IllegalArgumentException, by decide +kernel, tha_X5_54.1, tha_X5_54.2⟩
theorem mm_X5_77 : jLk RX5 77 yX2_empty cX2_empty 1 none 0 := ⟨ml_X5_77, ini_X2, cd_yX2_empty, by decide +kernel⟩
theorem mm_X5_286 : jLk RX5 286 yX3_keyOf cX3_keyOf 6 (some FieldType.int) 3 := ⟨ml_X5_286, ini_X3, cd_yX3_keyOf, by decide +kernel⟩
theorem mm_X5_138 : jLk RX5 138 yX2_placeOf cX2_placeOf 3 (some FieldType.int) 1 := ⟨ml_X5_138, ini_X2, cd_yX2_placeOf, by decide +kernel⟩
theorem mm_X5_159 : jLk RX5 159 yX5_isGrade cX5_isGrade 1 (some FieldType.boolean) 1 := ⟨ml_X5_159, ini_X5, cd_yX5_isGrade, by decide +kernel⟩
theorem ff_X5_34 : jFd RX5 34 5 3 false := ⟨RX5, TX5, 7, rfl, by decide, rfl, lay_X5, fl_X5_34, rfl⟩
theorem ff_X5_21 : jFd RX5 21 5 1 false := ⟨RX5, TX5, 7, rfl, by decide, rfl, lay_X5, fl_X5_21, rfl⟩
theorem ff_X5_43 : jFd RX5 43 5 4 false := ⟨RX5, TX5, 7, rfl, by decide, rfl, lay_X5, fl_X5_43, rfl⟩
theorem ff_X5_51 : jFd RX5 51 5 6 true := ⟨RX5, TX5, 7, rfl, by decide, rfl, lay_X5, fl_X5_51, rfl⟩
theorem mm_X5_173 : jLk RX5 173 yX4_lay cX4_lay 4 none 1 := ⟨ml_X5_173, ini_X4, cd_yX4_lay, by decide +kernel⟩
theorem mm_X5_169 : jLk RX5 169 yX4_translate cX4_translate 5 (some FieldType.boolean) 2 := ⟨ml_X5_169, ini_X4, cd_yX4_translate, by decide +kernel⟩
theorem th_X5_54_87 : jTh RX5 54 87 58 "java/lang/IllegalArgumentException" "not the numbers or the letters of a rule" ["java/lang/RuntimeException", "java/lang/Exception"] := ⟨by decide +kernel, by decide +kernel, cl_X5_54, ini_IllegalArgumentException, by decide +kernel, tha_X5_54.1, tha_X5_54.2⟩
theorem mm_X5_105 : jLk RX5 105 yX5_translateTexts cX5_translateTexts 6 (some FieldType.int) 0 := ⟨ml_X5_105, ini_X5, cd_yX5_translateTexts, by decide +kernel⟩
theorem mm_X5_101 : jLk RX5 101 yX3_insert cX3_insert 7 (some FieldType.int) 4 := ⟨ml_X5_101, ini_X3, cd_yX3_insert, by decide +kernel⟩
theorem tha_X5_96 : (∀ w ∈ vx_atS RX5 100 "java/lang/UnsupportedOperationException" ["java/lang/RuntimeException", "java/lang/Exception"], w ∈ gT ∨ (w ∈ jNt ∧ w.onTables = true)) ∧ (∀ w ∈ Cond.classLink RX5 96 "java/lang/UnsupportedOperationException" :: Cond.initialized "java/lang/UnsupportedOperationException" :: vx_atS RX5 100 "java/lang/UnsupportedOperationException" ["java/lang/RuntimeException", "java/lang/Exception"], vx_ot w = true) := by decide +kernel
theorem th_X5_96_98 : jTh RX5 96 98 100 "java/lang/UnsupportedOperationException" "there is a rule for these letters" ["java/lang/RuntimeException", "java/lang/Exception"] := ⟨by decide +kernel, by decide +kernel, cl_X5_96, ini_UnsupportedOperationException, by decide +kernel, tha_X5_96.1, tha_X5_96.2⟩
theorem mm_X5_92 : jLk RX5 92 yX3_placeOf cX3_placeOf 2 (some FieldType.int) 1 := ⟨ml_X5_92, ini_X3, cd_yX3_placeOf, by decide +kernel⟩
theorem th_X5_65_90 : jTh RX5 65 90 69 "java/lang/IllegalStateException" "no room for another rule" ["java/lang/RuntimeException", "java/lang/Exception"] := ⟨by decide +kernel, by decide +kernel, cl_X5_65, ini_IllegalStateException, by decide +kernel, tha_X5_65.1, tha_X5_65.2⟩
theorem mm_X5_89 : jLk RX5 89 yX3_isFull cX3_isFull 1 (some FieldType.boolean) 0 := ⟨ml_X5_89, ini_X3, cd_yX3_isFull, by decide +kernel⟩
theorem mm_X5_83 : jLk RX5 83 yX5_isRule cX5_isRule 3 (some FieldType.boolean) 3 := ⟨ml_X5_83, ini_X5, cd_yX5_isRule, by decide +kernel⟩
theorem mm_X5_80 : jLk RX5 80 yX5_typedKey cX5_typedKey 1 (some FieldType.int) 0 := ⟨ml_X5_80, ini_X5, cd_yX5_typedKey, by decide +kernel⟩
theorem mm_X5_115 : jLk RX5 115 yX3_alter cX3_alter 5 none 4 := ⟨ml_X5_115, ini_X3, cd_yX3_alter, by decide +kernel⟩
theorem tha_X5_110 : (∀ w ∈ (jO13 RX5 114 "java/util/NoSuchElementException" "java/lang/RuntimeException" ["java/lang/Exception"]).filter vx_no, w ∈ gT ∨ (w ∈ jNt ∧ w.onTables = true)) ∧ (∀ w ∈ Cond.classLink RX5 110 "java/util/NoSuchElementException" :: Cond.initialized "java/util/NoSuchElementException" :: (jO13 RX5 114 "java/util/NoSuchElementException" "java/lang/RuntimeException" ["java/lang/Exception"]).filter vx_no, vx_ot w = true) := by decide +kernel
theorem th_X5_110_112 : jTN RX5 110 112 114 "java/util/NoSuchElementException" "no rule for these letters" "java/lang/RuntimeException" ["java/lang/Exception"] := ⟨by decide +kernel, by decide +kernel, by decide +kernel, cl_X5_110, ini_NoSuchElementException, by decide +kernel, tha_X5_110.1, tha_X5_110.2⟩
theorem th_X5_54_108 : jTh RX5 54 108 58 "java/lang/IllegalArgumentException" "not the numbers of a rule" ["java/lang/RuntimeException", "java/lang/Exception"] := ⟨by decide +kernel, by decide +kernel, cl_X5_54, ini_IllegalArgumentException, by decide +kernel, tha_X5_54.1, tha_X5_54.2⟩
theorem mm_X5_131 : jLk RX5 131 yX3_count cX3_count 1 (some FieldType.int) 0 := ⟨ml_X5_131, ini_X3, cd_yX3_count, by decide +kernel⟩
theorem mm_X5_128 : jLk RX5 128 yX3_takeAway cX3_takeAway 2 none 1 := ⟨ml_X5_128, ini_X3, cd_yX3_takeAway, by decide +kernel⟩
theorem tha_X5_123 : (∀ w ∈ vx_atS RX5 127 "java/lang/IndexOutOfBoundsException" ["java/lang/RuntimeException", "java/lang/Exception"], w ∈ gT ∨ (w ∈ jNt ∧ w.onTables = true)) ∧ (∀ w ∈ Cond.classLink RX5 123 "java/lang/IndexOutOfBoundsException" :: Cond.initialized "java/lang/IndexOutOfBoundsException" :: vx_atS RX5 127 "java/lang/IndexOutOfBoundsException" ["java/lang/RuntimeException", "java/lang/Exception"], vx_ot w = true) := by decide +kernel
theorem th_X5_123_125 : jTh RX5 123 125 127 "java/lang/IndexOutOfBoundsException" "no such rule" ["java/lang/RuntimeException", "java/lang/Exception"] := ⟨by decide +kernel, by decide +kernel, cl_X5_123, ini_IndexOutOfBoundsException, by decide +kernel, tha_X5_123.1, tha_X5_123.2⟩
theorem mm_X5_119 : jLk RX5 119 yX3_hasPlace cX3_hasPlace 2 (some FieldType.boolean) 1 := ⟨ml_X5_119, ini_X3, cd_yX3_hasPlace, by decide +kernel⟩
theorem th_X5_110_136 : jTN RX5 110 136 114 "java/util/NoSuchElementException" "no such letter" "java/lang/RuntimeException" ["java/lang/Exception"] := ⟨by decide +kernel, by decide +kernel, by decide +kernel, cl_X5_110, ini_NoSuchElementException, by decide +kernel, tha_X5_110.1, tha_X5_110.2⟩
theorem mm_X5_132 : jLk RX5 132 yX3_letterAt cX3_letterAt 5 (some FieldType.int) 2 := ⟨ml_X5_132, ini_X3, cd_yX3_letterAt, by decide +kernel⟩
theorem th_X5_54_139 : jTh RX5 54 139 58 "java/lang/IllegalArgumentException" "not one word" ["java/lang/RuntimeException", "java/lang/Exception"] := ⟨by decide +kernel, by decide +kernel, cl_X5_54, ini_IllegalArgumentException, by decide +kernel, tha_X5_54.1, tha_X5_54.2⟩
theorem mm_X5_154 : jLk RX5 154 yX3_dropException cX3_dropException 2 none 1 := ⟨ml_X5_154, ini_X3, cd_yX3_dropException, by decide +kernel⟩
theorem mm_X5_150 : jLk RX5 150 yX3_addException cX3_addException 3 none 1 := ⟨ml_X5_150, ini_X3, cd_yX3_addException, by decide +kernel⟩
theorem th_X5_65_148 : jTh RX5 65 148 69 "java/lang/IllegalStateException" "no room for another exception" ["java/lang/RuntimeException", "java/lang/Exception"] := ⟨by decide +kernel, by decide +kernel, cl_X5_65, ini_IllegalStateException, by decide +kernel, tha_X5_65.1, tha_X5_65.2⟩
theorem mm_X5_145 : jLk RX5 145 yX3_isFullOfExceptions cX3_isFullOfExceptions 1 (some FieldType.boolean) 0 := ⟨ml_X5_145, ini_X3, cd_yX3_isFullOfExceptions, by decide +kernel⟩
theorem mm_X5_141 : jLk RX5 141 yX3_placeOfException cX3_placeOfException 5 (some FieldType.int) 3 := ⟨ml_X5_141, ini_X3, cd_yX3_placeOfException, by decide +kernel⟩
theorem th_X5_123_157 : jTh RX5 123 157 127 "java/lang/IndexOutOfBoundsException" "neither a text nor the next new one" ["java/lang/RuntimeException", "java/lang/Exception"] := ⟨by decide +kernel, by decide +kernel, cl_X5_123, ini_IndexOutOfBoundsException, by decide +kernel, tha_X5_123.1, tha_X5_123.2⟩
theorem ff_X5_47 : jFd RX5 47 5 5 true := ⟨RX5, TX5, 7, rfl, by decide, rfl, lay_X5, fl_X5_47, rfl⟩
theorem mm_X5_176 : jLk RX5 176 yX4_wordCount cX4_wordCount 1 (some FieldType.int) 0 := ⟨ml_X5_176, ini_X4, cd_yX4_wordCount, by decide +kernel⟩
theorem mm_X5_165 : jLk RX5 165 yX4_take cX4_take 4 none 2 := ⟨ml_X5_165, ini_X4, cd_yX4_take, by decide +kernel⟩
theorem mn_X5_164_ : jLkN RX5 164 yX4_init cX4_init 1 none 0 := ⟨by decide +kernel, ini_X4, cd_yX4_init, by decide +kernel⟩
theorem nw_X4 : ∀ j, j < 7 → (jfb 4)[j]? = some (decide (tyX4 j = .int)) ∧ (tyX4 j ≠ .int → defaultValue (tyX4 j) = .null) := by decide +kernel
theorem th_X5_54_162 : jTh RX5 54 162 58 "java/lang/IllegalArgumentException" "no such grade" ["java/lang/RuntimeException", "java/lang/Exception"] := ⟨by decide +kernel, by decide +kernel, cl_X5_54, ini_IllegalArgumentException, by decide +kernel, tha_X5_54.1, tha_X5_54.2⟩
theorem th_X5_54_179 : jTh RX5 54 179 58 "java/lang/IllegalArgumentException" "no such width" ["java/lang/RuntimeException", "java/lang/Exception"] := ⟨by decide +kernel, by decide +kernel, cl_X5_54, ini_IllegalArgumentException, by decide +kernel, tha_X5_54.1, tha_X5_54.2⟩
theorem th_X5_123_289 : jTh RX5 123 289 127 "java/lang/IndexOutOfBoundsException" "no such text" ["java/lang/RuntimeException", "java/lang/Exception"] := ⟨by decide +kernel, by decide +kernel, cl_X5_123, ini_IndexOutOfBoundsException, by decide +kernel, tha_X5_123.1, tha_X5_123.2⟩
theorem mm_X5_181 : jLk RX5 181 yX5_textNumbered cX5_textNumbered 3 (some (FieldType.object "Dotpress$Text")) 1 := ⟨ml_X5_181, ini_X5, cd_yX5_textNumbered, by decide +kernel⟩
theorem th_X5_123_291 : jTh RX5 123 291 127 "java/lang/IndexOutOfBoundsException" "no such word" ["java/lang/RuntimeException", "java/lang/Exception"] := ⟨by decide +kernel, by decide +kernel, cl_X5_123, ini_IndexOutOfBoundsException, by decide +kernel, tha_X5_123.1, tha_X5_123.2⟩
theorem mm_X5_189 : jLk RX5 189 yX4_cellCount cX4_cellCount 2 (some FieldType.int) 1 := ⟨ml_X5_189, ini_X4, cd_yX4_cellCount, by decide +kernel⟩
theorem mm_X5_185 : jLk RX5 185 yX5_textWithWord cX5_textWithWord 4 (some (FieldType.object "Dotpress$Text")) 2 := ⟨ml_X5_185, ini_X5, cd_yX5_textWithWord, by decide +kernel⟩
theorem th_X5_110_192 : jTN RX5 110 192 114 "java/util/NoSuchElementException" "no such cell of the word" "java/lang/RuntimeException" ["java/lang/Exception"] := ⟨by decide +kernel, by decide +kernel, by decide +kernel, cl_X5_110, ini_NoSuchElementException, by decide +kernel, tha_X5_110.1, tha_X5_110.2⟩
theorem mm_X5_194 : jLk RX5 194 yX4_cellAt cX4_cellAt 3 (some FieldType.int) 2 := ⟨ml_X5_194, ini_X4, cd_yX4_cellAt, by decide +kernel⟩
theorem mm_X5_197 : jLk RX5 197 yX4_lineCount cX4_lineCount 1 (some FieldType.int) 0 := ⟨ml_X5_197, ini_X4, cd_yX4_lineCount, by decide +kernel⟩
theorem th_X5_123_200 : jTh RX5 123 200 127 "java/lang/IndexOutOfBoundsException" "no such line" ["java/lang/RuntimeException", "java/lang/Exception"] := ⟨by decide +kernel, by decide +kernel, cl_X5_123, ini_IndexOutOfBoundsException, by decide +kernel, tha_X5_123.1, tha_X5_123.2⟩
theorem th_X5_110_205 : jTN RX5 110 205 114 "java/util/NoSuchElementException" "no such cell of the line" "java/lang/RuntimeException" ["java/lang/Exception"] := ⟨by decide +kernel, by decide +kernel, by decide +kernel, cl_X5_110, ini_NoSuchElementException, by decide +kernel, tha_X5_110.1, tha_X5_110.2⟩
theorem mm_X5_207 : jLk RX5 207 yX4_laidCellAt cX4_laidCellAt 3 (some FieldType.int) 2 := ⟨ml_X5_207, ini_X4, cd_yX4_laidCellAt, by decide +kernel⟩
theorem mm_X5_202 : jLk RX5 202 yX4_lineSize cX4_lineSize 2 (some FieldType.int) 1 := ⟨ml_X5_202, ini_X4, cd_yX4_lineSize, by decide +kernel⟩
theorem mm_X5_210 : jLk RX5 210 yX4_firstLineOf cX4_firstLineOf 2 (some FieldType.int) 1 := ⟨ml_X5_210, ini_X4, cd_yX4_firstLineOf, by decide +kernel⟩
theorem ff_X5_28 : jFd RX5 28 5 2 false := ⟨RX5, TX5, 7, rfl, by decide, rfl, lay_X5, fl_X5_28, rfl⟩
theorem mm_X5_293 : jLk RX5 293 yX0_planCell cX0_planCell 3 none 1 := ⟨ml_X5_293, ini_X0, cd_yX0_planCell, by decide +kernel⟩
theorem mm_X5_231 : jLk RX5 231 yX4_keepAsEmbossed cX4_keepAsEmbossed 1 none 0 := ⟨ml_X5_231, ini_X4, cd_yX4_keepAsEmbossed, by decide +kernel⟩
theorem mm_X5_228 : jLk RX5 228 yX0_strikePlan cX0_strikePlan 2 none 0 := ⟨ml_X5_228, ini_X0, cd_yX0_strikePlan, by decide +kernel⟩
theorem th_X5_65_226 : jTh RX5 65 226 69 "java/lang/IllegalStateException" "a pin would be struck more than it bears" ["java/lang/RuntimeException", "java/lang/Exception"] := ⟨by decide +kernel, by decide +kernel, cl_X5_65, ini_IllegalStateException, by decide +kernel, tha_X5_65.1, tha_X5_65.2⟩
theorem mm_X5_223 : jLk RX5 223 yX0_bearsPlan cX0_bearsPlan 2 (some FieldType.boolean) 0 := ⟨ml_X5_223, ini_X0, cd_yX0_bearsPlan, by decide +kernel⟩
theorem mm_X5_219 : jLk RX5 219 yX5_planLine cX5_planLine 4 none 2 := ⟨ml_X5_219, ini_X5, cd_yX5_planLine, by decide +kernel⟩
theorem mm_X5_216 : jLk RX5 216 yX4_isOther cX4_isOther 2 (some FieldType.boolean) 1 := ⟨ml_X5_216, ini_X4, cd_yX4_isOther, by decide +kernel⟩
theorem mm_X5_213 : jLk RX5 213 yX0_forgetPlan cX0_forgetPlan 2 none 0 := ⟨ml_X5_213, ini_X0, cd_yX0_forgetPlan, by decide +kernel⟩
theorem mm_X5_234 : jLk RX5 234 yX4_otherLineCount cX4_otherLineCount 3 (some FieldType.int) 0 := ⟨ml_X5_234, ini_X4, cd_yX4_otherLineCount, by decide +kernel⟩
theorem th_X5_54_237 : jTh RX5 54 237 58 "java/lang/IllegalArgumentException" "no such bearing" ["java/lang/RuntimeException", "java/lang/Exception"] := ⟨by decide +kernel, by decide +kernel, cl_X5_54, ini_IllegalArgumentException, by decide +kernel, tha_X5_54.1, tha_X5_54.2⟩
theorem mm_X5_239 : jLk RX5 239 yX0_changeBearing cX0_changeBearing 3 (some FieldType.int) 1 := ⟨ml_X5_239, ini_X0, cd_yX0_changeBearing, by decide +kernel⟩
theorem th_X5_123_242 : jTh RX5 123 242 127 "java/lang/IndexOutOfBoundsException" "no such pin" ["java/lang/RuntimeException", "java/lang/Exception"] := ⟨by decide +kernel, by decide +kernel, cl_X5_123, ini_IndexOutOfBoundsException, by decide +kernel, tha_X5_123.1, tha_X5_123.2⟩
theorem mm_X5_244 : jLk RX5 244 yX0_renewPin cX0_renewPin 3 (some FieldType.int) 1 := ⟨ml_X5_244, ini_X0, cd_yX0_renewPin, by decide +kernel⟩
theorem mm_X5_247 : jLk RX5 247 yX0_wearOf cX0_wearOf 2 (some FieldType.int) 1 := ⟨ml_X5_247, ini_X0, cd_yX0_wearOf, by decide +kernel⟩
theorem mm_X5_259 : jLk RX5 259 yX4_markBy cX4_markBy 3 (some FieldType.char) 2 := ⟨ml_X5_259, ini_X4, cd_yX4_markBy, by decide +kernel⟩
theorem mm_X5_255 : jLk RX5 255 yX4_putMark cX4_putMark 4 none 3 := ⟨ml_X5_255, ini_X4, cd_yX4_putMark, by decide +kernel⟩
theorem th_X5_123_253 : jTh RX5 123 253 127 "java/lang/IndexOutOfBoundsException" "no such reader" ["java/lang/RuntimeException", "java/lang/Exception"] := ⟨by decide +kernel, by decide +kernel, cl_X5_123, ini_IndexOutOfBoundsException, by decide +kernel, tha_X5_123.1, tha_X5_123.2⟩
theorem mm_X5_250 : jLk RX5 250 yX5_isReader cX5_isReader 1 (some FieldType.boolean) 1 := ⟨ml_X5_250, ini_X5, cd_yX5_isReader, by decide +kernel⟩
theorem mm_X5_263 : jLk RX5 263 yX4_sumOnto cX4_sumOnto 7 (some FieldType.long) 1 := ⟨ml_X5_263, ini_X4, cd_yX4_sumOnto, by decide +kernel⟩
theorem tha_X5_270 : (∀ w ∈ vx_atS RX5 274 "java/lang/ArithmeticException" ["java/lang/RuntimeException", "java/lang/Exception"], w ∈ gT ∨ (w ∈ jNt ∧ w.onTables = true)) ∧ (∀ w ∈ Cond.classLink RX5 270 "java/lang/ArithmeticException" :: Cond.initialized "java/lang/ArithmeticException" :: vx_atS RX5 274 "java/lang/ArithmeticException" ["java/lang/RuntimeException", "java/lang/Exception"], vx_ot w = true) := by decide +kernel
theorem th_X5_270_272 : jTh RX5 270 272 274 "java/lang/ArithmeticException" "no words" ["java/lang/RuntimeException", "java/lang/Exception"] := ⟨by decide +kernel, by decide +kernel, cl_X5_270, ini_ArithmeticException, by decide +kernel, tha_X5_270.1, tha_X5_270.2⟩
theorem mm_X5_267 : jLk RX5 267 yX4_provedCount cX4_provedCount 3 (some FieldType.int) 0 := ⟨ml_X5_267, ini_X4, cd_yX4_provedCount, by decide +kernel⟩
theorem mm_X5_275 : jLk RX5 275 yX0_wearOfAll cX0_wearOfAll 3 (some FieldType.int) 0 := ⟨ml_X5_275, ini_X0, cd_yX0_wearOfAll, by decide +kernel⟩
theorem mm_X5_283 : jLk RX5 283 yX3_isInOrder cX3_isInOrder 2 (some FieldType.boolean) 0 := ⟨ml_X5_283, ini_X3, cd_yX3_isInOrder, by decide +kernel⟩
theorem mm_X5_280 : jLk RX5 280 yX4_isWellLaid cX4_isWellLaid 5 (some FieldType.boolean) 1 := ⟨ml_X5_280, ini_X4, cd_yX4_isWellLaid, by decide +kernel⟩
theorem fp_X6_7 : jFp RX6 7 6 1 false true := ⟨RX6, TX6, 28, rfl, by decide, rfl, lay_X6, fl_X6_7, rfl, rfl, (fun _ => rfl), rfl, ⟨tyX6, tyX6_ok⟩, nmX6, tyX6 1, tyX6_ok 1 (by decide), (fun q => by cases q), (fun _ r => by cases r <;> exact ⟨rfl, rfl⟩)⟩
theorem fp_X6_13 : jFp RX6 13 6 3 false true := ⟨RX6, TX6, 28, rfl, by decide, rfl, lay_X6, fl_X6_13, rfl, rfl, (fun _ => rfl), rfl, ⟨tyX6, tyX6_ok⟩, nmX6, tyX6 3, tyX6_ok 3 (by decide), (fun q => by cases q), (fun _ r => by cases r <;> exact ⟨rfl, rfl⟩)⟩
theorem fp_X6_16 : jFp RX6 16 6 4 false true := ⟨RX6, TX6, 28, rfl, by decide, rfl, lay_X6, fl_X6_16, rfl, rfl, (fun _ => rfl), rfl, ⟨tyX6, tyX6_ok⟩, nmX6, tyX6 4, tyX6_ok 4 (by decide), (fun q => by cases q), (fun _ r => by cases r <;> exact ⟨rfl, rfl⟩)⟩
theorem fp_X6_19 : jFp RX6 19 6 5 false true := ⟨RX6, TX6, 28, rfl, by decide, rfl, lay_X6, fl_X6_19, rfl, rfl, (fun _ => rfl), rfl, ⟨tyX6, tyX6_ok⟩, nmX6, tyX6 5, tyX6_ok 5 (by decide), (fun q => by cases q), (fun _ r => by cases r <;> exact ⟨rfl, rfl⟩)⟩
theorem fp_X6_22 : jFp RX6 22 6 6 false true := ⟨RX6, TX6, 28, rfl, by decide, rfl, lay_X6, fl_X6_22, rfl, rfl, (fun _ => rfl), rfl, ⟨tyX6, tyX6_ok⟩, nmX6, tyX6 6, tyX6_ok 6 (by decide), (fun q => by cases q), (fun _ r => by cases r <;> exact ⟨rfl, rfl⟩)⟩
theorem fp_X6_25 : jFp RX6 25 6 8 false true := ⟨RX6, TX6, 28, rfl, by decide, rfl, lay_X6, fl_X6_25, rfl, rfl, (fun _ => rfl), rfl, ⟨tyX6, tyX6_ok⟩, nmX6, tyX6 8, tyX6_ok 8 (by decide), (fun q => by cases q), (fun _ r => by cases r <;> exact ⟨rfl, rfl⟩)⟩
theorem fp_X6_28 : jFp RX6 28 6 9 false true := ⟨RX6, TX6, 28, rfl, by decide, rfl, lay_X6, fl_X6_28, rfl, rfl, (fun _ => rfl), rfl, ⟨tyX6, tyX6_ok⟩, nmX6, tyX6 9, tyX6_ok 9 (by decide), (fun q => by cases q), (fun _ r => by cases r <;> exact ⟨rfl, rfl⟩)⟩
theorem fp_X6_31 : jFp RX6 31 6 11 false true := ⟨RX6, TX6, 28, rfl, by decide, rfl, lay_X6, fl_X6_31, rfl, rfl, (fun _ => rfl), rfl, ⟨tyX6, tyX6_ok⟩, nmX6, tyX6 11, tyX6_ok 11 (by decide), (fun q => by cases q), (fun _ r => by cases r <;> exact ⟨rfl, rfl⟩)⟩
theorem fp_X6_34 : jFp RX6 34 6 12 false true := ⟨RX6, TX6, 28, rfl, by decide, rfl, lay_X6, fl_X6_34, rfl, rfl, (fun _ => rfl), rfl, ⟨tyX6, tyX6_ok⟩, nmX6, tyX6 12, tyX6_ok 12 (by decide), (fun q => by cases q), (fun _ r => by cases r <;> exact ⟨rfl, rfl⟩)⟩
theorem fp_X6_37 : jFp RX6 37 6 13 false true := ⟨RX6, TX6, 28, rfl, by decide, rfl, lay_X6, fl_X6_37, rfl, rfl, (fun _ => rfl), rfl, ⟨tyX6, tyX6_ok⟩, nmX6, tyX6 13, tyX6_ok 13 (by decide), (fun q => by cases q), (fun _ r => by cases r <;> exact ⟨rfl, rfl⟩)⟩
theorem fp_X6_40 : jFp RX6 40 6 15 true false := ⟨RX6, TX6, 28, rfl, by decide, rfl, lay_X6, fl_X6_40, rfl, rfl, (fun q => by cases q), rfl, ⟨tyX6, tyX6_ok⟩, nmX6, tyX6 15, tyX6_ok 15 (by decide), (fun _ v => ⟨rfl, rfl⟩), (fun q => by cases q)⟩
theorem fp_X6_44 : jFp RX6 44 6 16 false true := ⟨RX6, TX6, 28, rfl, by decide, rfl, lay_X6, fl_X6_44, rfl, rfl, (fun _ => rfl), rfl, ⟨tyX6, tyX6_ok⟩, nmX6, tyX6 16, tyX6_ok 16 (by decide), (fun q => by cases q), (fun _ r => by cases r <;> exact ⟨rfl, rfl⟩)⟩
theorem fp_X6_47 : jFp RX6 47 6 17 false true := ⟨RX6, TX6, 28, rfl, by decide, rfl, lay_X6, fl_X6_47, rfl, rfl, (fun _ => rfl), rfl, ⟨tyX6, tyX6_ok⟩, nmX6, tyX6 17, tyX6_ok 17 (by decide), (fun q => by cases q), (fun _ r => by cases r <;> exact ⟨rfl, rfl⟩)⟩
theorem fp_X6_50 : jFp RX6 50 6 18 false true := ⟨RX6, TX6, 28, rfl, by decide, rfl, lay_X6, fl_X6_50, rfl, rfl, (fun _ => rfl), rfl, ⟨tyX6, tyX6_ok⟩, nmX6, tyX6 18, tyX6_ok 18 (by decide), (fun q => by cases q), (fun _ r => by cases r <;> exact ⟨rfl, rfl⟩)⟩
theorem fp_X6_53 : jFp RX6 53 6 19 false true := ⟨RX6, TX6, 28, rfl, by decide, rfl, lay_X6, fl_X6_53, rfl, rfl, (fun _ => rfl), rfl, ⟨tyX6, tyX6_ok⟩, nmX6, tyX6 19, tyX6_ok 19 (by decide), (fun q => by cases q), (fun _ r => by cases r <;> exact ⟨rfl, rfl⟩)⟩
theorem fp_X6_56 : jFp RX6 56 6 20 true false := ⟨RX6, TX6, 28, rfl, by decide, rfl, lay_X6, fl_X6_56, rfl, rfl, (fun q => by cases q), rfl, ⟨tyX6, tyX6_ok⟩, nmX6, tyX6 20, tyX6_ok 20 (by decide), (fun _ v => ⟨rfl, rfl⟩), (fun q => by cases q)⟩
theorem fp_X6_59 : jFp RX6 59 6 21 false true := ⟨RX6, TX6, 28, rfl, by decide, rfl, lay_X6, fl_X6_59, rfl, rfl, (fun _ => rfl), rfl, ⟨tyX6, tyX6_ok⟩, nmX6, tyX6 21, tyX6_ok 21 (by decide), (fun q => by cases q), (fun _ r => by cases r <;> exact ⟨rfl, rfl⟩)⟩
theorem fp_X6_62 : jFp RX6 62 6 22 false true := ⟨RX6, TX6, 28, rfl, by decide, rfl, lay_X6, fl_X6_62, rfl, rfl, (fun _ => rfl), rfl, ⟨tyX6, tyX6_ok⟩, nmX6, tyX6 22, tyX6_ok 22 (by decide), (fun q => by cases q), (fun _ r => by cases r <;> exact ⟨rfl, rfl⟩)⟩
theorem fp_X6_65 : jFp RX6 65 6 24 false true := ⟨RX6, TX6, 28, rfl, by decide, rfl, lay_X6, fl_X6_65, rfl, rfl, (fun _ => rfl), rfl, ⟨tyX6, tyX6_ok⟩, nmX6, tyX6 24, tyX6_ok 24 (by decide), (fun q => by cases q), (fun _ r => by cases r <;> exact ⟨rfl, rfl⟩)⟩
theorem fp_X6_68 : jFp RX6 68 6 25 false true := ⟨RX6, TX6, 28, rfl, by decide, rfl, lay_X6, fl_X6_68, rfl, rfl, (fun _ => rfl), rfl, ⟨tyX6, tyX6_ok⟩, nmX6, tyX6 25, tyX6_ok 25 (by decide), (fun q => by cases q), (fun _ r => by cases r <;> exact ⟨rfl, rfl⟩)⟩
theorem fp_X6_71 : jFp RX6 71 6 26 false true := ⟨RX6, TX6, 28, rfl, by decide, rfl, lay_X6, fl_X6_71, rfl, rfl, (fun _ => rfl), rfl, ⟨tyX6, tyX6_ok⟩, nmX6, tyX6 26, tyX6_ok 26 (by decide), (fun q => by cases q), (fun _ r => by cases r <;> exact ⟨rfl, rfl⟩)⟩
theorem ff_X6_74 : jFd RX6 74 6 0 true := ⟨RX6, TX6, 28, rfl, by decide, rfl, lay_X6, fl_X6_74, rfl⟩
theorem fp_X6_74 : jFp RX6 74 6 0 true false := ⟨RX6, TX6, 28, rfl, by decide, rfl, lay_X6, fl_X6_74, rfl, rfl, (fun q => by cases q), rfl, ⟨tyX6, tyX6_ok⟩, nmX6, tyX6 0, tyX6_ok 0 (by decide), (fun _ v => ⟨rfl, rfl⟩), (fun q => by cases q)⟩
theorem ff_X6_7 : jFd RX6 7 6 1 false := ⟨RX6, TX6, 28, rfl, by decide, rfl, lay_X6, fl_X6_7, rfl⟩
theorem ff_X6_81 : jFd RX6 81 6 2 true := ⟨RX6, TX6, 28, rfl, by decide, rfl, lay_X6, fl_X6_81, rfl⟩
theorem fp_X6_81 : jFp RX6 81 6 2 true false := ⟨RX6, TX6, 28, rfl, by decide, rfl, lay_X6, fl_X6_81, rfl, rfl, (fun q => by cases q), rfl, ⟨tyX6, tyX6_ok⟩, nmX6, tyX6 2, tyX6_ok 2 (by decide), (fun _ v => ⟨rfl, rfl⟩), (fun q => by cases q)⟩
theorem mm_X6_84 : jLk RX6 84 yX6_goesOn cX6_goesOn 2 (some FieldType.boolean) 1 := ⟨ml_X6_84, ini_X6, cd_yX6_goesOn, by decide +kernel⟩
theorem mm_X6_77 : jLk RX6 77 yX6_in cX6_in 3 (some FieldType.boolean) 3 := ⟨ml_X6_77, ini_X6, cd_yX6_in, by decide +kernel⟩
theorem mm_X6_88 : jLk RX6 88 yX6_hasBlank cX6_hasBlank 3 (some FieldType.boolean) 0 := ⟨ml_X6_88, ini_X6, cd_yX6_hasBlank, by decide +kernel⟩
theorem ff_X6_13 : jFd RX6 13 6 3 false := ⟨RX6, TX6, 28, rfl, by decide, rfl, lay_X6, fl_X6_13, rfl⟩
theorem mm_X6_92 : jLk RX6 92 yX6_power cX6_power 1 (some FieldType.int) 1 := ⟨ml_X6_92, ini_X6, cd_yX6_power, by decide +kernel⟩
theorem mm_X6_96 : jLk RX6 96 yX6_letterOf cX6_letterOf 3 (some FieldType.int) 2 := ⟨ml_X6_96, ini_X6, cd_yX6_letterOf, by decide +kernel⟩
theorem ff_X6_100 : jFd RX6 100 6 7 true := ⟨RX6, TX6, 28, rfl, by decide, rfl, lay_X6, fl_X6_100, rfl⟩
theorem ff_X6_16 : jFd RX6 16 6 4 false := ⟨RX6, TX6, 28, rfl, by decide, rfl, lay_X6, fl_X6_16, rfl⟩
theorem ff_X6_19 : jFd RX6 19 6 5 false := ⟨RX6, TX6, 28, rfl, by decide, rfl, lay_X6, fl_X6_19, rfl⟩
theorem ff_X6_22 : jFd RX6 22 6 6 false := ⟨RX6, TX6, 28, rfl, by decide, rfl, lay_X6, fl_X6_22, rfl⟩
theorem ff_X6_31 : jFd RX6 31 6 11 false := ⟨RX6, TX6, 28, rfl, by decide, rfl, lay_X6, fl_X6_31, rfl⟩
theorem ff_X6_34 : jFd RX6 34 6 12 false := ⟨RX6, TX6, 28, rfl, by decide, rfl, lay_X6, fl_X6_34, rfl⟩
theorem mm_X6_139 : jLk RX6 139 yX6_isBegin cX6_isBegin 4 (some FieldType.boolean) 2 := ⟨ml_X6_139, ini_X6, cd_yX6_isBegin, by decide +kernel⟩
theorem ff_X6_28 : jFd RX6 28 6 9 false := ⟨RX6, TX6, 28, rfl, by decide, rfl, lay_X6, fl_X6_28, rfl⟩
theorem ff_X6_25 : jFd RX6 25 6 8 false := ⟨RX6, TX6, 28, rfl, by decide, rfl, lay_X6, fl_X6_25, rfl⟩
theorem ff_X6_130 : jFd RX6 130 6 10 true := ⟨RX6, TX6, 28, rfl, by decide, rfl, lay_X6, fl_X6_130, rfl⟩
theorem mm_X6_133 : jLk RX6 133 yX6_isThis cX6_isThis 6 (some FieldType.boolean) 3 := ⟨ml_X6_133, ini_X6, cd_yX6_isThis, by decide +kernel⟩
theorem mm_X6_127 : jLk RX6 127 yX6_lengthOf cX6_lengthOf 4 (some FieldType.int) 1 := ⟨ml_X6_127, ini_X6, cd_yX6_lengthOf, by decide +kernel⟩
theorem mm_X6_143 : jLk RX6 143 yX6_stands cX6_stands 7 (some FieldType.boolean) 3 := ⟨ml_X6_143, ini_X6, cd_yX6_stands, by decide +kernel⟩
theorem fp_X6_155 : jFp RX6 155 6 23 true false := ⟨RX6, TX6, 28, rfl, by decide, rfl, lay_X6, fl_X6_155, rfl, rfl, (fun q => by cases q), rfl, ⟨tyX6, tyX6_ok⟩, nmX6, tyX6 23, tyX6_ok 23 (by decide), (fun _ v => ⟨rfl, rfl⟩), (fun q => by cases q)⟩
theorem ff_X6_37 : jFd RX6 37 6 13 false := ⟨RX6, TX6, 28, rfl, by decide, rfl, lay_X6, fl_X6_37, rfl⟩
theorem ff_X6_62 : jFd RX6 62 6 22 false := ⟨RX6, TX6, 28, rfl, by decide, rfl, lay_X6, fl_X6_62, rfl⟩
theorem ff_X6_155 : jFd RX6 155 6 23 true := ⟨RX6, TX6, 28, rfl, by decide, rfl, lay_X6, fl_X6_155, rfl⟩
theorem mm_X6_158 : jLk RX6 158 yX6_longest cX6_longest 8 (some FieldType.int) 4 := ⟨ml_X6_158, ini_X6, cd_yX6_longest, by decide +kernel⟩
theorem mm_X6_152 : jLk RX6 152 yX6_isException cX6_isException 5 (some FieldType.boolean) 2 := ⟨ml_X6_152, ini_X6, cd_yX6_isException, by decide +kernel⟩
theorem mm_X6_149 : jLk RX6 149 yX6_letterCount cX6_letterCount 5 (some FieldType.int) 2 := ⟨ml_X6_149, ini_X6, cd_yX6_letterCount, by decide +kernel⟩
theorem mm_X6_146 : jLk RX6 146 yX6_beginOf cX6_beginOf 5 (some FieldType.int) 2 := ⟨ml_X6_146, ini_X6, cd_yX6_beginOf, by decide +kernel⟩
theorem ff_X6_162 : jFd RX6 162 6 14 true := ⟨RX6, TX6, 28, rfl, by decide, rfl, lay_X6, fl_X6_162, rfl⟩
theorem ff_X6_65 : jFd RX6 65 6 24 false := ⟨RX6, TX6, 28, rfl, by decide, rfl, lay_X6, fl_X6_65, rfl⟩
theorem mm_X6_168 : jLk RX6 168 yX6_translates cX6_translates 8 none 2 := ⟨ml_X6_168, ini_X6, cd_yX6_translates, by decide +kernel⟩
theorem mm_X6_165 : jLk RX6 165 yX6_wordsOf cX6_wordsOf 4 (some FieldType.int) 1 := ⟨ml_X6_165, ini_X6, cd_yX6_wordsOf, by decide +kernel⟩
theorem ff_X6_53 : jFd RX6 53 6 19 false := ⟨RX6, TX6, 28, rfl, by decide, rfl, lay_X6, fl_X6_53, rfl⟩
theorem fp_X6_100 : jFp RX6 100 6 7 true false := ⟨RX6, TX6, 28, rfl, by decide, rfl, lay_X6, fl_X6_100, rfl, rfl, (fun q => by cases q), rfl, ⟨tyX6, tyX6_ok⟩, nmX6, tyX6 7, tyX6_ok 7 (by decide), (fun _ v => ⟨rfl, rfl⟩), (fun q => by cases q)⟩
theorem mm_X6_124 : jLk RX6 124 yX6_textsChanged cX6_textsChanged 10 (some FieldType.int) 0 := ⟨ml_X6_124, ini_X6, cd_yX6_textsChanged, by decide +kernel⟩
theorem mm_X6_120 : jLk RX6 120 yX6_puts cX6_puts 6 none 5 := ⟨ml_X6_120, ini_X6, cd_yX6_puts, by decide +kernel⟩
theorem mm_X6_116 : jLk RX6 116 yX6_moves cX6_moves 3 none 2 := ⟨ml_X6_116, ini_X6, cd_yX6_moves, by decide +kernel⟩
theorem mm_X6_113 : jLk RX6 113 yX6_keepsCells cX6_keepsCells 6 none 0 := ⟨ml_X6_113, ini_X6, cd_yX6_keepsCells, by decide +kernel⟩
theorem mm_X6_110 : jLk RX6 110 yX6_ruleOf cX6_ruleOf 4 (some FieldType.int) 1 := ⟨ml_X6_110, ini_X6, cd_yX6_ruleOf, by decide +kernel⟩
theorem mm_X6_107 : jLk RX6 107 yX6_areFine cX6_areFine 3 (some FieldType.boolean) 3 := ⟨ml_X6_107, ini_X6, cd_yX6_areFine, by decide +kernel⟩
theorem mm_X6_103 : jLk RX6 103 yX6_ruleLetters cX6_ruleLetters 3 (some FieldType.int) 0 := ⟨ml_X6_103, ini_X6, cd_yX6_ruleLetters, by decide +kernel⟩
theorem fp_X6_130 : jFp RX6 130 6 10 true false := ⟨RX6, TX6, 28, rfl, by decide, rfl, lay_X6, fl_X6_130, rfl, rfl, (fun q => by cases q), rfl, ⟨tyX6, tyX6_ok⟩, nmX6, tyX6 10, tyX6_ok 10 (by decide), (fun _ v => ⟨rfl, rfl⟩), (fun q => by cases q)⟩
theorem mm_X6_136 : jLk RX6 136 yX6_exceptionInBuffer cX6_exceptionInBuffer 5 (some FieldType.int) 0 := ⟨ml_X6_136, ini_X6, cd_yX6_exceptionInBuffer, by decide +kernel⟩
theorem fp_X6_162 : jFp RX6 162 6 14 true false := ⟨RX6, TX6, 28, rfl, by decide, rfl, lay_X6, fl_X6_162, rfl, rfl, (fun q => by cases q), rfl, ⟨tyX6, tyX6_ok⟩, nmX6, tyX6 14, tyX6_ok 14 (by decide), (fun _ v => ⟨rfl, rfl⟩), (fun q => by cases q)⟩
theorem mm_X6_171 : jLk RX6 171 yX6_isText cX6_isText 2 (some FieldType.boolean) 1 := ⟨ml_X6_171, ini_X6, cd_yX6_isText, by decide +kernel⟩
theorem ff_X6_40 : jFd RX6 40 6 15 true := ⟨RX6, TX6, 28, rfl, by decide, rfl, lay_X6, fl_X6_40, rfl⟩
theorem mm_X6_174 : jLk RX6 174 yX6_isWord cX6_isWord 3 (some FieldType.boolean) 2 := ⟨ml_X6_174, ini_X6, cd_yX6_isWord, by decide +kernel⟩
theorem ff_X6_68 : jFd RX6 68 6 25 false := ⟨RX6, TX6, 28, rfl, by decide, rfl, lay_X6, fl_X6_68, rfl⟩
theorem ff_X6_177 : jFd RX6 177 6 27 true := ⟨RX6, TX6, 28, rfl, by decide, rfl, lay_X6, fl_X6_177, rfl⟩
theorem ff_X6_71 : jFd RX6 71 6 26 false := ⟨RX6, TX6, 28, rfl, by decide, rfl, lay_X6, fl_X6_71, rfl⟩
theorem fp_X6_177 : jFp RX6 177 6 27 true false := ⟨RX6, TX6, 28, rfl, by decide, rfl, lay_X6, fl_X6_177, rfl, rfl, (fun q => by cases q), rfl, ⟨tyX6, tyX6_ok⟩, nmX6, tyX6 27, tyX6_ok 27 (by decide), (fun _ v => ⟨rfl, rfl⟩), (fun q => by cases q)⟩
theorem mm_X6_180 : jLk RX6 180 yX6_addsCell cX6_addsCell 2 none 1 := ⟨ml_X6_180, ini_X6, cd_yX6_addsCell, by decide +kernel⟩
theorem mm_X6_184 : jLk RX6 184 yX6_begins cX6_begins 1 none 0 := ⟨ml_X6_184, ini_X6, cd_yX6_begins, by decide +kernel⟩
theorem mm_X6_187 : jLk RX6 187 yX6_breaks cX6_breaks 8 (some FieldType.int) 2 := ⟨ml_X6_187, ini_X6, cd_yX6_breaks, by decide +kernel⟩
theorem ff_X6_50 : jFd RX6 50 6 18 false := ⟨RX6, TX6, 28, rfl, by decide, rfl, lay_X6, fl_X6_50, rfl⟩
theorem ff_X6_44 : jFd RX6 44 6 16 false := ⟨RX6, TX6, 28, rfl, by decide, rfl, lay_X6, fl_X6_44, rfl⟩
theorem ff_X6_47 : jFd RX6 47 6 17 false := ⟨RX6, TX6, 28, rfl, by decide, rfl, lay_X6, fl_X6_47, rfl⟩
theorem mm_X6_190 : jLk RX6 190 yX6_isEmbossed cX6_isEmbossed 6 (some FieldType.boolean) 2 := ⟨ml_X6_190, ini_X6, cd_yX6_isEmbossed, by decide +kernel⟩
theorem ff_X6_59 : jFd RX6 59 6 21 false := ⟨RX6, TX6, 28, rfl, by decide, rfl, lay_X6, fl_X6_59, rfl⟩
theorem ff_X6_56 : jFd RX6 56 6 20 true := ⟨RX6, TX6, 28, rfl, by decide, rfl, lay_X6, fl_X6_56, rfl⟩
theorem mm_X6_193 : jLk RX6 193 yX6_due cX6_due 6 (some FieldType.int) 2 := ⟨ml_X6_193, ini_X6, cd_yX6_due, by decide +kernel⟩
theorem mm_X6_196 : jLk RX6 196 yX6_isWorn cX6_isWorn 5 (some FieldType.boolean) 1 := ⟨ml_X6_196, ini_X6, cd_yX6_isWorn, by decide +kernel⟩
theorem mm_L_7 : jLk RL 7 yX5_type cX5_type 2 (some FieldType.int) 1 := ⟨ml_L_7, ini_X5, cd_yX5_type, by decide +kernel⟩
theorem mm_L_17 : jLk RL 17 yX5_addRule cX5_addRule 6 (some FieldType.int) 3 := ⟨ml_L_17, ini_X5, cd_yX5_addRule, by decide +kernel⟩
theorem mm_L_23 : jLk RL 23 yX5_mend cX5_mend 5 (some FieldType.int) 3 := ⟨ml_L_23, ini_X5, cd_yX5_mend, by decide +kernel⟩
theorem mm_L_28 : jLk RL 28 yX5_removeRule cX5_removeRule 2 (some FieldType.int) 1 := ⟨ml_L_28, ini_X5, cd_yX5_removeRule, by decide +kernel⟩
theorem mm_L_34 : jLk RL 34 yX5_ruleAt cX5_ruleAt 4 (some FieldType.char) 2 := ⟨ml_L_34, ini_X5, cd_yX5_ruleAt, by decide +kernel⟩
theorem mm_L_38 : jLk RL 38 yX5_turnException cX5_turnException 2 (some FieldType.boolean) 0 := ⟨ml_L_38, ini_X5, cd_yX5_turnException, by decide +kernel⟩
theorem mm_L_42 : jLk RL 42 yX5_setText cX5_setText 4 (some FieldType.int) 2 := ⟨ml_L_42, ini_X5, cd_yX5_setText, by decide +kernel⟩
theorem mm_L_46 : jLk RL 46 yX5_setWidth cX5_setWidth 7 (some FieldType.int) 1 := ⟨ml_L_46, ini_X5, cd_yX5_setWidth, by decide +kernel⟩
theorem mm_L_49 : jLk RL 49 yX5_words cX5_words 2 (some FieldType.int) 1 := ⟨ml_L_49, ini_X5, cd_yX5_words, by decide +kernel⟩
theorem mm_L_52 : jLk RL 52 yX5_length cX5_length 3 (some FieldType.int) 2 := ⟨ml_L_52, ini_X5, cd_yX5_length, by decide +kernel⟩
theorem mm_L_55 : jLk RL 55 yX5_cellOf cX5_cellOf 5 (some FieldType.int) 3 := ⟨ml_L_55, ini_X5, cd_yX5_cellOf, by decide +kernel⟩
theorem mm_L_58 : jLk RL 58 yX5_lines cX5_lines 2 (some FieldType.int) 1 := ⟨ml_L_58, ini_X5, cd_yX5_lines, by decide +kernel⟩
theorem mm_L_61 : jLk RL 61 yX5_lineAt cX5_lineAt 5 (some FieldType.int) 3 := ⟨ml_L_61, ini_X5, cd_yX5_lineAt, by decide +kernel⟩
theorem mm_L_64 : jLk RL 64 yX5_lineOf cX5_lineOf 3 (some FieldType.int) 2 := ⟨ml_L_64, ini_X5, cd_yX5_lineOf, by decide +kernel⟩
theorem mm_L_67 : jLk RL 67 yX5_emboss cX5_emboss 8 (some FieldType.int) 1 := ⟨ml_L_67, ini_X5, cd_yX5_emboss, by decide +kernel⟩
theorem mm_L_70 : jLk RL 70 yX5_changed cX5_changed 2 (some FieldType.int) 1 := ⟨ml_L_70, ini_X5, cd_yX5_changed, by decide +kernel⟩
theorem mm_L_73 : jLk RL 73 yX5_setBearing cX5_setBearing 2 (some FieldType.int) 1 := ⟨ml_L_73, ini_X5, cd_yX5_setBearing, by decide +kernel⟩
theorem mm_L_76 : jLk RL 76 yX5_replace cX5_replace 2 (some FieldType.int) 1 := ⟨ml_L_76, ini_X5, cd_yX5_replace, by decide +kernel⟩
theorem mm_L_79 : jLk RL 79 yX5_strikes cX5_strikes 2 (some FieldType.int) 1 := ⟨ml_L_79, ini_X5, cd_yX5_strikes, by decide +kernel⟩
theorem mm_L_82 : jLk RL 82 yX5_mark cX5_mark 7 (some FieldType.boolean) 4 := ⟨ml_L_82, ini_X5, cd_yX5_mark, by decide +kernel⟩
theorem mm_L_86 : jLk RL 86 yX5_markOf cX5_markOf 4 (some FieldType.char) 3 := ⟨ml_L_86, ini_X5, cd_yX5_markOf, by decide +kernel⟩
theorem mm_L_90 : jLk RL 90 yX5_provedShare cX5_provedShare 7 (some FieldType.float) 0 := ⟨ml_L_90, ini_X5, cd_yX5_provedShare, by decide +kernel⟩
theorem mm_L_106 : jLk RL 106 yX6_thrown cX6_thrown 1 (some FieldType.int) 0 := ⟨ml_L_106, ini_X6, cd_yX6_thrown, by decide +kernel⟩
theorem mm_L_105 : jLk RL 105 yX6_type cX6_type 3 (some FieldType.int) 1 := ⟨ml_L_105, ini_X6, cd_yX6_type, by decide +kernel⟩
theorem mm_L_113 : jLk RL 113 yX6_clear cX6_clear 2 (some FieldType.int) 0 := ⟨ml_L_113, ini_X6, cd_yX6_clear, by decide +kernel⟩
theorem mm_L_110 : jLk RL 110 yX5_clear cX5_clear 2 (some FieldType.int) 0 := ⟨ml_L_110, ini_X5, cd_yX5_clear, by decide +kernel⟩
theorem mm_L_117 : jLk RL 117 yX6_addRule cX6_addRule 8 (some FieldType.int) 3 := ⟨ml_L_117, ini_X6, cd_yX6_addRule, by decide +kernel⟩
theorem mm_L_120 : jLk RL 120 yX6_mend cX6_mend 6 (some FieldType.int) 3 := ⟨ml_L_120, ini_X6, cd_yX6_mend, by decide +kernel⟩
theorem mm_L_124 : jLk RL 124 yX6_removeRule cX6_removeRule 3 (some FieldType.int) 1 := ⟨ml_L_124, ini_X6, cd_yX6_removeRule, by decide +kernel⟩
theorem mm_L_128 : jLk RL 128 yX6_ruleAt cX6_ruleAt 5 (some FieldType.char) 2 := ⟨ml_L_128, ini_X6, cd_yX6_ruleAt, by decide +kernel⟩
theorem mm_L_132 : jLk RL 132 yX6_turnException cX6_turnException 4 (some FieldType.boolean) 0 := ⟨ml_L_132, ini_X6, cd_yX6_turnException, by decide +kernel⟩
theorem mm_L_135 : jLk RL 135 yX6_setText cX6_setText 5 (some FieldType.int) 2 := ⟨ml_L_135, ini_X6, cd_yX6_setText, by decide +kernel⟩
theorem mm_L_138 : jLk RL 138 yX6_setWidth cX6_setWidth 3 (some FieldType.int) 1 := ⟨ml_L_138, ini_X6, cd_yX6_setWidth, by decide +kernel⟩
theorem mm_L_141 : jLk RL 141 yX6_words cX6_words 2 (some FieldType.int) 1 := ⟨ml_L_141, ini_X6, cd_yX6_words, by decide +kernel⟩
theorem mm_L_144 : jLk RL 144 yX6_length cX6_length 3 (some FieldType.int) 2 := ⟨ml_L_144, ini_X6, cd_yX6_length, by decide +kernel⟩
theorem mm_L_147 : jLk RL 147 yX6_cellOf cX6_cellOf 5 (some FieldType.int) 3 := ⟨ml_L_147, ini_X6, cd_yX6_cellOf, by decide +kernel⟩
theorem mm_L_150 : jLk RL 150 yX6_lines cX6_lines 3 (some FieldType.int) 1 := ⟨ml_L_150, ini_X6, cd_yX6_lines, by decide +kernel⟩
theorem mm_L_153 : jLk RL 153 yX6_lineAt cX6_lineAt 7 (some FieldType.int) 3 := ⟨ml_L_153, ini_X6, cd_yX6_lineAt, by decide +kernel⟩
theorem mm_L_156 : jLk RL 156 yX6_lineOf cX6_lineOf 3 (some FieldType.int) 2 := ⟨ml_L_156, ini_X6, cd_yX6_lineOf, by decide +kernel⟩
theorem mm_L_159 : jLk RL 159 yX6_emboss cX6_emboss 9 (some FieldType.int) 1 := ⟨ml_L_159, ini_X6, cd_yX6_emboss, by decide +kernel⟩
theorem mm_L_162 : jLk RL 162 yX6_changed cX6_changed 5 (some FieldType.int) 1 := ⟨ml_L_162, ini_X6, cd_yX6_changed, by decide +kernel⟩
theorem mm_L_165 : jLk RL 165 yX6_setBearing cX6_setBearing 3 (some FieldType.int) 1 := ⟨ml_L_165, ini_X6, cd_yX6_setBearing, by decide +kernel⟩
theorem mm_L_168 : jLk RL 168 yX6_replace cX6_replace 3 (some FieldType.int) 1 := ⟨ml_L_168, ini_X6, cd_yX6_replace, by decide +kernel⟩
theorem mm_L_171 : jLk RL 171 yX6_strikes cX6_strikes 2 (some FieldType.int) 1 := ⟨ml_L_171, ini_X6, cd_yX6_strikes, by decide +kernel⟩
theorem mm_L_175 : jLk RL 175 yX6_mark cX6_mark 6 (some FieldType.boolean) 4 := ⟨ml_L_175, ini_X6, cd_yX6_mark, by decide +kernel⟩
theorem mm_L_178 : jLk RL 178 yX6_markOf cX6_markOf 5 (some FieldType.char) 3 := ⟨ml_L_178, ini_X6, cd_yX6_markOf, by decide +kernel⟩
theorem mm_L_183 : jLk RL 183 yX6_checksum cX6_checksum 7 (some FieldType.long) 0 := ⟨ml_L_183, ini_X6, cd_yX6_checksum, by decide +kernel⟩
theorem mm_L_179 : jLk RL 179 yX5_checksum cX5_checksum 7 (some FieldType.long) 0 := ⟨ml_L_179, ini_X5, cd_yX5_checksum, by decide +kernel⟩
theorem mm_L_187 : jLk RL 187 yX6_provedShare cX6_provedShare 6 (some FieldType.float) 0 := ⟨ml_L_187, ini_X6, cd_yX6_provedShare, by decide +kernel⟩
theorem mm_L_192 : jLk RL 192 yX6_meanStrikes cX6_meanStrikes 3 (some FieldType.double) 0 := ⟨ml_L_192, ini_X6, cd_yX6_meanStrikes, by decide +kernel⟩
theorem mm_L_188 : jLk RL 188 yX5_meanStrikes cX5_meanStrikes 1 (some FieldType.double) 0 := ⟨ml_L_188, ini_X5, cd_yX5_meanStrikes, by decide +kernel⟩
theorem mm_L_196 : jLk RL 196 yX6_isSound cX6_isSound 1 (some FieldType.boolean) 0 := ⟨ml_L_196, ini_X6, cd_yX6_isSound, by decide +kernel⟩
theorem mm_L_193 : jLk RL 193 yX5_isSound cX5_isSound 5 (some FieldType.boolean) 0 := ⟨ml_L_193, ini_X5, cd_yX5_isSound, by decide +kernel⟩
theorem mm_L_99 : jLk RL 99 yX6_init cX6_init 1 none 0 := ⟨ml_L_99, ini_X6, cd_yX6_init, by decide +kernel⟩
theorem nw_X6 : ∀ j, j < 28 → (jfb 6)[j]? = some (decide (tyX6 j = .int)) ∧ (tyX6 j ≠ .int → defaultValue (tyX6 j) = .null) := by decide +kernel
theorem mm_L_96 : jLk RL 96 yX5_init cX5_init 1 none 0 := ⟨ml_L_96, ini_X5, cd_yX5_init, by decide +kernel⟩
theorem nw_X5 : ∀ j, j < 7 → (jfb 5)[j]? = some (decide (tyX5 j = .int)) ∧ (tyX5 j ≠ .int → defaultValue (tyX5 j) = .null) := by decide +kernel
