theorem fp_X2_9 : jFp RX2 9 2 1 true false := ⟨RX2, TX2, 2, rfl, by decide, rfl, lay_X2, fl_X2_9, rfl, (fun q => by cases q), rfl, ⟨tyX2, tyX2_ok⟩, nmX2, tyX2 1, tyX2_ok 1 (by decide), (fun _ v => ⟨rfl, rfl⟩), (fun q => by cases q)⟩
theorem fp_X2_15 : jFp RX2 15 2 0 false true := ⟨RX2, TX2, 2, rfl, by decide, rfl, lay_X2, fl_X2_15, rfl, (fun _ => rfl), rfl, ⟨tyX2, tyX2_ok⟩, nmX2, tyX2 0, tyX2_ok 0 (by decide), (fun q => by cases q), (fun _ r => by cases r <;> exact ⟨rfl, rfl⟩)⟩
theorem im_oi : Cond.instanceMethod Lib.objectInit ∈ gT := by decide +kernel
theorem cd_oi : Cond.code Lib.objectInit ⟨#[0xb1]⟩ 1 none ∈ gT := by decide +kernel
theorem ff_X2_9 : jFd RX2 9 2 1 true := ⟨RX2, TX2, 2, rfl, by decide, rfl, lay_X2, fl_X2_9⟩
theorem ff_X2_15 : jFd RX2 15 2 0 false := ⟨RX2, TX2, 2, rfl, by decide, rfl, lay_X2, fl_X2_15⟩
theorem fp_X0_14 : jFp RX0 14 0 0 false true := ⟨RX0, TX0, 3, rfl, by decide, rfl, lay_X0, fl_X0_14, rfl, (fun _ => rfl), rfl, ⟨tyX0, tyX0_ok⟩, nmX0, tyX0 0, tyX0_ok 0 (by decide), (fun q => by cases q), (fun _ r => by cases r <;> exact ⟨rfl, rfl⟩)⟩
theorem fp_X0_20 : jFp RX0 20 0 1 false true := ⟨RX0, TX0, 3, rfl, by decide, rfl, lay_X0, fl_X0_20, rfl, (fun _ => rfl), rfl, ⟨tyX0, tyX0_ok⟩, nmX0, tyX0 1, tyX0_ok 1 (by decide), (fun q => by cases q), (fun _ r => by cases r <;> exact ⟨rfl, rfl⟩)⟩
theorem fp_X0_23 : jFp RX0 23 0 2 true false := ⟨RX0, TX0, 3, rfl, by decide, rfl, lay_X0, fl_X0_23, rfl, (fun q => by cases q), rfl, ⟨tyX0, tyX0_ok⟩, nmX0, tyX0 2, tyX0_ok 2 (by decide), (fun _ v => ⟨rfl, rfl⟩), (fun q => by cases q)⟩
theorem ff_X0_14 : jFd RX0 14 0 0 false := ⟨RX0, TX0, 3, rfl, by decide, rfl, lay_X0, fl_X0_14⟩
theorem ff_X0_20 : jFd RX0 20 0 1 false := ⟨RX0, TX0, 3, rfl, by decide, rfl, lay_X0, fl_X0_20⟩
theorem mm_X0_27 : jLk RX0 27 yX2_add cX2_add 2 none 1 := ⟨ml_X0_27, ini_X2, cd_yX2_add, by decide +kernel⟩
theorem mm_X0_11 : jLk RX0 11 yX2_init cX2_init 2 none 1 := ⟨ml_X0_11, ini_X2, cd_yX2_init, by decide +kernel⟩
theorem nw_X2 : ∀ j, j < 2 → (jfb 2)[j]? = some (decide (defaultValue (tyX2 j) = .int 0)) ∧ (defaultValue (tyX2 j) ≠ .int 0 → defaultValue (tyX2 j) = .null) := by decide +kernel
theorem ff_X0_23 : jFd RX0 23 0 2 true := ⟨RX0, TX0, 3, rfl, by decide, rfl, lay_X0, fl_X0_23⟩
theorem mm_X0_30 : jLk RX0 30 yX2_get cX2_get 2 (some FieldType.int) 1 := ⟨ml_X0_30, ini_X2, cd_yX2_get, by decide +kernel⟩
theorem mm_X0_37 : jLk RX0 37 yX2_set cX2_set 3 none 2 := ⟨ml_X0_37, ini_X2, cd_yX2_set, by decide +kernel⟩
theorem mm_X0_34 : jLk RX0 34 yX0_wearOf cX0_wearOf 2 (some FieldType.int) 1 := ⟨ml_X0_34, ini_X0, cd_yX0_wearOf, by decide +kernel⟩
theorem fp_X1_12 : jFp RX1 12 1 0 false true := ⟨RX1, TX1, 2, rfl, by decide, rfl, lay_X1, fl_X1_12, rfl, (fun _ => rfl), rfl, ⟨tyX1, tyX1_ok⟩, nmX1, tyX1 0, tyX1_ok 0 (by decide), (fun q => by cases q), (fun _ r => by cases r <;> exact ⟨rfl, rfl⟩)⟩
theorem fp_X1_18 : jFp RX1 18 1 1 false true := ⟨RX1, TX1, 2, rfl, by decide, rfl, lay_X1, fl_X1_18, rfl, (fun _ => rfl), rfl, ⟨tyX1, tyX1_ok⟩, nmX1, tyX1 1, tyX1_ok 1 (by decide), (fun q => by cases q), (fun _ r => by cases r <;> exact ⟨rfl, rfl⟩)⟩
theorem mm_X1_9 : jLk RX1 9 yX2_init cX2_init 2 none 1 := ⟨ml_X1_9, ini_X2, cd_yX2_init, by decide +kernel⟩
theorem ff_X1_12 : jFd RX1 12 1 0 false := ⟨RX1, TX1, 2, rfl, by decide, rfl, lay_X1, fl_X1_12⟩
theorem ff_X1_18 : jFd RX1 18 1 1 false := ⟨RX1, TX1, 2, rfl, by decide, rfl, lay_X1, fl_X1_18⟩
theorem mm_X1_21 : jLk RX1 21 yX2_count cX2_count 1 (some FieldType.int) 0 := ⟨ml_X1_21, ini_X2, cd_yX2_count, by decide +kernel⟩
theorem mm_X1_25 : jLk RX1 25 yX2_get cX2_get 2 (some FieldType.int) 1 := ⟨ml_X1_25, ini_X2, cd_yX2_get, by decide +kernel⟩
theorem mm_X1_32 : jLk RX1 32 yX1_startOf cX1_startOf 2 (some FieldType.int) 1 := ⟨ml_X1_32, ini_X1, cd_yX1_startOf, by decide +kernel⟩
theorem mm_X1_29 : jLk RX1 29 yX1_endOf cX1_endOf 2 (some FieldType.int) 1 := ⟨ml_X1_29, ini_X1, cd_yX1_endOf, by decide +kernel⟩
theorem mm_X1_35 : jLk RX1 35 yX1_count cX1_count 1 (some FieldType.int) 0 := ⟨ml_X1_35, ini_X1, cd_yX1_count, by decide +kernel⟩
theorem mm_X1_36 : jLk RX1 36 yX2_add cX2_add 2 none 1 := ⟨ml_X1_36, ini_X2, cd_yX2_add, by decide +kernel⟩
theorem mm_X1_39 : jLk RX1 39 yX1_uncutSize cX1_uncutSize 1 (some FieldType.int) 0 := ⟨ml_X1_39, ini_X1, cd_yX1_uncutSize, by decide +kernel⟩
theorem mm_X1_42 : jLk RX1 42 yX2_empty cX2_empty 1 none 0 := ⟨ml_X1_42, ini_X2, cd_yX2_empty, by decide +kernel⟩
theorem st_cp : Cond.static arraycopyName ∈ gT := by decide +kernel
theorem ini_sy : Cond.initialized "java/lang/System" ∈ gT := by decide +kernel
theorem mm_X1_51 : jLk RX1 51 yX2_set cX2_set 3 none 2 := ⟨ml_X1_51, ini_X2, cd_yX2_set, by decide +kernel⟩
theorem mm_X1_48 : jLk RX1 48 yX2_remove cX2_remove 2 none 1 := ⟨ml_X1_48, ini_X2, cd_yX2_remove, by decide +kernel⟩
theorem mm_X1_45 : jLk RX1 45 yX1_sizeOf cX1_sizeOf 2 (some FieldType.int) 1 := ⟨ml_X1_45, ini_X1, cd_yX1_sizeOf, by decide +kernel⟩
theorem mm_X1_55 : jLk RX1 55 yX1_isSame cX1_isSame 7 (some FieldType.boolean) 4 := ⟨ml_X1_55, ini_X1, cd_yX1_isSame, by decide +kernel⟩
theorem mm_X2_35 : jLk RX2 35 yX2_add cX2_add 2 none 1 := ⟨ml_X2_35, ini_X2, cd_yX2_add, by decide +kernel⟩
theorem mm_X2_25 : jLk RX2 25 yX2_get cX2_get 2 (some FieldType.int) 1 := ⟨ml_X2_25, ini_X2, cd_yX2_get, by decide +kernel⟩
theorem mm_X2_32 : jLk RX2 32 yX2_count cX2_count 1 (some FieldType.int) 0 := ⟨ml_X2_32, ini_X2, cd_yX2_count, by decide +kernel⟩
theorem mm_X2_29 : jLk RX2 29 yX2_empty cX2_empty 1 none 0 := ⟨ml_X2_29, ini_X2, cd_yX2_empty, by decide +kernel⟩
theorem mm_X1_59 : jLk RX1 59 yX2_takeOver cX2_takeOver 3 none 1 := ⟨ml_X1_59, ini_X2, cd_yX2_takeOver, by decide +kernel⟩
theorem fp_X3_16 : jFp RX3 16 3 0 false true := ⟨RX3, TX3, 5, rfl, by decide, rfl, lay_X3, fl_X3_16, rfl, (fun _ => rfl), rfl, ⟨tyX3, tyX3_ok⟩, nmX3, tyX3 0, tyX3_ok 0 (by decide), (fun q => by cases q), (fun _ r => by cases r <;> exact ⟨rfl, rfl⟩)⟩
theorem fp_X3_20 : jFp RX3 20 3 1 false true := ⟨RX3, TX3, 5, rfl, by decide, rfl, lay_X3, fl_X3_20, rfl, (fun _ => rfl), rfl, ⟨tyX3, tyX3_ok⟩, nmX3, tyX3 1, tyX3_ok 1 (by decide), (fun q => by cases q), (fun _ r => by cases r <;> exact ⟨rfl, rfl⟩)⟩
theorem fp_X3_23 : jFp RX3 23 3 2 false true := ⟨RX3, TX3, 5, rfl, by decide, rfl, lay_X3, fl_X3_23, rfl, (fun _ => rfl), rfl, ⟨tyX3, tyX3_ok⟩, nmX3, tyX3 2, tyX3_ok 2 (by decide), (fun q => by cases q), (fun _ r => by cases r <;> exact ⟨rfl, rfl⟩)⟩
theorem fp_X3_26 : jFp RX3 26 3 3 false true := ⟨RX3, TX3, 5, rfl, by decide, rfl, lay_X3, fl_X3_26, rfl, (fun _ => rfl), rfl, ⟨tyX3, tyX3_ok⟩, nmX3, tyX3 3, tyX3_ok 3 (by decide), (fun q => by cases q), (fun _ r => by cases r <;> exact ⟨rfl, rfl⟩)⟩
theorem fp_X3_34 : jFp RX3 34 3 4 false true := ⟨RX3, TX3, 5, rfl, by decide, rfl, lay_X3, fl_X3_34, rfl, (fun _ => rfl), rfl, ⟨tyX3, tyX3_ok⟩, nmX3, tyX3 4, tyX3_ok 4 (by decide), (fun q => by cases q), (fun _ r => by cases r <;> exact ⟨rfl, rfl⟩)⟩
theorem mm_X3_31 : jLk RX3 31 yX1_init cX1_init 3 none 2 := ⟨ml_X3_31, ini_X1, cd_yX1_init, by decide +kernel⟩
theorem nw_X1 : ∀ j, j < 2 → (jfb 1)[j]? = some (decide (defaultValue (tyX1 j) = .int 0)) ∧ (defaultValue (tyX1 j) ≠ .int 0 → defaultValue (tyX1 j) = .null) := by decide +kernel
theorem mm_X3_13 : jLk RX3 13 yX2_init cX2_init 2 none 1 := ⟨ml_X3_13, ini_X2, cd_yX2_init, by decide +kernel⟩
theorem mm_X3_38 : jLk RX3 38 yX2_get cX2_get 2 (some FieldType.int) 1 := ⟨ml_X3_38, ini_X2, cd_yX2_get, by decide +kernel⟩
theorem ff_X3_16 : jFd RX3 16 3 0 false := ⟨RX3, TX3, 5, rfl, by decide, rfl, lay_X3, fl_X3_16⟩
theorem mm_X3_46 : jLk RX3 46 yX2_isFull cX2_isFull 1 (some FieldType.boolean) 0 := ⟨ml_X3_46, ini_X2, cd_yX2_isFull, by decide +kernel⟩
theorem mm_X3_50 : jLk RX3 50 yX2_placeOf cX2_placeOf 3 (some FieldType.int) 1 := ⟨ml_X3_50, ini_X2, cd_yX2_placeOf, by decide +kernel⟩
theorem ff_X3_20 : jFd RX3 20 3 1 false := ⟨RX3, TX3, 5, rfl, by decide, rfl, lay_X3, fl_X3_20⟩
theorem ff_X3_23 : jFd RX3 23 3 2 false := ⟨RX3, TX3, 5, rfl, by decide, rfl, lay_X3, fl_X3_23⟩
theorem ff_X3_26 : jFd RX3 26 3 3 false := ⟨RX3, TX3, 5, rfl, by decide, rfl, lay_X3, fl_X3_26⟩
theorem mm_X3_53 : jLk RX3 53 yX2_insert cX2_insert 3 none 2 := ⟨ml_X3_53, ini_X2, cd_yX2_insert, by decide +kernel⟩
theorem mm_X3_42 : jLk RX3 42 yX2_count cX2_count 1 (some FieldType.int) 0 := ⟨ml_X3_42, ini_X2, cd_yX2_count, by decide +kernel⟩
theorem mm_X3_56 : jLk RX3 56 yX2_set cX2_set 3 none 2 := ⟨ml_X3_56, ini_X2, cd_yX2_set, by decide +kernel⟩
theorem ff_X3_34 : jFd RX3 34 3 4 false := ⟨RX3, TX3, 5, rfl, by decide, rfl, lay_X3, fl_X3_34⟩
theorem mm_X3_63 : jLk RX3 63 yX1_isSame cX1_isSame 7 (some FieldType.boolean) 4 := ⟨ml_X3_63, ini_X1, cd_yX1_isSame, by decide +kernel⟩
theorem mm_X3_62 : jLk RX3 62 yX1_count cX1_count 1 (some FieldType.int) 0 := ⟨ml_X3_62, ini_X1, cd_yX1_count, by decide +kernel⟩
theorem mm_X3_70 : jLk RX3 70 yX1_cut cX1_cut 1 none 0 := ⟨ml_X3_70, ini_X1, cd_yX1_cut, by decide +kernel⟩
theorem mm_X3_67 : jLk RX3 67 yX1_add cX1_add 2 none 1 := ⟨ml_X3_67, ini_X1, cd_yX1_add, by decide +kernel⟩
theorem mm_X3_73 : jLk RX3 73 yX1_drop cX1_drop 5 none 1 := ⟨ml_X3_73, ini_X1, cd_yX1_drop, by decide +kernel⟩
theorem mm_X3_90 : jLk RX3 90 yX3_keyOf cX3_keyOf 6 (some FieldType.int) 3 := ⟨ml_X3_90, ini_X3, cd_yX3_keyOf, by decide +kernel⟩
theorem st_mmin : Cond.static Lib.Math.min.name ∈ gT := st_yJ9_min_7cf53
theorem cd_mmin : Cond.code Lib.Math.min.name Lib.Math.min.code 2 (some .int) ∈ gT := by decide +kernel
theorem ini_m : Cond.initialized "java/lang/Math" ∈ gT := by decide +kernel
theorem mm_X3_86 : jLk RX3 86 yX3_addCells cX3_addCells 8 (some FieldType.int) 5 := ⟨ml_X3_86, ini_X3, cd_yX3_addCells, by decide +kernel⟩
theorem mm_X3_76 : jLk RX3 76 yX3_placeOfException cX3_placeOfException 5 (some FieldType.int) 3 := ⟨ml_X3_76, ini_X3, cd_yX3_placeOfException, by decide +kernel⟩
theorem fp_X4_14 : jFp RX4 14 4 0 false true := ⟨RX4, TX4, 7, rfl, by decide, rfl, lay_X4, fl_X4_14, rfl, (fun _ => rfl), rfl, ⟨tyX4, tyX4_ok⟩, nmX4, tyX4 0, tyX4_ok 0 (by decide), (fun q => by cases q), (fun _ r => by cases r <;> exact ⟨rfl, rfl⟩)⟩
theorem fp_X4_20 : jFp RX4 20 4 1 false true := ⟨RX4, TX4, 7, rfl, by decide, rfl, lay_X4, fl_X4_20, rfl, (fun _ => rfl), rfl, ⟨tyX4, tyX4_ok⟩, nmX4, tyX4 1, tyX4_ok 1 (by decide), (fun q => by cases q), (fun _ r => by cases r <;> exact ⟨rfl, rfl⟩)⟩
theorem fp_X4_28 : jFp RX4 28 4 2 false true := ⟨RX4, TX4, 7, rfl, by decide, rfl, lay_X4, fl_X4_28, rfl, (fun _ => rfl), rfl, ⟨tyX4, tyX4_ok⟩, nmX4, tyX4 2, tyX4_ok 2 (by decide), (fun q => by cases q), (fun _ r => by cases r <;> exact ⟨rfl, rfl⟩)⟩
theorem fp_X4_32 : jFp RX4 32 4 3 false true := ⟨RX4, TX4, 7, rfl, by decide, rfl, lay_X4, fl_X4_32, rfl, (fun _ => rfl), rfl, ⟨tyX4, tyX4_ok⟩, nmX4, tyX4 3, tyX4_ok 3 (by decide), (fun q => by cases q), (fun _ r => by cases r <;> exact ⟨rfl, rfl⟩)⟩
theorem fp_X4_35 : jFp RX4 35 4 4 false true := ⟨RX4, TX4, 7, rfl, by decide, rfl, lay_X4, fl_X4_35, rfl, (fun _ => rfl), rfl, ⟨tyX4, tyX4_ok⟩, nmX4, tyX4 4, tyX4_ok 4 (by decide), (fun q => by cases q), (fun _ r => by cases r <;> exact ⟨rfl, rfl⟩)⟩
theorem fp_X4_38 : jFp RX4 38 4 5 false true := ⟨RX4, TX4, 7, rfl, by decide, rfl, lay_X4, fl_X4_38, rfl, (fun _ => rfl), rfl, ⟨tyX4, tyX4_ok⟩, nmX4, tyX4 5, tyX4_ok 5 (by decide), (fun q => by cases q), (fun _ r => by cases r <;> exact ⟨rfl, rfl⟩)⟩
theorem fp_X4_41 : jFp RX4 41 4 6 true false := ⟨RX4, TX4, 7, rfl, by decide, rfl, lay_X4, fl_X4_41, rfl, (fun q => by cases q), rfl, ⟨tyX4, tyX4_ok⟩, nmX4, tyX4 6, tyX4_ok 6 (by decide), (fun _ v => ⟨rfl, rfl⟩), (fun q => by cases q)⟩
theorem mm_X4_11 : jLk RX4 11 yX1_init cX1_init 3 none 2 := ⟨ml_X4_11, ini_X1, cd_yX1_init, by decide +kernel⟩
theorem mm_X4_25 : jLk RX4 25 yX2_init cX2_init 2 none 1 := ⟨ml_X4_25, ini_X2, cd_yX2_init, by decide +kernel⟩
theorem ff_X4_14 : jFd RX4 14 4 0 false := ⟨RX4, TX4, 7, rfl, by decide, rfl, lay_X4, fl_X4_14⟩
theorem ff_X4_28 : jFd RX4 28 4 2 false := ⟨RX4, TX4, 7, rfl, by decide, rfl, lay_X4, fl_X4_28⟩
theorem mm_X4_64 : jLk RX4 64 yX2_add cX2_add 2 none 1 := ⟨ml_X4_64, ini_X2, cd_yX2_add, by decide +kernel⟩
theorem mm_X4_63 : jLk RX4 63 yX1_count cX1_count 1 (some FieldType.int) 0 := ⟨ml_X4_63, ini_X1, cd_yX1_count, by decide +kernel⟩
theorem mm_X4_62 : jLk RX4 62 yX2_empty cX2_empty 1 none 0 := ⟨ml_X4_62, ini_X2, cd_yX2_empty, by decide +kernel⟩
theorem mm_X4_56 : jLk RX4 56 yX1_cut cX1_cut 1 none 0 := ⟨ml_X4_56, ini_X1, cd_yX1_cut, by decide +kernel⟩
theorem mm_X4_59 : jLk RX4 59 yX1_add cX1_add 2 none 1 := ⟨ml_X4_59, ini_X1, cd_yX1_add, by decide +kernel⟩
theorem mm_X4_52 : jLk RX4 52 yX2_get cX2_get 2 (some FieldType.int) 1 := ⟨ml_X4_52, ini_X2, cd_yX2_get, by decide +kernel⟩
theorem mm_X4_48 : jLk RX4 48 yX2_count cX2_count 1 (some FieldType.int) 0 := ⟨ml_X4_48, ini_X2, cd_yX2_count, by decide +kernel⟩
theorem mm_X4_45 : jLk RX4 45 yX1_empty cX1_empty 1 none 0 := ⟨ml_X4_45, ini_X1, cd_yX1_empty, by decide +kernel⟩
theorem mm_X4_113 : jLk RX4 113 yX2_set cX2_set 3 none 2 := ⟨ml_X4_113, ini_X2, cd_yX2_set, by decide +kernel⟩
theorem mm_X4_116 : jLk RX4 116 yX4_putMark cX4_putMark 4 none 3 := ⟨ml_X4_116, ini_X4, cd_yX4_putMark, by decide +kernel⟩
theorem ff_X4_20 : jFd RX4 20 4 1 false := ⟨RX4, TX4, 7, rfl, by decide, rfl, lay_X4, fl_X4_20⟩
theorem mm_X4_88 : jLk RX4 88 yX1_takeOver cX1_takeOver 2 none 1 := ⟨ml_X4_88, ini_X1, cd_yX1_takeOver, by decide +kernel⟩
theorem ff_X4_41 : jFd RX4 41 4 6 true := ⟨RX4, TX4, 7, rfl, by decide, rfl, lay_X4, fl_X4_41⟩
theorem mm_X4_85 : jLk RX4 85 yX4_unmark cX4_unmark 3 none 1 := ⟨ml_X4_85, ini_X4, cd_yX4_unmark, by decide +kernel⟩
theorem mm_X4_81 : jLk RX4 81 yX1_shares cX1_shares 3 (some FieldType.boolean) 2 := ⟨ml_X4_81, ini_X1, cd_yX1_shares, by decide +kernel⟩
theorem mm_X4_75 : jLk RX4 75 yX3_translate cX3_translate 11 none 5 := ⟨ml_X4_75, ini_X3, cd_yX3_translate, by decide +kernel⟩
theorem mm_X4_72 : jLk RX4 72 yX1_endOf cX1_endOf 2 (some FieldType.int) 1 := ⟨ml_X4_72, ini_X1, cd_yX1_endOf, by decide +kernel⟩
theorem mm_X4_69 : jLk RX4 69 yX1_startOf cX1_startOf 2 (some FieldType.int) 1 := ⟨ml_X4_69, ini_X1, cd_yX1_startOf, by decide +kernel⟩
theorem mm_X4_65 : jLk RX4 65 yX1_uncut cX1_uncut 1 (some (FieldType.object "Dotpress$Row")) 0 := ⟨ml_X4_65, ini_X1, cd_yX1_uncut, by decide +kernel⟩
theorem ff_X4_32 : jFd RX4 32 4 3 false := ⟨RX4, TX4, 7, rfl, by decide, rfl, lay_X4, fl_X4_32⟩
theorem mm_X4_98 : jLk RX4 98 yX1_uncutSize cX1_uncutSize 1 (some FieldType.int) 0 := ⟨ml_X4_98, ini_X1, cd_yX1_uncutSize, by decide +kernel⟩
theorem ff_X4_35 : jFd RX4 35 4 4 false := ⟨RX4, TX4, 7, rfl, by decide, rfl, lay_X4, fl_X4_35⟩
theorem mm_X4_101 : jLk RX4 101 yX1_get cX1_get 3 (some FieldType.int) 2 := ⟨ml_X4_101, ini_X1, cd_yX1_get, by decide +kernel⟩
theorem mm_X4_92 : jLk RX4 92 yX1_sizeOf cX1_sizeOf 2 (some FieldType.int) 1 := ⟨ml_X4_92, ini_X1, cd_yX1_sizeOf, by decide +kernel⟩
theorem mm_X4_95 : jLk RX4 95 yX4_beginWord cX4_beginWord 4 none 2 := ⟨ml_X4_95, ini_X4, cd_yX4_beginWord, by decide +kernel⟩
theorem ff_X4_38 : jFd RX4 38 4 5 false := ⟨RX4, TX4, 7, rfl, by decide, rfl, lay_X4, fl_X4_38⟩
theorem st_mmax : Cond.static Lib.Math.max.name ∈ gT := st_yJ9_max_7cf53
theorem cd_mmax : Cond.code Lib.Math.max.name Lib.Math.max.code 2 (some .int) ∈ gT := by decide +kernel
theorem mm_X4_109 : jLk RX4 109 yX4_isOther cX4_isOther 2 (some FieldType.boolean) 1 := ⟨ml_X4_109, ini_X4, cd_yX4_isOther, by decide +kernel⟩
theorem fp_X5_14 : jFp RX5 14 5 0 false true := ⟨RX5, TX5, 7, rfl, by decide, rfl, lay_X5, fl_X5_14, rfl, (fun _ => rfl), rfl, ⟨tyX5, tyX5_ok⟩, nmX5, tyX5 0, tyX5_ok 0 (by decide), (fun q => by cases q), (fun _ r => by cases r <;> exact ⟨rfl, rfl⟩)⟩
theorem fp_X5_21 : jFp RX5 21 5 1 false true := ⟨RX5, TX5, 7, rfl, by decide, rfl, lay_X5, fl_X5_21, rfl, (fun _ => rfl), rfl, ⟨tyX5, tyX5_ok⟩, nmX5, tyX5 1, tyX5_ok 1 (by decide), (fun q => by cases q), (fun _ r => by cases r <;> exact ⟨rfl, rfl⟩)⟩
theorem fp_X5_28 : jFp RX5 28 5 2 false true := ⟨RX5, TX5, 7, rfl, by decide, rfl, lay_X5, fl_X5_28, rfl, (fun _ => rfl), rfl, ⟨tyX5, tyX5_ok⟩, nmX5, tyX5 2, tyX5_ok 2 (by decide), (fun q => by cases q), (fun _ r => by cases r <;> exact ⟨rfl, rfl⟩)⟩
theorem fp_X5_34 : jFp RX5 34 5 3 false true := ⟨RX5, TX5, 7, rfl, by decide, rfl, lay_X5, fl_X5_34, rfl, (fun _ => rfl), rfl, ⟨tyX5, tyX5_ok⟩, nmX5, tyX5 3, tyX5_ok 3 (by decide), (fun q => by cases q), (fun _ r => by cases r <;> exact ⟨rfl, rfl⟩)⟩
theorem fp_X5_43 : jFp RX5 43 5 4 false true := ⟨RX5, TX5, 7, rfl, by decide, rfl, lay_X5, fl_X5_43, rfl, (fun _ => rfl), rfl, ⟨tyX5, tyX5_ok⟩, nmX5, tyX5 4, tyX5_ok 4 (by decide), (fun q => by cases q), (fun _ r => by cases r <;> exact ⟨rfl, rfl⟩)⟩
theorem fp_X5_47 : jFp RX5 47 5 5 true false := ⟨RX5, TX5, 7, rfl, by decide, rfl, lay_X5, fl_X5_47, rfl, (fun q => by cases q), rfl, ⟨tyX5, tyX5_ok⟩, nmX5, tyX5 5, tyX5_ok 5 (by decide), (fun _ v => ⟨rfl, rfl⟩), (fun q => by cases q)⟩
theorem fp_X5_51 : jFp RX5 51 5 6 true false := ⟨RX5, TX5, 7, rfl, by decide, rfl, lay_X5, fl_X5_51, rfl, (fun q => by cases q), rfl, ⟨tyX5, tyX5_ok⟩, nmX5, tyX5 6, tyX5_ok 6 (by decide), (fun _ v => ⟨rfl, rfl⟩), (fun q => by cases q)⟩
theorem mm_X5_40 : jLk RX5 40 yX1_init cX1_init 3 none 2 := ⟨ml_X5_40, ini_X1, cd_yX1_init, by decide +kernel⟩
theorem mm_X5_27 : jLk RX5 27 yX0_init cX0_init 2 none 0 := ⟨ml_X5_27, ini_X0, cd_yX0_init, by decide +kernel⟩
theorem nw_X0 : ∀ j, j < 3 → (jfb 0)[j]? = some (decide (defaultValue (tyX0 j) = .int 0)) ∧ (defaultValue (tyX0 j) ≠ .int 0 → defaultValue (tyX0 j) = .null) := by decide +kernel
theorem mn_X5_20_ : jLkN RX5 20 yX3_init cX3_init 1 none 0 := ⟨by decide +kernel, ini_X3, cd_yX3_init, by decide +kernel⟩
theorem nw_X3 : ∀ j, j < 5 → (jfb 3)[j]? = some (decide (defaultValue (tyX3 j) = .int 0)) ∧ (defaultValue (tyX3 j) ≠ .int 0 → defaultValue (tyX3 j) = .null) := by decide +kernel
theorem mm_X5_11 : jLk RX5 11 yX2_init cX2_init 2 none 1 := ⟨ml_X5_11, ini_X2, cd_yX2_init, by decide +kernel⟩
theorem ff_X5_14 : jFd RX5 14 5 0 false := ⟨RX5, TX5, 7, rfl, by decide, rfl, lay_X5, fl_X5_14⟩
theorem mm_X5_73 : jLk RX5 73 yX2_count cX2_count 1 (some FieldType.int) 0 := ⟨ml_X5_73, ini_X2, cd_yX2_count, by decide +kernel⟩
theorem mm_X5_70 : jLk RX5 70 yX2_add cX2_add 2 none 1 := ⟨ml_X5_70, ini_X2, cd_yX2_add, by decide +kernel⟩
theorem tha_X5_65 : (∀ w ∈ vx_atS RX5 69 "java/lang/IllegalStateException" ["java/lang/RuntimeException", "java/lang/Exception"], w ∈ gT ∨ (w ∈ jNt ∧ w.onTables = true)) ∧ (∀ w ∈ Cond.classLink RX5 65 "java/lang/IllegalStateException" :: Cond.initialized "java/lang/IllegalStateException" :: vx_atS RX5 69 "java/lang/IllegalStateException" ["java/lang/RuntimeException", "java/lang/Exception"], vx_ot w = true) := by decide +kernel
theorem th_X5_65_67 : jTh RX5 65 67 69 "java/lang/IllegalStateException" "the buffer is full" ["java/lang/RuntimeException", "java/lang/Exception"] := ⟨by decide +kernel, by decide +kernel, cl_X5_65, ini_IllegalStateException, by decide +kernel, tha_X5_65.1, tha_X5_65.2⟩
theorem mm_X5_61 : jLk RX5 61 yX2_isFull cX2_isFull 1 (some FieldType.boolean) 0 := ⟨ml_X5_61, ini_X2, cd_yX2_isFull, by decide +kernel⟩
theorem tha_X5_54 : (∀ w ∈ vx_atS RX5 58 "java/lang/IllegalArgumentException" ["java/lang/RuntimeException", "java/lang/Exception"], w ∈ gT ∨ (w ∈ jNt ∧ w.onTables = true)) ∧ (∀ w ∈ Cond.classLink RX5 54 "java/lang/IllegalArgumentException" :: Cond.initialized "java/lang/IllegalArgumentException" :: vx_atS RX5 58 "java/lang/IllegalArgumentException" ["java/lang/RuntimeException", "java/lang/Exception"], vx_ot w = true) := by decide +kernel
theorem th_X5_54_56 : jTh RX5 54 56 58 "java/lang/IllegalArgumentException" "neither a letter nor a blank" ["java/lang/RuntimeException", "java/lang/Exception"] := ⟨by decide +kernel, by decide +kernel, cl_X5_54, ini_IllegalArgumentException, by decide +kernel, tha_X5_54.1, tha_X5_54.2⟩
theorem mm_X5_77 : jLk RX5 77 yX2_empty cX2_empty 1 none 0 := ⟨ml_X5_77, ini_X2, cd_yX2_empty, by decide +kernel⟩
theorem mm_X5_286 : jLk RX5 286 yX3_keyOf cX3_keyOf 6 (some FieldType.int) 3 := ⟨ml_X5_286, ini_X3, cd_yX3_keyOf, by decide +kernel⟩
theorem mm_X5_138 : jLk RX5 138 yX2_placeOf cX2_placeOf 3 (some FieldType.int) 1 := ⟨ml_X5_138, ini_X2, cd_yX2_placeOf, by decide +kernel⟩
theorem mm_X5_159 : jLk RX5 159 yX5_isGrade cX5_isGrade 1 (some FieldType.boolean) 1 := ⟨ml_X5_159, ini_X5, cd_yX5_isGrade, by decide +kernel⟩
theorem ff_X5_34 : jFd RX5 34 5 3 false := ⟨RX5, TX5, 7, rfl, by decide, rfl, lay_X5, fl_X5_34⟩
theorem ff_X5_21 : jFd RX5 21 5 1 false := ⟨RX5, TX5, 7, rfl, by decide, rfl, lay_X5, fl_X5_21⟩
theorem ff_X5_43 : jFd RX5 43 5 4 false := ⟨RX5, TX5, 7, rfl, by decide, rfl, lay_X5, fl_X5_43⟩
theorem ff_X5_51 : jFd RX5 51 5 6 true := ⟨RX5, TX5, 7, rfl, by decide, rfl, lay_X5, fl_X5_51⟩
theorem mm_X5_173 : jLk RX5 173 yX4_lay cX4_lay 4 none 1 := ⟨ml_X5_173, ini_X4, cd_yX4_lay, by decide +kernel⟩
theorem mm_X5_169 : jLk RX5 169 yX4_translate cX4_translate 5 (some FieldType.boolean) 2 := ⟨ml_X5_169, ini_X4, cd_yX4_translate, by decide +kernel⟩
theorem th_X5_54_87 : jTh RX5 54 87 58 "java/lang/IllegalArgumentException" "not the numbers or the letters of a rule" ["java/lang/RuntimeException", "java/lang/Exception"] := ⟨by decide +kernel, by decide +kernel, cl_X5_54, ini_IllegalArgumentException, by decide +kernel, tha_X5_54.1, tha_X5_54.2⟩
theorem mm_X5_105 : jLk RX5 105 yX5_translateTexts cX5_translateTexts 6 (some FieldType.int) 0 := ⟨ml_X5_105, ini_X5, cd_yX5_translateTexts, by decide +kernel⟩
theorem mm_X5_101 : jLk RX5 101 yX3_insert cX3_insert 7 (some FieldType.int) 4 := ⟨ml_X5_101, ini_X3, cd_yX3_insert, by decide +kernel⟩
theorem tha_X5_96 : (∀ w ∈ vx_atS RX5 100 "java/lang/UnsupportedOperationException" ["java/lang/RuntimeException", "java/lang/Exception"], w ∈ gT ∨ (w ∈ jNt ∧ w.onTables = true)) ∧ (∀ w ∈ Cond.classLink RX5 96 "java/lang/UnsupportedOperationException" :: Cond.initialized "java/lang/UnsupportedOperationException" :: vx_atS RX5 100 "java/lang/UnsupportedOperationException" ["java/lang/RuntimeException", "java/lang/Exception"], vx_ot w = true) := by decide +kernel
theorem th_X5_96_98 : jTh RX5 96 98 100 "java/lang/UnsupportedOperationException" "there is a rule for these letters" ["java/lang/RuntimeException", "java/lang/Exception"] := ⟨by decide +kernel, by decide +kernel, cl_X5_96, ini_UnsupportedOperationException, by decide +kernel, tha_X5_96.1, tha_X5_96.2⟩
theorem mm_X5_92 : jLk RX5 92 yX3_placeOf cX3_placeOf 2 (some FieldType.int) 1 := ⟨ml_X5_92, ini_X3, cd_yX3_placeOf, by decide +kernel⟩
theorem th_X5_65_90 : jTh RX5 65 90 69 "java/lang/IllegalStateException" "no room for another rule" ["java/lang/RuntimeException", "java/lang/Exception"] := ⟨by decide +kernel, by decide +kernel, cl_X5_65, ini_IllegalStateException, by decide +kernel, tha_X5_65.1, tha_X5_65.2⟩
theorem mm_X5_89 : jLk RX5 89 yX3_isFull cX3_isFull 1 (some FieldType.boolean) 0 := ⟨ml_X5_89, ini_X3, cd_yX3_isFull, by decide +kernel⟩
theorem mm_X5_83 : jLk RX5 83 yX5_isRule cX5_isRule 3 (some FieldType.boolean) 3 := ⟨ml_X5_83, ini_X5, cd_yX5_isRule, by decide +kernel⟩
theorem mm_X5_80 : jLk RX5 80 yX5_typedKey cX5_typedKey 1 (some FieldType.int) 0 := ⟨ml_X5_80, ini_X5, cd_yX5_typedKey, by decide +kernel⟩
theorem mm_X5_115 : jLk RX5 115 yX3_alter cX3_alter 5 none 4 := ⟨ml_X5_115, ini_X3, cd_yX3_alter, by decide +kernel⟩
theorem tha_X5_110 : (∀ w ∈ (jO13 RX5 114 "java/util/NoSuchElementException" "java/lang/RuntimeException" ["java/lang/Exception"]).filter vx_no, w ∈ gT ∨ (w ∈ jNt ∧ w.onTables = true)) ∧ (∀ w ∈ Cond.classLink RX5 110 "java/util/NoSuchElementException" :: Cond.initialized "java/util/NoSuchElementException" :: (jO13 RX5 114 "java/util/NoSuchElementException" "java/lang/RuntimeException" ["java/lang/Exception"]).filter vx_no, vx_ot w = true) := by decide +kernel
theorem th_X5_110_112 : jTN RX5 110 112 114 "java/util/NoSuchElementException" "no rule for these letters" "java/lang/RuntimeException" ["java/lang/Exception"] := ⟨by decide +kernel, by decide +kernel, by decide +kernel, cl_X5_110, ini_NoSuchElementException, by decide +kernel, tha_X5_110.1, tha_X5_110.2⟩
theorem th_X5_54_108 : jTh RX5 54 108 58 "java/lang/IllegalArgumentException" "not the numbers of a rule" ["java/lang/RuntimeException", "java/lang/Exception"] := ⟨by decide +kernel, by decide +kernel, cl_X5_54, ini_IllegalArgumentException, by decide +kernel, tha_X5_54.1, tha_X5_54.2⟩
theorem th_X5_54_139 : jTh RX5 54 139 58 "java/lang/IllegalArgumentException" "not one word" ["java/lang/RuntimeException", "java/lang/Exception"] := ⟨by decide +kernel, by decide +kernel, cl_X5_54, ini_IllegalArgumentException, by decide +kernel, tha_X5_54.1, tha_X5_54.2⟩
theorem mm_X5_154 : jLk RX5 154 yX3_dropException cX3_dropException 2 none 1 := ⟨ml_X5_154, ini_X3, cd_yX3_dropException, by decide +kernel⟩
theorem mm_X5_150 : jLk RX5 150 yX3_addException cX3_addException 3 none 1 := ⟨ml_X5_150, ini_X3, cd_yX3_addException, by decide +kernel⟩
theorem th_X5_65_148 : jTh RX5 65 148 69 "java/lang/IllegalStateException" "no room for another exception" ["java/lang/RuntimeException", "java/lang/Exception"] := ⟨by decide +kernel, by decide +kernel, cl_X5_65, ini_IllegalStateException, by decide +kernel, tha_X5_65.1, tha_X5_65.2⟩
theorem mm_X5_145 : jLk RX5 145 yX3_isFullOfExceptions cX3_isFullOfExceptions 1 (some FieldType.boolean) 0 := ⟨ml_X5_145, ini_X3, cd_yX3_isFullOfExceptions, by decide +kernel⟩
theorem mm_X5_141 : jLk RX5 141 yX3_placeOfException cX3_placeOfException 5 (some FieldType.int) 3 := ⟨ml_X5_141, ini_X3, cd_yX3_placeOfException, by decide +kernel⟩
theorem tha_X5_123 : (∀ w ∈ vx_atS RX5 127 "java/lang/IndexOutOfBoundsException" ["java/lang/RuntimeException", "java/lang/Exception"], w ∈ gT ∨ (w ∈ jNt ∧ w.onTables = true)) ∧ (∀ w ∈ Cond.classLink RX5 123 "java/lang/IndexOutOfBoundsException" :: Cond.initialized "java/lang/IndexOutOfBoundsException" :: vx_atS RX5 127 "java/lang/IndexOutOfBoundsException" ["java/lang/RuntimeException", "java/lang/Exception"], vx_ot w = true) := by decide +kernel
theorem th_X5_123_157 : jTh RX5 123 157 127 "java/lang/IndexOutOfBoundsException" "neither a text nor the next new one" ["java/lang/RuntimeException", "java/lang/Exception"] := ⟨by decide +kernel, by decide +kernel, cl_X5_123, ini_IndexOutOfBoundsException, by decide +kernel, tha_X5_123.1, tha_X5_123.2⟩
theorem ff_X5_47 : jFd RX5 47 5 5 true := ⟨RX5, TX5, 7, rfl, by decide, rfl, lay_X5, fl_X5_47⟩
theorem mm_X5_176 : jLk RX5 176 yX4_wordCount cX4_wordCount 1 (some FieldType.int) 0 := ⟨ml_X5_176, ini_X4, cd_yX4_wordCount, by decide +kernel⟩
theorem mm_X5_165 : jLk RX5 165 yX4_take cX4_take 4 none 2 := ⟨ml_X5_165, ini_X4, cd_yX4_take, by decide +kernel⟩
theorem mn_X5_164_ : jLkN RX5 164 yX4_init cX4_init 1 none 0 := ⟨by decide +kernel, ini_X4, cd_yX4_init, by decide +kernel⟩
theorem nw_X4 : ∀ j, j < 7 → (jfb 4)[j]? = some (decide (defaultValue (tyX4 j) = .int 0)) ∧ (defaultValue (tyX4 j) ≠ .int 0 → defaultValue (tyX4 j) = .null) := by decide +kernel
theorem th_X5_54_162 : jTh RX5 54 162 58 "java/lang/IllegalArgumentException" "no such grade" ["java/lang/RuntimeException", "java/lang/Exception"] := ⟨by decide +kernel, by decide +kernel, cl_X5_54, ini_IllegalArgumentException, by decide +kernel, tha_X5_54.1, tha_X5_54.2⟩
theorem th_X5_54_179 : jTh RX5 54 179 58 "java/lang/IllegalArgumentException" "no such width" ["java/lang/RuntimeException", "java/lang/Exception"] := ⟨by decide +kernel, by decide +kernel, cl_X5_54, ini_IllegalArgumentException, by decide +kernel, tha_X5_54.1, tha_X5_54.2⟩
theorem th_X5_123_289 : jTh RX5 123 289 127 "java/lang/IndexOutOfBoundsException" "no such text" ["java/lang/RuntimeException", "java/lang/Exception"] := ⟨by decide +kernel, by decide +kernel, cl_X5_123, ini_IndexOutOfBoundsException, by decide +kernel, tha_X5_123.1, tha_X5_123.2⟩
theorem mm_X5_181 : jLk RX5 181 yX5_textNumbered cX5_textNumbered 3 (some (FieldType.object "Dotpress$Text")) 1 := ⟨ml_X5_181, ini_X5, cd_yX5_textNumbered, by decide +kernel⟩
theorem th_X5_123_291 : jTh RX5 123 291 127 "java/lang/IndexOutOfBoundsException" "no such word" ["java/lang/RuntimeException", "java/lang/Exception"] := ⟨by decide +kernel, by decide +kernel, cl_X5_123, ini_IndexOutOfBoundsException, by decide +kernel, tha_X5_123.1, tha_X5_123.2⟩
theorem mm_X5_189 : jLk RX5 189 yX4_cellCount cX4_cellCount 2 (some FieldType.int) 1 := ⟨ml_X5_189, ini_X4, cd_yX4_cellCount, by decide +kernel⟩
theorem mm_X5_185 : jLk RX5 185 yX5_textWithWord cX5_textWithWord 4 (some (FieldType.object "Dotpress$Text")) 2 := ⟨ml_X5_185, ini_X5, cd_yX5_textWithWord, by decide +kernel⟩
theorem th_X5_110_192 : jTN RX5 110 192 114 "java/util/NoSuchElementException" "no such cell of the word" "java/lang/RuntimeException" ["java/lang/Exception"] := ⟨by decide +kernel, by decide +kernel, by decide +kernel, cl_X5_110, ini_NoSuchElementException, by decide +kernel, tha_X5_110.1, tha_X5_110.2⟩
theorem mm_X5_194 : jLk RX5 194 yX4_cellAt cX4_cellAt 3 (some FieldType.int) 2 := ⟨ml_X5_194, ini_X4, cd_yX4_cellAt, by decide +kernel⟩
theorem mm_X5_197 : jLk RX5 197 yX4_lineCount cX4_lineCount 1 (some FieldType.int) 0 := ⟨ml_X5_197, ini_X4, cd_yX4_lineCount, by decide +kernel⟩
theorem th_X5_123_200 : jTh RX5 123 200 127 "java/lang/IndexOutOfBoundsException" "no such line" ["java/lang/RuntimeException", "java/lang/Exception"] := ⟨by decide +kernel, by decide +kernel, cl_X5_123, ini_IndexOutOfBoundsException, by decide +kernel, tha_X5_123.1, tha_X5_123.2⟩
theorem th_X5_110_205 : jTN RX5 110 205 114 "java/util/NoSuchElementException" "no such cell of the line" "java/lang/RuntimeException" ["java/lang/Exception"] := ⟨by decide +kernel, by decide +kernel, by decide +kernel, cl_X5_110, ini_NoSuchElementException, by decide +kernel, tha_X5_110.1, tha_X5_110.2⟩
theorem mm_X5_207 : jLk RX5 207 yX4_laidCellAt cX4_laidCellAt 3 (some FieldType.int) 2 := ⟨ml_X5_207, ini_X4, cd_yX4_laidCellAt, by decide +kernel⟩
theorem mm_X5_202 : jLk RX5 202 yX4_lineSize cX4_lineSize 2 (some FieldType.int) 1 := ⟨ml_X5_202, ini_X4, cd_yX4_lineSize, by decide +kernel⟩
theorem mm_X5_210 : jLk RX5 210 yX4_firstLineOf cX4_firstLineOf 2 (some FieldType.int) 1 := ⟨ml_X5_210, ini_X4, cd_yX4_firstLineOf, by decide +kernel⟩
theorem ff_X5_28 : jFd RX5 28 5 2 false := ⟨RX5, TX5, 7, rfl, by decide, rfl, lay_X5, fl_X5_28⟩
theorem mm_X5_293 : jLk RX5 293 yX0_planCell cX0_planCell 3 none 1 := ⟨ml_X5_293, ini_X0, cd_yX0_planCell, by decide +kernel⟩
theorem mm_X5_231 : jLk RX5 231 yX4_keepAsEmbossed cX4_keepAsEmbossed 1 none 0 := ⟨ml_X5_231, ini_X4, cd_yX4_keepAsEmbossed, by decide +kernel⟩
theorem mm_X5_228 : jLk RX5 228 yX0_strikePlan cX0_strikePlan 2 none 0 := ⟨ml_X5_228, ini_X0, cd_yX0_strikePlan, by decide +kernel⟩
theorem th_X5_65_226 : jTh RX5 65 226 69 "java/lang/IllegalStateException" "a pin would be struck more than it bears" ["java/lang/RuntimeException", "java/lang/Exception"] := ⟨by decide +kernel, by decide +kernel, cl_X5_65, ini_IllegalStateException, by decide +kernel, tha_X5_65.1, tha_X5_65.2⟩
theorem mm_X5_223 : jLk RX5 223 yX0_bearsPlan cX0_bearsPlan 2 (some FieldType.boolean) 0 := ⟨ml_X5_223, ini_X0, cd_yX0_bearsPlan, by decide +kernel⟩
theorem mm_X5_219 : jLk RX5 219 yX5_planLine cX5_planLine 4 none 2 := ⟨ml_X5_219, ini_X5, cd_yX5_planLine, by decide +kernel⟩
theorem mm_X5_216 : jLk RX5 216 yX4_isOther cX4_isOther 2 (some FieldType.boolean) 1 := ⟨ml_X5_216, ini_X4, cd_yX4_isOther, by decide +kernel⟩
theorem mm_X5_213 : jLk RX5 213 yX0_forgetPlan cX0_forgetPlan 2 none 0 := ⟨ml_X5_213, ini_X0, cd_yX0_forgetPlan, by decide +kernel⟩
theorem mm_X5_234 : jLk RX5 234 yX4_otherLineCount cX4_otherLineCount 3 (some FieldType.int) 0 := ⟨ml_X5_234, ini_X4, cd_yX4_otherLineCount, by decide +kernel⟩
theorem th_X5_54_237 : jTh RX5 54 237 58 "java/lang/IllegalArgumentException" "no such bearing" ["java/lang/RuntimeException", "java/lang/Exception"] := ⟨by decide +kernel, by decide +kernel, cl_X5_54, ini_IllegalArgumentException, by decide +kernel, tha_X5_54.1, tha_X5_54.2⟩
theorem mm_X5_239 : jLk RX5 239 yX0_changeBearing cX0_changeBearing 3 (some FieldType.int) 1 := ⟨ml_X5_239, ini_X0, cd_yX0_changeBearing, by decide +kernel⟩
theorem th_X5_123_242 : jTh RX5 123 242 127 "java/lang/IndexOutOfBoundsException" "no such pin" ["java/lang/RuntimeException", "java/lang/Exception"] := ⟨by decide +kernel, by decide +kernel, cl_X5_123, ini_IndexOutOfBoundsException, by decide +kernel, tha_X5_123.1, tha_X5_123.2⟩
theorem mm_X5_244 : jLk RX5 244 yX0_renewPin cX0_renewPin 3 (some FieldType.int) 1 := ⟨ml_X5_244, ini_X0, cd_yX0_renewPin, by decide +kernel⟩
theorem mm_X5_247 : jLk RX5 247 yX0_wearOf cX0_wearOf 2 (some FieldType.int) 1 := ⟨ml_X5_247, ini_X0, cd_yX0_wearOf, by decide +kernel⟩
theorem mm_X5_259 : jLk RX5 259 yX4_markBy cX4_markBy 3 (some FieldType.char) 2 := ⟨ml_X5_259, ini_X4, cd_yX4_markBy, by decide +kernel⟩
theorem mm_X5_255 : jLk RX5 255 yX4_putMark cX4_putMark 4 none 3 := ⟨ml_X5_255, ini_X4, cd_yX4_putMark, by decide +kernel⟩
theorem th_X5_123_253 : jTh RX5 123 253 127 "java/lang/IndexOutOfBoundsException" "no such reader" ["java/lang/RuntimeException", "java/lang/Exception"] := ⟨by decide +kernel, by decide +kernel, cl_X5_123, ini_IndexOutOfBoundsException, by decide +kernel, tha_X5_123.1, tha_X5_123.2⟩
theorem mm_X5_250 : jLk RX5 250 yX5_isReader cX5_isReader 1 (some FieldType.boolean) 1 := ⟨ml_X5_250, ini_X5, cd_yX5_isReader, by decide +kernel⟩
theorem mm_X5_283 : jLk RX5 283 yX3_isInOrder cX3_isInOrder 2 (some FieldType.boolean) 0 := ⟨ml_X5_283, ini_X3, cd_yX3_isInOrder, by decide +kernel⟩
theorem mm_X5_280 : jLk RX5 280 yX4_isWellLaid cX4_isWellLaid 5 (some FieldType.boolean) 1 := ⟨ml_X5_280, ini_X4, cd_yX4_isWellLaid, by decide +kernel⟩
theorem fp_J5_15 : jFp RJ5 15 6 0 false false := ⟨RJ4, TJ4, 4, rfl, by decide, rfl, lay_J4, fl_J5_15, rfl, (fun q => by cases q), rfl, ⟨tyJ4, tyJ4_ok⟩, nmJ4, tyJ4 0, tyJ4_ok 0 (by decide), (fun q => by cases q), (fun _ r => by cases r <;> exact ⟨rfl, rfl⟩)⟩
theorem fp_J5_22 : jFp0 RJ5 22 6 1 false := ⟨RJ4, TJ4, 4, rfl, by decide, rfl, lay_J4, fl_J5_22, rfl, (fun q => by cases q), rfl, ⟨tyJ4, tyJ4_ok⟩, nmJ4, tyJ4 1, tyJ4_ok 1 (by decide), ⟨rfl, rfl⟩⟩
theorem ff_J5_79 : jFd RJ5 79 6 3 true := ⟨RJ4, TJ4, 4, rfl, by decide, rfl, lay_J4, fl_J5_79⟩
theorem ff_J5_15 : jFd RJ5 15 6 0 false := ⟨RJ4, TJ4, 4, rfl, by decide, rfl, lay_J4, fl_J5_15⟩
theorem ff_J5_22 : jFd RJ5 22 6 1 true := ⟨RJ4, TJ4, 4, rfl, by decide, rfl, lay_J4, fl_J5_22⟩
theorem mm_J5_114 : jLk RJ5 114 yJ8_newLength_cabcc cJ8_newLength_cabcc 4 (some FieldType.int) 3 := ⟨ml_J5_114, ini_J8, cd_yJ8_newLength_cabcc, by decide +kernel⟩
theorem mm_J5_108 : jLk RJ5 108 yJ7_copyOf_9075b cJ7_copyOf_9075b 3 (some (FieldType.array FieldType.byte)) 2 := ⟨ml_J5_108, ini_J7, cd_yJ7_copyOf_9075b, by decide +kernel⟩
theorem mu_J5_104 : jLkU RJ5 104 RJ4 RJ5 yJ5_newCapacity_0f7a4 yJ5_newCapacity_0f7a4 cJ5_newCapacity_0f7a4 6 (some FieldType.int) 1 := ⟨ml_J5_104, sm_J5_yJ5_newCapacity_0f7a4, se_J4_yJ5_newCapacity_0f7a4, im_yJ5_newCapacity_0f7a4, ini_J5, cd_yJ5_newCapacity_0f7a4, ⟨cJ5_newCapacity_0f7a4, 6, (some FieldType.int), im_yJ5_newCapacity_0f7a4, cd_yJ5_newCapacity_0f7a4⟩, by decide +kernel, by decide +kernel⟩
theorem ff_J0_15 : jFd RJ0 15 7 1 true := ⟨RJ0, TJ0, 4, rfl, by decide, rfl, lay_J0, fl_J0_15⟩
theorem ff_J0_9 : jFd RJ0 9 7 0 false := ⟨RJ0, TJ0, 4, rfl, by decide, rfl, lay_J0, fl_J0_9⟩
theorem mm_J0_335 : jLk RJ0 335 yJ0_coder_7d493 cJ0_coder_7d493 1 (some FieldType.byte) 0 := ⟨ml_J0_335, ini_J0, cd_yJ0_coder_7d493, by decide +kernel⟩
theorem mm_J5_40 : jLk RJ5 40 yJ0_coder_7d493 cJ0_coder_7d493 1 (some FieldType.byte) 0 := ⟨ml_J5_40, ini_J0, cd_yJ0_coder_7d493, by decide +kernel⟩
theorem mm_J5_399 : jLk RJ5 399 yJ0_getBytes_840e7 cJ0_getBytes_840e7 4 none 3 := ⟨ml_J5_399, ini_J0, cd_yJ0_getBytes_840e7, by decide +kernel⟩
theorem mu_J5_397 : jLkU RJ5 397 RJ4 RJ5 yJ5_inflateIfNeededFor_a7421 yJ5_inflateIfNeededFor_a7421 cJ5_inflateIfNeededFor_a7421 2 none 1 := ⟨ml_J5_397, sm_J5_yJ5_inflateIfNeededFor_a7421, se_J4_yJ5_inflateIfNeededFor_a7421, im_yJ5_inflateIfNeededFor_a7421, ini_J5, cd_yJ5_inflateIfNeededFor_a7421, ⟨cJ5_inflateIfNeededFor_a7421, 2, none, im_yJ5_inflateIfNeededFor_a7421, cd_yJ5_inflateIfNeededFor_a7421⟩, by decide +kernel, by decide +kernel⟩
theorem fp_J5_79 : jFp RJ5 79 6 3 true false := ⟨RJ4, TJ4, 4, rfl, by decide, rfl, lay_J4, fl_J5_79, rfl, (fun q => by cases q), rfl, ⟨tyJ4, tyJ4_ok⟩, nmJ4, tyJ4 3, tyJ4_ok 3 (by decide), (fun _ v => ⟨rfl, rfl⟩), (fun q => by cases q)⟩
theorem mu_J5_208 : jLkU RJ5 208 RJ4 RJ5 yJ5_putStringAt_47b60 yJ5_putStringAt_47b60 cJ5_putStringAt_47b60 3 none 2 := ⟨ml_J5_208, sm_J5_yJ5_putStringAt_47b60, se_J4_yJ5_putStringAt_47b60, im_yJ5_putStringAt_47b60, ini_J5, cd_yJ5_putStringAt_47b60, ⟨cJ5_putStringAt_47b60, 3, none, im_yJ5_putStringAt_47b60, cd_yJ5_putStringAt_47b60⟩, by decide +kernel, by decide +kernel⟩
theorem mu_J5_100 : jLkU RJ5 100 RJ4 RJ5 yJ5_ensureCapacityInternal_d00df yJ5_ensureCapacityInternal_d00df cJ5_ensureCapacityInternal_d00df 3 none 1 := ⟨ml_J5_100, sm_J5_yJ5_ensureCapacityInternal_d00df, se_J4_yJ5_ensureCapacityInternal_d00df, im_yJ5_ensureCapacityInternal_d00df, ini_J5, cd_yJ5_ensureCapacityInternal_d00df, ⟨cJ5_ensureCapacityInternal_d00df, 3, none, im_yJ5_ensureCapacityInternal_d00df, cd_yJ5_ensureCapacityInternal_d00df⟩, by decide +kernel, by decide +kernel⟩
theorem mm_J5_32 : jLk RJ5 32 yJ0_length_8abf5 cJ0_length_8abf5 1 (some FieldType.int) 0 := ⟨ml_J5_32, ini_J0, cd_yJ0_length_8abf5, by decide +kernel⟩
theorem mm_J5_191 : jLk RJ5 191 yJ1_canEncode_fc78d cJ1_canEncode_fc78d 1 (some FieldType.boolean) 1 := ⟨ml_J5_191, ini_J1, cd_yJ1_canEncode_fc78d, by decide +kernel⟩
theorem mu_J5_83 : jLkU RJ5 83 RJ4 RJ5 yJ5_isLatin1_aae02 yJ5_isLatin1_aae02 cJ5_isLatin1_aae02 1 (some FieldType.boolean) 0 := ⟨ml_J5_83, sm_J5_yJ5_isLatin1_aae02, se_J4_yJ5_isLatin1_aae02, im_yJ5_isLatin1_aae02, ini_J5, cd_yJ5_isLatin1_aae02, ⟨cJ5_isLatin1_aae02, 1, (some FieldType.boolean), im_yJ5_isLatin1_aae02, cd_yJ5_isLatin1_aae02⟩, by decide +kernel, by decide +kernel⟩
theorem ms_J4_343 : jLkS RJ4 343 yJ5_length_8abf5 cJ5_length_8abf5 1 (some FieldType.int) 0 := ⟨ml_J4_343, sm_J5_yJ5_length_8abf5, su_J4, im_yJ5_length_8abf5, ini_J5, cd_yJ5_length_8abf5, by decide +kernel, by decide +kernel⟩
theorem mm_J7_343 : jLk RJ7 343 yJ7_checkLength_df160 cJ7_checkLength_df160 2 none 2 := ⟨ml_J7_343, ini_J7, cd_yJ7_checkLength_df160, by decide +kernel⟩
theorem mm_J7_339 : jLk RJ7 339 yJ7_copyOfRangeByte_39247 cJ7_copyOfRangeByte_39247 5 (some (FieldType.array FieldType.byte)) 3 := ⟨ml_J7_339, ini_J7, cd_yJ7_copyOfRangeByte_39247, by decide +kernel⟩
theorem fp_J0_15 : jFp0 RJ0 15 7 1 true := ⟨RJ0, TJ0, 4, rfl, by decide, rfl, lay_J0, fl_J0_15, rfl, (fun _ => rfl), rfl, ⟨tyJ0, tyJ0_ok⟩, nmJ0, tyJ0 1, tyJ0_ok 1 (by decide), ⟨rfl, rfl⟩⟩
theorem fp_J0_9 : jFp RJ0 9 7 0 false true := ⟨RJ0, TJ0, 4, rfl, by decide, rfl, lay_J0, fl_J0_9, rfl, (fun _ => rfl), rfl, ⟨tyJ0, tyJ0_ok⟩, nmJ0, tyJ0 0, tyJ0_ok 0 (by decide), (fun q => by cases q), (fun _ r => by cases r <;> exact ⟨rfl, rfl⟩)⟩
theorem mm_J0_54 : jLk RJ0 54 yJ7_copyOfRange_39247 cJ7_copyOfRange_39247 3 (some (FieldType.array FieldType.byte)) 3 := ⟨ml_J0_54, ini_J7, cd_yJ7_copyOfRange_39247, by decide +kernel⟩
theorem mu_J0_1047 : jLkU RJ0 1047 RJ4 RJ5 yJ5_isLatin1_aae02 yJ5_isLatin1_aae02 cJ5_isLatin1_aae02 1 (some FieldType.boolean) 0 := ⟨ml_J0_1047, sm_J5_yJ5_isLatin1_aae02, se_J4_yJ5_isLatin1_aae02, im_yJ5_isLatin1_aae02, ini_J5, cd_yJ5_isLatin1_aae02, ⟨cJ5_isLatin1_aae02, 1, (some FieldType.boolean), im_yJ5_isLatin1_aae02, cd_yJ5_isLatin1_aae02⟩, by decide +kernel, by decide +kernel⟩
theorem mu_J0_549 : jLkU RJ0 549 RJ4 RJ5 yJ5_length_8abf5 yJ4_length_8abf5 cJ4_length_8abf5 1 (some FieldType.int) 0 := ⟨ml_J0_549, sm_J5_yJ5_length_8abf5, se_J4_yJ5_length_8abf5, im_yJ4_length_8abf5, ini_J4, cd_yJ4_length_8abf5, ⟨cJ5_length_8abf5, 1, (some FieldType.int), im_yJ5_length_8abf5, cd_yJ5_length_8abf5⟩, by decide +kernel, by decide +kernel⟩
theorem mu_J0_552 : jLkU RJ0 552 RJ4 RJ5 yJ5_getValue_6d5f1 yJ5_getValue_6d5f1 cJ5_getValue_6d5f1 1 (some (FieldType.array FieldType.byte)) 0 := ⟨ml_J0_552, sm_J5_yJ5_getValue_6d5f1, se_J4_yJ5_getValue_6d5f1, im_yJ5_getValue_6d5f1, ini_J5, cd_yJ5_getValue_6d5f1, ⟨cJ5_getValue_6d5f1, 1, (some (FieldType.array FieldType.byte)), im_yJ5_getValue_6d5f1, cd_yJ5_getValue_6d5f1⟩, by decide +kernel, by decide +kernel⟩
theorem mm_J0_489 : jLk RJ0 489 yJ0_init_db425 cJ0_init_db425 5 none 2 := ⟨ml_J0_489, ini_J0, cd_yJ0_init_db425, by decide +kernel⟩
theorem mm_J0_1059 : jLk RJ0 1059 yJ3_checkIndex_8e157 cJ3_checkIndex_8e157 3 (some FieldType.int) 3 := ⟨ml_J0_1059, ini_J3, cd_yJ3_checkIndex_8e157, by decide +kernel⟩
theorem mm_J1_9 : jLk RJ1 9 yJ0_checkIndex_df160 cJ0_checkIndex_df160 2 none 2 := ⟨ml_J1_9, ini_J0, cd_yJ0_checkIndex_df160, by decide +kernel⟩
theorem mm_J0_495 : jLk RJ0 495 yJ1_charAt_3b067 cJ1_charAt_3b067 2 (some FieldType.char) 2 := ⟨ml_J0_495, ini_J1, cd_yJ1_charAt_3b067, by decide +kernel⟩
theorem mm_J0_492 : jLk RJ0 492 yJ0_isLatin1_aae02 cJ0_isLatin1_aae02 1 (some FieldType.boolean) 0 := ⟨ml_J0_492, ini_J0, cd_yJ0_isLatin1_aae02, by decide +kernel⟩
theorem mm_J4_1 : jLk RJ4 1 yJ5_init_d00df cJ5_init_d00df 2 none 1 := ⟨ml_J4_1, ini_J5, cd_yJ5_init_d00df, by decide +kernel⟩
theorem ms_J4_29 : jLkS RJ4 29 yJ5_append_cf1ce cJ5_append_cf1ce 3 (some (FieldType.object "java/lang/AbstractStringBuilder")) 1 := ⟨ml_J4_29, sm_J5_yJ5_append_cf1ce, su_J4, im_yJ5_append_cf1ce, ini_J5, cd_yJ5_append_cf1ce, by decide +kernel, by decide +kernel⟩
theorem ms_J4_50 : jLkS RJ4 50 yJ5_append_3fe6f cJ5_append_3fe6f 2 (some (FieldType.object "java/lang/AbstractStringBuilder")) 1 := ⟨ml_J4_50, sm_J5_yJ5_append_3fe6f, su_J4, im_yJ5_append_3fe6f, ini_J5, cd_yJ5_append_3fe6f, by decide +kernel, by decide +kernel⟩
theorem mm_J4_137 : jLk RJ4 137 yJ0_init_81219 cJ0_init_81219 2 none 1 := ⟨ml_J4_137, ini_J0, cd_yJ0_init_81219, by decide +kernel⟩
theorem nw_J0 : ∀ j, j < 4 → (jfb 7)[j]? = some (decide (defaultValue (tyJ0 j) = .int 0)) ∧ (defaultValue (tyJ0 j) ≠ .int 0 → defaultValue (tyJ0 j) = .null) := by decide +kernel
theorem mm_L_29 : jLk RL 29 yX5_type cX5_type 2 (some FieldType.int) 1 := ⟨ml_L_29, ini_X5, cd_yX5_type, by decide +kernel⟩
theorem mm_L_23 : jLk RL 23 yJ0_charAt_5068e cJ0_charAt_5068e 2 (some FieldType.char) 1 := ⟨ml_L_23, ini_J0, cd_yJ0_charAt_5068e, by decide +kernel⟩
theorem mm_L_15 : jLk RL 15 yL_low cL_low 2 (some FieldType.int) 2 := ⟨ml_L_15, ini_L, cd_yL_low, by decide +kernel⟩
theorem mm_L_9 : jLk RL 9 yX5_clear cX5_clear 2 (some FieldType.int) 0 := ⟨ml_L_9, ini_X5, cd_yX5_clear, by decide +kernel⟩
theorem mm_L_69 : jLk RL 69 yJ4_toString_0e30d cJ4_toString_0e30d 1 (some (FieldType.object "java/lang/String")) 0 := ⟨ml_L_69, ini_J4, cd_yJ4_toString_0e30d, by decide +kernel⟩
theorem mm_L_66 : jLk RL 66 yJ4_append_cf468 cJ4_append_cf468 2 (some (FieldType.object "java/lang/StringBuilder")) 1 := ⟨ml_L_66, ini_J4, cd_yJ4_append_cf468, by decide +kernel⟩
theorem mm_L_63 : jLk RL 63 yX5_lineAt cX5_lineAt 5 (some FieldType.int) 3 := ⟨ml_L_63, ini_X5, cd_yX5_lineAt, by decide +kernel⟩
theorem mm_L_59 : jLk RL 59 yJ4_append_15ec4 cJ4_append_15ec4 2 (some (FieldType.object "java/lang/StringBuilder")) 1 := ⟨ml_L_59, ini_J4, cd_yJ4_append_15ec4, by decide +kernel⟩
theorem mm_L_58 : jLk RL 58 yJ4_init_da8c8 cJ4_init_da8c8 1 none 0 := ⟨ml_L_58, ini_J4, cd_yJ4_init_da8c8, by decide +kernel⟩
theorem nw_J4 : ∀ j, j < 4 → (jfb 6)[j]? = some (decide (defaultValue (tyJ4 j) = .int 0)) ∧ (defaultValue (tyJ4 j) ≠ .int 0 → defaultValue (tyJ4 j) = .null) := by decide +kernel
theorem mm_L_76 : jLk RL 76 yX5_cellOf cX5_cellOf 5 (some FieldType.int) 3 := ⟨ml_L_76, ini_X5, cd_yX5_cellOf, by decide +kernel⟩
theorem mm_L_73 : jLk RL 73 yX5_length cX5_length 3 (some FieldType.int) 2 := ⟨ml_L_73, ini_X5, cd_yX5_length, by decide +kernel⟩
theorem mm_L_79 : jLk RL 79 yJ0_length_8abf5 cJ0_length_8abf5 1 (some FieldType.int) 0 := ⟨ml_L_79, ini_J0, cd_yJ0_length_8abf5, by decide +kernel⟩
def Nv800000 : Nat := 800000
def Nv402000000 : Nat := 402000000
def Nv4008 : Nat := 4008
def Nv1200000 : Nat := 1200000
def Nv801600000 : Nat := 801600000
theorem mm_L_84 : jLkH RL 84 yL_line cL_line 5 (some (FieldType.object "java/lang/String")) [(3, 47, 48, 44)] 3 := ⟨ml_L_84, ini_L, cw_yL_line, by decide +kernel⟩
theorem mm_L_81 : jLk RL 81 yX5_lines cX5_lines 2 (some FieldType.int) 1 := ⟨ml_L_81, ini_X5, cd_yX5_lines, by decide +kernel⟩
def Nv1100000 : Nat := 1100000
def Nv403800000 : Nat := 403800000
theorem mm_L_94 : jLk RL 94 yX5_lineOf cX5_lineOf 3 (some FieldType.int) 2 := ⟨ml_L_94, ini_X5, cd_yX5_lineOf, by decide +kernel⟩
theorem mm_L_91 : jLk RL 91 yL_word cL_word 5 (some (FieldType.object "java/lang/String")) 3 := ⟨ml_L_91, ini_L, cd_yL_word, by decide +kernel⟩
theorem mm_L_88 : jLk RL 88 yX5_words cX5_words 2 (some FieldType.int) 1 := ⟨ml_L_88, ini_X5, cd_yX5_words, by decide +kernel⟩
theorem mm_L_97 : jLk RL 97 yL_areAlike cL_areAlike 4 (some FieldType.boolean) 2 := ⟨ml_L_97, ini_L, cd_yL_areAlike, by decide +kernel⟩
theorem mm_L_129 : jLk RL 129 yX5_setWidth cX5_setWidth 7 (some FieldType.int) 1 := ⟨ml_L_129, ini_X5, cd_yX5_setWidth, by decide +kernel⟩
theorem mm_L_142 : jLk RL 142 yX5_markOf cX5_markOf 4 (some FieldType.char) 3 := ⟨ml_L_142, ini_X5, cd_yX5_markOf, by decide +kernel⟩
def Nv110000400000 : Nat := 110000400000
def Nv40380002400000 : Nat := 40380002400000
def Nv11000040000100000 : Nat := 11000040000100000
def Nv4038000240000600000 : Nat := 4038000240000600000
def Nv310001200000 : Nat := 310001200000
def Nv160740404400000 : Nat := 160740404400000
theorem mm_L_164 : jLk RL 164 yL_isSet cL_isSet 9 (some FieldType.boolean) 3 := ⟨ml_L_164, ini_L, cd_yL_isSet, by decide +kernel⟩
def Nv42000160000000000 : Nat := 42000160000000000
def Nv20112040680000000000 : Nat := 20112040680000000000
theorem mm_L_160 : jLk RL 160 yL_acts cL_acts 9 (some FieldType.boolean) 4 := ⟨ml_L_160, ini_L, cd_yL_acts, by decide +kernel⟩
def Nv100000 : Nat := 100000
def Nv600000 : Nat := 600000
theorem mm_L_132 : jLk RL 132 yX5_setText cX5_setText 4 (some FieldType.int) 2 := ⟨ml_L_132, ini_X5, cd_yX5_setText, by decide +kernel⟩
theorem mm_L_115 : jLk RL 115 yL_types cL_types 9 none 4 := ⟨ml_L_115, ini_L, cd_yL_types, by decide +kernel⟩
theorem mm_L_153 : jLk RL 153 yL_cell cL_cell 2 (some FieldType.int) 2 := ⟨ml_L_153, ini_L, cd_yL_cell, by decide +kernel⟩
theorem mm_L_157 : jLk RL 157 yX5_setBearing cX5_setBearing 2 (some FieldType.int) 1 := ⟨ml_L_157, ini_X5, cd_yX5_setBearing, by decide +kernel⟩
theorem mm_L_150 : jLk RL 150 yX5_init cX5_init 1 none 0 := ⟨ml_L_150, ini_X5, cd_yX5_init, by decide +kernel⟩
theorem nw_X5 : ∀ j, j < 7 → (jfb 5)[j]? = some (decide (defaultValue (tyX5 j) = .int 0)) ∧ (defaultValue (tyX5 j) ≠ .int 0 → defaultValue (tyX5 j) = .null) := by decide +kernel
