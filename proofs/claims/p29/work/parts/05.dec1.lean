theorem dX0_init_0 : decode cX0_init 0 = .ok (.aload_n 0, 1) := by decide +kernel
theorem dX0_init_1 : decode cX0_init 1 = .ok (.invokespecial 3, 3) := by decide +kernel
theorem dX0_init_4 : decode cX0_init 4 = .ok (.aload_n 0, 1) := by decide +kernel
theorem dX0_init_5 : decode cX0_init 5 = .ok (.new 9, 3) := by decide +kernel
theorem dX0_init_8 : decode cX0_init 8 = .ok (.dup, 1) := by decide +kernel
theorem dX0_init_9 : decode cX0_init 9 = .ok (.bipush 6, 2) := by decide +kernel
theorem dX0_init_11 : decode cX0_init 11 = .ok (.invokespecial 11, 3) := by decide +kernel
theorem dX0_init_14 : decode cX0_init 14 = .ok (.putfield 14, 3) := by decide +kernel
theorem dX0_init_17 : decode cX0_init 17 = .ok (.aload_n 0, 1) := by decide +kernel
theorem dX0_init_18 : decode cX0_init 18 = .ok (.new 9, 3) := by decide +kernel
theorem dX0_init_21 : decode cX0_init 21 = .ok (.dup, 1) := by decide +kernel
theorem dX0_init_22 : decode cX0_init 22 = .ok (.bipush 6, 2) := by decide +kernel
theorem dX0_init_24 : decode cX0_init 24 = .ok (.invokespecial 11, 3) := by decide +kernel
theorem dX0_init_27 : decode cX0_init 27 = .ok (.putfield 20, 3) := by decide +kernel
theorem dX0_init_30 : decode cX0_init 30 = .ok (.aload_n 0, 1) := by decide +kernel
theorem dX0_init_31 : decode cX0_init 31 = .ok (.sipush 5000, 3) := by decide +kernel
theorem dX0_init_34 : decode cX0_init 34 = .ok (.putfield 23, 3) := by decide +kernel
theorem dX0_init_37 : decode cX0_init 37 = .ok (.iconst 0, 1) := by decide +kernel
theorem dX0_init_38 : decode cX0_init 38 = .ok (.istore_n 1, 1) := by decide +kernel
theorem dX0_init_39 : decode cX0_init 39 = .ok (.iload_n 1, 1) := by decide +kernel
theorem dX0_init_40 : decode cX0_init 40 = .ok (.bipush 6, 2) := by decide +kernel
theorem dX0_init_42 : decode cX0_init 42 = .ok (.if_icmp .ge 25, 3) := by decide +kernel
theorem dX0_init_45 : decode cX0_init 45 = .ok (.aload_n 0, 1) := by decide +kernel
theorem dX0_init_46 : decode cX0_init 46 = .ok (.getfield 14, 3) := by decide +kernel
theorem dX0_init_49 : decode cX0_init 49 = .ok (.iconst 0, 1) := by decide +kernel
theorem dX0_init_50 : decode cX0_init 50 = .ok (.invokevirtual 27, 3) := by decide +kernel
theorem dX0_init_53 : decode cX0_init 53 = .ok (.aload_n 0, 1) := by decide +kernel
theorem dX0_init_54 : decode cX0_init 54 = .ok (.getfield 20, 3) := by decide +kernel
theorem dX0_init_57 : decode cX0_init 57 = .ok (.iconst 0, 1) := by decide +kernel
theorem dX0_init_58 : decode cX0_init 58 = .ok (.invokevirtual 27, 3) := by decide +kernel
theorem dX0_init_61 : decode cX0_init 61 = .ok (.iinc 1 1, 3) := by decide +kernel
theorem dX0_init_64 : decode cX0_init 64 = .ok (.goto (-25), 3) := by decide +kernel
theorem dX0_init_67 : decode cX0_init 67 = .ok (.return_, 1) := by decide +kernel
theorem dX0_changeBearing_0 : decode cX0_changeBearing 0 = .ok (.aload_n 0, 1) := by decide +kernel
theorem dX0_changeBearing_1 : decode cX0_changeBearing 1 = .ok (.getfield 23, 3) := by decide +kernel
theorem dX0_changeBearing_4 : decode cX0_changeBearing 4 = .ok (.istore_n 2, 1) := by decide +kernel
theorem dX0_changeBearing_5 : decode cX0_changeBearing 5 = .ok (.aload_n 0, 1) := by decide +kernel
theorem dX0_changeBearing_6 : decode cX0_changeBearing 6 = .ok (.iload_n 1, 1) := by decide +kernel
theorem dX0_changeBearing_7 : decode cX0_changeBearing 7 = .ok (.putfield 23, 3) := by decide +kernel
theorem dX0_changeBearing_10 : decode cX0_changeBearing 10 = .ok (.iload_n 2, 1) := by decide +kernel
theorem dX0_changeBearing_11 : decode cX0_changeBearing 11 = .ok (.ireturn, 1) := by decide +kernel
theorem dX0_wearOf_0 : decode cX0_wearOf 0 = .ok (.aload_n 0, 1) := by decide +kernel
theorem dX0_wearOf_1 : decode cX0_wearOf 1 = .ok (.getfield 14, 3) := by decide +kernel
theorem dX0_wearOf_4 : decode cX0_wearOf 4 = .ok (.iload_n 1, 1) := by decide +kernel
theorem dX0_wearOf_5 : decode cX0_wearOf 5 = .ok (.iconst 1, 1) := by decide +kernel
theorem dX0_wearOf_6 : decode cX0_wearOf 6 = .ok (.isub, 1) := by decide +kernel
theorem dX0_wearOf_7 : decode cX0_wearOf 7 = .ok (.invokevirtual 30, 3) := by decide +kernel
theorem dX0_wearOf_10 : decode cX0_wearOf 10 = .ok (.ireturn, 1) := by decide +kernel
theorem dX0_renewPin_0 : decode cX0_renewPin 0 = .ok (.aload_n 0, 1) := by decide +kernel
theorem dX0_renewPin_1 : decode cX0_renewPin 1 = .ok (.iload_n 1, 1) := by decide +kernel
theorem dX0_renewPin_2 : decode cX0_renewPin 2 = .ok (.invokevirtual 34, 3) := by decide +kernel
theorem dX0_renewPin_5 : decode cX0_renewPin 5 = .ok (.istore_n 2, 1) := by decide +kernel
theorem dX0_renewPin_6 : decode cX0_renewPin 6 = .ok (.aload_n 0, 1) := by decide +kernel
theorem dX0_renewPin_7 : decode cX0_renewPin 7 = .ok (.getfield 14, 3) := by decide +kernel
theorem dX0_renewPin_10 : decode cX0_renewPin 10 = .ok (.iload_n 1, 1) := by decide +kernel
theorem dX0_renewPin_11 : decode cX0_renewPin 11 = .ok (.iconst 1, 1) := by decide +kernel
theorem dX0_renewPin_12 : decode cX0_renewPin 12 = .ok (.isub, 1) := by decide +kernel
theorem dX0_renewPin_13 : decode cX0_renewPin 13 = .ok (.iconst 0, 1) := by decide +kernel
theorem dX0_renewPin_14 : decode cX0_renewPin 14 = .ok (.invokevirtual 37, 3) := by decide +kernel
theorem dX0_renewPin_17 : decode cX0_renewPin 17 = .ok (.iload_n 2, 1) := by decide +kernel
theorem dX0_renewPin_18 : decode cX0_renewPin 18 = .ok (.ireturn, 1) := by decide +kernel
theorem dX0_forgetPlan_0 : decode cX0_forgetPlan 0 = .ok (.iconst 0, 1) := by decide +kernel
theorem dX0_forgetPlan_1 : decode cX0_forgetPlan 1 = .ok (.istore_n 1, 1) := by decide +kernel
theorem dX0_forgetPlan_2 : decode cX0_forgetPlan 2 = .ok (.iload_n 1, 1) := by decide +kernel
theorem dX0_forgetPlan_3 : decode cX0_forgetPlan 3 = .ok (.bipush 6, 2) := by decide +kernel
theorem dX0_forgetPlan_5 : decode cX0_forgetPlan 5 = .ok (.if_icmp .ge 18, 3) := by decide +kernel
theorem dX0_forgetPlan_8 : decode cX0_forgetPlan 8 = .ok (.aload_n 0, 1) := by decide +kernel
theorem dX0_forgetPlan_9 : decode cX0_forgetPlan 9 = .ok (.getfield 20, 3) := by decide +kernel
theorem dX0_forgetPlan_12 : decode cX0_forgetPlan 12 = .ok (.iload_n 1, 1) := by decide +kernel
theorem dX0_forgetPlan_13 : decode cX0_forgetPlan 13 = .ok (.iconst 0, 1) := by decide +kernel
theorem dX0_forgetPlan_14 : decode cX0_forgetPlan 14 = .ok (.invokevirtual 37, 3) := by decide +kernel
theorem dX0_forgetPlan_17 : decode cX0_forgetPlan 17 = .ok (.iinc 1 1, 3) := by decide +kernel
theorem dX0_forgetPlan_20 : decode cX0_forgetPlan 20 = .ok (.goto (-18), 3) := by decide +kernel
theorem dX0_forgetPlan_23 : decode cX0_forgetPlan 23 = .ok (.return_, 1) := by decide +kernel
theorem dX0_planCell_0 : decode cX0_planCell 0 = .ok (.iconst 0, 1) := by decide +kernel
theorem dX0_planCell_1 : decode cX0_planCell 1 = .ok (.istore_n 2, 1) := by decide +kernel
theorem dX0_planCell_2 : decode cX0_planCell 2 = .ok (.iload_n 2, 1) := by decide +kernel
theorem dX0_planCell_3 : decode cX0_planCell 3 = .ok (.bipush 6, 2) := by decide +kernel
theorem dX0_planCell_5 : decode cX0_planCell 5 = .ok (.if_icmp .ge 31, 3) := by decide +kernel
theorem dX0_planCell_8 : decode cX0_planCell 8 = .ok (.aload_n 0, 1) := by decide +kernel
theorem dX0_planCell_9 : decode cX0_planCell 9 = .ok (.getfield 20, 3) := by decide +kernel
theorem dX0_planCell_12 : decode cX0_planCell 12 = .ok (.iload_n 2, 1) := by decide +kernel
theorem dX0_planCell_13 : decode cX0_planCell 13 = .ok (.aload_n 0, 1) := by decide +kernel
theorem dX0_planCell_14 : decode cX0_planCell 14 = .ok (.getfield 20, 3) := by decide +kernel
theorem dX0_planCell_17 : decode cX0_planCell 17 = .ok (.iload_n 2, 1) := by decide +kernel
theorem dX0_planCell_18 : decode cX0_planCell 18 = .ok (.invokevirtual 30, 3) := by decide +kernel
theorem dX0_planCell_21 : decode cX0_planCell 21 = .ok (.iload_n 1, 1) := by decide +kernel
theorem dX0_planCell_22 : decode cX0_planCell 22 = .ok (.iload_n 2, 1) := by decide +kernel
theorem dX0_planCell_23 : decode cX0_planCell 23 = .ok (.ishr, 1) := by decide +kernel
theorem dX0_planCell_24 : decode cX0_planCell 24 = .ok (.iconst 1, 1) := by decide +kernel
theorem dX0_planCell_25 : decode cX0_planCell 25 = .ok (.iand, 1) := by decide +kernel
theorem dX0_planCell_26 : decode cX0_planCell 26 = .ok (.iadd, 1) := by decide +kernel
theorem dX0_planCell_27 : decode cX0_planCell 27 = .ok (.invokevirtual 37, 3) := by decide +kernel
theorem dX0_planCell_30 : decode cX0_planCell 30 = .ok (.iinc 2 1, 3) := by decide +kernel
theorem dX0_planCell_33 : decode cX0_planCell 33 = .ok (.goto (-31), 3) := by decide +kernel
theorem dX0_planCell_36 : decode cX0_planCell 36 = .ok (.return_, 1) := by decide +kernel
theorem dX0_bearsPlan_0 : decode cX0_bearsPlan 0 = .ok (.iconst 0, 1) := by decide +kernel
theorem dX0_bearsPlan_1 : decode cX0_bearsPlan 1 = .ok (.istore_n 1, 1) := by decide +kernel
theorem dX0_bearsPlan_2 : decode cX0_bearsPlan 2 = .ok (.iload_n 1, 1) := by decide +kernel
theorem dX0_bearsPlan_3 : decode cX0_bearsPlan 3 = .ok (.bipush 6, 2) := by decide +kernel
theorem dX0_bearsPlan_5 : decode cX0_bearsPlan 5 = .ok (.if_icmp .ge 46, 3) := by decide +kernel
theorem dX0_bearsPlan_8 : decode cX0_bearsPlan 8 = .ok (.aload_n 0, 1) := by decide +kernel
theorem dX0_bearsPlan_9 : decode cX0_bearsPlan 9 = .ok (.getfield 20, 3) := by decide +kernel
theorem dX0_bearsPlan_12 : decode cX0_bearsPlan 12 = .ok (.iload_n 1, 1) := by decide +kernel
theorem dX0_bearsPlan_13 : decode cX0_bearsPlan 13 = .ok (.invokevirtual 30, 3) := by decide +kernel
theorem dX0_bearsPlan_16 : decode cX0_bearsPlan 16 = .ok (.ifCond .le 29, 3) := by decide +kernel
theorem dX0_bearsPlan_19 : decode cX0_bearsPlan 19 = .ok (.aload_n 0, 1) := by decide +kernel
theorem dX0_bearsPlan_20 : decode cX0_bearsPlan 20 = .ok (.getfield 14, 3) := by decide +kernel
theorem dX0_bearsPlan_23 : decode cX0_bearsPlan 23 = .ok (.iload_n 1, 1) := by decide +kernel
theorem dX0_bearsPlan_24 : decode cX0_bearsPlan 24 = .ok (.invokevirtual 30, 3) := by decide +kernel
theorem dX0_bearsPlan_27 : decode cX0_bearsPlan 27 = .ok (.aload_n 0, 1) := by decide +kernel
theorem dX0_bearsPlan_28 : decode cX0_bearsPlan 28 = .ok (.getfield 20, 3) := by decide +kernel
theorem dX0_bearsPlan_31 : decode cX0_bearsPlan 31 = .ok (.iload_n 1, 1) := by decide +kernel
theorem dX0_bearsPlan_32 : decode cX0_bearsPlan 32 = .ok (.invokevirtual 30, 3) := by decide +kernel
theorem dX0_bearsPlan_35 : decode cX0_bearsPlan 35 = .ok (.iadd, 1) := by decide +kernel
theorem dX0_bearsPlan_36 : decode cX0_bearsPlan 36 = .ok (.aload_n 0, 1) := by decide +kernel
theorem dX0_bearsPlan_37 : decode cX0_bearsPlan 37 = .ok (.getfield 23, 3) := by decide +kernel
theorem dX0_bearsPlan_40 : decode cX0_bearsPlan 40 = .ok (.if_icmp .le 5, 3) := by decide +kernel
theorem dX0_bearsPlan_43 : decode cX0_bearsPlan 43 = .ok (.iconst 0, 1) := by decide +kernel
theorem dX0_bearsPlan_44 : decode cX0_bearsPlan 44 = .ok (.ireturn, 1) := by decide +kernel
theorem dX0_bearsPlan_45 : decode cX0_bearsPlan 45 = .ok (.iinc 1 1, 3) := by decide +kernel
theorem dX0_bearsPlan_48 : decode cX0_bearsPlan 48 = .ok (.goto (-46), 3) := by decide +kernel
theorem dX0_bearsPlan_51 : decode cX0_bearsPlan 51 = .ok (.iconst 1, 1) := by decide +kernel
theorem dX0_bearsPlan_52 : decode cX0_bearsPlan 52 = .ok (.ireturn, 1) := by decide +kernel
theorem dX0_strikePlan_0 : decode cX0_strikePlan 0 = .ok (.iconst 0, 1) := by decide +kernel
theorem dX0_strikePlan_1 : decode cX0_strikePlan 1 = .ok (.istore_n 1, 1) := by decide +kernel
theorem dX0_strikePlan_2 : decode cX0_strikePlan 2 = .ok (.iload_n 1, 1) := by decide +kernel
theorem dX0_strikePlan_3 : decode cX0_strikePlan 3 = .ok (.bipush 6, 2) := by decide +kernel
theorem dX0_strikePlan_5 : decode cX0_strikePlan 5 = .ok (.if_icmp .ge 34, 3) := by decide +kernel
theorem dX0_strikePlan_8 : decode cX0_strikePlan 8 = .ok (.aload_n 0, 1) := by decide +kernel
theorem dX0_strikePlan_9 : decode cX0_strikePlan 9 = .ok (.getfield 14, 3) := by decide +kernel
theorem dX0_strikePlan_12 : decode cX0_strikePlan 12 = .ok (.iload_n 1, 1) := by decide +kernel
theorem dX0_strikePlan_13 : decode cX0_strikePlan 13 = .ok (.aload_n 0, 1) := by decide +kernel
theorem dX0_strikePlan_14 : decode cX0_strikePlan 14 = .ok (.getfield 14, 3) := by decide +kernel
theorem dX0_strikePlan_17 : decode cX0_strikePlan 17 = .ok (.iload_n 1, 1) := by decide +kernel
theorem dX0_strikePlan_18 : decode cX0_strikePlan 18 = .ok (.invokevirtual 30, 3) := by decide +kernel
theorem dX0_strikePlan_21 : decode cX0_strikePlan 21 = .ok (.aload_n 0, 1) := by decide +kernel
theorem dX0_strikePlan_22 : decode cX0_strikePlan 22 = .ok (.getfield 20, 3) := by decide +kernel
theorem dX0_strikePlan_25 : decode cX0_strikePlan 25 = .ok (.iload_n 1, 1) := by decide +kernel
theorem dX0_strikePlan_26 : decode cX0_strikePlan 26 = .ok (.invokevirtual 30, 3) := by decide +kernel
theorem dX0_strikePlan_29 : decode cX0_strikePlan 29 = .ok (.iadd, 1) := by decide +kernel
theorem dX0_strikePlan_30 : decode cX0_strikePlan 30 = .ok (.invokevirtual 37, 3) := by decide +kernel
theorem dX0_strikePlan_33 : decode cX0_strikePlan 33 = .ok (.iinc 1 1, 3) := by decide +kernel
theorem dX0_strikePlan_36 : decode cX0_strikePlan 36 = .ok (.goto (-34), 3) := by decide +kernel
theorem dX0_strikePlan_39 : decode cX0_strikePlan 39 = .ok (.return_, 1) := by decide +kernel
theorem dX1_init_0 : decode cX1_init 0 = .ok (.aload_n 0, 1) := by decide +kernel
theorem dX1_init_1 : decode cX1_init 1 = .ok (.invokespecial 1, 3) := by decide +kernel
theorem dX1_init_4 : decode cX1_init 4 = .ok (.aload_n 0, 1) := by decide +kernel
theorem dX1_init_5 : decode cX1_init 5 = .ok (.new 7, 3) := by decide +kernel
theorem dX1_init_8 : decode cX1_init 8 = .ok (.dup, 1) := by decide +kernel
theorem dX1_init_9 : decode cX1_init 9 = .ok (.iload_n 2, 1) := by decide +kernel
theorem dX1_init_10 : decode cX1_init 10 = .ok (.invokespecial 9, 3) := by decide +kernel
theorem dX1_init_13 : decode cX1_init 13 = .ok (.putfield 12, 3) := by decide +kernel
theorem dX1_init_16 : decode cX1_init 16 = .ok (.aload_n 0, 1) := by decide +kernel
theorem dX1_init_17 : decode cX1_init 17 = .ok (.new 7, 3) := by decide +kernel
theorem dX1_init_20 : decode cX1_init 20 = .ok (.dup, 1) := by decide +kernel
theorem dX1_init_21 : decode cX1_init 21 = .ok (.iload_n 1, 1) := by decide +kernel
theorem dX1_init_22 : decode cX1_init 22 = .ok (.invokespecial 9, 3) := by decide +kernel
theorem dX1_init_25 : decode cX1_init 25 = .ok (.putfield 18, 3) := by decide +kernel
theorem dX1_init_28 : decode cX1_init 28 = .ok (.return_, 1) := by decide +kernel
theorem dX1_uncut_0 : decode cX1_uncut 0 = .ok (.aload_n 0, 1) := by decide +kernel
theorem dX1_uncut_1 : decode cX1_uncut 1 = .ok (.getfield 12, 3) := by decide +kernel
theorem dX1_uncut_4 : decode cX1_uncut 4 = .ok (.areturn, 1) := by decide +kernel
theorem dX1_count_0 : decode cX1_count 0 = .ok (.aload_n 0, 1) := by decide +kernel
theorem dX1_count_1 : decode cX1_count 1 = .ok (.getfield 18, 3) := by decide +kernel
theorem dX1_count_4 : decode cX1_count 4 = .ok (.invokevirtual 21, 3) := by decide +kernel
theorem dX1_count_7 : decode cX1_count 7 = .ok (.ireturn, 1) := by decide +kernel
theorem dX1_startOf_0 : decode cX1_startOf 0 = .ok (.iload_n 1, 1) := by decide +kernel
theorem dX1_startOf_1 : decode cX1_startOf 1 = .ok (.ifCond .ne 7, 3) := by decide +kernel
theorem dX1_startOf_4 : decode cX1_startOf 4 = .ok (.iconst 0, 1) := by decide +kernel
theorem dX1_startOf_5 : decode cX1_startOf 5 = .ok (.goto 13, 3) := by decide +kernel
theorem dX1_startOf_8 : decode cX1_startOf 8 = .ok (.aload_n 0, 1) := by decide +kernel
theorem dX1_startOf_9 : decode cX1_startOf 9 = .ok (.getfield 18, 3) := by decide +kernel
theorem dX1_startOf_12 : decode cX1_startOf 12 = .ok (.iload_n 1, 1) := by decide +kernel
theorem dX1_startOf_13 : decode cX1_startOf 13 = .ok (.iconst 1, 1) := by decide +kernel
theorem dX1_startOf_14 : decode cX1_startOf 14 = .ok (.isub, 1) := by decide +kernel
theorem dX1_startOf_15 : decode cX1_startOf 15 = .ok (.invokevirtual 25, 3) := by decide +kernel
theorem dX1_startOf_18 : decode cX1_startOf 18 = .ok (.ireturn, 1) := by decide +kernel
theorem dX1_endOf_0 : decode cX1_endOf 0 = .ok (.aload_n 0, 1) := by decide +kernel
theorem dX1_endOf_1 : decode cX1_endOf 1 = .ok (.getfield 18, 3) := by decide +kernel
theorem dX1_endOf_4 : decode cX1_endOf 4 = .ok (.iload_n 1, 1) := by decide +kernel
theorem dX1_endOf_5 : decode cX1_endOf 5 = .ok (.invokevirtual 25, 3) := by decide +kernel
theorem dX1_endOf_8 : decode cX1_endOf 8 = .ok (.ireturn, 1) := by decide +kernel
theorem dX1_sizeOf_0 : decode cX1_sizeOf 0 = .ok (.aload_n 0, 1) := by decide +kernel
theorem dX1_sizeOf_1 : decode cX1_sizeOf 1 = .ok (.iload_n 1, 1) := by decide +kernel
theorem dX1_sizeOf_2 : decode cX1_sizeOf 2 = .ok (.invokevirtual 29, 3) := by decide +kernel
theorem dX1_sizeOf_5 : decode cX1_sizeOf 5 = .ok (.aload_n 0, 1) := by decide +kernel
theorem dX1_sizeOf_6 : decode cX1_sizeOf 6 = .ok (.iload_n 1, 1) := by decide +kernel
theorem dX1_sizeOf_7 : decode cX1_sizeOf 7 = .ok (.invokevirtual 32, 3) := by decide +kernel
theorem dX1_sizeOf_10 : decode cX1_sizeOf 10 = .ok (.isub, 1) := by decide +kernel
theorem dX1_sizeOf_11 : decode cX1_sizeOf 11 = .ok (.ireturn, 1) := by decide +kernel
theorem dX1_get_0 : decode cX1_get 0 = .ok (.aload_n 0, 1) := by decide +kernel
theorem dX1_get_1 : decode cX1_get 1 = .ok (.getfield 12, 3) := by decide +kernel
theorem dX1_get_4 : decode cX1_get 4 = .ok (.aload_n 0, 1) := by decide +kernel
theorem dX1_get_5 : decode cX1_get 5 = .ok (.iload_n 1, 1) := by decide +kernel
theorem dX1_get_6 : decode cX1_get 6 = .ok (.invokevirtual 32, 3) := by decide +kernel
theorem dX1_get_9 : decode cX1_get 9 = .ok (.iload_n 2, 1) := by decide +kernel
theorem dX1_get_10 : decode cX1_get 10 = .ok (.iadd, 1) := by decide +kernel
theorem dX1_get_11 : decode cX1_get 11 = .ok (.invokevirtual 25, 3) := by decide +kernel
theorem dX1_get_14 : decode cX1_get 14 = .ok (.ireturn, 1) := by decide +kernel
theorem dX1_uncutSize_0 : decode cX1_uncutSize 0 = .ok (.aload_n 0, 1) := by decide +kernel
theorem dX1_uncutSize_1 : decode cX1_uncutSize 1 = .ok (.getfield 12, 3) := by decide +kernel
theorem dX1_uncutSize_4 : decode cX1_uncutSize 4 = .ok (.invokevirtual 21, 3) := by decide +kernel
theorem dX1_uncutSize_7 : decode cX1_uncutSize 7 = .ok (.aload_n 0, 1) := by decide +kernel
theorem dX1_uncutSize_8 : decode cX1_uncutSize 8 = .ok (.aload_n 0, 1) := by decide +kernel
theorem dX1_uncutSize_9 : decode cX1_uncutSize 9 = .ok (.invokevirtual 35, 3) := by decide +kernel
theorem dX1_uncutSize_12 : decode cX1_uncutSize 12 = .ok (.invokevirtual 32, 3) := by decide +kernel
theorem dX1_uncutSize_15 : decode cX1_uncutSize 15 = .ok (.isub, 1) := by decide +kernel
theorem dX1_uncutSize_16 : decode cX1_uncutSize 16 = .ok (.ireturn, 1) := by decide +kernel
theorem dX1_add_0 : decode cX1_add 0 = .ok (.aload_n 0, 1) := by decide +kernel
theorem dX1_add_1 : decode cX1_add 1 = .ok (.getfield 12, 3) := by decide +kernel
theorem dX1_add_4 : decode cX1_add 4 = .ok (.iload_n 1, 1) := by decide +kernel
theorem dX1_add_5 : decode cX1_add 5 = .ok (.invokevirtual 36, 3) := by decide +kernel
theorem dX1_add_8 : decode cX1_add 8 = .ok (.return_, 1) := by decide +kernel
theorem dX1_cut_0 : decode cX1_cut 0 = .ok (.aload_n 0, 1) := by decide +kernel
theorem dX1_cut_1 : decode cX1_cut 1 = .ok (.invokevirtual 39, 3) := by decide +kernel
theorem dX1_cut_4 : decode cX1_cut 4 = .ok (.ifCond .le 17, 3) := by decide +kernel
theorem dX1_cut_7 : decode cX1_cut 7 = .ok (.aload_n 0, 1) := by decide +kernel
theorem dX1_cut_8 : decode cX1_cut 8 = .ok (.getfield 18, 3) := by decide +kernel
theorem dX1_cut_11 : decode cX1_cut 11 = .ok (.aload_n 0, 1) := by decide +kernel
theorem dX1_cut_12 : decode cX1_cut 12 = .ok (.getfield 12, 3) := by decide +kernel
theorem dX1_cut_15 : decode cX1_cut 15 = .ok (.invokevirtual 21, 3) := by decide +kernel
theorem dX1_cut_18 : decode cX1_cut 18 = .ok (.invokevirtual 36, 3) := by decide +kernel
theorem dX1_cut_21 : decode cX1_cut 21 = .ok (.return_, 1) := by decide +kernel
theorem dX1_empty_0 : decode cX1_empty 0 = .ok (.aload_n 0, 1) := by decide +kernel
theorem dX1_empty_1 : decode cX1_empty 1 = .ok (.getfield 12, 3) := by decide +kernel
theorem dX1_empty_4 : decode cX1_empty 4 = .ok (.invokevirtual 42, 3) := by decide +kernel
theorem dX1_empty_7 : decode cX1_empty 7 = .ok (.aload_n 0, 1) := by decide +kernel
theorem dX1_empty_8 : decode cX1_empty 8 = .ok (.getfield 18, 3) := by decide +kernel
theorem dX1_empty_11 : decode cX1_empty 11 = .ok (.invokevirtual 42, 3) := by decide +kernel
theorem dX1_empty_14 : decode cX1_empty 14 = .ok (.return_, 1) := by decide +kernel
theorem dX1_drop_0 : decode cX1_drop 0 = .ok (.aload_n 0, 1) := by decide +kernel
theorem dX1_drop_1 : decode cX1_drop 1 = .ok (.iload_n 1, 1) := by decide +kernel
theorem dX1_drop_2 : decode cX1_drop 2 = .ok (.invokevirtual 32, 3) := by decide +kernel
theorem dX1_drop_5 : decode cX1_drop 5 = .ok (.istore_n 2, 1) := by decide +kernel
theorem dX1_drop_6 : decode cX1_drop 6 = .ok (.aload_n 0, 1) := by decide +kernel
theorem dX1_drop_7 : decode cX1_drop 7 = .ok (.iload_n 1, 1) := by decide +kernel
theorem dX1_drop_8 : decode cX1_drop 8 = .ok (.invokevirtual 45, 3) := by decide +kernel
theorem dX1_drop_11 : decode cX1_drop 11 = .ok (.istore_n 3, 1) := by decide +kernel
theorem dX1_drop_12 : decode cX1_drop 12 = .ok (.iconst 0, 1) := by decide +kernel
theorem dX1_drop_13 : decode cX1_drop 13 = .ok (.istore 4, 2) := by decide +kernel
theorem dX1_drop_15 : decode cX1_drop 15 = .ok (.iload 4, 2) := by decide +kernel
theorem dX1_drop_17 : decode cX1_drop 17 = .ok (.iload_n 3, 1) := by decide +kernel
theorem dX1_drop_18 : decode cX1_drop 18 = .ok (.if_icmp .ge 17, 3) := by decide +kernel
theorem dX1_drop_21 : decode cX1_drop 21 = .ok (.aload_n 0, 1) := by decide +kernel
theorem dX1_drop_22 : decode cX1_drop 22 = .ok (.getfield 12, 3) := by decide +kernel
theorem dX1_drop_25 : decode cX1_drop 25 = .ok (.iload_n 2, 1) := by decide +kernel
theorem dX1_drop_26 : decode cX1_drop 26 = .ok (.invokevirtual 48, 3) := by decide +kernel
theorem dX1_drop_29 : decode cX1_drop 29 = .ok (.iinc 4 1, 3) := by decide +kernel
theorem dX1_drop_32 : decode cX1_drop 32 = .ok (.goto (-17), 3) := by decide +kernel
theorem dX1_drop_35 : decode cX1_drop 35 = .ok (.aload_n 0, 1) := by decide +kernel
theorem dX1_drop_36 : decode cX1_drop 36 = .ok (.getfield 18, 3) := by decide +kernel
theorem dX1_drop_39 : decode cX1_drop 39 = .ok (.iload_n 1, 1) := by decide +kernel
theorem dX1_drop_40 : decode cX1_drop 40 = .ok (.invokevirtual 48, 3) := by decide +kernel
theorem dX1_drop_43 : decode cX1_drop 43 = .ok (.iload_n 1, 1) := by decide +kernel
theorem dX1_drop_44 : decode cX1_drop 44 = .ok (.istore 4, 2) := by decide +kernel
theorem dX1_drop_46 : decode cX1_drop 46 = .ok (.iload 4, 2) := by decide +kernel
theorem dX1_drop_48 : decode cX1_drop 48 = .ok (.aload_n 0, 1) := by decide +kernel
theorem dX1_drop_49 : decode cX1_drop 49 = .ok (.getfield 18, 3) := by decide +kernel
theorem dX1_drop_52 : decode cX1_drop 52 = .ok (.invokevirtual 21, 3) := by decide +kernel
theorem dX1_drop_55 : decode cX1_drop 55 = .ok (.if_icmp .ge 29, 3) := by decide +kernel
theorem dX1_drop_58 : decode cX1_drop 58 = .ok (.aload_n 0, 1) := by decide +kernel
theorem dX1_drop_59 : decode cX1_drop 59 = .ok (.getfield 18, 3) := by decide +kernel
theorem dX1_drop_62 : decode cX1_drop 62 = .ok (.iload 4, 2) := by decide +kernel
theorem dX1_drop_64 : decode cX1_drop 64 = .ok (.aload_n 0, 1) := by decide +kernel
theorem dX1_drop_65 : decode cX1_drop 65 = .ok (.getfield 18, 3) := by decide +kernel
theorem dX1_drop_68 : decode cX1_drop 68 = .ok (.iload 4, 2) := by decide +kernel
theorem dX1_drop_70 : decode cX1_drop 70 = .ok (.invokevirtual 25, 3) := by decide +kernel
theorem dX1_drop_73 : decode cX1_drop 73 = .ok (.iload_n 3, 1) := by decide +kernel
theorem dX1_drop_74 : decode cX1_drop 74 = .ok (.isub, 1) := by decide +kernel
theorem dX1_drop_75 : decode cX1_drop 75 = .ok (.invokevirtual 51, 3) := by decide +kernel
theorem dX1_drop_78 : decode cX1_drop 78 = .ok (.iinc 4 1, 3) := by decide +kernel
theorem dX1_drop_81 : decode cX1_drop 81 = .ok (.goto (-35), 3) := by decide +kernel
theorem dX1_drop_84 : decode cX1_drop 84 = .ok (.return_, 1) := by decide +kernel
theorem dX1_isSame_0 : decode cX1_isSame 0 = .ok (.aload_n 0, 1) := by decide +kernel
theorem dX1_isSame_1 : decode cX1_isSame 1 = .ok (.iload_n 1, 1) := by decide +kernel
theorem dX1_isSame_2 : decode cX1_isSame 2 = .ok (.invokevirtual 32, 3) := by decide +kernel
theorem dX1_isSame_5 : decode cX1_isSame 5 = .ok (.istore 5, 2) := by decide +kernel
theorem dX1_isSame_7 : decode cX1_isSame 7 = .ok (.aload_n 0, 1) := by decide +kernel
theorem dX1_isSame_8 : decode cX1_isSame 8 = .ok (.getfield 18, 3) := by decide +kernel
theorem dX1_isSame_11 : decode cX1_isSame 11 = .ok (.iload_n 1, 1) := by decide +kernel
theorem dX1_isSame_12 : decode cX1_isSame 12 = .ok (.invokevirtual 25, 3) := by decide +kernel
theorem dX1_isSame_15 : decode cX1_isSame 15 = .ok (.iload 5, 2) := by decide +kernel
theorem dX1_isSame_17 : decode cX1_isSame 17 = .ok (.isub, 1) := by decide +kernel
theorem dX1_isSame_18 : decode cX1_isSame 18 = .ok (.iload 4, 2) := by decide +kernel
theorem dX1_isSame_20 : decode cX1_isSame 20 = .ok (.iload_n 3, 1) := by decide +kernel
theorem dX1_isSame_21 : decode cX1_isSame 21 = .ok (.isub, 1) := by decide +kernel
theorem dX1_isSame_22 : decode cX1_isSame 22 = .ok (.if_icmp .eq 5, 3) := by decide +kernel
theorem dX1_isSame_25 : decode cX1_isSame 25 = .ok (.iconst 0, 1) := by decide +kernel
theorem dX1_isSame_26 : decode cX1_isSame 26 = .ok (.ireturn, 1) := by decide +kernel
theorem dX1_isSame_27 : decode cX1_isSame 27 = .ok (.iconst 0, 1) := by decide +kernel
theorem dX1_isSame_28 : decode cX1_isSame 28 = .ok (.istore 6, 2) := by decide +kernel
theorem dX1_isSame_30 : decode cX1_isSame 30 = .ok (.iload 6, 2) := by decide +kernel
theorem dX1_isSame_32 : decode cX1_isSame 32 = .ok (.iload 4, 2) := by decide +kernel
theorem dX1_isSame_34 : decode cX1_isSame 34 = .ok (.iload_n 3, 1) := by decide +kernel
theorem dX1_isSame_35 : decode cX1_isSame 35 = .ok (.isub, 1) := by decide +kernel
theorem dX1_isSame_36 : decode cX1_isSame 36 = .ok (.if_icmp .ge 34, 3) := by decide +kernel
theorem dX1_isSame_39 : decode cX1_isSame 39 = .ok (.aload_n 0, 1) := by decide +kernel
theorem dX1_isSame_40 : decode cX1_isSame 40 = .ok (.getfield 12, 3) := by decide +kernel
theorem dX1_isSame_43 : decode cX1_isSame 43 = .ok (.iload 5, 2) := by decide +kernel
theorem dX1_isSame_45 : decode cX1_isSame 45 = .ok (.iload 6, 2) := by decide +kernel
theorem dX1_isSame_47 : decode cX1_isSame 47 = .ok (.iadd, 1) := by decide +kernel
theorem dX1_isSame_48 : decode cX1_isSame 48 = .ok (.invokevirtual 25, 3) := by decide +kernel
theorem dX1_isSame_51 : decode cX1_isSame 51 = .ok (.aload_n 2, 1) := by decide +kernel
theorem dX1_isSame_52 : decode cX1_isSame 52 = .ok (.iload_n 3, 1) := by decide +kernel
theorem dX1_isSame_53 : decode cX1_isSame 53 = .ok (.iload 6, 2) := by decide +kernel
theorem dX1_isSame_55 : decode cX1_isSame 55 = .ok (.iadd, 1) := by decide +kernel
theorem dX1_isSame_56 : decode cX1_isSame 56 = .ok (.invokevirtual 25, 3) := by decide +kernel
theorem dX1_isSame_59 : decode cX1_isSame 59 = .ok (.if_icmp .eq 5, 3) := by decide +kernel
theorem dX1_isSame_62 : decode cX1_isSame 62 = .ok (.iconst 0, 1) := by decide +kernel
theorem dX1_isSame_63 : decode cX1_isSame 63 = .ok (.ireturn, 1) := by decide +kernel
theorem dX1_isSame_64 : decode cX1_isSame 64 = .ok (.iinc 6 1, 3) := by decide +kernel
theorem dX1_isSame_67 : decode cX1_isSame 67 = .ok (.goto (-37), 3) := by decide +kernel
theorem dX1_isSame_70 : decode cX1_isSame 70 = .ok (.iconst 1, 1) := by decide +kernel
theorem dX1_isSame_71 : decode cX1_isSame 71 = .ok (.ireturn, 1) := by decide +kernel
theorem dX1_shares_0 : decode cX1_shares 0 = .ok (.iload_n 1, 1) := by decide +kernel
theorem dX1_shares_1 : decode cX1_shares 1 = .ok (.aload_n 0, 1) := by decide +kernel
theorem dX1_shares_2 : decode cX1_shares 2 = .ok (.invokevirtual 35, 3) := by decide +kernel
theorem dX1_shares_5 : decode cX1_shares 5 = .ok (.if_icmp .ge 37, 3) := by decide +kernel
theorem dX1_shares_8 : decode cX1_shares 8 = .ok (.iload_n 1, 1) := by decide +kernel
theorem dX1_shares_9 : decode cX1_shares 9 = .ok (.aload_n 2, 1) := by decide +kernel
theorem dX1_shares_10 : decode cX1_shares 10 = .ok (.invokevirtual 35, 3) := by decide +kernel
theorem dX1_shares_13 : decode cX1_shares 13 = .ok (.if_icmp .ge 29, 3) := by decide +kernel
theorem dX1_shares_16 : decode cX1_shares 16 = .ok (.aload_n 0, 1) := by decide +kernel
theorem dX1_shares_17 : decode cX1_shares 17 = .ok (.iload_n 1, 1) := by decide +kernel
theorem dX1_shares_18 : decode cX1_shares 18 = .ok (.aload_n 2, 1) := by decide +kernel
theorem dX1_shares_19 : decode cX1_shares 19 = .ok (.getfield 12, 3) := by decide +kernel
theorem dX1_shares_22 : decode cX1_shares 22 = .ok (.aload_n 2, 1) := by decide +kernel
theorem dX1_shares_23 : decode cX1_shares 23 = .ok (.iload_n 1, 1) := by decide +kernel
theorem dX1_shares_24 : decode cX1_shares 24 = .ok (.invokevirtual 32, 3) := by decide +kernel
theorem dX1_shares_27 : decode cX1_shares 27 = .ok (.aload_n 2, 1) := by decide +kernel
theorem dX1_shares_28 : decode cX1_shares 28 = .ok (.iload_n 1, 1) := by decide +kernel
theorem dX1_shares_29 : decode cX1_shares 29 = .ok (.invokevirtual 29, 3) := by decide +kernel
theorem dX1_shares_32 : decode cX1_shares 32 = .ok (.invokevirtual 55, 3) := by decide +kernel
theorem dX1_shares_35 : decode cX1_shares 35 = .ok (.ifCond .eq 7, 3) := by decide +kernel
theorem dX1_shares_38 : decode cX1_shares 38 = .ok (.iconst 1, 1) := by decide +kernel
theorem dX1_shares_39 : decode cX1_shares 39 = .ok (.goto 4, 3) := by decide +kernel
theorem dX1_shares_42 : decode cX1_shares 42 = .ok (.iconst 0, 1) := by decide +kernel
theorem dX1_shares_43 : decode cX1_shares 43 = .ok (.ireturn, 1) := by decide +kernel
theorem dX1_takeOver_0 : decode cX1_takeOver 0 = .ok (.aload_n 0, 1) := by decide +kernel
theorem dX1_takeOver_1 : decode cX1_takeOver 1 = .ok (.getfield 12, 3) := by decide +kernel
theorem dX1_takeOver_4 : decode cX1_takeOver 4 = .ok (.aload_n 1, 1) := by decide +kernel
theorem dX1_takeOver_5 : decode cX1_takeOver 5 = .ok (.getfield 12, 3) := by decide +kernel
theorem dX1_takeOver_8 : decode cX1_takeOver 8 = .ok (.invokevirtual 59, 3) := by decide +kernel
theorem dX1_takeOver_11 : decode cX1_takeOver 11 = .ok (.aload_n 0, 1) := by decide +kernel
theorem dX1_takeOver_12 : decode cX1_takeOver 12 = .ok (.getfield 18, 3) := by decide +kernel
theorem dX1_takeOver_15 : decode cX1_takeOver 15 = .ok (.aload_n 1, 1) := by decide +kernel
theorem dX1_takeOver_16 : decode cX1_takeOver 16 = .ok (.getfield 18, 3) := by decide +kernel
theorem dX1_takeOver_19 : decode cX1_takeOver 19 = .ok (.invokevirtual 59, 3) := by decide +kernel
theorem dX1_takeOver_22 : decode cX1_takeOver 22 = .ok (.return_, 1) := by decide +kernel
theorem dX2_init_0 : decode cX2_init 0 = .ok (.aload_n 0, 1) := by decide +kernel
theorem dX2_init_1 : decode cX2_init 1 = .ok (.invokespecial 3, 3) := by decide +kernel
theorem dX2_init_4 : decode cX2_init 4 = .ok (.aload_n 0, 1) := by decide +kernel
theorem dX2_init_5 : decode cX2_init 5 = .ok (.iconst 0, 1) := by decide +kernel
theorem dX2_init_6 : decode cX2_init 6 = .ok (.putfield 9, 3) := by decide +kernel
theorem dX2_init_9 : decode cX2_init 9 = .ok (.aload_n 0, 1) := by decide +kernel
theorem dX2_init_10 : decode cX2_init 10 = .ok (.iload_n 1, 1) := by decide +kernel
theorem dX2_init_11 : decode cX2_init 11 = .ok (.ifCond .ge 7, 3) := by decide +kernel
theorem dX2_init_14 : decode cX2_init 14 = .ok (.iconst 0, 1) := by decide +kernel
theorem dX2_init_15 : decode cX2_init 15 = .ok (.goto 4, 3) := by decide +kernel
theorem dX2_init_18 : decode cX2_init 18 = .ok (.iload_n 1, 1) := by decide +kernel
theorem dX2_init_19 : decode cX2_init 19 = .ok (.newarray .int, 2) := by decide +kernel
theorem dX2_init_21 : decode cX2_init 21 = .ok (.putfield 15, 3) := by decide +kernel
theorem dX2_init_24 : decode cX2_init 24 = .ok (.return_, 1) := by decide +kernel
theorem dX2_count_0 : decode cX2_count 0 = .ok (.aload_n 0, 1) := by decide +kernel
theorem dX2_count_1 : decode cX2_count 1 = .ok (.getfield 9, 3) := by decide +kernel
theorem dX2_count_4 : decode cX2_count 4 = .ok (.ireturn, 1) := by decide +kernel
theorem dX2_isFull_0 : decode cX2_isFull 0 = .ok (.aload_n 0, 1) := by decide +kernel
theorem dX2_isFull_1 : decode cX2_isFull 1 = .ok (.getfield 9, 3) := by decide +kernel
theorem dX2_isFull_4 : decode cX2_isFull 4 = .ok (.aload_n 0, 1) := by decide +kernel
theorem dX2_isFull_5 : decode cX2_isFull 5 = .ok (.getfield 15, 3) := by decide +kernel
theorem dX2_isFull_8 : decode cX2_isFull 8 = .ok (.arraylength, 1) := by decide +kernel
theorem dX2_isFull_9 : decode cX2_isFull 9 = .ok (.if_icmp .lt 7, 3) := by decide +kernel
theorem dX2_isFull_12 : decode cX2_isFull 12 = .ok (.iconst 1, 1) := by decide +kernel
theorem dX2_isFull_13 : decode cX2_isFull 13 = .ok (.goto 4, 3) := by decide +kernel
theorem dX2_isFull_16 : decode cX2_isFull 16 = .ok (.iconst 0, 1) := by decide +kernel
theorem dX2_isFull_17 : decode cX2_isFull 17 = .ok (.ireturn, 1) := by decide +kernel
theorem dX2_get_0 : decode cX2_get 0 = .ok (.iload_n 1, 1) := by decide +kernel
theorem dX2_get_1 : decode cX2_get 1 = .ok (.ifCond .lt 11, 3) := by decide +kernel
theorem dX2_get_4 : decode cX2_get 4 = .ok (.iload_n 1, 1) := by decide +kernel
theorem dX2_get_5 : decode cX2_get 5 = .ok (.aload_n 0, 1) := by decide +kernel
theorem dX2_get_6 : decode cX2_get 6 = .ok (.getfield 9, 3) := by decide +kernel
theorem dX2_get_9 : decode cX2_get 9 = .ok (.if_icmp .lt 7, 3) := by decide +kernel
theorem dX2_get_12 : decode cX2_get 12 = .ok (.iconst 0, 1) := by decide +kernel
theorem dX2_get_13 : decode cX2_get 13 = .ok (.goto 9, 3) := by decide +kernel
theorem dX2_get_16 : decode cX2_get 16 = .ok (.aload_n 0, 1) := by decide +kernel
theorem dX2_get_17 : decode cX2_get 17 = .ok (.getfield 15, 3) := by decide +kernel
theorem dX2_get_20 : decode cX2_get 20 = .ok (.iload_n 1, 1) := by decide +kernel
theorem dX2_get_21 : decode cX2_get 21 = .ok (.iaload, 1) := by decide +kernel
theorem dX2_get_22 : decode cX2_get 22 = .ok (.ireturn, 1) := by decide +kernel
theorem dX2_set_0 : decode cX2_set 0 = .ok (.iload_n 1, 1) := by decide +kernel
theorem dX2_set_1 : decode cX2_set 1 = .ok (.ifCond .lt 18, 3) := by decide +kernel
theorem dX2_set_4 : decode cX2_set 4 = .ok (.iload_n 1, 1) := by decide +kernel
theorem dX2_set_5 : decode cX2_set 5 = .ok (.aload_n 0, 1) := by decide +kernel
theorem dX2_set_6 : decode cX2_set 6 = .ok (.getfield 9, 3) := by decide +kernel
theorem dX2_set_9 : decode cX2_set 9 = .ok (.if_icmp .ge 10, 3) := by decide +kernel
theorem dX2_set_12 : decode cX2_set 12 = .ok (.aload_n 0, 1) := by decide +kernel
theorem dX2_set_13 : decode cX2_set 13 = .ok (.getfield 15, 3) := by decide +kernel
theorem dX2_set_16 : decode cX2_set 16 = .ok (.iload_n 1, 1) := by decide +kernel
theorem dX2_set_17 : decode cX2_set 17 = .ok (.iload_n 2, 1) := by decide +kernel
theorem dX2_set_18 : decode cX2_set 18 = .ok (.iastore, 1) := by decide +kernel
theorem dX2_set_19 : decode cX2_set 19 = .ok (.return_, 1) := by decide +kernel
theorem dX2_add_0 : decode cX2_add 0 = .ok (.aload_n 0, 1) := by decide +kernel
theorem dX2_add_1 : decode cX2_add 1 = .ok (.getfield 9, 3) := by decide +kernel
theorem dX2_add_4 : decode cX2_add 4 = .ok (.aload_n 0, 1) := by decide +kernel
theorem dX2_add_5 : decode cX2_add 5 = .ok (.getfield 15, 3) := by decide +kernel
theorem dX2_add_8 : decode cX2_add 8 = .ok (.arraylength, 1) := by decide +kernel
theorem dX2_add_9 : decode cX2_add 9 = .ok (.if_icmp .ge 23, 3) := by decide +kernel
theorem dX2_add_12 : decode cX2_add 12 = .ok (.aload_n 0, 1) := by decide +kernel
theorem dX2_add_13 : decode cX2_add 13 = .ok (.getfield 15, 3) := by decide +kernel
theorem dX2_add_16 : decode cX2_add 16 = .ok (.aload_n 0, 1) := by decide +kernel
theorem dX2_add_17 : decode cX2_add 17 = .ok (.getfield 9, 3) := by decide +kernel
theorem dX2_add_20 : decode cX2_add 20 = .ok (.iload_n 1, 1) := by decide +kernel
theorem dX2_add_21 : decode cX2_add 21 = .ok (.iastore, 1) := by decide +kernel
theorem dX2_add_22 : decode cX2_add 22 = .ok (.aload_n 0, 1) := by decide +kernel
theorem dX2_add_23 : decode cX2_add 23 = .ok (.dup, 1) := by decide +kernel
theorem dX2_add_24 : decode cX2_add 24 = .ok (.getfield 9, 3) := by decide +kernel
theorem dX2_add_27 : decode cX2_add 27 = .ok (.iconst 1, 1) := by decide +kernel
theorem dX2_add_28 : decode cX2_add 28 = .ok (.iadd, 1) := by decide +kernel
theorem dX2_add_29 : decode cX2_add 29 = .ok (.putfield 9, 3) := by decide +kernel
theorem dX2_add_32 : decode cX2_add 32 = .ok (.return_, 1) := by decide +kernel
theorem dX2_insert_0 : decode cX2_insert 0 = .ok (.iload_n 1, 1) := by decide +kernel
theorem dX2_insert_1 : decode cX2_insert 1 = .ok (.ifCond .lt 61, 3) := by decide +kernel
theorem dX2_insert_4 : decode cX2_insert 4 = .ok (.iload_n 1, 1) := by decide +kernel
theorem dX2_insert_5 : decode cX2_insert 5 = .ok (.aload_n 0, 1) := by decide +kernel
theorem dX2_insert_6 : decode cX2_insert 6 = .ok (.getfield 9, 3) := by decide +kernel
theorem dX2_insert_9 : decode cX2_insert 9 = .ok (.if_icmp .gt 53, 3) := by decide +kernel
theorem dX2_insert_12 : decode cX2_insert 12 = .ok (.aload_n 0, 1) := by decide +kernel
theorem dX2_insert_13 : decode cX2_insert 13 = .ok (.getfield 9, 3) := by decide +kernel
theorem dX2_insert_16 : decode cX2_insert 16 = .ok (.aload_n 0, 1) := by decide +kernel
theorem dX2_insert_17 : decode cX2_insert 17 = .ok (.getfield 15, 3) := by decide +kernel
theorem dX2_insert_20 : decode cX2_insert 20 = .ok (.arraylength, 1) := by decide +kernel
theorem dX2_insert_21 : decode cX2_insert 21 = .ok (.if_icmp .ge 41, 3) := by decide +kernel
theorem dX2_insert_24 : decode cX2_insert 24 = .ok (.aload_n 0, 1) := by decide +kernel
theorem dX2_insert_25 : decode cX2_insert 25 = .ok (.getfield 15, 3) := by decide +kernel
theorem dX2_insert_28 : decode cX2_insert 28 = .ok (.iload_n 1, 1) := by decide +kernel
theorem dX2_insert_29 : decode cX2_insert 29 = .ok (.aload_n 0, 1) := by decide +kernel
theorem dX2_insert_30 : decode cX2_insert 30 = .ok (.getfield 15, 3) := by decide +kernel
theorem dX2_insert_33 : decode cX2_insert 33 = .ok (.iload_n 1, 1) := by decide +kernel
theorem dX2_insert_34 : decode cX2_insert 34 = .ok (.iconst 1, 1) := by decide +kernel
theorem dX2_insert_35 : decode cX2_insert 35 = .ok (.iadd, 1) := by decide +kernel
theorem dX2_insert_36 : decode cX2_insert 36 = .ok (.aload_n 0, 1) := by decide +kernel
theorem dX2_insert_37 : decode cX2_insert 37 = .ok (.getfield 9, 3) := by decide +kernel
theorem dX2_insert_40 : decode cX2_insert 40 = .ok (.iload_n 1, 1) := by decide +kernel
theorem dX2_insert_41 : decode cX2_insert 41 = .ok (.isub, 1) := by decide +kernel
theorem dX2_insert_42 : decode cX2_insert 42 = .ok (.invokestatic 19, 3) := by decide +kernel
theorem dX2_insert_45 : decode cX2_insert 45 = .ok (.aload_n 0, 1) := by decide +kernel
theorem dX2_insert_46 : decode cX2_insert 46 = .ok (.getfield 15, 3) := by decide +kernel
theorem dX2_insert_49 : decode cX2_insert 49 = .ok (.iload_n 1, 1) := by decide +kernel
theorem dX2_insert_50 : decode cX2_insert 50 = .ok (.iload_n 2, 1) := by decide +kernel
theorem dX2_insert_51 : decode cX2_insert 51 = .ok (.iastore, 1) := by decide +kernel
theorem dX2_insert_52 : decode cX2_insert 52 = .ok (.aload_n 0, 1) := by decide +kernel
theorem dX2_insert_53 : decode cX2_insert 53 = .ok (.dup, 1) := by decide +kernel
theorem dX2_insert_54 : decode cX2_insert 54 = .ok (.getfield 9, 3) := by decide +kernel
theorem dX2_insert_57 : decode cX2_insert 57 = .ok (.iconst 1, 1) := by decide +kernel
theorem dX2_insert_58 : decode cX2_insert 58 = .ok (.iadd, 1) := by decide +kernel
theorem dX2_insert_59 : decode cX2_insert 59 = .ok (.putfield 9, 3) := by decide +kernel
theorem dX2_insert_62 : decode cX2_insert 62 = .ok (.return_, 1) := by decide +kernel
theorem dX2_remove_0 : decode cX2_remove 0 = .ok (.iload_n 1, 1) := by decide +kernel
theorem dX2_remove_1 : decode cX2_remove 1 = .ok (.ifCond .lt 42, 3) := by decide +kernel
theorem dX2_remove_4 : decode cX2_remove 4 = .ok (.iload_n 1, 1) := by decide +kernel
theorem dX2_remove_5 : decode cX2_remove 5 = .ok (.aload_n 0, 1) := by decide +kernel
theorem dX2_remove_6 : decode cX2_remove 6 = .ok (.getfield 9, 3) := by decide +kernel
theorem dX2_remove_9 : decode cX2_remove 9 = .ok (.if_icmp .ge 34, 3) := by decide +kernel
theorem dX2_remove_12 : decode cX2_remove 12 = .ok (.aload_n 0, 1) := by decide +kernel
theorem dX2_remove_13 : decode cX2_remove 13 = .ok (.dup, 1) := by decide +kernel
theorem dX2_remove_14 : decode cX2_remove 14 = .ok (.getfield 9, 3) := by decide +kernel
theorem dX2_remove_17 : decode cX2_remove 17 = .ok (.iconst 1, 1) := by decide +kernel
theorem dX2_remove_18 : decode cX2_remove 18 = .ok (.isub, 1) := by decide +kernel
theorem dX2_remove_19 : decode cX2_remove 19 = .ok (.putfield 9, 3) := by decide +kernel
theorem dX2_remove_22 : decode cX2_remove 22 = .ok (.aload_n 0, 1) := by decide +kernel
theorem dX2_remove_23 : decode cX2_remove 23 = .ok (.getfield 15, 3) := by decide +kernel
theorem dX2_remove_26 : decode cX2_remove 26 = .ok (.iload_n 1, 1) := by decide +kernel
theorem dX2_remove_27 : decode cX2_remove 27 = .ok (.iconst 1, 1) := by decide +kernel
theorem dX2_remove_28 : decode cX2_remove 28 = .ok (.iadd, 1) := by decide +kernel
theorem dX2_remove_29 : decode cX2_remove 29 = .ok (.aload_n 0, 1) := by decide +kernel
theorem dX2_remove_30 : decode cX2_remove 30 = .ok (.getfield 15, 3) := by decide +kernel
theorem dX2_remove_33 : decode cX2_remove 33 = .ok (.iload_n 1, 1) := by decide +kernel
theorem dX2_remove_34 : decode cX2_remove 34 = .ok (.aload_n 0, 1) := by decide +kernel
theorem dX2_remove_35 : decode cX2_remove 35 = .ok (.getfield 9, 3) := by decide +kernel
theorem dX2_remove_38 : decode cX2_remove 38 = .ok (.iload_n 1, 1) := by decide +kernel
theorem dX2_remove_39 : decode cX2_remove 39 = .ok (.isub, 1) := by decide +kernel
theorem dX2_remove_40 : decode cX2_remove 40 = .ok (.invokestatic 19, 3) := by decide +kernel
theorem dX2_remove_43 : decode cX2_remove 43 = .ok (.return_, 1) := by decide +kernel
theorem dX2_empty_0 : decode cX2_empty 0 = .ok (.aload_n 0, 1) := by decide +kernel
theorem dX2_empty_1 : decode cX2_empty 1 = .ok (.iconst 0, 1) := by decide +kernel
theorem dX2_empty_2 : decode cX2_empty 2 = .ok (.putfield 9, 3) := by decide +kernel
theorem dX2_empty_5 : decode cX2_empty 5 = .ok (.return_, 1) := by decide +kernel
theorem dX2_placeOf_0 : decode cX2_placeOf 0 = .ok (.iconst 0, 1) := by decide +kernel
theorem dX2_placeOf_1 : decode cX2_placeOf 1 = .ok (.istore_n 2, 1) := by decide +kernel
theorem dX2_placeOf_2 : decode cX2_placeOf 2 = .ok (.iload_n 2, 1) := by decide +kernel
theorem dX2_placeOf_3 : decode cX2_placeOf 3 = .ok (.aload_n 0, 1) := by decide +kernel
theorem dX2_placeOf_4 : decode cX2_placeOf 4 = .ok (.getfield 9, 3) := by decide +kernel
theorem dX2_placeOf_7 : decode cX2_placeOf 7 = .ok (.if_icmp .ge 20, 3) := by decide +kernel
theorem dX2_placeOf_10 : decode cX2_placeOf 10 = .ok (.aload_n 0, 1) := by decide +kernel
theorem dX2_placeOf_11 : decode cX2_placeOf 11 = .ok (.iload_n 2, 1) := by decide +kernel
theorem dX2_placeOf_12 : decode cX2_placeOf 12 = .ok (.invokevirtual 25, 3) := by decide +kernel
theorem dX2_placeOf_15 : decode cX2_placeOf 15 = .ok (.iload_n 1, 1) := by decide +kernel
theorem dX2_placeOf_16 : decode cX2_placeOf 16 = .ok (.if_icmp .ne 5, 3) := by decide +kernel
theorem dX2_placeOf_19 : decode cX2_placeOf 19 = .ok (.iload_n 2, 1) := by decide +kernel
theorem dX2_placeOf_20 : decode cX2_placeOf 20 = .ok (.ireturn, 1) := by decide +kernel
theorem dX2_placeOf_21 : decode cX2_placeOf 21 = .ok (.iinc 2 1, 3) := by decide +kernel
theorem dX2_placeOf_24 : decode cX2_placeOf 24 = .ok (.goto (-22), 3) := by decide +kernel
theorem dX2_placeOf_27 : decode cX2_placeOf 27 = .ok (.iconst (-1), 1) := by decide +kernel
theorem dX2_placeOf_28 : decode cX2_placeOf 28 = .ok (.ireturn, 1) := by decide +kernel
theorem dX2_takeOver_0 : decode cX2_takeOver 0 = .ok (.aload_n 0, 1) := by decide +kernel
theorem dX2_takeOver_1 : decode cX2_takeOver 1 = .ok (.invokevirtual 29, 3) := by decide +kernel
theorem dX2_takeOver_4 : decode cX2_takeOver 4 = .ok (.iconst 0, 1) := by decide +kernel
theorem dX2_takeOver_5 : decode cX2_takeOver 5 = .ok (.istore_n 2, 1) := by decide +kernel
theorem dX2_takeOver_6 : decode cX2_takeOver 6 = .ok (.iload_n 2, 1) := by decide +kernel
theorem dX2_takeOver_7 : decode cX2_takeOver 7 = .ok (.aload_n 1, 1) := by decide +kernel
theorem dX2_takeOver_8 : decode cX2_takeOver 8 = .ok (.invokevirtual 32, 3) := by decide +kernel
theorem dX2_takeOver_11 : decode cX2_takeOver 11 = .ok (.if_icmp .ge 18, 3) := by decide +kernel
theorem dX2_takeOver_14 : decode cX2_takeOver 14 = .ok (.aload_n 0, 1) := by decide +kernel
theorem dX2_takeOver_15 : decode cX2_takeOver 15 = .ok (.aload_n 1, 1) := by decide +kernel
theorem dX2_takeOver_16 : decode cX2_takeOver 16 = .ok (.iload_n 2, 1) := by decide +kernel
theorem dX2_takeOver_17 : decode cX2_takeOver 17 = .ok (.invokevirtual 25, 3) := by decide +kernel
theorem dX2_takeOver_20 : decode cX2_takeOver 20 = .ok (.invokevirtual 35, 3) := by decide +kernel
theorem dX2_takeOver_23 : decode cX2_takeOver 23 = .ok (.iinc 2 1, 3) := by decide +kernel
theorem dX2_takeOver_26 : decode cX2_takeOver 26 = .ok (.goto (-20), 3) := by decide +kernel
theorem dX2_takeOver_29 : decode cX2_takeOver 29 = .ok (.return_, 1) := by decide +kernel
theorem dX3_init_0 : decode cX3_init 0 = .ok (.aload_n 0, 1) := by decide +kernel
theorem dX3_init_1 : decode cX3_init 1 = .ok (.invokespecial 5, 3) := by decide +kernel
theorem dX3_init_4 : decode cX3_init 4 = .ok (.aload_n 0, 1) := by decide +kernel
theorem dX3_init_5 : decode cX3_init 5 = .ok (.new 11, 3) := by decide +kernel
theorem dX3_init_8 : decode cX3_init 8 = .ok (.dup, 1) := by decide +kernel
theorem dX3_init_9 : decode cX3_init 9 = .ok (.bipush 40, 2) := by decide +kernel
theorem dX3_init_11 : decode cX3_init 11 = .ok (.invokespecial 13, 3) := by decide +kernel
theorem dX3_init_14 : decode cX3_init 14 = .ok (.putfield 16, 3) := by decide +kernel
theorem dX3_init_17 : decode cX3_init 17 = .ok (.aload_n 0, 1) := by decide +kernel
theorem dX3_init_18 : decode cX3_init 18 = .ok (.new 11, 3) := by decide +kernel
theorem dX3_init_21 : decode cX3_init 21 = .ok (.dup, 1) := by decide +kernel
theorem dX3_init_22 : decode cX3_init 22 = .ok (.bipush 40, 2) := by decide +kernel
theorem dX3_init_24 : decode cX3_init 24 = .ok (.invokespecial 13, 3) := by decide +kernel
theorem dX3_init_27 : decode cX3_init 27 = .ok (.putfield 20, 3) := by decide +kernel
theorem dX3_init_30 : decode cX3_init 30 = .ok (.aload_n 0, 1) := by decide +kernel
theorem dX3_init_31 : decode cX3_init 31 = .ok (.new 11, 3) := by decide +kernel
theorem dX3_init_34 : decode cX3_init 34 = .ok (.dup, 1) := by decide +kernel
theorem dX3_init_35 : decode cX3_init 35 = .ok (.bipush 40, 2) := by decide +kernel
theorem dX3_init_37 : decode cX3_init 37 = .ok (.invokespecial 13, 3) := by decide +kernel
theorem dX3_init_40 : decode cX3_init 40 = .ok (.putfield 23, 3) := by decide +kernel
theorem dX3_init_43 : decode cX3_init 43 = .ok (.aload_n 0, 1) := by decide +kernel
theorem dX3_init_44 : decode cX3_init 44 = .ok (.new 11, 3) := by decide +kernel
theorem dX3_init_47 : decode cX3_init 47 = .ok (.dup, 1) := by decide +kernel
theorem dX3_init_48 : decode cX3_init 48 = .ok (.bipush 40, 2) := by decide +kernel
theorem dX3_init_50 : decode cX3_init 50 = .ok (.invokespecial 13, 3) := by decide +kernel
theorem dX3_init_53 : decode cX3_init 53 = .ok (.putfield 26, 3) := by decide +kernel
theorem dX3_init_56 : decode cX3_init 56 = .ok (.aload_n 0, 1) := by decide +kernel
theorem dX3_init_57 : decode cX3_init 57 = .ok (.new 29, 3) := by decide +kernel
theorem dX3_init_60 : decode cX3_init 60 = .ok (.dup, 1) := by decide +kernel
theorem dX3_init_61 : decode cX3_init 61 = .ok (.bipush 20, 2) := by decide +kernel
theorem dX3_init_63 : decode cX3_init 63 = .ok (.sipush 1600, 3) := by decide +kernel
theorem dX3_init_66 : decode cX3_init 66 = .ok (.invokespecial 31, 3) := by decide +kernel
theorem dX3_init_69 : decode cX3_init 69 = .ok (.putfield 34, 3) := by decide +kernel
theorem dX3_init_72 : decode cX3_init 72 = .ok (.return_, 1) := by decide +kernel
theorem dX3_keyOf_0 : decode cX3_keyOf 0 = .ok (.iload_n 2, 1) := by decide +kernel
theorem dX3_keyOf_1 : decode cX3_keyOf 1 = .ok (.iconst 1, 1) := by decide +kernel
theorem dX3_keyOf_2 : decode cX3_keyOf 2 = .ok (.if_icmp .lt 8, 3) := by decide +kernel
theorem dX3_keyOf_5 : decode cX3_keyOf 5 = .ok (.iload_n 2, 1) := by decide +kernel
theorem dX3_keyOf_6 : decode cX3_keyOf 6 = .ok (.iconst 4, 1) := by decide +kernel
theorem dX3_keyOf_7 : decode cX3_keyOf 7 = .ok (.if_icmp .le 5, 3) := by decide +kernel
theorem dX3_keyOf_10 : decode cX3_keyOf 10 = .ok (.iconst 0, 1) := by decide +kernel
theorem dX3_keyOf_11 : decode cX3_keyOf 11 = .ok (.ireturn, 1) := by decide +kernel
theorem dX3_keyOf_12 : decode cX3_keyOf 12 = .ok (.iconst 0, 1) := by decide +kernel
theorem dX3_keyOf_13 : decode cX3_keyOf 13 = .ok (.istore_n 3, 1) := by decide +kernel
theorem dX3_keyOf_14 : decode cX3_keyOf 14 = .ok (.iconst 0, 1) := by decide +kernel
theorem dX3_keyOf_15 : decode cX3_keyOf 15 = .ok (.istore 4, 2) := by decide +kernel
theorem dX3_keyOf_17 : decode cX3_keyOf 17 = .ok (.iload 4, 2) := by decide +kernel
theorem dX3_keyOf_19 : decode cX3_keyOf 19 = .ok (.iconst 4, 1) := by decide +kernel
theorem dX3_keyOf_20 : decode cX3_keyOf 20 = .ok (.if_icmp .ge 41, 3) := by decide +kernel
theorem dX3_keyOf_23 : decode cX3_keyOf 23 = .ok (.iload 4, 2) := by decide +kernel
theorem dX3_keyOf_25 : decode cX3_keyOf 25 = .ok (.iload_n 2, 1) := by decide +kernel
theorem dX3_keyOf_26 : decode cX3_keyOf 26 = .ok (.if_icmp .ge 19, 3) := by decide +kernel
theorem dX3_keyOf_29 : decode cX3_keyOf 29 = .ok (.aload_n 0, 1) := by decide +kernel
theorem dX3_keyOf_30 : decode cX3_keyOf 30 = .ok (.iload_n 1, 1) := by decide +kernel
theorem dX3_keyOf_31 : decode cX3_keyOf 31 = .ok (.iload 4, 2) := by decide +kernel
theorem dX3_keyOf_33 : decode cX3_keyOf 33 = .ok (.iadd, 1) := by decide +kernel
theorem dX3_keyOf_34 : decode cX3_keyOf 34 = .ok (.invokevirtual 38, 3) := by decide +kernel
theorem dX3_keyOf_37 : decode cX3_keyOf 37 = .ok (.bipush 97, 2) := by decide +kernel
theorem dX3_keyOf_39 : decode cX3_keyOf 39 = .ok (.isub, 1) := by decide +kernel
theorem dX3_keyOf_40 : decode cX3_keyOf 40 = .ok (.iconst 1, 1) := by decide +kernel
theorem dX3_keyOf_41 : decode cX3_keyOf 41 = .ok (.iadd, 1) := by decide +kernel
theorem dX3_keyOf_42 : decode cX3_keyOf 42 = .ok (.goto 4, 3) := by decide +kernel
theorem dX3_keyOf_45 : decode cX3_keyOf 45 = .ok (.iconst 0, 1) := by decide +kernel
theorem dX3_keyOf_46 : decode cX3_keyOf 46 = .ok (.istore 5, 2) := by decide +kernel
theorem dX3_keyOf_48 : decode cX3_keyOf 48 = .ok (.iload_n 3, 1) := by decide +kernel
theorem dX3_keyOf_49 : decode cX3_keyOf 49 = .ok (.iconst 5, 1) := by decide +kernel
theorem dX3_keyOf_50 : decode cX3_keyOf 50 = .ok (.ishl, 1) := by decide +kernel
theorem dX3_keyOf_51 : decode cX3_keyOf 51 = .ok (.iload 5, 2) := by decide +kernel
theorem dX3_keyOf_53 : decode cX3_keyOf 53 = .ok (.ior, 1) := by decide +kernel
theorem dX3_keyOf_54 : decode cX3_keyOf 54 = .ok (.istore_n 3, 1) := by decide +kernel
theorem dX3_keyOf_55 : decode cX3_keyOf 55 = .ok (.iinc 4 1, 3) := by decide +kernel
theorem dX3_keyOf_58 : decode cX3_keyOf 58 = .ok (.goto (-41), 3) := by decide +kernel
theorem dX3_keyOf_61 : decode cX3_keyOf 61 = .ok (.iload_n 3, 1) := by decide +kernel
theorem dX3_keyOf_62 : decode cX3_keyOf 62 = .ok (.ireturn, 1) := by decide +kernel
theorem dX3_isFull_0 : decode cX3_isFull 0 = .ok (.aload_n 0, 1) := by decide +kernel
theorem dX3_isFull_1 : decode cX3_isFull 1 = .ok (.getfield 16, 3) := by decide +kernel
theorem dX3_isFull_4 : decode cX3_isFull 4 = .ok (.invokevirtual 46, 3) := by decide +kernel
theorem dX3_isFull_7 : decode cX3_isFull 7 = .ok (.ireturn, 1) := by decide +kernel
theorem dX3_placeOf_0 : decode cX3_placeOf 0 = .ok (.aload_n 0, 1) := by decide +kernel
theorem dX3_placeOf_1 : decode cX3_placeOf 1 = .ok (.getfield 16, 3) := by decide +kernel
theorem dX3_placeOf_4 : decode cX3_placeOf 4 = .ok (.iload_n 1, 1) := by decide +kernel
theorem dX3_placeOf_5 : decode cX3_placeOf 5 = .ok (.invokevirtual 50, 3) := by decide +kernel
theorem dX3_placeOf_8 : decode cX3_placeOf 8 = .ok (.ireturn, 1) := by decide +kernel
theorem dX3_insert_0 : decode cX3_insert 0 = .ok (.iconst 0, 1) := by decide +kernel
theorem dX3_insert_1 : decode cX3_insert 1 = .ok (.istore 5, 2) := by decide +kernel
theorem dX3_insert_3 : decode cX3_insert 3 = .ok (.iconst 0, 1) := by decide +kernel
theorem dX3_insert_4 : decode cX3_insert 4 = .ok (.istore 6, 2) := by decide +kernel
theorem dX3_insert_6 : decode cX3_insert 6 = .ok (.iload 6, 2) := by decide +kernel
theorem dX3_insert_8 : decode cX3_insert 8 = .ok (.aload_n 0, 1) := by decide +kernel
theorem dX3_insert_9 : decode cX3_insert 9 = .ok (.getfield 16, 3) := by decide +kernel
theorem dX3_insert_12 : decode cX3_insert 12 = .ok (.invokevirtual 42, 3) := by decide +kernel
theorem dX3_insert_15 : decode cX3_insert 15 = .ok (.if_icmp .ge 28, 3) := by decide +kernel
theorem dX3_insert_18 : decode cX3_insert 18 = .ok (.aload_n 0, 1) := by decide +kernel
theorem dX3_insert_19 : decode cX3_insert 19 = .ok (.getfield 16, 3) := by decide +kernel
theorem dX3_insert_22 : decode cX3_insert 22 = .ok (.iload 6, 2) := by decide +kernel
theorem dX3_insert_24 : decode cX3_insert 24 = .ok (.invokevirtual 38, 3) := by decide +kernel
theorem dX3_insert_27 : decode cX3_insert 27 = .ok (.iload_n 1, 1) := by decide +kernel
theorem dX3_insert_28 : decode cX3_insert 28 = .ok (.if_icmp .ge 9, 3) := by decide +kernel
theorem dX3_insert_31 : decode cX3_insert 31 = .ok (.iload 6, 2) := by decide +kernel
theorem dX3_insert_33 : decode cX3_insert 33 = .ok (.iconst 1, 1) := by decide +kernel
theorem dX3_insert_34 : decode cX3_insert 34 = .ok (.iadd, 1) := by decide +kernel
theorem dX3_insert_35 : decode cX3_insert 35 = .ok (.istore 5, 2) := by decide +kernel
theorem dX3_insert_37 : decode cX3_insert 37 = .ok (.iinc 6 1, 3) := by decide +kernel
theorem dX3_insert_40 : decode cX3_insert 40 = .ok (.goto (-34), 3) := by decide +kernel
theorem dX3_insert_43 : decode cX3_insert 43 = .ok (.aload_n 0, 1) := by decide +kernel
theorem dX3_insert_44 : decode cX3_insert 44 = .ok (.getfield 16, 3) := by decide +kernel
theorem dX3_insert_47 : decode cX3_insert 47 = .ok (.iload 5, 2) := by decide +kernel
theorem dX3_insert_49 : decode cX3_insert 49 = .ok (.iload_n 1, 1) := by decide +kernel
theorem dX3_insert_50 : decode cX3_insert 50 = .ok (.invokevirtual 53, 3) := by decide +kernel
theorem dX3_insert_53 : decode cX3_insert 53 = .ok (.aload_n 0, 1) := by decide +kernel
theorem dX3_insert_54 : decode cX3_insert 54 = .ok (.getfield 20, 3) := by decide +kernel
theorem dX3_insert_57 : decode cX3_insert 57 = .ok (.iload 5, 2) := by decide +kernel
theorem dX3_insert_59 : decode cX3_insert 59 = .ok (.iload_n 2, 1) := by decide +kernel
theorem dX3_insert_60 : decode cX3_insert 60 = .ok (.invokevirtual 53, 3) := by decide +kernel
theorem dX3_insert_63 : decode cX3_insert 63 = .ok (.aload_n 0, 1) := by decide +kernel
theorem dX3_insert_64 : decode cX3_insert 64 = .ok (.getfield 23, 3) := by decide +kernel
theorem dX3_insert_67 : decode cX3_insert 67 = .ok (.iload 5, 2) := by decide +kernel
theorem dX3_insert_69 : decode cX3_insert 69 = .ok (.iload_n 3, 1) := by decide +kernel
theorem dX3_insert_70 : decode cX3_insert 70 = .ok (.invokevirtual 53, 3) := by decide +kernel
theorem dX3_insert_73 : decode cX3_insert 73 = .ok (.aload_n 0, 1) := by decide +kernel
theorem dX3_insert_74 : decode cX3_insert 74 = .ok (.getfield 26, 3) := by decide +kernel
theorem dX3_insert_77 : decode cX3_insert 77 = .ok (.iload 5, 2) := by decide +kernel
theorem dX3_insert_79 : decode cX3_insert 79 = .ok (.iload 4, 2) := by decide +kernel
theorem dX3_insert_81 : decode cX3_insert 81 = .ok (.invokevirtual 53, 3) := by decide +kernel
theorem dX3_insert_84 : decode cX3_insert 84 = .ok (.iload 5, 2) := by decide +kernel
theorem dX3_insert_86 : decode cX3_insert 86 = .ok (.ireturn, 1) := by decide +kernel
theorem dX3_alter_0 : decode cX3_alter 0 = .ok (.aload_n 0, 1) := by decide +kernel
theorem dX3_alter_1 : decode cX3_alter 1 = .ok (.getfield 20, 3) := by decide +kernel
theorem dX3_alter_4 : decode cX3_alter 4 = .ok (.iload_n 1, 1) := by decide +kernel
theorem dX3_alter_5 : decode cX3_alter 5 = .ok (.iload_n 2, 1) := by decide +kernel
theorem dX3_alter_6 : decode cX3_alter 6 = .ok (.invokevirtual 56, 3) := by decide +kernel
theorem dX3_alter_9 : decode cX3_alter 9 = .ok (.aload_n 0, 1) := by decide +kernel
theorem dX3_alter_10 : decode cX3_alter 10 = .ok (.getfield 23, 3) := by decide +kernel
theorem dX3_alter_13 : decode cX3_alter 13 = .ok (.iload_n 1, 1) := by decide +kernel
theorem dX3_alter_14 : decode cX3_alter 14 = .ok (.iload_n 3, 1) := by decide +kernel
theorem dX3_alter_15 : decode cX3_alter 15 = .ok (.invokevirtual 56, 3) := by decide +kernel
theorem dX3_alter_18 : decode cX3_alter 18 = .ok (.aload_n 0, 1) := by decide +kernel
theorem dX3_alter_19 : decode cX3_alter 19 = .ok (.getfield 26, 3) := by decide +kernel
theorem dX3_alter_22 : decode cX3_alter 22 = .ok (.iload_n 1, 1) := by decide +kernel
theorem dX3_alter_23 : decode cX3_alter 23 = .ok (.iload 4, 2) := by decide +kernel
theorem dX3_alter_25 : decode cX3_alter 25 = .ok (.invokevirtual 56, 3) := by decide +kernel
theorem dX3_alter_28 : decode cX3_alter 28 = .ok (.return_, 1) := by decide +kernel
theorem dX3_isInOrder_0 : decode cX3_isInOrder 0 = .ok (.iconst 1, 1) := by decide +kernel
theorem dX3_isInOrder_1 : decode cX3_isInOrder 1 = .ok (.istore_n 1, 1) := by decide +kernel
theorem dX3_isInOrder_2 : decode cX3_isInOrder 2 = .ok (.iload_n 1, 1) := by decide +kernel
theorem dX3_isInOrder_3 : decode cX3_isInOrder 3 = .ok (.aload_n 0, 1) := by decide +kernel
theorem dX3_isInOrder_4 : decode cX3_isInOrder 4 = .ok (.getfield 16, 3) := by decide +kernel
theorem dX3_isInOrder_7 : decode cX3_isInOrder 7 = .ok (.invokevirtual 42, 3) := by decide +kernel
theorem dX3_isInOrder_10 : decode cX3_isInOrder 10 = .ok (.if_icmp .ge 32, 3) := by decide +kernel
theorem dX3_isInOrder_13 : decode cX3_isInOrder 13 = .ok (.aload_n 0, 1) := by decide +kernel
theorem dX3_isInOrder_14 : decode cX3_isInOrder 14 = .ok (.getfield 16, 3) := by decide +kernel
theorem dX3_isInOrder_17 : decode cX3_isInOrder 17 = .ok (.iload_n 1, 1) := by decide +kernel
theorem dX3_isInOrder_18 : decode cX3_isInOrder 18 = .ok (.iconst 1, 1) := by decide +kernel
theorem dX3_isInOrder_19 : decode cX3_isInOrder 19 = .ok (.isub, 1) := by decide +kernel
theorem dX3_isInOrder_20 : decode cX3_isInOrder 20 = .ok (.invokevirtual 38, 3) := by decide +kernel
theorem dX3_isInOrder_23 : decode cX3_isInOrder 23 = .ok (.aload_n 0, 1) := by decide +kernel
theorem dX3_isInOrder_24 : decode cX3_isInOrder 24 = .ok (.getfield 16, 3) := by decide +kernel
theorem dX3_isInOrder_27 : decode cX3_isInOrder 27 = .ok (.iload_n 1, 1) := by decide +kernel
theorem dX3_isInOrder_28 : decode cX3_isInOrder 28 = .ok (.invokevirtual 38, 3) := by decide +kernel
theorem dX3_isInOrder_31 : decode cX3_isInOrder 31 = .ok (.if_icmp .lt 5, 3) := by decide +kernel
theorem dX3_isInOrder_34 : decode cX3_isInOrder 34 = .ok (.iconst 0, 1) := by decide +kernel
theorem dX3_isInOrder_35 : decode cX3_isInOrder 35 = .ok (.ireturn, 1) := by decide +kernel
theorem dX3_isInOrder_36 : decode cX3_isInOrder 36 = .ok (.iinc 1 1, 3) := by decide +kernel
theorem dX3_isInOrder_39 : decode cX3_isInOrder 39 = .ok (.goto (-37), 3) := by decide +kernel
theorem dX3_isInOrder_42 : decode cX3_isInOrder 42 = .ok (.iconst 1, 1) := by decide +kernel
theorem dX3_isInOrder_43 : decode cX3_isInOrder 43 = .ok (.ireturn, 1) := by decide +kernel
theorem dX3_placeOfException_0 : decode cX3_placeOfException 0 = .ok (.iconst 0, 1) := by decide +kernel
theorem dX3_placeOfException_1 : decode cX3_placeOfException 1 = .ok (.istore 4, 2) := by decide +kernel
theorem dX3_placeOfException_3 : decode cX3_placeOfException 3 = .ok (.iload 4, 2) := by decide +kernel
theorem dX3_placeOfException_5 : decode cX3_placeOfException 5 = .ok (.aload_n 0, 1) := by decide +kernel
theorem dX3_placeOfException_6 : decode cX3_placeOfException 6 = .ok (.getfield 34, 3) := by decide +kernel
theorem dX3_placeOfException_9 : decode cX3_placeOfException 9 = .ok (.invokevirtual 62, 3) := by decide +kernel
theorem dX3_placeOfException_12 : decode cX3_placeOfException 12 = .ok (.if_icmp .ge 27, 3) := by decide +kernel
theorem dX3_placeOfException_15 : decode cX3_placeOfException 15 = .ok (.aload_n 0, 1) := by decide +kernel
theorem dX3_placeOfException_16 : decode cX3_placeOfException 16 = .ok (.getfield 34, 3) := by decide +kernel
theorem dX3_placeOfException_19 : decode cX3_placeOfException 19 = .ok (.iload 4, 2) := by decide +kernel
theorem dX3_placeOfException_21 : decode cX3_placeOfException 21 = .ok (.aload_n 1, 1) := by decide +kernel
theorem dX3_placeOfException_22 : decode cX3_placeOfException 22 = .ok (.iload_n 2, 1) := by decide +kernel
theorem dX3_placeOfException_23 : decode cX3_placeOfException 23 = .ok (.iload_n 3, 1) := by decide +kernel
theorem dX3_placeOfException_24 : decode cX3_placeOfException 24 = .ok (.invokevirtual 63, 3) := by decide +kernel
theorem dX3_placeOfException_27 : decode cX3_placeOfException 27 = .ok (.ifCond .eq 6, 3) := by decide +kernel
theorem dX3_placeOfException_30 : decode cX3_placeOfException 30 = .ok (.iload 4, 2) := by decide +kernel
theorem dX3_placeOfException_32 : decode cX3_placeOfException 32 = .ok (.ireturn, 1) := by decide +kernel
theorem dX3_placeOfException_33 : decode cX3_placeOfException 33 = .ok (.iinc 4 1, 3) := by decide +kernel
theorem dX3_placeOfException_36 : decode cX3_placeOfException 36 = .ok (.goto (-33), 3) := by decide +kernel
theorem dX3_placeOfException_39 : decode cX3_placeOfException 39 = .ok (.iconst (-1), 1) := by decide +kernel
theorem dX3_placeOfException_40 : decode cX3_placeOfException 40 = .ok (.ireturn, 1) := by decide +kernel
theorem dX3_isFullOfExceptions_0 : decode cX3_isFullOfExceptions 0 = .ok (.aload_n 0, 1) := by decide +kernel
theorem dX3_isFullOfExceptions_1 : decode cX3_isFullOfExceptions 1 = .ok (.getfield 34, 3) := by decide +kernel
theorem dX3_isFullOfExceptions_4 : decode cX3_isFullOfExceptions 4 = .ok (.invokevirtual 62, 3) := by decide +kernel
theorem dX3_isFullOfExceptions_7 : decode cX3_isFullOfExceptions 7 = .ok (.bipush 20, 2) := by decide +kernel
theorem dX3_isFullOfExceptions_9 : decode cX3_isFullOfExceptions 9 = .ok (.if_icmp .lt 7, 3) := by decide +kernel
theorem dX3_isFullOfExceptions_12 : decode cX3_isFullOfExceptions 12 = .ok (.iconst 1, 1) := by decide +kernel
theorem dX3_isFullOfExceptions_13 : decode cX3_isFullOfExceptions 13 = .ok (.goto 4, 3) := by decide +kernel
theorem dX3_isFullOfExceptions_16 : decode cX3_isFullOfExceptions 16 = .ok (.iconst 0, 1) := by decide +kernel
theorem dX3_isFullOfExceptions_17 : decode cX3_isFullOfExceptions 17 = .ok (.ireturn, 1) := by decide +kernel
theorem dX3_addException_0 : decode cX3_addException 0 = .ok (.iconst 0, 1) := by decide +kernel
theorem dX3_addException_1 : decode cX3_addException 1 = .ok (.istore_n 2, 1) := by decide +kernel
theorem dX3_addException_2 : decode cX3_addException 2 = .ok (.iload_n 2, 1) := by decide +kernel
theorem dX3_addException_3 : decode cX3_addException 3 = .ok (.aload_n 1, 1) := by decide +kernel
theorem dX3_addException_4 : decode cX3_addException 4 = .ok (.invokevirtual 42, 3) := by decide +kernel
theorem dX3_addException_7 : decode cX3_addException 7 = .ok (.if_icmp .ge 21, 3) := by decide +kernel
theorem dX3_addException_10 : decode cX3_addException 10 = .ok (.aload_n 0, 1) := by decide +kernel
theorem dX3_addException_11 : decode cX3_addException 11 = .ok (.getfield 34, 3) := by decide +kernel
theorem dX3_addException_14 : decode cX3_addException 14 = .ok (.aload_n 1, 1) := by decide +kernel
theorem dX3_addException_15 : decode cX3_addException 15 = .ok (.iload_n 2, 1) := by decide +kernel
theorem dX3_addException_16 : decode cX3_addException 16 = .ok (.invokevirtual 38, 3) := by decide +kernel
theorem dX3_addException_19 : decode cX3_addException 19 = .ok (.invokevirtual 67, 3) := by decide +kernel
theorem dX3_addException_22 : decode cX3_addException 22 = .ok (.iinc 2 1, 3) := by decide +kernel
theorem dX3_addException_25 : decode cX3_addException 25 = .ok (.goto (-23), 3) := by decide +kernel
theorem dX3_addException_28 : decode cX3_addException 28 = .ok (.aload_n 0, 1) := by decide +kernel
theorem dX3_addException_29 : decode cX3_addException 29 = .ok (.getfield 34, 3) := by decide +kernel
theorem dX3_addException_32 : decode cX3_addException 32 = .ok (.invokevirtual 70, 3) := by decide +kernel
theorem dX3_addException_35 : decode cX3_addException 35 = .ok (.return_, 1) := by decide +kernel
theorem dX3_dropException_0 : decode cX3_dropException 0 = .ok (.aload_n 0, 1) := by decide +kernel
theorem dX3_dropException_1 : decode cX3_dropException 1 = .ok (.getfield 34, 3) := by decide +kernel
theorem dX3_dropException_4 : decode cX3_dropException 4 = .ok (.iload_n 1, 1) := by decide +kernel
theorem dX3_dropException_5 : decode cX3_dropException 5 = .ok (.invokevirtual 73, 3) := by decide +kernel
theorem dX3_dropException_8 : decode cX3_dropException 8 = .ok (.return_, 1) := by decide +kernel
theorem dX3_translate_0 : decode cX3_translate 0 = .ok (.aload_n 0, 1) := by decide +kernel
theorem dX3_translate_1 : decode cX3_translate 1 = .ok (.aload_n 1, 1) := by decide +kernel
theorem dX3_translate_2 : decode cX3_translate 2 = .ok (.iload_n 2, 1) := by decide +kernel
theorem dX3_translate_3 : decode cX3_translate 3 = .ok (.iload_n 3, 1) := by decide +kernel
theorem dX3_translate_4 : decode cX3_translate 4 = .ok (.invokevirtual 76, 3) := by decide +kernel
theorem dX3_translate_7 : decode cX3_translate 7 = .ok (.iconst (-1), 1) := by decide +kernel
theorem dX3_translate_8 : decode cX3_translate 8 = .ok (.if_icmp .eq 7, 3) := by decide +kernel
theorem dX3_translate_11 : decode cX3_translate 11 = .ok (.iconst 1, 1) := by decide +kernel
theorem dX3_translate_12 : decode cX3_translate 12 = .ok (.goto 4, 3) := by decide +kernel
theorem dX3_translate_15 : decode cX3_translate 15 = .ok (.iconst 0, 1) := by decide +kernel
theorem dX3_translate_16 : decode cX3_translate 16 = .ok (.istore 6, 2) := by decide +kernel
theorem dX3_translate_18 : decode cX3_translate 18 = .ok (.iload 6, 2) := by decide +kernel
theorem dX3_translate_20 : decode cX3_translate 20 = .ok (.ifCond .eq 7, 3) := by decide +kernel
theorem dX3_translate_23 : decode cX3_translate 23 = .ok (.iconst 1, 1) := by decide +kernel
theorem dX3_translate_24 : decode cX3_translate 24 = .ok (.goto 4, 3) := by decide +kernel
theorem dX3_translate_27 : decode cX3_translate 27 = .ok (.iconst 4, 1) := by decide +kernel
theorem dX3_translate_28 : decode cX3_translate 28 = .ok (.istore 7, 2) := by decide +kernel
theorem dX3_translate_30 : decode cX3_translate 30 = .ok (.iload_n 2, 1) := by decide +kernel
theorem dX3_translate_31 : decode cX3_translate 31 = .ok (.istore 8, 2) := by decide +kernel
theorem dX3_translate_33 : decode cX3_translate 33 = .ok (.iload_n 2, 1) := by decide +kernel
theorem dX3_translate_34 : decode cX3_translate 34 = .ok (.istore 9, 2) := by decide +kernel
theorem dX3_translate_36 : decode cX3_translate 36 = .ok (.iload 9, 2) := by decide +kernel
theorem dX3_translate_38 : decode cX3_translate 38 = .ok (.iload_n 3, 1) := by decide +kernel
theorem dX3_translate_39 : decode cX3_translate 39 = .ok (.if_icmp .ge 45, 3) := by decide +kernel
theorem dX3_translate_42 : decode cX3_translate 42 = .ok (.iload 9, 2) := by decide +kernel
theorem dX3_translate_44 : decode cX3_translate 44 = .ok (.iload 8, 2) := by decide +kernel
theorem dX3_translate_46 : decode cX3_translate 46 = .ok (.if_icmp .ne 32, 3) := by decide +kernel
theorem dX3_translate_49 : decode cX3_translate 49 = .ok (.iload 7, 2) := by decide +kernel
theorem dX3_translate_51 : decode cX3_translate 51 = .ok (.iload_n 3, 1) := by decide +kernel
theorem dX3_translate_52 : decode cX3_translate 52 = .ok (.iload 9, 2) := by decide +kernel
theorem dX3_translate_54 : decode cX3_translate 54 = .ok (.isub, 1) := by decide +kernel
theorem dX3_translate_55 : decode cX3_translate 55 = .ok (.invokestatic 80, 3) := by decide +kernel
theorem dX3_translate_58 : decode cX3_translate 58 = .ok (.istore 10, 2) := by decide +kernel
theorem dX3_translate_60 : decode cX3_translate 60 = .ok (.iload 8, 2) := by decide +kernel
theorem dX3_translate_62 : decode cX3_translate 62 = .ok (.aload_n 0, 1) := by decide +kernel
theorem dX3_translate_63 : decode cX3_translate 63 = .ok (.aload_n 1, 1) := by decide +kernel
theorem dX3_translate_64 : decode cX3_translate 64 = .ok (.iload 9, 2) := by decide +kernel
theorem dX3_translate_66 : decode cX3_translate 66 = .ok (.iload 10, 2) := by decide +kernel
theorem dX3_translate_68 : decode cX3_translate 68 = .ok (.iload 4, 2) := by decide +kernel
theorem dX3_translate_70 : decode cX3_translate 70 = .ok (.aload 5, 2) := by decide +kernel
theorem dX3_translate_72 : decode cX3_translate 72 = .ok (.invokevirtual 86, 3) := by decide +kernel
theorem dX3_translate_75 : decode cX3_translate 75 = .ok (.iadd, 1) := by decide +kernel
theorem dX3_translate_76 : decode cX3_translate 76 = .ok (.istore 8, 2) := by decide +kernel
theorem dX3_translate_78 : decode cX3_translate 78 = .ok (.iinc 9 1, 3) := by decide +kernel
theorem dX3_translate_81 : decode cX3_translate 81 = .ok (.goto (-45), 3) := by decide +kernel
theorem dX3_translate_84 : decode cX3_translate 84 = .ok (.return_, 1) := by decide +kernel
theorem dX3_addCells_0 : decode cX3_addCells 0 = .ok (.iload_n 3, 1) := by decide +kernel
theorem dX3_addCells_1 : decode cX3_addCells 1 = .ok (.istore 6, 2) := by decide +kernel
theorem dX3_addCells_3 : decode cX3_addCells 3 = .ok (.iload 6, 2) := by decide +kernel
theorem dX3_addCells_5 : decode cX3_addCells 5 = .ok (.iconst 1, 1) := by decide +kernel
theorem dX3_addCells_6 : decode cX3_addCells 6 = .ok (.if_icmp .lt 88, 3) := by decide +kernel
theorem dX3_addCells_9 : decode cX3_addCells 9 = .ok (.aload_n 0, 1) := by decide +kernel
theorem dX3_addCells_10 : decode cX3_addCells 10 = .ok (.getfield 16, 3) := by decide +kernel
theorem dX3_addCells_13 : decode cX3_addCells 13 = .ok (.aload_n 1, 1) := by decide +kernel
theorem dX3_addCells_14 : decode cX3_addCells 14 = .ok (.iload_n 2, 1) := by decide +kernel
theorem dX3_addCells_15 : decode cX3_addCells 15 = .ok (.iload 6, 2) := by decide +kernel
theorem dX3_addCells_17 : decode cX3_addCells 17 = .ok (.invokestatic 90, 3) := by decide +kernel
theorem dX3_addCells_20 : decode cX3_addCells 20 = .ok (.invokevirtual 50, 3) := by decide +kernel
theorem dX3_addCells_23 : decode cX3_addCells 23 = .ok (.istore 7, 2) := by decide +kernel
theorem dX3_addCells_25 : decode cX3_addCells 25 = .ok (.iload 7, 2) := by decide +kernel
theorem dX3_addCells_27 : decode cX3_addCells 27 = .ok (.iconst (-1), 1) := by decide +kernel
theorem dX3_addCells_28 : decode cX3_addCells 28 = .ok (.if_icmp .eq 60, 3) := by decide +kernel
theorem dX3_addCells_31 : decode cX3_addCells 31 = .ok (.aload_n 0, 1) := by decide +kernel
theorem dX3_addCells_32 : decode cX3_addCells 32 = .ok (.getfield 20, 3) := by decide +kernel
theorem dX3_addCells_35 : decode cX3_addCells 35 = .ok (.iload 7, 2) := by decide +kernel
theorem dX3_addCells_37 : decode cX3_addCells 37 = .ok (.invokevirtual 38, 3) := by decide +kernel
theorem dX3_addCells_40 : decode cX3_addCells 40 = .ok (.iload 4, 2) := by decide +kernel
theorem dX3_addCells_42 : decode cX3_addCells 42 = .ok (.if_icmp .gt 46, 3) := by decide +kernel
theorem dX3_addCells_45 : decode cX3_addCells 45 = .ok (.aload 5, 2) := by decide +kernel
theorem dX3_addCells_47 : decode cX3_addCells 47 = .ok (.aload_n 0, 1) := by decide +kernel
theorem dX3_addCells_48 : decode cX3_addCells 48 = .ok (.getfield 23, 3) := by decide +kernel
theorem dX3_addCells_51 : decode cX3_addCells 51 = .ok (.iload 7, 2) := by decide +kernel
theorem dX3_addCells_53 : decode cX3_addCells 53 = .ok (.invokevirtual 38, 3) := by decide +kernel
theorem dX3_addCells_56 : decode cX3_addCells 56 = .ok (.invokevirtual 67, 3) := by decide +kernel
theorem dX3_addCells_59 : decode cX3_addCells 59 = .ok (.aload_n 0, 1) := by decide +kernel
theorem dX3_addCells_60 : decode cX3_addCells 60 = .ok (.getfield 26, 3) := by decide +kernel
theorem dX3_addCells_63 : decode cX3_addCells 63 = .ok (.iload 7, 2) := by decide +kernel
theorem dX3_addCells_65 : decode cX3_addCells 65 = .ok (.invokevirtual 38, 3) := by decide +kernel
theorem dX3_addCells_68 : decode cX3_addCells 68 = .ok (.ifCond .eq 17, 3) := by decide +kernel
theorem dX3_addCells_71 : decode cX3_addCells 71 = .ok (.aload 5, 2) := by decide +kernel
theorem dX3_addCells_73 : decode cX3_addCells 73 = .ok (.aload_n 0, 1) := by decide +kernel
theorem dX3_addCells_74 : decode cX3_addCells 74 = .ok (.getfield 26, 3) := by decide +kernel
theorem dX3_addCells_77 : decode cX3_addCells 77 = .ok (.iload 7, 2) := by decide +kernel
theorem dX3_addCells_79 : decode cX3_addCells 79 = .ok (.invokevirtual 38, 3) := by decide +kernel
theorem dX3_addCells_82 : decode cX3_addCells 82 = .ok (.invokevirtual 67, 3) := by decide +kernel
theorem dX3_addCells_85 : decode cX3_addCells 85 = .ok (.iload 6, 2) := by decide +kernel
theorem dX3_addCells_87 : decode cX3_addCells 87 = .ok (.ireturn, 1) := by decide +kernel
theorem dX3_addCells_88 : decode cX3_addCells 88 = .ok (.iinc 6 (-1), 3) := by decide +kernel
theorem dX3_addCells_91 : decode cX3_addCells 91 = .ok (.goto (-88), 3) := by decide +kernel
theorem dX3_addCells_94 : decode cX3_addCells 94 = .ok (.aload 5, 2) := by decide +kernel
theorem dX3_addCells_96 : decode cX3_addCells 96 = .ok (.bipush 63, 2) := by decide +kernel
theorem dX3_addCells_98 : decode cX3_addCells 98 = .ok (.invokevirtual 67, 3) := by decide +kernel
theorem dX3_addCells_101 : decode cX3_addCells 101 = .ok (.iconst 1, 1) := by decide +kernel
theorem dX3_addCells_102 : decode cX3_addCells 102 = .ok (.ireturn, 1) := by decide +kernel
