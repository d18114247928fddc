theorem dX4_init_0 : decode cX4_init 0 = .ok (.aload_n 0, 1) := by decide +kernel
theorem dX4_init_1 : decode cX4_init 1 = .ok (.invokespecial 3, 3) := by decide +kernel
theorem dX4_init_4 : decode cX4_init 4 = .ok (.aload_n 0, 1) := by decide +kernel
theorem dX4_init_5 : decode cX4_init 5 = .ok (.new 9, 3) := by decide +kernel
theorem dX4_init_8 : decode cX4_init 8 = .ok (.dup, 1) := by decide +kernel
theorem dX4_init_9 : decode cX4_init 9 = .ok (.bipush 40, 2) := by decide +kernel
theorem dX4_init_11 : decode cX4_init 11 = .ok (.bipush 80, 2) := by decide +kernel
theorem dX4_init_13 : decode cX4_init 13 = .ok (.invokespecial 11, 3) := by decide +kernel
theorem dX4_init_16 : decode cX4_init 16 = .ok (.putfield 14, 3) := by decide +kernel
theorem dX4_init_19 : decode cX4_init 19 = .ok (.aload_n 0, 1) := by decide +kernel
theorem dX4_init_20 : decode cX4_init 20 = .ok (.new 9, 3) := by decide +kernel
theorem dX4_init_23 : decode cX4_init 23 = .ok (.dup, 1) := by decide +kernel
theorem dX4_init_24 : decode cX4_init 24 = .ok (.bipush 40, 2) := by decide +kernel
theorem dX4_init_26 : decode cX4_init 26 = .ok (.sipush 160, 3) := by decide +kernel
theorem dX4_init_29 : decode cX4_init 29 = .ok (.invokespecial 11, 3) := by decide +kernel
theorem dX4_init_32 : decode cX4_init 32 = .ok (.putfield 20, 3) := by decide +kernel
theorem dX4_init_35 : decode cX4_init 35 = .ok (.aload_n 0, 1) := by decide +kernel
theorem dX4_init_36 : decode cX4_init 36 = .ok (.new 23, 3) := by decide +kernel
theorem dX4_init_39 : decode cX4_init 39 = .ok (.dup, 1) := by decide +kernel
theorem dX4_init_40 : decode cX4_init 40 = .ok (.bipush 80, 2) := by decide +kernel
theorem dX4_init_42 : decode cX4_init 42 = .ok (.invokespecial 25, 3) := by decide +kernel
theorem dX4_init_45 : decode cX4_init 45 = .ok (.putfield 28, 3) := by decide +kernel
theorem dX4_init_48 : decode cX4_init 48 = .ok (.aload_n 0, 1) := by decide +kernel
theorem dX4_init_49 : decode cX4_init 49 = .ok (.new 9, 3) := by decide +kernel
theorem dX4_init_52 : decode cX4_init 52 = .ok (.dup, 1) := by decide +kernel
theorem dX4_init_53 : decode cX4_init 53 = .ok (.bipush 60, 2) := by decide +kernel
theorem dX4_init_55 : decode cX4_init 55 = .ok (.sipush 160, 3) := by decide +kernel
theorem dX4_init_58 : decode cX4_init 58 = .ok (.invokespecial 11, 3) := by decide +kernel
theorem dX4_init_61 : decode cX4_init 61 = .ok (.putfield 32, 3) := by decide +kernel
theorem dX4_init_64 : decode cX4_init 64 = .ok (.aload_n 0, 1) := by decide +kernel
theorem dX4_init_65 : decode cX4_init 65 = .ok (.new 23, 3) := by decide +kernel
theorem dX4_init_68 : decode cX4_init 68 = .ok (.dup, 1) := by decide +kernel
theorem dX4_init_69 : decode cX4_init 69 = .ok (.bipush 40, 2) := by decide +kernel
theorem dX4_init_71 : decode cX4_init 71 = .ok (.invokespecial 25, 3) := by decide +kernel
theorem dX4_init_74 : decode cX4_init 74 = .ok (.putfield 35, 3) := by decide +kernel
theorem dX4_init_77 : decode cX4_init 77 = .ok (.aload_n 0, 1) := by decide +kernel
theorem dX4_init_78 : decode cX4_init 78 = .ok (.new 9, 3) := by decide +kernel
theorem dX4_init_81 : decode cX4_init 81 = .ok (.dup, 1) := by decide +kernel
theorem dX4_init_82 : decode cX4_init 82 = .ok (.bipush 60, 2) := by decide +kernel
theorem dX4_init_84 : decode cX4_init 84 = .ok (.sipush 160, 3) := by decide +kernel
theorem dX4_init_87 : decode cX4_init 87 = .ok (.invokespecial 11, 3) := by decide +kernel
theorem dX4_init_90 : decode cX4_init 90 = .ok (.putfield 38, 3) := by decide +kernel
theorem dX4_init_93 : decode cX4_init 93 = .ok (.aload_n 0, 1) := by decide +kernel
theorem dX4_init_94 : decode cX4_init 94 = .ok (.iconst 1, 1) := by decide +kernel
theorem dX4_init_95 : decode cX4_init 95 = .ok (.putfield 41, 3) := by decide +kernel
theorem dX4_init_98 : decode cX4_init 98 = .ok (.return_, 1) := by decide +kernel
theorem dX4_take_0 : decode cX4_take 0 = .ok (.aload_n 0, 1) := by decide +kernel
theorem dX4_take_1 : decode cX4_take 1 = .ok (.iload_n 2, 1) := by decide +kernel
theorem dX4_take_2 : decode cX4_take 2 = .ok (.putfield 41, 3) := by decide +kernel
theorem dX4_take_5 : decode cX4_take 5 = .ok (.aload_n 0, 1) := by decide +kernel
theorem dX4_take_6 : decode cX4_take 6 = .ok (.getfield 14, 3) := by decide +kernel
theorem dX4_take_9 : decode cX4_take 9 = .ok (.invokevirtual 45, 3) := by decide +kernel
theorem dX4_take_12 : decode cX4_take 12 = .ok (.iconst 0, 1) := by decide +kernel
theorem dX4_take_13 : decode cX4_take 13 = .ok (.istore_n 3, 1) := by decide +kernel
theorem dX4_take_14 : decode cX4_take 14 = .ok (.iload_n 3, 1) := by decide +kernel
theorem dX4_take_15 : decode cX4_take 15 = .ok (.aload_n 1, 1) := by decide +kernel
theorem dX4_take_16 : decode cX4_take 16 = .ok (.invokevirtual 48, 3) := by decide +kernel
theorem dX4_take_19 : decode cX4_take 19 = .ok (.if_icmp .ge 41, 3) := by decide +kernel
theorem dX4_take_22 : decode cX4_take 22 = .ok (.aload_n 1, 1) := by decide +kernel
theorem dX4_take_23 : decode cX4_take 23 = .ok (.iload_n 3, 1) := by decide +kernel
theorem dX4_take_24 : decode cX4_take 24 = .ok (.invokevirtual 52, 3) := by decide +kernel
theorem dX4_take_27 : decode cX4_take 27 = .ok (.bipush 32, 2) := by decide +kernel
theorem dX4_take_29 : decode cX4_take 29 = .ok (.if_icmp .ne 13, 3) := by decide +kernel
theorem dX4_take_32 : decode cX4_take 32 = .ok (.aload_n 0, 1) := by decide +kernel
theorem dX4_take_33 : decode cX4_take 33 = .ok (.getfield 14, 3) := by decide +kernel
theorem dX4_take_36 : decode cX4_take 36 = .ok (.invokevirtual 56, 3) := by decide +kernel
theorem dX4_take_39 : decode cX4_take 39 = .ok (.goto 15, 3) := by decide +kernel
theorem dX4_take_42 : decode cX4_take 42 = .ok (.aload_n 0, 1) := by decide +kernel
theorem dX4_take_43 : decode cX4_take 43 = .ok (.getfield 14, 3) := by decide +kernel
theorem dX4_take_46 : decode cX4_take 46 = .ok (.aload_n 1, 1) := by decide +kernel
theorem dX4_take_47 : decode cX4_take 47 = .ok (.iload_n 3, 1) := by decide +kernel
theorem dX4_take_48 : decode cX4_take 48 = .ok (.invokevirtual 52, 3) := by decide +kernel
theorem dX4_take_51 : decode cX4_take 51 = .ok (.invokevirtual 59, 3) := by decide +kernel
theorem dX4_take_54 : decode cX4_take 54 = .ok (.iinc 3 1, 3) := by decide +kernel
theorem dX4_take_57 : decode cX4_take 57 = .ok (.goto (-43), 3) := by decide +kernel
theorem dX4_take_60 : decode cX4_take 60 = .ok (.aload_n 0, 1) := by decide +kernel
theorem dX4_take_61 : decode cX4_take 61 = .ok (.getfield 14, 3) := by decide +kernel
theorem dX4_take_64 : decode cX4_take 64 = .ok (.invokevirtual 56, 3) := by decide +kernel
theorem dX4_take_67 : decode cX4_take 67 = .ok (.aload_n 0, 1) := by decide +kernel
theorem dX4_take_68 : decode cX4_take 68 = .ok (.getfield 28, 3) := by decide +kernel
theorem dX4_take_71 : decode cX4_take 71 = .ok (.invokevirtual 62, 3) := by decide +kernel
theorem dX4_take_74 : decode cX4_take 74 = .ok (.iconst 0, 1) := by decide +kernel
theorem dX4_take_75 : decode cX4_take 75 = .ok (.istore_n 3, 1) := by decide +kernel
theorem dX4_take_76 : decode cX4_take 76 = .ok (.iload_n 3, 1) := by decide +kernel
theorem dX4_take_77 : decode cX4_take 77 = .ok (.iconst 2, 1) := by decide +kernel
theorem dX4_take_78 : decode cX4_take 78 = .ok (.aload_n 0, 1) := by decide +kernel
theorem dX4_take_79 : decode cX4_take 79 = .ok (.getfield 14, 3) := by decide +kernel
theorem dX4_take_82 : decode cX4_take 82 = .ok (.invokevirtual 63, 3) := by decide +kernel
theorem dX4_take_85 : decode cX4_take 85 = .ok (.imul, 1) := by decide +kernel
theorem dX4_take_86 : decode cX4_take 86 = .ok (.if_icmp .ge 18, 3) := by decide +kernel
theorem dX4_take_89 : decode cX4_take 89 = .ok (.aload_n 0, 1) := by decide +kernel
theorem dX4_take_90 : decode cX4_take 90 = .ok (.getfield 28, 3) := by decide +kernel
theorem dX4_take_93 : decode cX4_take 93 = .ok (.bipush 45, 2) := by decide +kernel
theorem dX4_take_95 : decode cX4_take 95 = .ok (.invokevirtual 64, 3) := by decide +kernel
theorem dX4_take_98 : decode cX4_take 98 = .ok (.iinc 3 1, 3) := by decide +kernel
theorem dX4_take_101 : decode cX4_take 101 = .ok (.goto (-25), 3) := by decide +kernel
theorem dX4_take_104 : decode cX4_take 104 = .ok (.return_, 1) := by decide +kernel
theorem dX4_translate_0 : decode cX4_translate 0 = .ok (.iconst 0, 1) := by decide +kernel
theorem dX4_translate_1 : decode cX4_translate 1 = .ok (.istore_n 3, 1) := by decide +kernel
theorem dX4_translate_2 : decode cX4_translate 2 = .ok (.aload_n 2, 1) := by decide +kernel
theorem dX4_translate_3 : decode cX4_translate 3 = .ok (.invokevirtual 45, 3) := by decide +kernel
theorem dX4_translate_6 : decode cX4_translate 6 = .ok (.iconst 0, 1) := by decide +kernel
theorem dX4_translate_7 : decode cX4_translate 7 = .ok (.istore 4, 2) := by decide +kernel
theorem dX4_translate_9 : decode cX4_translate 9 = .ok (.iload 4, 2) := by decide +kernel
theorem dX4_translate_11 : decode cX4_translate 11 = .ok (.aload_n 0, 1) := by decide +kernel
theorem dX4_translate_12 : decode cX4_translate 12 = .ok (.getfield 14, 3) := by decide +kernel
theorem dX4_translate_15 : decode cX4_translate 15 = .ok (.invokevirtual 63, 3) := by decide +kernel
theorem dX4_translate_18 : decode cX4_translate 18 = .ok (.if_icmp .ge 68, 3) := by decide +kernel
theorem dX4_translate_21 : decode cX4_translate 21 = .ok (.aload_n 1, 1) := by decide +kernel
theorem dX4_translate_22 : decode cX4_translate 22 = .ok (.aload_n 0, 1) := by decide +kernel
theorem dX4_translate_23 : decode cX4_translate 23 = .ok (.getfield 14, 3) := by decide +kernel
theorem dX4_translate_26 : decode cX4_translate 26 = .ok (.invokevirtual 65, 3) := by decide +kernel
theorem dX4_translate_29 : decode cX4_translate 29 = .ok (.aload_n 0, 1) := by decide +kernel
theorem dX4_translate_30 : decode cX4_translate 30 = .ok (.getfield 14, 3) := by decide +kernel
theorem dX4_translate_33 : decode cX4_translate 33 = .ok (.iload 4, 2) := by decide +kernel
theorem dX4_translate_35 : decode cX4_translate 35 = .ok (.invokevirtual 69, 3) := by decide +kernel
theorem dX4_translate_38 : decode cX4_translate 38 = .ok (.aload_n 0, 1) := by decide +kernel
theorem dX4_translate_39 : decode cX4_translate 39 = .ok (.getfield 14, 3) := by decide +kernel
theorem dX4_translate_42 : decode cX4_translate 42 = .ok (.iload 4, 2) := by decide +kernel
theorem dX4_translate_44 : decode cX4_translate 44 = .ok (.invokevirtual 72, 3) := by decide +kernel
theorem dX4_translate_47 : decode cX4_translate 47 = .ok (.aload_n 0, 1) := by decide +kernel
theorem dX4_translate_48 : decode cX4_translate 48 = .ok (.getfield 41, 3) := by decide +kernel
theorem dX4_translate_51 : decode cX4_translate 51 = .ok (.aload_n 2, 1) := by decide +kernel
theorem dX4_translate_52 : decode cX4_translate 52 = .ok (.invokevirtual 75, 3) := by decide +kernel
theorem dX4_translate_55 : decode cX4_translate 55 = .ok (.aload_n 2, 1) := by decide +kernel
theorem dX4_translate_56 : decode cX4_translate 56 = .ok (.invokevirtual 56, 3) := by decide +kernel
theorem dX4_translate_59 : decode cX4_translate 59 = .ok (.aload_n 2, 1) := by decide +kernel
theorem dX4_translate_60 : decode cX4_translate 60 = .ok (.iload 4, 2) := by decide +kernel
theorem dX4_translate_62 : decode cX4_translate 62 = .ok (.aload_n 0, 1) := by decide +kernel
theorem dX4_translate_63 : decode cX4_translate 63 = .ok (.getfield 20, 3) := by decide +kernel
theorem dX4_translate_66 : decode cX4_translate 66 = .ok (.invokevirtual 81, 3) := by decide +kernel
theorem dX4_translate_69 : decode cX4_translate 69 = .ok (.ifCond .ne 11, 3) := by decide +kernel
theorem dX4_translate_72 : decode cX4_translate 72 = .ok (.iconst 1, 1) := by decide +kernel
theorem dX4_translate_73 : decode cX4_translate 73 = .ok (.istore_n 3, 1) := by decide +kernel
theorem dX4_translate_74 : decode cX4_translate 74 = .ok (.aload_n 0, 1) := by decide +kernel
theorem dX4_translate_75 : decode cX4_translate 75 = .ok (.iload 4, 2) := by decide +kernel
theorem dX4_translate_77 : decode cX4_translate 77 = .ok (.invokevirtual 85, 3) := by decide +kernel
theorem dX4_translate_80 : decode cX4_translate 80 = .ok (.iinc 4 1, 3) := by decide +kernel
theorem dX4_translate_83 : decode cX4_translate 83 = .ok (.goto (-74), 3) := by decide +kernel
theorem dX4_translate_86 : decode cX4_translate 86 = .ok (.aload_n 0, 1) := by decide +kernel
theorem dX4_translate_87 : decode cX4_translate 87 = .ok (.getfield 20, 3) := by decide +kernel
theorem dX4_translate_90 : decode cX4_translate 90 = .ok (.aload_n 2, 1) := by decide +kernel
theorem dX4_translate_91 : decode cX4_translate 91 = .ok (.invokevirtual 88, 3) := by decide +kernel
theorem dX4_translate_94 : decode cX4_translate 94 = .ok (.iload_n 3, 1) := by decide +kernel
theorem dX4_translate_95 : decode cX4_translate 95 = .ok (.ireturn, 1) := by decide +kernel
theorem dX4_lay_0 : decode cX4_lay 0 = .ok (.aload_n 0, 1) := by decide +kernel
theorem dX4_lay_1 : decode cX4_lay 1 = .ok (.getfield 32, 3) := by decide +kernel
theorem dX4_lay_4 : decode cX4_lay 4 = .ok (.invokevirtual 45, 3) := by decide +kernel
theorem dX4_lay_7 : decode cX4_lay 7 = .ok (.aload_n 0, 1) := by decide +kernel
theorem dX4_lay_8 : decode cX4_lay 8 = .ok (.getfield 35, 3) := by decide +kernel
theorem dX4_lay_11 : decode cX4_lay 11 = .ok (.invokevirtual 62, 3) := by decide +kernel
theorem dX4_lay_14 : decode cX4_lay 14 = .ok (.iconst 0, 1) := by decide +kernel
theorem dX4_lay_15 : decode cX4_lay 15 = .ok (.istore_n 2, 1) := by decide +kernel
theorem dX4_lay_16 : decode cX4_lay 16 = .ok (.iload_n 2, 1) := by decide +kernel
theorem dX4_lay_17 : decode cX4_lay 17 = .ok (.aload_n 0, 1) := by decide +kernel
theorem dX4_lay_18 : decode cX4_lay 18 = .ok (.getfield 20, 3) := by decide +kernel
theorem dX4_lay_21 : decode cX4_lay 21 = .ok (.invokevirtual 63, 3) := by decide +kernel
theorem dX4_lay_24 : decode cX4_lay 24 = .ok (.if_icmp .ge 90, 3) := by decide +kernel
theorem dX4_lay_27 : decode cX4_lay 27 = .ok (.aload_n 0, 1) := by decide +kernel
theorem dX4_lay_28 : decode cX4_lay 28 = .ok (.aload_n 0, 1) := by decide +kernel
theorem dX4_lay_29 : decode cX4_lay 29 = .ok (.getfield 20, 3) := by decide +kernel
theorem dX4_lay_32 : decode cX4_lay 32 = .ok (.iload_n 2, 1) := by decide +kernel
theorem dX4_lay_33 : decode cX4_lay 33 = .ok (.invokevirtual 92, 3) := by decide +kernel
theorem dX4_lay_36 : decode cX4_lay 36 = .ok (.iload_n 1, 1) := by decide +kernel
theorem dX4_lay_37 : decode cX4_lay 37 = .ok (.invokevirtual 95, 3) := by decide +kernel
theorem dX4_lay_40 : decode cX4_lay 40 = .ok (.aload_n 0, 1) := by decide +kernel
theorem dX4_lay_41 : decode cX4_lay 41 = .ok (.getfield 35, 3) := by decide +kernel
theorem dX4_lay_44 : decode cX4_lay 44 = .ok (.aload_n 0, 1) := by decide +kernel
theorem dX4_lay_45 : decode cX4_lay 45 = .ok (.getfield 32, 3) := by decide +kernel
theorem dX4_lay_48 : decode cX4_lay 48 = .ok (.invokevirtual 63, 3) := by decide +kernel
theorem dX4_lay_51 : decode cX4_lay 51 = .ok (.invokevirtual 64, 3) := by decide +kernel
theorem dX4_lay_54 : decode cX4_lay 54 = .ok (.iconst 0, 1) := by decide +kernel
theorem dX4_lay_55 : decode cX4_lay 55 = .ok (.istore_n 3, 1) := by decide +kernel
theorem dX4_lay_56 : decode cX4_lay 56 = .ok (.iload_n 3, 1) := by decide +kernel
theorem dX4_lay_57 : decode cX4_lay 57 = .ok (.aload_n 0, 1) := by decide +kernel
theorem dX4_lay_58 : decode cX4_lay 58 = .ok (.getfield 20, 3) := by decide +kernel
theorem dX4_lay_61 : decode cX4_lay 61 = .ok (.iload_n 2, 1) := by decide +kernel
theorem dX4_lay_62 : decode cX4_lay 62 = .ok (.invokevirtual 92, 3) := by decide +kernel
theorem dX4_lay_65 : decode cX4_lay 65 = .ok (.if_icmp .ge 43, 3) := by decide +kernel
theorem dX4_lay_68 : decode cX4_lay 68 = .ok (.aload_n 0, 1) := by decide +kernel
theorem dX4_lay_69 : decode cX4_lay 69 = .ok (.getfield 32, 3) := by decide +kernel
theorem dX4_lay_72 : decode cX4_lay 72 = .ok (.invokevirtual 98, 3) := by decide +kernel
theorem dX4_lay_75 : decode cX4_lay 75 = .ok (.iload_n 1, 1) := by decide +kernel
theorem dX4_lay_76 : decode cX4_lay 76 = .ok (.if_icmp .lt 10, 3) := by decide +kernel
theorem dX4_lay_79 : decode cX4_lay 79 = .ok (.aload_n 0, 1) := by decide +kernel
theorem dX4_lay_80 : decode cX4_lay 80 = .ok (.getfield 32, 3) := by decide +kernel
theorem dX4_lay_83 : decode cX4_lay 83 = .ok (.invokevirtual 56, 3) := by decide +kernel
theorem dX4_lay_86 : decode cX4_lay 86 = .ok (.aload_n 0, 1) := by decide +kernel
theorem dX4_lay_87 : decode cX4_lay 87 = .ok (.getfield 32, 3) := by decide +kernel
theorem dX4_lay_90 : decode cX4_lay 90 = .ok (.aload_n 0, 1) := by decide +kernel
theorem dX4_lay_91 : decode cX4_lay 91 = .ok (.getfield 20, 3) := by decide +kernel
theorem dX4_lay_94 : decode cX4_lay 94 = .ok (.iload_n 2, 1) := by decide +kernel
theorem dX4_lay_95 : decode cX4_lay 95 = .ok (.iload_n 3, 1) := by decide +kernel
theorem dX4_lay_96 : decode cX4_lay 96 = .ok (.invokevirtual 101, 3) := by decide +kernel
theorem dX4_lay_99 : decode cX4_lay 99 = .ok (.invokevirtual 59, 3) := by decide +kernel
theorem dX4_lay_102 : decode cX4_lay 102 = .ok (.iinc 3 1, 3) := by decide +kernel
theorem dX4_lay_105 : decode cX4_lay 105 = .ok (.goto (-49), 3) := by decide +kernel
theorem dX4_lay_108 : decode cX4_lay 108 = .ok (.iinc 2 1, 3) := by decide +kernel
theorem dX4_lay_111 : decode cX4_lay 111 = .ok (.goto (-95), 3) := by decide +kernel
theorem dX4_lay_114 : decode cX4_lay 114 = .ok (.aload_n 0, 1) := by decide +kernel
theorem dX4_lay_115 : decode cX4_lay 115 = .ok (.getfield 32, 3) := by decide +kernel
theorem dX4_lay_118 : decode cX4_lay 118 = .ok (.invokevirtual 56, 3) := by decide +kernel
theorem dX4_lay_121 : decode cX4_lay 121 = .ok (.return_, 1) := by decide +kernel
theorem dX4_beginWord_0 : decode cX4_beginWord 0 = .ok (.aload_n 0, 1) := by decide +kernel
theorem dX4_beginWord_1 : decode cX4_beginWord 1 = .ok (.getfield 32, 3) := by decide +kernel
theorem dX4_beginWord_4 : decode cX4_beginWord 4 = .ok (.invokevirtual 98, 3) := by decide +kernel
theorem dX4_beginWord_7 : decode cX4_beginWord 7 = .ok (.istore_n 3, 1) := by decide +kernel
theorem dX4_beginWord_8 : decode cX4_beginWord 8 = .ok (.iload_n 3, 1) := by decide +kernel
theorem dX4_beginWord_9 : decode cX4_beginWord 9 = .ok (.ifCond .le 23, 3) := by decide +kernel
theorem dX4_beginWord_12 : decode cX4_beginWord 12 = .ok (.iload_n 3, 1) := by decide +kernel
theorem dX4_beginWord_13 : decode cX4_beginWord 13 = .ok (.iconst 1, 1) := by decide +kernel
theorem dX4_beginWord_14 : decode cX4_beginWord 14 = .ok (.iadd, 1) := by decide +kernel
theorem dX4_beginWord_15 : decode cX4_beginWord 15 = .ok (.iload_n 1, 1) := by decide +kernel
theorem dX4_beginWord_16 : decode cX4_beginWord 16 = .ok (.iadd, 1) := by decide +kernel
theorem dX4_beginWord_17 : decode cX4_beginWord 17 = .ok (.iload_n 2, 1) := by decide +kernel
theorem dX4_beginWord_18 : decode cX4_beginWord 18 = .ok (.if_icmp .gt 14, 3) := by decide +kernel
theorem dX4_beginWord_21 : decode cX4_beginWord 21 = .ok (.aload_n 0, 1) := by decide +kernel
theorem dX4_beginWord_22 : decode cX4_beginWord 22 = .ok (.getfield 32, 3) := by decide +kernel
theorem dX4_beginWord_25 : decode cX4_beginWord 25 = .ok (.iconst 0, 1) := by decide +kernel
theorem dX4_beginWord_26 : decode cX4_beginWord 26 = .ok (.invokevirtual 59, 3) := by decide +kernel
theorem dX4_beginWord_29 : decode cX4_beginWord 29 = .ok (.goto 10, 3) := by decide +kernel
theorem dX4_beginWord_32 : decode cX4_beginWord 32 = .ok (.aload_n 0, 1) := by decide +kernel
theorem dX4_beginWord_33 : decode cX4_beginWord 33 = .ok (.getfield 32, 3) := by decide +kernel
theorem dX4_beginWord_36 : decode cX4_beginWord 36 = .ok (.invokevirtual 56, 3) := by decide +kernel
theorem dX4_beginWord_39 : decode cX4_beginWord 39 = .ok (.return_, 1) := by decide +kernel
theorem dX4_wordCount_0 : decode cX4_wordCount 0 = .ok (.aload_n 0, 1) := by decide +kernel
theorem dX4_wordCount_1 : decode cX4_wordCount 1 = .ok (.getfield 14, 3) := by decide +kernel
theorem dX4_wordCount_4 : decode cX4_wordCount 4 = .ok (.invokevirtual 63, 3) := by decide +kernel
theorem dX4_wordCount_7 : decode cX4_wordCount 7 = .ok (.ireturn, 1) := by decide +kernel
theorem dX4_cellCount_0 : decode cX4_cellCount 0 = .ok (.aload_n 0, 1) := by decide +kernel
theorem dX4_cellCount_1 : decode cX4_cellCount 1 = .ok (.getfield 20, 3) := by decide +kernel
theorem dX4_cellCount_4 : decode cX4_cellCount 4 = .ok (.iload_n 1, 1) := by decide +kernel
theorem dX4_cellCount_5 : decode cX4_cellCount 5 = .ok (.invokevirtual 92, 3) := by decide +kernel
theorem dX4_cellCount_8 : decode cX4_cellCount 8 = .ok (.ireturn, 1) := by decide +kernel
theorem dX4_cellAt_0 : decode cX4_cellAt 0 = .ok (.aload_n 0, 1) := by decide +kernel
theorem dX4_cellAt_1 : decode cX4_cellAt 1 = .ok (.getfield 20, 3) := by decide +kernel
theorem dX4_cellAt_4 : decode cX4_cellAt 4 = .ok (.iload_n 1, 1) := by decide +kernel
theorem dX4_cellAt_5 : decode cX4_cellAt 5 = .ok (.iload_n 2, 1) := by decide +kernel
theorem dX4_cellAt_6 : decode cX4_cellAt 6 = .ok (.invokevirtual 101, 3) := by decide +kernel
theorem dX4_cellAt_9 : decode cX4_cellAt 9 = .ok (.ireturn, 1) := by decide +kernel
theorem dX4_lineCount_0 : decode cX4_lineCount 0 = .ok (.aload_n 0, 1) := by decide +kernel
theorem dX4_lineCount_1 : decode cX4_lineCount 1 = .ok (.getfield 32, 3) := by decide +kernel
theorem dX4_lineCount_4 : decode cX4_lineCount 4 = .ok (.invokevirtual 63, 3) := by decide +kernel
theorem dX4_lineCount_7 : decode cX4_lineCount 7 = .ok (.ireturn, 1) := by decide +kernel
theorem dX4_lineSize_0 : decode cX4_lineSize 0 = .ok (.aload_n 0, 1) := by decide +kernel
theorem dX4_lineSize_1 : decode cX4_lineSize 1 = .ok (.getfield 32, 3) := by decide +kernel
theorem dX4_lineSize_4 : decode cX4_lineSize 4 = .ok (.iload_n 1, 1) := by decide +kernel
theorem dX4_lineSize_5 : decode cX4_lineSize 5 = .ok (.invokevirtual 92, 3) := by decide +kernel
theorem dX4_lineSize_8 : decode cX4_lineSize 8 = .ok (.ireturn, 1) := by decide +kernel
theorem dX4_laidCellAt_0 : decode cX4_laidCellAt 0 = .ok (.aload_n 0, 1) := by decide +kernel
theorem dX4_laidCellAt_1 : decode cX4_laidCellAt 1 = .ok (.getfield 32, 3) := by decide +kernel
theorem dX4_laidCellAt_4 : decode cX4_laidCellAt 4 = .ok (.iload_n 1, 1) := by decide +kernel
theorem dX4_laidCellAt_5 : decode cX4_laidCellAt 5 = .ok (.iload_n 2, 1) := by decide +kernel
theorem dX4_laidCellAt_6 : decode cX4_laidCellAt 6 = .ok (.invokevirtual 101, 3) := by decide +kernel
theorem dX4_laidCellAt_9 : decode cX4_laidCellAt 9 = .ok (.ireturn, 1) := by decide +kernel
theorem dX4_firstLineOf_0 : decode cX4_firstLineOf 0 = .ok (.aload_n 0, 1) := by decide +kernel
theorem dX4_firstLineOf_1 : decode cX4_firstLineOf 1 = .ok (.getfield 35, 3) := by decide +kernel
theorem dX4_firstLineOf_4 : decode cX4_firstLineOf 4 = .ok (.iload_n 1, 1) := by decide +kernel
theorem dX4_firstLineOf_5 : decode cX4_firstLineOf 5 = .ok (.invokevirtual 52, 3) := by decide +kernel
theorem dX4_firstLineOf_8 : decode cX4_firstLineOf 8 = .ok (.ireturn, 1) := by decide +kernel
theorem dX4_isOther_0 : decode cX4_isOther 0 = .ok (.aload_n 0, 1) := by decide +kernel
theorem dX4_isOther_1 : decode cX4_isOther 1 = .ok (.getfield 32, 3) := by decide +kernel
theorem dX4_isOther_4 : decode cX4_isOther 4 = .ok (.iload_n 1, 1) := by decide +kernel
theorem dX4_isOther_5 : decode cX4_isOther 5 = .ok (.aload_n 0, 1) := by decide +kernel
theorem dX4_isOther_6 : decode cX4_isOther 6 = .ok (.getfield 38, 3) := by decide +kernel
theorem dX4_isOther_9 : decode cX4_isOther 9 = .ok (.invokevirtual 81, 3) := by decide +kernel
theorem dX4_isOther_12 : decode cX4_isOther 12 = .ok (.ifCond .ne 7, 3) := by decide +kernel
theorem dX4_isOther_15 : decode cX4_isOther 15 = .ok (.iconst 1, 1) := by decide +kernel
theorem dX4_isOther_16 : decode cX4_isOther 16 = .ok (.goto 4, 3) := by decide +kernel
theorem dX4_isOther_19 : decode cX4_isOther 19 = .ok (.iconst 0, 1) := by decide +kernel
theorem dX4_isOther_20 : decode cX4_isOther 20 = .ok (.ireturn, 1) := by decide +kernel
theorem dX4_otherLineCount_0 : decode cX4_otherLineCount 0 = .ok (.iconst 0, 1) := by decide +kernel
theorem dX4_otherLineCount_1 : decode cX4_otherLineCount 1 = .ok (.istore_n 1, 1) := by decide +kernel
theorem dX4_otherLineCount_2 : decode cX4_otherLineCount 2 = .ok (.iconst 0, 1) := by decide +kernel
theorem dX4_otherLineCount_3 : decode cX4_otherLineCount 3 = .ok (.istore_n 2, 1) := by decide +kernel
theorem dX4_otherLineCount_4 : decode cX4_otherLineCount 4 = .ok (.iload_n 2, 1) := by decide +kernel
theorem dX4_otherLineCount_5 : decode cX4_otherLineCount 5 = .ok (.aload_n 0, 1) := by decide +kernel
theorem dX4_otherLineCount_6 : decode cX4_otherLineCount 6 = .ok (.getfield 32, 3) := by decide +kernel
theorem dX4_otherLineCount_9 : decode cX4_otherLineCount 9 = .ok (.invokevirtual 63, 3) := by decide +kernel
theorem dX4_otherLineCount_12 : decode cX4_otherLineCount 12 = .ok (.aload_n 0, 1) := by decide +kernel
theorem dX4_otherLineCount_13 : decode cX4_otherLineCount 13 = .ok (.getfield 38, 3) := by decide +kernel
theorem dX4_otherLineCount_16 : decode cX4_otherLineCount 16 = .ok (.invokevirtual 63, 3) := by decide +kernel
theorem dX4_otherLineCount_19 : decode cX4_otherLineCount 19 = .ok (.invokestatic 104, 3) := by decide +kernel
theorem dX4_otherLineCount_22 : decode cX4_otherLineCount 22 = .ok (.if_icmp .ge 25, 3) := by decide +kernel
theorem dX4_otherLineCount_25 : decode cX4_otherLineCount 25 = .ok (.iload_n 1, 1) := by decide +kernel
theorem dX4_otherLineCount_26 : decode cX4_otherLineCount 26 = .ok (.aload_n 0, 1) := by decide +kernel
theorem dX4_otherLineCount_27 : decode cX4_otherLineCount 27 = .ok (.iload_n 2, 1) := by decide +kernel
theorem dX4_otherLineCount_28 : decode cX4_otherLineCount 28 = .ok (.invokevirtual 109, 3) := by decide +kernel
theorem dX4_otherLineCount_31 : decode cX4_otherLineCount 31 = .ok (.ifCond .eq 7, 3) := by decide +kernel
theorem dX4_otherLineCount_34 : decode cX4_otherLineCount 34 = .ok (.iconst 1, 1) := by decide +kernel
theorem dX4_otherLineCount_35 : decode cX4_otherLineCount 35 = .ok (.goto 4, 3) := by decide +kernel
theorem dX4_otherLineCount_38 : decode cX4_otherLineCount 38 = .ok (.iconst 0, 1) := by decide +kernel
theorem dX4_otherLineCount_39 : decode cX4_otherLineCount 39 = .ok (.iadd, 1) := by decide +kernel
theorem dX4_otherLineCount_40 : decode cX4_otherLineCount 40 = .ok (.istore_n 1, 1) := by decide +kernel
theorem dX4_otherLineCount_41 : decode cX4_otherLineCount 41 = .ok (.iinc 2 1, 3) := by decide +kernel
theorem dX4_otherLineCount_44 : decode cX4_otherLineCount 44 = .ok (.goto (-40), 3) := by decide +kernel
theorem dX4_otherLineCount_47 : decode cX4_otherLineCount 47 = .ok (.iload_n 1, 1) := by decide +kernel
theorem dX4_otherLineCount_48 : decode cX4_otherLineCount 48 = .ok (.ireturn, 1) := by decide +kernel
theorem dX4_keepAsEmbossed_0 : decode cX4_keepAsEmbossed 0 = .ok (.aload_n 0, 1) := by decide +kernel
theorem dX4_keepAsEmbossed_1 : decode cX4_keepAsEmbossed 1 = .ok (.getfield 38, 3) := by decide +kernel
theorem dX4_keepAsEmbossed_4 : decode cX4_keepAsEmbossed 4 = .ok (.aload_n 0, 1) := by decide +kernel
theorem dX4_keepAsEmbossed_5 : decode cX4_keepAsEmbossed 5 = .ok (.getfield 32, 3) := by decide +kernel
theorem dX4_keepAsEmbossed_8 : decode cX4_keepAsEmbossed 8 = .ok (.invokevirtual 88, 3) := by decide +kernel
theorem dX4_keepAsEmbossed_11 : decode cX4_keepAsEmbossed 11 = .ok (.return_, 1) := by decide +kernel
theorem dX4_putMark_0 : decode cX4_putMark 0 = .ok (.aload_n 0, 1) := by decide +kernel
theorem dX4_putMark_1 : decode cX4_putMark 1 = .ok (.getfield 28, 3) := by decide +kernel
theorem dX4_putMark_4 : decode cX4_putMark 4 = .ok (.iconst 2, 1) := by decide +kernel
theorem dX4_putMark_5 : decode cX4_putMark 5 = .ok (.iload_n 2, 1) := by decide +kernel
theorem dX4_putMark_6 : decode cX4_putMark 6 = .ok (.imul, 1) := by decide +kernel
theorem dX4_putMark_7 : decode cX4_putMark 7 = .ok (.iload_n 1, 1) := by decide +kernel
theorem dX4_putMark_8 : decode cX4_putMark 8 = .ok (.iadd, 1) := by decide +kernel
theorem dX4_putMark_9 : decode cX4_putMark 9 = .ok (.iload_n 3, 1) := by decide +kernel
theorem dX4_putMark_10 : decode cX4_putMark 10 = .ok (.invokevirtual 113, 3) := by decide +kernel
theorem dX4_putMark_13 : decode cX4_putMark 13 = .ok (.return_, 1) := by decide +kernel
theorem dX4_markBy_0 : decode cX4_markBy 0 = .ok (.aload_n 0, 1) := by decide +kernel
theorem dX4_markBy_1 : decode cX4_markBy 1 = .ok (.getfield 28, 3) := by decide +kernel
theorem dX4_markBy_4 : decode cX4_markBy 4 = .ok (.iconst 2, 1) := by decide +kernel
theorem dX4_markBy_5 : decode cX4_markBy 5 = .ok (.iload_n 2, 1) := by decide +kernel
theorem dX4_markBy_6 : decode cX4_markBy 6 = .ok (.imul, 1) := by decide +kernel
theorem dX4_markBy_7 : decode cX4_markBy 7 = .ok (.iload_n 1, 1) := by decide +kernel
theorem dX4_markBy_8 : decode cX4_markBy 8 = .ok (.iadd, 1) := by decide +kernel
theorem dX4_markBy_9 : decode cX4_markBy 9 = .ok (.invokevirtual 52, 3) := by decide +kernel
theorem dX4_markBy_12 : decode cX4_markBy 12 = .ok (.i2c, 1) := by decide +kernel
theorem dX4_markBy_13 : decode cX4_markBy 13 = .ok (.ireturn, 1) := by decide +kernel
theorem dX4_unmark_0 : decode cX4_unmark 0 = .ok (.iconst 0, 1) := by decide +kernel
theorem dX4_unmark_1 : decode cX4_unmark 1 = .ok (.istore_n 2, 1) := by decide +kernel
theorem dX4_unmark_2 : decode cX4_unmark 2 = .ok (.iload_n 2, 1) := by decide +kernel
theorem dX4_unmark_3 : decode cX4_unmark 3 = .ok (.iconst 2, 1) := by decide +kernel
theorem dX4_unmark_4 : decode cX4_unmark 4 = .ok (.if_icmp .ge 17, 3) := by decide +kernel
theorem dX4_unmark_7 : decode cX4_unmark 7 = .ok (.aload_n 0, 1) := by decide +kernel
theorem dX4_unmark_8 : decode cX4_unmark 8 = .ok (.iload_n 2, 1) := by decide +kernel
theorem dX4_unmark_9 : decode cX4_unmark 9 = .ok (.iload_n 1, 1) := by decide +kernel
theorem dX4_unmark_10 : decode cX4_unmark 10 = .ok (.bipush 45, 2) := by decide +kernel
theorem dX4_unmark_12 : decode cX4_unmark 12 = .ok (.invokevirtual 116, 3) := by decide +kernel
theorem dX4_unmark_15 : decode cX4_unmark 15 = .ok (.iinc 2 1, 3) := by decide +kernel
theorem dX4_unmark_18 : decode cX4_unmark 18 = .ok (.goto (-16), 3) := by decide +kernel
theorem dX4_unmark_21 : decode cX4_unmark 21 = .ok (.return_, 1) := by decide +kernel
theorem dX4_isWellLaid_0 : decode cX4_isWellLaid 0 = .ok (.iconst 0, 1) := by decide +kernel
theorem dX4_isWellLaid_1 : decode cX4_isWellLaid 1 = .ok (.istore_n 2, 1) := by decide +kernel
theorem dX4_isWellLaid_2 : decode cX4_isWellLaid 2 = .ok (.iload_n 2, 1) := by decide +kernel
theorem dX4_isWellLaid_3 : decode cX4_isWellLaid 3 = .ok (.aload_n 0, 1) := by decide +kernel
theorem dX4_isWellLaid_4 : decode cX4_isWellLaid 4 = .ok (.getfield 32, 3) := by decide +kernel
theorem dX4_isWellLaid_7 : decode cX4_isWellLaid 7 = .ok (.invokevirtual 63, 3) := by decide +kernel
theorem dX4_isWellLaid_10 : decode cX4_isWellLaid 10 = .ok (.if_icmp .ge 23, 3) := by decide +kernel
theorem dX4_isWellLaid_13 : decode cX4_isWellLaid 13 = .ok (.aload_n 0, 1) := by decide +kernel
theorem dX4_isWellLaid_14 : decode cX4_isWellLaid 14 = .ok (.getfield 32, 3) := by decide +kernel
theorem dX4_isWellLaid_17 : decode cX4_isWellLaid 17 = .ok (.iload_n 2, 1) := by decide +kernel
theorem dX4_isWellLaid_18 : decode cX4_isWellLaid 18 = .ok (.invokevirtual 92, 3) := by decide +kernel
theorem dX4_isWellLaid_21 : decode cX4_isWellLaid 21 = .ok (.iload_n 1, 1) := by decide +kernel
theorem dX4_isWellLaid_22 : decode cX4_isWellLaid 22 = .ok (.if_icmp .le 5, 3) := by decide +kernel
theorem dX4_isWellLaid_25 : decode cX4_isWellLaid 25 = .ok (.iconst 0, 1) := by decide +kernel
theorem dX4_isWellLaid_26 : decode cX4_isWellLaid 26 = .ok (.ireturn, 1) := by decide +kernel
theorem dX4_isWellLaid_27 : decode cX4_isWellLaid 27 = .ok (.iinc 2 1, 3) := by decide +kernel
theorem dX4_isWellLaid_30 : decode cX4_isWellLaid 30 = .ok (.goto (-28), 3) := by decide +kernel
theorem dX4_isWellLaid_33 : decode cX4_isWellLaid 33 = .ok (.aload_n 0, 1) := by decide +kernel
theorem dX4_isWellLaid_34 : decode cX4_isWellLaid 34 = .ok (.getfield 32, 3) := by decide +kernel
theorem dX4_isWellLaid_37 : decode cX4_isWellLaid 37 = .ok (.invokevirtual 65, 3) := by decide +kernel
theorem dX4_isWellLaid_40 : decode cX4_isWellLaid 40 = .ok (.astore_n 2, 1) := by decide +kernel
theorem dX4_isWellLaid_41 : decode cX4_isWellLaid 41 = .ok (.iconst 0, 1) := by decide +kernel
theorem dX4_isWellLaid_42 : decode cX4_isWellLaid 42 = .ok (.istore_n 3, 1) := by decide +kernel
theorem dX4_isWellLaid_43 : decode cX4_isWellLaid 43 = .ok (.iconst 0, 1) := by decide +kernel
theorem dX4_isWellLaid_44 : decode cX4_isWellLaid 44 = .ok (.istore 4, 2) := by decide +kernel
theorem dX4_isWellLaid_46 : decode cX4_isWellLaid 46 = .ok (.iload 4, 2) := by decide +kernel
theorem dX4_isWellLaid_48 : decode cX4_isWellLaid 48 = .ok (.aload_n 2, 1) := by decide +kernel
theorem dX4_isWellLaid_49 : decode cX4_isWellLaid 49 = .ok (.invokevirtual 48, 3) := by decide +kernel
theorem dX4_isWellLaid_52 : decode cX4_isWellLaid 52 = .ok (.if_icmp .ge 43, 3) := by decide +kernel
theorem dX4_isWellLaid_55 : decode cX4_isWellLaid 55 = .ok (.aload_n 2, 1) := by decide +kernel
theorem dX4_isWellLaid_56 : decode cX4_isWellLaid 56 = .ok (.iload 4, 2) := by decide +kernel
theorem dX4_isWellLaid_58 : decode cX4_isWellLaid 58 = .ok (.invokevirtual 52, 3) := by decide +kernel
theorem dX4_isWellLaid_61 : decode cX4_isWellLaid 61 = .ok (.ifCond .eq 28, 3) := by decide +kernel
theorem dX4_isWellLaid_64 : decode cX4_isWellLaid 64 = .ok (.aload_n 2, 1) := by decide +kernel
theorem dX4_isWellLaid_65 : decode cX4_isWellLaid 65 = .ok (.iload 4, 2) := by decide +kernel
theorem dX4_isWellLaid_67 : decode cX4_isWellLaid 67 = .ok (.invokevirtual 52, 3) := by decide +kernel
theorem dX4_isWellLaid_70 : decode cX4_isWellLaid 70 = .ok (.aload_n 0, 1) := by decide +kernel
theorem dX4_isWellLaid_71 : decode cX4_isWellLaid 71 = .ok (.getfield 20, 3) := by decide +kernel
theorem dX4_isWellLaid_74 : decode cX4_isWellLaid 74 = .ok (.invokevirtual 65, 3) := by decide +kernel
theorem dX4_isWellLaid_77 : decode cX4_isWellLaid 77 = .ok (.iload_n 3, 1) := by decide +kernel
theorem dX4_isWellLaid_78 : decode cX4_isWellLaid 78 = .ok (.invokevirtual 52, 3) := by decide +kernel
theorem dX4_isWellLaid_81 : decode cX4_isWellLaid 81 = .ok (.if_icmp .eq 5, 3) := by decide +kernel
theorem dX4_isWellLaid_84 : decode cX4_isWellLaid 84 = .ok (.iconst 0, 1) := by decide +kernel
theorem dX4_isWellLaid_85 : decode cX4_isWellLaid 85 = .ok (.ireturn, 1) := by decide +kernel
theorem dX4_isWellLaid_86 : decode cX4_isWellLaid 86 = .ok (.iinc 3 1, 3) := by decide +kernel
theorem dX4_isWellLaid_89 : decode cX4_isWellLaid 89 = .ok (.iinc 4 1, 3) := by decide +kernel
theorem dX4_isWellLaid_92 : decode cX4_isWellLaid 92 = .ok (.goto (-46), 3) := by decide +kernel
theorem dX4_isWellLaid_95 : decode cX4_isWellLaid 95 = .ok (.iload_n 3, 1) := by decide +kernel
theorem dX4_isWellLaid_96 : decode cX4_isWellLaid 96 = .ok (.aload_n 0, 1) := by decide +kernel
theorem dX4_isWellLaid_97 : decode cX4_isWellLaid 97 = .ok (.getfield 20, 3) := by decide +kernel
theorem dX4_isWellLaid_100 : decode cX4_isWellLaid 100 = .ok (.invokevirtual 65, 3) := by decide +kernel
theorem dX4_isWellLaid_103 : decode cX4_isWellLaid 103 = .ok (.invokevirtual 48, 3) := by decide +kernel
theorem dX4_isWellLaid_106 : decode cX4_isWellLaid 106 = .ok (.if_icmp .ne 7, 3) := by decide +kernel
theorem dX4_isWellLaid_109 : decode cX4_isWellLaid 109 = .ok (.iconst 1, 1) := by decide +kernel
theorem dX4_isWellLaid_110 : decode cX4_isWellLaid 110 = .ok (.goto 4, 3) := by decide +kernel
theorem dX4_isWellLaid_113 : decode cX4_isWellLaid 113 = .ok (.iconst 0, 1) := by decide +kernel
theorem dX4_isWellLaid_114 : decode cX4_isWellLaid 114 = .ok (.ireturn, 1) := by decide +kernel
theorem dX5_init_0 : decode cX5_init 0 = .ok (.aload_n 0, 1) := by decide +kernel
theorem dX5_init_1 : decode cX5_init 1 = .ok (.invokespecial 3, 3) := by decide +kernel
theorem dX5_init_4 : decode cX5_init 4 = .ok (.aload_n 0, 1) := by decide +kernel
theorem dX5_init_5 : decode cX5_init 5 = .ok (.new 9, 3) := by decide +kernel
theorem dX5_init_8 : decode cX5_init 8 = .ok (.dup, 1) := by decide +kernel
theorem dX5_init_9 : decode cX5_init 9 = .ok (.bipush 80, 2) := by decide +kernel
theorem dX5_init_11 : decode cX5_init 11 = .ok (.invokespecial 11, 3) := by decide +kernel
theorem dX5_init_14 : decode cX5_init 14 = .ok (.putfield 14, 3) := by decide +kernel
theorem dX5_init_17 : decode cX5_init 17 = .ok (.aload_n 0, 1) := by decide +kernel
theorem dX5_init_18 : decode cX5_init 18 = .ok (.new 18, 3) := by decide +kernel
theorem dX5_init_21 : decode cX5_init 21 = .ok (.dup, 1) := by decide +kernel
theorem dX5_init_22 : decode cX5_init 22 = .ok (.invokespecial 20, 3) := by decide +kernel
theorem dX5_init_25 : decode cX5_init 25 = .ok (.putfield 21, 3) := by decide +kernel
theorem dX5_init_28 : decode cX5_init 28 = .ok (.aload_n 0, 1) := by decide +kernel
theorem dX5_init_29 : decode cX5_init 29 = .ok (.new 25, 3) := by decide +kernel
theorem dX5_init_32 : decode cX5_init 32 = .ok (.dup, 1) := by decide +kernel
theorem dX5_init_33 : decode cX5_init 33 = .ok (.invokespecial 27, 3) := by decide +kernel
theorem dX5_init_36 : decode cX5_init 36 = .ok (.putfield 28, 3) := by decide +kernel
theorem dX5_init_39 : decode cX5_init 39 = .ok (.aload_n 0, 1) := by decide +kernel
theorem dX5_init_40 : decode cX5_init 40 = .ok (.bipush 6, 2) := by decide +kernel
theorem dX5_init_42 : decode cX5_init 42 = .ok (.anewarray 32, 3) := by decide +kernel
theorem dX5_init_45 : decode cX5_init 45 = .ok (.putfield 34, 3) := by decide +kernel
theorem dX5_init_48 : decode cX5_init 48 = .ok (.aload_n 0, 1) := by decide +kernel
theorem dX5_init_49 : decode cX5_init 49 = .ok (.new 38, 3) := by decide +kernel
theorem dX5_init_52 : decode cX5_init 52 = .ok (.dup, 1) := by decide +kernel
theorem dX5_init_53 : decode cX5_init 53 = .ok (.bipush 40, 2) := by decide +kernel
theorem dX5_init_55 : decode cX5_init 55 = .ok (.sipush 160, 3) := by decide +kernel
theorem dX5_init_58 : decode cX5_init 58 = .ok (.invokespecial 40, 3) := by decide +kernel
theorem dX5_init_61 : decode cX5_init 61 = .ok (.putfield 43, 3) := by decide +kernel
theorem dX5_init_64 : decode cX5_init 64 = .ok (.aload_n 0, 1) := by decide +kernel
theorem dX5_init_65 : decode cX5_init 65 = .ok (.iconst 0, 1) := by decide +kernel
theorem dX5_init_66 : decode cX5_init 66 = .ok (.putfield 47, 3) := by decide +kernel
theorem dX5_init_69 : decode cX5_init 69 = .ok (.aload_n 0, 1) := by decide +kernel
theorem dX5_init_70 : decode cX5_init 70 = .ok (.bipush 20, 2) := by decide +kernel
theorem dX5_init_72 : decode cX5_init 72 = .ok (.putfield 51, 3) := by decide +kernel
theorem dX5_init_75 : decode cX5_init 75 = .ok (.return_, 1) := by decide +kernel
theorem dX5_type_0 : decode cX5_type 0 = .ok (.iload_n 1, 1) := by decide +kernel
theorem dX5_type_1 : decode cX5_type 1 = .ok (.bipush 32, 2) := by decide +kernel
theorem dX5_type_3 : decode cX5_type 3 = .ok (.if_icmp .eq 25, 3) := by decide +kernel
theorem dX5_type_6 : decode cX5_type 6 = .ok (.iload_n 1, 1) := by decide +kernel
theorem dX5_type_7 : decode cX5_type 7 = .ok (.bipush 97, 2) := by decide +kernel
theorem dX5_type_9 : decode cX5_type 9 = .ok (.if_icmp .lt 9, 3) := by decide +kernel
theorem dX5_type_12 : decode cX5_type 12 = .ok (.iload_n 1, 1) := by decide +kernel
theorem dX5_type_13 : decode cX5_type 13 = .ok (.bipush 122, 2) := by decide +kernel
theorem dX5_type_15 : decode cX5_type 15 = .ok (.if_icmp .le 13, 3) := by decide +kernel
theorem dX5_type_18 : decode cX5_type 18 = .ok (.new 54, 3) := by decide +kernel
theorem dX5_type_21 : decode cX5_type 21 = .ok (.dup, 1) := by decide +kernel
theorem dX5_type_22 : decode cX5_type 22 = .ok (.ldc 56, 2) := by decide +kernel
theorem dX5_type_24 : decode cX5_type 24 = .ok (.invokespecial 58, 3) := by decide +kernel
theorem dX5_type_27 : decode cX5_type 27 = .ok (.athrow, 1) := by decide +kernel
theorem dX5_type_28 : decode cX5_type 28 = .ok (.aload_n 0, 1) := by decide +kernel
theorem dX5_type_29 : decode cX5_type 29 = .ok (.getfield 14, 3) := by decide +kernel
theorem dX5_type_32 : decode cX5_type 32 = .ok (.invokevirtual 61, 3) := by decide +kernel
theorem dX5_type_35 : decode cX5_type 35 = .ok (.ifCond .eq 13, 3) := by decide +kernel
theorem dX5_type_38 : decode cX5_type 38 = .ok (.new 65, 3) := by decide +kernel
theorem dX5_type_41 : decode cX5_type 41 = .ok (.dup, 1) := by decide +kernel
theorem dX5_type_42 : decode cX5_type 42 = .ok (.ldc 67, 2) := by decide +kernel
theorem dX5_type_44 : decode cX5_type 44 = .ok (.invokespecial 69, 3) := by decide +kernel
theorem dX5_type_47 : decode cX5_type 47 = .ok (.athrow, 1) := by decide +kernel
theorem dX5_type_48 : decode cX5_type 48 = .ok (.aload_n 0, 1) := by decide +kernel
theorem dX5_type_49 : decode cX5_type 49 = .ok (.getfield 14, 3) := by decide +kernel
theorem dX5_type_52 : decode cX5_type 52 = .ok (.iload_n 1, 1) := by decide +kernel
theorem dX5_type_53 : decode cX5_type 53 = .ok (.invokevirtual 70, 3) := by decide +kernel
theorem dX5_type_56 : decode cX5_type 56 = .ok (.aload_n 0, 1) := by decide +kernel
theorem dX5_type_57 : decode cX5_type 57 = .ok (.getfield 14, 3) := by decide +kernel
theorem dX5_type_60 : decode cX5_type 60 = .ok (.invokevirtual 73, 3) := by decide +kernel
theorem dX5_type_63 : decode cX5_type 63 = .ok (.ireturn, 1) := by decide +kernel
theorem dX5_clear_0 : decode cX5_clear 0 = .ok (.aload_n 0, 1) := by decide +kernel
theorem dX5_clear_1 : decode cX5_clear 1 = .ok (.getfield 14, 3) := by decide +kernel
theorem dX5_clear_4 : decode cX5_clear 4 = .ok (.invokevirtual 73, 3) := by decide +kernel
theorem dX5_clear_7 : decode cX5_clear 7 = .ok (.istore_n 1, 1) := by decide +kernel
theorem dX5_clear_8 : decode cX5_clear 8 = .ok (.aload_n 0, 1) := by decide +kernel
theorem dX5_clear_9 : decode cX5_clear 9 = .ok (.getfield 14, 3) := by decide +kernel
theorem dX5_clear_12 : decode cX5_clear 12 = .ok (.invokevirtual 77, 3) := by decide +kernel
theorem dX5_clear_15 : decode cX5_clear 15 = .ok (.iload_n 1, 1) := by decide +kernel
theorem dX5_clear_16 : decode cX5_clear 16 = .ok (.ireturn, 1) := by decide +kernel
theorem dX5_addRule_0 : decode cX5_addRule 0 = .ok (.aload_n 0, 1) := by decide +kernel
theorem dX5_addRule_1 : decode cX5_addRule 1 = .ok (.invokevirtual 80, 3) := by decide +kernel
theorem dX5_addRule_4 : decode cX5_addRule 4 = .ok (.istore 4, 2) := by decide +kernel
theorem dX5_addRule_6 : decode cX5_addRule 6 = .ok (.iload_n 1, 1) := by decide +kernel
theorem dX5_addRule_7 : decode cX5_addRule 7 = .ok (.iload_n 2, 1) := by decide +kernel
theorem dX5_addRule_8 : decode cX5_addRule 8 = .ok (.iload_n 3, 1) := by decide +kernel
theorem dX5_addRule_9 : decode cX5_addRule 9 = .ok (.invokestatic 83, 3) := by decide +kernel
theorem dX5_addRule_12 : decode cX5_addRule 12 = .ok (.ifCond .eq 8, 3) := by decide +kernel
theorem dX5_addRule_15 : decode cX5_addRule 15 = .ok (.iload 4, 2) := by decide +kernel
theorem dX5_addRule_17 : decode cX5_addRule 17 = .ok (.ifCond .ne 13, 3) := by decide +kernel
theorem dX5_addRule_20 : decode cX5_addRule 20 = .ok (.new 54, 3) := by decide +kernel
theorem dX5_addRule_23 : decode cX5_addRule 23 = .ok (.dup, 1) := by decide +kernel
theorem dX5_addRule_24 : decode cX5_addRule 24 = .ok (.ldc 87, 2) := by decide +kernel
theorem dX5_addRule_26 : decode cX5_addRule 26 = .ok (.invokespecial 58, 3) := by decide +kernel
theorem dX5_addRule_29 : decode cX5_addRule 29 = .ok (.athrow, 1) := by decide +kernel
theorem dX5_addRule_30 : decode cX5_addRule 30 = .ok (.aload_n 0, 1) := by decide +kernel
theorem dX5_addRule_31 : decode cX5_addRule 31 = .ok (.getfield 21, 3) := by decide +kernel
theorem dX5_addRule_34 : decode cX5_addRule 34 = .ok (.invokevirtual 89, 3) := by decide +kernel
theorem dX5_addRule_37 : decode cX5_addRule 37 = .ok (.ifCond .eq 13, 3) := by decide +kernel
theorem dX5_addRule_40 : decode cX5_addRule 40 = .ok (.new 65, 3) := by decide +kernel
theorem dX5_addRule_43 : decode cX5_addRule 43 = .ok (.dup, 1) := by decide +kernel
theorem dX5_addRule_44 : decode cX5_addRule 44 = .ok (.ldc 90, 2) := by decide +kernel
theorem dX5_addRule_46 : decode cX5_addRule 46 = .ok (.invokespecial 69, 3) := by decide +kernel
theorem dX5_addRule_49 : decode cX5_addRule 49 = .ok (.athrow, 1) := by decide +kernel
theorem dX5_addRule_50 : decode cX5_addRule 50 = .ok (.aload_n 0, 1) := by decide +kernel
theorem dX5_addRule_51 : decode cX5_addRule 51 = .ok (.getfield 21, 3) := by decide +kernel
theorem dX5_addRule_54 : decode cX5_addRule 54 = .ok (.iload 4, 2) := by decide +kernel
theorem dX5_addRule_56 : decode cX5_addRule 56 = .ok (.invokevirtual 92, 3) := by decide +kernel
theorem dX5_addRule_59 : decode cX5_addRule 59 = .ok (.iconst (-1), 1) := by decide +kernel
theorem dX5_addRule_60 : decode cX5_addRule 60 = .ok (.if_icmp .eq 13, 3) := by decide +kernel
theorem dX5_addRule_63 : decode cX5_addRule 63 = .ok (.new 96, 3) := by decide +kernel
theorem dX5_addRule_66 : decode cX5_addRule 66 = .ok (.dup, 1) := by decide +kernel
theorem dX5_addRule_67 : decode cX5_addRule 67 = .ok (.ldc 98, 2) := by decide +kernel
theorem dX5_addRule_69 : decode cX5_addRule 69 = .ok (.invokespecial 100, 3) := by decide +kernel
theorem dX5_addRule_72 : decode cX5_addRule 72 = .ok (.athrow, 1) := by decide +kernel
theorem dX5_addRule_73 : decode cX5_addRule 73 = .ok (.aload_n 0, 1) := by decide +kernel
theorem dX5_addRule_74 : decode cX5_addRule 74 = .ok (.getfield 21, 3) := by decide +kernel
theorem dX5_addRule_77 : decode cX5_addRule 77 = .ok (.iload 4, 2) := by decide +kernel
theorem dX5_addRule_79 : decode cX5_addRule 79 = .ok (.iload_n 1, 1) := by decide +kernel
theorem dX5_addRule_80 : decode cX5_addRule 80 = .ok (.iload_n 2, 1) := by decide +kernel
theorem dX5_addRule_81 : decode cX5_addRule 81 = .ok (.iload_n 3, 1) := by decide +kernel
theorem dX5_addRule_82 : decode cX5_addRule 82 = .ok (.invokevirtual 101, 3) := by decide +kernel
theorem dX5_addRule_85 : decode cX5_addRule 85 = .ok (.istore 5, 2) := by decide +kernel
theorem dX5_addRule_87 : decode cX5_addRule 87 = .ok (.aload_n 0, 1) := by decide +kernel
theorem dX5_addRule_88 : decode cX5_addRule 88 = .ok (.getfield 14, 3) := by decide +kernel
theorem dX5_addRule_91 : decode cX5_addRule 91 = .ok (.invokevirtual 77, 3) := by decide +kernel
theorem dX5_addRule_94 : decode cX5_addRule 94 = .ok (.aload_n 0, 1) := by decide +kernel
theorem dX5_addRule_95 : decode cX5_addRule 95 = .ok (.invokevirtual 105, 3) := by decide +kernel
theorem dX5_addRule_98 : decode cX5_addRule 98 = .ok (.pop, 1) := by decide +kernel
theorem dX5_addRule_99 : decode cX5_addRule 99 = .ok (.iload 5, 2) := by decide +kernel
theorem dX5_addRule_101 : decode cX5_addRule 101 = .ok (.ireturn, 1) := by decide +kernel
theorem dX5_mend_0 : decode cX5_mend 0 = .ok (.iload_n 1, 1) := by decide +kernel
theorem dX5_mend_1 : decode cX5_mend 1 = .ok (.iload_n 2, 1) := by decide +kernel
theorem dX5_mend_2 : decode cX5_mend 2 = .ok (.iload_n 3, 1) := by decide +kernel
theorem dX5_mend_3 : decode cX5_mend 3 = .ok (.invokestatic 83, 3) := by decide +kernel
theorem dX5_mend_6 : decode cX5_mend 6 = .ok (.ifCond .ne 13, 3) := by decide +kernel
theorem dX5_mend_9 : decode cX5_mend 9 = .ok (.new 54, 3) := by decide +kernel
theorem dX5_mend_12 : decode cX5_mend 12 = .ok (.dup, 1) := by decide +kernel
theorem dX5_mend_13 : decode cX5_mend 13 = .ok (.ldc 108, 2) := by decide +kernel
theorem dX5_mend_15 : decode cX5_mend 15 = .ok (.invokespecial 58, 3) := by decide +kernel
theorem dX5_mend_18 : decode cX5_mend 18 = .ok (.athrow, 1) := by decide +kernel
theorem dX5_mend_19 : decode cX5_mend 19 = .ok (.aload_n 0, 1) := by decide +kernel
theorem dX5_mend_20 : decode cX5_mend 20 = .ok (.getfield 21, 3) := by decide +kernel
theorem dX5_mend_23 : decode cX5_mend 23 = .ok (.aload_n 0, 1) := by decide +kernel
theorem dX5_mend_24 : decode cX5_mend 24 = .ok (.invokevirtual 80, 3) := by decide +kernel
theorem dX5_mend_27 : decode cX5_mend 27 = .ok (.invokevirtual 92, 3) := by decide +kernel
theorem dX5_mend_30 : decode cX5_mend 30 = .ok (.istore 4, 2) := by decide +kernel
theorem dX5_mend_32 : decode cX5_mend 32 = .ok (.iload 4, 2) := by decide +kernel
theorem dX5_mend_34 : decode cX5_mend 34 = .ok (.iconst (-1), 1) := by decide +kernel
theorem dX5_mend_35 : decode cX5_mend 35 = .ok (.if_icmp .ne 13, 3) := by decide +kernel
theorem dX5_mend_38 : decode cX5_mend 38 = .ok (.new 110, 3) := by decide +kernel
theorem dX5_mend_41 : decode cX5_mend 41 = .ok (.dup, 1) := by decide +kernel
theorem dX5_mend_42 : decode cX5_mend 42 = .ok (.ldc 112, 2) := by decide +kernel
theorem dX5_mend_44 : decode cX5_mend 44 = .ok (.invokespecial 114, 3) := by decide +kernel
theorem dX5_mend_47 : decode cX5_mend 47 = .ok (.athrow, 1) := by decide +kernel
theorem dX5_mend_48 : decode cX5_mend 48 = .ok (.aload_n 0, 1) := by decide +kernel
theorem dX5_mend_49 : decode cX5_mend 49 = .ok (.getfield 21, 3) := by decide +kernel
theorem dX5_mend_52 : decode cX5_mend 52 = .ok (.iload 4, 2) := by decide +kernel
theorem dX5_mend_54 : decode cX5_mend 54 = .ok (.iload_n 1, 1) := by decide +kernel
theorem dX5_mend_55 : decode cX5_mend 55 = .ok (.iload_n 2, 1) := by decide +kernel
theorem dX5_mend_56 : decode cX5_mend 56 = .ok (.iload_n 3, 1) := by decide +kernel
theorem dX5_mend_57 : decode cX5_mend 57 = .ok (.invokevirtual 115, 3) := by decide +kernel
theorem dX5_mend_60 : decode cX5_mend 60 = .ok (.aload_n 0, 1) := by decide +kernel
theorem dX5_mend_61 : decode cX5_mend 61 = .ok (.getfield 14, 3) := by decide +kernel
theorem dX5_mend_64 : decode cX5_mend 64 = .ok (.invokevirtual 77, 3) := by decide +kernel
theorem dX5_mend_67 : decode cX5_mend 67 = .ok (.aload_n 0, 1) := by decide +kernel
theorem dX5_mend_68 : decode cX5_mend 68 = .ok (.invokevirtual 105, 3) := by decide +kernel
theorem dX5_mend_71 : decode cX5_mend 71 = .ok (.ireturn, 1) := by decide +kernel
theorem dX5_turnException_0 : decode cX5_turnException 0 = .ok (.aload_n 0, 1) := by decide +kernel
theorem dX5_turnException_1 : decode cX5_turnException 1 = .ok (.getfield 14, 3) := by decide +kernel
theorem dX5_turnException_4 : decode cX5_turnException 4 = .ok (.invokevirtual 73, 3) := by decide +kernel
theorem dX5_turnException_7 : decode cX5_turnException 7 = .ok (.ifCond .eq 16, 3) := by decide +kernel
theorem dX5_turnException_10 : decode cX5_turnException 10 = .ok (.aload_n 0, 1) := by decide +kernel
theorem dX5_turnException_11 : decode cX5_turnException 11 = .ok (.getfield 14, 3) := by decide +kernel
theorem dX5_turnException_14 : decode cX5_turnException 14 = .ok (.bipush 32, 2) := by decide +kernel
theorem dX5_turnException_16 : decode cX5_turnException 16 = .ok (.invokevirtual 138, 3) := by decide +kernel
theorem dX5_turnException_19 : decode cX5_turnException 19 = .ok (.iconst (-1), 1) := by decide +kernel
theorem dX5_turnException_20 : decode cX5_turnException 20 = .ok (.if_icmp .eq 13, 3) := by decide +kernel
theorem dX5_turnException_23 : decode cX5_turnException 23 = .ok (.new 54, 3) := by decide +kernel
theorem dX5_turnException_26 : decode cX5_turnException 26 = .ok (.dup, 1) := by decide +kernel
theorem dX5_turnException_27 : decode cX5_turnException 27 = .ok (.ldc 139, 2) := by decide +kernel
theorem dX5_turnException_29 : decode cX5_turnException 29 = .ok (.invokespecial 58, 3) := by decide +kernel
theorem dX5_turnException_32 : decode cX5_turnException 32 = .ok (.athrow, 1) := by decide +kernel
theorem dX5_turnException_33 : decode cX5_turnException 33 = .ok (.aload_n 0, 1) := by decide +kernel
theorem dX5_turnException_34 : decode cX5_turnException 34 = .ok (.getfield 21, 3) := by decide +kernel
theorem dX5_turnException_37 : decode cX5_turnException 37 = .ok (.aload_n 0, 1) := by decide +kernel
theorem dX5_turnException_38 : decode cX5_turnException 38 = .ok (.getfield 14, 3) := by decide +kernel
theorem dX5_turnException_41 : decode cX5_turnException 41 = .ok (.iconst 0, 1) := by decide +kernel
theorem dX5_turnException_42 : decode cX5_turnException 42 = .ok (.aload_n 0, 1) := by decide +kernel
theorem dX5_turnException_43 : decode cX5_turnException 43 = .ok (.getfield 14, 3) := by decide +kernel
theorem dX5_turnException_46 : decode cX5_turnException 46 = .ok (.invokevirtual 73, 3) := by decide +kernel
theorem dX5_turnException_49 : decode cX5_turnException 49 = .ok (.invokevirtual 141, 3) := by decide +kernel
theorem dX5_turnException_52 : decode cX5_turnException 52 = .ok (.istore_n 1, 1) := by decide +kernel
theorem dX5_turnException_53 : decode cX5_turnException 53 = .ok (.iload_n 1, 1) := by decide +kernel
theorem dX5_turnException_54 : decode cX5_turnException 54 = .ok (.iconst (-1), 1) := by decide +kernel
theorem dX5_turnException_55 : decode cX5_turnException 55 = .ok (.if_icmp .ne 23, 3) := by decide +kernel
theorem dX5_turnException_58 : decode cX5_turnException 58 = .ok (.aload_n 0, 1) := by decide +kernel
theorem dX5_turnException_59 : decode cX5_turnException 59 = .ok (.getfield 21, 3) := by decide +kernel
theorem dX5_turnException_62 : decode cX5_turnException 62 = .ok (.invokevirtual 145, 3) := by decide +kernel
theorem dX5_turnException_65 : decode cX5_turnException 65 = .ok (.ifCond .eq 13, 3) := by decide +kernel
theorem dX5_turnException_68 : decode cX5_turnException 68 = .ok (.new 65, 3) := by decide +kernel
theorem dX5_turnException_71 : decode cX5_turnException 71 = .ok (.dup, 1) := by decide +kernel
theorem dX5_turnException_72 : decode cX5_turnException 72 = .ok (.ldc 148, 2) := by decide +kernel
theorem dX5_turnException_74 : decode cX5_turnException 74 = .ok (.invokespecial 69, 3) := by decide +kernel
theorem dX5_turnException_77 : decode cX5_turnException 77 = .ok (.athrow, 1) := by decide +kernel
theorem dX5_turnException_78 : decode cX5_turnException 78 = .ok (.iload_n 1, 1) := by decide +kernel
theorem dX5_turnException_79 : decode cX5_turnException 79 = .ok (.iconst (-1), 1) := by decide +kernel
theorem dX5_turnException_80 : decode cX5_turnException 80 = .ok (.if_icmp .ne 17, 3) := by decide +kernel
theorem dX5_turnException_83 : decode cX5_turnException 83 = .ok (.aload_n 0, 1) := by decide +kernel
theorem dX5_turnException_84 : decode cX5_turnException 84 = .ok (.getfield 21, 3) := by decide +kernel
theorem dX5_turnException_87 : decode cX5_turnException 87 = .ok (.aload_n 0, 1) := by decide +kernel
theorem dX5_turnException_88 : decode cX5_turnException 88 = .ok (.getfield 14, 3) := by decide +kernel
theorem dX5_turnException_91 : decode cX5_turnException 91 = .ok (.invokevirtual 150, 3) := by decide +kernel
theorem dX5_turnException_94 : decode cX5_turnException 94 = .ok (.goto 11, 3) := by decide +kernel
theorem dX5_turnException_97 : decode cX5_turnException 97 = .ok (.aload_n 0, 1) := by decide +kernel
theorem dX5_turnException_98 : decode cX5_turnException 98 = .ok (.getfield 21, 3) := by decide +kernel
theorem dX5_turnException_101 : decode cX5_turnException 101 = .ok (.iload_n 1, 1) := by decide +kernel
theorem dX5_turnException_102 : decode cX5_turnException 102 = .ok (.invokevirtual 154, 3) := by decide +kernel
theorem dX5_turnException_105 : decode cX5_turnException 105 = .ok (.aload_n 0, 1) := by decide +kernel
theorem dX5_turnException_106 : decode cX5_turnException 106 = .ok (.getfield 14, 3) := by decide +kernel
theorem dX5_turnException_109 : decode cX5_turnException 109 = .ok (.invokevirtual 77, 3) := by decide +kernel
theorem dX5_turnException_112 : decode cX5_turnException 112 = .ok (.aload_n 0, 1) := by decide +kernel
theorem dX5_turnException_113 : decode cX5_turnException 113 = .ok (.invokevirtual 105, 3) := by decide +kernel
theorem dX5_turnException_116 : decode cX5_turnException 116 = .ok (.pop, 1) := by decide +kernel
theorem dX5_turnException_117 : decode cX5_turnException 117 = .ok (.iload_n 1, 1) := by decide +kernel
theorem dX5_turnException_118 : decode cX5_turnException 118 = .ok (.iconst (-1), 1) := by decide +kernel
theorem dX5_turnException_119 : decode cX5_turnException 119 = .ok (.if_icmp .ne 7, 3) := by decide +kernel
theorem dX5_turnException_122 : decode cX5_turnException 122 = .ok (.iconst 1, 1) := by decide +kernel
theorem dX5_turnException_123 : decode cX5_turnException 123 = .ok (.goto 4, 3) := by decide +kernel
theorem dX5_turnException_126 : decode cX5_turnException 126 = .ok (.iconst 0, 1) := by decide +kernel
theorem dX5_turnException_127 : decode cX5_turnException 127 = .ok (.ireturn, 1) := by decide +kernel
theorem dX5_setText_0 : decode cX5_setText 0 = .ok (.iload_n 1, 1) := by decide +kernel
theorem dX5_setText_1 : decode cX5_setText 1 = .ok (.ifCond .lt 20, 3) := by decide +kernel
theorem dX5_setText_4 : decode cX5_setText 4 = .ok (.iload_n 1, 1) := by decide +kernel
theorem dX5_setText_5 : decode cX5_setText 5 = .ok (.aload_n 0, 1) := by decide +kernel
theorem dX5_setText_6 : decode cX5_setText 6 = .ok (.getfield 47, 3) := by decide +kernel
theorem dX5_setText_9 : decode cX5_setText 9 = .ok (.if_icmp .gt 12, 3) := by decide +kernel
theorem dX5_setText_12 : decode cX5_setText 12 = .ok (.iload_n 1, 1) := by decide +kernel
theorem dX5_setText_13 : decode cX5_setText 13 = .ok (.aload_n 0, 1) := by decide +kernel
theorem dX5_setText_14 : decode cX5_setText 14 = .ok (.getfield 34, 3) := by decide +kernel
theorem dX5_setText_17 : decode cX5_setText 17 = .ok (.arraylength, 1) := by decide +kernel
theorem dX5_setText_18 : decode cX5_setText 18 = .ok (.if_icmp .lt 13, 3) := by decide +kernel
theorem dX5_setText_21 : decode cX5_setText 21 = .ok (.new 123, 3) := by decide +kernel
theorem dX5_setText_24 : decode cX5_setText 24 = .ok (.dup, 1) := by decide +kernel
theorem dX5_setText_25 : decode cX5_setText 25 = .ok (.ldc 157, 2) := by decide +kernel
theorem dX5_setText_27 : decode cX5_setText 27 = .ok (.invokespecial 127, 3) := by decide +kernel
theorem dX5_setText_30 : decode cX5_setText 30 = .ok (.athrow, 1) := by decide +kernel
theorem dX5_setText_31 : decode cX5_setText 31 = .ok (.iload_n 2, 1) := by decide +kernel
theorem dX5_setText_32 : decode cX5_setText 32 = .ok (.invokestatic 159, 3) := by decide +kernel
theorem dX5_setText_35 : decode cX5_setText 35 = .ok (.ifCond .ne 13, 3) := by decide +kernel
theorem dX5_setText_38 : decode cX5_setText 38 = .ok (.new 54, 3) := by decide +kernel
theorem dX5_setText_41 : decode cX5_setText 41 = .ok (.dup, 1) := by decide +kernel
theorem dX5_setText_42 : decode cX5_setText 42 = .ok (.ldc 162, 2) := by decide +kernel
theorem dX5_setText_44 : decode cX5_setText 44 = .ok (.invokespecial 58, 3) := by decide +kernel
theorem dX5_setText_47 : decode cX5_setText 47 = .ok (.athrow, 1) := by decide +kernel
theorem dX5_setText_48 : decode cX5_setText 48 = .ok (.aload_n 0, 1) := by decide +kernel
theorem dX5_setText_49 : decode cX5_setText 49 = .ok (.getfield 34, 3) := by decide +kernel
theorem dX5_setText_52 : decode cX5_setText 52 = .ok (.iload_n 1, 1) := by decide +kernel
theorem dX5_setText_53 : decode cX5_setText 53 = .ok (.aaload, 1) := by decide +kernel
theorem dX5_setText_54 : decode cX5_setText 54 = .ok (.astore_n 3, 1) := by decide +kernel
theorem dX5_setText_55 : decode cX5_setText 55 = .ok (.aload_n 3, 1) := by decide +kernel
theorem dX5_setText_56 : decode cX5_setText 56 = .ok (.ifnonnull 28, 3) := by decide +kernel
theorem dX5_setText_59 : decode cX5_setText 59 = .ok (.new 32, 3) := by decide +kernel
theorem dX5_setText_62 : decode cX5_setText 62 = .ok (.dup, 1) := by decide +kernel
theorem dX5_setText_63 : decode cX5_setText 63 = .ok (.invokespecial 164, 3) := by decide +kernel
theorem dX5_setText_66 : decode cX5_setText 66 = .ok (.astore_n 3, 1) := by decide +kernel
theorem dX5_setText_67 : decode cX5_setText 67 = .ok (.aload_n 0, 1) := by decide +kernel
theorem dX5_setText_68 : decode cX5_setText 68 = .ok (.getfield 34, 3) := by decide +kernel
theorem dX5_setText_71 : decode cX5_setText 71 = .ok (.iload_n 1, 1) := by decide +kernel
theorem dX5_setText_72 : decode cX5_setText 72 = .ok (.aload_n 3, 1) := by decide +kernel
theorem dX5_setText_73 : decode cX5_setText 73 = .ok (.aastore, 1) := by decide +kernel
theorem dX5_setText_74 : decode cX5_setText 74 = .ok (.aload_n 0, 1) := by decide +kernel
theorem dX5_setText_75 : decode cX5_setText 75 = .ok (.dup, 1) := by decide +kernel
theorem dX5_setText_76 : decode cX5_setText 76 = .ok (.getfield 47, 3) := by decide +kernel
theorem dX5_setText_79 : decode cX5_setText 79 = .ok (.iconst 1, 1) := by decide +kernel
theorem dX5_setText_80 : decode cX5_setText 80 = .ok (.iadd, 1) := by decide +kernel
theorem dX5_setText_81 : decode cX5_setText 81 = .ok (.putfield 47, 3) := by decide +kernel
theorem dX5_setText_84 : decode cX5_setText 84 = .ok (.aload_n 3, 1) := by decide +kernel
theorem dX5_setText_85 : decode cX5_setText 85 = .ok (.aload_n 0, 1) := by decide +kernel
theorem dX5_setText_86 : decode cX5_setText 86 = .ok (.getfield 14, 3) := by decide +kernel
theorem dX5_setText_89 : decode cX5_setText 89 = .ok (.iload_n 2, 1) := by decide +kernel
theorem dX5_setText_90 : decode cX5_setText 90 = .ok (.invokevirtual 165, 3) := by decide +kernel
theorem dX5_setText_93 : decode cX5_setText 93 = .ok (.aload_n 3, 1) := by decide +kernel
theorem dX5_setText_94 : decode cX5_setText 94 = .ok (.aload_n 0, 1) := by decide +kernel
theorem dX5_setText_95 : decode cX5_setText 95 = .ok (.getfield 21, 3) := by decide +kernel
theorem dX5_setText_98 : decode cX5_setText 98 = .ok (.aload_n 0, 1) := by decide +kernel
theorem dX5_setText_99 : decode cX5_setText 99 = .ok (.getfield 43, 3) := by decide +kernel
theorem dX5_setText_102 : decode cX5_setText 102 = .ok (.invokevirtual 169, 3) := by decide +kernel
theorem dX5_setText_105 : decode cX5_setText 105 = .ok (.pop, 1) := by decide +kernel
theorem dX5_setText_106 : decode cX5_setText 106 = .ok (.aload_n 3, 1) := by decide +kernel
theorem dX5_setText_107 : decode cX5_setText 107 = .ok (.aload_n 0, 1) := by decide +kernel
theorem dX5_setText_108 : decode cX5_setText 108 = .ok (.getfield 51, 3) := by decide +kernel
theorem dX5_setText_111 : decode cX5_setText 111 = .ok (.invokevirtual 173, 3) := by decide +kernel
theorem dX5_setText_114 : decode cX5_setText 114 = .ok (.aload_n 0, 1) := by decide +kernel
theorem dX5_setText_115 : decode cX5_setText 115 = .ok (.getfield 14, 3) := by decide +kernel
theorem dX5_setText_118 : decode cX5_setText 118 = .ok (.invokevirtual 77, 3) := by decide +kernel
theorem dX5_setText_121 : decode cX5_setText 121 = .ok (.aload_n 3, 1) := by decide +kernel
theorem dX5_setText_122 : decode cX5_setText 122 = .ok (.invokevirtual 176, 3) := by decide +kernel
theorem dX5_setText_125 : decode cX5_setText 125 = .ok (.ireturn, 1) := by decide +kernel
theorem dX5_setWidth_0 : decode cX5_setWidth 0 = .ok (.iload_n 1, 1) := by decide +kernel
theorem dX5_setWidth_1 : decode cX5_setWidth 1 = .ok (.bipush 8, 2) := by decide +kernel
theorem dX5_setWidth_3 : decode cX5_setWidth 3 = .ok (.if_icmp .lt 9, 3) := by decide +kernel
theorem dX5_setWidth_6 : decode cX5_setWidth 6 = .ok (.iload_n 1, 1) := by decide +kernel
theorem dX5_setWidth_7 : decode cX5_setWidth 7 = .ok (.bipush 40, 2) := by decide +kernel
theorem dX5_setWidth_9 : decode cX5_setWidth 9 = .ok (.if_icmp .le 13, 3) := by decide +kernel
theorem dX5_setWidth_12 : decode cX5_setWidth 12 = .ok (.new 54, 3) := by decide +kernel
theorem dX5_setWidth_15 : decode cX5_setWidth 15 = .ok (.dup, 1) := by decide +kernel
theorem dX5_setWidth_16 : decode cX5_setWidth 16 = .ok (.ldc 179, 2) := by decide +kernel
theorem dX5_setWidth_18 : decode cX5_setWidth 18 = .ok (.invokespecial 58, 3) := by decide +kernel
theorem dX5_setWidth_21 : decode cX5_setWidth 21 = .ok (.athrow, 1) := by decide +kernel
theorem dX5_setWidth_22 : decode cX5_setWidth 22 = .ok (.aload_n 0, 1) := by decide +kernel
theorem dX5_setWidth_23 : decode cX5_setWidth 23 = .ok (.getfield 51, 3) := by decide +kernel
theorem dX5_setWidth_26 : decode cX5_setWidth 26 = .ok (.istore_n 2, 1) := by decide +kernel
theorem dX5_setWidth_27 : decode cX5_setWidth 27 = .ok (.aload_n 0, 1) := by decide +kernel
theorem dX5_setWidth_28 : decode cX5_setWidth 28 = .ok (.iload_n 1, 1) := by decide +kernel
theorem dX5_setWidth_29 : decode cX5_setWidth 29 = .ok (.putfield 51, 3) := by decide +kernel
theorem dX5_setWidth_32 : decode cX5_setWidth 32 = .ok (.aload_n 0, 1) := by decide +kernel
theorem dX5_setWidth_33 : decode cX5_setWidth 33 = .ok (.getfield 34, 3) := by decide +kernel
theorem dX5_setWidth_36 : decode cX5_setWidth 36 = .ok (.astore_n 3, 1) := by decide +kernel
theorem dX5_setWidth_37 : decode cX5_setWidth 37 = .ok (.aload_n 3, 1) := by decide +kernel
theorem dX5_setWidth_38 : decode cX5_setWidth 38 = .ok (.arraylength, 1) := by decide +kernel
theorem dX5_setWidth_39 : decode cX5_setWidth 39 = .ok (.istore 4, 2) := by decide +kernel
theorem dX5_setWidth_41 : decode cX5_setWidth 41 = .ok (.iconst 0, 1) := by decide +kernel
theorem dX5_setWidth_42 : decode cX5_setWidth 42 = .ok (.istore 5, 2) := by decide +kernel
theorem dX5_setWidth_44 : decode cX5_setWidth 44 = .ok (.iload 5, 2) := by decide +kernel
theorem dX5_setWidth_46 : decode cX5_setWidth 46 = .ok (.iload 4, 2) := by decide +kernel
theorem dX5_setWidth_48 : decode cX5_setWidth 48 = .ok (.if_icmp .ge 26, 3) := by decide +kernel
theorem dX5_setWidth_51 : decode cX5_setWidth 51 = .ok (.aload_n 3, 1) := by decide +kernel
theorem dX5_setWidth_52 : decode cX5_setWidth 52 = .ok (.iload 5, 2) := by decide +kernel
theorem dX5_setWidth_54 : decode cX5_setWidth 54 = .ok (.aaload, 1) := by decide +kernel
theorem dX5_setWidth_55 : decode cX5_setWidth 55 = .ok (.astore 6, 2) := by decide +kernel
theorem dX5_setWidth_57 : decode cX5_setWidth 57 = .ok (.aload 6, 2) := by decide +kernel
theorem dX5_setWidth_59 : decode cX5_setWidth 59 = .ok (.ifnull 9, 3) := by decide +kernel
theorem dX5_setWidth_62 : decode cX5_setWidth 62 = .ok (.aload 6, 2) := by decide +kernel
theorem dX5_setWidth_64 : decode cX5_setWidth 64 = .ok (.iload_n 1, 1) := by decide +kernel
theorem dX5_setWidth_65 : decode cX5_setWidth 65 = .ok (.invokevirtual 173, 3) := by decide +kernel
theorem dX5_setWidth_68 : decode cX5_setWidth 68 = .ok (.iinc 5 1, 3) := by decide +kernel
theorem dX5_setWidth_71 : decode cX5_setWidth 71 = .ok (.goto (-27), 3) := by decide +kernel
theorem dX5_setWidth_74 : decode cX5_setWidth 74 = .ok (.iload_n 2, 1) := by decide +kernel
theorem dX5_setWidth_75 : decode cX5_setWidth 75 = .ok (.ireturn, 1) := by decide +kernel
theorem dX5_words_0 : decode cX5_words 0 = .ok (.aload_n 0, 1) := by decide +kernel
theorem dX5_words_1 : decode cX5_words 1 = .ok (.iload_n 1, 1) := by decide +kernel
theorem dX5_words_2 : decode cX5_words 2 = .ok (.invokevirtual 181, 3) := by decide +kernel
theorem dX5_words_5 : decode cX5_words 5 = .ok (.invokevirtual 176, 3) := by decide +kernel
theorem dX5_words_8 : decode cX5_words 8 = .ok (.ireturn, 1) := by decide +kernel
theorem dX5_length_0 : decode cX5_length 0 = .ok (.aload_n 0, 1) := by decide +kernel
theorem dX5_length_1 : decode cX5_length 1 = .ok (.iload_n 1, 1) := by decide +kernel
theorem dX5_length_2 : decode cX5_length 2 = .ok (.iload_n 2, 1) := by decide +kernel
theorem dX5_length_3 : decode cX5_length 3 = .ok (.invokevirtual 185, 3) := by decide +kernel
theorem dX5_length_6 : decode cX5_length 6 = .ok (.iload_n 2, 1) := by decide +kernel
theorem dX5_length_7 : decode cX5_length 7 = .ok (.invokevirtual 189, 3) := by decide +kernel
theorem dX5_length_10 : decode cX5_length 10 = .ok (.ireturn, 1) := by decide +kernel
theorem dX5_cellOf_0 : decode cX5_cellOf 0 = .ok (.aload_n 0, 1) := by decide +kernel
theorem dX5_cellOf_1 : decode cX5_cellOf 1 = .ok (.iload_n 1, 1) := by decide +kernel
theorem dX5_cellOf_2 : decode cX5_cellOf 2 = .ok (.iload_n 2, 1) := by decide +kernel
theorem dX5_cellOf_3 : decode cX5_cellOf 3 = .ok (.invokevirtual 185, 3) := by decide +kernel
theorem dX5_cellOf_6 : decode cX5_cellOf 6 = .ok (.astore 4, 2) := by decide +kernel
theorem dX5_cellOf_8 : decode cX5_cellOf 8 = .ok (.iload_n 3, 1) := by decide +kernel
theorem dX5_cellOf_9 : decode cX5_cellOf 9 = .ok (.ifCond .lt 13, 3) := by decide +kernel
theorem dX5_cellOf_12 : decode cX5_cellOf 12 = .ok (.iload_n 3, 1) := by decide +kernel
theorem dX5_cellOf_13 : decode cX5_cellOf 13 = .ok (.aload 4, 2) := by decide +kernel
theorem dX5_cellOf_15 : decode cX5_cellOf 15 = .ok (.iload_n 2, 1) := by decide +kernel
theorem dX5_cellOf_16 : decode cX5_cellOf 16 = .ok (.invokevirtual 189, 3) := by decide +kernel
theorem dX5_cellOf_19 : decode cX5_cellOf 19 = .ok (.if_icmp .lt 13, 3) := by decide +kernel
theorem dX5_cellOf_22 : decode cX5_cellOf 22 = .ok (.new 110, 3) := by decide +kernel
theorem dX5_cellOf_25 : decode cX5_cellOf 25 = .ok (.dup, 1) := by decide +kernel
theorem dX5_cellOf_26 : decode cX5_cellOf 26 = .ok (.ldc 192, 2) := by decide +kernel
theorem dX5_cellOf_28 : decode cX5_cellOf 28 = .ok (.invokespecial 114, 3) := by decide +kernel
theorem dX5_cellOf_31 : decode cX5_cellOf 31 = .ok (.athrow, 1) := by decide +kernel
theorem dX5_cellOf_32 : decode cX5_cellOf 32 = .ok (.aload 4, 2) := by decide +kernel
theorem dX5_cellOf_34 : decode cX5_cellOf 34 = .ok (.iload_n 2, 1) := by decide +kernel
theorem dX5_cellOf_35 : decode cX5_cellOf 35 = .ok (.iload_n 3, 1) := by decide +kernel
theorem dX5_cellOf_36 : decode cX5_cellOf 36 = .ok (.invokevirtual 194, 3) := by decide +kernel
theorem dX5_cellOf_39 : decode cX5_cellOf 39 = .ok (.ireturn, 1) := by decide +kernel
theorem dX5_lines_0 : decode cX5_lines 0 = .ok (.aload_n 0, 1) := by decide +kernel
theorem dX5_lines_1 : decode cX5_lines 1 = .ok (.iload_n 1, 1) := by decide +kernel
theorem dX5_lines_2 : decode cX5_lines 2 = .ok (.invokevirtual 181, 3) := by decide +kernel
theorem dX5_lines_5 : decode cX5_lines 5 = .ok (.invokevirtual 197, 3) := by decide +kernel
theorem dX5_lines_8 : decode cX5_lines 8 = .ok (.ireturn, 1) := by decide +kernel
theorem dX5_lineAt_0 : decode cX5_lineAt 0 = .ok (.aload_n 0, 1) := by decide +kernel
theorem dX5_lineAt_1 : decode cX5_lineAt 1 = .ok (.iload_n 1, 1) := by decide +kernel
theorem dX5_lineAt_2 : decode cX5_lineAt 2 = .ok (.invokevirtual 181, 3) := by decide +kernel
theorem dX5_lineAt_5 : decode cX5_lineAt 5 = .ok (.astore 4, 2) := by decide +kernel
theorem dX5_lineAt_7 : decode cX5_lineAt 7 = .ok (.iload_n 2, 1) := by decide +kernel
theorem dX5_lineAt_8 : decode cX5_lineAt 8 = .ok (.ifCond .lt 12, 3) := by decide +kernel
theorem dX5_lineAt_11 : decode cX5_lineAt 11 = .ok (.iload_n 2, 1) := by decide +kernel
theorem dX5_lineAt_12 : decode cX5_lineAt 12 = .ok (.aload 4, 2) := by decide +kernel
theorem dX5_lineAt_14 : decode cX5_lineAt 14 = .ok (.invokevirtual 197, 3) := by decide +kernel
theorem dX5_lineAt_17 : decode cX5_lineAt 17 = .ok (.if_icmp .lt 13, 3) := by decide +kernel
theorem dX5_lineAt_20 : decode cX5_lineAt 20 = .ok (.new 123, 3) := by decide +kernel
theorem dX5_lineAt_23 : decode cX5_lineAt 23 = .ok (.dup, 1) := by decide +kernel
theorem dX5_lineAt_24 : decode cX5_lineAt 24 = .ok (.ldc 200, 2) := by decide +kernel
theorem dX5_lineAt_26 : decode cX5_lineAt 26 = .ok (.invokespecial 127, 3) := by decide +kernel
theorem dX5_lineAt_29 : decode cX5_lineAt 29 = .ok (.athrow, 1) := by decide +kernel
theorem dX5_lineAt_30 : decode cX5_lineAt 30 = .ok (.iload_n 3, 1) := by decide +kernel
theorem dX5_lineAt_31 : decode cX5_lineAt 31 = .ok (.ifCond .lt 13, 3) := by decide +kernel
theorem dX5_lineAt_34 : decode cX5_lineAt 34 = .ok (.iload_n 3, 1) := by decide +kernel
theorem dX5_lineAt_35 : decode cX5_lineAt 35 = .ok (.aload 4, 2) := by decide +kernel
theorem dX5_lineAt_37 : decode cX5_lineAt 37 = .ok (.iload_n 2, 1) := by decide +kernel
theorem dX5_lineAt_38 : decode cX5_lineAt 38 = .ok (.invokevirtual 202, 3) := by decide +kernel
theorem dX5_lineAt_41 : decode cX5_lineAt 41 = .ok (.if_icmp .lt 13, 3) := by decide +kernel
theorem dX5_lineAt_44 : decode cX5_lineAt 44 = .ok (.new 110, 3) := by decide +kernel
theorem dX5_lineAt_47 : decode cX5_lineAt 47 = .ok (.dup, 1) := by decide +kernel
theorem dX5_lineAt_48 : decode cX5_lineAt 48 = .ok (.ldc 205, 2) := by decide +kernel
theorem dX5_lineAt_50 : decode cX5_lineAt 50 = .ok (.invokespecial 114, 3) := by decide +kernel
theorem dX5_lineAt_53 : decode cX5_lineAt 53 = .ok (.athrow, 1) := by decide +kernel
theorem dX5_lineAt_54 : decode cX5_lineAt 54 = .ok (.aload 4, 2) := by decide +kernel
theorem dX5_lineAt_56 : decode cX5_lineAt 56 = .ok (.iload_n 2, 1) := by decide +kernel
theorem dX5_lineAt_57 : decode cX5_lineAt 57 = .ok (.iload_n 3, 1) := by decide +kernel
theorem dX5_lineAt_58 : decode cX5_lineAt 58 = .ok (.invokevirtual 207, 3) := by decide +kernel
theorem dX5_lineAt_61 : decode cX5_lineAt 61 = .ok (.ireturn, 1) := by decide +kernel
theorem dX5_lineOf_0 : decode cX5_lineOf 0 = .ok (.aload_n 0, 1) := by decide +kernel
theorem dX5_lineOf_1 : decode cX5_lineOf 1 = .ok (.iload_n 1, 1) := by decide +kernel
theorem dX5_lineOf_2 : decode cX5_lineOf 2 = .ok (.iload_n 2, 1) := by decide +kernel
theorem dX5_lineOf_3 : decode cX5_lineOf 3 = .ok (.invokevirtual 185, 3) := by decide +kernel
theorem dX5_lineOf_6 : decode cX5_lineOf 6 = .ok (.iload_n 2, 1) := by decide +kernel
theorem dX5_lineOf_7 : decode cX5_lineOf 7 = .ok (.invokevirtual 210, 3) := by decide +kernel
theorem dX5_lineOf_10 : decode cX5_lineOf 10 = .ok (.ireturn, 1) := by decide +kernel
theorem dX5_emboss_0 : decode cX5_emboss 0 = .ok (.aload_n 0, 1) := by decide +kernel
theorem dX5_emboss_1 : decode cX5_emboss 1 = .ok (.iload_n 1, 1) := by decide +kernel
theorem dX5_emboss_2 : decode cX5_emboss 2 = .ok (.invokevirtual 181, 3) := by decide +kernel
theorem dX5_emboss_5 : decode cX5_emboss 5 = .ok (.astore_n 2, 1) := by decide +kernel
theorem dX5_emboss_6 : decode cX5_emboss 6 = .ok (.aload_n 0, 1) := by decide +kernel
theorem dX5_emboss_7 : decode cX5_emboss 7 = .ok (.getfield 28, 3) := by decide +kernel
theorem dX5_emboss_10 : decode cX5_emboss 10 = .ok (.invokevirtual 213, 3) := by decide +kernel
theorem dX5_emboss_13 : decode cX5_emboss 13 = .ok (.iconst 0, 1) := by decide +kernel
theorem dX5_emboss_14 : decode cX5_emboss 14 = .ok (.istore_n 3, 1) := by decide +kernel
theorem dX5_emboss_15 : decode cX5_emboss 15 = .ok (.iconst 0, 1) := by decide +kernel
theorem dX5_emboss_16 : decode cX5_emboss 16 = .ok (.istore 4, 2) := by decide +kernel
theorem dX5_emboss_18 : decode cX5_emboss 18 = .ok (.iconst (-1), 1) := by decide +kernel
theorem dX5_emboss_19 : decode cX5_emboss 19 = .ok (.istore 5, 2) := by decide +kernel
theorem dX5_emboss_21 : decode cX5_emboss 21 = .ok (.iconst 0, 1) := by decide +kernel
theorem dX5_emboss_22 : decode cX5_emboss 22 = .ok (.istore 6, 2) := by decide +kernel
theorem dX5_emboss_24 : decode cX5_emboss 24 = .ok (.iload 6, 2) := by decide +kernel
theorem dX5_emboss_26 : decode cX5_emboss 26 = .ok (.aload_n 2, 1) := by decide +kernel
theorem dX5_emboss_27 : decode cX5_emboss 27 = .ok (.invokevirtual 197, 3) := by decide +kernel
theorem dX5_emboss_30 : decode cX5_emboss 30 = .ok (.if_icmp .ge 53, 3) := by decide +kernel
theorem dX5_emboss_33 : decode cX5_emboss 33 = .ok (.aload_n 2, 1) := by decide +kernel
theorem dX5_emboss_34 : decode cX5_emboss 34 = .ok (.iload 6, 2) := by decide +kernel
theorem dX5_emboss_36 : decode cX5_emboss 36 = .ok (.invokevirtual 216, 3) := by decide +kernel
theorem dX5_emboss_39 : decode cX5_emboss 39 = .ok (.ifCond .eq 38, 3) := by decide +kernel
theorem dX5_emboss_42 : decode cX5_emboss 42 = .ok (.aload_n 0, 1) := by decide +kernel
theorem dX5_emboss_43 : decode cX5_emboss 43 = .ok (.aload_n 2, 1) := by decide +kernel
theorem dX5_emboss_44 : decode cX5_emboss 44 = .ok (.iload 6, 2) := by decide +kernel
theorem dX5_emboss_46 : decode cX5_emboss 46 = .ok (.invokevirtual 219, 3) := by decide +kernel
theorem dX5_emboss_49 : decode cX5_emboss 49 = .ok (.iinc 4 1, 3) := by decide +kernel
theorem dX5_emboss_52 : decode cX5_emboss 52 = .ok (.iload 6, 2) := by decide +kernel
theorem dX5_emboss_54 : decode cX5_emboss 54 = .ok (.iconst 4, 1) := by decide +kernel
theorem dX5_emboss_55 : decode cX5_emboss 55 = .ok (.idiv, 1) := by decide +kernel
theorem dX5_emboss_56 : decode cX5_emboss 56 = .ok (.istore 7, 2) := by decide +kernel
theorem dX5_emboss_58 : decode cX5_emboss 58 = .ok (.iload_n 3, 1) := by decide +kernel
theorem dX5_emboss_59 : decode cX5_emboss 59 = .ok (.iload 7, 2) := by decide +kernel
theorem dX5_emboss_61 : decode cX5_emboss 61 = .ok (.iload 5, 2) := by decide +kernel
theorem dX5_emboss_63 : decode cX5_emboss 63 = .ok (.if_icmp .ne 7, 3) := by decide +kernel
theorem dX5_emboss_66 : decode cX5_emboss 66 = .ok (.iconst 0, 1) := by decide +kernel
theorem dX5_emboss_67 : decode cX5_emboss 67 = .ok (.goto 4, 3) := by decide +kernel
theorem dX5_emboss_70 : decode cX5_emboss 70 = .ok (.iconst 1, 1) := by decide +kernel
theorem dX5_emboss_71 : decode cX5_emboss 71 = .ok (.iadd, 1) := by decide +kernel
theorem dX5_emboss_72 : decode cX5_emboss 72 = .ok (.istore_n 3, 1) := by decide +kernel
theorem dX5_emboss_73 : decode cX5_emboss 73 = .ok (.iload 7, 2) := by decide +kernel
theorem dX5_emboss_75 : decode cX5_emboss 75 = .ok (.istore 5, 2) := by decide +kernel
theorem dX5_emboss_77 : decode cX5_emboss 77 = .ok (.iinc 6 1, 3) := by decide +kernel
theorem dX5_emboss_80 : decode cX5_emboss 80 = .ok (.goto (-56), 3) := by decide +kernel
theorem dX5_emboss_83 : decode cX5_emboss 83 = .ok (.aload_n 0, 1) := by decide +kernel
theorem dX5_emboss_84 : decode cX5_emboss 84 = .ok (.getfield 28, 3) := by decide +kernel
theorem dX5_emboss_87 : decode cX5_emboss 87 = .ok (.invokevirtual 223, 3) := by decide +kernel
theorem dX5_emboss_90 : decode cX5_emboss 90 = .ok (.ifCond .ne 13, 3) := by decide +kernel
theorem dX5_emboss_93 : decode cX5_emboss 93 = .ok (.new 65, 3) := by decide +kernel
theorem dX5_emboss_96 : decode cX5_emboss 96 = .ok (.dup, 1) := by decide +kernel
theorem dX5_emboss_97 : decode cX5_emboss 97 = .ok (.ldc 226, 2) := by decide +kernel
theorem dX5_emboss_99 : decode cX5_emboss 99 = .ok (.invokespecial 69, 3) := by decide +kernel
theorem dX5_emboss_102 : decode cX5_emboss 102 = .ok (.athrow, 1) := by decide +kernel
theorem dX5_emboss_103 : decode cX5_emboss 103 = .ok (.aload_n 0, 1) := by decide +kernel
theorem dX5_emboss_104 : decode cX5_emboss 104 = .ok (.getfield 28, 3) := by decide +kernel
theorem dX5_emboss_107 : decode cX5_emboss 107 = .ok (.invokevirtual 228, 3) := by decide +kernel
theorem dX5_emboss_110 : decode cX5_emboss 110 = .ok (.aload_n 2, 1) := by decide +kernel
theorem dX5_emboss_111 : decode cX5_emboss 111 = .ok (.invokevirtual 231, 3) := by decide +kernel
theorem dX5_emboss_114 : decode cX5_emboss 114 = .ok (.bipush 100, 2) := by decide +kernel
theorem dX5_emboss_116 : decode cX5_emboss 116 = .ok (.iload_n 3, 1) := by decide +kernel
theorem dX5_emboss_117 : decode cX5_emboss 117 = .ok (.imul, 1) := by decide +kernel
theorem dX5_emboss_118 : decode cX5_emboss 118 = .ok (.iload 4, 2) := by decide +kernel
theorem dX5_emboss_120 : decode cX5_emboss 120 = .ok (.iadd, 1) := by decide +kernel
theorem dX5_emboss_121 : decode cX5_emboss 121 = .ok (.ireturn, 1) := by decide +kernel
theorem dX5_changed_0 : decode cX5_changed 0 = .ok (.aload_n 0, 1) := by decide +kernel
theorem dX5_changed_1 : decode cX5_changed 1 = .ok (.iload_n 1, 1) := by decide +kernel
theorem dX5_changed_2 : decode cX5_changed 2 = .ok (.invokevirtual 181, 3) := by decide +kernel
theorem dX5_changed_5 : decode cX5_changed 5 = .ok (.invokevirtual 234, 3) := by decide +kernel
theorem dX5_changed_8 : decode cX5_changed 8 = .ok (.ireturn, 1) := by decide +kernel
theorem dX5_setBearing_0 : decode cX5_setBearing 0 = .ok (.iload_n 1, 1) := by decide +kernel
theorem dX5_setBearing_1 : decode cX5_setBearing 1 = .ok (.bipush 10, 2) := by decide +kernel
theorem dX5_setBearing_3 : decode cX5_setBearing 3 = .ok (.if_icmp .lt 10, 3) := by decide +kernel
theorem dX5_setBearing_6 : decode cX5_setBearing 6 = .ok (.iload_n 1, 1) := by decide +kernel
theorem dX5_setBearing_7 : decode cX5_setBearing 7 = .ok (.sipush 9999, 3) := by decide +kernel
theorem dX5_setBearing_10 : decode cX5_setBearing 10 = .ok (.if_icmp .le 13, 3) := by decide +kernel
theorem dX5_setBearing_13 : decode cX5_setBearing 13 = .ok (.new 54, 3) := by decide +kernel
theorem dX5_setBearing_16 : decode cX5_setBearing 16 = .ok (.dup, 1) := by decide +kernel
theorem dX5_setBearing_17 : decode cX5_setBearing 17 = .ok (.ldc 237, 2) := by decide +kernel
theorem dX5_setBearing_19 : decode cX5_setBearing 19 = .ok (.invokespecial 58, 3) := by decide +kernel
theorem dX5_setBearing_22 : decode cX5_setBearing 22 = .ok (.athrow, 1) := by decide +kernel
theorem dX5_setBearing_23 : decode cX5_setBearing 23 = .ok (.aload_n 0, 1) := by decide +kernel
theorem dX5_setBearing_24 : decode cX5_setBearing 24 = .ok (.getfield 28, 3) := by decide +kernel
theorem dX5_setBearing_27 : decode cX5_setBearing 27 = .ok (.iload_n 1, 1) := by decide +kernel
theorem dX5_setBearing_28 : decode cX5_setBearing 28 = .ok (.invokevirtual 239, 3) := by decide +kernel
theorem dX5_setBearing_31 : decode cX5_setBearing 31 = .ok (.ireturn, 1) := by decide +kernel
theorem dX5_replace_0 : decode cX5_replace 0 = .ok (.iload_n 1, 1) := by decide +kernel
theorem dX5_replace_1 : decode cX5_replace 1 = .ok (.iconst 1, 1) := by decide +kernel
theorem dX5_replace_2 : decode cX5_replace 2 = .ok (.if_icmp .lt 9, 3) := by decide +kernel
theorem dX5_replace_5 : decode cX5_replace 5 = .ok (.iload_n 1, 1) := by decide +kernel
theorem dX5_replace_6 : decode cX5_replace 6 = .ok (.bipush 6, 2) := by decide +kernel
theorem dX5_replace_8 : decode cX5_replace 8 = .ok (.if_icmp .le 13, 3) := by decide +kernel
theorem dX5_replace_11 : decode cX5_replace 11 = .ok (.new 123, 3) := by decide +kernel
theorem dX5_replace_14 : decode cX5_replace 14 = .ok (.dup, 1) := by decide +kernel
theorem dX5_replace_15 : decode cX5_replace 15 = .ok (.ldc 242, 2) := by decide +kernel
theorem dX5_replace_17 : decode cX5_replace 17 = .ok (.invokespecial 127, 3) := by decide +kernel
theorem dX5_replace_20 : decode cX5_replace 20 = .ok (.athrow, 1) := by decide +kernel
theorem dX5_replace_21 : decode cX5_replace 21 = .ok (.aload_n 0, 1) := by decide +kernel
theorem dX5_replace_22 : decode cX5_replace 22 = .ok (.getfield 28, 3) := by decide +kernel
theorem dX5_replace_25 : decode cX5_replace 25 = .ok (.iload_n 1, 1) := by decide +kernel
theorem dX5_replace_26 : decode cX5_replace 26 = .ok (.invokevirtual 244, 3) := by decide +kernel
theorem dX5_replace_29 : decode cX5_replace 29 = .ok (.ireturn, 1) := by decide +kernel
theorem dX5_strikes_0 : decode cX5_strikes 0 = .ok (.iload_n 1, 1) := by decide +kernel
theorem dX5_strikes_1 : decode cX5_strikes 1 = .ok (.iconst 1, 1) := by decide +kernel
theorem dX5_strikes_2 : decode cX5_strikes 2 = .ok (.if_icmp .lt 9, 3) := by decide +kernel
theorem dX5_strikes_5 : decode cX5_strikes 5 = .ok (.iload_n 1, 1) := by decide +kernel
theorem dX5_strikes_6 : decode cX5_strikes 6 = .ok (.bipush 6, 2) := by decide +kernel
theorem dX5_strikes_8 : decode cX5_strikes 8 = .ok (.if_icmp .le 13, 3) := by decide +kernel
theorem dX5_strikes_11 : decode cX5_strikes 11 = .ok (.new 123, 3) := by decide +kernel
theorem dX5_strikes_14 : decode cX5_strikes 14 = .ok (.dup, 1) := by decide +kernel
theorem dX5_strikes_15 : decode cX5_strikes 15 = .ok (.ldc 242, 2) := by decide +kernel
theorem dX5_strikes_17 : decode cX5_strikes 17 = .ok (.invokespecial 127, 3) := by decide +kernel
theorem dX5_strikes_20 : decode cX5_strikes 20 = .ok (.athrow, 1) := by decide +kernel
theorem dX5_strikes_21 : decode cX5_strikes 21 = .ok (.aload_n 0, 1) := by decide +kernel
theorem dX5_strikes_22 : decode cX5_strikes 22 = .ok (.getfield 28, 3) := by decide +kernel
theorem dX5_strikes_25 : decode cX5_strikes 25 = .ok (.iload_n 1, 1) := by decide +kernel
theorem dX5_strikes_26 : decode cX5_strikes 26 = .ok (.invokevirtual 247, 3) := by decide +kernel
theorem dX5_strikes_29 : decode cX5_strikes 29 = .ok (.ireturn, 1) := by decide +kernel
theorem dX5_mark_0 : decode cX5_mark 0 = .ok (.iload_n 1, 1) := by decide +kernel
theorem dX5_mark_1 : decode cX5_mark 1 = .ok (.invokestatic 250, 3) := by decide +kernel
theorem dX5_mark_4 : decode cX5_mark 4 = .ok (.ifCond .ne 13, 3) := by decide +kernel
theorem dX5_mark_7 : decode cX5_mark 7 = .ok (.new 123, 3) := by decide +kernel
theorem dX5_mark_10 : decode cX5_mark 10 = .ok (.dup, 1) := by decide +kernel
theorem dX5_mark_11 : decode cX5_mark 11 = .ok (.ldc 253, 2) := by decide +kernel
theorem dX5_mark_13 : decode cX5_mark 13 = .ok (.invokespecial 127, 3) := by decide +kernel
theorem dX5_mark_16 : decode cX5_mark 16 = .ok (.athrow, 1) := by decide +kernel
theorem dX5_mark_17 : decode cX5_mark 17 = .ok (.aload_n 0, 1) := by decide +kernel
theorem dX5_mark_18 : decode cX5_mark 18 = .ok (.iload_n 2, 1) := by decide +kernel
theorem dX5_mark_19 : decode cX5_mark 19 = .ok (.iload_n 3, 1) := by decide +kernel
theorem dX5_mark_20 : decode cX5_mark 20 = .ok (.invokevirtual 185, 3) := by decide +kernel
theorem dX5_mark_23 : decode cX5_mark 23 = .ok (.astore 5, 2) := by decide +kernel
theorem dX5_mark_25 : decode cX5_mark 25 = .ok (.iload 4, 2) := by decide +kernel
theorem dX5_mark_27 : decode cX5_mark 27 = .ok (.ifCond .eq 8, 3) := by decide +kernel
theorem dX5_mark_30 : decode cX5_mark 30 = .ok (.bipush 114, 2) := by decide +kernel
theorem dX5_mark_32 : decode cX5_mark 32 = .ok (.goto 5, 3) := by decide +kernel
theorem dX5_mark_35 : decode cX5_mark 35 = .ok (.bipush 119, 2) := by decide +kernel
theorem dX5_mark_37 : decode cX5_mark 37 = .ok (.istore 6, 2) := by decide +kernel
theorem dX5_mark_39 : decode cX5_mark 39 = .ok (.aload 5, 2) := by decide +kernel
theorem dX5_mark_41 : decode cX5_mark 41 = .ok (.iload_n 1, 1) := by decide +kernel
theorem dX5_mark_42 : decode cX5_mark 42 = .ok (.iload_n 3, 1) := by decide +kernel
theorem dX5_mark_43 : decode cX5_mark 43 = .ok (.iload 6, 2) := by decide +kernel
theorem dX5_mark_45 : decode cX5_mark 45 = .ok (.invokevirtual 255, 3) := by decide +kernel
theorem dX5_mark_48 : decode cX5_mark 48 = .ok (.aload 5, 2) := by decide +kernel
theorem dX5_mark_50 : decode cX5_mark 50 = .ok (.iconst 1, 1) := by decide +kernel
theorem dX5_mark_51 : decode cX5_mark 51 = .ok (.iload_n 1, 1) := by decide +kernel
theorem dX5_mark_52 : decode cX5_mark 52 = .ok (.isub, 1) := by decide +kernel
theorem dX5_mark_53 : decode cX5_mark 53 = .ok (.iload_n 3, 1) := by decide +kernel
theorem dX5_mark_54 : decode cX5_mark 54 = .ok (.invokevirtual 259, 3) := by decide +kernel
theorem dX5_mark_57 : decode cX5_mark 57 = .ok (.iload 6, 2) := by decide +kernel
theorem dX5_mark_59 : decode cX5_mark 59 = .ok (.if_icmp .ne 7, 3) := by decide +kernel
theorem dX5_mark_62 : decode cX5_mark 62 = .ok (.iconst 1, 1) := by decide +kernel
theorem dX5_mark_63 : decode cX5_mark 63 = .ok (.goto 4, 3) := by decide +kernel
theorem dX5_mark_66 : decode cX5_mark 66 = .ok (.iconst 0, 1) := by decide +kernel
theorem dX5_mark_67 : decode cX5_mark 67 = .ok (.ireturn, 1) := by decide +kernel
theorem dX5_markOf_0 : decode cX5_markOf 0 = .ok (.iload_n 1, 1) := by decide +kernel
theorem dX5_markOf_1 : decode cX5_markOf 1 = .ok (.invokestatic 250, 3) := by decide +kernel
theorem dX5_markOf_4 : decode cX5_markOf 4 = .ok (.ifCond .ne 13, 3) := by decide +kernel
theorem dX5_markOf_7 : decode cX5_markOf 7 = .ok (.new 123, 3) := by decide +kernel
theorem dX5_markOf_10 : decode cX5_markOf 10 = .ok (.dup, 1) := by decide +kernel
theorem dX5_markOf_11 : decode cX5_markOf 11 = .ok (.ldc 253, 2) := by decide +kernel
theorem dX5_markOf_13 : decode cX5_markOf 13 = .ok (.invokespecial 127, 3) := by decide +kernel
theorem dX5_markOf_16 : decode cX5_markOf 16 = .ok (.athrow, 1) := by decide +kernel
theorem dX5_markOf_17 : decode cX5_markOf 17 = .ok (.aload_n 0, 1) := by decide +kernel
theorem dX5_markOf_18 : decode cX5_markOf 18 = .ok (.iload_n 2, 1) := by decide +kernel
theorem dX5_markOf_19 : decode cX5_markOf 19 = .ok (.iload_n 3, 1) := by decide +kernel
theorem dX5_markOf_20 : decode cX5_markOf 20 = .ok (.invokevirtual 185, 3) := by decide +kernel
theorem dX5_markOf_23 : decode cX5_markOf 23 = .ok (.iload_n 1, 1) := by decide +kernel
theorem dX5_markOf_24 : decode cX5_markOf 24 = .ok (.iload_n 3, 1) := by decide +kernel
theorem dX5_markOf_25 : decode cX5_markOf 25 = .ok (.invokevirtual 259, 3) := by decide +kernel
theorem dX5_markOf_28 : decode cX5_markOf 28 = .ok (.ireturn, 1) := by decide +kernel
theorem dX5_isSound_0 : decode cX5_isSound 0 = .ok (.aload_n 0, 1) := by decide +kernel
theorem dX5_isSound_1 : decode cX5_isSound 1 = .ok (.getfield 34, 3) := by decide +kernel
theorem dX5_isSound_4 : decode cX5_isSound 4 = .ok (.astore_n 1, 1) := by decide +kernel
theorem dX5_isSound_5 : decode cX5_isSound 5 = .ok (.aload_n 1, 1) := by decide +kernel
theorem dX5_isSound_6 : decode cX5_isSound 6 = .ok (.arraylength, 1) := by decide +kernel
theorem dX5_isSound_7 : decode cX5_isSound 7 = .ok (.istore_n 2, 1) := by decide +kernel
theorem dX5_isSound_8 : decode cX5_isSound 8 = .ok (.iconst 0, 1) := by decide +kernel
theorem dX5_isSound_9 : decode cX5_isSound 9 = .ok (.istore_n 3, 1) := by decide +kernel
theorem dX5_isSound_10 : decode cX5_isSound 10 = .ok (.iload_n 3, 1) := by decide +kernel
theorem dX5_isSound_11 : decode cX5_isSound 11 = .ok (.iload_n 2, 1) := by decide +kernel
theorem dX5_isSound_12 : decode cX5_isSound 12 = .ok (.if_icmp .ge 33, 3) := by decide +kernel
theorem dX5_isSound_15 : decode cX5_isSound 15 = .ok (.aload_n 1, 1) := by decide +kernel
theorem dX5_isSound_16 : decode cX5_isSound 16 = .ok (.iload_n 3, 1) := by decide +kernel
theorem dX5_isSound_17 : decode cX5_isSound 17 = .ok (.aaload, 1) := by decide +kernel
theorem dX5_isSound_18 : decode cX5_isSound 18 = .ok (.astore 4, 2) := by decide +kernel
theorem dX5_isSound_20 : decode cX5_isSound 20 = .ok (.aload 4, 2) := by decide +kernel
theorem dX5_isSound_22 : decode cX5_isSound 22 = .ok (.ifnull 17, 3) := by decide +kernel
theorem dX5_isSound_25 : decode cX5_isSound 25 = .ok (.aload 4, 2) := by decide +kernel
theorem dX5_isSound_27 : decode cX5_isSound 27 = .ok (.aload_n 0, 1) := by decide +kernel
theorem dX5_isSound_28 : decode cX5_isSound 28 = .ok (.getfield 51, 3) := by decide +kernel
theorem dX5_isSound_31 : decode cX5_isSound 31 = .ok (.invokevirtual 280, 3) := by decide +kernel
theorem dX5_isSound_34 : decode cX5_isSound 34 = .ok (.ifCond .ne 5, 3) := by decide +kernel
theorem dX5_isSound_37 : decode cX5_isSound 37 = .ok (.iconst 0, 1) := by decide +kernel
theorem dX5_isSound_38 : decode cX5_isSound 38 = .ok (.ireturn, 1) := by decide +kernel
theorem dX5_isSound_39 : decode cX5_isSound 39 = .ok (.iinc 3 1, 3) := by decide +kernel
theorem dX5_isSound_42 : decode cX5_isSound 42 = .ok (.goto (-32), 3) := by decide +kernel
theorem dX5_isSound_45 : decode cX5_isSound 45 = .ok (.aload_n 0, 1) := by decide +kernel
theorem dX5_isSound_46 : decode cX5_isSound 46 = .ok (.getfield 21, 3) := by decide +kernel
theorem dX5_isSound_49 : decode cX5_isSound 49 = .ok (.invokevirtual 283, 3) := by decide +kernel
theorem dX5_isSound_52 : decode cX5_isSound 52 = .ok (.ireturn, 1) := by decide +kernel
theorem dX5_isGrade_0 : decode cX5_isGrade 0 = .ok (.iload_n 0, 1) := by decide +kernel
theorem dX5_isGrade_1 : decode cX5_isGrade 1 = .ok (.iconst 1, 1) := by decide +kernel
theorem dX5_isGrade_2 : decode cX5_isGrade 2 = .ok (.if_icmp .lt 12, 3) := by decide +kernel
theorem dX5_isGrade_5 : decode cX5_isGrade 5 = .ok (.iload_n 0, 1) := by decide +kernel
theorem dX5_isGrade_6 : decode cX5_isGrade 6 = .ok (.iconst 2, 1) := by decide +kernel
theorem dX5_isGrade_7 : decode cX5_isGrade 7 = .ok (.if_icmp .gt 7, 3) := by decide +kernel
theorem dX5_isGrade_10 : decode cX5_isGrade 10 = .ok (.iconst 1, 1) := by decide +kernel
theorem dX5_isGrade_11 : decode cX5_isGrade 11 = .ok (.goto 4, 3) := by decide +kernel
theorem dX5_isGrade_14 : decode cX5_isGrade 14 = .ok (.iconst 0, 1) := by decide +kernel
theorem dX5_isGrade_15 : decode cX5_isGrade 15 = .ok (.ireturn, 1) := by decide +kernel
theorem dX5_isRule_0 : decode cX5_isRule 0 = .ok (.iload_n 0, 1) := by decide +kernel
theorem dX5_isRule_1 : decode cX5_isRule 1 = .ok (.invokestatic 159, 3) := by decide +kernel
theorem dX5_isRule_4 : decode cX5_isRule 4 = .ok (.ifCond .eq 28, 3) := by decide +kernel
theorem dX5_isRule_7 : decode cX5_isRule 7 = .ok (.iload_n 1, 1) := by decide +kernel
theorem dX5_isRule_8 : decode cX5_isRule 8 = .ok (.iconst 1, 1) := by decide +kernel
theorem dX5_isRule_9 : decode cX5_isRule 9 = .ok (.if_icmp .lt 23, 3) := by decide +kernel
theorem dX5_isRule_12 : decode cX5_isRule 12 = .ok (.iload_n 1, 1) := by decide +kernel
theorem dX5_isRule_13 : decode cX5_isRule 13 = .ok (.bipush 63, 2) := by decide +kernel
theorem dX5_isRule_15 : decode cX5_isRule 15 = .ok (.if_icmp .gt 17, 3) := by decide +kernel
theorem dX5_isRule_18 : decode cX5_isRule 18 = .ok (.iload_n 2, 1) := by decide +kernel
theorem dX5_isRule_19 : decode cX5_isRule 19 = .ok (.ifCond .lt 13, 3) := by decide +kernel
theorem dX5_isRule_22 : decode cX5_isRule 22 = .ok (.iload_n 2, 1) := by decide +kernel
theorem dX5_isRule_23 : decode cX5_isRule 23 = .ok (.bipush 63, 2) := by decide +kernel
theorem dX5_isRule_25 : decode cX5_isRule 25 = .ok (.if_icmp .gt 7, 3) := by decide +kernel
theorem dX5_isRule_28 : decode cX5_isRule 28 = .ok (.iconst 1, 1) := by decide +kernel
theorem dX5_isRule_29 : decode cX5_isRule 29 = .ok (.goto 4, 3) := by decide +kernel
theorem dX5_isRule_32 : decode cX5_isRule 32 = .ok (.iconst 0, 1) := by decide +kernel
theorem dX5_isRule_33 : decode cX5_isRule 33 = .ok (.ireturn, 1) := by decide +kernel
theorem dX5_isReader_0 : decode cX5_isReader 0 = .ok (.iload_n 0, 1) := by decide +kernel
theorem dX5_isReader_1 : decode cX5_isReader 1 = .ok (.ifCond .lt 12, 3) := by decide +kernel
theorem dX5_isReader_4 : decode cX5_isReader 4 = .ok (.iload_n 0, 1) := by decide +kernel
theorem dX5_isReader_5 : decode cX5_isReader 5 = .ok (.iconst 2, 1) := by decide +kernel
theorem dX5_isReader_6 : decode cX5_isReader 6 = .ok (.if_icmp .ge 7, 3) := by decide +kernel
theorem dX5_isReader_9 : decode cX5_isReader 9 = .ok (.iconst 1, 1) := by decide +kernel
theorem dX5_isReader_10 : decode cX5_isReader 10 = .ok (.goto 4, 3) := by decide +kernel
theorem dX5_isReader_13 : decode cX5_isReader 13 = .ok (.iconst 0, 1) := by decide +kernel
theorem dX5_isReader_14 : decode cX5_isReader 14 = .ok (.ireturn, 1) := by decide +kernel
theorem dX5_typedKey_0 : decode cX5_typedKey 0 = .ok (.aload_n 0, 1) := by decide +kernel
theorem dX5_typedKey_1 : decode cX5_typedKey 1 = .ok (.getfield 14, 3) := by decide +kernel
theorem dX5_typedKey_4 : decode cX5_typedKey 4 = .ok (.bipush 32, 2) := by decide +kernel
theorem dX5_typedKey_6 : decode cX5_typedKey 6 = .ok (.invokevirtual 138, 3) := by decide +kernel
theorem dX5_typedKey_9 : decode cX5_typedKey 9 = .ok (.iconst (-1), 1) := by decide +kernel
theorem dX5_typedKey_10 : decode cX5_typedKey 10 = .ok (.if_icmp .eq 5, 3) := by decide +kernel
theorem dX5_typedKey_13 : decode cX5_typedKey 13 = .ok (.iconst 0, 1) := by decide +kernel
theorem dX5_typedKey_14 : decode cX5_typedKey 14 = .ok (.ireturn, 1) := by decide +kernel
theorem dX5_typedKey_15 : decode cX5_typedKey 15 = .ok (.aload_n 0, 1) := by decide +kernel
theorem dX5_typedKey_16 : decode cX5_typedKey 16 = .ok (.getfield 14, 3) := by decide +kernel
theorem dX5_typedKey_19 : decode cX5_typedKey 19 = .ok (.iconst 0, 1) := by decide +kernel
theorem dX5_typedKey_20 : decode cX5_typedKey 20 = .ok (.aload_n 0, 1) := by decide +kernel
theorem dX5_typedKey_21 : decode cX5_typedKey 21 = .ok (.getfield 14, 3) := by decide +kernel
theorem dX5_typedKey_24 : decode cX5_typedKey 24 = .ok (.invokevirtual 73, 3) := by decide +kernel
theorem dX5_typedKey_27 : decode cX5_typedKey 27 = .ok (.invokestatic 286, 3) := by decide +kernel
theorem dX5_typedKey_30 : decode cX5_typedKey 30 = .ok (.ireturn, 1) := by decide +kernel
theorem dX5_textNumbered_0 : decode cX5_textNumbered 0 = .ok (.iload_n 1, 1) := by decide +kernel
theorem dX5_textNumbered_1 : decode cX5_textNumbered 1 = .ok (.ifCond .lt 12, 3) := by decide +kernel
theorem dX5_textNumbered_4 : decode cX5_textNumbered 4 = .ok (.iload_n 1, 1) := by decide +kernel
theorem dX5_textNumbered_5 : decode cX5_textNumbered 5 = .ok (.aload_n 0, 1) := by decide +kernel
theorem dX5_textNumbered_6 : decode cX5_textNumbered 6 = .ok (.getfield 34, 3) := by decide +kernel
theorem dX5_textNumbered_9 : decode cX5_textNumbered 9 = .ok (.arraylength, 1) := by decide +kernel
theorem dX5_textNumbered_10 : decode cX5_textNumbered 10 = .ok (.if_icmp .lt 7, 3) := by decide +kernel
theorem dX5_textNumbered_13 : decode cX5_textNumbered 13 = .ok (.aconst_null, 1) := by decide +kernel
theorem dX5_textNumbered_14 : decode cX5_textNumbered 14 = .ok (.goto 9, 3) := by decide +kernel
theorem dX5_textNumbered_17 : decode cX5_textNumbered 17 = .ok (.aload_n 0, 1) := by decide +kernel
theorem dX5_textNumbered_18 : decode cX5_textNumbered 18 = .ok (.getfield 34, 3) := by decide +kernel
theorem dX5_textNumbered_21 : decode cX5_textNumbered 21 = .ok (.iload_n 1, 1) := by decide +kernel
theorem dX5_textNumbered_22 : decode cX5_textNumbered 22 = .ok (.aaload, 1) := by decide +kernel
theorem dX5_textNumbered_23 : decode cX5_textNumbered 23 = .ok (.astore_n 2, 1) := by decide +kernel
theorem dX5_textNumbered_24 : decode cX5_textNumbered 24 = .ok (.aload_n 2, 1) := by decide +kernel
theorem dX5_textNumbered_25 : decode cX5_textNumbered 25 = .ok (.ifnonnull 14, 3) := by decide +kernel
theorem dX5_textNumbered_28 : decode cX5_textNumbered 28 = .ok (.new 123, 3) := by decide +kernel
theorem dX5_textNumbered_31 : decode cX5_textNumbered 31 = .ok (.dup, 1) := by decide +kernel
theorem dX5_textNumbered_32 : decode cX5_textNumbered 32 = .ok (.ldc_w 289, 3) := by decide +kernel
theorem dX5_textNumbered_35 : decode cX5_textNumbered 35 = .ok (.invokespecial 127, 3) := by decide +kernel
theorem dX5_textNumbered_38 : decode cX5_textNumbered 38 = .ok (.athrow, 1) := by decide +kernel
theorem dX5_textNumbered_39 : decode cX5_textNumbered 39 = .ok (.aload_n 2, 1) := by decide +kernel
theorem dX5_textNumbered_40 : decode cX5_textNumbered 40 = .ok (.areturn, 1) := by decide +kernel
theorem dX5_textWithWord_0 : decode cX5_textWithWord 0 = .ok (.aload_n 0, 1) := by decide +kernel
theorem dX5_textWithWord_1 : decode cX5_textWithWord 1 = .ok (.iload_n 1, 1) := by decide +kernel
theorem dX5_textWithWord_2 : decode cX5_textWithWord 2 = .ok (.invokevirtual 181, 3) := by decide +kernel
theorem dX5_textWithWord_5 : decode cX5_textWithWord 5 = .ok (.astore_n 3, 1) := by decide +kernel
theorem dX5_textWithWord_6 : decode cX5_textWithWord 6 = .ok (.iload_n 2, 1) := by decide +kernel
theorem dX5_textWithWord_7 : decode cX5_textWithWord 7 = .ok (.ifCond .lt 11, 3) := by decide +kernel
theorem dX5_textWithWord_10 : decode cX5_textWithWord 10 = .ok (.iload_n 2, 1) := by decide +kernel
theorem dX5_textWithWord_11 : decode cX5_textWithWord 11 = .ok (.aload_n 3, 1) := by decide +kernel
theorem dX5_textWithWord_12 : decode cX5_textWithWord 12 = .ok (.invokevirtual 176, 3) := by decide +kernel
theorem dX5_textWithWord_15 : decode cX5_textWithWord 15 = .ok (.if_icmp .lt 14, 3) := by decide +kernel
theorem dX5_textWithWord_18 : decode cX5_textWithWord 18 = .ok (.new 123, 3) := by decide +kernel
theorem dX5_textWithWord_21 : decode cX5_textWithWord 21 = .ok (.dup, 1) := by decide +kernel
theorem dX5_textWithWord_22 : decode cX5_textWithWord 22 = .ok (.ldc_w 291, 3) := by decide +kernel
theorem dX5_textWithWord_25 : decode cX5_textWithWord 25 = .ok (.invokespecial 127, 3) := by decide +kernel
theorem dX5_textWithWord_28 : decode cX5_textWithWord 28 = .ok (.athrow, 1) := by decide +kernel
theorem dX5_textWithWord_29 : decode cX5_textWithWord 29 = .ok (.aload_n 3, 1) := by decide +kernel
theorem dX5_textWithWord_30 : decode cX5_textWithWord 30 = .ok (.areturn, 1) := by decide +kernel
theorem dX5_translateTexts_0 : decode cX5_translateTexts 0 = .ok (.iconst 0, 1) := by decide +kernel
theorem dX5_translateTexts_1 : decode cX5_translateTexts 1 = .ok (.istore_n 1, 1) := by decide +kernel
theorem dX5_translateTexts_2 : decode cX5_translateTexts 2 = .ok (.aload_n 0, 1) := by decide +kernel
theorem dX5_translateTexts_3 : decode cX5_translateTexts 3 = .ok (.getfield 34, 3) := by decide +kernel
theorem dX5_translateTexts_6 : decode cX5_translateTexts 6 = .ok (.astore_n 2, 1) := by decide +kernel
theorem dX5_translateTexts_7 : decode cX5_translateTexts 7 = .ok (.aload_n 2, 1) := by decide +kernel
theorem dX5_translateTexts_8 : decode cX5_translateTexts 8 = .ok (.arraylength, 1) := by decide +kernel
theorem dX5_translateTexts_9 : decode cX5_translateTexts 9 = .ok (.istore_n 3, 1) := by decide +kernel
theorem dX5_translateTexts_10 : decode cX5_translateTexts 10 = .ok (.iconst 0, 1) := by decide +kernel
theorem dX5_translateTexts_11 : decode cX5_translateTexts 11 = .ok (.istore 4, 2) := by decide +kernel
theorem dX5_translateTexts_13 : decode cX5_translateTexts 13 = .ok (.iload 4, 2) := by decide +kernel
theorem dX5_translateTexts_15 : decode cX5_translateTexts 15 = .ok (.iload_n 3, 1) := by decide +kernel
theorem dX5_translateTexts_16 : decode cX5_translateTexts 16 = .ok (.if_icmp .ge 48, 3) := by decide +kernel
theorem dX5_translateTexts_19 : decode cX5_translateTexts 19 = .ok (.aload_n 2, 1) := by decide +kernel
theorem dX5_translateTexts_20 : decode cX5_translateTexts 20 = .ok (.iload 4, 2) := by decide +kernel
theorem dX5_translateTexts_22 : decode cX5_translateTexts 22 = .ok (.aaload, 1) := by decide +kernel
theorem dX5_translateTexts_23 : decode cX5_translateTexts 23 = .ok (.astore 5, 2) := by decide +kernel
theorem dX5_translateTexts_25 : decode cX5_translateTexts 25 = .ok (.aload 5, 2) := by decide +kernel
theorem dX5_translateTexts_27 : decode cX5_translateTexts 27 = .ok (.ifnull 31, 3) := by decide +kernel
theorem dX5_translateTexts_30 : decode cX5_translateTexts 30 = .ok (.aload 5, 2) := by decide +kernel
theorem dX5_translateTexts_32 : decode cX5_translateTexts 32 = .ok (.aload_n 0, 1) := by decide +kernel
theorem dX5_translateTexts_33 : decode cX5_translateTexts 33 = .ok (.getfield 21, 3) := by decide +kernel
theorem dX5_translateTexts_36 : decode cX5_translateTexts 36 = .ok (.aload_n 0, 1) := by decide +kernel
theorem dX5_translateTexts_37 : decode cX5_translateTexts 37 = .ok (.getfield 43, 3) := by decide +kernel
theorem dX5_translateTexts_40 : decode cX5_translateTexts 40 = .ok (.invokevirtual 169, 3) := by decide +kernel
theorem dX5_translateTexts_43 : decode cX5_translateTexts 43 = .ok (.ifCond .eq 15, 3) := by decide +kernel
theorem dX5_translateTexts_46 : decode cX5_translateTexts 46 = .ok (.aload 5, 2) := by decide +kernel
theorem dX5_translateTexts_48 : decode cX5_translateTexts 48 = .ok (.aload_n 0, 1) := by decide +kernel
theorem dX5_translateTexts_49 : decode cX5_translateTexts 49 = .ok (.getfield 51, 3) := by decide +kernel
theorem dX5_translateTexts_52 : decode cX5_translateTexts 52 = .ok (.invokevirtual 173, 3) := by decide +kernel
theorem dX5_translateTexts_55 : decode cX5_translateTexts 55 = .ok (.iinc 1 1, 3) := by decide +kernel
theorem dX5_translateTexts_58 : decode cX5_translateTexts 58 = .ok (.iinc 4 1, 3) := by decide +kernel
theorem dX5_translateTexts_61 : decode cX5_translateTexts 61 = .ok (.goto (-48), 3) := by decide +kernel
theorem dX5_translateTexts_64 : decode cX5_translateTexts 64 = .ok (.iload_n 1, 1) := by decide +kernel
theorem dX5_translateTexts_65 : decode cX5_translateTexts 65 = .ok (.ireturn, 1) := by decide +kernel
theorem dX5_planLine_0 : decode cX5_planLine 0 = .ok (.iconst 0, 1) := by decide +kernel
theorem dX5_planLine_1 : decode cX5_planLine 1 = .ok (.istore_n 3, 1) := by decide +kernel
theorem dX5_planLine_2 : decode cX5_planLine 2 = .ok (.iload_n 3, 1) := by decide +kernel
theorem dX5_planLine_3 : decode cX5_planLine 3 = .ok (.aload_n 1, 1) := by decide +kernel
theorem dX5_planLine_4 : decode cX5_planLine 4 = .ok (.iload_n 2, 1) := by decide +kernel
theorem dX5_planLine_5 : decode cX5_planLine 5 = .ok (.invokevirtual 202, 3) := by decide +kernel
theorem dX5_planLine_8 : decode cX5_planLine 8 = .ok (.if_icmp .ge 22, 3) := by decide +kernel
theorem dX5_planLine_11 : decode cX5_planLine 11 = .ok (.aload_n 0, 1) := by decide +kernel
theorem dX5_planLine_12 : decode cX5_planLine 12 = .ok (.getfield 28, 3) := by decide +kernel
theorem dX5_planLine_15 : decode cX5_planLine 15 = .ok (.aload_n 1, 1) := by decide +kernel
theorem dX5_planLine_16 : decode cX5_planLine 16 = .ok (.iload_n 2, 1) := by decide +kernel
theorem dX5_planLine_17 : decode cX5_planLine 17 = .ok (.iload_n 3, 1) := by decide +kernel
theorem dX5_planLine_18 : decode cX5_planLine 18 = .ok (.invokevirtual 207, 3) := by decide +kernel
theorem dX5_planLine_21 : decode cX5_planLine 21 = .ok (.invokevirtual 293, 3) := by decide +kernel
theorem dX5_planLine_24 : decode cX5_planLine 24 = .ok (.iinc 3 1, 3) := by decide +kernel
theorem dX5_planLine_27 : decode cX5_planLine 27 = .ok (.goto (-25), 3) := by decide +kernel
theorem dX5_planLine_30 : decode cX5_planLine 30 = .ok (.return_, 1) := by decide +kernel
