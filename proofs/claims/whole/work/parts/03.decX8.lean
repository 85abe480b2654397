theorem dX8_init_0 : decode cX8_init 0 = .ok (.aload_n 0, 1) := by decide +kernel
theorem dX8_init_1 : decode cX8_init 1 = .ok (.invokespecial 1, 3) := by decide +kernel
theorem dX8_init_4 : decode cX8_init 4 = .ok (.aload_n 0, 1) := by decide +kernel
theorem dX8_init_5 : decode cX8_init 5 = .ok (.new 7, 3) := by decide +kernel
theorem dX8_init_8 : decode cX8_init 8 = .ok (.dup, 1) := by decide +kernel
theorem dX8_init_9 : decode cX8_init 9 = .ok (.invokespecial 9, 3) := by decide +kernel
theorem dX8_init_12 : decode cX8_init 12 = .ok (.putfield 10, 3) := by decide +kernel
theorem dX8_init_15 : decode cX8_init 15 = .ok (.aload_n 0, 1) := by decide +kernel
theorem dX8_init_16 : decode cX8_init 16 = .ok (.new 16, 3) := by decide +kernel
theorem dX8_init_19 : decode cX8_init 19 = .ok (.dup, 1) := by decide +kernel
theorem dX8_init_20 : decode cX8_init 20 = .ok (.invokespecial 18, 3) := by decide +kernel
theorem dX8_init_23 : decode cX8_init 23 = .ok (.putfield 19, 3) := by decide +kernel
theorem dX8_init_26 : decode cX8_init 26 = .ok (.aload_n 0, 1) := by decide +kernel
theorem dX8_init_27 : decode cX8_init 27 = .ok (.new 23, 3) := by decide +kernel
theorem dX8_init_30 : decode cX8_init 30 = .ok (.dup, 1) := by decide +kernel
theorem dX8_init_31 : decode cX8_init 31 = .ok (.aload_n 0, 1) := by decide +kernel
theorem dX8_init_32 : decode cX8_init 32 = .ok (.getfield 10, 3) := by decide +kernel
theorem dX8_init_35 : decode cX8_init 35 = .ok (.invokespecial 25, 3) := by decide +kernel
theorem dX8_init_38 : decode cX8_init 38 = .ok (.putfield 28, 3) := by decide +kernel
theorem dX8_init_41 : decode cX8_init 41 = .ok (.aload_n 0, 1) := by decide +kernel
theorem dX8_init_42 : decode cX8_init 42 = .ok (.new 32, 3) := by decide +kernel
theorem dX8_init_45 : decode cX8_init 45 = .ok (.dup, 1) := by decide +kernel
theorem dX8_init_46 : decode cX8_init 46 = .ok (.aload_n 0, 1) := by decide +kernel
theorem dX8_init_47 : decode cX8_init 47 = .ok (.getfield 10, 3) := by decide +kernel
theorem dX8_init_50 : decode cX8_init 50 = .ok (.aload_n 0, 1) := by decide +kernel
theorem dX8_init_51 : decode cX8_init 51 = .ok (.getfield 28, 3) := by decide +kernel
theorem dX8_init_54 : decode cX8_init 54 = .ok (.invokespecial 34, 3) := by decide +kernel
theorem dX8_init_57 : decode cX8_init 57 = .ok (.putfield 37, 3) := by decide +kernel
theorem dX8_init_60 : decode cX8_init 60 = .ok (.aload_n 0, 1) := by decide +kernel
theorem dX8_init_61 : decode cX8_init 61 = .ok (.new 41, 3) := by decide +kernel
theorem dX8_init_64 : decode cX8_init 64 = .ok (.dup, 1) := by decide +kernel
theorem dX8_init_65 : decode cX8_init 65 = .ok (.invokespecial 43, 3) := by decide +kernel
theorem dX8_init_68 : decode cX8_init 68 = .ok (.putfield 44, 3) := by decide +kernel
theorem dX8_init_71 : decode cX8_init 71 = .ok (.aload_n 0, 1) := by decide +kernel
theorem dX8_init_72 : decode cX8_init 72 = .ok (.new 48, 3) := by decide +kernel
theorem dX8_init_75 : decode cX8_init 75 = .ok (.dup, 1) := by decide +kernel
theorem dX8_init_76 : decode cX8_init 76 = .ok (.invokespecial 50, 3) := by decide +kernel
theorem dX8_init_79 : decode cX8_init 79 = .ok (.putfield 51, 3) := by decide +kernel
theorem dX8_init_82 : decode cX8_init 82 = .ok (.aload_n 0, 1) := by decide +kernel
theorem dX8_init_83 : decode cX8_init 83 = .ok (.new 55, 3) := by decide +kernel
theorem dX8_init_86 : decode cX8_init 86 = .ok (.dup, 1) := by decide +kernel
theorem dX8_init_87 : decode cX8_init 87 = .ok (.invokespecial 57, 3) := by decide +kernel
theorem dX8_init_90 : decode cX8_init 90 = .ok (.putfield 58, 3) := by decide +kernel
theorem dX8_init_93 : decode cX8_init 93 = .ok (.return_, 1) := by decide +kernel
theorem dX8_toDay_0 : decode cX8_toDay 0 = .ok (.iload_n 1, 1) := by decide +kernel
theorem dX8_toDay_1 : decode cX8_toDay 1 = .ok (.invokestatic 62, 3) := by decide +kernel
theorem dX8_toDay_4 : decode cX8_toDay 4 = .ok (.ifCond .ne 5, 3) := by decide +kernel
theorem dX8_toDay_7 : decode cX8_toDay 7 = .ok (.iconst (-1), 1) := by decide +kernel
theorem dX8_toDay_8 : decode cX8_toDay 8 = .ok (.ireturn, 1) := by decide +kernel
theorem dX8_toDay_9 : decode cX8_toDay 9 = .ok (.aload_n 0, 1) := by decide +kernel
theorem dX8_toDay_10 : decode cX8_toDay 10 = .ok (.getfield 10, 3) := by decide +kernel
theorem dX8_toDay_13 : decode cX8_toDay 13 = .ok (.iload_n 1, 1) := by decide +kernel
theorem dX8_toDay_14 : decode cX8_toDay 14 = .ok (.iload_n 2, 1) := by decide +kernel
theorem dX8_toDay_15 : decode cX8_toDay 15 = .ok (.iload_n 3, 1) := by decide +kernel
theorem dX8_toDay_16 : decode cX8_toDay 16 = .ok (.invokevirtual 66, 3) := by decide +kernel
theorem dX8_toDay_19 : decode cX8_toDay 19 = .ok (.ifCond .ne 6, 3) := by decide +kernel
theorem dX8_toDay_22 : decode cX8_toDay 22 = .ok (.bipush (-2), 2) := by decide +kernel
theorem dX8_toDay_24 : decode cX8_toDay 24 = .ok (.ireturn, 1) := by decide +kernel
theorem dX8_toDay_25 : decode cX8_toDay 25 = .ok (.iload 4, 2) := by decide +kernel
theorem dX8_toDay_27 : decode cX8_toDay 27 = .ok (.iconst 1, 1) := by decide +kernel
theorem dX8_toDay_28 : decode cX8_toDay 28 = .ok (.if_icmp .lt 18, 3) := by decide +kernel
theorem dX8_toDay_31 : decode cX8_toDay 31 = .ok (.iload 4, 2) := by decide +kernel
theorem dX8_toDay_33 : decode cX8_toDay 33 = .ok (.aload_n 0, 1) := by decide +kernel
theorem dX8_toDay_34 : decode cX8_toDay 34 = .ok (.getfield 10, 3) := by decide +kernel
theorem dX8_toDay_37 : decode cX8_toDay 37 = .ok (.iload_n 1, 1) := by decide +kernel
theorem dX8_toDay_38 : decode cX8_toDay 38 = .ok (.iload_n 2, 1) := by decide +kernel
theorem dX8_toDay_39 : decode cX8_toDay 39 = .ok (.iload_n 3, 1) := by decide +kernel
theorem dX8_toDay_40 : decode cX8_toDay 40 = .ok (.invokevirtual 70, 3) := by decide +kernel
theorem dX8_toDay_43 : decode cX8_toDay 43 = .ok (.if_icmp .le 6, 3) := by decide +kernel
theorem dX8_toDay_46 : decode cX8_toDay 46 = .ok (.bipush (-2), 2) := by decide +kernel
theorem dX8_toDay_48 : decode cX8_toDay 48 = .ok (.ireturn, 1) := by decide +kernel
theorem dX8_toDay_49 : decode cX8_toDay 49 = .ok (.aload_n 0, 1) := by decide +kernel
theorem dX8_toDay_50 : decode cX8_toDay 50 = .ok (.getfield 10, 3) := by decide +kernel
theorem dX8_toDay_53 : decode cX8_toDay 53 = .ok (.iload_n 1, 1) := by decide +kernel
theorem dX8_toDay_54 : decode cX8_toDay 54 = .ok (.iload_n 2, 1) := by decide +kernel
theorem dX8_toDay_55 : decode cX8_toDay 55 = .ok (.iload_n 3, 1) := by decide +kernel
theorem dX8_toDay_56 : decode cX8_toDay 56 = .ok (.invokevirtual 74, 3) := by decide +kernel
theorem dX8_toDay_59 : decode cX8_toDay 59 = .ok (.iload 4, 2) := by decide +kernel
theorem dX8_toDay_61 : decode cX8_toDay 61 = .ok (.iadd, 1) := by decide +kernel
theorem dX8_toDay_62 : decode cX8_toDay 62 = .ok (.iconst 1, 1) := by decide +kernel
theorem dX8_toDay_63 : decode cX8_toDay 63 = .ok (.isub, 1) := by decide +kernel
theorem dX8_toDay_64 : decode cX8_toDay 64 = .ok (.invokestatic 77, 3) := by decide +kernel
theorem dX8_toDay_67 : decode cX8_toDay 67 = .ok (.ireturn, 1) := by decide +kernel
theorem dX8_fromDay_0 : decode cX8_fromDay 0 = .ok (.iload_n 1, 1) := by decide +kernel
theorem dX8_fromDay_1 : decode cX8_fromDay 1 = .ok (.invokestatic 62, 3) := by decide +kernel
theorem dX8_fromDay_4 : decode cX8_fromDay 4 = .ok (.ifCond .eq 12, 3) := by decide +kernel
theorem dX8_fromDay_7 : decode cX8_fromDay 7 = .ok (.iload_n 3, 1) := by decide +kernel
theorem dX8_fromDay_8 : decode cX8_fromDay 8 = .ok (.ifCond .lt 8, 3) := by decide +kernel
theorem dX8_fromDay_11 : decode cX8_fromDay 11 = .ok (.iload_n 3, 1) := by decide +kernel
theorem dX8_fromDay_12 : decode cX8_fromDay 12 = .ok (.iconst 4, 1) := by decide +kernel
theorem dX8_fromDay_13 : decode cX8_fromDay 13 = .ok (.if_icmp .le 5, 3) := by decide +kernel
theorem dX8_fromDay_16 : decode cX8_fromDay 16 = .ok (.iconst (-1), 1) := by decide +kernel
theorem dX8_fromDay_17 : decode cX8_fromDay 17 = .ok (.ireturn, 1) := by decide +kernel
theorem dX8_fromDay_18 : decode cX8_fromDay 18 = .ok (.iload_n 2, 1) := by decide +kernel
theorem dX8_fromDay_19 : decode cX8_fromDay 19 = .ok (.invokestatic 81, 3) := by decide +kernel
theorem dX8_fromDay_22 : decode cX8_fromDay 22 = .ok (.ifCond .ne 6, 3) := by decide +kernel
theorem dX8_fromDay_25 : decode cX8_fromDay 25 = .ok (.bipush (-3), 2) := by decide +kernel
theorem dX8_fromDay_27 : decode cX8_fromDay 27 = .ok (.ireturn, 1) := by decide +kernel
theorem dX8_fromDay_28 : decode cX8_fromDay 28 = .ok (.aload_n 0, 1) := by decide +kernel
theorem dX8_fromDay_29 : decode cX8_fromDay 29 = .ok (.getfield 10, 3) := by decide +kernel
theorem dX8_fromDay_32 : decode cX8_fromDay 32 = .ok (.iload_n 1, 1) := by decide +kernel
theorem dX8_fromDay_33 : decode cX8_fromDay 33 = .ok (.iload_n 2, 1) := by decide +kernel
theorem dX8_fromDay_34 : decode cX8_fromDay 34 = .ok (.invokevirtual 84, 3) := by decide +kernel
theorem dX8_fromDay_37 : decode cX8_fromDay 37 = .ok (.ifCond .ne 6, 3) := by decide +kernel
theorem dX8_fromDay_40 : decode cX8_fromDay 40 = .ok (.bipush (-2), 2) := by decide +kernel
theorem dX8_fromDay_42 : decode cX8_fromDay 42 = .ok (.ireturn, 1) := by decide +kernel
theorem dX8_fromDay_43 : decode cX8_fromDay 43 = .ok (.iload_n 3, 1) := by decide +kernel
theorem dX8_fromDay_44 : decode cX8_fromDay 44 = .ok (.tableswitch 72 0 3 #[32, 42, 52, 62], 32) := by decide +kernel
theorem dX8_fromDay_76 : decode cX8_fromDay 76 = .ok (.aload_n 0, 1) := by decide +kernel
theorem dX8_fromDay_77 : decode cX8_fromDay 77 = .ok (.getfield 10, 3) := by decide +kernel
theorem dX8_fromDay_80 : decode cX8_fromDay 80 = .ok (.iload_n 1, 1) := by decide +kernel
theorem dX8_fromDay_81 : decode cX8_fromDay 81 = .ok (.iload_n 2, 1) := by decide +kernel
theorem dX8_fromDay_82 : decode cX8_fromDay 82 = .ok (.invokevirtual 88, 3) := by decide +kernel
theorem dX8_fromDay_85 : decode cX8_fromDay 85 = .ok (.ireturn, 1) := by decide +kernel
theorem dX8_fromDay_86 : decode cX8_fromDay 86 = .ok (.aload_n 0, 1) := by decide +kernel
theorem dX8_fromDay_87 : decode cX8_fromDay 87 = .ok (.getfield 10, 3) := by decide +kernel
theorem dX8_fromDay_90 : decode cX8_fromDay 90 = .ok (.iload_n 1, 1) := by decide +kernel
theorem dX8_fromDay_91 : decode cX8_fromDay 91 = .ok (.iload_n 2, 1) := by decide +kernel
theorem dX8_fromDay_92 : decode cX8_fromDay 92 = .ok (.invokevirtual 92, 3) := by decide +kernel
theorem dX8_fromDay_95 : decode cX8_fromDay 95 = .ok (.ireturn, 1) := by decide +kernel
theorem dX8_fromDay_96 : decode cX8_fromDay 96 = .ok (.aload_n 0, 1) := by decide +kernel
theorem dX8_fromDay_97 : decode cX8_fromDay 97 = .ok (.getfield 10, 3) := by decide +kernel
theorem dX8_fromDay_100 : decode cX8_fromDay 100 = .ok (.iload_n 1, 1) := by decide +kernel
theorem dX8_fromDay_101 : decode cX8_fromDay 101 = .ok (.iload_n 2, 1) := by decide +kernel
theorem dX8_fromDay_102 : decode cX8_fromDay 102 = .ok (.invokevirtual 95, 3) := by decide +kernel
theorem dX8_fromDay_105 : decode cX8_fromDay 105 = .ok (.ireturn, 1) := by decide +kernel
theorem dX8_fromDay_106 : decode cX8_fromDay 106 = .ok (.aload_n 0, 1) := by decide +kernel
theorem dX8_fromDay_107 : decode cX8_fromDay 107 = .ok (.getfield 10, 3) := by decide +kernel
theorem dX8_fromDay_110 : decode cX8_fromDay 110 = .ok (.iload_n 1, 1) := by decide +kernel
theorem dX8_fromDay_111 : decode cX8_fromDay 111 = .ok (.iload_n 2, 1) := by decide +kernel
theorem dX8_fromDay_112 : decode cX8_fromDay 112 = .ok (.invokevirtual 98, 3) := by decide +kernel
theorem dX8_fromDay_115 : decode cX8_fromDay 115 = .ok (.ireturn, 1) := by decide +kernel
theorem dX8_fromDay_116 : decode cX8_fromDay 116 = .ok (.iload_n 1, 1) := by decide +kernel
theorem dX8_fromDay_117 : decode cX8_fromDay 117 = .ok (.bipush 6, 2) := by decide +kernel
theorem dX8_fromDay_119 : decode cX8_fromDay 119 = .ok (.if_icmp .ne 14, 3) := by decide +kernel
theorem dX8_fromDay_122 : decode cX8_fromDay 122 = .ok (.iload_n 2, 1) := by decide +kernel
theorem dX8_fromDay_123 : decode cX8_fromDay 123 = .ok (.iconst 3, 1) := by decide +kernel
theorem dX8_fromDay_124 : decode cX8_fromDay 124 = .ok (.iadd, 1) := by decide +kernel
theorem dX8_fromDay_125 : decode cX8_fromDay 125 = .ok (.bipush 13, 2) := by decide +kernel
theorem dX8_fromDay_127 : decode cX8_fromDay 127 = .ok (.irem, 1) := by decide +kernel
theorem dX8_fromDay_128 : decode cX8_fromDay 128 = .ok (.iconst 1, 1) := by decide +kernel
theorem dX8_fromDay_129 : decode cX8_fromDay 129 = .ok (.iadd, 1) := by decide +kernel
theorem dX8_fromDay_130 : decode cX8_fromDay 130 = .ok (.goto 4, 3) := by decide +kernel
theorem dX8_fromDay_133 : decode cX8_fromDay 133 = .ok (.iconst 0, 1) := by decide +kernel
theorem dX8_fromDay_134 : decode cX8_fromDay 134 = .ok (.ireturn, 1) := by decide +kernel
theorem dX8_monthLength_0 : decode cX8_monthLength 0 = .ok (.iload_n 1, 1) := by decide +kernel
theorem dX8_monthLength_1 : decode cX8_monthLength 1 = .ok (.invokestatic 62, 3) := by decide +kernel
theorem dX8_monthLength_4 : decode cX8_monthLength 4 = .ok (.ifCond .ne 5, 3) := by decide +kernel
theorem dX8_monthLength_7 : decode cX8_monthLength 7 = .ok (.iconst (-1), 1) := by decide +kernel
theorem dX8_monthLength_8 : decode cX8_monthLength 8 = .ok (.ireturn, 1) := by decide +kernel
theorem dX8_monthLength_9 : decode cX8_monthLength 9 = .ok (.aload_n 0, 1) := by decide +kernel
theorem dX8_monthLength_10 : decode cX8_monthLength 10 = .ok (.getfield 10, 3) := by decide +kernel
theorem dX8_monthLength_13 : decode cX8_monthLength 13 = .ok (.iload_n 1, 1) := by decide +kernel
theorem dX8_monthLength_14 : decode cX8_monthLength 14 = .ok (.iload_n 2, 1) := by decide +kernel
theorem dX8_monthLength_15 : decode cX8_monthLength 15 = .ok (.iload_n 3, 1) := by decide +kernel
theorem dX8_monthLength_16 : decode cX8_monthLength 16 = .ok (.invokevirtual 66, 3) := by decide +kernel
theorem dX8_monthLength_19 : decode cX8_monthLength 19 = .ok (.ifCond .ne 6, 3) := by decide +kernel
theorem dX8_monthLength_22 : decode cX8_monthLength 22 = .ok (.bipush (-2), 2) := by decide +kernel
theorem dX8_monthLength_24 : decode cX8_monthLength 24 = .ok (.ireturn, 1) := by decide +kernel
theorem dX8_monthLength_25 : decode cX8_monthLength 25 = .ok (.aload_n 0, 1) := by decide +kernel
theorem dX8_monthLength_26 : decode cX8_monthLength 26 = .ok (.getfield 10, 3) := by decide +kernel
theorem dX8_monthLength_29 : decode cX8_monthLength 29 = .ok (.iload_n 1, 1) := by decide +kernel
theorem dX8_monthLength_30 : decode cX8_monthLength 30 = .ok (.iload_n 2, 1) := by decide +kernel
theorem dX8_monthLength_31 : decode cX8_monthLength 31 = .ok (.iload_n 3, 1) := by decide +kernel
theorem dX8_monthLength_32 : decode cX8_monthLength 32 = .ok (.invokevirtual 70, 3) := by decide +kernel
theorem dX8_monthLength_35 : decode cX8_monthLength 35 = .ok (.ireturn, 1) := by decide +kernel
theorem dX8_yearLength_0 : decode cX8_yearLength 0 = .ok (.iload_n 1, 1) := by decide +kernel
theorem dX8_yearLength_1 : decode cX8_yearLength 1 = .ok (.invokestatic 62, 3) := by decide +kernel
theorem dX8_yearLength_4 : decode cX8_yearLength 4 = .ok (.ifCond .ne 5, 3) := by decide +kernel
theorem dX8_yearLength_7 : decode cX8_yearLength 7 = .ok (.iconst (-1), 1) := by decide +kernel
theorem dX8_yearLength_8 : decode cX8_yearLength 8 = .ok (.ireturn, 1) := by decide +kernel
theorem dX8_yearLength_9 : decode cX8_yearLength 9 = .ok (.aload_n 0, 1) := by decide +kernel
theorem dX8_yearLength_10 : decode cX8_yearLength 10 = .ok (.getfield 10, 3) := by decide +kernel
theorem dX8_yearLength_13 : decode cX8_yearLength 13 = .ok (.iload_n 1, 1) := by decide +kernel
theorem dX8_yearLength_14 : decode cX8_yearLength 14 = .ok (.iload_n 2, 1) := by decide +kernel
theorem dX8_yearLength_15 : decode cX8_yearLength 15 = .ok (.invokevirtual 101, 3) := by decide +kernel
theorem dX8_yearLength_18 : decode cX8_yearLength 18 = .ok (.ifCond .ne 6, 3) := by decide +kernel
theorem dX8_yearLength_21 : decode cX8_yearLength 21 = .ok (.bipush (-2), 2) := by decide +kernel
theorem dX8_yearLength_23 : decode cX8_yearLength 23 = .ok (.ireturn, 1) := by decide +kernel
theorem dX8_yearLength_24 : decode cX8_yearLength 24 = .ok (.aload_n 0, 1) := by decide +kernel
theorem dX8_yearLength_25 : decode cX8_yearLength 25 = .ok (.getfield 10, 3) := by decide +kernel
theorem dX8_yearLength_28 : decode cX8_yearLength 28 = .ok (.iload_n 1, 1) := by decide +kernel
theorem dX8_yearLength_29 : decode cX8_yearLength 29 = .ok (.iload_n 2, 1) := by decide +kernel
theorem dX8_yearLength_30 : decode cX8_yearLength 30 = .ok (.invokevirtual 104, 3) := by decide +kernel
theorem dX8_yearLength_33 : decode cX8_yearLength 33 = .ok (.ireturn, 1) := by decide +kernel
theorem dX8_months_0 : decode cX8_months 0 = .ok (.iload_n 1, 1) := by decide +kernel
theorem dX8_months_1 : decode cX8_months 1 = .ok (.invokestatic 62, 3) := by decide +kernel
theorem dX8_months_4 : decode cX8_months 4 = .ok (.ifCond .ne 5, 3) := by decide +kernel
theorem dX8_months_7 : decode cX8_months 7 = .ok (.iconst (-1), 1) := by decide +kernel
theorem dX8_months_8 : decode cX8_months 8 = .ok (.ireturn, 1) := by decide +kernel
theorem dX8_months_9 : decode cX8_months 9 = .ok (.aload_n 0, 1) := by decide +kernel
theorem dX8_months_10 : decode cX8_months 10 = .ok (.getfield 10, 3) := by decide +kernel
theorem dX8_months_13 : decode cX8_months 13 = .ok (.iload_n 1, 1) := by decide +kernel
theorem dX8_months_14 : decode cX8_months 14 = .ok (.iload_n 2, 1) := by decide +kernel
theorem dX8_months_15 : decode cX8_months 15 = .ok (.invokevirtual 101, 3) := by decide +kernel
theorem dX8_months_18 : decode cX8_months 18 = .ok (.ifCond .ne 6, 3) := by decide +kernel
theorem dX8_months_21 : decode cX8_months 21 = .ok (.bipush (-2), 2) := by decide +kernel
theorem dX8_months_23 : decode cX8_months 23 = .ok (.ireturn, 1) := by decide +kernel
theorem dX8_months_24 : decode cX8_months 24 = .ok (.aload_n 0, 1) := by decide +kernel
theorem dX8_months_25 : decode cX8_months 25 = .ok (.getfield 10, 3) := by decide +kernel
theorem dX8_months_28 : decode cX8_months 28 = .ok (.iload_n 1, 1) := by decide +kernel
theorem dX8_months_29 : decode cX8_months 29 = .ok (.iload_n 2, 1) := by decide +kernel
theorem dX8_months_30 : decode cX8_months 30 = .ok (.invokevirtual 107, 3) := by decide +kernel
theorem dX8_months_33 : decode cX8_months 33 = .ok (.ireturn, 1) := by decide +kernel
theorem dX8_addMonths_0 : decode cX8_addMonths 0 = .ok (.iload_n 1, 1) := by decide +kernel
theorem dX8_addMonths_1 : decode cX8_addMonths 1 = .ok (.invokestatic 62, 3) := by decide +kernel
theorem dX8_addMonths_4 : decode cX8_addMonths 4 = .ok (.ifCond .eq 15, 3) := by decide +kernel
theorem dX8_addMonths_7 : decode cX8_addMonths 7 = .ok (.iload_n 3, 1) := by decide +kernel
theorem dX8_addMonths_8 : decode cX8_addMonths 8 = .ok (.ldc 110, 2) := by decide +kernel
theorem dX8_addMonths_10 : decode cX8_addMonths 10 = .ok (.if_icmp .lt 9, 3) := by decide +kernel
theorem dX8_addMonths_13 : decode cX8_addMonths 13 = .ok (.iload_n 3, 1) := by decide +kernel
theorem dX8_addMonths_14 : decode cX8_addMonths 14 = .ok (.ldc 111, 2) := by decide +kernel
theorem dX8_addMonths_16 : decode cX8_addMonths 16 = .ok (.if_icmp .le 5, 3) := by decide +kernel
theorem dX8_addMonths_19 : decode cX8_addMonths 19 = .ok (.iconst (-1), 1) := by decide +kernel
theorem dX8_addMonths_20 : decode cX8_addMonths 20 = .ok (.ireturn, 1) := by decide +kernel
theorem dX8_addMonths_21 : decode cX8_addMonths 21 = .ok (.iload_n 2, 1) := by decide +kernel
theorem dX8_addMonths_22 : decode cX8_addMonths 22 = .ok (.invokestatic 81, 3) := by decide +kernel
theorem dX8_addMonths_25 : decode cX8_addMonths 25 = .ok (.ifCond .ne 6, 3) := by decide +kernel
theorem dX8_addMonths_28 : decode cX8_addMonths 28 = .ok (.bipush (-3), 2) := by decide +kernel
theorem dX8_addMonths_30 : decode cX8_addMonths 30 = .ok (.ireturn, 1) := by decide +kernel
theorem dX8_addMonths_31 : decode cX8_addMonths 31 = .ok (.aload_n 0, 1) := by decide +kernel
theorem dX8_addMonths_32 : decode cX8_addMonths 32 = .ok (.getfield 10, 3) := by decide +kernel
theorem dX8_addMonths_35 : decode cX8_addMonths 35 = .ok (.iload_n 1, 1) := by decide +kernel
theorem dX8_addMonths_36 : decode cX8_addMonths 36 = .ok (.iload_n 2, 1) := by decide +kernel
theorem dX8_addMonths_37 : decode cX8_addMonths 37 = .ok (.invokevirtual 84, 3) := by decide +kernel
theorem dX8_addMonths_40 : decode cX8_addMonths 40 = .ok (.ifCond .ne 6, 3) := by decide +kernel
theorem dX8_addMonths_43 : decode cX8_addMonths 43 = .ok (.bipush (-2), 2) := by decide +kernel
theorem dX8_addMonths_45 : decode cX8_addMonths 45 = .ok (.ireturn, 1) := by decide +kernel
theorem dX8_addMonths_46 : decode cX8_addMonths 46 = .ok (.aload_n 0, 1) := by decide +kernel
theorem dX8_addMonths_47 : decode cX8_addMonths 47 = .ok (.getfield 10, 3) := by decide +kernel
theorem dX8_addMonths_50 : decode cX8_addMonths 50 = .ok (.iload_n 1, 1) := by decide +kernel
theorem dX8_addMonths_51 : decode cX8_addMonths 51 = .ok (.iload_n 2, 1) := by decide +kernel
theorem dX8_addMonths_52 : decode cX8_addMonths 52 = .ok (.invokevirtual 112, 3) := by decide +kernel
theorem dX8_addMonths_55 : decode cX8_addMonths 55 = .ok (.iload_n 3, 1) := by decide +kernel
theorem dX8_addMonths_56 : decode cX8_addMonths 56 = .ok (.iadd, 1) := by decide +kernel
theorem dX8_addMonths_57 : decode cX8_addMonths 57 = .ok (.istore 4, 2) := by decide +kernel
theorem dX8_addMonths_59 : decode cX8_addMonths 59 = .ok (.iload 4, 2) := by decide +kernel
theorem dX8_addMonths_61 : decode cX8_addMonths 61 = .ok (.ifCond .lt 16, 3) := by decide +kernel
theorem dX8_addMonths_64 : decode cX8_addMonths 64 = .ok (.iload 4, 2) := by decide +kernel
theorem dX8_addMonths_66 : decode cX8_addMonths 66 = .ok (.aload_n 0, 1) := by decide +kernel
theorem dX8_addMonths_67 : decode cX8_addMonths 67 = .ok (.getfield 10, 3) := by decide +kernel
theorem dX8_addMonths_70 : decode cX8_addMonths 70 = .ok (.iload_n 1, 1) := by decide +kernel
theorem dX8_addMonths_71 : decode cX8_addMonths 71 = .ok (.invokevirtual 115, 3) := by decide +kernel
theorem dX8_addMonths_74 : decode cX8_addMonths 74 = .ok (.if_icmp .lt 6, 3) := by decide +kernel
theorem dX8_addMonths_77 : decode cX8_addMonths 77 = .ok (.bipush (-3), 2) := by decide +kernel
theorem dX8_addMonths_79 : decode cX8_addMonths 79 = .ok (.ireturn, 1) := by decide +kernel
theorem dX8_addMonths_80 : decode cX8_addMonths 80 = .ok (.aload_n 0, 1) := by decide +kernel
theorem dX8_addMonths_81 : decode cX8_addMonths 81 = .ok (.getfield 10, 3) := by decide +kernel
theorem dX8_addMonths_84 : decode cX8_addMonths 84 = .ok (.iload_n 1, 1) := by decide +kernel
theorem dX8_addMonths_85 : decode cX8_addMonths 85 = .ok (.iload 4, 2) := by decide +kernel
theorem dX8_addMonths_87 : decode cX8_addMonths 87 = .ok (.aload_n 0, 1) := by decide +kernel
theorem dX8_addMonths_88 : decode cX8_addMonths 88 = .ok (.getfield 10, 3) := by decide +kernel
theorem dX8_addMonths_91 : decode cX8_addMonths 91 = .ok (.iload_n 1, 1) := by decide +kernel
theorem dX8_addMonths_92 : decode cX8_addMonths 92 = .ok (.iload_n 2, 1) := by decide +kernel
theorem dX8_addMonths_93 : decode cX8_addMonths 93 = .ok (.invokevirtual 95, 3) := by decide +kernel
theorem dX8_addMonths_96 : decode cX8_addMonths 96 = .ok (.invokevirtual 118, 3) := by decide +kernel
theorem dX8_addMonths_99 : decode cX8_addMonths 99 = .ok (.invokestatic 77, 3) := by decide +kernel
theorem dX8_addMonths_102 : decode cX8_addMonths 102 = .ok (.ireturn, 1) := by decide +kernel
theorem dX8_addYears_0 : decode cX8_addYears 0 = .ok (.iload_n 1, 1) := by decide +kernel
theorem dX8_addYears_1 : decode cX8_addYears 1 = .ok (.invokestatic 62, 3) := by decide +kernel
theorem dX8_addYears_4 : decode cX8_addYears 4 = .ok (.ifCond .eq 17, 3) := by decide +kernel
theorem dX8_addYears_7 : decode cX8_addYears 7 = .ok (.iload_n 3, 1) := by decide +kernel
theorem dX8_addYears_8 : decode cX8_addYears 8 = .ok (.sipush (-5000), 3) := by decide +kernel
theorem dX8_addYears_11 : decode cX8_addYears 11 = .ok (.if_icmp .lt 10, 3) := by decide +kernel
theorem dX8_addYears_14 : decode cX8_addYears 14 = .ok (.iload_n 3, 1) := by decide +kernel
theorem dX8_addYears_15 : decode cX8_addYears 15 = .ok (.sipush 5000, 3) := by decide +kernel
theorem dX8_addYears_18 : decode cX8_addYears 18 = .ok (.if_icmp .le 5, 3) := by decide +kernel
theorem dX8_addYears_21 : decode cX8_addYears 21 = .ok (.iconst (-1), 1) := by decide +kernel
theorem dX8_addYears_22 : decode cX8_addYears 22 = .ok (.ireturn, 1) := by decide +kernel
theorem dX8_addYears_23 : decode cX8_addYears 23 = .ok (.iload_n 2, 1) := by decide +kernel
theorem dX8_addYears_24 : decode cX8_addYears 24 = .ok (.invokestatic 81, 3) := by decide +kernel
theorem dX8_addYears_27 : decode cX8_addYears 27 = .ok (.ifCond .ne 6, 3) := by decide +kernel
theorem dX8_addYears_30 : decode cX8_addYears 30 = .ok (.bipush (-3), 2) := by decide +kernel
theorem dX8_addYears_32 : decode cX8_addYears 32 = .ok (.ireturn, 1) := by decide +kernel
theorem dX8_addYears_33 : decode cX8_addYears 33 = .ok (.aload_n 0, 1) := by decide +kernel
theorem dX8_addYears_34 : decode cX8_addYears 34 = .ok (.getfield 10, 3) := by decide +kernel
theorem dX8_addYears_37 : decode cX8_addYears 37 = .ok (.iload_n 1, 1) := by decide +kernel
theorem dX8_addYears_38 : decode cX8_addYears 38 = .ok (.iload_n 2, 1) := by decide +kernel
theorem dX8_addYears_39 : decode cX8_addYears 39 = .ok (.invokevirtual 84, 3) := by decide +kernel
theorem dX8_addYears_42 : decode cX8_addYears 42 = .ok (.ifCond .ne 6, 3) := by decide +kernel
theorem dX8_addYears_45 : decode cX8_addYears 45 = .ok (.bipush (-2), 2) := by decide +kernel
theorem dX8_addYears_47 : decode cX8_addYears 47 = .ok (.ireturn, 1) := by decide +kernel
theorem dX8_addYears_48 : decode cX8_addYears 48 = .ok (.aload_n 0, 1) := by decide +kernel
theorem dX8_addYears_49 : decode cX8_addYears 49 = .ok (.getfield 10, 3) := by decide +kernel
theorem dX8_addYears_52 : decode cX8_addYears 52 = .ok (.iload_n 1, 1) := by decide +kernel
theorem dX8_addYears_53 : decode cX8_addYears 53 = .ok (.iload_n 2, 1) := by decide +kernel
theorem dX8_addYears_54 : decode cX8_addYears 54 = .ok (.invokevirtual 88, 3) := by decide +kernel
theorem dX8_addYears_57 : decode cX8_addYears 57 = .ok (.iload_n 3, 1) := by decide +kernel
theorem dX8_addYears_58 : decode cX8_addYears 58 = .ok (.iadd, 1) := by decide +kernel
theorem dX8_addYears_59 : decode cX8_addYears 59 = .ok (.istore 4, 2) := by decide +kernel
theorem dX8_addYears_61 : decode cX8_addYears 61 = .ok (.aload_n 0, 1) := by decide +kernel
theorem dX8_addYears_62 : decode cX8_addYears 62 = .ok (.getfield 10, 3) := by decide +kernel
theorem dX8_addYears_65 : decode cX8_addYears 65 = .ok (.iload_n 1, 1) := by decide +kernel
theorem dX8_addYears_66 : decode cX8_addYears 66 = .ok (.iload 4, 2) := by decide +kernel
theorem dX8_addYears_68 : decode cX8_addYears 68 = .ok (.invokevirtual 101, 3) := by decide +kernel
theorem dX8_addYears_71 : decode cX8_addYears 71 = .ok (.ifCond .ne 6, 3) := by decide +kernel
theorem dX8_addYears_74 : decode cX8_addYears 74 = .ok (.bipush (-3), 2) := by decide +kernel
theorem dX8_addYears_76 : decode cX8_addYears 76 = .ok (.ireturn, 1) := by decide +kernel
theorem dX8_addYears_77 : decode cX8_addYears 77 = .ok (.aload_n 0, 1) := by decide +kernel
theorem dX8_addYears_78 : decode cX8_addYears 78 = .ok (.getfield 10, 3) := by decide +kernel
theorem dX8_addYears_81 : decode cX8_addYears 81 = .ok (.iload_n 1, 1) := by decide +kernel
theorem dX8_addYears_82 : decode cX8_addYears 82 = .ok (.iload_n 2, 1) := by decide +kernel
theorem dX8_addYears_83 : decode cX8_addYears 83 = .ok (.iload 4, 2) := by decide +kernel
theorem dX8_addYears_85 : decode cX8_addYears 85 = .ok (.invokevirtual 121, 3) := by decide +kernel
theorem dX8_addYears_88 : decode cX8_addYears 88 = .ok (.invokestatic 77, 3) := by decide +kernel
theorem dX8_addYears_91 : decode cX8_addYears 91 = .ok (.ireturn, 1) := by decide +kernel
theorem dX8_difference_0 : decode cX8_difference 0 = .ok (.iload_n 1, 1) := by decide +kernel
theorem dX8_difference_1 : decode cX8_difference 1 = .ok (.invokestatic 62, 3) := by decide +kernel
theorem dX8_difference_4 : decode cX8_difference 4 = .ok (.ifCond .eq 19, 3) := by decide +kernel
theorem dX8_difference_7 : decode cX8_difference 7 = .ok (.iload 4, 2) := by decide +kernel
theorem dX8_difference_9 : decode cX8_difference 9 = .ok (.ifCond .lt 14, 3) := by decide +kernel
theorem dX8_difference_12 : decode cX8_difference 12 = .ok (.iload 4, 2) := by decide +kernel
theorem dX8_difference_14 : decode cX8_difference 14 = .ok (.iconst 2, 1) := by decide +kernel
theorem dX8_difference_15 : decode cX8_difference 15 = .ok (.if_icmp .gt 8, 3) := by decide +kernel
theorem dX8_difference_18 : decode cX8_difference 18 = .ok (.iload_n 3, 1) := by decide +kernel
theorem dX8_difference_19 : decode cX8_difference 19 = .ok (.iload_n 2, 1) := by decide +kernel
theorem dX8_difference_20 : decode cX8_difference 20 = .ok (.if_icmp .ge 5, 3) := by decide +kernel
theorem dX8_difference_23 : decode cX8_difference 23 = .ok (.iconst (-1), 1) := by decide +kernel
theorem dX8_difference_24 : decode cX8_difference 24 = .ok (.ireturn, 1) := by decide +kernel
theorem dX8_difference_25 : decode cX8_difference 25 = .ok (.iload_n 2, 1) := by decide +kernel
theorem dX8_difference_26 : decode cX8_difference 26 = .ok (.invokestatic 81, 3) := by decide +kernel
theorem dX8_difference_29 : decode cX8_difference 29 = .ok (.ifCond .eq 10, 3) := by decide +kernel
theorem dX8_difference_32 : decode cX8_difference 32 = .ok (.iload_n 3, 1) := by decide +kernel
theorem dX8_difference_33 : decode cX8_difference 33 = .ok (.invokestatic 81, 3) := by decide +kernel
theorem dX8_difference_36 : decode cX8_difference 36 = .ok (.ifCond .ne 6, 3) := by decide +kernel
theorem dX8_difference_39 : decode cX8_difference 39 = .ok (.bipush (-3), 2) := by decide +kernel
theorem dX8_difference_41 : decode cX8_difference 41 = .ok (.ireturn, 1) := by decide +kernel
theorem dX8_difference_42 : decode cX8_difference 42 = .ok (.aload_n 0, 1) := by decide +kernel
theorem dX8_difference_43 : decode cX8_difference 43 = .ok (.getfield 10, 3) := by decide +kernel
theorem dX8_difference_46 : decode cX8_difference 46 = .ok (.iload_n 1, 1) := by decide +kernel
theorem dX8_difference_47 : decode cX8_difference 47 = .ok (.iload_n 2, 1) := by decide +kernel
theorem dX8_difference_48 : decode cX8_difference 48 = .ok (.invokevirtual 84, 3) := by decide +kernel
theorem dX8_difference_51 : decode cX8_difference 51 = .ok (.ifCond .ne 6, 3) := by decide +kernel
theorem dX8_difference_54 : decode cX8_difference 54 = .ok (.bipush (-2), 2) := by decide +kernel
theorem dX8_difference_56 : decode cX8_difference 56 = .ok (.ireturn, 1) := by decide +kernel
theorem dX8_difference_57 : decode cX8_difference 57 = .ok (.aload_n 0, 1) := by decide +kernel
theorem dX8_difference_58 : decode cX8_difference 58 = .ok (.getfield 10, 3) := by decide +kernel
theorem dX8_difference_61 : decode cX8_difference 61 = .ok (.iload_n 1, 1) := by decide +kernel
theorem dX8_difference_62 : decode cX8_difference 62 = .ok (.iload_n 2, 1) := by decide +kernel
theorem dX8_difference_63 : decode cX8_difference 63 = .ok (.invokevirtual 88, 3) := by decide +kernel
theorem dX8_difference_66 : decode cX8_difference 66 = .ok (.istore 5, 2) := by decide +kernel
theorem dX8_difference_68 : decode cX8_difference 68 = .ok (.aload_n 0, 1) := by decide +kernel
theorem dX8_difference_69 : decode cX8_difference 69 = .ok (.iload_n 1, 1) := by decide +kernel
theorem dX8_difference_70 : decode cX8_difference 70 = .ok (.iload_n 2, 1) := by decide +kernel
theorem dX8_difference_71 : decode cX8_difference 71 = .ok (.iload_n 3, 1) := by decide +kernel
theorem dX8_difference_72 : decode cX8_difference 72 = .ok (.invokevirtual 124, 3) := by decide +kernel
theorem dX8_difference_75 : decode cX8_difference 75 = .ok (.istore 6, 2) := by decide +kernel
theorem dX8_difference_77 : decode cX8_difference 77 = .ok (.aload_n 0, 1) := by decide +kernel
theorem dX8_difference_78 : decode cX8_difference 78 = .ok (.getfield 10, 3) := by decide +kernel
theorem dX8_difference_81 : decode cX8_difference 81 = .ok (.iload_n 1, 1) := by decide +kernel
theorem dX8_difference_82 : decode cX8_difference 82 = .ok (.iload_n 2, 1) := by decide +kernel
theorem dX8_difference_83 : decode cX8_difference 83 = .ok (.iload 5, 2) := by decide +kernel
theorem dX8_difference_85 : decode cX8_difference 85 = .ok (.iload 6, 2) := by decide +kernel
theorem dX8_difference_87 : decode cX8_difference 87 = .ok (.iadd, 1) := by decide +kernel
theorem dX8_difference_88 : decode cX8_difference 88 = .ok (.invokevirtual 121, 3) := by decide +kernel
theorem dX8_difference_91 : decode cX8_difference 91 = .ok (.istore 7, 2) := by decide +kernel
theorem dX8_difference_93 : decode cX8_difference 93 = .ok (.aload_n 0, 1) := by decide +kernel
theorem dX8_difference_94 : decode cX8_difference 94 = .ok (.iload_n 1, 1) := by decide +kernel
theorem dX8_difference_95 : decode cX8_difference 95 = .ok (.iload 7, 2) := by decide +kernel
theorem dX8_difference_97 : decode cX8_difference 97 = .ok (.iload_n 3, 1) := by decide +kernel
theorem dX8_difference_98 : decode cX8_difference 98 = .ok (.invokevirtual 127, 3) := by decide +kernel
theorem dX8_difference_101 : decode cX8_difference 101 = .ok (.istore 8, 2) := by decide +kernel
theorem dX8_difference_103 : decode cX8_difference 103 = .ok (.iload 4, 2) := by decide +kernel
theorem dX8_difference_105 : decode cX8_difference 105 = .ok (.lookupswitch 33 #[(0, 27), (1, 30)], 27) := by decide +kernel
theorem dX8_difference_132 : decode cX8_difference 132 = .ok (.iload 6, 2) := by decide +kernel
theorem dX8_difference_134 : decode cX8_difference 134 = .ok (.ireturn, 1) := by decide +kernel
theorem dX8_difference_135 : decode cX8_difference 135 = .ok (.iload 8, 2) := by decide +kernel
theorem dX8_difference_137 : decode cX8_difference 137 = .ok (.ireturn, 1) := by decide +kernel
theorem dX8_difference_138 : decode cX8_difference 138 = .ok (.aload_n 0, 1) := by decide +kernel
theorem dX8_difference_139 : decode cX8_difference 139 = .ok (.getfield 10, 3) := by decide +kernel
theorem dX8_difference_142 : decode cX8_difference 142 = .ok (.iload_n 1, 1) := by decide +kernel
theorem dX8_difference_143 : decode cX8_difference 143 = .ok (.iload 7, 2) := by decide +kernel
theorem dX8_difference_145 : decode cX8_difference 145 = .ok (.invokevirtual 112, 3) := by decide +kernel
theorem dX8_difference_148 : decode cX8_difference 148 = .ok (.iload 8, 2) := by decide +kernel
theorem dX8_difference_150 : decode cX8_difference 150 = .ok (.iadd, 1) := by decide +kernel
theorem dX8_difference_151 : decode cX8_difference 151 = .ok (.istore 9, 2) := by decide +kernel
theorem dX8_difference_153 : decode cX8_difference 153 = .ok (.iload_n 3, 1) := by decide +kernel
theorem dX8_difference_154 : decode cX8_difference 154 = .ok (.aload_n 0, 1) := by decide +kernel
theorem dX8_difference_155 : decode cX8_difference 155 = .ok (.getfield 10, 3) := by decide +kernel
theorem dX8_difference_158 : decode cX8_difference 158 = .ok (.iload_n 1, 1) := by decide +kernel
theorem dX8_difference_159 : decode cX8_difference 159 = .ok (.iload 9, 2) := by decide +kernel
theorem dX8_difference_161 : decode cX8_difference 161 = .ok (.aload_n 0, 1) := by decide +kernel
theorem dX8_difference_162 : decode cX8_difference 162 = .ok (.getfield 10, 3) := by decide +kernel
theorem dX8_difference_165 : decode cX8_difference 165 = .ok (.iload_n 1, 1) := by decide +kernel
theorem dX8_difference_166 : decode cX8_difference 166 = .ok (.iload 7, 2) := by decide +kernel
theorem dX8_difference_168 : decode cX8_difference 168 = .ok (.invokevirtual 95, 3) := by decide +kernel
theorem dX8_difference_171 : decode cX8_difference 171 = .ok (.invokevirtual 118, 3) := by decide +kernel
theorem dX8_difference_174 : decode cX8_difference 174 = .ok (.isub, 1) := by decide +kernel
theorem dX8_difference_175 : decode cX8_difference 175 = .ok (.ireturn, 1) := by decide +kernel
theorem dX8_birthday_0 : decode cX8_birthday 0 = .ok (.iload_n 1, 1) := by decide +kernel
theorem dX8_birthday_1 : decode cX8_birthday 1 = .ok (.invokestatic 62, 3) := by decide +kernel
theorem dX8_birthday_4 : decode cX8_birthday 4 = .ok (.ifCond .eq 9, 3) := by decide +kernel
theorem dX8_birthday_7 : decode cX8_birthday 7 = .ok (.iload_n 1, 1) := by decide +kernel
theorem dX8_birthday_8 : decode cX8_birthday 8 = .ok (.bipush 7, 2) := by decide +kernel
theorem dX8_birthday_10 : decode cX8_birthday 10 = .ok (.if_icmp .ne 5, 3) := by decide +kernel
theorem dX8_birthday_13 : decode cX8_birthday 13 = .ok (.iconst (-1), 1) := by decide +kernel
theorem dX8_birthday_14 : decode cX8_birthday 14 = .ok (.ireturn, 1) := by decide +kernel
theorem dX8_birthday_15 : decode cX8_birthday 15 = .ok (.aload_n 0, 1) := by decide +kernel
theorem dX8_birthday_16 : decode cX8_birthday 16 = .ok (.getfield 10, 3) := by decide +kernel
theorem dX8_birthday_19 : decode cX8_birthday 19 = .ok (.iconst 0, 1) := by decide +kernel
theorem dX8_birthday_20 : decode cX8_birthday 20 = .ok (.iload_n 3, 1) := by decide +kernel
theorem dX8_birthday_21 : decode cX8_birthday 21 = .ok (.invokevirtual 101, 3) := by decide +kernel
theorem dX8_birthday_24 : decode cX8_birthday 24 = .ok (.ifCond .ne 6, 3) := by decide +kernel
theorem dX8_birthday_27 : decode cX8_birthday 27 = .ok (.bipush (-2), 2) := by decide +kernel
theorem dX8_birthday_29 : decode cX8_birthday 29 = .ok (.ireturn, 1) := by decide +kernel
theorem dX8_birthday_30 : decode cX8_birthday 30 = .ok (.iload_n 2, 1) := by decide +kernel
theorem dX8_birthday_31 : decode cX8_birthday 31 = .ok (.invokestatic 81, 3) := by decide +kernel
theorem dX8_birthday_34 : decode cX8_birthday 34 = .ok (.ifCond .ne 6, 3) := by decide +kernel
theorem dX8_birthday_37 : decode cX8_birthday 37 = .ok (.bipush (-3), 2) := by decide +kernel
theorem dX8_birthday_39 : decode cX8_birthday 39 = .ok (.ireturn, 1) := by decide +kernel
theorem dX8_birthday_40 : decode cX8_birthday 40 = .ok (.aload_n 0, 1) := by decide +kernel
theorem dX8_birthday_41 : decode cX8_birthday 41 = .ok (.getfield 10, 3) := by decide +kernel
theorem dX8_birthday_44 : decode cX8_birthday 44 = .ok (.iload_n 3, 1) := by decide +kernel
theorem dX8_birthday_45 : decode cX8_birthday 45 = .ok (.invokevirtual 130, 3) := by decide +kernel
theorem dX8_birthday_48 : decode cX8_birthday 48 = .ok (.istore 4, 2) := by decide +kernel
theorem dX8_birthday_50 : decode cX8_birthday 50 = .ok (.aload_n 0, 1) := by decide +kernel
theorem dX8_birthday_51 : decode cX8_birthday 51 = .ok (.getfield 10, 3) := by decide +kernel
theorem dX8_birthday_54 : decode cX8_birthday 54 = .ok (.iload_n 3, 1) := by decide +kernel
theorem dX8_birthday_55 : decode cX8_birthday 55 = .ok (.invokevirtual 133, 3) := by decide +kernel
theorem dX8_birthday_58 : decode cX8_birthday 58 = .ok (.istore 5, 2) := by decide +kernel
theorem dX8_birthday_60 : decode cX8_birthday 60 = .ok (.iload 4, 2) := by decide +kernel
theorem dX8_birthday_62 : decode cX8_birthday 62 = .ok (.iload 5, 2) := by decide +kernel
theorem dX8_birthday_64 : decode cX8_birthday 64 = .ok (.if_icmp .le 6, 3) := by decide +kernel
theorem dX8_birthday_67 : decode cX8_birthday 67 = .ok (.bipush (-2), 2) := by decide +kernel
theorem dX8_birthday_69 : decode cX8_birthday 69 = .ok (.ireturn, 1) := by decide +kernel
theorem dX8_birthday_70 : decode cX8_birthday 70 = .ok (.aload_n 0, 1) := by decide +kernel
theorem dX8_birthday_71 : decode cX8_birthday 71 = .ok (.getfield 10, 3) := by decide +kernel
theorem dX8_birthday_74 : decode cX8_birthday 74 = .ok (.iload_n 1, 1) := by decide +kernel
theorem dX8_birthday_75 : decode cX8_birthday 75 = .ok (.iload 5, 2) := by decide +kernel
theorem dX8_birthday_77 : decode cX8_birthday 77 = .ok (.invokevirtual 88, 3) := by decide +kernel
theorem dX8_birthday_80 : decode cX8_birthday 80 = .ok (.istore 6, 2) := by decide +kernel
theorem dX8_birthday_82 : decode cX8_birthday 82 = .ok (.aload_n 0, 1) := by decide +kernel
theorem dX8_birthday_83 : decode cX8_birthday 83 = .ok (.getfield 10, 3) := by decide +kernel
theorem dX8_birthday_86 : decode cX8_birthday 86 = .ok (.iload_n 1, 1) := by decide +kernel
theorem dX8_birthday_87 : decode cX8_birthday 87 = .ok (.iload 4, 2) := by decide +kernel
theorem dX8_birthday_89 : decode cX8_birthday 89 = .ok (.invokevirtual 88, 3) := by decide +kernel
theorem dX8_birthday_92 : decode cX8_birthday 92 = .ok (.istore 7, 2) := by decide +kernel
theorem dX8_birthday_94 : decode cX8_birthday 94 = .ok (.iload 7, 2) := by decide +kernel
theorem dX8_birthday_96 : decode cX8_birthday 96 = .ok (.iload 6, 2) := by decide +kernel
theorem dX8_birthday_98 : decode cX8_birthday 98 = .ok (.if_icmp .gt 39, 3) := by decide +kernel
theorem dX8_birthday_101 : decode cX8_birthday 101 = .ok (.aload_n 0, 1) := by decide +kernel
theorem dX8_birthday_102 : decode cX8_birthday 102 = .ok (.getfield 10, 3) := by decide +kernel
theorem dX8_birthday_105 : decode cX8_birthday 105 = .ok (.iload_n 1, 1) := by decide +kernel
theorem dX8_birthday_106 : decode cX8_birthday 106 = .ok (.iload_n 2, 1) := by decide +kernel
theorem dX8_birthday_107 : decode cX8_birthday 107 = .ok (.iload 7, 2) := by decide +kernel
theorem dX8_birthday_109 : decode cX8_birthday 109 = .ok (.invokevirtual 121, 3) := by decide +kernel
theorem dX8_birthday_112 : decode cX8_birthday 112 = .ok (.istore 8, 2) := by decide +kernel
theorem dX8_birthday_114 : decode cX8_birthday 114 = .ok (.iload 8, 2) := by decide +kernel
theorem dX8_birthday_116 : decode cX8_birthday 116 = .ok (.iload 4, 2) := by decide +kernel
theorem dX8_birthday_118 : decode cX8_birthday 118 = .ok (.if_icmp .lt 13, 3) := by decide +kernel
theorem dX8_birthday_121 : decode cX8_birthday 121 = .ok (.iload 8, 2) := by decide +kernel
theorem dX8_birthday_123 : decode cX8_birthday 123 = .ok (.iload 5, 2) := by decide +kernel
theorem dX8_birthday_125 : decode cX8_birthday 125 = .ok (.if_icmp .gt 6, 3) := by decide +kernel
theorem dX8_birthday_128 : decode cX8_birthday 128 = .ok (.iload 8, 2) := by decide +kernel
theorem dX8_birthday_130 : decode cX8_birthday 130 = .ok (.ireturn, 1) := by decide +kernel
theorem dX8_birthday_131 : decode cX8_birthday 131 = .ok (.iinc 7 1, 3) := by decide +kernel
theorem dX8_birthday_134 : decode cX8_birthday 134 = .ok (.goto (-40), 3) := by decide +kernel
theorem dX8_birthday_137 : decode cX8_birthday 137 = .ok (.bipush (-2), 2) := by decide +kernel
theorem dX8_birthday_139 : decode cX8_birthday 139 = .ok (.ireturn, 1) := by decide +kernel
theorem dX8_row_0 : decode cX8_row 0 = .ok (.iload_n 2, 1) := by decide +kernel
theorem dX8_row_1 : decode cX8_row 1 = .ok (.iconst 1, 1) := by decide +kernel
theorem dX8_row_2 : decode cX8_row 2 = .ok (.if_icmp .lt 21, 3) := by decide +kernel
theorem dX8_row_5 : decode cX8_row 5 = .ok (.iload_n 2, 1) := by decide +kernel
theorem dX8_row_6 : decode cX8_row 6 = .ok (.sipush 200, 3) := by decide +kernel
theorem dX8_row_9 : decode cX8_row 9 = .ok (.if_icmp .gt 14, 3) := by decide +kernel
theorem dX8_row_12 : decode cX8_row 12 = .ok (.aload_n 0, 1) := by decide +kernel
theorem dX8_row_13 : decode cX8_row 13 = .ok (.getfield 10, 3) := by decide +kernel
theorem dX8_row_16 : decode cX8_row 16 = .ok (.iload_n 1, 1) := by decide +kernel
theorem dX8_row_17 : decode cX8_row 17 = .ok (.invokevirtual 136, 3) := by decide +kernel
theorem dX8_row_20 : decode cX8_row 20 = .ok (.ifCond .ne 5, 3) := by decide +kernel
theorem dX8_row_23 : decode cX8_row 23 = .ok (.iconst (-1), 1) := by decide +kernel
theorem dX8_row_24 : decode cX8_row 24 = .ok (.ireturn, 1) := by decide +kernel
theorem dX8_row_25 : decode cX8_row 25 = .ok (.iload_n 1, 1) := by decide +kernel
theorem dX8_row_26 : decode cX8_row 26 = .ok (.ifCond .lt 13, 3) := by decide +kernel
theorem dX8_row_29 : decode cX8_row 29 = .ok (.iload_n 1, 1) := by decide +kernel
theorem dX8_row_30 : decode cX8_row 30 = .ok (.ldc 139, 2) := by decide +kernel
theorem dX8_row_32 : decode cX8_row 32 = .ok (.iload_n 2, 1) := by decide +kernel
theorem dX8_row_33 : decode cX8_row 33 = .ok (.isub, 1) := by decide +kernel
theorem dX8_row_34 : decode cX8_row 34 = .ok (.iconst 1, 1) := by decide +kernel
theorem dX8_row_35 : decode cX8_row 35 = .ok (.iadd, 1) := by decide +kernel
theorem dX8_row_36 : decode cX8_row 36 = .ok (.if_icmp .le 6, 3) := by decide +kernel
theorem dX8_row_39 : decode cX8_row 39 = .ok (.bipush (-3), 2) := by decide +kernel
theorem dX8_row_41 : decode cX8_row 41 = .ok (.ireturn, 1) := by decide +kernel
theorem dX8_row_42 : decode cX8_row 42 = .ok (.aload_n 0, 1) := by decide +kernel
theorem dX8_row_43 : decode cX8_row 43 = .ok (.getfield 10, 3) := by decide +kernel
theorem dX8_row_46 : decode cX8_row 46 = .ok (.getfield 140, 3) := by decide +kernel
theorem dX8_row_49 : decode cX8_row 49 = .ok (.sipush 500, 3) := by decide +kernel
theorem dX8_row_52 : decode cX8_row 52 = .ok (.if_icmp .lt 6, 3) := by decide +kernel
theorem dX8_row_55 : decode cX8_row 55 = .ok (.bipush (-4), 2) := by decide +kernel
theorem dX8_row_57 : decode cX8_row 57 = .ok (.ireturn, 1) := by decide +kernel
theorem dX8_row_58 : decode cX8_row 58 = .ok (.aload_n 0, 1) := by decide +kernel
theorem dX8_row_59 : decode cX8_row 59 = .ok (.getfield 10, 3) := by decide +kernel
theorem dX8_row_62 : decode cX8_row 62 = .ok (.iload_n 1, 1) := by decide +kernel
theorem dX8_row_63 : decode cX8_row 63 = .ok (.iload_n 2, 1) := by decide +kernel
theorem dX8_row_64 : decode cX8_row 64 = .ok (.invokevirtual 144, 3) := by decide +kernel
theorem dX8_row_67 : decode cX8_row 67 = .ok (.aload_n 0, 1) := by decide +kernel
theorem dX8_row_68 : decode cX8_row 68 = .ok (.getfield 58, 3) := by decide +kernel
theorem dX8_row_71 : decode cX8_row 71 = .ok (.iconst 0, 1) := by decide +kernel
theorem dX8_row_72 : decode cX8_row 72 = .ok (.invokevirtual 148, 3) := by decide +kernel
theorem dX8_row_75 : decode cX8_row 75 = .ok (.aload_n 0, 1) := by decide +kernel
theorem dX8_row_76 : decode cX8_row 76 = .ok (.getfield 10, 3) := by decide +kernel
theorem dX8_row_79 : decode cX8_row 79 = .ok (.getfield 140, 3) := by decide +kernel
theorem dX8_row_82 : decode cX8_row 82 = .ok (.ireturn, 1) := by decide +kernel
theorem dX8_name_0 : decode cX8_name 0 = .ok (.iload_n 1, 1) := by decide +kernel
theorem dX8_name_1 : decode cX8_name 1 = .ok (.invokestatic 62, 3) := by decide +kernel
theorem dX8_name_4 : decode cX8_name 4 = .ok (.ifCond .eq 20, 3) := by decide +kernel
theorem dX8_name_7 : decode cX8_name 7 = .ok (.iload_n 2, 1) := by decide +kernel
theorem dX8_name_8 : decode cX8_name 8 = .ok (.iconst 1, 1) := by decide +kernel
theorem dX8_name_9 : decode cX8_name 9 = .ok (.if_icmp .lt 15, 3) := by decide +kernel
theorem dX8_name_12 : decode cX8_name 12 = .ok (.iload_n 2, 1) := by decide +kernel
theorem dX8_name_13 : decode cX8_name 13 = .ok (.bipush 53, 2) := by decide +kernel
theorem dX8_name_15 : decode cX8_name 15 = .ok (.if_icmp .gt 9, 3) := by decide +kernel
theorem dX8_name_18 : decode cX8_name 18 = .ok (.lload_n 3, 1) := by decide +kernel
theorem dX8_name_19 : decode cX8_name 19 = .ok (.lconst 0, 1) := by decide +kernel
theorem dX8_name_20 : decode cX8_name 20 = .ok (.lcmp, 1) := by decide +kernel
theorem dX8_name_21 : decode cX8_name 21 = .ok (.ifCond .ne 5, 3) := by decide +kernel
theorem dX8_name_24 : decode cX8_name 24 = .ok (.iconst (-1), 1) := by decide +kernel
theorem dX8_name_25 : decode cX8_name 25 = .ok (.ireturn, 1) := by decide +kernel
theorem dX8_name_26 : decode cX8_name 26 = .ok (.aload_n 0, 1) := by decide +kernel
theorem dX8_name_27 : decode cX8_name 27 = .ok (.getfield 19, 3) := by decide +kernel
theorem dX8_name_30 : decode cX8_name 30 = .ok (.iload_n 1, 1) := by decide +kernel
theorem dX8_name_31 : decode cX8_name 31 = .ok (.lload_n 3, 1) := by decide +kernel
theorem dX8_name_32 : decode cX8_name 32 = .ok (.invokevirtual 152, 3) := by decide +kernel
theorem dX8_name_35 : decode cX8_name 35 = .ok (.bipush (-2), 2) := by decide +kernel
theorem dX8_name_37 : decode cX8_name 37 = .ok (.if_icmp .eq 5, 3) := by decide +kernel
theorem dX8_name_40 : decode cX8_name 40 = .ok (.iconst (-1), 1) := by decide +kernel
theorem dX8_name_41 : decode cX8_name 41 = .ok (.ireturn, 1) := by decide +kernel
theorem dX8_name_42 : decode cX8_name 42 = .ok (.aload_n 0, 1) := by decide +kernel
theorem dX8_name_43 : decode cX8_name 43 = .ok (.getfield 19, 3) := by decide +kernel
theorem dX8_name_46 : decode cX8_name 46 = .ok (.iload_n 1, 1) := by decide +kernel
theorem dX8_name_47 : decode cX8_name 47 = .ok (.iload_n 2, 1) := by decide +kernel
theorem dX8_name_48 : decode cX8_name 48 = .ok (.invokevirtual 156, 3) := by decide +kernel
theorem dX8_name_51 : decode cX8_name 51 = .ok (.istore 5, 2) := by decide +kernel
theorem dX8_name_53 : decode cX8_name 53 = .ok (.iload 5, 2) := by decide +kernel
theorem dX8_name_55 : decode cX8_name 55 = .ok (.iconst 3, 1) := by decide +kernel
theorem dX8_name_56 : decode cX8_name 56 = .ok (.if_icmp .ge 16, 3) := by decide +kernel
theorem dX8_name_59 : decode cX8_name 59 = .ok (.aload_n 0, 1) := by decide +kernel
theorem dX8_name_60 : decode cX8_name 60 = .ok (.getfield 19, 3) := by decide +kernel
theorem dX8_name_63 : decode cX8_name 63 = .ok (.getfield 159, 3) := by decide +kernel
theorem dX8_name_66 : decode cX8_name 66 = .ok (.sipush 300, 3) := by decide +kernel
theorem dX8_name_69 : decode cX8_name 69 = .ok (.if_icmp .lt 6, 3) := by decide +kernel
theorem dX8_name_72 : decode cX8_name 72 = .ok (.bipush (-4), 2) := by decide +kernel
theorem dX8_name_74 : decode cX8_name 74 = .ok (.ireturn, 1) := by decide +kernel
theorem dX8_name_75 : decode cX8_name 75 = .ok (.aload_n 0, 1) := by decide +kernel
theorem dX8_name_76 : decode cX8_name 76 = .ok (.getfield 19, 3) := by decide +kernel
theorem dX8_name_79 : decode cX8_name 79 = .ok (.iload_n 1, 1) := by decide +kernel
theorem dX8_name_80 : decode cX8_name 80 = .ok (.iload_n 2, 1) := by decide +kernel
theorem dX8_name_81 : decode cX8_name 81 = .ok (.lload_n 3, 1) := by decide +kernel
theorem dX8_name_82 : decode cX8_name 82 = .ok (.invokevirtual 162, 3) := by decide +kernel
theorem dX8_name_85 : decode cX8_name 85 = .ok (.aload_n 0, 1) := by decide +kernel
theorem dX8_name_86 : decode cX8_name 86 = .ok (.getfield 58, 3) := by decide +kernel
theorem dX8_name_89 : decode cX8_name 89 = .ok (.iconst 1, 1) := by decide +kernel
theorem dX8_name_90 : decode cX8_name 90 = .ok (.invokevirtual 148, 3) := by decide +kernel
theorem dX8_name_93 : decode cX8_name 93 = .ok (.iload 5, 2) := by decide +kernel
theorem dX8_name_95 : decode cX8_name 95 = .ok (.iconst 1, 1) := by decide +kernel
theorem dX8_name_96 : decode cX8_name 96 = .ok (.iadd, 1) := by decide +kernel
theorem dX8_name_97 : decode cX8_name 97 = .ok (.ireturn, 1) := by decide +kernel
theorem dX8_monthNamed_0 : decode cX8_monthNamed 0 = .ok (.iload_n 1, 1) := by decide +kernel
theorem dX8_monthNamed_1 : decode cX8_monthNamed 1 = .ok (.invokestatic 62, 3) := by decide +kernel
theorem dX8_monthNamed_4 : decode cX8_monthNamed 4 = .ok (.ifCond .eq 15, 3) := by decide +kernel
theorem dX8_monthNamed_7 : decode cX8_monthNamed 7 = .ok (.aload_n 0, 1) := by decide +kernel
theorem dX8_monthNamed_8 : decode cX8_monthNamed 8 = .ok (.getfield 19, 3) := by decide +kernel
theorem dX8_monthNamed_11 : decode cX8_monthNamed 11 = .ok (.iload_n 1, 1) := by decide +kernel
theorem dX8_monthNamed_12 : decode cX8_monthNamed 12 = .ok (.lload_n 2, 1) := by decide +kernel
theorem dX8_monthNamed_13 : decode cX8_monthNamed 13 = .ok (.invokevirtual 152, 3) := by decide +kernel
theorem dX8_monthNamed_16 : decode cX8_monthNamed 16 = .ok (.goto 4, 3) := by decide +kernel
theorem dX8_monthNamed_19 : decode cX8_monthNamed 19 = .ok (.iconst (-1), 1) := by decide +kernel
theorem dX8_monthNamed_20 : decode cX8_monthNamed 20 = .ok (.ireturn, 1) := by decide +kernel
theorem dX8_spellings_0 : decode cX8_spellings 0 = .ok (.iconst 0, 1) := by decide +kernel
theorem dX8_spellings_1 : decode cX8_spellings 1 = .ok (.istore_n 3, 1) := by decide +kernel
theorem dX8_spellings_2 : decode cX8_spellings 2 = .ok (.iconst 0, 1) := by decide +kernel
theorem dX8_spellings_3 : decode cX8_spellings 3 = .ok (.istore 4, 2) := by decide +kernel
theorem dX8_spellings_5 : decode cX8_spellings 5 = .ok (.iload 4, 2) := by decide +kernel
theorem dX8_spellings_7 : decode cX8_spellings 7 = .ok (.bipush 8, 2) := by decide +kernel
theorem dX8_spellings_9 : decode cX8_spellings 9 = .ok (.if_icmp .ge 27, 3) := by decide +kernel
theorem dX8_spellings_12 : decode cX8_spellings 12 = .ok (.aload_n 0, 1) := by decide +kernel
theorem dX8_spellings_13 : decode cX8_spellings 13 = .ok (.getfield 19, 3) := by decide +kernel
theorem dX8_spellings_16 : decode cX8_spellings 16 = .ok (.iload 4, 2) := by decide +kernel
theorem dX8_spellings_18 : decode cX8_spellings 18 = .ok (.lload_n 1, 1) := by decide +kernel
theorem dX8_spellings_19 : decode cX8_spellings 19 = .ok (.invokevirtual 152, 3) := by decide +kernel
theorem dX8_spellings_22 : decode cX8_spellings 22 = .ok (.bipush (-2), 2) := by decide +kernel
theorem dX8_spellings_24 : decode cX8_spellings 24 = .ok (.if_icmp .eq 6, 3) := by decide +kernel
theorem dX8_spellings_27 : decode cX8_spellings 27 = .ok (.iinc 3 1, 3) := by decide +kernel
theorem dX8_spellings_30 : decode cX8_spellings 30 = .ok (.iinc 4 1, 3) := by decide +kernel
theorem dX8_spellings_33 : decode cX8_spellings 33 = .ok (.goto (-28), 3) := by decide +kernel
theorem dX8_spellings_36 : decode cX8_spellings 36 = .ok (.iload_n 3, 1) := by decide +kernel
theorem dX8_spellings_37 : decode cX8_spellings 37 = .ok (.ireturn, 1) := by decide +kernel
theorem dX8_feast_0 : decode cX8_feast 0 = .ok (.iload 5, 2) := by decide +kernel
theorem dX8_feast_2 : decode cX8_feast 2 = .ok (.ifCond .lt 25, 3) := by decide +kernel
theorem dX8_feast_5 : decode cX8_feast 5 = .ok (.iload 5, 2) := by decide +kernel
theorem dX8_feast_7 : decode cX8_feast 7 = .ok (.bipush 9, 2) := by decide +kernel
theorem dX8_feast_9 : decode cX8_feast 9 = .ok (.if_icmp .gt 18, 3) := by decide +kernel
theorem dX8_feast_12 : decode cX8_feast 12 = .ok (.aload_n 0, 1) := by decide +kernel
theorem dX8_feast_13 : decode cX8_feast 13 = .ok (.getfield 28, 3) := by decide +kernel
theorem dX8_feast_16 : decode cX8_feast 16 = .ok (.iload_n 1, 1) := by decide +kernel
theorem dX8_feast_17 : decode cX8_feast 17 = .ok (.iload_n 2, 1) := by decide +kernel
theorem dX8_feast_18 : decode cX8_feast 18 = .ok (.iload_n 3, 1) := by decide +kernel
theorem dX8_feast_19 : decode cX8_feast 19 = .ok (.iload 4, 2) := by decide +kernel
theorem dX8_feast_21 : decode cX8_feast 21 = .ok (.invokevirtual 166, 3) := by decide +kernel
theorem dX8_feast_24 : decode cX8_feast 24 = .ok (.ifCond .ne 5, 3) := by decide +kernel
theorem dX8_feast_27 : decode cX8_feast 27 = .ok (.iconst (-1), 1) := by decide +kernel
theorem dX8_feast_28 : decode cX8_feast 28 = .ok (.ireturn, 1) := by decide +kernel
theorem dX8_feast_29 : decode cX8_feast 29 = .ok (.aload_n 0, 1) := by decide +kernel
theorem dX8_feast_30 : decode cX8_feast 30 = .ok (.getfield 28, 3) := by decide +kernel
theorem dX8_feast_33 : decode cX8_feast 33 = .ok (.getfield 170, 3) := by decide +kernel
theorem dX8_feast_36 : decode cX8_feast 36 = .ok (.bipush 60, 2) := by decide +kernel
theorem dX8_feast_38 : decode cX8_feast 38 = .ok (.if_icmp .lt 6, 3) := by decide +kernel
theorem dX8_feast_41 : decode cX8_feast 41 = .ok (.bipush (-4), 2) := by decide +kernel
theorem dX8_feast_43 : decode cX8_feast 43 = .ok (.ireturn, 1) := by decide +kernel
theorem dX8_feast_44 : decode cX8_feast 44 = .ok (.aload_n 0, 1) := by decide +kernel
theorem dX8_feast_45 : decode cX8_feast 45 = .ok (.getfield 28, 3) := by decide +kernel
theorem dX8_feast_48 : decode cX8_feast 48 = .ok (.iload_n 1, 1) := by decide +kernel
theorem dX8_feast_49 : decode cX8_feast 49 = .ok (.iload_n 2, 1) := by decide +kernel
theorem dX8_feast_50 : decode cX8_feast 50 = .ok (.iload_n 3, 1) := by decide +kernel
theorem dX8_feast_51 : decode cX8_feast 51 = .ok (.iload 4, 2) := by decide +kernel
theorem dX8_feast_53 : decode cX8_feast 53 = .ok (.iload 5, 2) := by decide +kernel
theorem dX8_feast_55 : decode cX8_feast 55 = .ok (.invokevirtual 171, 3) := by decide +kernel
theorem dX8_feast_58 : decode cX8_feast 58 = .ok (.aload_n 0, 1) := by decide +kernel
theorem dX8_feast_59 : decode cX8_feast 59 = .ok (.getfield 58, 3) := by decide +kernel
theorem dX8_feast_62 : decode cX8_feast 62 = .ok (.iconst 2, 1) := by decide +kernel
theorem dX8_feast_63 : decode cX8_feast 63 = .ok (.invokevirtual 148, 3) := by decide +kernel
theorem dX8_feast_66 : decode cX8_feast 66 = .ok (.aload_n 0, 1) := by decide +kernel
theorem dX8_feast_67 : decode cX8_feast 67 = .ok (.getfield 28, 3) := by decide +kernel
theorem dX8_feast_70 : decode cX8_feast 70 = .ok (.getfield 170, 3) := by decide +kernel
theorem dX8_feast_73 : decode cX8_feast 73 = .ok (.iconst 1, 1) := by decide +kernel
theorem dX8_feast_74 : decode cX8_feast 74 = .ok (.isub, 1) := by decide +kernel
theorem dX8_feast_75 : decode cX8_feast 75 = .ok (.ireturn, 1) := by decide +kernel
theorem dX8_feastDay_0 : decode cX8_feastDay 0 = .ok (.aload_n 0, 1) := by decide +kernel
theorem dX8_feastDay_1 : decode cX8_feastDay 1 = .ok (.getfield 28, 3) := by decide +kernel
theorem dX8_feastDay_4 : decode cX8_feastDay 4 = .ok (.iload_n 1, 1) := by decide +kernel
theorem dX8_feastDay_5 : decode cX8_feastDay 5 = .ok (.invokevirtual 174, 3) := by decide +kernel
theorem dX8_feastDay_8 : decode cX8_feastDay 8 = .ok (.ifCond .ne 5, 3) := by decide +kernel
theorem dX8_feastDay_11 : decode cX8_feastDay 11 = .ok (.iconst (-1), 1) := by decide +kernel
theorem dX8_feastDay_12 : decode cX8_feastDay 12 = .ok (.ireturn, 1) := by decide +kernel
theorem dX8_feastDay_13 : decode cX8_feastDay 13 = .ok (.aload_n 0, 1) := by decide +kernel
theorem dX8_feastDay_14 : decode cX8_feastDay 14 = .ok (.getfield 10, 3) := by decide +kernel
theorem dX8_feastDay_17 : decode cX8_feastDay 17 = .ok (.iconst 0, 1) := by decide +kernel
theorem dX8_feastDay_18 : decode cX8_feastDay 18 = .ok (.iload_n 2, 1) := by decide +kernel
theorem dX8_feastDay_19 : decode cX8_feastDay 19 = .ok (.invokevirtual 101, 3) := by decide +kernel
theorem dX8_feastDay_22 : decode cX8_feastDay 22 = .ok (.ifCond .ne 6, 3) := by decide +kernel
theorem dX8_feastDay_25 : decode cX8_feastDay 25 = .ok (.bipush (-2), 2) := by decide +kernel
theorem dX8_feastDay_27 : decode cX8_feastDay 27 = .ok (.ireturn, 1) := by decide +kernel
theorem dX8_feastDay_28 : decode cX8_feastDay 28 = .ok (.aload_n 0, 1) := by decide +kernel
theorem dX8_feastDay_29 : decode cX8_feastDay 29 = .ok (.getfield 28, 3) := by decide +kernel
theorem dX8_feastDay_32 : decode cX8_feastDay 32 = .ok (.iload_n 2, 1) := by decide +kernel
theorem dX8_feastDay_33 : decode cX8_feastDay 33 = .ok (.invokevirtual 177, 3) := by decide +kernel
theorem dX8_feastDay_36 : decode cX8_feastDay 36 = .ok (.aload_n 0, 1) := by decide +kernel
theorem dX8_feastDay_37 : decode cX8_feastDay 37 = .ok (.getfield 28, 3) := by decide +kernel
theorem dX8_feastDay_40 : decode cX8_feastDay 40 = .ok (.iload_n 1, 1) := by decide +kernel
theorem dX8_feastDay_41 : decode cX8_feastDay 41 = .ok (.invokevirtual 180, 3) := by decide +kernel
theorem dX8_feastDay_44 : decode cX8_feastDay 44 = .ok (.ireturn, 1) := by decide +kernel
theorem dX8_moved_0 : decode cX8_moved 0 = .ok (.aload_n 0, 1) := by decide +kernel
theorem dX8_moved_1 : decode cX8_moved 1 = .ok (.getfield 28, 3) := by decide +kernel
theorem dX8_moved_4 : decode cX8_moved 4 = .ok (.iload_n 1, 1) := by decide +kernel
theorem dX8_moved_5 : decode cX8_moved 5 = .ok (.invokevirtual 174, 3) := by decide +kernel
theorem dX8_moved_8 : decode cX8_moved 8 = .ok (.ifCond .ne 5, 3) := by decide +kernel
theorem dX8_moved_11 : decode cX8_moved 11 = .ok (.iconst (-1), 1) := by decide +kernel
theorem dX8_moved_12 : decode cX8_moved 12 = .ok (.ireturn, 1) := by decide +kernel
theorem dX8_moved_13 : decode cX8_moved 13 = .ok (.aload_n 0, 1) := by decide +kernel
theorem dX8_moved_14 : decode cX8_moved 14 = .ok (.getfield 10, 3) := by decide +kernel
theorem dX8_moved_17 : decode cX8_moved 17 = .ok (.iconst 0, 1) := by decide +kernel
theorem dX8_moved_18 : decode cX8_moved 18 = .ok (.iload_n 2, 1) := by decide +kernel
theorem dX8_moved_19 : decode cX8_moved 19 = .ok (.invokevirtual 101, 3) := by decide +kernel
theorem dX8_moved_22 : decode cX8_moved 22 = .ok (.ifCond .ne 6, 3) := by decide +kernel
theorem dX8_moved_25 : decode cX8_moved 25 = .ok (.bipush (-2), 2) := by decide +kernel
theorem dX8_moved_27 : decode cX8_moved 27 = .ok (.ireturn, 1) := by decide +kernel
theorem dX8_moved_28 : decode cX8_moved 28 = .ok (.aload_n 0, 1) := by decide +kernel
theorem dX8_moved_29 : decode cX8_moved 29 = .ok (.getfield 28, 3) := by decide +kernel
theorem dX8_moved_32 : decode cX8_moved 32 = .ok (.iload_n 2, 1) := by decide +kernel
theorem dX8_moved_33 : decode cX8_moved 33 = .ok (.invokevirtual 177, 3) := by decide +kernel
theorem dX8_moved_36 : decode cX8_moved 36 = .ok (.aload_n 0, 1) := by decide +kernel
theorem dX8_moved_37 : decode cX8_moved 37 = .ok (.getfield 28, 3) := by decide +kernel
theorem dX8_moved_40 : decode cX8_moved 40 = .ok (.iload_n 1, 1) := by decide +kernel
theorem dX8_moved_41 : decode cX8_moved 41 = .ok (.invokevirtual 180, 3) := by decide +kernel
theorem dX8_moved_44 : decode cX8_moved 44 = .ok (.istore_n 3, 1) := by decide +kernel
theorem dX8_moved_45 : decode cX8_moved 45 = .ok (.iload_n 3, 1) := by decide +kernel
theorem dX8_moved_46 : decode cX8_moved 46 = .ok (.bipush (-2), 2) := by decide +kernel
theorem dX8_moved_48 : decode cX8_moved 48 = .ok (.if_icmp .ne 8, 3) := by decide +kernel
theorem dX8_moved_51 : decode cX8_moved 51 = .ok (.bipush (-2), 2) := by decide +kernel
theorem dX8_moved_53 : decode cX8_moved 53 = .ok (.goto 13, 3) := by decide +kernel
theorem dX8_moved_56 : decode cX8_moved 56 = .ok (.iload_n 3, 1) := by decide +kernel
theorem dX8_moved_57 : decode cX8_moved 57 = .ok (.aload_n 0, 1) := by decide +kernel
theorem dX8_moved_58 : decode cX8_moved 58 = .ok (.getfield 28, 3) := by decide +kernel
theorem dX8_moved_61 : decode cX8_moved 61 = .ok (.iload_n 1, 1) := by decide +kernel
theorem dX8_moved_62 : decode cX8_moved 62 = .ok (.invokevirtual 183, 3) := by decide +kernel
theorem dX8_moved_65 : decode cX8_moved 65 = .ok (.isub, 1) := by decide +kernel
theorem dX8_moved_66 : decode cX8_moved 66 = .ok (.ireturn, 1) := by decide +kernel
theorem dX8_movable_0 : decode cX8_movable 0 = .ok (.iload_n 1, 1) := by decide +kernel
theorem dX8_movable_1 : decode cX8_movable 1 = .ok (.ifCond .eq 10, 3) := by decide +kernel
theorem dX8_movable_4 : decode cX8_movable 4 = .ok (.iload_n 1, 1) := by decide +kernel
theorem dX8_movable_5 : decode cX8_movable 5 = .ok (.iconst 1, 1) := by decide +kernel
theorem dX8_movable_6 : decode cX8_movable 6 = .ok (.if_icmp .eq 5, 3) := by decide +kernel
theorem dX8_movable_9 : decode cX8_movable 9 = .ok (.iconst (-1), 1) := by decide +kernel
theorem dX8_movable_10 : decode cX8_movable 10 = .ok (.ireturn, 1) := by decide +kernel
theorem dX8_movable_11 : decode cX8_movable 11 = .ok (.aload_n 0, 1) := by decide +kernel
theorem dX8_movable_12 : decode cX8_movable 12 = .ok (.getfield 10, 3) := by decide +kernel
theorem dX8_movable_15 : decode cX8_movable 15 = .ok (.iconst 0, 1) := by decide +kernel
theorem dX8_movable_16 : decode cX8_movable 16 = .ok (.iload_n 2, 1) := by decide +kernel
theorem dX8_movable_17 : decode cX8_movable 17 = .ok (.invokevirtual 101, 3) := by decide +kernel
theorem dX8_movable_20 : decode cX8_movable 20 = .ok (.ifCond .ne 6, 3) := by decide +kernel
theorem dX8_movable_23 : decode cX8_movable 23 = .ok (.bipush (-2), 2) := by decide +kernel
theorem dX8_movable_25 : decode cX8_movable 25 = .ok (.ireturn, 1) := by decide +kernel
theorem dX8_movable_26 : decode cX8_movable 26 = .ok (.aload_n 0, 1) := by decide +kernel
theorem dX8_movable_27 : decode cX8_movable 27 = .ok (.getfield 10, 3) := by decide +kernel
theorem dX8_movable_30 : decode cX8_movable 30 = .ok (.iload_n 1, 1) := by decide +kernel
theorem dX8_movable_31 : decode cX8_movable 31 = .ok (.iload_n 2, 1) := by decide +kernel
theorem dX8_movable_32 : decode cX8_movable 32 = .ok (.invokevirtual 186, 3) := by decide +kernel
theorem dX8_movable_35 : decode cX8_movable 35 = .ok (.invokestatic 77, 3) := by decide +kernel
theorem dX8_movable_38 : decode cX8_movable 38 = .ok (.ireturn, 1) := by decide +kernel
theorem dX8_feastOn_0 : decode cX8_feastOn 0 = .ok (.iload_n 1, 1) := by decide +kernel
theorem dX8_feastOn_1 : decode cX8_feastOn 1 = .ok (.invokestatic 81, 3) := by decide +kernel
theorem dX8_feastOn_4 : decode cX8_feastOn 4 = .ok (.ifCond .ne 6, 3) := by decide +kernel
theorem dX8_feastOn_7 : decode cX8_feastOn 7 = .ok (.bipush (-3), 2) := by decide +kernel
theorem dX8_feastOn_9 : decode cX8_feastOn 9 = .ok (.ireturn, 1) := by decide +kernel
theorem dX8_feastOn_10 : decode cX8_feastOn 10 = .ok (.aload_n 0, 1) := by decide +kernel
theorem dX8_feastOn_11 : decode cX8_feastOn 11 = .ok (.getfield 28, 3) := by decide +kernel
theorem dX8_feastOn_14 : decode cX8_feastOn 14 = .ok (.aload_n 0, 1) := by decide +kernel
theorem dX8_feastOn_15 : decode cX8_feastOn 15 = .ok (.getfield 10, 3) := by decide +kernel
theorem dX8_feastOn_18 : decode cX8_feastOn 18 = .ok (.iconst 0, 1) := by decide +kernel
theorem dX8_feastOn_19 : decode cX8_feastOn 19 = .ok (.iload_n 1, 1) := by decide +kernel
theorem dX8_feastOn_20 : decode cX8_feastOn 20 = .ok (.invokevirtual 88, 3) := by decide +kernel
theorem dX8_feastOn_23 : decode cX8_feastOn 23 = .ok (.invokevirtual 177, 3) := by decide +kernel
theorem dX8_feastOn_26 : decode cX8_feastOn 26 = .ok (.iconst 0, 1) := by decide +kernel
theorem dX8_feastOn_27 : decode cX8_feastOn 27 = .ok (.istore_n 3, 1) := by decide +kernel
theorem dX8_feastOn_28 : decode cX8_feastOn 28 = .ok (.iconst 0, 1) := by decide +kernel
theorem dX8_feastOn_29 : decode cX8_feastOn 29 = .ok (.istore 4, 2) := by decide +kernel
theorem dX8_feastOn_31 : decode cX8_feastOn 31 = .ok (.iload 4, 2) := by decide +kernel
theorem dX8_feastOn_33 : decode cX8_feastOn 33 = .ok (.aload_n 0, 1) := by decide +kernel
theorem dX8_feastOn_34 : decode cX8_feastOn 34 = .ok (.getfield 28, 3) := by decide +kernel
theorem dX8_feastOn_37 : decode cX8_feastOn 37 = .ok (.getfield 170, 3) := by decide +kernel
theorem dX8_feastOn_40 : decode cX8_feastOn 40 = .ok (.if_icmp .ge 44, 3) := by decide +kernel
theorem dX8_feastOn_43 : decode cX8_feastOn 43 = .ok (.aload_n 0, 1) := by decide +kernel
theorem dX8_feastOn_44 : decode cX8_feastOn 44 = .ok (.getfield 28, 3) := by decide +kernel
theorem dX8_feastOn_47 : decode cX8_feastOn 47 = .ok (.iload 4, 2) := by decide +kernel
theorem dX8_feastOn_49 : decode cX8_feastOn 49 = .ok (.invokevirtual 189, 3) := by decide +kernel
theorem dX8_feastOn_52 : decode cX8_feastOn 52 = .ok (.istore 5, 2) := by decide +kernel
theorem dX8_feastOn_54 : decode cX8_feastOn 54 = .ok (.aload_n 0, 1) := by decide +kernel
theorem dX8_feastOn_55 : decode cX8_feastOn 55 = .ok (.getfield 28, 3) := by decide +kernel
theorem dX8_feastOn_58 : decode cX8_feastOn 58 = .ok (.iload 5, 2) := by decide +kernel
theorem dX8_feastOn_60 : decode cX8_feastOn 60 = .ok (.invokevirtual 180, 3) := by decide +kernel
theorem dX8_feastOn_63 : decode cX8_feastOn 63 = .ok (.iload_n 1, 1) := by decide +kernel
theorem dX8_feastOn_64 : decode cX8_feastOn 64 = .ok (.if_icmp .ne 14, 3) := by decide +kernel
theorem dX8_feastOn_67 : decode cX8_feastOn 67 = .ok (.iload_n 3, 1) := by decide +kernel
theorem dX8_feastOn_68 : decode cX8_feastOn 68 = .ok (.iload_n 2, 1) := by decide +kernel
theorem dX8_feastOn_69 : decode cX8_feastOn 69 = .ok (.if_icmp .ne 6, 3) := by decide +kernel
theorem dX8_feastOn_72 : decode cX8_feastOn 72 = .ok (.iload 5, 2) := by decide +kernel
theorem dX8_feastOn_74 : decode cX8_feastOn 74 = .ok (.ireturn, 1) := by decide +kernel
theorem dX8_feastOn_75 : decode cX8_feastOn 75 = .ok (.iinc 3 1, 3) := by decide +kernel
theorem dX8_feastOn_78 : decode cX8_feastOn 78 = .ok (.iinc 4 1, 3) := by decide +kernel
theorem dX8_feastOn_81 : decode cX8_feastOn 81 = .ok (.goto (-50), 3) := by decide +kernel
theorem dX8_feastOn_84 : decode cX8_feastOn 84 = .ok (.bipush (-2), 2) := by decide +kernel
theorem dX8_feastOn_86 : decode cX8_feastOn 86 = .ok (.ireturn, 1) := by decide +kernel
theorem dX8_age_0 : decode cX8_age 0 = .ok (.iload_n 1, 1) := by decide +kernel
theorem dX8_age_1 : decode cX8_age 1 = .ok (.invokestatic 81, 3) := by decide +kernel
theorem dX8_age_4 : decode cX8_age 4 = .ok (.ifCond .eq 10, 3) := by decide +kernel
theorem dX8_age_7 : decode cX8_age 7 = .ok (.iload_n 1, 1) := by decide +kernel
theorem dX8_age_8 : decode cX8_age 8 = .ok (.invokestatic 192, 3) := by decide +kernel
theorem dX8_age_11 : decode cX8_age 11 = .ok (.goto 5, 3) := by decide +kernel
theorem dX8_age_14 : decode cX8_age 14 = .ok (.bipush (-3), 2) := by decide +kernel
theorem dX8_age_16 : decode cX8_age 16 = .ok (.ireturn, 1) := by decide +kernel
theorem dX8_newMoon_0 : decode cX8_newMoon 0 = .ok (.iload_n 1, 1) := by decide +kernel
theorem dX8_newMoon_1 : decode cX8_newMoon 1 = .ok (.ifCond .ge 5, 3) := by decide +kernel
theorem dX8_newMoon_4 : decode cX8_newMoon 4 = .ok (.iconst (-1), 1) := by decide +kernel
theorem dX8_newMoon_5 : decode cX8_newMoon 5 = .ok (.ireturn, 1) := by decide +kernel
theorem dX8_newMoon_6 : decode cX8_newMoon 6 = .ok (.iload_n 1, 1) := by decide +kernel
theorem dX8_newMoon_7 : decode cX8_newMoon 7 = .ok (.invokestatic 197, 3) := by decide +kernel
theorem dX8_newMoon_10 : decode cX8_newMoon 10 = .ok (.lstore_n 2, 1) := by decide +kernel
theorem dX8_newMoon_11 : decode cX8_newMoon 11 = .ok (.lload_n 2, 1) := by decide +kernel
theorem dX8_newMoon_12 : decode cX8_newMoon 12 = .ok (.ldc2_w 201, 3) := by decide +kernel
theorem dX8_newMoon_15 : decode cX8_newMoon 15 = .ok (.lcmp, 1) := by decide +kernel
theorem dX8_newMoon_16 : decode cX8_newMoon 16 = .ok (.ifCond .le 8, 3) := by decide +kernel
theorem dX8_newMoon_19 : decode cX8_newMoon 19 = .ok (.bipush (-3), 2) := by decide +kernel
theorem dX8_newMoon_21 : decode cX8_newMoon 21 = .ok (.goto 5, 3) := by decide +kernel
theorem dX8_newMoon_24 : decode cX8_newMoon 24 = .ok (.lload_n 2, 1) := by decide +kernel
theorem dX8_newMoon_25 : decode cX8_newMoon 25 = .ok (.l2i, 1) := by decide +kernel
theorem dX8_newMoon_26 : decode cX8_newMoon 26 = .ok (.ireturn, 1) := by decide +kernel
theorem dX8_estimate_0 : decode cX8_estimate 0 = .ok (.iload_n 1, 1) := by decide +kernel
theorem dX8_estimate_1 : decode cX8_estimate 1 = .ok (.invokestatic 81, 3) := by decide +kernel
theorem dX8_estimate_4 : decode cX8_estimate 4 = .ok (.ifCond .eq 10, 3) := by decide +kernel
theorem dX8_estimate_7 : decode cX8_estimate 7 = .ok (.iload_n 1, 1) := by decide +kernel
theorem dX8_estimate_8 : decode cX8_estimate 8 = .ok (.invokestatic 203, 3) := by decide +kernel
theorem dX8_estimate_11 : decode cX8_estimate 11 = .ok (.goto 6, 3) := by decide +kernel
theorem dX8_estimate_14 : decode cX8_estimate 14 = .ok (.ldc2_w 207, 3) := by decide +kernel
theorem dX8_estimate_17 : decode cX8_estimate 17 = .ok (.dreturn, 1) := by decide +kernel
theorem dX8_light_0 : decode cX8_light 0 = .ok (.iload_n 1, 1) := by decide +kernel
theorem dX8_light_1 : decode cX8_light 1 = .ok (.invokestatic 81, 3) := by decide +kernel
theorem dX8_light_4 : decode cX8_light 4 = .ok (.ifCond .eq 10, 3) := by decide +kernel
theorem dX8_light_7 : decode cX8_light 7 = .ok (.iload_n 1, 1) := by decide +kernel
theorem dX8_light_8 : decode cX8_light 8 = .ok (.invokestatic 209, 3) := by decide +kernel
theorem dX8_light_11 : decode cX8_light 11 = .ok (.goto 5, 3) := by decide +kernel
theorem dX8_light_14 : decode cX8_light 14 = .ok (.bipush (-3), 2) := by decide +kernel
theorem dX8_light_16 : decode cX8_light 16 = .ok (.ireturn, 1) := by decide +kernel
theorem dX8_parish_0 : decode cX8_parish 0 = .ok (.iload_n 1, 1) := by decide +kernel
theorem dX8_parish_1 : decode cX8_parish 1 = .ok (.ifCond .lt 9, 3) := by decide +kernel
theorem dX8_parish_4 : decode cX8_parish 4 = .ok (.iload_n 1, 1) := by decide +kernel
theorem dX8_parish_5 : decode cX8_parish 5 = .ok (.bipush 127, 2) := by decide +kernel
theorem dX8_parish_7 : decode cX8_parish 7 = .ok (.if_icmp .le 5, 3) := by decide +kernel
theorem dX8_parish_10 : decode cX8_parish 10 = .ok (.iconst (-1), 1) := by decide +kernel
theorem dX8_parish_11 : decode cX8_parish 11 = .ok (.ireturn, 1) := by decide +kernel
theorem dX8_parish_12 : decode cX8_parish 12 = .ok (.aload_n 0, 1) := by decide +kernel
theorem dX8_parish_13 : decode cX8_parish 13 = .ok (.getfield 37, 3) := by decide +kernel
theorem dX8_parish_16 : decode cX8_parish 16 = .ok (.getfield 212, 3) := by decide +kernel
theorem dX8_parish_19 : decode cX8_parish 19 = .ok (.bipush 8, 2) := by decide +kernel
theorem dX8_parish_21 : decode cX8_parish 21 = .ok (.if_icmp .lt 6, 3) := by decide +kernel
theorem dX8_parish_24 : decode cX8_parish 24 = .ok (.bipush (-4), 2) := by decide +kernel
theorem dX8_parish_26 : decode cX8_parish 26 = .ok (.ireturn, 1) := by decide +kernel
theorem dX8_parish_27 : decode cX8_parish 27 = .ok (.aload_n 0, 1) := by decide +kernel
theorem dX8_parish_28 : decode cX8_parish 28 = .ok (.getfield 37, 3) := by decide +kernel
theorem dX8_parish_31 : decode cX8_parish 31 = .ok (.iload_n 1, 1) := by decide +kernel
theorem dX8_parish_32 : decode cX8_parish 32 = .ok (.iload_n 2, 1) := by decide +kernel
theorem dX8_parish_33 : decode cX8_parish 33 = .ok (.invokevirtual 213, 3) := by decide +kernel
theorem dX8_parish_36 : decode cX8_parish 36 = .ok (.aload_n 0, 1) := by decide +kernel
theorem dX8_parish_37 : decode cX8_parish 37 = .ok (.getfield 58, 3) := by decide +kernel
theorem dX8_parish_40 : decode cX8_parish 40 = .ok (.iconst 3, 1) := by decide +kernel
theorem dX8_parish_41 : decode cX8_parish 41 = .ok (.invokevirtual 148, 3) := by decide +kernel
theorem dX8_parish_44 : decode cX8_parish 44 = .ok (.aload_n 0, 1) := by decide +kernel
theorem dX8_parish_45 : decode cX8_parish 45 = .ok (.getfield 37, 3) := by decide +kernel
theorem dX8_parish_48 : decode cX8_parish 48 = .ok (.getfield 212, 3) := by decide +kernel
theorem dX8_parish_51 : decode cX8_parish 51 = .ok (.iconst 1, 1) := by decide +kernel
theorem dX8_parish_52 : decode cX8_parish 52 = .ok (.isub, 1) := by decide +kernel
theorem dX8_parish_53 : decode cX8_parish 53 = .ok (.ireturn, 1) := by decide +kernel
theorem dX8_rule_0 : decode cX8_rule 0 = .ok (.aload_n 0, 1) := by decide +kernel
theorem dX8_rule_1 : decode cX8_rule 1 = .ok (.getfield 37, 3) := by decide +kernel
theorem dX8_rule_4 : decode cX8_rule 4 = .ok (.iload_n 1, 1) := by decide +kernel
theorem dX8_rule_5 : decode cX8_rule 5 = .ok (.invokevirtual 216, 3) := by decide +kernel
theorem dX8_rule_8 : decode cX8_rule 8 = .ok (.ifCond .eq 14, 3) := by decide +kernel
theorem dX8_rule_11 : decode cX8_rule 11 = .ok (.aload_n 0, 1) := by decide +kernel
theorem dX8_rule_12 : decode cX8_rule 12 = .ok (.getfield 28, 3) := by decide +kernel
theorem dX8_rule_15 : decode cX8_rule 15 = .ok (.iload_n 2, 1) := by decide +kernel
theorem dX8_rule_16 : decode cX8_rule 16 = .ok (.invokevirtual 174, 3) := by decide +kernel
theorem dX8_rule_19 : decode cX8_rule 19 = .ok (.ifCond .ne 5, 3) := by decide +kernel
theorem dX8_rule_22 : decode cX8_rule 22 = .ok (.iconst (-1), 1) := by decide +kernel
theorem dX8_rule_23 : decode cX8_rule 23 = .ok (.ireturn, 1) := by decide +kernel
theorem dX8_rule_24 : decode cX8_rule 24 = .ok (.iload_n 3, 1) := by decide +kernel
theorem dX8_rule_25 : decode cX8_rule 25 = .ok (.ifCond .lt 21, 3) := by decide +kernel
theorem dX8_rule_28 : decode cX8_rule 28 = .ok (.iload_n 3, 1) := by decide +kernel
theorem dX8_rule_29 : decode cX8_rule 29 = .ok (.bipush 10, 2) := by decide +kernel
theorem dX8_rule_31 : decode cX8_rule 31 = .ok (.if_icmp .gt 15, 3) := by decide +kernel
theorem dX8_rule_34 : decode cX8_rule 34 = .ok (.iload 4, 2) := by decide +kernel
theorem dX8_rule_36 : decode cX8_rule 36 = .ok (.ifCond .lt 10, 3) := by decide +kernel
theorem dX8_rule_39 : decode cX8_rule 39 = .ok (.iload 4, 2) := by decide +kernel
theorem dX8_rule_41 : decode cX8_rule 41 = .ok (.bipush 10, 2) := by decide +kernel
theorem dX8_rule_43 : decode cX8_rule 43 = .ok (.if_icmp .le 5, 3) := by decide +kernel
theorem dX8_rule_46 : decode cX8_rule 46 = .ok (.iconst (-1), 1) := by decide +kernel
theorem dX8_rule_47 : decode cX8_rule 47 = .ok (.ireturn, 1) := by decide +kernel
theorem dX8_rule_48 : decode cX8_rule 48 = .ok (.aload_n 0, 1) := by decide +kernel
theorem dX8_rule_49 : decode cX8_rule 49 = .ok (.getfield 37, 3) := by decide +kernel
theorem dX8_rule_52 : decode cX8_rule 52 = .ok (.getfield 217, 3) := by decide +kernel
theorem dX8_rule_55 : decode cX8_rule 55 = .ok (.bipush 48, 2) := by decide +kernel
theorem dX8_rule_57 : decode cX8_rule 57 = .ok (.if_icmp .lt 6, 3) := by decide +kernel
theorem dX8_rule_60 : decode cX8_rule 60 = .ok (.bipush (-4), 2) := by decide +kernel
theorem dX8_rule_62 : decode cX8_rule 62 = .ok (.ireturn, 1) := by decide +kernel
theorem dX8_rule_63 : decode cX8_rule 63 = .ok (.aload_n 0, 1) := by decide +kernel
theorem dX8_rule_64 : decode cX8_rule 64 = .ok (.getfield 37, 3) := by decide +kernel
theorem dX8_rule_67 : decode cX8_rule 67 = .ok (.iload_n 1, 1) := by decide +kernel
theorem dX8_rule_68 : decode cX8_rule 68 = .ok (.iload_n 2, 1) := by decide +kernel
theorem dX8_rule_69 : decode cX8_rule 69 = .ok (.iload_n 3, 1) := by decide +kernel
theorem dX8_rule_70 : decode cX8_rule 70 = .ok (.iload 4, 2) := by decide +kernel
theorem dX8_rule_72 : decode cX8_rule 72 = .ok (.invokevirtual 220, 3) := by decide +kernel
theorem dX8_rule_75 : decode cX8_rule 75 = .ok (.aload_n 0, 1) := by decide +kernel
theorem dX8_rule_76 : decode cX8_rule 76 = .ok (.getfield 58, 3) := by decide +kernel
theorem dX8_rule_79 : decode cX8_rule 79 = .ok (.iconst 4, 1) := by decide +kernel
theorem dX8_rule_80 : decode cX8_rule 80 = .ok (.invokevirtual 148, 3) := by decide +kernel
theorem dX8_rule_83 : decode cX8_rule 83 = .ok (.aload_n 0, 1) := by decide +kernel
theorem dX8_rule_84 : decode cX8_rule 84 = .ok (.getfield 37, 3) := by decide +kernel
theorem dX8_rule_87 : decode cX8_rule 87 = .ok (.iload_n 1, 1) := by decide +kernel
theorem dX8_rule_88 : decode cX8_rule 88 = .ok (.invokevirtual 224, 3) := by decide +kernel
theorem dX8_rule_91 : decode cX8_rule 91 = .ok (.ireturn, 1) := by decide +kernel
theorem dX8_isOff_0 : decode cX8_isOff 0 = .ok (.aload_n 0, 1) := by decide +kernel
theorem dX8_isOff_1 : decode cX8_isOff 1 = .ok (.getfield 37, 3) := by decide +kernel
theorem dX8_isOff_4 : decode cX8_isOff 4 = .ok (.iload_n 1, 1) := by decide +kernel
theorem dX8_isOff_5 : decode cX8_isOff 5 = .ok (.invokevirtual 216, 3) := by decide +kernel
theorem dX8_isOff_8 : decode cX8_isOff 8 = .ok (.ifCond .ne 5, 3) := by decide +kernel
theorem dX8_isOff_11 : decode cX8_isOff 11 = .ok (.iconst (-1), 1) := by decide +kernel
theorem dX8_isOff_12 : decode cX8_isOff 12 = .ok (.ireturn, 1) := by decide +kernel
theorem dX8_isOff_13 : decode cX8_isOff 13 = .ok (.iload_n 2, 1) := by decide +kernel
theorem dX8_isOff_14 : decode cX8_isOff 14 = .ok (.invokestatic 81, 3) := by decide +kernel
theorem dX8_isOff_17 : decode cX8_isOff 17 = .ok (.ifCond .ne 6, 3) := by decide +kernel
theorem dX8_isOff_20 : decode cX8_isOff 20 = .ok (.bipush (-3), 2) := by decide +kernel
theorem dX8_isOff_22 : decode cX8_isOff 22 = .ok (.ireturn, 1) := by decide +kernel
theorem dX8_isOff_23 : decode cX8_isOff 23 = .ok (.aload_n 0, 1) := by decide +kernel
theorem dX8_isOff_24 : decode cX8_isOff 24 = .ok (.getfield 37, 3) := by decide +kernel
theorem dX8_isOff_27 : decode cX8_isOff 27 = .ok (.iload_n 1, 1) := by decide +kernel
theorem dX8_isOff_28 : decode cX8_isOff 28 = .ok (.iload_n 2, 1) := by decide +kernel
theorem dX8_isOff_29 : decode cX8_isOff 29 = .ok (.iload_n 2, 1) := by decide +kernel
theorem dX8_isOff_30 : decode cX8_isOff 30 = .ok (.invokevirtual 227, 3) := by decide +kernel
theorem dX8_isOff_33 : decode cX8_isOff 33 = .ok (.aload_n 0, 1) := by decide +kernel
theorem dX8_isOff_34 : decode cX8_isOff 34 = .ok (.getfield 37, 3) := by decide +kernel
theorem dX8_isOff_37 : decode cX8_isOff 37 = .ok (.iload_n 2, 1) := by decide +kernel
theorem dX8_isOff_38 : decode cX8_isOff 38 = .ok (.invokevirtual 231, 3) := by decide +kernel
theorem dX8_isOff_41 : decode cX8_isOff 41 = .ok (.ifCond .eq 7, 3) := by decide +kernel
theorem dX8_isOff_44 : decode cX8_isOff 44 = .ok (.iconst 1, 1) := by decide +kernel
theorem dX8_isOff_45 : decode cX8_isOff 45 = .ok (.goto 4, 3) := by decide +kernel
theorem dX8_isOff_48 : decode cX8_isOff 48 = .ok (.iconst 0, 1) := by decide +kernel
theorem dX8_isOff_49 : decode cX8_isOff 49 = .ok (.ireturn, 1) := by decide +kernel
theorem dX8_worked_0 : decode cX8_worked 0 = .ok (.aload_n 0, 1) := by decide +kernel
theorem dX8_worked_1 : decode cX8_worked 1 = .ok (.getfield 37, 3) := by decide +kernel
theorem dX8_worked_4 : decode cX8_worked 4 = .ok (.iload_n 1, 1) := by decide +kernel
theorem dX8_worked_5 : decode cX8_worked 5 = .ok (.invokevirtual 216, 3) := by decide +kernel
theorem dX8_worked_8 : decode cX8_worked 8 = .ok (.ifCond .eq 20, 3) := by decide +kernel
theorem dX8_worked_11 : decode cX8_worked 11 = .ok (.iload_n 3, 1) := by decide +kernel
theorem dX8_worked_12 : decode cX8_worked 12 = .ok (.iload_n 2, 1) := by decide +kernel
theorem dX8_worked_13 : decode cX8_worked 13 = .ok (.if_icmp .lt 15, 3) := by decide +kernel
theorem dX8_worked_16 : decode cX8_worked 16 = .ok (.iload_n 3, 1) := by decide +kernel
theorem dX8_worked_17 : decode cX8_worked 17 = .ok (.i2l, 1) := by decide +kernel
theorem dX8_worked_18 : decode cX8_worked 18 = .ok (.iload_n 2, 1) := by decide +kernel
theorem dX8_worked_19 : decode cX8_worked 19 = .ok (.i2l, 1) := by decide +kernel
theorem dX8_worked_20 : decode cX8_worked 20 = .ok (.lsub, 1) := by decide +kernel
theorem dX8_worked_21 : decode cX8_worked 21 = .ok (.ldc2_w 234, 3) := by decide +kernel
theorem dX8_worked_24 : decode cX8_worked 24 = .ok (.lcmp, 1) := by decide +kernel
theorem dX8_worked_25 : decode cX8_worked 25 = .ok (.ifCond .lt 5, 3) := by decide +kernel
theorem dX8_worked_28 : decode cX8_worked 28 = .ok (.iconst (-1), 1) := by decide +kernel
theorem dX8_worked_29 : decode cX8_worked 29 = .ok (.ireturn, 1) := by decide +kernel
theorem dX8_worked_30 : decode cX8_worked 30 = .ok (.iload_n 2, 1) := by decide +kernel
theorem dX8_worked_31 : decode cX8_worked 31 = .ok (.invokestatic 81, 3) := by decide +kernel
theorem dX8_worked_34 : decode cX8_worked 34 = .ok (.ifCond .eq 10, 3) := by decide +kernel
theorem dX8_worked_37 : decode cX8_worked 37 = .ok (.iload_n 3, 1) := by decide +kernel
theorem dX8_worked_38 : decode cX8_worked 38 = .ok (.invokestatic 81, 3) := by decide +kernel
theorem dX8_worked_41 : decode cX8_worked 41 = .ok (.ifCond .ne 6, 3) := by decide +kernel
theorem dX8_worked_44 : decode cX8_worked 44 = .ok (.bipush (-3), 2) := by decide +kernel
theorem dX8_worked_46 : decode cX8_worked 46 = .ok (.ireturn, 1) := by decide +kernel
theorem dX8_worked_47 : decode cX8_worked 47 = .ok (.aload_n 0, 1) := by decide +kernel
theorem dX8_worked_48 : decode cX8_worked 48 = .ok (.getfield 37, 3) := by decide +kernel
theorem dX8_worked_51 : decode cX8_worked 51 = .ok (.iload_n 1, 1) := by decide +kernel
theorem dX8_worked_52 : decode cX8_worked 52 = .ok (.iload_n 2, 1) := by decide +kernel
theorem dX8_worked_53 : decode cX8_worked 53 = .ok (.iload_n 3, 1) := by decide +kernel
theorem dX8_worked_54 : decode cX8_worked 54 = .ok (.invokevirtual 227, 3) := by decide +kernel
theorem dX8_worked_57 : decode cX8_worked 57 = .ok (.iconst 0, 1) := by decide +kernel
theorem dX8_worked_58 : decode cX8_worked 58 = .ok (.istore 4, 2) := by decide +kernel
theorem dX8_worked_60 : decode cX8_worked 60 = .ok (.iload_n 2, 1) := by decide +kernel
theorem dX8_worked_61 : decode cX8_worked 61 = .ok (.istore 5, 2) := by decide +kernel
theorem dX8_worked_63 : decode cX8_worked 63 = .ok (.iload 5, 2) := by decide +kernel
theorem dX8_worked_65 : decode cX8_worked 65 = .ok (.iload_n 3, 1) := by decide +kernel
theorem dX8_worked_66 : decode cX8_worked 66 = .ok (.if_icmp .gt 24, 3) := by decide +kernel
theorem dX8_worked_69 : decode cX8_worked 69 = .ok (.aload_n 0, 1) := by decide +kernel
theorem dX8_worked_70 : decode cX8_worked 70 = .ok (.getfield 37, 3) := by decide +kernel
theorem dX8_worked_73 : decode cX8_worked 73 = .ok (.iload 5, 2) := by decide +kernel
theorem dX8_worked_75 : decode cX8_worked 75 = .ok (.invokevirtual 231, 3) := by decide +kernel
theorem dX8_worked_78 : decode cX8_worked 78 = .ok (.ifCond .ne 6, 3) := by decide +kernel
theorem dX8_worked_81 : decode cX8_worked 81 = .ok (.iinc 4 1, 3) := by decide +kernel
theorem dX8_worked_84 : decode cX8_worked 84 = .ok (.iinc 5 1, 3) := by decide +kernel
theorem dX8_worked_87 : decode cX8_worked 87 = .ok (.goto (-24), 3) := by decide +kernel
theorem dX8_worked_90 : decode cX8_worked 90 = .ok (.iload 4, 2) := by decide +kernel
theorem dX8_worked_92 : decode cX8_worked 92 = .ok (.ireturn, 1) := by decide +kernel
theorem dX8_nextOff_0 : decode cX8_nextOff 0 = .ok (.aload_n 0, 1) := by decide +kernel
theorem dX8_nextOff_1 : decode cX8_nextOff 1 = .ok (.getfield 37, 3) := by decide +kernel
theorem dX8_nextOff_4 : decode cX8_nextOff 4 = .ok (.iload_n 1, 1) := by decide +kernel
theorem dX8_nextOff_5 : decode cX8_nextOff 5 = .ok (.invokevirtual 216, 3) := by decide +kernel
theorem dX8_nextOff_8 : decode cX8_nextOff 8 = .ok (.ifCond .ne 5, 3) := by decide +kernel
theorem dX8_nextOff_11 : decode cX8_nextOff 11 = .ok (.iconst (-1), 1) := by decide +kernel
theorem dX8_nextOff_12 : decode cX8_nextOff 12 = .ok (.ireturn, 1) := by decide +kernel
theorem dX8_nextOff_13 : decode cX8_nextOff 13 = .ok (.iload_n 2, 1) := by decide +kernel
theorem dX8_nextOff_14 : decode cX8_nextOff 14 = .ok (.invokestatic 81, 3) := by decide +kernel
theorem dX8_nextOff_17 : decode cX8_nextOff 17 = .ok (.ifCond .ne 6, 3) := by decide +kernel
theorem dX8_nextOff_20 : decode cX8_nextOff 20 = .ok (.bipush (-3), 2) := by decide +kernel
theorem dX8_nextOff_22 : decode cX8_nextOff 22 = .ok (.ireturn, 1) := by decide +kernel
theorem dX8_nextOff_23 : decode cX8_nextOff 23 = .ok (.ldc 139, 2) := by decide +kernel
theorem dX8_nextOff_25 : decode cX8_nextOff 25 = .ok (.iload_n 2, 1) := by decide +kernel
theorem dX8_nextOff_26 : decode cX8_nextOff 26 = .ok (.sipush 400, 3) := by decide +kernel
theorem dX8_nextOff_29 : decode cX8_nextOff 29 = .ok (.iadd, 1) := by decide +kernel
theorem dX8_nextOff_30 : decode cX8_nextOff 30 = .ok (.invokestatic 236, 3) := by decide +kernel
theorem dX8_nextOff_33 : decode cX8_nextOff 33 = .ok (.istore_n 3, 1) := by decide +kernel
theorem dX8_nextOff_34 : decode cX8_nextOff 34 = .ok (.aload_n 0, 1) := by decide +kernel
theorem dX8_nextOff_35 : decode cX8_nextOff 35 = .ok (.getfield 37, 3) := by decide +kernel
theorem dX8_nextOff_38 : decode cX8_nextOff 38 = .ok (.iload_n 1, 1) := by decide +kernel
theorem dX8_nextOff_39 : decode cX8_nextOff 39 = .ok (.iload_n 2, 1) := by decide +kernel
theorem dX8_nextOff_40 : decode cX8_nextOff 40 = .ok (.iload_n 3, 1) := by decide +kernel
theorem dX8_nextOff_41 : decode cX8_nextOff 41 = .ok (.invokevirtual 227, 3) := by decide +kernel
theorem dX8_nextOff_44 : decode cX8_nextOff 44 = .ok (.iload_n 2, 1) := by decide +kernel
theorem dX8_nextOff_45 : decode cX8_nextOff 45 = .ok (.iconst 1, 1) := by decide +kernel
theorem dX8_nextOff_46 : decode cX8_nextOff 46 = .ok (.iadd, 1) := by decide +kernel
theorem dX8_nextOff_47 : decode cX8_nextOff 47 = .ok (.istore 4, 2) := by decide +kernel
theorem dX8_nextOff_49 : decode cX8_nextOff 49 = .ok (.iload 4, 2) := by decide +kernel
theorem dX8_nextOff_51 : decode cX8_nextOff 51 = .ok (.iload_n 3, 1) := by decide +kernel
theorem dX8_nextOff_52 : decode cX8_nextOff 52 = .ok (.if_icmp .gt 24, 3) := by decide +kernel
theorem dX8_nextOff_55 : decode cX8_nextOff 55 = .ok (.aload_n 0, 1) := by decide +kernel
theorem dX8_nextOff_56 : decode cX8_nextOff 56 = .ok (.getfield 37, 3) := by decide +kernel
theorem dX8_nextOff_59 : decode cX8_nextOff 59 = .ok (.iload 4, 2) := by decide +kernel
theorem dX8_nextOff_61 : decode cX8_nextOff 61 = .ok (.invokevirtual 231, 3) := by decide +kernel
theorem dX8_nextOff_64 : decode cX8_nextOff 64 = .ok (.ifCond .eq 6, 3) := by decide +kernel
theorem dX8_nextOff_67 : decode cX8_nextOff 67 = .ok (.iload 4, 2) := by decide +kernel
theorem dX8_nextOff_69 : decode cX8_nextOff 69 = .ok (.ireturn, 1) := by decide +kernel
theorem dX8_nextOff_70 : decode cX8_nextOff 70 = .ok (.iinc 4 1, 3) := by decide +kernel
theorem dX8_nextOff_73 : decode cX8_nextOff 73 = .ok (.goto (-24), 3) := by decide +kernel
theorem dX8_nextOff_76 : decode cX8_nextOff 76 = .ok (.bipush (-2), 2) := by decide +kernel
theorem dX8_nextOff_78 : decode cX8_nextOff 78 = .ok (.ireturn, 1) := by decide +kernel
theorem dX8_inRow_0 : decode cX8_inRow 0 = .ok (.aload_n 0, 1) := by decide +kernel
theorem dX8_inRow_1 : decode cX8_inRow 1 = .ok (.getfield 37, 3) := by decide +kernel
theorem dX8_inRow_4 : decode cX8_inRow 4 = .ok (.iload_n 1, 1) := by decide +kernel
theorem dX8_inRow_5 : decode cX8_inRow 5 = .ok (.invokevirtual 216, 3) := by decide +kernel
theorem dX8_inRow_8 : decode cX8_inRow 8 = .ok (.ifCond .ne 5, 3) := by decide +kernel
theorem dX8_inRow_11 : decode cX8_inRow 11 = .ok (.iconst (-1), 1) := by decide +kernel
theorem dX8_inRow_12 : decode cX8_inRow 12 = .ok (.ireturn, 1) := by decide +kernel
theorem dX8_inRow_13 : decode cX8_inRow 13 = .ok (.iload_n 2, 1) := by decide +kernel
theorem dX8_inRow_14 : decode cX8_inRow 14 = .ok (.invokestatic 81, 3) := by decide +kernel
theorem dX8_inRow_17 : decode cX8_inRow 17 = .ok (.ifCond .ne 6, 3) := by decide +kernel
theorem dX8_inRow_20 : decode cX8_inRow 20 = .ok (.bipush (-3), 2) := by decide +kernel
theorem dX8_inRow_22 : decode cX8_inRow 22 = .ok (.ireturn, 1) := by decide +kernel
theorem dX8_inRow_23 : decode cX8_inRow 23 = .ok (.iconst 0, 1) := by decide +kernel
theorem dX8_inRow_24 : decode cX8_inRow 24 = .ok (.iload_n 2, 1) := by decide +kernel
theorem dX8_inRow_25 : decode cX8_inRow 25 = .ok (.bipush 50, 2) := by decide +kernel
theorem dX8_inRow_27 : decode cX8_inRow 27 = .ok (.isub, 1) := by decide +kernel
theorem dX8_inRow_28 : decode cX8_inRow 28 = .ok (.invokestatic 241, 3) := by decide +kernel
theorem dX8_inRow_31 : decode cX8_inRow 31 = .ok (.istore_n 3, 1) := by decide +kernel
theorem dX8_inRow_32 : decode cX8_inRow 32 = .ok (.ldc 139, 2) := by decide +kernel
theorem dX8_inRow_34 : decode cX8_inRow 34 = .ok (.iload_n 2, 1) := by decide +kernel
theorem dX8_inRow_35 : decode cX8_inRow 35 = .ok (.bipush 50, 2) := by decide +kernel
theorem dX8_inRow_37 : decode cX8_inRow 37 = .ok (.iadd, 1) := by decide +kernel
theorem dX8_inRow_38 : decode cX8_inRow 38 = .ok (.invokestatic 236, 3) := by decide +kernel
theorem dX8_inRow_41 : decode cX8_inRow 41 = .ok (.istore 4, 2) := by decide +kernel
theorem dX8_inRow_43 : decode cX8_inRow 43 = .ok (.aload_n 0, 1) := by decide +kernel
theorem dX8_inRow_44 : decode cX8_inRow 44 = .ok (.getfield 37, 3) := by decide +kernel
theorem dX8_inRow_47 : decode cX8_inRow 47 = .ok (.iload_n 1, 1) := by decide +kernel
theorem dX8_inRow_48 : decode cX8_inRow 48 = .ok (.iload_n 3, 1) := by decide +kernel
theorem dX8_inRow_49 : decode cX8_inRow 49 = .ok (.iload 4, 2) := by decide +kernel
theorem dX8_inRow_51 : decode cX8_inRow 51 = .ok (.invokevirtual 227, 3) := by decide +kernel
theorem dX8_inRow_54 : decode cX8_inRow 54 = .ok (.aload_n 0, 1) := by decide +kernel
theorem dX8_inRow_55 : decode cX8_inRow 55 = .ok (.getfield 37, 3) := by decide +kernel
theorem dX8_inRow_58 : decode cX8_inRow 58 = .ok (.iload_n 2, 1) := by decide +kernel
theorem dX8_inRow_59 : decode cX8_inRow 59 = .ok (.invokevirtual 231, 3) := by decide +kernel
theorem dX8_inRow_62 : decode cX8_inRow 62 = .ok (.ifCond .ne 5, 3) := by decide +kernel
theorem dX8_inRow_65 : decode cX8_inRow 65 = .ok (.iconst 0, 1) := by decide +kernel
theorem dX8_inRow_66 : decode cX8_inRow 66 = .ok (.ireturn, 1) := by decide +kernel
theorem dX8_inRow_67 : decode cX8_inRow 67 = .ok (.iload_n 2, 1) := by decide +kernel
theorem dX8_inRow_68 : decode cX8_inRow 68 = .ok (.istore 5, 2) := by decide +kernel
theorem dX8_inRow_70 : decode cX8_inRow 70 = .ok (.iload 5, 2) := by decide +kernel
theorem dX8_inRow_72 : decode cX8_inRow 72 = .ok (.iload_n 3, 1) := by decide +kernel
theorem dX8_inRow_73 : decode cX8_inRow 73 = .ok (.if_icmp .le 23, 3) := by decide +kernel
theorem dX8_inRow_76 : decode cX8_inRow 76 = .ok (.aload_n 0, 1) := by decide +kernel
theorem dX8_inRow_77 : decode cX8_inRow 77 = .ok (.getfield 37, 3) := by decide +kernel
theorem dX8_inRow_80 : decode cX8_inRow 80 = .ok (.iload 5, 2) := by decide +kernel
theorem dX8_inRow_82 : decode cX8_inRow 82 = .ok (.iconst 1, 1) := by decide +kernel
theorem dX8_inRow_83 : decode cX8_inRow 83 = .ok (.isub, 1) := by decide +kernel
theorem dX8_inRow_84 : decode cX8_inRow 84 = .ok (.invokevirtual 231, 3) := by decide +kernel
theorem dX8_inRow_87 : decode cX8_inRow 87 = .ok (.ifCond .eq 9, 3) := by decide +kernel
theorem dX8_inRow_90 : decode cX8_inRow 90 = .ok (.iinc 5 (-1), 3) := by decide +kernel
theorem dX8_inRow_93 : decode cX8_inRow 93 = .ok (.goto (-23), 3) := by decide +kernel
theorem dX8_inRow_96 : decode cX8_inRow 96 = .ok (.iload_n 2, 1) := by decide +kernel
theorem dX8_inRow_97 : decode cX8_inRow 97 = .ok (.istore 6, 2) := by decide +kernel
theorem dX8_inRow_99 : decode cX8_inRow 99 = .ok (.iload 6, 2) := by decide +kernel
theorem dX8_inRow_101 : decode cX8_inRow 101 = .ok (.iload 4, 2) := by decide +kernel
theorem dX8_inRow_103 : decode cX8_inRow 103 = .ok (.if_icmp .ge 23, 3) := by decide +kernel
theorem dX8_inRow_106 : decode cX8_inRow 106 = .ok (.aload_n 0, 1) := by decide +kernel
theorem dX8_inRow_107 : decode cX8_inRow 107 = .ok (.getfield 37, 3) := by decide +kernel
theorem dX8_inRow_110 : decode cX8_inRow 110 = .ok (.iload 6, 2) := by decide +kernel
theorem dX8_inRow_112 : decode cX8_inRow 112 = .ok (.iconst 1, 1) := by decide +kernel
theorem dX8_inRow_113 : decode cX8_inRow 113 = .ok (.iadd, 1) := by decide +kernel
theorem dX8_inRow_114 : decode cX8_inRow 114 = .ok (.invokevirtual 231, 3) := by decide +kernel
theorem dX8_inRow_117 : decode cX8_inRow 117 = .ok (.ifCond .eq 9, 3) := by decide +kernel
theorem dX8_inRow_120 : decode cX8_inRow 120 = .ok (.iinc 6 1, 3) := by decide +kernel
theorem dX8_inRow_123 : decode cX8_inRow 123 = .ok (.goto (-24), 3) := by decide +kernel
theorem dX8_inRow_126 : decode cX8_inRow 126 = .ok (.iload 6, 2) := by decide +kernel
theorem dX8_inRow_128 : decode cX8_inRow 128 = .ok (.iload 5, 2) := by decide +kernel
theorem dX8_inRow_130 : decode cX8_inRow 130 = .ok (.isub, 1) := by decide +kernel
theorem dX8_inRow_131 : decode cX8_inRow 131 = .ok (.iconst 1, 1) := by decide +kernel
theorem dX8_inRow_132 : decode cX8_inRow 132 = .ok (.iadd, 1) := by decide +kernel
theorem dX8_inRow_133 : decode cX8_inRow 133 = .ok (.ireturn, 1) := by decide +kernel
theorem dX8_page_0 : decode cX8_page 0 = .ok (.aload_n 0, 1) := by decide +kernel
theorem dX8_page_1 : decode cX8_page 1 = .ok (.getfield 37, 3) := by decide +kernel
theorem dX8_page_4 : decode cX8_page 4 = .ok (.iload_n 1, 1) := by decide +kernel
theorem dX8_page_5 : decode cX8_page 5 = .ok (.invokevirtual 216, 3) := by decide +kernel
theorem dX8_page_8 : decode cX8_page 8 = .ok (.ifCond .eq 10, 3) := by decide +kernel
theorem dX8_page_11 : decode cX8_page 11 = .ok (.iload_n 2, 1) := by decide +kernel
theorem dX8_page_12 : decode cX8_page 12 = .ok (.invokestatic 62, 3) := by decide +kernel
theorem dX8_page_15 : decode cX8_page 15 = .ok (.ifCond .ne 5, 3) := by decide +kernel
theorem dX8_page_18 : decode cX8_page 18 = .ok (.iconst (-1), 1) := by decide +kernel
theorem dX8_page_19 : decode cX8_page 19 = .ok (.ireturn, 1) := by decide +kernel
theorem dX8_page_20 : decode cX8_page 20 = .ok (.aload_n 0, 1) := by decide +kernel
theorem dX8_page_21 : decode cX8_page 21 = .ok (.getfield 10, 3) := by decide +kernel
theorem dX8_page_24 : decode cX8_page 24 = .ok (.iload_n 2, 1) := by decide +kernel
theorem dX8_page_25 : decode cX8_page 25 = .ok (.iload_n 3, 1) := by decide +kernel
theorem dX8_page_26 : decode cX8_page 26 = .ok (.iload 4, 2) := by decide +kernel
theorem dX8_page_28 : decode cX8_page 28 = .ok (.invokevirtual 66, 3) := by decide +kernel
theorem dX8_page_31 : decode cX8_page 31 = .ok (.ifCond .ne 6, 3) := by decide +kernel
theorem dX8_page_34 : decode cX8_page 34 = .ok (.bipush (-2), 2) := by decide +kernel
theorem dX8_page_36 : decode cX8_page 36 = .ok (.ireturn, 1) := by decide +kernel
theorem dX8_page_37 : decode cX8_page 37 = .ok (.aload_n 0, 1) := by decide +kernel
theorem dX8_page_38 : decode cX8_page 38 = .ok (.getfield 10, 3) := by decide +kernel
theorem dX8_page_41 : decode cX8_page 41 = .ok (.iload_n 2, 1) := by decide +kernel
theorem dX8_page_42 : decode cX8_page 42 = .ok (.iload_n 3, 1) := by decide +kernel
theorem dX8_page_43 : decode cX8_page 43 = .ok (.iload 4, 2) := by decide +kernel
theorem dX8_page_45 : decode cX8_page 45 = .ok (.invokevirtual 74, 3) := by decide +kernel
theorem dX8_page_48 : decode cX8_page 48 = .ok (.istore 5, 2) := by decide +kernel
theorem dX8_page_50 : decode cX8_page 50 = .ok (.iload 5, 2) := by decide +kernel
theorem dX8_page_52 : decode cX8_page 52 = .ok (.aload_n 0, 1) := by decide +kernel
theorem dX8_page_53 : decode cX8_page 53 = .ok (.getfield 10, 3) := by decide +kernel
theorem dX8_page_56 : decode cX8_page 56 = .ok (.iload_n 2, 1) := by decide +kernel
theorem dX8_page_57 : decode cX8_page 57 = .ok (.iload_n 3, 1) := by decide +kernel
theorem dX8_page_58 : decode cX8_page 58 = .ok (.iload 4, 2) := by decide +kernel
theorem dX8_page_60 : decode cX8_page 60 = .ok (.invokevirtual 70, 3) := by decide +kernel
theorem dX8_page_63 : decode cX8_page 63 = .ok (.iadd, 1) := by decide +kernel
theorem dX8_page_64 : decode cX8_page 64 = .ok (.iconst 1, 1) := by decide +kernel
theorem dX8_page_65 : decode cX8_page 65 = .ok (.isub, 1) := by decide +kernel
theorem dX8_page_66 : decode cX8_page 66 = .ok (.istore 6, 2) := by decide +kernel
theorem dX8_page_68 : decode cX8_page 68 = .ok (.iload 5, 2) := by decide +kernel
theorem dX8_page_70 : decode cX8_page 70 = .ok (.invokestatic 81, 3) := by decide +kernel
theorem dX8_page_73 : decode cX8_page 73 = .ok (.ifCond .eq 11, 3) := by decide +kernel
theorem dX8_page_76 : decode cX8_page 76 = .ok (.iload 6, 2) := by decide +kernel
theorem dX8_page_78 : decode cX8_page 78 = .ok (.invokestatic 81, 3) := by decide +kernel
theorem dX8_page_81 : decode cX8_page 81 = .ok (.ifCond .ne 6, 3) := by decide +kernel
theorem dX8_page_84 : decode cX8_page 84 = .ok (.bipush (-3), 2) := by decide +kernel
theorem dX8_page_86 : decode cX8_page 86 = .ok (.ireturn, 1) := by decide +kernel
theorem dX8_page_87 : decode cX8_page 87 = .ok (.aload_n 0, 1) := by decide +kernel
theorem dX8_page_88 : decode cX8_page 88 = .ok (.getfield 37, 3) := by decide +kernel
theorem dX8_page_91 : decode cX8_page 91 = .ok (.iload_n 1, 1) := by decide +kernel
theorem dX8_page_92 : decode cX8_page 92 = .ok (.iload 5, 2) := by decide +kernel
theorem dX8_page_94 : decode cX8_page 94 = .ok (.iload 6, 2) := by decide +kernel
theorem dX8_page_96 : decode cX8_page 96 = .ok (.invokevirtual 227, 3) := by decide +kernel
theorem dX8_page_99 : decode cX8_page 99 = .ok (.aload_n 0, 1) := by decide +kernel
theorem dX8_page_100 : decode cX8_page 100 = .ok (.getfield 44, 3) := by decide +kernel
theorem dX8_page_103 : decode cX8_page 103 = .ok (.iload_n 3, 1) := by decide +kernel
theorem dX8_page_104 : decode cX8_page 104 = .ok (.iload 4, 2) := by decide +kernel
theorem dX8_page_106 : decode cX8_page 106 = .ok (.invokevirtual 244, 3) := by decide +kernel
theorem dX8_page_109 : decode cX8_page 109 = .ok (.iload 5, 2) := by decide +kernel
theorem dX8_page_111 : decode cX8_page 111 = .ok (.iload 6, 2) := by decide +kernel
theorem dX8_page_113 : decode cX8_page 113 = .ok (.invokestatic 247, 3) := by decide +kernel
theorem dX8_page_116 : decode cX8_page 116 = .ok (.iconst 1, 1) := by decide +kernel
theorem dX8_page_117 : decode cX8_page 117 = .ok (.iadd, 1) := by decide +kernel
theorem dX8_page_118 : decode cX8_page 118 = .ok (.istore 7, 2) := by decide +kernel
theorem dX8_page_120 : decode cX8_page 120 = .ok (.aload_n 0, 1) := by decide +kernel
theorem dX8_page_121 : decode cX8_page 121 = .ok (.getfield 10, 3) := by decide +kernel
theorem dX8_page_124 : decode cX8_page 124 = .ok (.iconst 0, 1) := by decide +kernel
theorem dX8_page_125 : decode cX8_page 125 = .ok (.iload 6, 2) := by decide +kernel
theorem dX8_page_127 : decode cX8_page 127 = .ok (.invokevirtual 88, 3) := by decide +kernel
theorem dX8_page_130 : decode cX8_page 130 = .ok (.istore 8, 2) := by decide +kernel
theorem dX8_page_132 : decode cX8_page 132 = .ok (.aload_n 0, 1) := by decide +kernel
theorem dX8_page_133 : decode cX8_page 133 = .ok (.getfield 10, 3) := by decide +kernel
theorem dX8_page_136 : decode cX8_page 136 = .ok (.iconst 0, 1) := by decide +kernel
theorem dX8_page_137 : decode cX8_page 137 = .ok (.iload 5, 2) := by decide +kernel
theorem dX8_page_139 : decode cX8_page 139 = .ok (.invokevirtual 88, 3) := by decide +kernel
theorem dX8_page_142 : decode cX8_page 142 = .ok (.istore 9, 2) := by decide +kernel
theorem dX8_page_144 : decode cX8_page 144 = .ok (.iload 9, 2) := by decide +kernel
theorem dX8_page_146 : decode cX8_page 146 = .ok (.iload 8, 2) := by decide +kernel
theorem dX8_page_148 : decode cX8_page 148 = .ok (.if_icmp .gt 74, 3) := by decide +kernel
theorem dX8_page_151 : decode cX8_page 151 = .ok (.aload_n 0, 1) := by decide +kernel
theorem dX8_page_152 : decode cX8_page 152 = .ok (.getfield 28, 3) := by decide +kernel
theorem dX8_page_155 : decode cX8_page 155 = .ok (.iload 9, 2) := by decide +kernel
theorem dX8_page_157 : decode cX8_page 157 = .ok (.invokevirtual 177, 3) := by decide +kernel
theorem dX8_page_160 : decode cX8_page 160 = .ok (.iload 5, 2) := by decide +kernel
theorem dX8_page_162 : decode cX8_page 162 = .ok (.aload_n 0, 1) := by decide +kernel
theorem dX8_page_163 : decode cX8_page 163 = .ok (.getfield 10, 3) := by decide +kernel
theorem dX8_page_166 : decode cX8_page 166 = .ok (.iload 9, 2) := by decide +kernel
theorem dX8_page_168 : decode cX8_page 168 = .ok (.invokevirtual 130, 3) := by decide +kernel
theorem dX8_page_171 : decode cX8_page 171 = .ok (.invokestatic 241, 3) := by decide +kernel
theorem dX8_page_174 : decode cX8_page 174 = .ok (.istore 10, 2) := by decide +kernel
theorem dX8_page_176 : decode cX8_page 176 = .ok (.iload 6, 2) := by decide +kernel
theorem dX8_page_178 : decode cX8_page 178 = .ok (.aload_n 0, 1) := by decide +kernel
theorem dX8_page_179 : decode cX8_page 179 = .ok (.getfield 10, 3) := by decide +kernel
theorem dX8_page_182 : decode cX8_page 182 = .ok (.iload 9, 2) := by decide +kernel
theorem dX8_page_184 : decode cX8_page 184 = .ok (.invokevirtual 133, 3) := by decide +kernel
theorem dX8_page_187 : decode cX8_page 187 = .ok (.invokestatic 236, 3) := by decide +kernel
theorem dX8_page_190 : decode cX8_page 190 = .ok (.istore 11, 2) := by decide +kernel
theorem dX8_page_192 : decode cX8_page 192 = .ok (.aload_n 0, 1) := by decide +kernel
theorem dX8_page_193 : decode cX8_page 193 = .ok (.iload 5, 2) := by decide +kernel
theorem dX8_page_195 : decode cX8_page 195 = .ok (.iload 10, 2) := by decide +kernel
theorem dX8_page_197 : decode cX8_page 197 = .ok (.iload 11, 2) := by decide +kernel
theorem dX8_page_199 : decode cX8_page 199 = .ok (.invokevirtual 250, 3) := by decide +kernel
theorem dX8_page_202 : decode cX8_page 202 = .ok (.aload_n 0, 1) := by decide +kernel
theorem dX8_page_203 : decode cX8_page 203 = .ok (.iload 5, 2) := by decide +kernel
theorem dX8_page_205 : decode cX8_page 205 = .ok (.iload 10, 2) := by decide +kernel
theorem dX8_page_207 : decode cX8_page 207 = .ok (.iload 11, 2) := by decide +kernel
theorem dX8_page_209 : decode cX8_page 209 = .ok (.iload 7, 2) := by decide +kernel
theorem dX8_page_211 : decode cX8_page 211 = .ok (.invokevirtual 253, 3) := by decide +kernel
theorem dX8_page_214 : decode cX8_page 214 = .ok (.istore 7, 2) := by decide +kernel
theorem dX8_page_216 : decode cX8_page 216 = .ok (.iinc 9 1, 3) := by decide +kernel
theorem dX8_page_219 : decode cX8_page 219 = .ok (.goto (-75), 3) := by decide +kernel
theorem dX8_page_222 : decode cX8_page 222 = .ok (.iload 7, 2) := by decide +kernel
theorem dX8_page_224 : decode cX8_page 224 = .ok (.bipush 28, 2) := by decide +kernel
theorem dX8_page_226 : decode cX8_page 226 = .ok (.invokestatic 236, 3) := by decide +kernel
theorem dX8_page_229 : decode cX8_page 229 = .ok (.ireturn, 1) := by decide +kernel
theorem dX8_sign_0 : decode cX8_sign 0 = .ok (.iload_n 1, 1) := by decide +kernel
theorem dX8_sign_1 : decode cX8_sign 1 = .ok (.ifCond .lt 19, 3) := by decide +kernel
theorem dX8_sign_4 : decode cX8_sign 4 = .ok (.iload_n 1, 1) := by decide +kernel
theorem dX8_sign_5 : decode cX8_sign 5 = .ok (.bipush 28, 2) := by decide +kernel
theorem dX8_sign_7 : decode cX8_sign 7 = .ok (.if_icmp .ge 13, 3) := by decide +kernel
theorem dX8_sign_10 : decode cX8_sign 10 = .ok (.iload_n 2, 1) := by decide +kernel
theorem dX8_sign_11 : decode cX8_sign 11 = .ok (.ifCond .lt 9, 3) := by decide +kernel
theorem dX8_sign_14 : decode cX8_sign 14 = .ok (.iload_n 2, 1) := by decide +kernel
theorem dX8_sign_15 : decode cX8_sign 15 = .ok (.bipush 40, 2) := by decide +kernel
theorem dX8_sign_17 : decode cX8_sign 17 = .ok (.if_icmp .lt 5, 3) := by decide +kernel
theorem dX8_sign_20 : decode cX8_sign 20 = .ok (.iconst (-1), 1) := by decide +kernel
theorem dX8_sign_21 : decode cX8_sign 21 = .ok (.ireturn, 1) := by decide +kernel
theorem dX8_sign_22 : decode cX8_sign 22 = .ok (.aload_n 0, 1) := by decide +kernel
theorem dX8_sign_23 : decode cX8_sign 23 = .ok (.getfield 44, 3) := by decide +kernel
theorem dX8_sign_26 : decode cX8_sign 26 = .ok (.getfield 257, 3) := by decide +kernel
theorem dX8_sign_29 : decode cX8_sign 29 = .ok (.iload_n 1, 1) := by decide +kernel
theorem dX8_sign_30 : decode cX8_sign 30 = .ok (.bipush 40, 2) := by decide +kernel
theorem dX8_sign_32 : decode cX8_sign 32 = .ok (.imul, 1) := by decide +kernel
theorem dX8_sign_33 : decode cX8_sign 33 = .ok (.iload_n 2, 1) := by decide +kernel
theorem dX8_sign_34 : decode cX8_sign 34 = .ok (.iadd, 1) := by decide +kernel
theorem dX8_sign_35 : decode cX8_sign 35 = .ok (.iaload, 1) := by decide +kernel
theorem dX8_sign_36 : decode cX8_sign 36 = .ok (.ireturn, 1) := by decide +kernel
theorem dX8_book_0 : decode cX8_book 0 = .ok (.aload_n 0, 1) := by decide +kernel
theorem dX8_book_1 : decode cX8_book 1 = .ok (.getfield 37, 3) := by decide +kernel
theorem dX8_book_4 : decode cX8_book 4 = .ok (.iload_n 1, 1) := by decide +kernel
theorem dX8_book_5 : decode cX8_book 5 = .ok (.invokevirtual 216, 3) := by decide +kernel
theorem dX8_book_8 : decode cX8_book 8 = .ok (.ifCond .ne 5, 3) := by decide +kernel
theorem dX8_book_11 : decode cX8_book 11 = .ok (.iconst (-1), 1) := by decide +kernel
theorem dX8_book_12 : decode cX8_book 12 = .ok (.ireturn, 1) := by decide +kernel
theorem dX8_book_13 : decode cX8_book 13 = .ok (.aload_n 0, 1) := by decide +kernel
theorem dX8_book_14 : decode cX8_book 14 = .ok (.getfield 10, 3) := by decide +kernel
theorem dX8_book_17 : decode cX8_book 17 = .ok (.iconst 0, 1) := by decide +kernel
theorem dX8_book_18 : decode cX8_book 18 = .ok (.iload_n 2, 1) := by decide +kernel
theorem dX8_book_19 : decode cX8_book 19 = .ok (.invokevirtual 101, 3) := by decide +kernel
theorem dX8_book_22 : decode cX8_book 22 = .ok (.ifCond .ne 6, 3) := by decide +kernel
theorem dX8_book_25 : decode cX8_book 25 = .ok (.bipush (-2), 2) := by decide +kernel
theorem dX8_book_27 : decode cX8_book 27 = .ok (.ireturn, 1) := by decide +kernel
theorem dX8_book_28 : decode cX8_book 28 = .ok (.aload_n 0, 1) := by decide +kernel
theorem dX8_book_29 : decode cX8_book 29 = .ok (.getfield 10, 3) := by decide +kernel
theorem dX8_book_32 : decode cX8_book 32 = .ok (.iconst 0, 1) := by decide +kernel
theorem dX8_book_33 : decode cX8_book 33 = .ok (.iload_n 2, 1) := by decide +kernel
theorem dX8_book_34 : decode cX8_book 34 = .ok (.invokevirtual 261, 3) := by decide +kernel
theorem dX8_book_37 : decode cX8_book 37 = .ok (.istore_n 3, 1) := by decide +kernel
theorem dX8_book_38 : decode cX8_book 38 = .ok (.aload_n 0, 1) := by decide +kernel
theorem dX8_book_39 : decode cX8_book 39 = .ok (.getfield 10, 3) := by decide +kernel
theorem dX8_book_42 : decode cX8_book 42 = .ok (.iconst 0, 1) := by decide +kernel
theorem dX8_book_43 : decode cX8_book 43 = .ok (.iload_n 2, 1) := by decide +kernel
theorem dX8_book_44 : decode cX8_book 44 = .ok (.invokevirtual 104, 3) := by decide +kernel
theorem dX8_book_47 : decode cX8_book 47 = .ok (.istore 4, 2) := by decide +kernel
theorem dX8_book_49 : decode cX8_book 49 = .ok (.iload_n 3, 1) := by decide +kernel
theorem dX8_book_50 : decode cX8_book 50 = .ok (.invokestatic 81, 3) := by decide +kernel
theorem dX8_book_53 : decode cX8_book 53 = .ok (.ifCond .eq 15, 3) := by decide +kernel
theorem dX8_book_56 : decode cX8_book 56 = .ok (.iload_n 3, 1) := by decide +kernel
theorem dX8_book_57 : decode cX8_book 57 = .ok (.iload 4, 2) := by decide +kernel
theorem dX8_book_59 : decode cX8_book 59 = .ok (.iadd, 1) := by decide +kernel
theorem dX8_book_60 : decode cX8_book 60 = .ok (.iconst 1, 1) := by decide +kernel
theorem dX8_book_61 : decode cX8_book 61 = .ok (.isub, 1) := by decide +kernel
theorem dX8_book_62 : decode cX8_book 62 = .ok (.invokestatic 81, 3) := by decide +kernel
theorem dX8_book_65 : decode cX8_book 65 = .ok (.ifCond .ne 6, 3) := by decide +kernel
theorem dX8_book_68 : decode cX8_book 68 = .ok (.bipush (-3), 2) := by decide +kernel
theorem dX8_book_70 : decode cX8_book 70 = .ok (.ireturn, 1) := by decide +kernel
theorem dX8_book_71 : decode cX8_book 71 = .ok (.aload_n 0, 1) := by decide +kernel
theorem dX8_book_72 : decode cX8_book 72 = .ok (.getfield 51, 3) := by decide +kernel
theorem dX8_book_75 : decode cX8_book 75 = .ok (.getfield 264, 3) := by decide +kernel
theorem dX8_book_78 : decode cX8_book 78 = .ok (.iload 4, 2) := by decide +kernel
theorem dX8_book_80 : decode cX8_book 80 = .ok (.iadd, 1) := by decide +kernel
theorem dX8_book_81 : decode cX8_book 81 = .ok (.bipush 8, 2) := by decide +kernel
theorem dX8_book_83 : decode cX8_book 83 = .ok (.iadd, 1) := by decide +kernel
theorem dX8_book_84 : decode cX8_book 84 = .ok (.sipush 1200, 3) := by decide +kernel
theorem dX8_book_87 : decode cX8_book 87 = .ok (.if_icmp .le 6, 3) := by decide +kernel
theorem dX8_book_90 : decode cX8_book 90 = .ok (.bipush (-4), 2) := by decide +kernel
theorem dX8_book_92 : decode cX8_book 92 = .ok (.ireturn, 1) := by decide +kernel
theorem dX8_book_93 : decode cX8_book 93 = .ok (.aload_n 0, 1) := by decide +kernel
theorem dX8_book_94 : decode cX8_book 94 = .ok (.getfield 37, 3) := by decide +kernel
theorem dX8_book_97 : decode cX8_book 97 = .ok (.iload_n 1, 1) := by decide +kernel
theorem dX8_book_98 : decode cX8_book 98 = .ok (.iload_n 3, 1) := by decide +kernel
theorem dX8_book_99 : decode cX8_book 99 = .ok (.iload_n 3, 1) := by decide +kernel
theorem dX8_book_100 : decode cX8_book 100 = .ok (.iload 4, 2) := by decide +kernel
theorem dX8_book_102 : decode cX8_book 102 = .ok (.iadd, 1) := by decide +kernel
theorem dX8_book_103 : decode cX8_book 103 = .ok (.iconst 1, 1) := by decide +kernel
theorem dX8_book_104 : decode cX8_book 104 = .ok (.isub, 1) := by decide +kernel
theorem dX8_book_105 : decode cX8_book 105 = .ok (.invokevirtual 227, 3) := by decide +kernel
theorem dX8_book_108 : decode cX8_book 108 = .ok (.aload_n 0, 1) := by decide +kernel
theorem dX8_book_109 : decode cX8_book 109 = .ok (.getfield 28, 3) := by decide +kernel
theorem dX8_book_112 : decode cX8_book 112 = .ok (.iload_n 2, 1) := by decide +kernel
theorem dX8_book_113 : decode cX8_book 113 = .ok (.invokevirtual 177, 3) := by decide +kernel
theorem dX8_book_116 : decode cX8_book 116 = .ok (.aload_n 0, 1) := by decide +kernel
theorem dX8_book_117 : decode cX8_book 117 = .ok (.getfield 51, 3) := by decide +kernel
theorem dX8_book_120 : decode cX8_book 120 = .ok (.getfield 264, 3) := by decide +kernel
theorem dX8_book_123 : decode cX8_book 123 = .ok (.istore 5, 2) := by decide +kernel
theorem dX8_book_125 : decode cX8_book 125 = .ok (.aload_n 0, 1) := by decide +kernel
theorem dX8_book_126 : decode cX8_book 126 = .ok (.getfield 51, 3) := by decide +kernel
theorem dX8_book_129 : decode cX8_book 129 = .ok (.iload_n 2, 1) := by decide +kernel
theorem dX8_book_130 : decode cX8_book 130 = .ok (.iconst 2, 1) := by decide +kernel
theorem dX8_book_131 : decode cX8_book 131 = .ok (.invokevirtual 267, 3) := by decide +kernel
theorem dX8_book_134 : decode cX8_book 134 = .ok (.aload_n 0, 1) := by decide +kernel
theorem dX8_book_135 : decode cX8_book 135 = .ok (.getfield 51, 3) := by decide +kernel
theorem dX8_book_138 : decode cX8_book 138 = .ok (.iload 4, 2) := by decide +kernel
theorem dX8_book_140 : decode cX8_book 140 = .ok (.iconst 2, 1) := by decide +kernel
theorem dX8_book_141 : decode cX8_book 141 = .ok (.invokevirtual 267, 3) := by decide +kernel
theorem dX8_book_144 : decode cX8_book 144 = .ok (.iload_n 3, 1) := by decide +kernel
theorem dX8_book_145 : decode cX8_book 145 = .ok (.istore 6, 2) := by decide +kernel
theorem dX8_book_147 : decode cX8_book 147 = .ok (.iload 6, 2) := by decide +kernel
theorem dX8_book_149 : decode cX8_book 149 = .ok (.iload_n 3, 1) := by decide +kernel
theorem dX8_book_150 : decode cX8_book 150 = .ok (.iload 4, 2) := by decide +kernel
theorem dX8_book_152 : decode cX8_book 152 = .ok (.iadd, 1) := by decide +kernel
theorem dX8_book_153 : decode cX8_book 153 = .ok (.if_icmp .ge 63, 3) := by decide +kernel
theorem dX8_book_156 : decode cX8_book 156 = .ok (.aload_n 0, 1) := by decide +kernel
theorem dX8_book_157 : decode cX8_book 157 = .ok (.getfield 37, 3) := by decide +kernel
theorem dX8_book_160 : decode cX8_book 160 = .ok (.iload 6, 2) := by decide +kernel
theorem dX8_book_162 : decode cX8_book 162 = .ok (.invokevirtual 231, 3) := by decide +kernel
theorem dX8_book_165 : decode cX8_book 165 = .ok (.ifCond .eq 8, 3) := by decide +kernel
theorem dX8_book_168 : decode cX8_book 168 = .ok (.bipush 8, 2) := by decide +kernel
theorem dX8_book_170 : decode cX8_book 170 = .ok (.goto 4, 3) := by decide +kernel
theorem dX8_book_173 : decode cX8_book 173 = .ok (.iconst 0, 1) := by decide +kernel
theorem dX8_book_174 : decode cX8_book 174 = .ok (.istore 7, 2) := by decide +kernel
theorem dX8_book_176 : decode cX8_book 176 = .ok (.aload_n 0, 1) := by decide +kernel
theorem dX8_book_177 : decode cX8_book 177 = .ok (.getfield 51, 3) := by decide +kernel
theorem dX8_book_180 : decode cX8_book 180 = .ok (.iload 6, 2) := by decide +kernel
theorem dX8_book_182 : decode cX8_book 182 = .ok (.bipush 7, 2) := by decide +kernel
theorem dX8_book_184 : decode cX8_book 184 = .ok (.irem, 1) := by decide +kernel
theorem dX8_book_185 : decode cX8_book 185 = .ok (.iload 7, 2) := by decide +kernel
theorem dX8_book_187 : decode cX8_book 187 = .ok (.iadd, 1) := by decide +kernel
theorem dX8_book_188 : decode cX8_book 188 = .ok (.bipush 16, 2) := by decide +kernel
theorem dX8_book_190 : decode cX8_book 190 = .ok (.bipush 15, 2) := by decide +kernel
theorem dX8_book_192 : decode cX8_book 192 = .ok (.aload_n 0, 1) := by decide +kernel
theorem dX8_book_193 : decode cX8_book 193 = .ok (.getfield 28, 3) := by decide +kernel
theorem dX8_book_196 : decode cX8_book 196 = .ok (.iload 6, 2) := by decide +kernel
theorem dX8_book_198 : decode cX8_book 198 = .ok (.invokevirtual 270, 3) := by decide +kernel
theorem dX8_book_201 : decode cX8_book 201 = .ok (.invokestatic 236, 3) := by decide +kernel
theorem dX8_book_204 : decode cX8_book 204 = .ok (.imul, 1) := by decide +kernel
theorem dX8_book_205 : decode cX8_book 205 = .ok (.iadd, 1) := by decide +kernel
theorem dX8_book_206 : decode cX8_book 206 = .ok (.iconst 1, 1) := by decide +kernel
theorem dX8_book_207 : decode cX8_book 207 = .ok (.invokevirtual 267, 3) := by decide +kernel
theorem dX8_book_210 : decode cX8_book 210 = .ok (.iinc 6 1, 3) := by decide +kernel
theorem dX8_book_213 : decode cX8_book 213 = .ok (.goto (-66), 3) := by decide +kernel
theorem dX8_book_216 : decode cX8_book 216 = .ok (.aload_n 0, 1) := by decide +kernel
theorem dX8_book_217 : decode cX8_book 217 = .ok (.getfield 51, 3) := by decide +kernel
theorem dX8_book_220 : decode cX8_book 220 = .ok (.aload_n 0, 1) := by decide +kernel
theorem dX8_book_221 : decode cX8_book 221 = .ok (.getfield 51, 3) := by decide +kernel
theorem dX8_book_224 : decode cX8_book 224 = .ok (.iload 5, 2) := by decide +kernel
theorem dX8_book_226 : decode cX8_book 226 = .ok (.aload_n 0, 1) := by decide +kernel
theorem dX8_book_227 : decode cX8_book 227 = .ok (.getfield 51, 3) := by decide +kernel
theorem dX8_book_230 : decode cX8_book 230 = .ok (.getfield 264, 3) := by decide +kernel
theorem dX8_book_233 : decode cX8_book 233 = .ok (.invokevirtual 273, 3) := by decide +kernel
theorem dX8_book_236 : decode cX8_book 236 = .ok (.iconst 4, 1) := by decide +kernel
theorem dX8_book_237 : decode cX8_book 237 = .ok (.invokevirtual 267, 3) := by decide +kernel
theorem dX8_book_240 : decode cX8_book 240 = .ok (.aload_n 0, 1) := by decide +kernel
theorem dX8_book_241 : decode cX8_book 241 = .ok (.getfield 51, 3) := by decide +kernel
theorem dX8_book_244 : decode cX8_book 244 = .ok (.getfield 264, 3) := by decide +kernel
theorem dX8_book_247 : decode cX8_book 247 = .ok (.ireturn, 1) := by decide +kernel
theorem dX8_load_0 : decode cX8_load 0 = .ok (.iload_n 2, 1) := by decide +kernel
theorem dX8_load_1 : decode cX8_load 1 = .ok (.iconst 1, 1) := by decide +kernel
theorem dX8_load_2 : decode cX8_load 2 = .ok (.if_icmp .lt 8, 3) := by decide +kernel
theorem dX8_load_5 : decode cX8_load 5 = .ok (.iload_n 2, 1) := by decide +kernel
theorem dX8_load_6 : decode cX8_load 6 = .ok (.iconst 4, 1) := by decide +kernel
theorem dX8_load_7 : decode cX8_load 7 = .ok (.if_icmp .le 5, 3) := by decide +kernel
theorem dX8_load_10 : decode cX8_load 10 = .ok (.iconst (-1), 1) := by decide +kernel
theorem dX8_load_11 : decode cX8_load 11 = .ok (.ireturn, 1) := by decide +kernel
theorem dX8_load_12 : decode cX8_load 12 = .ok (.aload_n 0, 1) := by decide +kernel
theorem dX8_load_13 : decode cX8_load 13 = .ok (.getfield 51, 3) := by decide +kernel
theorem dX8_load_16 : decode cX8_load 16 = .ok (.getfield 264, 3) := by decide +kernel
theorem dX8_load_19 : decode cX8_load 19 = .ok (.iload_n 2, 1) := by decide +kernel
theorem dX8_load_20 : decode cX8_load 20 = .ok (.iadd, 1) := by decide +kernel
theorem dX8_load_21 : decode cX8_load 21 = .ok (.sipush 1200, 3) := by decide +kernel
theorem dX8_load_24 : decode cX8_load 24 = .ok (.if_icmp .le 6, 3) := by decide +kernel
theorem dX8_load_27 : decode cX8_load 27 = .ok (.bipush (-4), 2) := by decide +kernel
theorem dX8_load_29 : decode cX8_load 29 = .ok (.ireturn, 1) := by decide +kernel
theorem dX8_load_30 : decode cX8_load 30 = .ok (.aload_n 0, 1) := by decide +kernel
theorem dX8_load_31 : decode cX8_load 31 = .ok (.getfield 51, 3) := by decide +kernel
theorem dX8_load_34 : decode cX8_load 34 = .ok (.iload_n 1, 1) := by decide +kernel
theorem dX8_load_35 : decode cX8_load 35 = .ok (.iload_n 2, 1) := by decide +kernel
theorem dX8_load_36 : decode cX8_load 36 = .ok (.invokevirtual 267, 3) := by decide +kernel
theorem dX8_load_39 : decode cX8_load 39 = .ok (.aload_n 0, 1) := by decide +kernel
theorem dX8_load_40 : decode cX8_load 40 = .ok (.getfield 51, 3) := by decide +kernel
theorem dX8_load_43 : decode cX8_load 43 = .ok (.getfield 264, 3) := by decide +kernel
theorem dX8_load_46 : decode cX8_load 46 = .ok (.ireturn, 1) := by decide +kernel
theorem dX8_byteAt_0 : decode cX8_byteAt 0 = .ok (.iload_n 1, 1) := by decide +kernel
theorem dX8_byteAt_1 : decode cX8_byteAt 1 = .ok (.ifCond .lt 14, 3) := by decide +kernel
theorem dX8_byteAt_4 : decode cX8_byteAt 4 = .ok (.iload_n 1, 1) := by decide +kernel
theorem dX8_byteAt_5 : decode cX8_byteAt 5 = .ok (.aload_n 0, 1) := by decide +kernel
theorem dX8_byteAt_6 : decode cX8_byteAt 6 = .ok (.getfield 51, 3) := by decide +kernel
theorem dX8_byteAt_9 : decode cX8_byteAt 9 = .ok (.getfield 264, 3) := by decide +kernel
theorem dX8_byteAt_12 : decode cX8_byteAt 12 = .ok (.if_icmp .lt 8, 3) := by decide +kernel
theorem dX8_byteAt_15 : decode cX8_byteAt 15 = .ok (.bipush (-2), 2) := by decide +kernel
theorem dX8_byteAt_17 : decode cX8_byteAt 17 = .ok (.goto 12, 3) := by decide +kernel
theorem dX8_byteAt_20 : decode cX8_byteAt 20 = .ok (.aload_n 0, 1) := by decide +kernel
theorem dX8_byteAt_21 : decode cX8_byteAt 21 = .ok (.getfield 51, 3) := by decide +kernel
theorem dX8_byteAt_24 : decode cX8_byteAt 24 = .ok (.getfield 276, 3) := by decide +kernel
theorem dX8_byteAt_27 : decode cX8_byteAt 27 = .ok (.iload_n 1, 1) := by decide +kernel
theorem dX8_byteAt_28 : decode cX8_byteAt 28 = .ok (.iaload, 1) := by decide +kernel
theorem dX8_byteAt_29 : decode cX8_byteAt 29 = .ok (.ireturn, 1) := by decide +kernel
theorem dX8_spoil_0 : decode cX8_spoil 0 = .ok (.iload_n 1, 1) := by decide +kernel
theorem dX8_spoil_1 : decode cX8_spoil 1 = .ok (.ifCond .lt 14, 3) := by decide +kernel
theorem dX8_spoil_4 : decode cX8_spoil 4 = .ok (.iload_n 1, 1) := by decide +kernel
theorem dX8_spoil_5 : decode cX8_spoil 5 = .ok (.aload_n 0, 1) := by decide +kernel
theorem dX8_spoil_6 : decode cX8_spoil 6 = .ok (.getfield 51, 3) := by decide +kernel
theorem dX8_spoil_9 : decode cX8_spoil 9 = .ok (.getfield 264, 3) := by decide +kernel
theorem dX8_spoil_12 : decode cX8_spoil 12 = .ok (.if_icmp .lt 6, 3) := by decide +kernel
theorem dX8_spoil_15 : decode cX8_spoil 15 = .ok (.bipush (-2), 2) := by decide +kernel
theorem dX8_spoil_17 : decode cX8_spoil 17 = .ok (.ireturn, 1) := by decide +kernel
theorem dX8_spoil_18 : decode cX8_spoil 18 = .ok (.aload_n 0, 1) := by decide +kernel
theorem dX8_spoil_19 : decode cX8_spoil 19 = .ok (.getfield 51, 3) := by decide +kernel
theorem dX8_spoil_22 : decode cX8_spoil 22 = .ok (.getfield 276, 3) := by decide +kernel
theorem dX8_spoil_25 : decode cX8_spoil 25 = .ok (.iload_n 1, 1) := by decide +kernel
theorem dX8_spoil_26 : decode cX8_spoil 26 = .ok (.dup2, 1) := by decide +kernel
theorem dX8_spoil_27 : decode cX8_spoil 27 = .ok (.iaload, 1) := by decide +kernel
theorem dX8_spoil_28 : decode cX8_spoil 28 = .ok (.iload_n 2, 1) := by decide +kernel
theorem dX8_spoil_29 : decode cX8_spoil 29 = .ok (.sipush 255, 3) := by decide +kernel
theorem dX8_spoil_32 : decode cX8_spoil 32 = .ok (.iand, 1) := by decide +kernel
theorem dX8_spoil_33 : decode cX8_spoil 33 = .ok (.ixor, 1) := by decide +kernel
theorem dX8_spoil_34 : decode cX8_spoil 34 = .ok (.iastore, 1) := by decide +kernel
theorem dX8_spoil_35 : decode cX8_spoil 35 = .ok (.aload_n 0, 1) := by decide +kernel
theorem dX8_spoil_36 : decode cX8_spoil 36 = .ok (.getfield 51, 3) := by decide +kernel
theorem dX8_spoil_39 : decode cX8_spoil 39 = .ok (.getfield 276, 3) := by decide +kernel
theorem dX8_spoil_42 : decode cX8_spoil 42 = .ok (.iload_n 1, 1) := by decide +kernel
theorem dX8_spoil_43 : decode cX8_spoil 43 = .ok (.iaload, 1) := by decide +kernel
theorem dX8_spoil_44 : decode cX8_spoil 44 = .ok (.ireturn, 1) := by decide +kernel
theorem dX8_wipe_0 : decode cX8_wipe 0 = .ok (.aload_n 0, 1) := by decide +kernel
theorem dX8_wipe_1 : decode cX8_wipe 1 = .ok (.getfield 51, 3) := by decide +kernel
theorem dX8_wipe_4 : decode cX8_wipe 4 = .ok (.getfield 264, 3) := by decide +kernel
theorem dX8_wipe_7 : decode cX8_wipe 7 = .ok (.istore_n 1, 1) := by decide +kernel
theorem dX8_wipe_8 : decode cX8_wipe 8 = .ok (.aload_n 0, 1) := by decide +kernel
theorem dX8_wipe_9 : decode cX8_wipe 9 = .ok (.getfield 51, 3) := by decide +kernel
theorem dX8_wipe_12 : decode cX8_wipe 12 = .ok (.iconst 0, 1) := by decide +kernel
theorem dX8_wipe_13 : decode cX8_wipe 13 = .ok (.putfield 264, 3) := by decide +kernel
theorem dX8_wipe_16 : decode cX8_wipe 16 = .ok (.iload_n 1, 1) := by decide +kernel
theorem dX8_wipe_17 : decode cX8_wipe 17 = .ok (.ireturn, 1) := by decide +kernel
theorem dX8_verify_0 : decode cX8_verify 0 = .ok (.aload_n 0, 1) := by decide +kernel
theorem dX8_verify_1 : decode cX8_verify 1 = .ok (.getfield 51, 3) := by decide +kernel
theorem dX8_verify_4 : decode cX8_verify 4 = .ok (.invokevirtual 279, 3) := by decide +kernel
theorem dX8_verify_7 : decode cX8_verify 7 = .ok (.ireturn, 1) := by decide +kernel
theorem dX8_undo_0 : decode cX8_undo 0 = .ok (.aload_n 0, 1) := by decide +kernel
theorem dX8_undo_1 : decode cX8_undo 1 = .ok (.getfield 58, 3) := by decide +kernel
theorem dX8_undo_4 : decode cX8_undo 4 = .ok (.invokevirtual 283, 3) := by decide +kernel
theorem dX8_undo_7 : decode cX8_undo 7 = .ok (.tableswitch 83 0 4 #[33, 43, 53, 63, 73], 33) := by decide +kernel
theorem dX8_undo_40 : decode cX8_undo 40 = .ok (.aload_n 0, 1) := by decide +kernel
theorem dX8_undo_41 : decode cX8_undo 41 = .ok (.getfield 10, 3) := by decide +kernel
theorem dX8_undo_44 : decode cX8_undo 44 = .ok (.invokevirtual 286, 3) := by decide +kernel
theorem dX8_undo_47 : decode cX8_undo 47 = .ok (.goto 46, 3) := by decide +kernel
theorem dX8_undo_50 : decode cX8_undo 50 = .ok (.aload_n 0, 1) := by decide +kernel
theorem dX8_undo_51 : decode cX8_undo 51 = .ok (.getfield 19, 3) := by decide +kernel
theorem dX8_undo_54 : decode cX8_undo 54 = .ok (.invokevirtual 289, 3) := by decide +kernel
theorem dX8_undo_57 : decode cX8_undo 57 = .ok (.goto 36, 3) := by decide +kernel
theorem dX8_undo_60 : decode cX8_undo 60 = .ok (.aload_n 0, 1) := by decide +kernel
theorem dX8_undo_61 : decode cX8_undo 61 = .ok (.getfield 28, 3) := by decide +kernel
theorem dX8_undo_64 : decode cX8_undo 64 = .ok (.invokevirtual 292, 3) := by decide +kernel
theorem dX8_undo_67 : decode cX8_undo 67 = .ok (.goto 26, 3) := by decide +kernel
theorem dX8_undo_70 : decode cX8_undo 70 = .ok (.aload_n 0, 1) := by decide +kernel
theorem dX8_undo_71 : decode cX8_undo 71 = .ok (.getfield 37, 3) := by decide +kernel
theorem dX8_undo_74 : decode cX8_undo 74 = .ok (.invokevirtual 293, 3) := by decide +kernel
theorem dX8_undo_77 : decode cX8_undo 77 = .ok (.goto 16, 3) := by decide +kernel
theorem dX8_undo_80 : decode cX8_undo 80 = .ok (.aload_n 0, 1) := by decide +kernel
theorem dX8_undo_81 : decode cX8_undo 81 = .ok (.getfield 37, 3) := by decide +kernel
theorem dX8_undo_84 : decode cX8_undo 84 = .ok (.invokevirtual 294, 3) := by decide +kernel
theorem dX8_undo_87 : decode cX8_undo 87 = .ok (.goto 6, 3) := by decide +kernel
theorem dX8_undo_90 : decode cX8_undo 90 = .ok (.bipush (-2), 2) := by decide +kernel
theorem dX8_undo_92 : decode cX8_undo 92 = .ok (.ireturn, 1) := by decide +kernel
theorem dX8_undo_93 : decode cX8_undo 93 = .ok (.aload_n 0, 1) := by decide +kernel
theorem dX8_undo_94 : decode cX8_undo 94 = .ok (.getfield 58, 3) := by decide +kernel
theorem dX8_undo_97 : decode cX8_undo 97 = .ok (.getfield 297, 3) := by decide +kernel
theorem dX8_undo_100 : decode cX8_undo 100 = .ok (.ireturn, 1) := by decide +kernel
theorem dX8_count_0 : decode cX8_count 0 = .ok (.iload_n 1, 1) := by decide +kernel
theorem dX8_count_1 : decode cX8_count 1 = .ok (.tableswitch 99 0 6 #[43, 51, 59, 67, 75, 83, 91], 43) := by decide +kernel
theorem dX8_count_44 : decode cX8_count 44 = .ok (.aload_n 0, 1) := by decide +kernel
theorem dX8_count_45 : decode cX8_count 45 = .ok (.getfield 10, 3) := by decide +kernel
theorem dX8_count_48 : decode cX8_count 48 = .ok (.getfield 140, 3) := by decide +kernel
theorem dX8_count_51 : decode cX8_count 51 = .ok (.ireturn, 1) := by decide +kernel
theorem dX8_count_52 : decode cX8_count 52 = .ok (.aload_n 0, 1) := by decide +kernel
theorem dX8_count_53 : decode cX8_count 53 = .ok (.getfield 19, 3) := by decide +kernel
theorem dX8_count_56 : decode cX8_count 56 = .ok (.getfield 159, 3) := by decide +kernel
theorem dX8_count_59 : decode cX8_count 59 = .ok (.ireturn, 1) := by decide +kernel
theorem dX8_count_60 : decode cX8_count 60 = .ok (.aload_n 0, 1) := by decide +kernel
theorem dX8_count_61 : decode cX8_count 61 = .ok (.getfield 28, 3) := by decide +kernel
theorem dX8_count_64 : decode cX8_count 64 = .ok (.getfield 170, 3) := by decide +kernel
theorem dX8_count_67 : decode cX8_count 67 = .ok (.ireturn, 1) := by decide +kernel
theorem dX8_count_68 : decode cX8_count 68 = .ok (.aload_n 0, 1) := by decide +kernel
theorem dX8_count_69 : decode cX8_count 69 = .ok (.getfield 37, 3) := by decide +kernel
theorem dX8_count_72 : decode cX8_count 72 = .ok (.getfield 212, 3) := by decide +kernel
theorem dX8_count_75 : decode cX8_count 75 = .ok (.ireturn, 1) := by decide +kernel
theorem dX8_count_76 : decode cX8_count 76 = .ok (.aload_n 0, 1) := by decide +kernel
theorem dX8_count_77 : decode cX8_count 77 = .ok (.getfield 37, 3) := by decide +kernel
theorem dX8_count_80 : decode cX8_count 80 = .ok (.getfield 217, 3) := by decide +kernel
theorem dX8_count_83 : decode cX8_count 83 = .ok (.ireturn, 1) := by decide +kernel
theorem dX8_count_84 : decode cX8_count 84 = .ok (.aload_n 0, 1) := by decide +kernel
theorem dX8_count_85 : decode cX8_count 85 = .ok (.getfield 58, 3) := by decide +kernel
theorem dX8_count_88 : decode cX8_count 88 = .ok (.getfield 297, 3) := by decide +kernel
theorem dX8_count_91 : decode cX8_count 91 = .ok (.ireturn, 1) := by decide +kernel
theorem dX8_count_92 : decode cX8_count 92 = .ok (.aload_n 0, 1) := by decide +kernel
theorem dX8_count_93 : decode cX8_count 93 = .ok (.getfield 51, 3) := by decide +kernel
theorem dX8_count_96 : decode cX8_count 96 = .ok (.getfield 264, 3) := by decide +kernel
theorem dX8_count_99 : decode cX8_count 99 = .ok (.ireturn, 1) := by decide +kernel
theorem dX8_count_100 : decode cX8_count 100 = .ok (.iconst (-1), 1) := by decide +kernel
theorem dX8_count_101 : decode cX8_count 101 = .ok (.ireturn, 1) := by decide +kernel
theorem dX8_isCalendar_0 : decode cX8_isCalendar 0 = .ok (.iload_n 0, 1) := by decide +kernel
theorem dX8_isCalendar_1 : decode cX8_isCalendar 1 = .ok (.ifCond .lt 13, 3) := by decide +kernel
theorem dX8_isCalendar_4 : decode cX8_isCalendar 4 = .ok (.iload_n 0, 1) := by decide +kernel
theorem dX8_isCalendar_5 : decode cX8_isCalendar 5 = .ok (.bipush 8, 2) := by decide +kernel
theorem dX8_isCalendar_7 : decode cX8_isCalendar 7 = .ok (.if_icmp .ge 7, 3) := by decide +kernel
theorem dX8_isCalendar_10 : decode cX8_isCalendar 10 = .ok (.iconst 1, 1) := by decide +kernel
theorem dX8_isCalendar_11 : decode cX8_isCalendar 11 = .ok (.goto 4, 3) := by decide +kernel
theorem dX8_isCalendar_14 : decode cX8_isCalendar 14 = .ok (.iconst 0, 1) := by decide +kernel
theorem dX8_isCalendar_15 : decode cX8_isCalendar 15 = .ok (.ireturn, 1) := by decide +kernel
theorem dX8_isDay_0 : decode cX8_isDay 0 = .ok (.iload_n 0, 1) := by decide +kernel
theorem dX8_isDay_1 : decode cX8_isDay 1 = .ok (.ifCond .lt 13, 3) := by decide +kernel
theorem dX8_isDay_4 : decode cX8_isDay 4 = .ok (.iload_n 0, 1) := by decide +kernel
theorem dX8_isDay_5 : decode cX8_isDay 5 = .ok (.ldc 139, 2) := by decide +kernel
theorem dX8_isDay_7 : decode cX8_isDay 7 = .ok (.if_icmp .gt 7, 3) := by decide +kernel
theorem dX8_isDay_10 : decode cX8_isDay 10 = .ok (.iconst 1, 1) := by decide +kernel
theorem dX8_isDay_11 : decode cX8_isDay 11 = .ok (.goto 4, 3) := by decide +kernel
theorem dX8_isDay_14 : decode cX8_isDay 14 = .ok (.iconst 0, 1) := by decide +kernel
theorem dX8_isDay_15 : decode cX8_isDay 15 = .ok (.ireturn, 1) := by decide +kernel
theorem dX8_dayOrOutside_0 : decode cX8_dayOrOutside 0 = .ok (.iload_n 0, 1) := by decide +kernel
theorem dX8_dayOrOutside_1 : decode cX8_dayOrOutside 1 = .ok (.invokestatic 81, 3) := by decide +kernel
theorem dX8_dayOrOutside_4 : decode cX8_dayOrOutside 4 = .ok (.ifCond .eq 7, 3) := by decide +kernel
theorem dX8_dayOrOutside_7 : decode cX8_dayOrOutside 7 = .ok (.iload_n 0, 1) := by decide +kernel
theorem dX8_dayOrOutside_8 : decode cX8_dayOrOutside 8 = .ok (.goto 5, 3) := by decide +kernel
theorem dX8_dayOrOutside_11 : decode cX8_dayOrOutside 11 = .ok (.bipush (-3), 2) := by decide +kernel
theorem dX8_dayOrOutside_13 : decode cX8_dayOrOutside 13 = .ok (.ireturn, 1) := by decide +kernel
theorem dX8_wholeYears_0 : decode cX8_wholeYears 0 = .ok (.aload_n 0, 1) := by decide +kernel
theorem dX8_wholeYears_1 : decode cX8_wholeYears 1 = .ok (.getfield 10, 3) := by decide +kernel
theorem dX8_wholeYears_4 : decode cX8_wholeYears 4 = .ok (.iload_n 1, 1) := by decide +kernel
theorem dX8_wholeYears_5 : decode cX8_wholeYears 5 = .ok (.iload_n 2, 1) := by decide +kernel
theorem dX8_wholeYears_6 : decode cX8_wholeYears 6 = .ok (.invokevirtual 88, 3) := by decide +kernel
theorem dX8_wholeYears_9 : decode cX8_wholeYears 9 = .ok (.istore 4, 2) := by decide +kernel
theorem dX8_wholeYears_11 : decode cX8_wholeYears 11 = .ok (.aload_n 0, 1) := by decide +kernel
theorem dX8_wholeYears_12 : decode cX8_wholeYears 12 = .ok (.getfield 10, 3) := by decide +kernel
theorem dX8_wholeYears_15 : decode cX8_wholeYears 15 = .ok (.iload_n 1, 1) := by decide +kernel
theorem dX8_wholeYears_16 : decode cX8_wholeYears 16 = .ok (.invokevirtual 300, 3) := by decide +kernel
theorem dX8_wholeYears_19 : decode cX8_wholeYears 19 = .ok (.istore 5, 2) := by decide +kernel
theorem dX8_wholeYears_21 : decode cX8_wholeYears 21 = .ok (.iload 4, 2) := by decide +kernel
theorem dX8_wholeYears_23 : decode cX8_wholeYears 23 = .ok (.aload_n 0, 1) := by decide +kernel
theorem dX8_wholeYears_24 : decode cX8_wholeYears 24 = .ok (.getfield 10, 3) := by decide +kernel
theorem dX8_wholeYears_27 : decode cX8_wholeYears 27 = .ok (.iload_n 1, 1) := by decide +kernel
theorem dX8_wholeYears_28 : decode cX8_wholeYears 28 = .ok (.iload_n 3, 1) := by decide +kernel
theorem dX8_wholeYears_29 : decode cX8_wholeYears 29 = .ok (.invokevirtual 88, 3) := by decide +kernel
theorem dX8_wholeYears_32 : decode cX8_wholeYears 32 = .ok (.iconst 1, 1) := by decide +kernel
theorem dX8_wholeYears_33 : decode cX8_wholeYears 33 = .ok (.isub, 1) := by decide +kernel
theorem dX8_wholeYears_34 : decode cX8_wholeYears 34 = .ok (.invokestatic 241, 3) := by decide +kernel
theorem dX8_wholeYears_37 : decode cX8_wholeYears 37 = .ok (.istore 6, 2) := by decide +kernel
theorem dX8_wholeYears_39 : decode cX8_wholeYears 39 = .ok (.iload 6, 2) := by decide +kernel
theorem dX8_wholeYears_41 : decode cX8_wholeYears 41 = .ok (.iload 5, 2) := by decide +kernel
theorem dX8_wholeYears_43 : decode cX8_wholeYears 43 = .ok (.if_icmp .ge 26, 3) := by decide +kernel
theorem dX8_wholeYears_46 : decode cX8_wholeYears 46 = .ok (.aload_n 0, 1) := by decide +kernel
theorem dX8_wholeYears_47 : decode cX8_wholeYears 47 = .ok (.getfield 10, 3) := by decide +kernel
theorem dX8_wholeYears_50 : decode cX8_wholeYears 50 = .ok (.iload_n 1, 1) := by decide +kernel
theorem dX8_wholeYears_51 : decode cX8_wholeYears 51 = .ok (.iload_n 2, 1) := by decide +kernel
theorem dX8_wholeYears_52 : decode cX8_wholeYears 52 = .ok (.iload 6, 2) := by decide +kernel
theorem dX8_wholeYears_54 : decode cX8_wholeYears 54 = .ok (.iconst 1, 1) := by decide +kernel
theorem dX8_wholeYears_55 : decode cX8_wholeYears 55 = .ok (.iadd, 1) := by decide +kernel
theorem dX8_wholeYears_56 : decode cX8_wholeYears 56 = .ok (.invokevirtual 121, 3) := by decide +kernel
theorem dX8_wholeYears_59 : decode cX8_wholeYears 59 = .ok (.iload_n 3, 1) := by decide +kernel
theorem dX8_wholeYears_60 : decode cX8_wholeYears 60 = .ok (.if_icmp .gt 9, 3) := by decide +kernel
theorem dX8_wholeYears_63 : decode cX8_wholeYears 63 = .ok (.iinc 6 1, 3) := by decide +kernel
theorem dX8_wholeYears_66 : decode cX8_wholeYears 66 = .ok (.goto (-27), 3) := by decide +kernel
theorem dX8_wholeYears_69 : decode cX8_wholeYears 69 = .ok (.iload 6, 2) := by decide +kernel
theorem dX8_wholeYears_71 : decode cX8_wholeYears 71 = .ok (.iload 4, 2) := by decide +kernel
theorem dX8_wholeYears_73 : decode cX8_wholeYears 73 = .ok (.isub, 1) := by decide +kernel
theorem dX8_wholeYears_74 : decode cX8_wholeYears 74 = .ok (.ireturn, 1) := by decide +kernel
theorem dX8_wholeMonths_0 : decode cX8_wholeMonths 0 = .ok (.aload_n 0, 1) := by decide +kernel
theorem dX8_wholeMonths_1 : decode cX8_wholeMonths 1 = .ok (.getfield 10, 3) := by decide +kernel
theorem dX8_wholeMonths_4 : decode cX8_wholeMonths 4 = .ok (.iload_n 1, 1) := by decide +kernel
theorem dX8_wholeMonths_5 : decode cX8_wholeMonths 5 = .ok (.iload_n 2, 1) := by decide +kernel
theorem dX8_wholeMonths_6 : decode cX8_wholeMonths 6 = .ok (.invokevirtual 95, 3) := by decide +kernel
theorem dX8_wholeMonths_9 : decode cX8_wholeMonths 9 = .ok (.istore 4, 2) := by decide +kernel
theorem dX8_wholeMonths_11 : decode cX8_wholeMonths 11 = .ok (.aload_n 0, 1) := by decide +kernel
theorem dX8_wholeMonths_12 : decode cX8_wholeMonths 12 = .ok (.getfield 10, 3) := by decide +kernel
theorem dX8_wholeMonths_15 : decode cX8_wholeMonths 15 = .ok (.iload_n 1, 1) := by decide +kernel
theorem dX8_wholeMonths_16 : decode cX8_wholeMonths 16 = .ok (.iload_n 2, 1) := by decide +kernel
theorem dX8_wholeMonths_17 : decode cX8_wholeMonths 17 = .ok (.invokevirtual 112, 3) := by decide +kernel
theorem dX8_wholeMonths_20 : decode cX8_wholeMonths 20 = .ok (.istore 5, 2) := by decide +kernel
theorem dX8_wholeMonths_22 : decode cX8_wholeMonths 22 = .ok (.aload_n 0, 1) := by decide +kernel
theorem dX8_wholeMonths_23 : decode cX8_wholeMonths 23 = .ok (.getfield 10, 3) := by decide +kernel
theorem dX8_wholeMonths_26 : decode cX8_wholeMonths 26 = .ok (.iload_n 1, 1) := by decide +kernel
theorem dX8_wholeMonths_27 : decode cX8_wholeMonths 27 = .ok (.invokevirtual 115, 3) := by decide +kernel
theorem dX8_wholeMonths_30 : decode cX8_wholeMonths 30 = .ok (.istore 6, 2) := by decide +kernel
theorem dX8_wholeMonths_32 : decode cX8_wholeMonths 32 = .ok (.iload 5, 2) := by decide +kernel
theorem dX8_wholeMonths_34 : decode cX8_wholeMonths 34 = .ok (.istore 7, 2) := by decide +kernel
theorem dX8_wholeMonths_36 : decode cX8_wholeMonths 36 = .ok (.iload 7, 2) := by decide +kernel
theorem dX8_wholeMonths_38 : decode cX8_wholeMonths 38 = .ok (.iconst 1, 1) := by decide +kernel
theorem dX8_wholeMonths_39 : decode cX8_wholeMonths 39 = .ok (.iadd, 1) := by decide +kernel
theorem dX8_wholeMonths_40 : decode cX8_wholeMonths 40 = .ok (.iload 6, 2) := by decide +kernel
theorem dX8_wholeMonths_42 : decode cX8_wholeMonths 42 = .ok (.if_icmp .ge 27, 3) := by decide +kernel
theorem dX8_wholeMonths_45 : decode cX8_wholeMonths 45 = .ok (.aload_n 0, 1) := by decide +kernel
theorem dX8_wholeMonths_46 : decode cX8_wholeMonths 46 = .ok (.getfield 10, 3) := by decide +kernel
theorem dX8_wholeMonths_49 : decode cX8_wholeMonths 49 = .ok (.iload_n 1, 1) := by decide +kernel
theorem dX8_wholeMonths_50 : decode cX8_wholeMonths 50 = .ok (.iload 7, 2) := by decide +kernel
theorem dX8_wholeMonths_52 : decode cX8_wholeMonths 52 = .ok (.iconst 1, 1) := by decide +kernel
theorem dX8_wholeMonths_53 : decode cX8_wholeMonths 53 = .ok (.iadd, 1) := by decide +kernel
theorem dX8_wholeMonths_54 : decode cX8_wholeMonths 54 = .ok (.iload 4, 2) := by decide +kernel
theorem dX8_wholeMonths_56 : decode cX8_wholeMonths 56 = .ok (.invokevirtual 118, 3) := by decide +kernel
theorem dX8_wholeMonths_59 : decode cX8_wholeMonths 59 = .ok (.iload_n 3, 1) := by decide +kernel
theorem dX8_wholeMonths_60 : decode cX8_wholeMonths 60 = .ok (.if_icmp .gt 9, 3) := by decide +kernel
theorem dX8_wholeMonths_63 : decode cX8_wholeMonths 63 = .ok (.iinc 7 1, 3) := by decide +kernel
theorem dX8_wholeMonths_66 : decode cX8_wholeMonths 66 = .ok (.goto (-30), 3) := by decide +kernel
theorem dX8_wholeMonths_69 : decode cX8_wholeMonths 69 = .ok (.iload 7, 2) := by decide +kernel
theorem dX8_wholeMonths_71 : decode cX8_wholeMonths 71 = .ok (.iload 5, 2) := by decide +kernel
theorem dX8_wholeMonths_73 : decode cX8_wholeMonths 73 = .ok (.isub, 1) := by decide +kernel
theorem dX8_wholeMonths_74 : decode cX8_wholeMonths 74 = .ok (.ireturn, 1) := by decide +kernel
theorem dX8_writeDays_0 : decode cX8_writeDays 0 = .ok (.iload_n 2, 1) := by decide +kernel
theorem dX8_writeDays_1 : decode cX8_writeDays 1 = .ok (.istore 4, 2) := by decide +kernel
theorem dX8_writeDays_3 : decode cX8_writeDays 3 = .ok (.iload 4, 2) := by decide +kernel
theorem dX8_writeDays_5 : decode cX8_writeDays 5 = .ok (.iload_n 3, 1) := by decide +kernel
theorem dX8_writeDays_6 : decode cX8_writeDays 6 = .ok (.if_icmp .gt 128, 3) := by decide +kernel
theorem dX8_writeDays_9 : decode cX8_writeDays 9 = .ok (.iload_n 1, 1) := by decide +kernel
theorem dX8_writeDays_10 : decode cX8_writeDays 10 = .ok (.iload 4, 2) := by decide +kernel
theorem dX8_writeDays_12 : decode cX8_writeDays 12 = .ok (.invokestatic 247, 3) := by decide +kernel
theorem dX8_writeDays_15 : decode cX8_writeDays 15 = .ok (.istore 5, 2) := by decide +kernel
theorem dX8_writeDays_17 : decode cX8_writeDays 17 = .ok (.iload 4, 2) := by decide +kernel
theorem dX8_writeDays_19 : decode cX8_writeDays 19 = .ok (.bipush 7, 2) := by decide +kernel
theorem dX8_writeDays_21 : decode cX8_writeDays 21 = .ok (.irem, 1) := by decide +kernel
theorem dX8_writeDays_22 : decode cX8_writeDays 22 = .ok (.istore 6, 2) := by decide +kernel
theorem dX8_writeDays_24 : decode cX8_writeDays 24 = .ok (.aload_n 0, 1) := by decide +kernel
theorem dX8_writeDays_25 : decode cX8_writeDays 25 = .ok (.getfield 44, 3) := by decide +kernel
theorem dX8_writeDays_28 : decode cX8_writeDays 28 = .ok (.iload 5, 2) := by decide +kernel
theorem dX8_writeDays_30 : decode cX8_writeDays 30 = .ok (.iconst 3, 1) := by decide +kernel
theorem dX8_writeDays_31 : decode cX8_writeDays 31 = .ok (.iload 6, 2) := by decide +kernel
theorem dX8_writeDays_33 : decode cX8_writeDays 33 = .ok (.imul, 1) := by decide +kernel
theorem dX8_writeDays_34 : decode cX8_writeDays 34 = .ok (.iload 4, 2) := by decide +kernel
theorem dX8_writeDays_36 : decode cX8_writeDays 36 = .ok (.iload_n 1, 1) := by decide +kernel
theorem dX8_writeDays_37 : decode cX8_writeDays 37 = .ok (.isub, 1) := by decide +kernel
theorem dX8_writeDays_38 : decode cX8_writeDays 38 = .ok (.iconst 1, 1) := by decide +kernel
theorem dX8_writeDays_39 : decode cX8_writeDays 39 = .ok (.iadd, 1) := by decide +kernel
theorem dX8_writeDays_40 : decode cX8_writeDays 40 = .ok (.invokevirtual 303, 3) := by decide +kernel
theorem dX8_writeDays_43 : decode cX8_writeDays 43 = .ok (.aload_n 0, 1) := by decide +kernel
theorem dX8_writeDays_44 : decode cX8_writeDays 44 = .ok (.getfield 28, 3) := by decide +kernel
theorem dX8_writeDays_47 : decode cX8_writeDays 47 = .ok (.iload 4, 2) := by decide +kernel
theorem dX8_writeDays_49 : decode cX8_writeDays 49 = .ok (.invokevirtual 270, 3) := by decide +kernel
theorem dX8_writeDays_52 : decode cX8_writeDays 52 = .ok (.ifCond .le 23, 3) := by decide +kernel
theorem dX8_writeDays_55 : decode cX8_writeDays 55 = .ok (.aload_n 0, 1) := by decide +kernel
theorem dX8_writeDays_56 : decode cX8_writeDays 56 = .ok (.getfield 44, 3) := by decide +kernel
theorem dX8_writeDays_59 : decode cX8_writeDays 59 = .ok (.iload 5, 2) := by decide +kernel
theorem dX8_writeDays_61 : decode cX8_writeDays 61 = .ok (.iconst 3, 1) := by decide +kernel
theorem dX8_writeDays_62 : decode cX8_writeDays 62 = .ok (.iload 6, 2) := by decide +kernel
theorem dX8_writeDays_64 : decode cX8_writeDays 64 = .ok (.imul, 1) := by decide +kernel
theorem dX8_writeDays_65 : decode cX8_writeDays 65 = .ok (.iconst 2, 1) := by decide +kernel
theorem dX8_writeDays_66 : decode cX8_writeDays 66 = .ok (.iadd, 1) := by decide +kernel
theorem dX8_writeDays_67 : decode cX8_writeDays 67 = .ok (.bipush 42, 2) := by decide +kernel
theorem dX8_writeDays_69 : decode cX8_writeDays 69 = .ok (.invokevirtual 306, 3) := by decide +kernel
theorem dX8_writeDays_72 : decode cX8_writeDays 72 = .ok (.goto 32, 3) := by decide +kernel
theorem dX8_writeDays_75 : decode cX8_writeDays 75 = .ok (.aload_n 0, 1) := by decide +kernel
theorem dX8_writeDays_76 : decode cX8_writeDays 76 = .ok (.getfield 37, 3) := by decide +kernel
theorem dX8_writeDays_79 : decode cX8_writeDays 79 = .ok (.iload 4, 2) := by decide +kernel
theorem dX8_writeDays_81 : decode cX8_writeDays 81 = .ok (.invokevirtual 231, 3) := by decide +kernel
theorem dX8_writeDays_84 : decode cX8_writeDays 84 = .ok (.ifCond .eq 20, 3) := by decide +kernel
theorem dX8_writeDays_87 : decode cX8_writeDays 87 = .ok (.aload_n 0, 1) := by decide +kernel
theorem dX8_writeDays_88 : decode cX8_writeDays 88 = .ok (.getfield 44, 3) := by decide +kernel
theorem dX8_writeDays_91 : decode cX8_writeDays 91 = .ok (.iload 5, 2) := by decide +kernel
theorem dX8_writeDays_93 : decode cX8_writeDays 93 = .ok (.iconst 3, 1) := by decide +kernel
theorem dX8_writeDays_94 : decode cX8_writeDays 94 = .ok (.iload 6, 2) := by decide +kernel
theorem dX8_writeDays_96 : decode cX8_writeDays 96 = .ok (.imul, 1) := by decide +kernel
theorem dX8_writeDays_97 : decode cX8_writeDays 97 = .ok (.iconst 2, 1) := by decide +kernel
theorem dX8_writeDays_98 : decode cX8_writeDays 98 = .ok (.iadd, 1) := by decide +kernel
theorem dX8_writeDays_99 : decode cX8_writeDays 99 = .ok (.bipush 46, 2) := by decide +kernel
theorem dX8_writeDays_101 : decode cX8_writeDays 101 = .ok (.invokevirtual 306, 3) := by decide +kernel
theorem dX8_writeDays_104 : decode cX8_writeDays 104 = .ok (.iload 4, 2) := by decide +kernel
theorem dX8_writeDays_106 : decode cX8_writeDays 106 = .ok (.invokestatic 309, 3) := by decide +kernel
theorem dX8_writeDays_109 : decode cX8_writeDays 109 = .ok (.ifCond .eq 19, 3) := by decide +kernel
theorem dX8_writeDays_112 : decode cX8_writeDays 112 = .ok (.aload_n 0, 1) := by decide +kernel
theorem dX8_writeDays_113 : decode cX8_writeDays 113 = .ok (.getfield 44, 3) := by decide +kernel
theorem dX8_writeDays_116 : decode cX8_writeDays 116 = .ok (.iload 5, 2) := by decide +kernel
theorem dX8_writeDays_118 : decode cX8_writeDays 118 = .ok (.bipush 23, 2) := by decide +kernel
theorem dX8_writeDays_120 : decode cX8_writeDays 120 = .ok (.iload 6, 2) := by decide +kernel
theorem dX8_writeDays_122 : decode cX8_writeDays 122 = .ok (.iadd, 1) := by decide +kernel
theorem dX8_writeDays_123 : decode cX8_writeDays 123 = .ok (.bipush 111, 2) := by decide +kernel
theorem dX8_writeDays_125 : decode cX8_writeDays 125 = .ok (.invokevirtual 306, 3) := by decide +kernel
theorem dX8_writeDays_128 : decode cX8_writeDays 128 = .ok (.iinc 4 1, 3) := by decide +kernel
theorem dX8_writeDays_131 : decode cX8_writeDays 131 = .ok (.goto (-128), 3) := by decide +kernel
theorem dX8_writeDays_134 : decode cX8_writeDays 134 = .ok (.return_, 1) := by decide +kernel
theorem dX8_writeFeasts_0 : decode cX8_writeFeasts 0 = .ok (.iload 4, 2) := by decide +kernel
theorem dX8_writeFeasts_2 : decode cX8_writeFeasts 2 = .ok (.istore 5, 2) := by decide +kernel
theorem dX8_writeFeasts_4 : decode cX8_writeFeasts 4 = .ok (.iload_n 2, 1) := by decide +kernel
theorem dX8_writeFeasts_5 : decode cX8_writeFeasts 5 = .ok (.istore 6, 2) := by decide +kernel
theorem dX8_writeFeasts_7 : decode cX8_writeFeasts 7 = .ok (.iload 6, 2) := by decide +kernel
theorem dX8_writeFeasts_9 : decode cX8_writeFeasts 9 = .ok (.iload_n 3, 1) := by decide +kernel
theorem dX8_writeFeasts_10 : decode cX8_writeFeasts 10 = .ok (.if_icmp .gt 128, 3) := by decide +kernel
theorem dX8_writeFeasts_13 : decode cX8_writeFeasts 13 = .ok (.aload_n 0, 1) := by decide +kernel
theorem dX8_writeFeasts_14 : decode cX8_writeFeasts 14 = .ok (.getfield 28, 3) := by decide +kernel
theorem dX8_writeFeasts_17 : decode cX8_writeFeasts 17 = .ok (.iload 6, 2) := by decide +kernel
theorem dX8_writeFeasts_19 : decode cX8_writeFeasts 19 = .ok (.invokevirtual 270, 3) := by decide +kernel
theorem dX8_writeFeasts_22 : decode cX8_writeFeasts 22 = .ok (.ifCond .ne 7, 3) := by decide +kernel
theorem dX8_writeFeasts_25 : decode cX8_writeFeasts 25 = .ok (.iconst 0, 1) := by decide +kernel
theorem dX8_writeFeasts_26 : decode cX8_writeFeasts 26 = .ok (.goto 10, 3) := by decide +kernel
theorem dX8_writeFeasts_29 : decode cX8_writeFeasts 29 = .ok (.aload_n 0, 1) := by decide +kernel
theorem dX8_writeFeasts_30 : decode cX8_writeFeasts 30 = .ok (.getfield 28, 3) := by decide +kernel
theorem dX8_writeFeasts_33 : decode cX8_writeFeasts 33 = .ok (.getfield 170, 3) := by decide +kernel
theorem dX8_writeFeasts_36 : decode cX8_writeFeasts 36 = .ok (.istore 7, 2) := by decide +kernel
theorem dX8_writeFeasts_38 : decode cX8_writeFeasts 38 = .ok (.iconst 0, 1) := by decide +kernel
theorem dX8_writeFeasts_39 : decode cX8_writeFeasts 39 = .ok (.istore 8, 2) := by decide +kernel
theorem dX8_writeFeasts_41 : decode cX8_writeFeasts 41 = .ok (.iload 8, 2) := by decide +kernel
theorem dX8_writeFeasts_43 : decode cX8_writeFeasts 43 = .ok (.iload 7, 2) := by decide +kernel
theorem dX8_writeFeasts_45 : decode cX8_writeFeasts 45 = .ok (.if_icmp .ge 87, 3) := by decide +kernel
theorem dX8_writeFeasts_48 : decode cX8_writeFeasts 48 = .ok (.aload_n 0, 1) := by decide +kernel
theorem dX8_writeFeasts_49 : decode cX8_writeFeasts 49 = .ok (.getfield 28, 3) := by decide +kernel
theorem dX8_writeFeasts_52 : decode cX8_writeFeasts 52 = .ok (.iload 8, 2) := by decide +kernel
theorem dX8_writeFeasts_54 : decode cX8_writeFeasts 54 = .ok (.invokevirtual 189, 3) := by decide +kernel
theorem dX8_writeFeasts_57 : decode cX8_writeFeasts 57 = .ok (.istore 9, 2) := by decide +kernel
theorem dX8_writeFeasts_59 : decode cX8_writeFeasts 59 = .ok (.aload_n 0, 1) := by decide +kernel
theorem dX8_writeFeasts_60 : decode cX8_writeFeasts 60 = .ok (.getfield 28, 3) := by decide +kernel
theorem dX8_writeFeasts_63 : decode cX8_writeFeasts 63 = .ok (.iload 9, 2) := by decide +kernel
theorem dX8_writeFeasts_65 : decode cX8_writeFeasts 65 = .ok (.invokevirtual 180, 3) := by decide +kernel
theorem dX8_writeFeasts_68 : decode cX8_writeFeasts 68 = .ok (.iload 6, 2) := by decide +kernel
theorem dX8_writeFeasts_70 : decode cX8_writeFeasts 70 = .ok (.if_icmp .ne 56, 3) := by decide +kernel
theorem dX8_writeFeasts_73 : decode cX8_writeFeasts 73 = .ok (.aload_n 0, 1) := by decide +kernel
theorem dX8_writeFeasts_74 : decode cX8_writeFeasts 74 = .ok (.getfield 44, 3) := by decide +kernel
theorem dX8_writeFeasts_77 : decode cX8_writeFeasts 77 = .ok (.iload 5, 2) := by decide +kernel
theorem dX8_writeFeasts_79 : decode cX8_writeFeasts 79 = .ok (.iconst 0, 1) := by decide +kernel
theorem dX8_writeFeasts_80 : decode cX8_writeFeasts 80 = .ok (.iload 6, 2) := by decide +kernel
theorem dX8_writeFeasts_82 : decode cX8_writeFeasts 82 = .ok (.iload_n 1, 1) := by decide +kernel
theorem dX8_writeFeasts_83 : decode cX8_writeFeasts 83 = .ok (.isub, 1) := by decide +kernel
theorem dX8_writeFeasts_84 : decode cX8_writeFeasts 84 = .ok (.iconst 1, 1) := by decide +kernel
theorem dX8_writeFeasts_85 : decode cX8_writeFeasts 85 = .ok (.iadd, 1) := by decide +kernel
theorem dX8_writeFeasts_86 : decode cX8_writeFeasts 86 = .ok (.invokevirtual 303, 3) := by decide +kernel
theorem dX8_writeFeasts_89 : decode cX8_writeFeasts 89 = .ok (.aload_n 0, 1) := by decide +kernel
theorem dX8_writeFeasts_90 : decode cX8_writeFeasts 90 = .ok (.getfield 44, 3) := by decide +kernel
theorem dX8_writeFeasts_93 : decode cX8_writeFeasts 93 = .ok (.iload 5, 2) := by decide +kernel
theorem dX8_writeFeasts_95 : decode cX8_writeFeasts 95 = .ok (.iconst 3, 1) := by decide +kernel
theorem dX8_writeFeasts_96 : decode cX8_writeFeasts 96 = .ok (.iload 9, 2) := by decide +kernel
theorem dX8_writeFeasts_98 : decode cX8_writeFeasts 98 = .ok (.invokevirtual 312, 3) := by decide +kernel
theorem dX8_writeFeasts_101 : decode cX8_writeFeasts 101 = .ok (.pop, 1) := by decide +kernel
theorem dX8_writeFeasts_102 : decode cX8_writeFeasts 102 = .ok (.aload_n 0, 1) := by decide +kernel
theorem dX8_writeFeasts_103 : decode cX8_writeFeasts 103 = .ok (.getfield 44, 3) := by decide +kernel
theorem dX8_writeFeasts_106 : decode cX8_writeFeasts 106 = .ok (.iload 5, 2) := by decide +kernel
theorem dX8_writeFeasts_108 : decode cX8_writeFeasts 108 = .ok (.bipush 6, 2) := by decide +kernel
theorem dX8_writeFeasts_110 : decode cX8_writeFeasts 110 = .ok (.aload_n 0, 1) := by decide +kernel
theorem dX8_writeFeasts_111 : decode cX8_writeFeasts 111 = .ok (.getfield 28, 3) := by decide +kernel
theorem dX8_writeFeasts_114 : decode cX8_writeFeasts 114 = .ok (.iload 9, 2) := by decide +kernel
theorem dX8_writeFeasts_116 : decode cX8_writeFeasts 116 = .ok (.invokevirtual 315, 3) := by decide +kernel
theorem dX8_writeFeasts_119 : decode cX8_writeFeasts 119 = .ok (.invokevirtual 312, 3) := by decide +kernel
theorem dX8_writeFeasts_122 : decode cX8_writeFeasts 122 = .ok (.pop, 1) := by decide +kernel
theorem dX8_writeFeasts_123 : decode cX8_writeFeasts 123 = .ok (.iinc 5 1, 3) := by decide +kernel
theorem dX8_writeFeasts_126 : decode cX8_writeFeasts 126 = .ok (.iinc 8 1, 3) := by decide +kernel
theorem dX8_writeFeasts_129 : decode cX8_writeFeasts 129 = .ok (.goto (-88), 3) := by decide +kernel
theorem dX8_writeFeasts_132 : decode cX8_writeFeasts 132 = .ok (.iinc 6 1, 3) := by decide +kernel
theorem dX8_writeFeasts_135 : decode cX8_writeFeasts 135 = .ok (.goto (-128), 3) := by decide +kernel
theorem dX8_writeFeasts_138 : decode cX8_writeFeasts 138 = .ok (.iload 5, 2) := by decide +kernel
theorem dX8_writeFeasts_140 : decode cX8_writeFeasts 140 = .ok (.ireturn, 1) := by decide +kernel
