theorem dX9_init_0 : decode cX9_init 0 = .ok (.aload_n 0, 1) := by decide +kernel
theorem dX9_init_1 : decode cX9_init 1 = .ok (.invokespecial 1, 3) := by decide +kernel
theorem dX9_init_4 : decode cX9_init 4 = .ok (.aload_n 0, 1) := by decide +kernel
theorem dX9_init_5 : decode cX9_init 5 = .ok (.sipush 500, 3) := by decide +kernel
theorem dX9_init_8 : decode cX9_init 8 = .ok (.newarray .int, 2) := by decide +kernel
theorem dX9_init_10 : decode cX9_init 10 = .ok (.putfield 7, 3) := by decide +kernel
theorem dX9_init_13 : decode cX9_init 13 = .ok (.aload_n 0, 1) := by decide +kernel
theorem dX9_init_14 : decode cX9_init 14 = .ok (.sipush 500, 3) := by decide +kernel
theorem dX9_init_17 : decode cX9_init 17 = .ok (.newarray .int, 2) := by decide +kernel
theorem dX9_init_19 : decode cX9_init 19 = .ok (.putfield 13, 3) := by decide +kernel
theorem dX9_init_22 : decode cX9_init 22 = .ok (.aload_n 0, 1) := by decide +kernel
theorem dX9_init_23 : decode cX9_init 23 = .ok (.bipush 100, 2) := by decide +kernel
theorem dX9_init_25 : decode cX9_init 25 = .ok (.newarray .int, 2) := by decide +kernel
theorem dX9_init_27 : decode cX9_init 27 = .ok (.putfield 16, 3) := by decide +kernel
theorem dX9_init_30 : decode cX9_init 30 = .ok (.aload_n 0, 1) := by decide +kernel
theorem dX9_init_31 : decode cX9_init 31 = .ok (.sipush 300, 3) := by decide +kernel
theorem dX9_init_34 : decode cX9_init 34 = .ok (.newarray .int, 2) := by decide +kernel
theorem dX9_init_36 : decode cX9_init 36 = .ok (.putfield 19, 3) := by decide +kernel
theorem dX9_init_39 : decode cX9_init 39 = .ok (.aload_n 0, 1) := by decide +kernel
theorem dX9_init_40 : decode cX9_init 40 = .ok (.sipush 300, 3) := by decide +kernel
theorem dX9_init_43 : decode cX9_init 43 = .ok (.newarray .int, 2) := by decide +kernel
theorem dX9_init_45 : decode cX9_init 45 = .ok (.putfield 22, 3) := by decide +kernel
theorem dX9_init_48 : decode cX9_init 48 = .ok (.aload_n 0, 1) := by decide +kernel
theorem dX9_init_49 : decode cX9_init 49 = .ok (.sipush 300, 3) := by decide +kernel
theorem dX9_init_52 : decode cX9_init 52 = .ok (.newarray .long, 2) := by decide +kernel
theorem dX9_init_54 : decode cX9_init 54 = .ok (.putfield 25, 3) := by decide +kernel
theorem dX9_init_57 : decode cX9_init 57 = .ok (.aload_n 0, 1) := by decide +kernel
theorem dX9_init_58 : decode cX9_init 58 = .ok (.bipush 60, 2) := by decide +kernel
theorem dX9_init_60 : decode cX9_init 60 = .ok (.newarray .int, 2) := by decide +kernel
theorem dX9_init_62 : decode cX9_init 62 = .ok (.putfield 29, 3) := by decide +kernel
theorem dX9_init_65 : decode cX9_init 65 = .ok (.aload_n 0, 1) := by decide +kernel
theorem dX9_init_66 : decode cX9_init 66 = .ok (.bipush 60, 2) := by decide +kernel
theorem dX9_init_68 : decode cX9_init 68 = .ok (.newarray .int, 2) := by decide +kernel
theorem dX9_init_70 : decode cX9_init 70 = .ok (.putfield 32, 3) := by decide +kernel
theorem dX9_init_73 : decode cX9_init 73 = .ok (.aload_n 0, 1) := by decide +kernel
theorem dX9_init_74 : decode cX9_init 74 = .ok (.bipush 60, 2) := by decide +kernel
theorem dX9_init_76 : decode cX9_init 76 = .ok (.newarray .int, 2) := by decide +kernel
theorem dX9_init_78 : decode cX9_init 78 = .ok (.putfield 35, 3) := by decide +kernel
theorem dX9_init_81 : decode cX9_init 81 = .ok (.aload_n 0, 1) := by decide +kernel
theorem dX9_init_82 : decode cX9_init 82 = .ok (.bipush 60, 2) := by decide +kernel
theorem dX9_init_84 : decode cX9_init 84 = .ok (.newarray .int, 2) := by decide +kernel
theorem dX9_init_86 : decode cX9_init 86 = .ok (.putfield 38, 3) := by decide +kernel
theorem dX9_init_89 : decode cX9_init 89 = .ok (.aload_n 0, 1) := by decide +kernel
theorem dX9_init_90 : decode cX9_init 90 = .ok (.bipush 60, 2) := by decide +kernel
theorem dX9_init_92 : decode cX9_init 92 = .ok (.newarray .int, 2) := by decide +kernel
theorem dX9_init_94 : decode cX9_init 94 = .ok (.putfield 41, 3) := by decide +kernel
theorem dX9_init_97 : decode cX9_init 97 = .ok (.aload_n 0, 1) := by decide +kernel
theorem dX9_init_98 : decode cX9_init 98 = .ok (.iconst 4, 1) := by decide +kernel
theorem dX9_init_99 : decode cX9_init 99 = .ok (.newarray .int, 2) := by decide +kernel
theorem dX9_init_101 : decode cX9_init 101 = .ok (.putfield 44, 3) := by decide +kernel
theorem dX9_init_104 : decode cX9_init 104 = .ok (.aload_n 0, 1) := by decide +kernel
theorem dX9_init_105 : decode cX9_init 105 = .ok (.sipush 240, 3) := by decide +kernel
theorem dX9_init_108 : decode cX9_init 108 = .ok (.newarray .int, 2) := by decide +kernel
theorem dX9_init_110 : decode cX9_init 110 = .ok (.putfield 47, 3) := by decide +kernel
theorem dX9_init_113 : decode cX9_init 113 = .ok (.aload_n 0, 1) := by decide +kernel
theorem dX9_init_114 : decode cX9_init 114 = .ok (.sipush 240, 3) := by decide +kernel
theorem dX9_init_117 : decode cX9_init 117 = .ok (.newarray .int, 2) := by decide +kernel
theorem dX9_init_119 : decode cX9_init 119 = .ok (.putfield 50, 3) := by decide +kernel
theorem dX9_init_122 : decode cX9_init 122 = .ok (.aload_n 0, 1) := by decide +kernel
theorem dX9_init_123 : decode cX9_init 123 = .ok (.bipush 8, 2) := by decide +kernel
theorem dX9_init_125 : decode cX9_init 125 = .ok (.newarray .int, 2) := by decide +kernel
theorem dX9_init_127 : decode cX9_init 127 = .ok (.putfield 53, 3) := by decide +kernel
theorem dX9_init_130 : decode cX9_init 130 = .ok (.aload_n 0, 1) := by decide +kernel
theorem dX9_init_131 : decode cX9_init 131 = .ok (.bipush 8, 2) := by decide +kernel
theorem dX9_init_133 : decode cX9_init 133 = .ok (.newarray .boolean, 2) := by decide +kernel
theorem dX9_init_135 : decode cX9_init 135 = .ok (.putfield 56, 3) := by decide +kernel
theorem dX9_init_138 : decode cX9_init 138 = .ok (.aload_n 0, 1) := by decide +kernel
theorem dX9_init_139 : decode cX9_init 139 = .ok (.bipush 48, 2) := by decide +kernel
theorem dX9_init_141 : decode cX9_init 141 = .ok (.newarray .int, 2) := by decide +kernel
theorem dX9_init_143 : decode cX9_init 143 = .ok (.putfield 60, 3) := by decide +kernel
theorem dX9_init_146 : decode cX9_init 146 = .ok (.aload_n 0, 1) := by decide +kernel
theorem dX9_init_147 : decode cX9_init 147 = .ok (.bipush 48, 2) := by decide +kernel
theorem dX9_init_149 : decode cX9_init 149 = .ok (.newarray .int, 2) := by decide +kernel
theorem dX9_init_151 : decode cX9_init 151 = .ok (.putfield 63, 3) := by decide +kernel
theorem dX9_init_154 : decode cX9_init 154 = .ok (.aload_n 0, 1) := by decide +kernel
theorem dX9_init_155 : decode cX9_init 155 = .ok (.bipush 48, 2) := by decide +kernel
theorem dX9_init_157 : decode cX9_init 157 = .ok (.newarray .int, 2) := by decide +kernel
theorem dX9_init_159 : decode cX9_init 159 = .ok (.putfield 66, 3) := by decide +kernel
theorem dX9_init_162 : decode cX9_init 162 = .ok (.aload_n 0, 1) := by decide +kernel
theorem dX9_init_163 : decode cX9_init 163 = .ok (.bipush 48, 2) := by decide +kernel
theorem dX9_init_165 : decode cX9_init 165 = .ok (.newarray .int, 2) := by decide +kernel
theorem dX9_init_167 : decode cX9_init 167 = .ok (.putfield 69, 3) := by decide +kernel
theorem dX9_init_170 : decode cX9_init 170 = .ok (.aload_n 0, 1) := by decide +kernel
theorem dX9_init_171 : decode cX9_init 171 = .ok (.sipush 1120, 3) := by decide +kernel
theorem dX9_init_174 : decode cX9_init 174 = .ok (.newarray .byte, 2) := by decide +kernel
theorem dX9_init_176 : decode cX9_init 176 = .ok (.putfield 72, 3) := by decide +kernel
theorem dX9_init_179 : decode cX9_init 179 = .ok (.aload_n 0, 1) := by decide +kernel
theorem dX9_init_180 : decode cX9_init 180 = .ok (.sipush 1200, 3) := by decide +kernel
theorem dX9_init_183 : decode cX9_init 183 = .ok (.newarray .byte, 2) := by decide +kernel
theorem dX9_init_185 : decode cX9_init 185 = .ok (.putfield 76, 3) := by decide +kernel
theorem dX9_init_188 : decode cX9_init 188 = .ok (.return_, 1) := by decide +kernel
theorem dX9_in_0 : decode cX9_in 0 = .ok (.iload_n 0, 1) := by decide +kernel
theorem dX9_in_1 : decode cX9_in 1 = .ok (.iload_n 1, 1) := by decide +kernel
theorem dX9_in_2 : decode cX9_in 2 = .ok (.if_icmp .lt 12, 3) := by decide +kernel
theorem dX9_in_5 : decode cX9_in 5 = .ok (.iload_n 0, 1) := by decide +kernel
theorem dX9_in_6 : decode cX9_in 6 = .ok (.iload_n 2, 1) := by decide +kernel
theorem dX9_in_7 : decode cX9_in 7 = .ok (.if_icmp .gt 7, 3) := by decide +kernel
theorem dX9_in_10 : decode cX9_in 10 = .ok (.iconst 1, 1) := by decide +kernel
theorem dX9_in_11 : decode cX9_in 11 = .ok (.goto 4, 3) := by decide +kernel
theorem dX9_in_14 : decode cX9_in 14 = .ok (.iconst 0, 1) := by decide +kernel
theorem dX9_in_15 : decode cX9_in 15 = .ok (.ireturn, 1) := by decide +kernel
theorem dX9_isDay_0 : decode cX9_isDay 0 = .ok (.lload_n 0, 1) := by decide +kernel
theorem dX9_isDay_1 : decode cX9_isDay 1 = .ok (.lconst 0, 1) := by decide +kernel
theorem dX9_isDay_2 : decode cX9_isDay 2 = .ok (.lcmp, 1) := by decide +kernel
theorem dX9_isDay_3 : decode cX9_isDay 3 = .ok (.ifCond .lt 15, 3) := by decide +kernel
theorem dX9_isDay_6 : decode cX9_isDay 6 = .ok (.lload_n 0, 1) := by decide +kernel
theorem dX9_isDay_7 : decode cX9_isDay 7 = .ok (.ldc2_w 79, 3) := by decide +kernel
theorem dX9_isDay_10 : decode cX9_isDay 10 = .ok (.lcmp, 1) := by decide +kernel
theorem dX9_isDay_11 : decode cX9_isDay 11 = .ok (.ifCond .gt 7, 3) := by decide +kernel
theorem dX9_isDay_14 : decode cX9_isDay 14 = .ok (.iconst 1, 1) := by decide +kernel
theorem dX9_isDay_15 : decode cX9_isDay 15 = .ok (.goto 4, 3) := by decide +kernel
theorem dX9_isDay_18 : decode cX9_isDay 18 = .ok (.iconst 0, 1) := by decide +kernel
theorem dX9_isDay_19 : decode cX9_isDay 19 = .ok (.ireturn, 1) := by decide +kernel
theorem dX9_rest_0 : decode cX9_rest 0 = .ok (.iload_n 0, 1) := by decide +kernel
theorem dX9_rest_1 : decode cX9_rest 1 = .ok (.iload_n 1, 1) := by decide +kernel
theorem dX9_rest_2 : decode cX9_rest 2 = .ok (.irem, 1) := by decide +kernel
theorem dX9_rest_3 : decode cX9_rest 3 = .ok (.istore_n 2, 1) := by decide +kernel
theorem dX9_rest_4 : decode cX9_rest 4 = .ok (.iload_n 2, 1) := by decide +kernel
theorem dX9_rest_5 : decode cX9_rest 5 = .ok (.ifCond .ge 9, 3) := by decide +kernel
theorem dX9_rest_8 : decode cX9_rest 8 = .ok (.iload_n 2, 1) := by decide +kernel
theorem dX9_rest_9 : decode cX9_rest 9 = .ok (.iload_n 1, 1) := by decide +kernel
theorem dX9_rest_10 : decode cX9_rest 10 = .ok (.iadd, 1) := by decide +kernel
theorem dX9_rest_11 : decode cX9_rest 11 = .ok (.goto 4, 3) := by decide +kernel
theorem dX9_rest_14 : decode cX9_rest 14 = .ok (.iload_n 2, 1) := by decide +kernel
theorem dX9_rest_15 : decode cX9_rest 15 = .ok (.ireturn, 1) := by decide +kernel
theorem dX9_firstYear_0 : decode cX9_firstYear 0 = .ok (.iload_n 0, 1) := by decide +kernel
theorem dX9_firstYear_1 : decode cX9_firstYear 1 = .ok (.ifCond .eq 19, 3) := by decide +kernel
theorem dX9_firstYear_4 : decode cX9_firstYear 4 = .ok (.iload_n 0, 1) := by decide +kernel
theorem dX9_firstYear_5 : decode cX9_firstYear 5 = .ok (.iconst 1, 1) := by decide +kernel
theorem dX9_firstYear_6 : decode cX9_firstYear 6 = .ok (.if_icmp .eq 14, 3) := by decide +kernel
theorem dX9_firstYear_9 : decode cX9_firstYear 9 = .ok (.iload_n 0, 1) := by decide +kernel
theorem dX9_firstYear_10 : decode cX9_firstYear 10 = .ok (.iconst 5, 1) := by decide +kernel
theorem dX9_firstYear_11 : decode cX9_firstYear 11 = .ok (.if_icmp .eq 9, 3) := by decide +kernel
theorem dX9_firstYear_14 : decode cX9_firstYear 14 = .ok (.iload_n 0, 1) := by decide +kernel
theorem dX9_firstYear_15 : decode cX9_firstYear 15 = .ok (.bipush 6, 2) := by decide +kernel
theorem dX9_firstYear_17 : decode cX9_firstYear 17 = .ok (.if_icmp .ne 7, 3) := by decide +kernel
theorem dX9_firstYear_20 : decode cX9_firstYear 20 = .ok (.iconst 0, 1) := by decide +kernel
theorem dX9_firstYear_21 : decode cX9_firstYear 21 = .ok (.goto 4, 3) := by decide +kernel
theorem dX9_firstYear_24 : decode cX9_firstYear 24 = .ok (.iconst 1, 1) := by decide +kernel
theorem dX9_firstYear_25 : decode cX9_firstYear 25 = .ok (.ireturn, 1) := by decide +kernel
theorem dX9_isYear_0 : decode cX9_isYear 0 = .ok (.iload_n 2, 1) := by decide +kernel
theorem dX9_isYear_1 : decode cX9_isYear 1 = .ok (.iload_n 1, 1) := by decide +kernel
theorem dX9_isYear_2 : decode cX9_isYear 2 = .ok (.invokestatic 81, 3) := by decide +kernel
theorem dX9_isYear_5 : decode cX9_isYear 5 = .ok (.if_icmp .lt 34, 3) := by decide +kernel
theorem dX9_isYear_8 : decode cX9_isYear 8 = .ok (.iload_n 2, 1) := by decide +kernel
theorem dX9_isYear_9 : decode cX9_isYear 9 = .ok (.sipush 5000, 3) := by decide +kernel
theorem dX9_isYear_12 : decode cX9_isYear 12 = .ok (.if_icmp .gt 27, 3) := by decide +kernel
theorem dX9_isYear_15 : decode cX9_isYear 15 = .ok (.iload_n 1, 1) := by decide +kernel
theorem dX9_isYear_16 : decode cX9_isYear 16 = .ok (.bipush 7, 2) := by decide +kernel
theorem dX9_isYear_18 : decode cX9_isYear 18 = .ok (.if_icmp .ne 17, 3) := by decide +kernel
theorem dX9_isYear_21 : decode cX9_isYear 21 = .ok (.iload_n 2, 1) := by decide +kernel
theorem dX9_isYear_22 : decode cX9_isYear 22 = .ok (.aload_n 0, 1) := by decide +kernel
theorem dX9_isYear_23 : decode cX9_isYear 23 = .ok (.getfield 85, 3) := by decide +kernel
theorem dX9_isYear_26 : decode cX9_isYear 26 = .ok (.bipush 9, 2) := by decide +kernel
theorem dX9_isYear_28 : decode cX9_isYear 28 = .ok (.iadd, 1) := by decide +kernel
theorem dX9_isYear_29 : decode cX9_isYear 29 = .ok (.bipush 10, 2) := by decide +kernel
theorem dX9_isYear_31 : decode cX9_isYear 31 = .ok (.idiv, 1) := by decide +kernel
theorem dX9_isYear_32 : decode cX9_isYear 32 = .ok (.if_icmp .gt 7, 3) := by decide +kernel
theorem dX9_isYear_35 : decode cX9_isYear 35 = .ok (.iconst 1, 1) := by decide +kernel
theorem dX9_isYear_36 : decode cX9_isYear 36 = .ok (.goto 4, 3) := by decide +kernel
theorem dX9_isYear_39 : decode cX9_isYear 39 = .ok (.iconst 0, 1) := by decide +kernel
theorem dX9_isYear_40 : decode cX9_isYear 40 = .ok (.ireturn, 1) := by decide +kernel
theorem dX9_isLeap_0 : decode cX9_isLeap 0 = .ok (.iload_n 1, 1) := by decide +kernel
theorem dX9_isLeap_1 : decode cX9_isLeap 1 = .ok (.iconst 4, 1) := by decide +kernel
theorem dX9_isLeap_2 : decode cX9_isLeap 2 = .ok (.irem, 1) := by decide +kernel
theorem dX9_isLeap_3 : decode cX9_isLeap 3 = .ok (.ifCond .ne 27, 3) := by decide +kernel
theorem dX9_isLeap_6 : decode cX9_isLeap 6 = .ok (.iload_n 0, 1) := by decide +kernel
theorem dX9_isLeap_7 : decode cX9_isLeap 7 = .ok (.iconst 1, 1) := by decide +kernel
theorem dX9_isLeap_8 : decode cX9_isLeap 8 = .ok (.if_icmp .eq 18, 3) := by decide +kernel
theorem dX9_isLeap_11 : decode cX9_isLeap 11 = .ok (.iload_n 1, 1) := by decide +kernel
theorem dX9_isLeap_12 : decode cX9_isLeap 12 = .ok (.bipush 100, 2) := by decide +kernel
theorem dX9_isLeap_14 : decode cX9_isLeap 14 = .ok (.irem, 1) := by decide +kernel
theorem dX9_isLeap_15 : decode cX9_isLeap 15 = .ok (.ifCond .ne 11, 3) := by decide +kernel
theorem dX9_isLeap_18 : decode cX9_isLeap 18 = .ok (.iload_n 1, 1) := by decide +kernel
theorem dX9_isLeap_19 : decode cX9_isLeap 19 = .ok (.sipush 400, 3) := by decide +kernel
theorem dX9_isLeap_22 : decode cX9_isLeap 22 = .ok (.irem, 1) := by decide +kernel
theorem dX9_isLeap_23 : decode cX9_isLeap 23 = .ok (.ifCond .ne 7, 3) := by decide +kernel
theorem dX9_isLeap_26 : decode cX9_isLeap 26 = .ok (.iconst 1, 1) := by decide +kernel
theorem dX9_isLeap_27 : decode cX9_isLeap 27 = .ok (.goto 4, 3) := by decide +kernel
theorem dX9_isLeap_30 : decode cX9_isLeap 30 = .ok (.iconst 0, 1) := by decide +kernel
theorem dX9_isLeap_31 : decode cX9_isLeap 31 = .ok (.ireturn, 1) := by decide +kernel
theorem dX9_isMoonLeap_0 : decode cX9_isMoonLeap 0 = .ok (.iload_n 0, 1) := by decide +kernel
theorem dX9_isMoonLeap_1 : decode cX9_isMoonLeap 1 = .ok (.bipush 30, 2) := by decide +kernel
theorem dX9_isMoonLeap_3 : decode cX9_isMoonLeap 3 = .ok (.irem, 1) := by decide +kernel
theorem dX9_isMoonLeap_4 : decode cX9_isMoonLeap 4 = .ok (.istore_n 1, 1) := by decide +kernel
theorem dX9_isMoonLeap_5 : decode cX9_isMoonLeap 5 = .ok (.iload_n 1, 1) := by decide +kernel
theorem dX9_isMoonLeap_6 : decode cX9_isMoonLeap 6 = .ok (.iconst 2, 1) := by decide +kernel
theorem dX9_isMoonLeap_7 : decode cX9_isMoonLeap 7 = .ok (.if_icmp .eq 62, 3) := by decide +kernel
theorem dX9_isMoonLeap_10 : decode cX9_isMoonLeap 10 = .ok (.iload_n 1, 1) := by decide +kernel
theorem dX9_isMoonLeap_11 : decode cX9_isMoonLeap 11 = .ok (.iconst 5, 1) := by decide +kernel
theorem dX9_isMoonLeap_12 : decode cX9_isMoonLeap 12 = .ok (.if_icmp .eq 57, 3) := by decide +kernel
theorem dX9_isMoonLeap_15 : decode cX9_isMoonLeap 15 = .ok (.iload_n 1, 1) := by decide +kernel
theorem dX9_isMoonLeap_16 : decode cX9_isMoonLeap 16 = .ok (.bipush 7, 2) := by decide +kernel
theorem dX9_isMoonLeap_18 : decode cX9_isMoonLeap 18 = .ok (.if_icmp .eq 51, 3) := by decide +kernel
theorem dX9_isMoonLeap_21 : decode cX9_isMoonLeap 21 = .ok (.iload_n 1, 1) := by decide +kernel
theorem dX9_isMoonLeap_22 : decode cX9_isMoonLeap 22 = .ok (.bipush 10, 2) := by decide +kernel
theorem dX9_isMoonLeap_24 : decode cX9_isMoonLeap 24 = .ok (.if_icmp .eq 45, 3) := by decide +kernel
theorem dX9_isMoonLeap_27 : decode cX9_isMoonLeap 27 = .ok (.iload_n 1, 1) := by decide +kernel
theorem dX9_isMoonLeap_28 : decode cX9_isMoonLeap 28 = .ok (.bipush 13, 2) := by decide +kernel
theorem dX9_isMoonLeap_30 : decode cX9_isMoonLeap 30 = .ok (.if_icmp .eq 39, 3) := by decide +kernel
theorem dX9_isMoonLeap_33 : decode cX9_isMoonLeap 33 = .ok (.iload_n 1, 1) := by decide +kernel
theorem dX9_isMoonLeap_34 : decode cX9_isMoonLeap 34 = .ok (.bipush 16, 2) := by decide +kernel
theorem dX9_isMoonLeap_36 : decode cX9_isMoonLeap 36 = .ok (.if_icmp .eq 33, 3) := by decide +kernel
theorem dX9_isMoonLeap_39 : decode cX9_isMoonLeap 39 = .ok (.iload_n 1, 1) := by decide +kernel
theorem dX9_isMoonLeap_40 : decode cX9_isMoonLeap 40 = .ok (.bipush 18, 2) := by decide +kernel
theorem dX9_isMoonLeap_42 : decode cX9_isMoonLeap 42 = .ok (.if_icmp .eq 27, 3) := by decide +kernel
theorem dX9_isMoonLeap_45 : decode cX9_isMoonLeap 45 = .ok (.iload_n 1, 1) := by decide +kernel
theorem dX9_isMoonLeap_46 : decode cX9_isMoonLeap 46 = .ok (.bipush 21, 2) := by decide +kernel
theorem dX9_isMoonLeap_48 : decode cX9_isMoonLeap 48 = .ok (.if_icmp .eq 21, 3) := by decide +kernel
theorem dX9_isMoonLeap_51 : decode cX9_isMoonLeap 51 = .ok (.iload_n 1, 1) := by decide +kernel
theorem dX9_isMoonLeap_52 : decode cX9_isMoonLeap 52 = .ok (.bipush 24, 2) := by decide +kernel
theorem dX9_isMoonLeap_54 : decode cX9_isMoonLeap 54 = .ok (.if_icmp .eq 15, 3) := by decide +kernel
theorem dX9_isMoonLeap_57 : decode cX9_isMoonLeap 57 = .ok (.iload_n 1, 1) := by decide +kernel
theorem dX9_isMoonLeap_58 : decode cX9_isMoonLeap 58 = .ok (.bipush 26, 2) := by decide +kernel
theorem dX9_isMoonLeap_60 : decode cX9_isMoonLeap 60 = .ok (.if_icmp .eq 9, 3) := by decide +kernel
theorem dX9_isMoonLeap_63 : decode cX9_isMoonLeap 63 = .ok (.iload_n 1, 1) := by decide +kernel
theorem dX9_isMoonLeap_64 : decode cX9_isMoonLeap 64 = .ok (.bipush 29, 2) := by decide +kernel
theorem dX9_isMoonLeap_66 : decode cX9_isMoonLeap 66 = .ok (.if_icmp .ne 7, 3) := by decide +kernel
theorem dX9_isMoonLeap_69 : decode cX9_isMoonLeap 69 = .ok (.iconst 1, 1) := by decide +kernel
theorem dX9_isMoonLeap_70 : decode cX9_isMoonLeap 70 = .ok (.goto 4, 3) := by decide +kernel
theorem dX9_isMoonLeap_73 : decode cX9_isMoonLeap 73 = .ok (.iconst 0, 1) := by decide +kernel
theorem dX9_isMoonLeap_74 : decode cX9_isMoonLeap 74 = .ok (.ireturn, 1) := by decide +kernel
theorem dX9_moonLeaps_0 : decode cX9_moonLeaps 0 = .ok (.iload_n 0, 1) := by decide +kernel
theorem dX9_moonLeaps_1 : decode cX9_moonLeaps 1 = .ok (.bipush 30, 2) := by decide +kernel
theorem dX9_moonLeaps_3 : decode cX9_moonLeaps 3 = .ok (.idiv, 1) := by decide +kernel
theorem dX9_moonLeaps_4 : decode cX9_moonLeaps 4 = .ok (.bipush 11, 2) := by decide +kernel
theorem dX9_moonLeaps_6 : decode cX9_moonLeaps 6 = .ok (.imul, 1) := by decide +kernel
theorem dX9_moonLeaps_7 : decode cX9_moonLeaps 7 = .ok (.istore_n 1, 1) := by decide +kernel
theorem dX9_moonLeaps_8 : decode cX9_moonLeaps 8 = .ok (.iconst 1, 1) := by decide +kernel
theorem dX9_moonLeaps_9 : decode cX9_moonLeaps 9 = .ok (.istore_n 2, 1) := by decide +kernel
theorem dX9_moonLeaps_10 : decode cX9_moonLeaps 10 = .ok (.iload_n 2, 1) := by decide +kernel
theorem dX9_moonLeaps_11 : decode cX9_moonLeaps 11 = .ok (.iload_n 0, 1) := by decide +kernel
theorem dX9_moonLeaps_12 : decode cX9_moonLeaps 12 = .ok (.bipush 30, 2) := by decide +kernel
theorem dX9_moonLeaps_14 : decode cX9_moonLeaps 14 = .ok (.irem, 1) := by decide +kernel
theorem dX9_moonLeaps_15 : decode cX9_moonLeaps 15 = .ok (.if_icmp .gt 24, 3) := by decide +kernel
theorem dX9_moonLeaps_18 : decode cX9_moonLeaps 18 = .ok (.iload_n 1, 1) := by decide +kernel
theorem dX9_moonLeaps_19 : decode cX9_moonLeaps 19 = .ok (.iload_n 2, 1) := by decide +kernel
theorem dX9_moonLeaps_20 : decode cX9_moonLeaps 20 = .ok (.invokestatic 89, 3) := by decide +kernel
theorem dX9_moonLeaps_23 : decode cX9_moonLeaps 23 = .ok (.ifCond .eq 7, 3) := by decide +kernel
theorem dX9_moonLeaps_26 : decode cX9_moonLeaps 26 = .ok (.iconst 1, 1) := by decide +kernel
theorem dX9_moonLeaps_27 : decode cX9_moonLeaps 27 = .ok (.goto 4, 3) := by decide +kernel
theorem dX9_moonLeaps_30 : decode cX9_moonLeaps 30 = .ok (.iconst 0, 1) := by decide +kernel
theorem dX9_moonLeaps_31 : decode cX9_moonLeaps 31 = .ok (.iadd, 1) := by decide +kernel
theorem dX9_moonLeaps_32 : decode cX9_moonLeaps 32 = .ok (.istore_n 1, 1) := by decide +kernel
theorem dX9_moonLeaps_33 : decode cX9_moonLeaps 33 = .ok (.iinc 2 1, 3) := by decide +kernel
theorem dX9_moonLeaps_36 : decode cX9_moonLeaps 36 = .ok (.goto (-26), 3) := by decide +kernel
theorem dX9_moonLeaps_39 : decode cX9_moonLeaps 39 = .ok (.iload_n 1, 1) := by decide +kernel
theorem dX9_moonLeaps_40 : decode cX9_moonLeaps 40 = .ok (.ireturn, 1) := by decide +kernel
theorem dX9_isLong_0 : decode cX9_isLong 0 = .ok (.bipush 7, 2) := by decide +kernel
theorem dX9_isLong_2 : decode cX9_isLong 2 = .ok (.iload_n 0, 1) := by decide +kernel
theorem dX9_isLong_3 : decode cX9_isLong 3 = .ok (.imul, 1) := by decide +kernel
theorem dX9_isLong_4 : decode cX9_isLong 4 = .ok (.iconst 1, 1) := by decide +kernel
theorem dX9_isLong_5 : decode cX9_isLong 5 = .ok (.iadd, 1) := by decide +kernel
theorem dX9_isLong_6 : decode cX9_isLong 6 = .ok (.bipush 19, 2) := by decide +kernel
theorem dX9_isLong_8 : decode cX9_isLong 8 = .ok (.irem, 1) := by decide +kernel
theorem dX9_isLong_9 : decode cX9_isLong 9 = .ok (.bipush 7, 2) := by decide +kernel
theorem dX9_isLong_11 : decode cX9_isLong 11 = .ok (.if_icmp .ge 7, 3) := by decide +kernel
theorem dX9_isLong_14 : decode cX9_isLong 14 = .ok (.iconst 1, 1) := by decide +kernel
theorem dX9_isLong_15 : decode cX9_isLong 15 = .ok (.goto 4, 3) := by decide +kernel
theorem dX9_isLong_18 : decode cX9_isLong 18 = .ok (.iconst 0, 1) := by decide +kernel
theorem dX9_isLong_19 : decode cX9_isLong 19 = .ok (.ireturn, 1) := by decide +kernel
theorem dX9_elapsed_0 : decode cX9_elapsed 0 = .ok (.sipush 235, 3) := by decide +kernel
theorem dX9_elapsed_3 : decode cX9_elapsed 3 = .ok (.iload_n 0, 1) := by decide +kernel
theorem dX9_elapsed_4 : decode cX9_elapsed 4 = .ok (.imul, 1) := by decide +kernel
theorem dX9_elapsed_5 : decode cX9_elapsed 5 = .ok (.sipush 234, 3) := by decide +kernel
theorem dX9_elapsed_8 : decode cX9_elapsed 8 = .ok (.isub, 1) := by decide +kernel
theorem dX9_elapsed_9 : decode cX9_elapsed 9 = .ok (.bipush 19, 2) := by decide +kernel
theorem dX9_elapsed_11 : decode cX9_elapsed 11 = .ok (.idiv, 1) := by decide +kernel
theorem dX9_elapsed_12 : decode cX9_elapsed 12 = .ok (.istore_n 1, 1) := by decide +kernel
theorem dX9_elapsed_13 : decode cX9_elapsed 13 = .ok (.bipush 29, 2) := by decide +kernel
theorem dX9_elapsed_15 : decode cX9_elapsed 15 = .ok (.iload_n 1, 1) := by decide +kernel
theorem dX9_elapsed_16 : decode cX9_elapsed 16 = .ok (.imul, 1) := by decide +kernel
theorem dX9_elapsed_17 : decode cX9_elapsed 17 = .ok (.sipush 12084, 3) := by decide +kernel
theorem dX9_elapsed_20 : decode cX9_elapsed 20 = .ok (.sipush 13753, 3) := by decide +kernel
theorem dX9_elapsed_23 : decode cX9_elapsed 23 = .ok (.iload_n 1, 1) := by decide +kernel
theorem dX9_elapsed_24 : decode cX9_elapsed 24 = .ok (.imul, 1) := by decide +kernel
theorem dX9_elapsed_25 : decode cX9_elapsed 25 = .ok (.iadd, 1) := by decide +kernel
theorem dX9_elapsed_26 : decode cX9_elapsed 26 = .ok (.sipush 25920, 3) := by decide +kernel
theorem dX9_elapsed_29 : decode cX9_elapsed 29 = .ok (.idiv, 1) := by decide +kernel
theorem dX9_elapsed_30 : decode cX9_elapsed 30 = .ok (.iadd, 1) := by decide +kernel
theorem dX9_elapsed_31 : decode cX9_elapsed 31 = .ok (.istore_n 2, 1) := by decide +kernel
theorem dX9_elapsed_32 : decode cX9_elapsed 32 = .ok (.iload_n 2, 1) := by decide +kernel
theorem dX9_elapsed_33 : decode cX9_elapsed 33 = .ok (.iconst 3, 1) := by decide +kernel
theorem dX9_elapsed_34 : decode cX9_elapsed 34 = .ok (.iload_n 2, 1) := by decide +kernel
theorem dX9_elapsed_35 : decode cX9_elapsed 35 = .ok (.iconst 1, 1) := by decide +kernel
theorem dX9_elapsed_36 : decode cX9_elapsed 36 = .ok (.iadd, 1) := by decide +kernel
theorem dX9_elapsed_37 : decode cX9_elapsed 37 = .ok (.imul, 1) := by decide +kernel
theorem dX9_elapsed_38 : decode cX9_elapsed 38 = .ok (.bipush 7, 2) := by decide +kernel
theorem dX9_elapsed_40 : decode cX9_elapsed 40 = .ok (.invokestatic 93, 3) := by decide +kernel
theorem dX9_elapsed_43 : decode cX9_elapsed 43 = .ok (.iconst 3, 1) := by decide +kernel
theorem dX9_elapsed_44 : decode cX9_elapsed 44 = .ok (.if_icmp .ge 7, 3) := by decide +kernel
theorem dX9_elapsed_47 : decode cX9_elapsed 47 = .ok (.iconst 1, 1) := by decide +kernel
theorem dX9_elapsed_48 : decode cX9_elapsed 48 = .ok (.goto 4, 3) := by decide +kernel
theorem dX9_elapsed_51 : decode cX9_elapsed 51 = .ok (.iconst 0, 1) := by decide +kernel
theorem dX9_elapsed_52 : decode cX9_elapsed 52 = .ok (.iadd, 1) := by decide +kernel
theorem dX9_elapsed_53 : decode cX9_elapsed 53 = .ok (.ireturn, 1) := by decide +kernel
theorem dX9_newYear_0 : decode cX9_newYear 0 = .ok (.iload_n 0, 1) := by decide +kernel
theorem dX9_newYear_1 : decode cX9_newYear 1 = .ok (.invokestatic 97, 3) := by decide +kernel
theorem dX9_newYear_4 : decode cX9_newYear 4 = .ok (.istore_n 1, 1) := by decide +kernel
theorem dX9_newYear_5 : decode cX9_newYear 5 = .ok (.iload_n 1, 1) := by decide +kernel
theorem dX9_newYear_6 : decode cX9_newYear 6 = .ok (.iload_n 0, 1) := by decide +kernel
theorem dX9_newYear_7 : decode cX9_newYear 7 = .ok (.iconst 1, 1) := by decide +kernel
theorem dX9_newYear_8 : decode cX9_newYear 8 = .ok (.iadd, 1) := by decide +kernel
theorem dX9_newYear_9 : decode cX9_newYear 9 = .ok (.invokestatic 97, 3) := by decide +kernel
theorem dX9_newYear_12 : decode cX9_newYear 12 = .ok (.iload_n 1, 1) := by decide +kernel
theorem dX9_newYear_13 : decode cX9_newYear 13 = .ok (.isub, 1) := by decide +kernel
theorem dX9_newYear_14 : decode cX9_newYear 14 = .ok (.sipush 356, 3) := by decide +kernel
theorem dX9_newYear_17 : decode cX9_newYear 17 = .ok (.if_icmp .ne 7, 3) := by decide +kernel
theorem dX9_newYear_20 : decode cX9_newYear 20 = .ok (.iconst 2, 1) := by decide +kernel
theorem dX9_newYear_21 : decode cX9_newYear 21 = .ok (.goto 22, 3) := by decide +kernel
theorem dX9_newYear_24 : decode cX9_newYear 24 = .ok (.iload_n 1, 1) := by decide +kernel
theorem dX9_newYear_25 : decode cX9_newYear 25 = .ok (.iload_n 0, 1) := by decide +kernel
theorem dX9_newYear_26 : decode cX9_newYear 26 = .ok (.iconst 1, 1) := by decide +kernel
theorem dX9_newYear_27 : decode cX9_newYear 27 = .ok (.isub, 1) := by decide +kernel
theorem dX9_newYear_28 : decode cX9_newYear 28 = .ok (.invokestatic 97, 3) := by decide +kernel
theorem dX9_newYear_31 : decode cX9_newYear 31 = .ok (.isub, 1) := by decide +kernel
theorem dX9_newYear_32 : decode cX9_newYear 32 = .ok (.sipush 382, 3) := by decide +kernel
theorem dX9_newYear_35 : decode cX9_newYear 35 = .ok (.if_icmp .ne 7, 3) := by decide +kernel
theorem dX9_newYear_38 : decode cX9_newYear 38 = .ok (.iconst 1, 1) := by decide +kernel
theorem dX9_newYear_39 : decode cX9_newYear 39 = .ok (.goto 4, 3) := by decide +kernel
theorem dX9_newYear_42 : decode cX9_newYear 42 = .ok (.iconst 0, 1) := by decide +kernel
theorem dX9_newYear_43 : decode cX9_newYear 43 = .ok (.iadd, 1) := by decide +kernel
theorem dX9_newYear_44 : decode cX9_newYear 44 = .ok (.ireturn, 1) := by decide +kernel
theorem dX9_start_0 : decode cX9_start 0 = .ok (.iload_n 0, 1) := by decide +kernel
theorem dX9_start_1 : decode cX9_start 1 = .ok (.tableswitch 170 0 5 #[39, 72, 87, 99, 114, 124], 39) := by decide +kernel
theorem dX9_start_40 : decode cX9_start 40 = .ok (.sipush 365, 3) := by decide +kernel
theorem dX9_start_43 : decode cX9_start 43 = .ok (.iload_n 1, 1) := by decide +kernel
theorem dX9_start_44 : decode cX9_start 44 = .ok (.imul, 1) := by decide +kernel
theorem dX9_start_45 : decode cX9_start 45 = .ok (.iload_n 1, 1) := by decide +kernel
theorem dX9_start_46 : decode cX9_start 46 = .ok (.iconst 3, 1) := by decide +kernel
theorem dX9_start_47 : decode cX9_start 47 = .ok (.iadd, 1) := by decide +kernel
theorem dX9_start_48 : decode cX9_start 48 = .ok (.iconst 4, 1) := by decide +kernel
theorem dX9_start_49 : decode cX9_start 49 = .ok (.idiv, 1) := by decide +kernel
theorem dX9_start_50 : decode cX9_start 50 = .ok (.iadd, 1) := by decide +kernel
theorem dX9_start_51 : decode cX9_start 51 = .ok (.iload_n 1, 1) := by decide +kernel
theorem dX9_start_52 : decode cX9_start 52 = .ok (.bipush 99, 2) := by decide +kernel
theorem dX9_start_54 : decode cX9_start 54 = .ok (.iadd, 1) := by decide +kernel
theorem dX9_start_55 : decode cX9_start 55 = .ok (.bipush 100, 2) := by decide +kernel
theorem dX9_start_57 : decode cX9_start 57 = .ok (.idiv, 1) := by decide +kernel
theorem dX9_start_58 : decode cX9_start 58 = .ok (.isub, 1) := by decide +kernel
theorem dX9_start_59 : decode cX9_start 59 = .ok (.iload_n 1, 1) := by decide +kernel
theorem dX9_start_60 : decode cX9_start 60 = .ok (.sipush 399, 3) := by decide +kernel
theorem dX9_start_63 : decode cX9_start 63 = .ok (.iadd, 1) := by decide +kernel
theorem dX9_start_64 : decode cX9_start 64 = .ok (.sipush 400, 3) := by decide +kernel
theorem dX9_start_67 : decode cX9_start 67 = .ok (.idiv, 1) := by decide +kernel
theorem dX9_start_68 : decode cX9_start 68 = .ok (.iadd, 1) := by decide +kernel
theorem dX9_start_69 : decode cX9_start 69 = .ok (.bipush 60, 2) := by decide +kernel
theorem dX9_start_71 : decode cX9_start 71 = .ok (.isub, 1) := by decide +kernel
theorem dX9_start_72 : decode cX9_start 72 = .ok (.ireturn, 1) := by decide +kernel
theorem dX9_start_73 : decode cX9_start 73 = .ok (.sipush 365, 3) := by decide +kernel
theorem dX9_start_76 : decode cX9_start 76 = .ok (.iload_n 1, 1) := by decide +kernel
theorem dX9_start_77 : decode cX9_start 77 = .ok (.imul, 1) := by decide +kernel
theorem dX9_start_78 : decode cX9_start 78 = .ok (.iload_n 1, 1) := by decide +kernel
theorem dX9_start_79 : decode cX9_start 79 = .ok (.iconst 3, 1) := by decide +kernel
theorem dX9_start_80 : decode cX9_start 80 = .ok (.iadd, 1) := by decide +kernel
theorem dX9_start_81 : decode cX9_start 81 = .ok (.iconst 4, 1) := by decide +kernel
theorem dX9_start_82 : decode cX9_start 82 = .ok (.idiv, 1) := by decide +kernel
theorem dX9_start_83 : decode cX9_start 83 = .ok (.iadd, 1) := by decide +kernel
theorem dX9_start_84 : decode cX9_start 84 = .ok (.bipush 62, 2) := by decide +kernel
theorem dX9_start_86 : decode cX9_start 86 = .ok (.isub, 1) := by decide +kernel
theorem dX9_start_87 : decode cX9_start 87 = .ok (.ireturn, 1) := by decide +kernel
theorem dX9_start_88 : decode cX9_start 88 = .ok (.sipush 365, 3) := by decide +kernel
theorem dX9_start_91 : decode cX9_start 91 = .ok (.iload_n 1, 1) := by decide +kernel
theorem dX9_start_92 : decode cX9_start 92 = .ok (.iconst 1, 1) := by decide +kernel
theorem dX9_start_93 : decode cX9_start 93 = .ok (.isub, 1) := by decide +kernel
theorem dX9_start_94 : decode cX9_start 94 = .ok (.imul, 1) := by decide +kernel
theorem dX9_start_95 : decode cX9_start 95 = .ok (.iload_n 1, 1) := by decide +kernel
theorem dX9_start_96 : decode cX9_start 96 = .ok (.iconst 4, 1) := by decide +kernel
theorem dX9_start_97 : decode cX9_start 97 = .ok (.idiv, 1) := by decide +kernel
theorem dX9_start_98 : decode cX9_start 98 = .ok (.iadd, 1) := by decide +kernel
theorem dX9_start_99 : decode cX9_start 99 = .ok (.ireturn, 1) := by decide +kernel
theorem dX9_start_100 : decode cX9_start 100 = .ok (.sipush 354, 3) := by decide +kernel
theorem dX9_start_103 : decode cX9_start 103 = .ok (.iload_n 1, 1) := by decide +kernel
theorem dX9_start_104 : decode cX9_start 104 = .ok (.iconst 1, 1) := by decide +kernel
theorem dX9_start_105 : decode cX9_start 105 = .ok (.isub, 1) := by decide +kernel
theorem dX9_start_106 : decode cX9_start 106 = .ok (.imul, 1) := by decide +kernel
theorem dX9_start_107 : decode cX9_start 107 = .ok (.iload_n 1, 1) := by decide +kernel
theorem dX9_start_108 : decode cX9_start 108 = .ok (.iconst 1, 1) := by decide +kernel
theorem dX9_start_109 : decode cX9_start 109 = .ok (.isub, 1) := by decide +kernel
theorem dX9_start_110 : decode cX9_start 110 = .ok (.invokestatic 100, 3) := by decide +kernel
theorem dX9_start_113 : decode cX9_start 113 = .ok (.iadd, 1) := by decide +kernel
theorem dX9_start_114 : decode cX9_start 114 = .ok (.ireturn, 1) := by decide +kernel
theorem dX9_start_115 : decode cX9_start 115 = .ok (.iload_n 1, 1) := by decide +kernel
theorem dX9_start_116 : decode cX9_start 116 = .ok (.invokestatic 103, 3) := by decide +kernel
theorem dX9_start_119 : decode cX9_start 119 = .ok (.iconst 1, 1) := by decide +kernel
theorem dX9_start_120 : decode cX9_start 120 = .ok (.invokestatic 103, 3) := by decide +kernel
theorem dX9_start_123 : decode cX9_start 123 = .ok (.isub, 1) := by decide +kernel
theorem dX9_start_124 : decode cX9_start 124 = .ok (.ireturn, 1) := by decide +kernel
theorem dX9_start_125 : decode cX9_start 125 = .ok (.sipush 365, 3) := by decide +kernel
theorem dX9_start_128 : decode cX9_start 128 = .ok (.iload_n 1, 1) := by decide +kernel
theorem dX9_start_129 : decode cX9_start 129 = .ok (.imul, 1) := by decide +kernel
theorem dX9_start_130 : decode cX9_start 130 = .ok (.iload_n 1, 1) := by decide +kernel
theorem dX9_start_131 : decode cX9_start 131 = .ok (.iconst 3, 1) := by decide +kernel
theorem dX9_start_132 : decode cX9_start 132 = .ok (.iadd, 1) := by decide +kernel
theorem dX9_start_133 : decode cX9_start 133 = .ok (.iconst 4, 1) := by decide +kernel
theorem dX9_start_134 : decode cX9_start 134 = .ok (.idiv, 1) := by decide +kernel
theorem dX9_start_135 : decode cX9_start 135 = .ok (.iadd, 1) := by decide +kernel
theorem dX9_start_136 : decode cX9_start 136 = .ok (.iload_n 1, 1) := by decide +kernel
theorem dX9_start_137 : decode cX9_start 137 = .ok (.bipush 99, 2) := by decide +kernel
theorem dX9_start_139 : decode cX9_start 139 = .ok (.iadd, 1) := by decide +kernel
theorem dX9_start_140 : decode cX9_start 140 = .ok (.bipush 100, 2) := by decide +kernel
theorem dX9_start_142 : decode cX9_start 142 = .ok (.idiv, 1) := by decide +kernel
theorem dX9_start_143 : decode cX9_start 143 = .ok (.isub, 1) := by decide +kernel
theorem dX9_start_144 : decode cX9_start 144 = .ok (.iload_n 1, 1) := by decide +kernel
theorem dX9_start_145 : decode cX9_start 145 = .ok (.sipush 399, 3) := by decide +kernel
theorem dX9_start_148 : decode cX9_start 148 = .ok (.iadd, 1) := by decide +kernel
theorem dX9_start_149 : decode cX9_start 149 = .ok (.sipush 400, 3) := by decide +kernel
theorem dX9_start_152 : decode cX9_start 152 = .ok (.idiv, 1) := by decide +kernel
theorem dX9_start_153 : decode cX9_start 153 = .ok (.iadd, 1) := by decide +kernel
theorem dX9_start_154 : decode cX9_start 154 = .ok (.bipush 60, 2) := by decide +kernel
theorem dX9_start_156 : decode cX9_start 156 = .ok (.isub, 1) := by decide +kernel
theorem dX9_start_157 : decode cX9_start 157 = .ok (.istore_n 2, 1) := by decide +kernel
theorem dX9_start_158 : decode cX9_start 158 = .ok (.iload_n 2, 1) := by decide +kernel
theorem dX9_start_159 : decode cX9_start 159 = .ok (.iconst 3, 1) := by decide +kernel
theorem dX9_start_160 : decode cX9_start 160 = .ok (.iload_n 2, 1) := by decide +kernel
theorem dX9_start_161 : decode cX9_start 161 = .ok (.isub, 1) := by decide +kernel
theorem dX9_start_162 : decode cX9_start 162 = .ok (.bipush 7, 2) := by decide +kernel
theorem dX9_start_164 : decode cX9_start 164 = .ok (.invokestatic 93, 3) := by decide +kernel
theorem dX9_start_167 : decode cX9_start 167 = .ok (.iadd, 1) := by decide +kernel
theorem dX9_start_168 : decode cX9_start 168 = .ok (.iconst 3, 1) := by decide +kernel
theorem dX9_start_169 : decode cX9_start 169 = .ok (.isub, 1) := by decide +kernel
theorem dX9_start_170 : decode cX9_start 170 = .ok (.ireturn, 1) := by decide +kernel
theorem dX9_start_171 : decode cX9_start 171 = .ok (.sipush 360, 3) := by decide +kernel
theorem dX9_start_174 : decode cX9_start 174 = .ok (.iload_n 1, 1) := by decide +kernel
theorem dX9_start_175 : decode cX9_start 175 = .ok (.imul, 1) := by decide +kernel
theorem dX9_start_176 : decode cX9_start 176 = .ok (.ireturn, 1) := by decide +kernel
theorem dX9_monthsIn_0 : decode cX9_monthsIn 0 = .ok (.iload_n 1, 1) := by decide +kernel
theorem dX9_monthsIn_1 : decode cX9_monthsIn 1 = .ok (.tableswitch 110 2 7 #[39, 110, 42, 57, 74, 77], 39) := by decide +kernel
theorem dX9_monthsIn_40 : decode cX9_monthsIn 40 = .ok (.bipush 13, 2) := by decide +kernel
theorem dX9_monthsIn_42 : decode cX9_monthsIn 42 = .ok (.ireturn, 1) := by decide +kernel
theorem dX9_monthsIn_43 : decode cX9_monthsIn 43 = .ok (.iload_n 2, 1) := by decide +kernel
theorem dX9_monthsIn_44 : decode cX9_monthsIn 44 = .ok (.invokestatic 106, 3) := by decide +kernel
theorem dX9_monthsIn_47 : decode cX9_monthsIn 47 = .ok (.ifCond .eq 8, 3) := by decide +kernel
theorem dX9_monthsIn_50 : decode cX9_monthsIn 50 = .ok (.bipush 13, 2) := by decide +kernel
theorem dX9_monthsIn_52 : decode cX9_monthsIn 52 = .ok (.goto 5, 3) := by decide +kernel
theorem dX9_monthsIn_55 : decode cX9_monthsIn 55 = .ok (.bipush 12, 2) := by decide +kernel
theorem dX9_monthsIn_57 : decode cX9_monthsIn 57 = .ok (.ireturn, 1) := by decide +kernel
theorem dX9_monthsIn_58 : decode cX9_monthsIn 58 = .ok (.iconst 5, 1) := by decide +kernel
theorem dX9_monthsIn_59 : decode cX9_monthsIn 59 = .ok (.iload_n 2, 1) := by decide +kernel
theorem dX9_monthsIn_60 : decode cX9_monthsIn 60 = .ok (.iconst 1, 1) := by decide +kernel
theorem dX9_monthsIn_61 : decode cX9_monthsIn 61 = .ok (.iadd, 1) := by decide +kernel
theorem dX9_monthsIn_62 : decode cX9_monthsIn 62 = .ok (.invokestatic 109, 3) := by decide +kernel
theorem dX9_monthsIn_65 : decode cX9_monthsIn 65 = .ok (.iconst 5, 1) := by decide +kernel
theorem dX9_monthsIn_66 : decode cX9_monthsIn 66 = .ok (.iload_n 2, 1) := by decide +kernel
theorem dX9_monthsIn_67 : decode cX9_monthsIn 67 = .ok (.invokestatic 109, 3) := by decide +kernel
theorem dX9_monthsIn_70 : decode cX9_monthsIn 70 = .ok (.isub, 1) := by decide +kernel
theorem dX9_monthsIn_71 : decode cX9_monthsIn 71 = .ok (.bipush 7, 2) := by decide +kernel
theorem dX9_monthsIn_73 : decode cX9_monthsIn 73 = .ok (.idiv, 1) := by decide +kernel
theorem dX9_monthsIn_74 : decode cX9_monthsIn 74 = .ok (.ireturn, 1) := by decide +kernel
theorem dX9_monthsIn_75 : decode cX9_monthsIn 75 = .ok (.bipush 18, 2) := by decide +kernel
theorem dX9_monthsIn_77 : decode cX9_monthsIn 77 = .ok (.ireturn, 1) := by decide +kernel
theorem dX9_monthsIn_78 : decode cX9_monthsIn 78 = .ok (.aload_n 0, 1) := by decide +kernel
theorem dX9_monthsIn_79 : decode cX9_monthsIn 79 = .ok (.getfield 85, 3) := by decide +kernel
theorem dX9_monthsIn_82 : decode cX9_monthsIn 82 = .ok (.bipush 10, 2) := by decide +kernel
theorem dX9_monthsIn_84 : decode cX9_monthsIn 84 = .ok (.iload_n 2, 1) := by decide +kernel
theorem dX9_monthsIn_85 : decode cX9_monthsIn 85 = .ok (.iconst 1, 1) := by decide +kernel
theorem dX9_monthsIn_86 : decode cX9_monthsIn 86 = .ok (.isub, 1) := by decide +kernel
theorem dX9_monthsIn_87 : decode cX9_monthsIn 87 = .ok (.imul, 1) := by decide +kernel
theorem dX9_monthsIn_88 : decode cX9_monthsIn 88 = .ok (.isub, 1) := by decide +kernel
theorem dX9_monthsIn_89 : decode cX9_monthsIn 89 = .ok (.bipush 10, 2) := by decide +kernel
theorem dX9_monthsIn_91 : decode cX9_monthsIn 91 = .ok (.if_icmp .le 8, 3) := by decide +kernel
theorem dX9_monthsIn_94 : decode cX9_monthsIn 94 = .ok (.bipush 10, 2) := by decide +kernel
theorem dX9_monthsIn_96 : decode cX9_monthsIn 96 = .ok (.goto 14, 3) := by decide +kernel
theorem dX9_monthsIn_99 : decode cX9_monthsIn 99 = .ok (.aload_n 0, 1) := by decide +kernel
theorem dX9_monthsIn_100 : decode cX9_monthsIn 100 = .ok (.getfield 85, 3) := by decide +kernel
theorem dX9_monthsIn_103 : decode cX9_monthsIn 103 = .ok (.bipush 10, 2) := by decide +kernel
theorem dX9_monthsIn_105 : decode cX9_monthsIn 105 = .ok (.iload_n 2, 1) := by decide +kernel
theorem dX9_monthsIn_106 : decode cX9_monthsIn 106 = .ok (.iconst 1, 1) := by decide +kernel
theorem dX9_monthsIn_107 : decode cX9_monthsIn 107 = .ok (.isub, 1) := by decide +kernel
theorem dX9_monthsIn_108 : decode cX9_monthsIn 108 = .ok (.imul, 1) := by decide +kernel
theorem dX9_monthsIn_109 : decode cX9_monthsIn 109 = .ok (.isub, 1) := by decide +kernel
theorem dX9_monthsIn_110 : decode cX9_monthsIn 110 = .ok (.ireturn, 1) := by decide +kernel
theorem dX9_monthsIn_111 : decode cX9_monthsIn 111 = .ok (.bipush 12, 2) := by decide +kernel
theorem dX9_monthsIn_113 : decode cX9_monthsIn 113 = .ok (.ireturn, 1) := by decide +kernel
theorem dX9_lengthOf_0 : decode cX9_lengthOf 0 = .ok (.iload_n 1, 1) := by decide +kernel
theorem dX9_lengthOf_1 : decode cX9_lengthOf 1 = .ok (.tableswitch 272 0 6 #[43, 43, 97, 122, 150, 266, 269], 43) := by decide +kernel
theorem dX9_lengthOf_44 : decode cX9_lengthOf 44 = .ok (.iload_n 3, 1) := by decide +kernel
theorem dX9_lengthOf_45 : decode cX9_lengthOf 45 = .ok (.iconst 2, 1) := by decide +kernel
theorem dX9_lengthOf_46 : decode cX9_lengthOf 46 = .ok (.if_icmp .ne 21, 3) := by decide +kernel
theorem dX9_lengthOf_49 : decode cX9_lengthOf 49 = .ok (.iload_n 1, 1) := by decide +kernel
theorem dX9_lengthOf_50 : decode cX9_lengthOf 50 = .ok (.iload_n 2, 1) := by decide +kernel
theorem dX9_lengthOf_51 : decode cX9_lengthOf 51 = .ok (.invokestatic 112, 3) := by decide +kernel
theorem dX9_lengthOf_54 : decode cX9_lengthOf 54 = .ok (.ifCond .eq 8, 3) := by decide +kernel
theorem dX9_lengthOf_57 : decode cX9_lengthOf 57 = .ok (.bipush 29, 2) := by decide +kernel
theorem dX9_lengthOf_59 : decode cX9_lengthOf 59 = .ok (.goto 38, 3) := by decide +kernel
theorem dX9_lengthOf_62 : decode cX9_lengthOf 62 = .ok (.bipush 28, 2) := by decide +kernel
theorem dX9_lengthOf_64 : decode cX9_lengthOf 64 = .ok (.goto 33, 3) := by decide +kernel
theorem dX9_lengthOf_67 : decode cX9_lengthOf 67 = .ok (.iload_n 3, 1) := by decide +kernel
theorem dX9_lengthOf_68 : decode cX9_lengthOf 68 = .ok (.iconst 4, 1) := by decide +kernel
theorem dX9_lengthOf_69 : decode cX9_lengthOf 69 = .ok (.if_icmp .eq 21, 3) := by decide +kernel
theorem dX9_lengthOf_72 : decode cX9_lengthOf 72 = .ok (.iload_n 3, 1) := by decide +kernel
theorem dX9_lengthOf_73 : decode cX9_lengthOf 73 = .ok (.bipush 6, 2) := by decide +kernel
theorem dX9_lengthOf_75 : decode cX9_lengthOf 75 = .ok (.if_icmp .eq 15, 3) := by decide +kernel
theorem dX9_lengthOf_78 : decode cX9_lengthOf 78 = .ok (.iload_n 3, 1) := by decide +kernel
theorem dX9_lengthOf_79 : decode cX9_lengthOf 79 = .ok (.bipush 9, 2) := by decide +kernel
theorem dX9_lengthOf_81 : decode cX9_lengthOf 81 = .ok (.if_icmp .eq 9, 3) := by decide +kernel
theorem dX9_lengthOf_84 : decode cX9_lengthOf 84 = .ok (.iload_n 3, 1) := by decide +kernel
theorem dX9_lengthOf_85 : decode cX9_lengthOf 85 = .ok (.bipush 11, 2) := by decide +kernel
theorem dX9_lengthOf_87 : decode cX9_lengthOf 87 = .ok (.if_icmp .ne 8, 3) := by decide +kernel
theorem dX9_lengthOf_90 : decode cX9_lengthOf 90 = .ok (.bipush 30, 2) := by decide +kernel
theorem dX9_lengthOf_92 : decode cX9_lengthOf 92 = .ok (.goto 5, 3) := by decide +kernel
theorem dX9_lengthOf_95 : decode cX9_lengthOf 95 = .ok (.bipush 31, 2) := by decide +kernel
theorem dX9_lengthOf_97 : decode cX9_lengthOf 97 = .ok (.ireturn, 1) := by decide +kernel
theorem dX9_lengthOf_98 : decode cX9_lengthOf 98 = .ok (.iload_n 3, 1) := by decide +kernel
theorem dX9_lengthOf_99 : decode cX9_lengthOf 99 = .ok (.bipush 13, 2) := by decide +kernel
theorem dX9_lengthOf_101 : decode cX9_lengthOf 101 = .ok (.if_icmp .ge 8, 3) := by decide +kernel
theorem dX9_lengthOf_104 : decode cX9_lengthOf 104 = .ok (.bipush 30, 2) := by decide +kernel
theorem dX9_lengthOf_106 : decode cX9_lengthOf 106 = .ok (.goto 16, 3) := by decide +kernel
theorem dX9_lengthOf_109 : decode cX9_lengthOf 109 = .ok (.iload_n 2, 1) := by decide +kernel
theorem dX9_lengthOf_110 : decode cX9_lengthOf 110 = .ok (.iconst 4, 1) := by decide +kernel
theorem dX9_lengthOf_111 : decode cX9_lengthOf 111 = .ok (.irem, 1) := by decide +kernel
theorem dX9_lengthOf_112 : decode cX9_lengthOf 112 = .ok (.iconst 3, 1) := by decide +kernel
theorem dX9_lengthOf_113 : decode cX9_lengthOf 113 = .ok (.if_icmp .ne 8, 3) := by decide +kernel
theorem dX9_lengthOf_116 : decode cX9_lengthOf 116 = .ok (.bipush 6, 2) := by decide +kernel
theorem dX9_lengthOf_118 : decode cX9_lengthOf 118 = .ok (.goto 4, 3) := by decide +kernel
theorem dX9_lengthOf_121 : decode cX9_lengthOf 121 = .ok (.iconst 5, 1) := by decide +kernel
theorem dX9_lengthOf_122 : decode cX9_lengthOf 122 = .ok (.ireturn, 1) := by decide +kernel
theorem dX9_lengthOf_123 : decode cX9_lengthOf 123 = .ok (.iload_n 3, 1) := by decide +kernel
theorem dX9_lengthOf_124 : decode cX9_lengthOf 124 = .ok (.iconst 2, 1) := by decide +kernel
theorem dX9_lengthOf_125 : decode cX9_lengthOf 125 = .ok (.irem, 1) := by decide +kernel
theorem dX9_lengthOf_126 : decode cX9_lengthOf 126 = .ok (.iconst 1, 1) := by decide +kernel
theorem dX9_lengthOf_127 : decode cX9_lengthOf 127 = .ok (.if_icmp .eq 16, 3) := by decide +kernel
theorem dX9_lengthOf_130 : decode cX9_lengthOf 130 = .ok (.iload_n 3, 1) := by decide +kernel
theorem dX9_lengthOf_131 : decode cX9_lengthOf 131 = .ok (.bipush 12, 2) := by decide +kernel
theorem dX9_lengthOf_133 : decode cX9_lengthOf 133 = .ok (.if_icmp .ne 15, 3) := by decide +kernel
theorem dX9_lengthOf_136 : decode cX9_lengthOf 136 = .ok (.iload_n 2, 1) := by decide +kernel
theorem dX9_lengthOf_137 : decode cX9_lengthOf 137 = .ok (.invokestatic 89, 3) := by decide +kernel
theorem dX9_lengthOf_140 : decode cX9_lengthOf 140 = .ok (.ifCond .eq 8, 3) := by decide +kernel
theorem dX9_lengthOf_143 : decode cX9_lengthOf 143 = .ok (.bipush 30, 2) := by decide +kernel
theorem dX9_lengthOf_145 : decode cX9_lengthOf 145 = .ok (.goto 5, 3) := by decide +kernel
theorem dX9_lengthOf_148 : decode cX9_lengthOf 148 = .ok (.bipush 29, 2) := by decide +kernel
theorem dX9_lengthOf_150 : decode cX9_lengthOf 150 = .ok (.ireturn, 1) := by decide +kernel
theorem dX9_lengthOf_151 : decode cX9_lengthOf 151 = .ok (.iconst 4, 1) := by decide +kernel
theorem dX9_lengthOf_152 : decode cX9_lengthOf 152 = .ok (.iload_n 2, 1) := by decide +kernel
theorem dX9_lengthOf_153 : decode cX9_lengthOf 153 = .ok (.iconst 1, 1) := by decide +kernel
theorem dX9_lengthOf_154 : decode cX9_lengthOf 154 = .ok (.iadd, 1) := by decide +kernel
theorem dX9_lengthOf_155 : decode cX9_lengthOf 155 = .ok (.invokestatic 109, 3) := by decide +kernel
theorem dX9_lengthOf_158 : decode cX9_lengthOf 158 = .ok (.iconst 4, 1) := by decide +kernel
theorem dX9_lengthOf_159 : decode cX9_lengthOf 159 = .ok (.iload_n 2, 1) := by decide +kernel
theorem dX9_lengthOf_160 : decode cX9_lengthOf 160 = .ok (.invokestatic 109, 3) := by decide +kernel
theorem dX9_lengthOf_163 : decode cX9_lengthOf 163 = .ok (.isub, 1) := by decide +kernel
theorem dX9_lengthOf_164 : decode cX9_lengthOf 164 = .ok (.istore 4, 2) := by decide +kernel
theorem dX9_lengthOf_166 : decode cX9_lengthOf 166 = .ok (.iload_n 3, 1) := by decide +kernel
theorem dX9_lengthOf_167 : decode cX9_lengthOf 167 = .ok (.iconst 2, 1) := by decide +kernel
theorem dX9_lengthOf_168 : decode cX9_lengthOf 168 = .ok (.if_icmp .ne 27, 3) := by decide +kernel
theorem dX9_lengthOf_171 : decode cX9_lengthOf 171 = .ok (.iload 4, 2) := by decide +kernel
theorem dX9_lengthOf_173 : decode cX9_lengthOf 173 = .ok (.sipush 355, 3) := by decide +kernel
theorem dX9_lengthOf_176 : decode cX9_lengthOf 176 = .ok (.if_icmp .eq 11, 3) := by decide +kernel
theorem dX9_lengthOf_179 : decode cX9_lengthOf 179 = .ok (.iload 4, 2) := by decide +kernel
theorem dX9_lengthOf_181 : decode cX9_lengthOf 181 = .ok (.sipush 385, 3) := by decide +kernel
theorem dX9_lengthOf_184 : decode cX9_lengthOf 184 = .ok (.if_icmp .ne 8, 3) := by decide +kernel
theorem dX9_lengthOf_187 : decode cX9_lengthOf 187 = .ok (.bipush 30, 2) := by decide +kernel
theorem dX9_lengthOf_189 : decode cX9_lengthOf 189 = .ok (.goto 5, 3) := by decide +kernel
theorem dX9_lengthOf_192 : decode cX9_lengthOf 192 = .ok (.bipush 29, 2) := by decide +kernel
theorem dX9_lengthOf_194 : decode cX9_lengthOf 194 = .ok (.ireturn, 1) := by decide +kernel
theorem dX9_lengthOf_195 : decode cX9_lengthOf 195 = .ok (.iload_n 3, 1) := by decide +kernel
theorem dX9_lengthOf_196 : decode cX9_lengthOf 196 = .ok (.iconst 3, 1) := by decide +kernel
theorem dX9_lengthOf_197 : decode cX9_lengthOf 197 = .ok (.if_icmp .ne 27, 3) := by decide +kernel
theorem dX9_lengthOf_200 : decode cX9_lengthOf 200 = .ok (.iload 4, 2) := by decide +kernel
theorem dX9_lengthOf_202 : decode cX9_lengthOf 202 = .ok (.sipush 353, 3) := by decide +kernel
theorem dX9_lengthOf_205 : decode cX9_lengthOf 205 = .ok (.if_icmp .eq 11, 3) := by decide +kernel
theorem dX9_lengthOf_208 : decode cX9_lengthOf 208 = .ok (.iload 4, 2) := by decide +kernel
theorem dX9_lengthOf_210 : decode cX9_lengthOf 210 = .ok (.sipush 383, 3) := by decide +kernel
theorem dX9_lengthOf_213 : decode cX9_lengthOf 213 = .ok (.if_icmp .ne 8, 3) := by decide +kernel
theorem dX9_lengthOf_216 : decode cX9_lengthOf 216 = .ok (.bipush 29, 2) := by decide +kernel
theorem dX9_lengthOf_218 : decode cX9_lengthOf 218 = .ok (.goto 5, 3) := by decide +kernel
theorem dX9_lengthOf_221 : decode cX9_lengthOf 221 = .ok (.bipush 30, 2) := by decide +kernel
theorem dX9_lengthOf_223 : decode cX9_lengthOf 223 = .ok (.ireturn, 1) := by decide +kernel
theorem dX9_lengthOf_224 : decode cX9_lengthOf 224 = .ok (.iload_n 2, 1) := by decide +kernel
theorem dX9_lengthOf_225 : decode cX9_lengthOf 225 = .ok (.invokestatic 106, 3) := by decide +kernel
theorem dX9_lengthOf_228 : decode cX9_lengthOf 228 = .ok (.ifCond .eq 24, 3) := by decide +kernel
theorem dX9_lengthOf_231 : decode cX9_lengthOf 231 = .ok (.iload_n 3, 1) := by decide +kernel
theorem dX9_lengthOf_232 : decode cX9_lengthOf 232 = .ok (.iconst 5, 1) := by decide +kernel
theorem dX9_lengthOf_233 : decode cX9_lengthOf 233 = .ok (.if_icmp .le 19, 3) := by decide +kernel
theorem dX9_lengthOf_236 : decode cX9_lengthOf 236 = .ok (.iload_n 3, 1) := by decide +kernel
theorem dX9_lengthOf_237 : decode cX9_lengthOf 237 = .ok (.iconst 2, 1) := by decide +kernel
theorem dX9_lengthOf_238 : decode cX9_lengthOf 238 = .ok (.irem, 1) := by decide +kernel
theorem dX9_lengthOf_239 : decode cX9_lengthOf 239 = .ok (.ifCond .ne 8, 3) := by decide +kernel
theorem dX9_lengthOf_242 : decode cX9_lengthOf 242 = .ok (.bipush 30, 2) := by decide +kernel
theorem dX9_lengthOf_244 : decode cX9_lengthOf 244 = .ok (.goto 22, 3) := by decide +kernel
theorem dX9_lengthOf_247 : decode cX9_lengthOf 247 = .ok (.bipush 29, 2) := by decide +kernel
theorem dX9_lengthOf_249 : decode cX9_lengthOf 249 = .ok (.goto 17, 3) := by decide +kernel
theorem dX9_lengthOf_252 : decode cX9_lengthOf 252 = .ok (.iload_n 3, 1) := by decide +kernel
theorem dX9_lengthOf_253 : decode cX9_lengthOf 253 = .ok (.iconst 2, 1) := by decide +kernel
theorem dX9_lengthOf_254 : decode cX9_lengthOf 254 = .ok (.irem, 1) := by decide +kernel
theorem dX9_lengthOf_255 : decode cX9_lengthOf 255 = .ok (.iconst 1, 1) := by decide +kernel
theorem dX9_lengthOf_256 : decode cX9_lengthOf 256 = .ok (.if_icmp .ne 8, 3) := by decide +kernel
theorem dX9_lengthOf_259 : decode cX9_lengthOf 259 = .ok (.bipush 30, 2) := by decide +kernel
theorem dX9_lengthOf_261 : decode cX9_lengthOf 261 = .ok (.goto 5, 3) := by decide +kernel
theorem dX9_lengthOf_264 : decode cX9_lengthOf 264 = .ok (.bipush 29, 2) := by decide +kernel
theorem dX9_lengthOf_266 : decode cX9_lengthOf 266 = .ok (.ireturn, 1) := by decide +kernel
theorem dX9_lengthOf_267 : decode cX9_lengthOf 267 = .ok (.bipush 7, 2) := by decide +kernel
theorem dX9_lengthOf_269 : decode cX9_lengthOf 269 = .ok (.ireturn, 1) := by decide +kernel
theorem dX9_lengthOf_270 : decode cX9_lengthOf 270 = .ok (.bipush 20, 2) := by decide +kernel
theorem dX9_lengthOf_272 : decode cX9_lengthOf 272 = .ok (.ireturn, 1) := by decide +kernel
theorem dX9_lengthOf_273 : decode cX9_lengthOf 273 = .ok (.aload_n 0, 1) := by decide +kernel
theorem dX9_lengthOf_274 : decode cX9_lengthOf 274 = .ok (.getfield 13, 3) := by decide +kernel
theorem dX9_lengthOf_277 : decode cX9_lengthOf 277 = .ok (.bipush 10, 2) := by decide +kernel
theorem dX9_lengthOf_279 : decode cX9_lengthOf 279 = .ok (.iload_n 2, 1) := by decide +kernel
theorem dX9_lengthOf_280 : decode cX9_lengthOf 280 = .ok (.iconst 1, 1) := by decide +kernel
theorem dX9_lengthOf_281 : decode cX9_lengthOf 281 = .ok (.isub, 1) := by decide +kernel
theorem dX9_lengthOf_282 : decode cX9_lengthOf 282 = .ok (.imul, 1) := by decide +kernel
theorem dX9_lengthOf_283 : decode cX9_lengthOf 283 = .ok (.iload_n 3, 1) := by decide +kernel
theorem dX9_lengthOf_284 : decode cX9_lengthOf 284 = .ok (.iadd, 1) := by decide +kernel
theorem dX9_lengthOf_285 : decode cX9_lengthOf 285 = .ok (.iconst 1, 1) := by decide +kernel
theorem dX9_lengthOf_286 : decode cX9_lengthOf 286 = .ok (.isub, 1) := by decide +kernel
theorem dX9_lengthOf_287 : decode cX9_lengthOf 287 = .ok (.iaload, 1) := by decide +kernel
theorem dX9_lengthOf_288 : decode cX9_lengthOf 288 = .ok (.ireturn, 1) := by decide +kernel
theorem dX9_monthStart_0 : decode cX9_monthStart 0 = .ok (.iload_n 1, 1) := by decide +kernel
theorem dX9_monthStart_1 : decode cX9_monthStart 1 = .ok (.bipush 7, 2) := by decide +kernel
theorem dX9_monthStart_3 : decode cX9_monthStart 3 = .ok (.if_icmp .ne 19, 3) := by decide +kernel
theorem dX9_monthStart_6 : decode cX9_monthStart 6 = .ok (.aload_n 0, 1) := by decide +kernel
theorem dX9_monthStart_7 : decode cX9_monthStart 7 = .ok (.getfield 7, 3) := by decide +kernel
theorem dX9_monthStart_10 : decode cX9_monthStart 10 = .ok (.bipush 10, 2) := by decide +kernel
theorem dX9_monthStart_12 : decode cX9_monthStart 12 = .ok (.iload_n 2, 1) := by decide +kernel
theorem dX9_monthStart_13 : decode cX9_monthStart 13 = .ok (.iconst 1, 1) := by decide +kernel
theorem dX9_monthStart_14 : decode cX9_monthStart 14 = .ok (.isub, 1) := by decide +kernel
theorem dX9_monthStart_15 : decode cX9_monthStart 15 = .ok (.imul, 1) := by decide +kernel
theorem dX9_monthStart_16 : decode cX9_monthStart 16 = .ok (.iload_n 3, 1) := by decide +kernel
theorem dX9_monthStart_17 : decode cX9_monthStart 17 = .ok (.iadd, 1) := by decide +kernel
theorem dX9_monthStart_18 : decode cX9_monthStart 18 = .ok (.iconst 1, 1) := by decide +kernel
theorem dX9_monthStart_19 : decode cX9_monthStart 19 = .ok (.isub, 1) := by decide +kernel
theorem dX9_monthStart_20 : decode cX9_monthStart 20 = .ok (.iaload, 1) := by decide +kernel
theorem dX9_monthStart_21 : decode cX9_monthStart 21 = .ok (.ireturn, 1) := by decide +kernel
theorem dX9_monthStart_22 : decode cX9_monthStart 22 = .ok (.iload_n 1, 1) := by decide +kernel
theorem dX9_monthStart_23 : decode cX9_monthStart 23 = .ok (.iload_n 2, 1) := by decide +kernel
theorem dX9_monthStart_24 : decode cX9_monthStart 24 = .ok (.invokestatic 109, 3) := by decide +kernel
theorem dX9_monthStart_27 : decode cX9_monthStart 27 = .ok (.istore 4, 2) := by decide +kernel
theorem dX9_monthStart_29 : decode cX9_monthStart 29 = .ok (.iload_n 1, 1) := by decide +kernel
theorem dX9_monthStart_30 : decode cX9_monthStart 30 = .ok (.iconst 5, 1) := by decide +kernel
theorem dX9_monthStart_31 : decode cX9_monthStart 31 = .ok (.if_icmp .ne 13, 3) := by decide +kernel
theorem dX9_monthStart_34 : decode cX9_monthStart 34 = .ok (.iload 4, 2) := by decide +kernel
theorem dX9_monthStart_36 : decode cX9_monthStart 36 = .ok (.bipush 7, 2) := by decide +kernel
theorem dX9_monthStart_38 : decode cX9_monthStart 38 = .ok (.iload_n 3, 1) := by decide +kernel
theorem dX9_monthStart_39 : decode cX9_monthStart 39 = .ok (.iconst 1, 1) := by decide +kernel
theorem dX9_monthStart_40 : decode cX9_monthStart 40 = .ok (.isub, 1) := by decide +kernel
theorem dX9_monthStart_41 : decode cX9_monthStart 41 = .ok (.imul, 1) := by decide +kernel
theorem dX9_monthStart_42 : decode cX9_monthStart 42 = .ok (.iadd, 1) := by decide +kernel
theorem dX9_monthStart_43 : decode cX9_monthStart 43 = .ok (.ireturn, 1) := by decide +kernel
theorem dX9_monthStart_44 : decode cX9_monthStart 44 = .ok (.iconst 1, 1) := by decide +kernel
theorem dX9_monthStart_45 : decode cX9_monthStart 45 = .ok (.istore 5, 2) := by decide +kernel
theorem dX9_monthStart_47 : decode cX9_monthStart 47 = .ok (.iload 5, 2) := by decide +kernel
theorem dX9_monthStart_49 : decode cX9_monthStart 49 = .ok (.iload_n 3, 1) := by decide +kernel
theorem dX9_monthStart_50 : decode cX9_monthStart 50 = .ok (.if_icmp .ge 22, 3) := by decide +kernel
theorem dX9_monthStart_53 : decode cX9_monthStart 53 = .ok (.iload 4, 2) := by decide +kernel
theorem dX9_monthStart_55 : decode cX9_monthStart 55 = .ok (.aload_n 0, 1) := by decide +kernel
theorem dX9_monthStart_56 : decode cX9_monthStart 56 = .ok (.iload_n 1, 1) := by decide +kernel
theorem dX9_monthStart_57 : decode cX9_monthStart 57 = .ok (.iload_n 2, 1) := by decide +kernel
theorem dX9_monthStart_58 : decode cX9_monthStart 58 = .ok (.iload 5, 2) := by decide +kernel
theorem dX9_monthStart_60 : decode cX9_monthStart 60 = .ok (.invokevirtual 116, 3) := by decide +kernel
theorem dX9_monthStart_63 : decode cX9_monthStart 63 = .ok (.iadd, 1) := by decide +kernel
theorem dX9_monthStart_64 : decode cX9_monthStart 64 = .ok (.istore 4, 2) := by decide +kernel
theorem dX9_monthStart_66 : decode cX9_monthStart 66 = .ok (.iinc 5 1, 3) := by decide +kernel
theorem dX9_monthStart_69 : decode cX9_monthStart 69 = .ok (.goto (-22), 3) := by decide +kernel
theorem dX9_monthStart_72 : decode cX9_monthStart 72 = .ok (.iload 4, 2) := by decide +kernel
theorem dX9_monthStart_74 : decode cX9_monthStart 74 = .ok (.ireturn, 1) := by decide +kernel
theorem dX9_isMonth_0 : decode cX9_isMonth 0 = .ok (.aload_n 0, 1) := by decide +kernel
theorem dX9_isMonth_1 : decode cX9_isMonth 1 = .ok (.iload_n 1, 1) := by decide +kernel
theorem dX9_isMonth_2 : decode cX9_isMonth 2 = .ok (.iload_n 2, 1) := by decide +kernel
theorem dX9_isMonth_3 : decode cX9_isMonth 3 = .ok (.invokevirtual 120, 3) := by decide +kernel
theorem dX9_isMonth_6 : decode cX9_isMonth 6 = .ok (.ifCond .eq 22, 3) := by decide +kernel
theorem dX9_isMonth_9 : decode cX9_isMonth 9 = .ok (.iload_n 3, 1) := by decide +kernel
theorem dX9_isMonth_10 : decode cX9_isMonth 10 = .ok (.iconst 1, 1) := by decide +kernel
theorem dX9_isMonth_11 : decode cX9_isMonth 11 = .ok (.if_icmp .lt 17, 3) := by decide +kernel
theorem dX9_isMonth_14 : decode cX9_isMonth 14 = .ok (.iload_n 3, 1) := by decide +kernel
theorem dX9_isMonth_15 : decode cX9_isMonth 15 = .ok (.aload_n 0, 1) := by decide +kernel
theorem dX9_isMonth_16 : decode cX9_isMonth 16 = .ok (.iload_n 1, 1) := by decide +kernel
theorem dX9_isMonth_17 : decode cX9_isMonth 17 = .ok (.iload_n 2, 1) := by decide +kernel
theorem dX9_isMonth_18 : decode cX9_isMonth 18 = .ok (.invokevirtual 123, 3) := by decide +kernel
theorem dX9_isMonth_21 : decode cX9_isMonth 21 = .ok (.if_icmp .gt 7, 3) := by decide +kernel
theorem dX9_isMonth_24 : decode cX9_isMonth 24 = .ok (.iconst 1, 1) := by decide +kernel
theorem dX9_isMonth_25 : decode cX9_isMonth 25 = .ok (.goto 4, 3) := by decide +kernel
theorem dX9_isMonth_28 : decode cX9_isMonth 28 = .ok (.iconst 0, 1) := by decide +kernel
theorem dX9_isMonth_29 : decode cX9_isMonth 29 = .ok (.ireturn, 1) := by decide +kernel
theorem dX9_yearOf_0 : decode cX9_yearOf 0 = .ok (.iload_n 0, 1) := by decide +kernel
theorem dX9_yearOf_1 : decode cX9_yearOf 1 = .ok (.invokestatic 81, 3) := by decide +kernel
theorem dX9_yearOf_4 : decode cX9_yearOf 4 = .ok (.istore_n 2, 1) := by decide +kernel
theorem dX9_yearOf_5 : decode cX9_yearOf 5 = .ok (.sipush 5000, 3) := by decide +kernel
theorem dX9_yearOf_8 : decode cX9_yearOf 8 = .ok (.istore_n 3, 1) := by decide +kernel
theorem dX9_yearOf_9 : decode cX9_yearOf 9 = .ok (.iload_n 2, 1) := by decide +kernel
theorem dX9_yearOf_10 : decode cX9_yearOf 10 = .ok (.iload_n 3, 1) := by decide +kernel
theorem dX9_yearOf_11 : decode cX9_yearOf 11 = .ok (.if_icmp .ge 36, 3) := by decide +kernel
theorem dX9_yearOf_14 : decode cX9_yearOf 14 = .ok (.iload_n 2, 1) := by decide +kernel
theorem dX9_yearOf_15 : decode cX9_yearOf 15 = .ok (.iload_n 3, 1) := by decide +kernel
theorem dX9_yearOf_16 : decode cX9_yearOf 16 = .ok (.iadd, 1) := by decide +kernel
theorem dX9_yearOf_17 : decode cX9_yearOf 17 = .ok (.iconst 1, 1) := by decide +kernel
theorem dX9_yearOf_18 : decode cX9_yearOf 18 = .ok (.iadd, 1) := by decide +kernel
theorem dX9_yearOf_19 : decode cX9_yearOf 19 = .ok (.iconst 2, 1) := by decide +kernel
theorem dX9_yearOf_20 : decode cX9_yearOf 20 = .ok (.idiv, 1) := by decide +kernel
theorem dX9_yearOf_21 : decode cX9_yearOf 21 = .ok (.istore 4, 2) := by decide +kernel
theorem dX9_yearOf_23 : decode cX9_yearOf 23 = .ok (.iload_n 0, 1) := by decide +kernel
theorem dX9_yearOf_24 : decode cX9_yearOf 24 = .ok (.iload 4, 2) := by decide +kernel
theorem dX9_yearOf_26 : decode cX9_yearOf 26 = .ok (.invokestatic 109, 3) := by decide +kernel
theorem dX9_yearOf_29 : decode cX9_yearOf 29 = .ok (.iload_n 1, 1) := by decide +kernel
theorem dX9_yearOf_30 : decode cX9_yearOf 30 = .ok (.if_icmp .gt 9, 3) := by decide +kernel
theorem dX9_yearOf_33 : decode cX9_yearOf 33 = .ok (.iload 4, 2) := by decide +kernel
theorem dX9_yearOf_35 : decode cX9_yearOf 35 = .ok (.istore_n 2, 1) := by decide +kernel
theorem dX9_yearOf_36 : decode cX9_yearOf 36 = .ok (.goto 8, 3) := by decide +kernel
theorem dX9_yearOf_39 : decode cX9_yearOf 39 = .ok (.iload 4, 2) := by decide +kernel
theorem dX9_yearOf_41 : decode cX9_yearOf 41 = .ok (.iconst 1, 1) := by decide +kernel
theorem dX9_yearOf_42 : decode cX9_yearOf 42 = .ok (.isub, 1) := by decide +kernel
theorem dX9_yearOf_43 : decode cX9_yearOf 43 = .ok (.istore_n 3, 1) := by decide +kernel
theorem dX9_yearOf_44 : decode cX9_yearOf 44 = .ok (.goto (-35), 3) := by decide +kernel
theorem dX9_yearOf_47 : decode cX9_yearOf 47 = .ok (.iload_n 2, 1) := by decide +kernel
theorem dX9_yearOf_48 : decode cX9_yearOf 48 = .ok (.ireturn, 1) := by decide +kernel
theorem dX9_find_0 : decode cX9_find 0 = .ok (.iload_n 1, 1) := by decide +kernel
theorem dX9_find_1 : decode cX9_find 1 = .ok (.bipush 7, 2) := by decide +kernel
theorem dX9_find_3 : decode cX9_find 3 = .ok (.if_icmp .ne 84, 3) := by decide +kernel
theorem dX9_find_6 : decode cX9_find 6 = .ok (.iconst 0, 1) := by decide +kernel
theorem dX9_find_7 : decode cX9_find 7 = .ok (.istore_n 3, 1) := by decide +kernel
theorem dX9_find_8 : decode cX9_find 8 = .ok (.iload_n 3, 1) := by decide +kernel
theorem dX9_find_9 : decode cX9_find 9 = .ok (.aload_n 0, 1) := by decide +kernel
theorem dX9_find_10 : decode cX9_find 10 = .ok (.getfield 85, 3) := by decide +kernel
theorem dX9_find_13 : decode cX9_find 13 = .ok (.if_icmp .ge 72, 3) := by decide +kernel
theorem dX9_find_16 : decode cX9_find 16 = .ok (.iload_n 2, 1) := by decide +kernel
theorem dX9_find_17 : decode cX9_find 17 = .ok (.aload_n 0, 1) := by decide +kernel
theorem dX9_find_18 : decode cX9_find 18 = .ok (.getfield 7, 3) := by decide +kernel
theorem dX9_find_21 : decode cX9_find 21 = .ok (.iload_n 3, 1) := by decide +kernel
theorem dX9_find_22 : decode cX9_find 22 = .ok (.iaload, 1) := by decide +kernel
theorem dX9_find_23 : decode cX9_find 23 = .ok (.if_icmp .lt 56, 3) := by decide +kernel
theorem dX9_find_26 : decode cX9_find 26 = .ok (.iload_n 2, 1) := by decide +kernel
theorem dX9_find_27 : decode cX9_find 27 = .ok (.aload_n 0, 1) := by decide +kernel
theorem dX9_find_28 : decode cX9_find 28 = .ok (.getfield 7, 3) := by decide +kernel
theorem dX9_find_31 : decode cX9_find 31 = .ok (.iload_n 3, 1) := by decide +kernel
theorem dX9_find_32 : decode cX9_find 32 = .ok (.iaload, 1) := by decide +kernel
theorem dX9_find_33 : decode cX9_find 33 = .ok (.aload_n 0, 1) := by decide +kernel
theorem dX9_find_34 : decode cX9_find 34 = .ok (.getfield 13, 3) := by decide +kernel
theorem dX9_find_37 : decode cX9_find 37 = .ok (.iload_n 3, 1) := by decide +kernel
theorem dX9_find_38 : decode cX9_find 38 = .ok (.iaload, 1) := by decide +kernel
theorem dX9_find_39 : decode cX9_find 39 = .ok (.iadd, 1) := by decide +kernel
theorem dX9_find_40 : decode cX9_find 40 = .ok (.if_icmp .ge 39, 3) := by decide +kernel
theorem dX9_find_43 : decode cX9_find 43 = .ok (.aload_n 0, 1) := by decide +kernel
theorem dX9_find_44 : decode cX9_find 44 = .ok (.iload_n 3, 1) := by decide +kernel
theorem dX9_find_45 : decode cX9_find 45 = .ok (.bipush 10, 2) := by decide +kernel
theorem dX9_find_47 : decode cX9_find 47 = .ok (.idiv, 1) := by decide +kernel
theorem dX9_find_48 : decode cX9_find 48 = .ok (.iconst 1, 1) := by decide +kernel
theorem dX9_find_49 : decode cX9_find 49 = .ok (.iadd, 1) := by decide +kernel
theorem dX9_find_50 : decode cX9_find 50 = .ok (.putfield 126, 3) := by decide +kernel
theorem dX9_find_53 : decode cX9_find 53 = .ok (.aload_n 0, 1) := by decide +kernel
theorem dX9_find_54 : decode cX9_find 54 = .ok (.iload_n 3, 1) := by decide +kernel
theorem dX9_find_55 : decode cX9_find 55 = .ok (.bipush 10, 2) := by decide +kernel
theorem dX9_find_57 : decode cX9_find 57 = .ok (.irem, 1) := by decide +kernel
theorem dX9_find_58 : decode cX9_find 58 = .ok (.iconst 1, 1) := by decide +kernel
theorem dX9_find_59 : decode cX9_find 59 = .ok (.iadd, 1) := by decide +kernel
theorem dX9_find_60 : decode cX9_find 60 = .ok (.putfield 129, 3) := by decide +kernel
theorem dX9_find_63 : decode cX9_find 63 = .ok (.aload_n 0, 1) := by decide +kernel
theorem dX9_find_64 : decode cX9_find 64 = .ok (.iload_n 2, 1) := by decide +kernel
theorem dX9_find_65 : decode cX9_find 65 = .ok (.aload_n 0, 1) := by decide +kernel
theorem dX9_find_66 : decode cX9_find 66 = .ok (.getfield 7, 3) := by decide +kernel
theorem dX9_find_69 : decode cX9_find 69 = .ok (.iload_n 3, 1) := by decide +kernel
theorem dX9_find_70 : decode cX9_find 70 = .ok (.iaload, 1) := by decide +kernel
theorem dX9_find_71 : decode cX9_find 71 = .ok (.isub, 1) := by decide +kernel
theorem dX9_find_72 : decode cX9_find 72 = .ok (.iconst 1, 1) := by decide +kernel
theorem dX9_find_73 : decode cX9_find 73 = .ok (.iadd, 1) := by decide +kernel
theorem dX9_find_74 : decode cX9_find 74 = .ok (.putfield 132, 3) := by decide +kernel
theorem dX9_find_77 : decode cX9_find 77 = .ok (.iconst 1, 1) := by decide +kernel
theorem dX9_find_78 : decode cX9_find 78 = .ok (.ireturn, 1) := by decide +kernel
theorem dX9_find_79 : decode cX9_find 79 = .ok (.iinc 3 1, 3) := by decide +kernel
theorem dX9_find_82 : decode cX9_find 82 = .ok (.goto (-74), 3) := by decide +kernel
theorem dX9_find_85 : decode cX9_find 85 = .ok (.iconst 0, 1) := by decide +kernel
theorem dX9_find_86 : decode cX9_find 86 = .ok (.ireturn, 1) := by decide +kernel
theorem dX9_find_87 : decode cX9_find 87 = .ok (.aload_n 0, 1) := by decide +kernel
theorem dX9_find_88 : decode cX9_find 88 = .ok (.iload_n 1, 1) := by decide +kernel
theorem dX9_find_89 : decode cX9_find 89 = .ok (.iload_n 2, 1) := by decide +kernel
theorem dX9_find_90 : decode cX9_find 90 = .ok (.invokestatic 135, 3) := by decide +kernel
theorem dX9_find_93 : decode cX9_find 93 = .ok (.putfield 126, 3) := by decide +kernel
theorem dX9_find_96 : decode cX9_find 96 = .ok (.aload_n 0, 1) := by decide +kernel
theorem dX9_find_97 : decode cX9_find 97 = .ok (.iconst 1, 1) := by decide +kernel
theorem dX9_find_98 : decode cX9_find 98 = .ok (.putfield 129, 3) := by decide +kernel
theorem dX9_find_101 : decode cX9_find 101 = .ok (.iload_n 2, 1) := by decide +kernel
theorem dX9_find_102 : decode cX9_find 102 = .ok (.iload_n 1, 1) := by decide +kernel
theorem dX9_find_103 : decode cX9_find 103 = .ok (.aload_n 0, 1) := by decide +kernel
theorem dX9_find_104 : decode cX9_find 104 = .ok (.getfield 126, 3) := by decide +kernel
theorem dX9_find_107 : decode cX9_find 107 = .ok (.invokestatic 109, 3) := by decide +kernel
theorem dX9_find_110 : decode cX9_find 110 = .ok (.isub, 1) := by decide +kernel
theorem dX9_find_111 : decode cX9_find 111 = .ok (.istore_n 3, 1) := by decide +kernel
theorem dX9_find_112 : decode cX9_find 112 = .ok (.iload_n 3, 1) := by decide +kernel
theorem dX9_find_113 : decode cX9_find 113 = .ok (.aload_n 0, 1) := by decide +kernel
theorem dX9_find_114 : decode cX9_find 114 = .ok (.iload_n 1, 1) := by decide +kernel
theorem dX9_find_115 : decode cX9_find 115 = .ok (.aload_n 0, 1) := by decide +kernel
theorem dX9_find_116 : decode cX9_find 116 = .ok (.getfield 126, 3) := by decide +kernel
theorem dX9_find_119 : decode cX9_find 119 = .ok (.aload_n 0, 1) := by decide +kernel
theorem dX9_find_120 : decode cX9_find 120 = .ok (.getfield 129, 3) := by decide +kernel
theorem dX9_find_123 : decode cX9_find 123 = .ok (.invokevirtual 116, 3) := by decide +kernel
theorem dX9_find_126 : decode cX9_find 126 = .ok (.if_icmp .lt 32, 3) := by decide +kernel
theorem dX9_find_129 : decode cX9_find 129 = .ok (.iload_n 3, 1) := by decide +kernel
theorem dX9_find_130 : decode cX9_find 130 = .ok (.aload_n 0, 1) := by decide +kernel
theorem dX9_find_131 : decode cX9_find 131 = .ok (.iload_n 1, 1) := by decide +kernel
theorem dX9_find_132 : decode cX9_find 132 = .ok (.aload_n 0, 1) := by decide +kernel
theorem dX9_find_133 : decode cX9_find 133 = .ok (.getfield 126, 3) := by decide +kernel
theorem dX9_find_136 : decode cX9_find 136 = .ok (.aload_n 0, 1) := by decide +kernel
theorem dX9_find_137 : decode cX9_find 137 = .ok (.getfield 129, 3) := by decide +kernel
theorem dX9_find_140 : decode cX9_find 140 = .ok (.invokevirtual 116, 3) := by decide +kernel
theorem dX9_find_143 : decode cX9_find 143 = .ok (.isub, 1) := by decide +kernel
theorem dX9_find_144 : decode cX9_find 144 = .ok (.istore_n 3, 1) := by decide +kernel
theorem dX9_find_145 : decode cX9_find 145 = .ok (.aload_n 0, 1) := by decide +kernel
theorem dX9_find_146 : decode cX9_find 146 = .ok (.dup, 1) := by decide +kernel
theorem dX9_find_147 : decode cX9_find 147 = .ok (.getfield 129, 3) := by decide +kernel
theorem dX9_find_150 : decode cX9_find 150 = .ok (.iconst 1, 1) := by decide +kernel
theorem dX9_find_151 : decode cX9_find 151 = .ok (.iadd, 1) := by decide +kernel
theorem dX9_find_152 : decode cX9_find 152 = .ok (.putfield 129, 3) := by decide +kernel
theorem dX9_find_155 : decode cX9_find 155 = .ok (.goto (-43), 3) := by decide +kernel
theorem dX9_find_158 : decode cX9_find 158 = .ok (.aload_n 0, 1) := by decide +kernel
theorem dX9_find_159 : decode cX9_find 159 = .ok (.iload_n 3, 1) := by decide +kernel
theorem dX9_find_160 : decode cX9_find 160 = .ok (.iconst 1, 1) := by decide +kernel
theorem dX9_find_161 : decode cX9_find 161 = .ok (.iadd, 1) := by decide +kernel
theorem dX9_find_162 : decode cX9_find 162 = .ok (.putfield 132, 3) := by decide +kernel
theorem dX9_find_165 : decode cX9_find 165 = .ok (.iconst 1, 1) := by decide +kernel
theorem dX9_find_166 : decode cX9_find 166 = .ok (.ireturn, 1) := by decide +kernel
theorem dX9_isCalendar_0 : decode cX9_isCalendar 0 = .ok (.iload_n 0, 1) := by decide +kernel
theorem dX9_isCalendar_1 : decode cX9_isCalendar 1 = .ok (.iconst 0, 1) := by decide +kernel
theorem dX9_isCalendar_2 : decode cX9_isCalendar 2 = .ok (.bipush 7, 2) := by decide +kernel
theorem dX9_isCalendar_4 : decode cX9_isCalendar 4 = .ok (.invokestatic 138, 3) := by decide +kernel
theorem dX9_isCalendar_7 : decode cX9_isCalendar 7 = .ok (.ireturn, 1) := by decide +kernel
theorem dX9_toDay_0 : decode cX9_toDay 0 = .ok (.iload_n 1, 1) := by decide +kernel
theorem dX9_toDay_1 : decode cX9_toDay 1 = .ok (.invokestatic 142, 3) := by decide +kernel
theorem dX9_toDay_4 : decode cX9_toDay 4 = .ok (.ifCond .ne 5, 3) := by decide +kernel
theorem dX9_toDay_7 : decode cX9_toDay 7 = .ok (.iconst (-1), 1) := by decide +kernel
theorem dX9_toDay_8 : decode cX9_toDay 8 = .ok (.ireturn, 1) := by decide +kernel
theorem dX9_toDay_9 : decode cX9_toDay 9 = .ok (.aload_n 0, 1) := by decide +kernel
theorem dX9_toDay_10 : decode cX9_toDay 10 = .ok (.iload_n 1, 1) := by decide +kernel
theorem dX9_toDay_11 : decode cX9_toDay 11 = .ok (.iload_n 2, 1) := by decide +kernel
theorem dX9_toDay_12 : decode cX9_toDay 12 = .ok (.iload_n 3, 1) := by decide +kernel
theorem dX9_toDay_13 : decode cX9_toDay 13 = .ok (.invokevirtual 145, 3) := by decide +kernel
theorem dX9_toDay_16 : decode cX9_toDay 16 = .ok (.ifCond .eq 21, 3) := by decide +kernel
theorem dX9_toDay_19 : decode cX9_toDay 19 = .ok (.iload 4, 2) := by decide +kernel
theorem dX9_toDay_21 : decode cX9_toDay 21 = .ok (.iconst 1, 1) := by decide +kernel
theorem dX9_toDay_22 : decode cX9_toDay 22 = .ok (.if_icmp .lt 15, 3) := by decide +kernel
theorem dX9_toDay_25 : decode cX9_toDay 25 = .ok (.iload 4, 2) := by decide +kernel
theorem dX9_toDay_27 : decode cX9_toDay 27 = .ok (.aload_n 0, 1) := by decide +kernel
theorem dX9_toDay_28 : decode cX9_toDay 28 = .ok (.iload_n 1, 1) := by decide +kernel
theorem dX9_toDay_29 : decode cX9_toDay 29 = .ok (.iload_n 2, 1) := by decide +kernel
theorem dX9_toDay_30 : decode cX9_toDay 30 = .ok (.iload_n 3, 1) := by decide +kernel
theorem dX9_toDay_31 : decode cX9_toDay 31 = .ok (.invokevirtual 116, 3) := by decide +kernel
theorem dX9_toDay_34 : decode cX9_toDay 34 = .ok (.if_icmp .le 6, 3) := by decide +kernel
theorem dX9_toDay_37 : decode cX9_toDay 37 = .ok (.bipush (-2), 2) := by decide +kernel
theorem dX9_toDay_39 : decode cX9_toDay 39 = .ok (.ireturn, 1) := by decide +kernel
theorem dX9_toDay_40 : decode cX9_toDay 40 = .ok (.aload_n 0, 1) := by decide +kernel
theorem dX9_toDay_41 : decode cX9_toDay 41 = .ok (.iload_n 1, 1) := by decide +kernel
theorem dX9_toDay_42 : decode cX9_toDay 42 = .ok (.iload_n 2, 1) := by decide +kernel
theorem dX9_toDay_43 : decode cX9_toDay 43 = .ok (.iload_n 3, 1) := by decide +kernel
theorem dX9_toDay_44 : decode cX9_toDay 44 = .ok (.invokevirtual 148, 3) := by decide +kernel
theorem dX9_toDay_47 : decode cX9_toDay 47 = .ok (.iload 4, 2) := by decide +kernel
theorem dX9_toDay_49 : decode cX9_toDay 49 = .ok (.iadd, 1) := by decide +kernel
theorem dX9_toDay_50 : decode cX9_toDay 50 = .ok (.iconst 1, 1) := by decide +kernel
theorem dX9_toDay_51 : decode cX9_toDay 51 = .ok (.isub, 1) := by decide +kernel
theorem dX9_toDay_52 : decode cX9_toDay 52 = .ok (.istore 5, 2) := by decide +kernel
theorem dX9_toDay_54 : decode cX9_toDay 54 = .ok (.iload 5, 2) := by decide +kernel
theorem dX9_toDay_56 : decode cX9_toDay 56 = .ok (.i2l, 1) := by decide +kernel
theorem dX9_toDay_57 : decode cX9_toDay 57 = .ok (.invokestatic 151, 3) := by decide +kernel
theorem dX9_toDay_60 : decode cX9_toDay 60 = .ok (.ifCond .eq 8, 3) := by decide +kernel
theorem dX9_toDay_63 : decode cX9_toDay 63 = .ok (.iload 5, 2) := by decide +kernel
theorem dX9_toDay_65 : decode cX9_toDay 65 = .ok (.goto 5, 3) := by decide +kernel
theorem dX9_toDay_68 : decode cX9_toDay 68 = .ok (.bipush (-3), 2) := by decide +kernel
theorem dX9_toDay_70 : decode cX9_toDay 70 = .ok (.ireturn, 1) := by decide +kernel
theorem dX9_fromDay_0 : decode cX9_fromDay 0 = .ok (.iload_n 1, 1) := by decide +kernel
theorem dX9_fromDay_1 : decode cX9_fromDay 1 = .ok (.invokestatic 142, 3) := by decide +kernel
theorem dX9_fromDay_4 : decode cX9_fromDay 4 = .ok (.ifCond .eq 12, 3) := by decide +kernel
theorem dX9_fromDay_7 : decode cX9_fromDay 7 = .ok (.iload_n 3, 1) := by decide +kernel
theorem dX9_fromDay_8 : decode cX9_fromDay 8 = .ok (.iconst 0, 1) := by decide +kernel
theorem dX9_fromDay_9 : decode cX9_fromDay 9 = .ok (.iconst 4, 1) := by decide +kernel
theorem dX9_fromDay_10 : decode cX9_fromDay 10 = .ok (.invokestatic 138, 3) := by decide +kernel
theorem dX9_fromDay_13 : decode cX9_fromDay 13 = .ok (.ifCond .ne 5, 3) := by decide +kernel
theorem dX9_fromDay_16 : decode cX9_fromDay 16 = .ok (.iconst (-1), 1) := by decide +kernel
theorem dX9_fromDay_17 : decode cX9_fromDay 17 = .ok (.ireturn, 1) := by decide +kernel
theorem dX9_fromDay_18 : decode cX9_fromDay 18 = .ok (.iload_n 2, 1) := by decide +kernel
theorem dX9_fromDay_19 : decode cX9_fromDay 19 = .ok (.i2l, 1) := by decide +kernel
theorem dX9_fromDay_20 : decode cX9_fromDay 20 = .ok (.invokestatic 151, 3) := by decide +kernel
theorem dX9_fromDay_23 : decode cX9_fromDay 23 = .ok (.ifCond .ne 6, 3) := by decide +kernel
theorem dX9_fromDay_26 : decode cX9_fromDay 26 = .ok (.bipush (-3), 2) := by decide +kernel
theorem dX9_fromDay_28 : decode cX9_fromDay 28 = .ok (.ireturn, 1) := by decide +kernel
theorem dX9_fromDay_29 : decode cX9_fromDay 29 = .ok (.aload_n 0, 1) := by decide +kernel
theorem dX9_fromDay_30 : decode cX9_fromDay 30 = .ok (.iload_n 1, 1) := by decide +kernel
theorem dX9_fromDay_31 : decode cX9_fromDay 31 = .ok (.iload_n 2, 1) := by decide +kernel
theorem dX9_fromDay_32 : decode cX9_fromDay 32 = .ok (.invokevirtual 155, 3) := by decide +kernel
theorem dX9_fromDay_35 : decode cX9_fromDay 35 = .ok (.ifCond .ne 6, 3) := by decide +kernel
theorem dX9_fromDay_38 : decode cX9_fromDay 38 = .ok (.bipush (-2), 2) := by decide +kernel
theorem dX9_fromDay_40 : decode cX9_fromDay 40 = .ok (.ireturn, 1) := by decide +kernel
theorem dX9_fromDay_41 : decode cX9_fromDay 41 = .ok (.iload_n 3, 1) := by decide +kernel
theorem dX9_fromDay_42 : decode cX9_fromDay 42 = .ok (.tableswitch 86 0 3 #[30, 35, 40, 45], 30) := by decide +kernel
theorem dX9_fromDay_72 : decode cX9_fromDay 72 = .ok (.aload_n 0, 1) := by decide +kernel
theorem dX9_fromDay_73 : decode cX9_fromDay 73 = .ok (.getfield 126, 3) := by decide +kernel
theorem dX9_fromDay_76 : decode cX9_fromDay 76 = .ok (.ireturn, 1) := by decide +kernel
theorem dX9_fromDay_77 : decode cX9_fromDay 77 = .ok (.aload_n 0, 1) := by decide +kernel
theorem dX9_fromDay_78 : decode cX9_fromDay 78 = .ok (.getfield 129, 3) := by decide +kernel
theorem dX9_fromDay_81 : decode cX9_fromDay 81 = .ok (.ireturn, 1) := by decide +kernel
theorem dX9_fromDay_82 : decode cX9_fromDay 82 = .ok (.aload_n 0, 1) := by decide +kernel
theorem dX9_fromDay_83 : decode cX9_fromDay 83 = .ok (.getfield 132, 3) := by decide +kernel
theorem dX9_fromDay_86 : decode cX9_fromDay 86 = .ok (.ireturn, 1) := by decide +kernel
theorem dX9_fromDay_87 : decode cX9_fromDay 87 = .ok (.iload_n 1, 1) := by decide +kernel
theorem dX9_fromDay_88 : decode cX9_fromDay 88 = .ok (.bipush 6, 2) := by decide +kernel
theorem dX9_fromDay_90 : decode cX9_fromDay 90 = .ok (.if_icmp .ne 13, 3) := by decide +kernel
theorem dX9_fromDay_93 : decode cX9_fromDay 93 = .ok (.iload_n 2, 1) := by decide +kernel
theorem dX9_fromDay_94 : decode cX9_fromDay 94 = .ok (.bipush 7, 2) := by decide +kernel
theorem dX9_fromDay_96 : decode cX9_fromDay 96 = .ok (.iadd, 1) := by decide +kernel
theorem dX9_fromDay_97 : decode cX9_fromDay 97 = .ok (.bipush 20, 2) := by decide +kernel
theorem dX9_fromDay_99 : decode cX9_fromDay 99 = .ok (.irem, 1) := by decide +kernel
theorem dX9_fromDay_100 : decode cX9_fromDay 100 = .ok (.goto 27, 3) := by decide +kernel
theorem dX9_fromDay_103 : decode cX9_fromDay 103 = .ok (.iload_n 1, 1) := by decide +kernel
theorem dX9_fromDay_104 : decode cX9_fromDay 104 = .ok (.bipush 7, 2) := by decide +kernel
theorem dX9_fromDay_106 : decode cX9_fromDay 106 = .ok (.if_icmp .ne 17, 3) := by decide +kernel
theorem dX9_fromDay_109 : decode cX9_fromDay 109 = .ok (.iload_n 2, 1) := by decide +kernel
theorem dX9_fromDay_110 : decode cX9_fromDay 110 = .ok (.aload_n 0, 1) := by decide +kernel
theorem dX9_fromDay_111 : decode cX9_fromDay 111 = .ok (.getfield 7, 3) := by decide +kernel
theorem dX9_fromDay_114 : decode cX9_fromDay 114 = .ok (.iconst 0, 1) := by decide +kernel
theorem dX9_fromDay_115 : decode cX9_fromDay 115 = .ok (.iaload, 1) := by decide +kernel
theorem dX9_fromDay_116 : decode cX9_fromDay 116 = .ok (.isub, 1) := by decide +kernel
theorem dX9_fromDay_117 : decode cX9_fromDay 117 = .ok (.bipush 10, 2) := by decide +kernel
theorem dX9_fromDay_119 : decode cX9_fromDay 119 = .ok (.irem, 1) := by decide +kernel
theorem dX9_fromDay_120 : decode cX9_fromDay 120 = .ok (.goto 7, 3) := by decide +kernel
theorem dX9_fromDay_123 : decode cX9_fromDay 123 = .ok (.iload_n 2, 1) := by decide +kernel
theorem dX9_fromDay_124 : decode cX9_fromDay 124 = .ok (.bipush 7, 2) := by decide +kernel
theorem dX9_fromDay_126 : decode cX9_fromDay 126 = .ok (.irem, 1) := by decide +kernel
theorem dX9_fromDay_127 : decode cX9_fromDay 127 = .ok (.ireturn, 1) := by decide +kernel
theorem dX9_fromDay_128 : decode cX9_fromDay 128 = .ok (.iload_n 1, 1) := by decide +kernel
theorem dX9_fromDay_129 : decode cX9_fromDay 129 = .ok (.bipush 6, 2) := by decide +kernel
theorem dX9_fromDay_131 : decode cX9_fromDay 131 = .ok (.if_icmp .ne 14, 3) := by decide +kernel
theorem dX9_fromDay_134 : decode cX9_fromDay 134 = .ok (.iload_n 2, 1) := by decide +kernel
theorem dX9_fromDay_135 : decode cX9_fromDay 135 = .ok (.iconst 3, 1) := by decide +kernel
theorem dX9_fromDay_136 : decode cX9_fromDay 136 = .ok (.iadd, 1) := by decide +kernel
theorem dX9_fromDay_137 : decode cX9_fromDay 137 = .ok (.bipush 13, 2) := by decide +kernel
theorem dX9_fromDay_139 : decode cX9_fromDay 139 = .ok (.irem, 1) := by decide +kernel
theorem dX9_fromDay_140 : decode cX9_fromDay 140 = .ok (.iconst 1, 1) := by decide +kernel
theorem dX9_fromDay_141 : decode cX9_fromDay 141 = .ok (.iadd, 1) := by decide +kernel
theorem dX9_fromDay_142 : decode cX9_fromDay 142 = .ok (.goto 4, 3) := by decide +kernel
theorem dX9_fromDay_145 : decode cX9_fromDay 145 = .ok (.iconst 0, 1) := by decide +kernel
theorem dX9_fromDay_146 : decode cX9_fromDay 146 = .ok (.ireturn, 1) := by decide +kernel
theorem dX9_monthLength_0 : decode cX9_monthLength 0 = .ok (.iload_n 1, 1) := by decide +kernel
theorem dX9_monthLength_1 : decode cX9_monthLength 1 = .ok (.invokestatic 142, 3) := by decide +kernel
theorem dX9_monthLength_4 : decode cX9_monthLength 4 = .ok (.ifCond .ne 5, 3) := by decide +kernel
theorem dX9_monthLength_7 : decode cX9_monthLength 7 = .ok (.iconst (-1), 1) := by decide +kernel
theorem dX9_monthLength_8 : decode cX9_monthLength 8 = .ok (.ireturn, 1) := by decide +kernel
theorem dX9_monthLength_9 : decode cX9_monthLength 9 = .ok (.aload_n 0, 1) := by decide +kernel
theorem dX9_monthLength_10 : decode cX9_monthLength 10 = .ok (.iload_n 1, 1) := by decide +kernel
theorem dX9_monthLength_11 : decode cX9_monthLength 11 = .ok (.iload_n 2, 1) := by decide +kernel
theorem dX9_monthLength_12 : decode cX9_monthLength 12 = .ok (.iload_n 3, 1) := by decide +kernel
theorem dX9_monthLength_13 : decode cX9_monthLength 13 = .ok (.invokevirtual 145, 3) := by decide +kernel
theorem dX9_monthLength_16 : decode cX9_monthLength 16 = .ok (.ifCond .eq 13, 3) := by decide +kernel
theorem dX9_monthLength_19 : decode cX9_monthLength 19 = .ok (.aload_n 0, 1) := by decide +kernel
theorem dX9_monthLength_20 : decode cX9_monthLength 20 = .ok (.iload_n 1, 1) := by decide +kernel
theorem dX9_monthLength_21 : decode cX9_monthLength 21 = .ok (.iload_n 2, 1) := by decide +kernel
theorem dX9_monthLength_22 : decode cX9_monthLength 22 = .ok (.iload_n 3, 1) := by decide +kernel
theorem dX9_monthLength_23 : decode cX9_monthLength 23 = .ok (.invokevirtual 116, 3) := by decide +kernel
theorem dX9_monthLength_26 : decode cX9_monthLength 26 = .ok (.goto 5, 3) := by decide +kernel
theorem dX9_monthLength_29 : decode cX9_monthLength 29 = .ok (.bipush (-2), 2) := by decide +kernel
theorem dX9_monthLength_31 : decode cX9_monthLength 31 = .ok (.ireturn, 1) := by decide +kernel
theorem dX9_yearLength_0 : decode cX9_yearLength 0 = .ok (.iload_n 1, 1) := by decide +kernel
theorem dX9_yearLength_1 : decode cX9_yearLength 1 = .ok (.invokestatic 142, 3) := by decide +kernel
theorem dX9_yearLength_4 : decode cX9_yearLength 4 = .ok (.ifCond .ne 5, 3) := by decide +kernel
theorem dX9_yearLength_7 : decode cX9_yearLength 7 = .ok (.iconst (-1), 1) := by decide +kernel
theorem dX9_yearLength_8 : decode cX9_yearLength 8 = .ok (.ireturn, 1) := by decide +kernel
theorem dX9_yearLength_9 : decode cX9_yearLength 9 = .ok (.aload_n 0, 1) := by decide +kernel
theorem dX9_yearLength_10 : decode cX9_yearLength 10 = .ok (.iload_n 1, 1) := by decide +kernel
theorem dX9_yearLength_11 : decode cX9_yearLength 11 = .ok (.iload_n 2, 1) := by decide +kernel
theorem dX9_yearLength_12 : decode cX9_yearLength 12 = .ok (.invokevirtual 120, 3) := by decide +kernel
theorem dX9_yearLength_15 : decode cX9_yearLength 15 = .ok (.ifCond .ne 6, 3) := by decide +kernel
theorem dX9_yearLength_18 : decode cX9_yearLength 18 = .ok (.bipush (-2), 2) := by decide +kernel
theorem dX9_yearLength_20 : decode cX9_yearLength 20 = .ok (.ireturn, 1) := by decide +kernel
theorem dX9_yearLength_21 : decode cX9_yearLength 21 = .ok (.iload_n 1, 1) := by decide +kernel
theorem dX9_yearLength_22 : decode cX9_yearLength 22 = .ok (.bipush 7, 2) := by decide +kernel
theorem dX9_yearLength_24 : decode cX9_yearLength 24 = .ok (.if_icmp .eq 17, 3) := by decide +kernel
theorem dX9_yearLength_27 : decode cX9_yearLength 27 = .ok (.iload_n 1, 1) := by decide +kernel
theorem dX9_yearLength_28 : decode cX9_yearLength 28 = .ok (.iload_n 2, 1) := by decide +kernel
theorem dX9_yearLength_29 : decode cX9_yearLength 29 = .ok (.iconst 1, 1) := by decide +kernel
theorem dX9_yearLength_30 : decode cX9_yearLength 30 = .ok (.iadd, 1) := by decide +kernel
theorem dX9_yearLength_31 : decode cX9_yearLength 31 = .ok (.invokestatic 109, 3) := by decide +kernel
theorem dX9_yearLength_34 : decode cX9_yearLength 34 = .ok (.iload_n 1, 1) := by decide +kernel
theorem dX9_yearLength_35 : decode cX9_yearLength 35 = .ok (.iload_n 2, 1) := by decide +kernel
theorem dX9_yearLength_36 : decode cX9_yearLength 36 = .ok (.invokestatic 109, 3) := by decide +kernel
theorem dX9_yearLength_39 : decode cX9_yearLength 39 = .ok (.isub, 1) := by decide +kernel
theorem dX9_yearLength_40 : decode cX9_yearLength 40 = .ok (.ireturn, 1) := by decide +kernel
theorem dX9_yearLength_41 : decode cX9_yearLength 41 = .ok (.iconst 0, 1) := by decide +kernel
theorem dX9_yearLength_42 : decode cX9_yearLength 42 = .ok (.istore_n 3, 1) := by decide +kernel
theorem dX9_yearLength_43 : decode cX9_yearLength 43 = .ok (.iconst 1, 1) := by decide +kernel
theorem dX9_yearLength_44 : decode cX9_yearLength 44 = .ok (.istore 4, 2) := by decide +kernel
theorem dX9_yearLength_46 : decode cX9_yearLength 46 = .ok (.iload 4, 2) := by decide +kernel
theorem dX9_yearLength_48 : decode cX9_yearLength 48 = .ok (.aload_n 0, 1) := by decide +kernel
theorem dX9_yearLength_49 : decode cX9_yearLength 49 = .ok (.bipush 7, 2) := by decide +kernel
theorem dX9_yearLength_51 : decode cX9_yearLength 51 = .ok (.iload_n 2, 1) := by decide +kernel
theorem dX9_yearLength_52 : decode cX9_yearLength 52 = .ok (.invokevirtual 123, 3) := by decide +kernel
theorem dX9_yearLength_55 : decode cX9_yearLength 55 = .ok (.if_icmp .gt 21, 3) := by decide +kernel
theorem dX9_yearLength_58 : decode cX9_yearLength 58 = .ok (.iload_n 3, 1) := by decide +kernel
theorem dX9_yearLength_59 : decode cX9_yearLength 59 = .ok (.aload_n 0, 1) := by decide +kernel
theorem dX9_yearLength_60 : decode cX9_yearLength 60 = .ok (.bipush 7, 2) := by decide +kernel
theorem dX9_yearLength_62 : decode cX9_yearLength 62 = .ok (.iload_n 2, 1) := by decide +kernel
theorem dX9_yearLength_63 : decode cX9_yearLength 63 = .ok (.iload 4, 2) := by decide +kernel
theorem dX9_yearLength_65 : decode cX9_yearLength 65 = .ok (.invokevirtual 116, 3) := by decide +kernel
theorem dX9_yearLength_68 : decode cX9_yearLength 68 = .ok (.iadd, 1) := by decide +kernel
theorem dX9_yearLength_69 : decode cX9_yearLength 69 = .ok (.istore_n 3, 1) := by decide +kernel
theorem dX9_yearLength_70 : decode cX9_yearLength 70 = .ok (.iinc 4 1, 3) := by decide +kernel
theorem dX9_yearLength_73 : decode cX9_yearLength 73 = .ok (.goto (-27), 3) := by decide +kernel
theorem dX9_yearLength_76 : decode cX9_yearLength 76 = .ok (.iload_n 3, 1) := by decide +kernel
theorem dX9_yearLength_77 : decode cX9_yearLength 77 = .ok (.ireturn, 1) := by decide +kernel
theorem dX9_months_0 : decode cX9_months 0 = .ok (.iload_n 1, 1) := by decide +kernel
theorem dX9_months_1 : decode cX9_months 1 = .ok (.invokestatic 142, 3) := by decide +kernel
theorem dX9_months_4 : decode cX9_months 4 = .ok (.ifCond .ne 5, 3) := by decide +kernel
theorem dX9_months_7 : decode cX9_months 7 = .ok (.iconst (-1), 1) := by decide +kernel
theorem dX9_months_8 : decode cX9_months 8 = .ok (.ireturn, 1) := by decide +kernel
theorem dX9_months_9 : decode cX9_months 9 = .ok (.aload_n 0, 1) := by decide +kernel
theorem dX9_months_10 : decode cX9_months 10 = .ok (.iload_n 1, 1) := by decide +kernel
theorem dX9_months_11 : decode cX9_months 11 = .ok (.iload_n 2, 1) := by decide +kernel
theorem dX9_months_12 : decode cX9_months 12 = .ok (.invokevirtual 120, 3) := by decide +kernel
theorem dX9_months_15 : decode cX9_months 15 = .ok (.ifCond .eq 12, 3) := by decide +kernel
theorem dX9_months_18 : decode cX9_months 18 = .ok (.aload_n 0, 1) := by decide +kernel
theorem dX9_months_19 : decode cX9_months 19 = .ok (.iload_n 1, 1) := by decide +kernel
theorem dX9_months_20 : decode cX9_months 20 = .ok (.iload_n 2, 1) := by decide +kernel
theorem dX9_months_21 : decode cX9_months 21 = .ok (.invokevirtual 123, 3) := by decide +kernel
theorem dX9_months_24 : decode cX9_months 24 = .ok (.goto 5, 3) := by decide +kernel
theorem dX9_months_27 : decode cX9_months 27 = .ok (.bipush (-2), 2) := by decide +kernel
theorem dX9_months_29 : decode cX9_months 29 = .ok (.ireturn, 1) := by decide +kernel
theorem dX9_cut_0 : decode cX9_cut 0 = .ok (.aload_n 0, 1) := by decide +kernel
theorem dX9_cut_1 : decode cX9_cut 1 = .ok (.iload_n 1, 1) := by decide +kernel
theorem dX9_cut_2 : decode cX9_cut 2 = .ok (.iload_n 2, 1) := by decide +kernel
theorem dX9_cut_3 : decode cX9_cut 3 = .ok (.invokevirtual 120, 3) := by decide +kernel
theorem dX9_cut_6 : decode cX9_cut 6 = .ok (.ifCond .ne 6, 3) := by decide +kernel
theorem dX9_cut_9 : decode cX9_cut 9 = .ok (.bipush (-3), 2) := by decide +kernel
theorem dX9_cut_11 : decode cX9_cut 11 = .ok (.ireturn, 1) := by decide +kernel
theorem dX9_cut_12 : decode cX9_cut 12 = .ok (.iload_n 3, 1) := by decide +kernel
theorem dX9_cut_13 : decode cX9_cut 13 = .ok (.aload_n 0, 1) := by decide +kernel
theorem dX9_cut_14 : decode cX9_cut 14 = .ok (.iload_n 1, 1) := by decide +kernel
theorem dX9_cut_15 : decode cX9_cut 15 = .ok (.iload_n 2, 1) := by decide +kernel
theorem dX9_cut_16 : decode cX9_cut 16 = .ok (.invokevirtual 123, 3) := by decide +kernel
theorem dX9_cut_19 : decode cX9_cut 19 = .ok (.if_icmp .le 12, 3) := by decide +kernel
theorem dX9_cut_22 : decode cX9_cut 22 = .ok (.aload_n 0, 1) := by decide +kernel
theorem dX9_cut_23 : decode cX9_cut 23 = .ok (.iload_n 1, 1) := by decide +kernel
theorem dX9_cut_24 : decode cX9_cut 24 = .ok (.iload_n 2, 1) := by decide +kernel
theorem dX9_cut_25 : decode cX9_cut 25 = .ok (.invokevirtual 123, 3) := by decide +kernel
theorem dX9_cut_28 : decode cX9_cut 28 = .ok (.goto 4, 3) := by decide +kernel
theorem dX9_cut_31 : decode cX9_cut 31 = .ok (.iload_n 3, 1) := by decide +kernel
theorem dX9_cut_32 : decode cX9_cut 32 = .ok (.istore 5, 2) := by decide +kernel
theorem dX9_cut_34 : decode cX9_cut 34 = .ok (.iload 4, 2) := by decide +kernel
theorem dX9_cut_36 : decode cX9_cut 36 = .ok (.aload_n 0, 1) := by decide +kernel
theorem dX9_cut_37 : decode cX9_cut 37 = .ok (.iload_n 1, 1) := by decide +kernel
theorem dX9_cut_38 : decode cX9_cut 38 = .ok (.iload_n 2, 1) := by decide +kernel
theorem dX9_cut_39 : decode cX9_cut 39 = .ok (.iload 5, 2) := by decide +kernel
theorem dX9_cut_41 : decode cX9_cut 41 = .ok (.invokevirtual 116, 3) := by decide +kernel
theorem dX9_cut_44 : decode cX9_cut 44 = .ok (.if_icmp .le 14, 3) := by decide +kernel
theorem dX9_cut_47 : decode cX9_cut 47 = .ok (.aload_n 0, 1) := by decide +kernel
theorem dX9_cut_48 : decode cX9_cut 48 = .ok (.iload_n 1, 1) := by decide +kernel
theorem dX9_cut_49 : decode cX9_cut 49 = .ok (.iload_n 2, 1) := by decide +kernel
theorem dX9_cut_50 : decode cX9_cut 50 = .ok (.iload 5, 2) := by decide +kernel
theorem dX9_cut_52 : decode cX9_cut 52 = .ok (.invokevirtual 116, 3) := by decide +kernel
theorem dX9_cut_55 : decode cX9_cut 55 = .ok (.goto 5, 3) := by decide +kernel
theorem dX9_cut_58 : decode cX9_cut 58 = .ok (.iload 4, 2) := by decide +kernel
theorem dX9_cut_60 : decode cX9_cut 60 = .ok (.istore 6, 2) := by decide +kernel
theorem dX9_cut_62 : decode cX9_cut 62 = .ok (.aload_n 0, 1) := by decide +kernel
theorem dX9_cut_63 : decode cX9_cut 63 = .ok (.iload_n 1, 1) := by decide +kernel
theorem dX9_cut_64 : decode cX9_cut 64 = .ok (.iload_n 2, 1) := by decide +kernel
theorem dX9_cut_65 : decode cX9_cut 65 = .ok (.iload 5, 2) := by decide +kernel
theorem dX9_cut_67 : decode cX9_cut 67 = .ok (.invokevirtual 148, 3) := by decide +kernel
theorem dX9_cut_70 : decode cX9_cut 70 = .ok (.iload 6, 2) := by decide +kernel
theorem dX9_cut_72 : decode cX9_cut 72 = .ok (.iadd, 1) := by decide +kernel
theorem dX9_cut_73 : decode cX9_cut 73 = .ok (.iconst 1, 1) := by decide +kernel
theorem dX9_cut_74 : decode cX9_cut 74 = .ok (.isub, 1) := by decide +kernel
theorem dX9_cut_75 : decode cX9_cut 75 = .ok (.istore 7, 2) := by decide +kernel
theorem dX9_cut_77 : decode cX9_cut 77 = .ok (.iload 7, 2) := by decide +kernel
theorem dX9_cut_79 : decode cX9_cut 79 = .ok (.i2l, 1) := by decide +kernel
theorem dX9_cut_80 : decode cX9_cut 80 = .ok (.invokestatic 151, 3) := by decide +kernel
theorem dX9_cut_83 : decode cX9_cut 83 = .ok (.ifCond .eq 8, 3) := by decide +kernel
theorem dX9_cut_86 : decode cX9_cut 86 = .ok (.iload 7, 2) := by decide +kernel
theorem dX9_cut_88 : decode cX9_cut 88 = .ok (.goto 5, 3) := by decide +kernel
theorem dX9_cut_91 : decode cX9_cut 91 = .ok (.bipush (-3), 2) := by decide +kernel
theorem dX9_cut_93 : decode cX9_cut 93 = .ok (.ireturn, 1) := by decide +kernel
theorem dX9_monthsOn_0 : decode cX9_monthsOn 0 = .ok (.aload_n 0, 1) := by decide +kernel
theorem dX9_monthsOn_1 : decode cX9_monthsOn 1 = .ok (.getfield 126, 3) := by decide +kernel
theorem dX9_monthsOn_4 : decode cX9_monthsOn 4 = .ok (.istore_n 3, 1) := by decide +kernel
theorem dX9_monthsOn_5 : decode cX9_monthsOn 5 = .ok (.aload_n 0, 1) := by decide +kernel
theorem dX9_monthsOn_6 : decode cX9_monthsOn 6 = .ok (.getfield 129, 3) := by decide +kernel
theorem dX9_monthsOn_9 : decode cX9_monthsOn 9 = .ok (.istore 4, 2) := by decide +kernel
theorem dX9_monthsOn_11 : decode cX9_monthsOn 11 = .ok (.iload_n 2, 1) := by decide +kernel
theorem dX9_monthsOn_12 : decode cX9_monthsOn 12 = .ok (.istore 5, 2) := by decide +kernel
theorem dX9_monthsOn_14 : decode cX9_monthsOn 14 = .ok (.iload 5, 2) := by decide +kernel
theorem dX9_monthsOn_16 : decode cX9_monthsOn 16 = .ok (.ifCond .le 51, 3) := by decide +kernel
theorem dX9_monthsOn_19 : decode cX9_monthsOn 19 = .ok (.iload 4, 2) := by decide +kernel
theorem dX9_monthsOn_21 : decode cX9_monthsOn 21 = .ok (.iload 5, 2) := by decide +kernel
theorem dX9_monthsOn_23 : decode cX9_monthsOn 23 = .ok (.iadd, 1) := by decide +kernel
theorem dX9_monthsOn_24 : decode cX9_monthsOn 24 = .ok (.aload_n 0, 1) := by decide +kernel
theorem dX9_monthsOn_25 : decode cX9_monthsOn 25 = .ok (.iload_n 1, 1) := by decide +kernel
theorem dX9_monthsOn_26 : decode cX9_monthsOn 26 = .ok (.iload_n 3, 1) := by decide +kernel
theorem dX9_monthsOn_27 : decode cX9_monthsOn 27 = .ok (.invokevirtual 123, 3) := by decide +kernel
theorem dX9_monthsOn_30 : decode cX9_monthsOn 30 = .ok (.if_icmp .le 37, 3) := by decide +kernel
theorem dX9_monthsOn_33 : decode cX9_monthsOn 33 = .ok (.iload 5, 2) := by decide +kernel
theorem dX9_monthsOn_35 : decode cX9_monthsOn 35 = .ok (.aload_n 0, 1) := by decide +kernel
theorem dX9_monthsOn_36 : decode cX9_monthsOn 36 = .ok (.iload_n 1, 1) := by decide +kernel
theorem dX9_monthsOn_37 : decode cX9_monthsOn 37 = .ok (.iload_n 3, 1) := by decide +kernel
theorem dX9_monthsOn_38 : decode cX9_monthsOn 38 = .ok (.invokevirtual 123, 3) := by decide +kernel
theorem dX9_monthsOn_41 : decode cX9_monthsOn 41 = .ok (.iload 4, 2) := by decide +kernel
theorem dX9_monthsOn_43 : decode cX9_monthsOn 43 = .ok (.isub, 1) := by decide +kernel
theorem dX9_monthsOn_44 : decode cX9_monthsOn 44 = .ok (.iconst 1, 1) := by decide +kernel
theorem dX9_monthsOn_45 : decode cX9_monthsOn 45 = .ok (.iadd, 1) := by decide +kernel
theorem dX9_monthsOn_46 : decode cX9_monthsOn 46 = .ok (.isub, 1) := by decide +kernel
theorem dX9_monthsOn_47 : decode cX9_monthsOn 47 = .ok (.istore 5, 2) := by decide +kernel
theorem dX9_monthsOn_49 : decode cX9_monthsOn 49 = .ok (.iinc 3 1, 3) := by decide +kernel
theorem dX9_monthsOn_52 : decode cX9_monthsOn 52 = .ok (.iconst 1, 1) := by decide +kernel
theorem dX9_monthsOn_53 : decode cX9_monthsOn 53 = .ok (.istore 4, 2) := by decide +kernel
theorem dX9_monthsOn_55 : decode cX9_monthsOn 55 = .ok (.aload_n 0, 1) := by decide +kernel
theorem dX9_monthsOn_56 : decode cX9_monthsOn 56 = .ok (.iload_n 1, 1) := by decide +kernel
theorem dX9_monthsOn_57 : decode cX9_monthsOn 57 = .ok (.iload_n 3, 1) := by decide +kernel
theorem dX9_monthsOn_58 : decode cX9_monthsOn 58 = .ok (.invokevirtual 120, 3) := by decide +kernel
theorem dX9_monthsOn_61 : decode cX9_monthsOn 61 = .ok (.ifCond .ne (-47), 3) := by decide +kernel
theorem dX9_monthsOn_64 : decode cX9_monthsOn 64 = .ok (.bipush (-3), 2) := by decide +kernel
theorem dX9_monthsOn_66 : decode cX9_monthsOn 66 = .ok (.ireturn, 1) := by decide +kernel
theorem dX9_monthsOn_67 : decode cX9_monthsOn 67 = .ok (.iload 5, 2) := by decide +kernel
theorem dX9_monthsOn_69 : decode cX9_monthsOn 69 = .ok (.ifCond .ge 45, 3) := by decide +kernel
theorem dX9_monthsOn_72 : decode cX9_monthsOn 72 = .ok (.iload 4, 2) := by decide +kernel
theorem dX9_monthsOn_74 : decode cX9_monthsOn 74 = .ok (.iload 5, 2) := by decide +kernel
theorem dX9_monthsOn_76 : decode cX9_monthsOn 76 = .ok (.iadd, 1) := by decide +kernel
theorem dX9_monthsOn_77 : decode cX9_monthsOn 77 = .ok (.iconst 1, 1) := by decide +kernel
theorem dX9_monthsOn_78 : decode cX9_monthsOn 78 = .ok (.if_icmp .ge 36, 3) := by decide +kernel
theorem dX9_monthsOn_81 : decode cX9_monthsOn 81 = .ok (.iload 5, 2) := by decide +kernel
theorem dX9_monthsOn_83 : decode cX9_monthsOn 83 = .ok (.iload 4, 2) := by decide +kernel
theorem dX9_monthsOn_85 : decode cX9_monthsOn 85 = .ok (.iadd, 1) := by decide +kernel
theorem dX9_monthsOn_86 : decode cX9_monthsOn 86 = .ok (.istore 5, 2) := by decide +kernel
theorem dX9_monthsOn_88 : decode cX9_monthsOn 88 = .ok (.iinc 3 (-1), 3) := by decide +kernel
theorem dX9_monthsOn_91 : decode cX9_monthsOn 91 = .ok (.aload_n 0, 1) := by decide +kernel
theorem dX9_monthsOn_92 : decode cX9_monthsOn 92 = .ok (.iload_n 1, 1) := by decide +kernel
theorem dX9_monthsOn_93 : decode cX9_monthsOn 93 = .ok (.iload_n 3, 1) := by decide +kernel
theorem dX9_monthsOn_94 : decode cX9_monthsOn 94 = .ok (.invokevirtual 120, 3) := by decide +kernel
theorem dX9_monthsOn_97 : decode cX9_monthsOn 97 = .ok (.ifCond .ne 6, 3) := by decide +kernel
theorem dX9_monthsOn_100 : decode cX9_monthsOn 100 = .ok (.bipush (-3), 2) := by decide +kernel
theorem dX9_monthsOn_102 : decode cX9_monthsOn 102 = .ok (.ireturn, 1) := by decide +kernel
theorem dX9_monthsOn_103 : decode cX9_monthsOn 103 = .ok (.aload_n 0, 1) := by decide +kernel
theorem dX9_monthsOn_104 : decode cX9_monthsOn 104 = .ok (.iload_n 1, 1) := by decide +kernel
theorem dX9_monthsOn_105 : decode cX9_monthsOn 105 = .ok (.iload_n 3, 1) := by decide +kernel
theorem dX9_monthsOn_106 : decode cX9_monthsOn 106 = .ok (.invokevirtual 123, 3) := by decide +kernel
theorem dX9_monthsOn_109 : decode cX9_monthsOn 109 = .ok (.istore 4, 2) := by decide +kernel
theorem dX9_monthsOn_111 : decode cX9_monthsOn 111 = .ok (.goto (-44), 3) := by decide +kernel
theorem dX9_monthsOn_114 : decode cX9_monthsOn 114 = .ok (.aload_n 0, 1) := by decide +kernel
theorem dX9_monthsOn_115 : decode cX9_monthsOn 115 = .ok (.iload_n 1, 1) := by decide +kernel
theorem dX9_monthsOn_116 : decode cX9_monthsOn 116 = .ok (.iload_n 3, 1) := by decide +kernel
theorem dX9_monthsOn_117 : decode cX9_monthsOn 117 = .ok (.iload 4, 2) := by decide +kernel
theorem dX9_monthsOn_119 : decode cX9_monthsOn 119 = .ok (.iload 5, 2) := by decide +kernel
theorem dX9_monthsOn_121 : decode cX9_monthsOn 121 = .ok (.iadd, 1) := by decide +kernel
theorem dX9_monthsOn_122 : decode cX9_monthsOn 122 = .ok (.aload_n 0, 1) := by decide +kernel
theorem dX9_monthsOn_123 : decode cX9_monthsOn 123 = .ok (.getfield 132, 3) := by decide +kernel
theorem dX9_monthsOn_126 : decode cX9_monthsOn 126 = .ok (.invokevirtual 158, 3) := by decide +kernel
theorem dX9_monthsOn_129 : decode cX9_monthsOn 129 = .ok (.ireturn, 1) := by decide +kernel
theorem dX9_added_0 : decode cX9_added 0 = .ok (.iload_n 1, 1) := by decide +kernel
theorem dX9_added_1 : decode cX9_added 1 = .ok (.invokestatic 142, 3) := by decide +kernel
theorem dX9_added_4 : decode cX9_added 4 = .ok (.ifCond .eq 15, 3) := by decide +kernel
theorem dX9_added_7 : decode cX9_added 7 = .ok (.iload_n 3, 1) := by decide +kernel
theorem dX9_added_8 : decode cX9_added 8 = .ok (.iload 4, 2) := by decide +kernel
theorem dX9_added_10 : decode cX9_added 10 = .ok (.ineg, 1) := by decide +kernel
theorem dX9_added_11 : decode cX9_added 11 = .ok (.iload 4, 2) := by decide +kernel
theorem dX9_added_13 : decode cX9_added 13 = .ok (.invokestatic 138, 3) := by decide +kernel
theorem dX9_added_16 : decode cX9_added 16 = .ok (.ifCond .ne 5, 3) := by decide +kernel
theorem dX9_added_19 : decode cX9_added 19 = .ok (.iconst (-1), 1) := by decide +kernel
theorem dX9_added_20 : decode cX9_added 20 = .ok (.ireturn, 1) := by decide +kernel
theorem dX9_added_21 : decode cX9_added 21 = .ok (.iload_n 2, 1) := by decide +kernel
theorem dX9_added_22 : decode cX9_added 22 = .ok (.i2l, 1) := by decide +kernel
theorem dX9_added_23 : decode cX9_added 23 = .ok (.invokestatic 151, 3) := by decide +kernel
theorem dX9_added_26 : decode cX9_added 26 = .ok (.ifCond .ne 6, 3) := by decide +kernel
theorem dX9_added_29 : decode cX9_added 29 = .ok (.bipush (-3), 2) := by decide +kernel
theorem dX9_added_31 : decode cX9_added 31 = .ok (.ireturn, 1) := by decide +kernel
theorem dX9_added_32 : decode cX9_added 32 = .ok (.aload_n 0, 1) := by decide +kernel
theorem dX9_added_33 : decode cX9_added 33 = .ok (.iload_n 1, 1) := by decide +kernel
theorem dX9_added_34 : decode cX9_added 34 = .ok (.iload_n 2, 1) := by decide +kernel
theorem dX9_added_35 : decode cX9_added 35 = .ok (.invokevirtual 155, 3) := by decide +kernel
theorem dX9_added_38 : decode cX9_added 38 = .ok (.ifCond .ne 6, 3) := by decide +kernel
theorem dX9_added_41 : decode cX9_added 41 = .ok (.bipush (-2), 2) := by decide +kernel
theorem dX9_added_43 : decode cX9_added 43 = .ok (.ireturn, 1) := by decide +kernel
theorem dX9_added_44 : decode cX9_added 44 = .ok (.iload 5, 2) := by decide +kernel
theorem dX9_added_46 : decode cX9_added 46 = .ok (.ifCond .eq 25, 3) := by decide +kernel
theorem dX9_added_49 : decode cX9_added 49 = .ok (.aload_n 0, 1) := by decide +kernel
theorem dX9_added_50 : decode cX9_added 50 = .ok (.iload_n 1, 1) := by decide +kernel
theorem dX9_added_51 : decode cX9_added 51 = .ok (.aload_n 0, 1) := by decide +kernel
theorem dX9_added_52 : decode cX9_added 52 = .ok (.getfield 126, 3) := by decide +kernel
theorem dX9_added_55 : decode cX9_added 55 = .ok (.iload_n 3, 1) := by decide +kernel
theorem dX9_added_56 : decode cX9_added 56 = .ok (.iadd, 1) := by decide +kernel
theorem dX9_added_57 : decode cX9_added 57 = .ok (.aload_n 0, 1) := by decide +kernel
theorem dX9_added_58 : decode cX9_added 58 = .ok (.getfield 129, 3) := by decide +kernel
theorem dX9_added_61 : decode cX9_added 61 = .ok (.aload_n 0, 1) := by decide +kernel
theorem dX9_added_62 : decode cX9_added 62 = .ok (.getfield 132, 3) := by decide +kernel
theorem dX9_added_65 : decode cX9_added 65 = .ok (.invokevirtual 158, 3) := by decide +kernel
theorem dX9_added_68 : decode cX9_added 68 = .ok (.goto 9, 3) := by decide +kernel
theorem dX9_added_71 : decode cX9_added 71 = .ok (.aload_n 0, 1) := by decide +kernel
theorem dX9_added_72 : decode cX9_added 72 = .ok (.iload_n 1, 1) := by decide +kernel
theorem dX9_added_73 : decode cX9_added 73 = .ok (.iload_n 3, 1) := by decide +kernel
theorem dX9_added_74 : decode cX9_added 74 = .ok (.invokevirtual 162, 3) := by decide +kernel
theorem dX9_added_77 : decode cX9_added 77 = .ok (.ireturn, 1) := by decide +kernel
theorem dX9_addMonths_0 : decode cX9_addMonths 0 = .ok (.aload_n 0, 1) := by decide +kernel
theorem dX9_addMonths_1 : decode cX9_addMonths 1 = .ok (.iload_n 1, 1) := by decide +kernel
theorem dX9_addMonths_2 : decode cX9_addMonths 2 = .ok (.iload_n 2, 1) := by decide +kernel
theorem dX9_addMonths_3 : decode cX9_addMonths 3 = .ok (.iload_n 3, 1) := by decide +kernel
theorem dX9_addMonths_4 : decode cX9_addMonths 4 = .ok (.ldc 165, 2) := by decide +kernel
theorem dX9_addMonths_6 : decode cX9_addMonths 6 = .ok (.iconst 0, 1) := by decide +kernel
theorem dX9_addMonths_7 : decode cX9_addMonths 7 = .ok (.invokevirtual 166, 3) := by decide +kernel
theorem dX9_addMonths_10 : decode cX9_addMonths 10 = .ok (.ireturn, 1) := by decide +kernel
theorem dX9_addYears_0 : decode cX9_addYears 0 = .ok (.aload_n 0, 1) := by decide +kernel
theorem dX9_addYears_1 : decode cX9_addYears 1 = .ok (.iload_n 1, 1) := by decide +kernel
theorem dX9_addYears_2 : decode cX9_addYears 2 = .ok (.iload_n 2, 1) := by decide +kernel
theorem dX9_addYears_3 : decode cX9_addYears 3 = .ok (.iload_n 3, 1) := by decide +kernel
theorem dX9_addYears_4 : decode cX9_addYears 4 = .ok (.sipush 5000, 3) := by decide +kernel
theorem dX9_addYears_7 : decode cX9_addYears 7 = .ok (.iconst 1, 1) := by decide +kernel
theorem dX9_addYears_8 : decode cX9_addYears 8 = .ok (.invokevirtual 166, 3) := by decide +kernel
theorem dX9_addYears_11 : decode cX9_addYears 11 = .ok (.ireturn, 1) := by decide +kernel
theorem dX9_difference_0 : decode cX9_difference 0 = .ok (.iload_n 1, 1) := by decide +kernel
theorem dX9_difference_1 : decode cX9_difference 1 = .ok (.invokestatic 142, 3) := by decide +kernel
theorem dX9_difference_4 : decode cX9_difference 4 = .ok (.ifCond .eq 18, 3) := by decide +kernel
theorem dX9_difference_7 : decode cX9_difference 7 = .ok (.iload 4, 2) := by decide +kernel
theorem dX9_difference_9 : decode cX9_difference 9 = .ok (.iconst 0, 1) := by decide +kernel
theorem dX9_difference_10 : decode cX9_difference 10 = .ok (.iconst 2, 1) := by decide +kernel
theorem dX9_difference_11 : decode cX9_difference 11 = .ok (.invokestatic 138, 3) := by decide +kernel
theorem dX9_difference_14 : decode cX9_difference 14 = .ok (.ifCond .eq 8, 3) := by decide +kernel
theorem dX9_difference_17 : decode cX9_difference 17 = .ok (.iload_n 3, 1) := by decide +kernel
theorem dX9_difference_18 : decode cX9_difference 18 = .ok (.iload_n 2, 1) := by decide +kernel
theorem dX9_difference_19 : decode cX9_difference 19 = .ok (.if_icmp .ge 5, 3) := by decide +kernel
theorem dX9_difference_22 : decode cX9_difference 22 = .ok (.iconst (-1), 1) := by decide +kernel
theorem dX9_difference_23 : decode cX9_difference 23 = .ok (.ireturn, 1) := by decide +kernel
theorem dX9_difference_24 : decode cX9_difference 24 = .ok (.iload_n 2, 1) := by decide +kernel
theorem dX9_difference_25 : decode cX9_difference 25 = .ok (.i2l, 1) := by decide +kernel
theorem dX9_difference_26 : decode cX9_difference 26 = .ok (.invokestatic 151, 3) := by decide +kernel
theorem dX9_difference_29 : decode cX9_difference 29 = .ok (.ifCond .eq 11, 3) := by decide +kernel
theorem dX9_difference_32 : decode cX9_difference 32 = .ok (.iload_n 3, 1) := by decide +kernel
theorem dX9_difference_33 : decode cX9_difference 33 = .ok (.i2l, 1) := by decide +kernel
theorem dX9_difference_34 : decode cX9_difference 34 = .ok (.invokestatic 151, 3) := by decide +kernel
theorem dX9_difference_37 : decode cX9_difference 37 = .ok (.ifCond .ne 6, 3) := by decide +kernel
theorem dX9_difference_40 : decode cX9_difference 40 = .ok (.bipush (-3), 2) := by decide +kernel
theorem dX9_difference_42 : decode cX9_difference 42 = .ok (.ireturn, 1) := by decide +kernel
theorem dX9_difference_43 : decode cX9_difference 43 = .ok (.aload_n 0, 1) := by decide +kernel
theorem dX9_difference_44 : decode cX9_difference 44 = .ok (.iload_n 1, 1) := by decide +kernel
theorem dX9_difference_45 : decode cX9_difference 45 = .ok (.iload_n 2, 1) := by decide +kernel
theorem dX9_difference_46 : decode cX9_difference 46 = .ok (.invokevirtual 155, 3) := by decide +kernel
theorem dX9_difference_49 : decode cX9_difference 49 = .ok (.ifCond .ne 6, 3) := by decide +kernel
theorem dX9_difference_52 : decode cX9_difference 52 = .ok (.bipush (-2), 2) := by decide +kernel
theorem dX9_difference_54 : decode cX9_difference 54 = .ok (.ireturn, 1) := by decide +kernel
theorem dX9_difference_55 : decode cX9_difference 55 = .ok (.iload_n 2, 1) := by decide +kernel
theorem dX9_difference_56 : decode cX9_difference 56 = .ok (.istore 5, 2) := by decide +kernel
theorem dX9_difference_58 : decode cX9_difference 58 = .ok (.iconst 0, 1) := by decide +kernel
theorem dX9_difference_59 : decode cX9_difference 59 = .ok (.istore 6, 2) := by decide +kernel
theorem dX9_difference_61 : decode cX9_difference 61 = .ok (.iconst 1, 1) := by decide +kernel
theorem dX9_difference_62 : decode cX9_difference 62 = .ok (.istore 7, 2) := by decide +kernel
theorem dX9_difference_64 : decode cX9_difference 64 = .ok (.iload 7, 2) := by decide +kernel
theorem dX9_difference_66 : decode cX9_difference 66 = .ok (.ifCond .eq 77, 3) := by decide +kernel
theorem dX9_difference_69 : decode cX9_difference 69 = .ok (.aload_n 0, 1) := by decide +kernel
theorem dX9_difference_70 : decode cX9_difference 70 = .ok (.iload_n 1, 1) := by decide +kernel
theorem dX9_difference_71 : decode cX9_difference 71 = .ok (.aload_n 0, 1) := by decide +kernel
theorem dX9_difference_72 : decode cX9_difference 72 = .ok (.getfield 126, 3) := by decide +kernel
theorem dX9_difference_75 : decode cX9_difference 75 = .ok (.iload 6, 2) := by decide +kernel
theorem dX9_difference_77 : decode cX9_difference 77 = .ok (.iadd, 1) := by decide +kernel
theorem dX9_difference_78 : decode cX9_difference 78 = .ok (.iconst 1, 1) := by decide +kernel
theorem dX9_difference_79 : decode cX9_difference 79 = .ok (.iadd, 1) := by decide +kernel
theorem dX9_difference_80 : decode cX9_difference 80 = .ok (.aload_n 0, 1) := by decide +kernel
theorem dX9_difference_81 : decode cX9_difference 81 = .ok (.getfield 129, 3) := by decide +kernel
theorem dX9_difference_84 : decode cX9_difference 84 = .ok (.aload_n 0, 1) := by decide +kernel
theorem dX9_difference_85 : decode cX9_difference 85 = .ok (.getfield 132, 3) := by decide +kernel
theorem dX9_difference_88 : decode cX9_difference 88 = .ok (.invokevirtual 158, 3) := by decide +kernel
theorem dX9_difference_91 : decode cX9_difference 91 = .ok (.istore 8, 2) := by decide +kernel
theorem dX9_difference_93 : decode cX9_difference 93 = .ok (.iload 8, 2) := by decide +kernel
theorem dX9_difference_95 : decode cX9_difference 95 = .ok (.ifCond .lt 13, 3) := by decide +kernel
theorem dX9_difference_98 : decode cX9_difference 98 = .ok (.iload 8, 2) := by decide +kernel
theorem dX9_difference_100 : decode cX9_difference 100 = .ok (.iload_n 3, 1) := by decide +kernel
theorem dX9_difference_101 : decode cX9_difference 101 = .ok (.if_icmp .gt 7, 3) := by decide +kernel
theorem dX9_difference_104 : decode cX9_difference 104 = .ok (.iconst 1, 1) := by decide +kernel
theorem dX9_difference_105 : decode cX9_difference 105 = .ok (.goto 4, 3) := by decide +kernel
theorem dX9_difference_108 : decode cX9_difference 108 = .ok (.iconst 0, 1) := by decide +kernel
theorem dX9_difference_109 : decode cX9_difference 109 = .ok (.istore 7, 2) := by decide +kernel
theorem dX9_difference_111 : decode cX9_difference 111 = .ok (.iload 6, 2) := by decide +kernel
theorem dX9_difference_113 : decode cX9_difference 113 = .ok (.iload 7, 2) := by decide +kernel
theorem dX9_difference_115 : decode cX9_difference 115 = .ok (.ifCond .eq 7, 3) := by decide +kernel
theorem dX9_difference_118 : decode cX9_difference 118 = .ok (.iconst 1, 1) := by decide +kernel
theorem dX9_difference_119 : decode cX9_difference 119 = .ok (.goto 4, 3) := by decide +kernel
theorem dX9_difference_122 : decode cX9_difference 122 = .ok (.iconst 0, 1) := by decide +kernel
theorem dX9_difference_123 : decode cX9_difference 123 = .ok (.iadd, 1) := by decide +kernel
theorem dX9_difference_124 : decode cX9_difference 124 = .ok (.istore 6, 2) := by decide +kernel
theorem dX9_difference_126 : decode cX9_difference 126 = .ok (.iload 7, 2) := by decide +kernel
theorem dX9_difference_128 : decode cX9_difference 128 = .ok (.ifCond .eq 8, 3) := by decide +kernel
theorem dX9_difference_131 : decode cX9_difference 131 = .ok (.iload 8, 2) := by decide +kernel
theorem dX9_difference_133 : decode cX9_difference 133 = .ok (.goto 5, 3) := by decide +kernel
theorem dX9_difference_136 : decode cX9_difference 136 = .ok (.iload 5, 2) := by decide +kernel
theorem dX9_difference_138 : decode cX9_difference 138 = .ok (.istore 5, 2) := by decide +kernel
theorem dX9_difference_140 : decode cX9_difference 140 = .ok (.goto (-76), 3) := by decide +kernel
theorem dX9_difference_143 : decode cX9_difference 143 = .ok (.iload 4, 2) := by decide +kernel
theorem dX9_difference_145 : decode cX9_difference 145 = .ok (.ifCond .ne 6, 3) := by decide +kernel
theorem dX9_difference_148 : decode cX9_difference 148 = .ok (.iload 6, 2) := by decide +kernel
theorem dX9_difference_150 : decode cX9_difference 150 = .ok (.ireturn, 1) := by decide +kernel
theorem dX9_difference_151 : decode cX9_difference 151 = .ok (.aload_n 0, 1) := by decide +kernel
theorem dX9_difference_152 : decode cX9_difference 152 = .ok (.iload_n 1, 1) := by decide +kernel
theorem dX9_difference_153 : decode cX9_difference 153 = .ok (.iload 5, 2) := by decide +kernel
theorem dX9_difference_155 : decode cX9_difference 155 = .ok (.invokevirtual 155, 3) := by decide +kernel
theorem dX9_difference_158 : decode cX9_difference 158 = .ok (.istore 8, 2) := by decide +kernel
theorem dX9_difference_160 : decode cX9_difference 160 = .ok (.iload 5, 2) := by decide +kernel
theorem dX9_difference_162 : decode cX9_difference 162 = .ok (.istore 9, 2) := by decide +kernel
theorem dX9_difference_164 : decode cX9_difference 164 = .ok (.iconst 0, 1) := by decide +kernel
theorem dX9_difference_165 : decode cX9_difference 165 = .ok (.istore 10, 2) := by decide +kernel
theorem dX9_difference_167 : decode cX9_difference 167 = .ok (.iconst 1, 1) := by decide +kernel
theorem dX9_difference_168 : decode cX9_difference 168 = .ok (.istore 7, 2) := by decide +kernel
theorem dX9_difference_170 : decode cX9_difference 170 = .ok (.iload 7, 2) := by decide +kernel
theorem dX9_difference_172 : decode cX9_difference 172 = .ok (.ifCond .eq 64, 3) := by decide +kernel
theorem dX9_difference_175 : decode cX9_difference 175 = .ok (.aload_n 0, 1) := by decide +kernel
theorem dX9_difference_176 : decode cX9_difference 176 = .ok (.iload_n 1, 1) := by decide +kernel
theorem dX9_difference_177 : decode cX9_difference 177 = .ok (.iload 10, 2) := by decide +kernel
theorem dX9_difference_179 : decode cX9_difference 179 = .ok (.iconst 1, 1) := by decide +kernel
theorem dX9_difference_180 : decode cX9_difference 180 = .ok (.iadd, 1) := by decide +kernel
theorem dX9_difference_181 : decode cX9_difference 181 = .ok (.invokevirtual 162, 3) := by decide +kernel
theorem dX9_difference_184 : decode cX9_difference 184 = .ok (.istore 11, 2) := by decide +kernel
theorem dX9_difference_186 : decode cX9_difference 186 = .ok (.iload 11, 2) := by decide +kernel
theorem dX9_difference_188 : decode cX9_difference 188 = .ok (.ifCond .lt 13, 3) := by decide +kernel
theorem dX9_difference_191 : decode cX9_difference 191 = .ok (.iload 11, 2) := by decide +kernel
theorem dX9_difference_193 : decode cX9_difference 193 = .ok (.iload_n 3, 1) := by decide +kernel
theorem dX9_difference_194 : decode cX9_difference 194 = .ok (.if_icmp .gt 7, 3) := by decide +kernel
theorem dX9_difference_197 : decode cX9_difference 197 = .ok (.iconst 1, 1) := by decide +kernel
theorem dX9_difference_198 : decode cX9_difference 198 = .ok (.goto 4, 3) := by decide +kernel
theorem dX9_difference_201 : decode cX9_difference 201 = .ok (.iconst 0, 1) := by decide +kernel
theorem dX9_difference_202 : decode cX9_difference 202 = .ok (.istore 7, 2) := by decide +kernel
theorem dX9_difference_204 : decode cX9_difference 204 = .ok (.iload 10, 2) := by decide +kernel
theorem dX9_difference_206 : decode cX9_difference 206 = .ok (.iload 7, 2) := by decide +kernel
theorem dX9_difference_208 : decode cX9_difference 208 = .ok (.ifCond .eq 7, 3) := by decide +kernel
theorem dX9_difference_211 : decode cX9_difference 211 = .ok (.iconst 1, 1) := by decide +kernel
theorem dX9_difference_212 : decode cX9_difference 212 = .ok (.goto 4, 3) := by decide +kernel
theorem dX9_difference_215 : decode cX9_difference 215 = .ok (.iconst 0, 1) := by decide +kernel
theorem dX9_difference_216 : decode cX9_difference 216 = .ok (.iadd, 1) := by decide +kernel
theorem dX9_difference_217 : decode cX9_difference 217 = .ok (.istore 10, 2) := by decide +kernel
theorem dX9_difference_219 : decode cX9_difference 219 = .ok (.iload 7, 2) := by decide +kernel
theorem dX9_difference_221 : decode cX9_difference 221 = .ok (.ifCond .eq 8, 3) := by decide +kernel
theorem dX9_difference_224 : decode cX9_difference 224 = .ok (.iload 11, 2) := by decide +kernel
theorem dX9_difference_226 : decode cX9_difference 226 = .ok (.goto 5, 3) := by decide +kernel
theorem dX9_difference_229 : decode cX9_difference 229 = .ok (.iload 9, 2) := by decide +kernel
theorem dX9_difference_231 : decode cX9_difference 231 = .ok (.istore 9, 2) := by decide +kernel
theorem dX9_difference_233 : decode cX9_difference 233 = .ok (.goto (-63), 3) := by decide +kernel
theorem dX9_difference_236 : decode cX9_difference 236 = .ok (.iload 4, 2) := by decide +kernel
theorem dX9_difference_238 : decode cX9_difference 238 = .ok (.iconst 1, 1) := by decide +kernel
theorem dX9_difference_239 : decode cX9_difference 239 = .ok (.if_icmp .ne 8, 3) := by decide +kernel
theorem dX9_difference_242 : decode cX9_difference 242 = .ok (.iload 10, 2) := by decide +kernel
theorem dX9_difference_244 : decode cX9_difference 244 = .ok (.goto 7, 3) := by decide +kernel
theorem dX9_difference_247 : decode cX9_difference 247 = .ok (.iload_n 3, 1) := by decide +kernel
theorem dX9_difference_248 : decode cX9_difference 248 = .ok (.iload 9, 2) := by decide +kernel
theorem dX9_difference_250 : decode cX9_difference 250 = .ok (.isub, 1) := by decide +kernel
theorem dX9_difference_251 : decode cX9_difference 251 = .ok (.ireturn, 1) := by decide +kernel
theorem dX9_birthday_0 : decode cX9_birthday 0 = .ok (.iload_n 1, 1) := by decide +kernel
theorem dX9_birthday_1 : decode cX9_birthday 1 = .ok (.iconst 0, 1) := by decide +kernel
theorem dX9_birthday_2 : decode cX9_birthday 2 = .ok (.bipush 6, 2) := by decide +kernel
theorem dX9_birthday_4 : decode cX9_birthday 4 = .ok (.invokestatic 138, 3) := by decide +kernel
theorem dX9_birthday_7 : decode cX9_birthday 7 = .ok (.ifCond .ne 5, 3) := by decide +kernel
theorem dX9_birthday_10 : decode cX9_birthday 10 = .ok (.iconst (-1), 1) := by decide +kernel
theorem dX9_birthday_11 : decode cX9_birthday 11 = .ok (.ireturn, 1) := by decide +kernel
theorem dX9_birthday_12 : decode cX9_birthday 12 = .ok (.aload_n 0, 1) := by decide +kernel
theorem dX9_birthday_13 : decode cX9_birthday 13 = .ok (.iconst 0, 1) := by decide +kernel
theorem dX9_birthday_14 : decode cX9_birthday 14 = .ok (.iload_n 3, 1) := by decide +kernel
theorem dX9_birthday_15 : decode cX9_birthday 15 = .ok (.invokevirtual 120, 3) := by decide +kernel
theorem dX9_birthday_18 : decode cX9_birthday 18 = .ok (.ifCond .ne 6, 3) := by decide +kernel
theorem dX9_birthday_21 : decode cX9_birthday 21 = .ok (.bipush (-2), 2) := by decide +kernel
theorem dX9_birthday_23 : decode cX9_birthday 23 = .ok (.ireturn, 1) := by decide +kernel
theorem dX9_birthday_24 : decode cX9_birthday 24 = .ok (.iload_n 2, 1) := by decide +kernel
theorem dX9_birthday_25 : decode cX9_birthday 25 = .ok (.i2l, 1) := by decide +kernel
theorem dX9_birthday_26 : decode cX9_birthday 26 = .ok (.invokestatic 151, 3) := by decide +kernel
theorem dX9_birthday_29 : decode cX9_birthday 29 = .ok (.ifCond .ne 6, 3) := by decide +kernel
theorem dX9_birthday_32 : decode cX9_birthday 32 = .ok (.bipush (-3), 2) := by decide +kernel
theorem dX9_birthday_34 : decode cX9_birthday 34 = .ok (.ireturn, 1) := by decide +kernel
theorem dX9_birthday_35 : decode cX9_birthday 35 = .ok (.aload_n 0, 1) := by decide +kernel
theorem dX9_birthday_36 : decode cX9_birthday 36 = .ok (.iload_n 1, 1) := by decide +kernel
theorem dX9_birthday_37 : decode cX9_birthday 37 = .ok (.iload_n 2, 1) := by decide +kernel
theorem dX9_birthday_38 : decode cX9_birthday 38 = .ok (.invokevirtual 155, 3) := by decide +kernel
theorem dX9_birthday_41 : decode cX9_birthday 41 = .ok (.istore 4, 2) := by decide +kernel
theorem dX9_birthday_43 : decode cX9_birthday 43 = .ok (.iconst 0, 1) := by decide +kernel
theorem dX9_birthday_44 : decode cX9_birthday 44 = .ok (.iload_n 3, 1) := by decide +kernel
theorem dX9_birthday_45 : decode cX9_birthday 45 = .ok (.invokestatic 109, 3) := by decide +kernel
theorem dX9_birthday_48 : decode cX9_birthday 48 = .ok (.istore 5, 2) := by decide +kernel
theorem dX9_birthday_50 : decode cX9_birthday 50 = .ok (.iconst 0, 1) := by decide +kernel
theorem dX9_birthday_51 : decode cX9_birthday 51 = .ok (.iload_n 3, 1) := by decide +kernel
theorem dX9_birthday_52 : decode cX9_birthday 52 = .ok (.iconst 1, 1) := by decide +kernel
theorem dX9_birthday_53 : decode cX9_birthday 53 = .ok (.iadd, 1) := by decide +kernel
theorem dX9_birthday_54 : decode cX9_birthday 54 = .ok (.invokestatic 109, 3) := by decide +kernel
theorem dX9_birthday_57 : decode cX9_birthday 57 = .ok (.iconst 1, 1) := by decide +kernel
theorem dX9_birthday_58 : decode cX9_birthday 58 = .ok (.isub, 1) := by decide +kernel
theorem dX9_birthday_59 : decode cX9_birthday 59 = .ok (.istore 6, 2) := by decide +kernel
theorem dX9_birthday_61 : decode cX9_birthday 61 = .ok (.iload 5, 2) := by decide +kernel
theorem dX9_birthday_63 : decode cX9_birthday 63 = .ok (.ifCond .gt 10, 3) := by decide +kernel
theorem dX9_birthday_66 : decode cX9_birthday 66 = .ok (.iload_n 1, 1) := by decide +kernel
theorem dX9_birthday_67 : decode cX9_birthday 67 = .ok (.invokestatic 81, 3) := by decide +kernel
theorem dX9_birthday_70 : decode cX9_birthday 70 = .ok (.goto 11, 3) := by decide +kernel
theorem dX9_birthday_73 : decode cX9_birthday 73 = .ok (.iload_n 1, 1) := by decide +kernel
theorem dX9_birthday_74 : decode cX9_birthday 74 = .ok (.iload 5, 2) := by decide +kernel
theorem dX9_birthday_76 : decode cX9_birthday 76 = .ok (.invokestatic 135, 3) := by decide +kernel
theorem dX9_birthday_79 : decode cX9_birthday 79 = .ok (.iconst 1, 1) := by decide +kernel
theorem dX9_birthday_80 : decode cX9_birthday 80 = .ok (.isub, 1) := by decide +kernel
theorem dX9_birthday_81 : decode cX9_birthday 81 = .ok (.istore 7, 2) := by decide +kernel
theorem dX9_birthday_83 : decode cX9_birthday 83 = .ok (.iload 7, 2) := by decide +kernel
theorem dX9_birthday_85 : decode cX9_birthday 85 = .ok (.iload_n 1, 1) := by decide +kernel
theorem dX9_birthday_86 : decode cX9_birthday 86 = .ok (.invokestatic 81, 3) := by decide +kernel
theorem dX9_birthday_89 : decode cX9_birthday 89 = .ok (.if_icmp .ge 10, 3) := by decide +kernel
theorem dX9_birthday_92 : decode cX9_birthday 92 = .ok (.iload_n 1, 1) := by decide +kernel
theorem dX9_birthday_93 : decode cX9_birthday 93 = .ok (.invokestatic 81, 3) := by decide +kernel
theorem dX9_birthday_96 : decode cX9_birthday 96 = .ok (.goto 5, 3) := by decide +kernel
theorem dX9_birthday_99 : decode cX9_birthday 99 = .ok (.iload 7, 2) := by decide +kernel
theorem dX9_birthday_101 : decode cX9_birthday 101 = .ok (.istore 7, 2) := by decide +kernel
theorem dX9_birthday_103 : decode cX9_birthday 103 = .ok (.iconst 0, 1) := by decide +kernel
theorem dX9_birthday_104 : decode cX9_birthday 104 = .ok (.istore 8, 2) := by decide +kernel
theorem dX9_birthday_106 : decode cX9_birthday 106 = .ok (.iload 8, 2) := by decide +kernel
theorem dX9_birthday_108 : decode cX9_birthday 108 = .ok (.iconst 5, 1) := by decide +kernel
theorem dX9_birthday_109 : decode cX9_birthday 109 = .ok (.if_icmp .ge 51, 3) := by decide +kernel
theorem dX9_birthday_112 : decode cX9_birthday 112 = .ok (.aload_n 0, 1) := by decide +kernel
theorem dX9_birthday_113 : decode cX9_birthday 113 = .ok (.iload_n 1, 1) := by decide +kernel
theorem dX9_birthday_114 : decode cX9_birthday 114 = .ok (.iload 7, 2) := by decide +kernel
theorem dX9_birthday_116 : decode cX9_birthday 116 = .ok (.iload 8, 2) := by decide +kernel
theorem dX9_birthday_118 : decode cX9_birthday 118 = .ok (.iadd, 1) := by decide +kernel
theorem dX9_birthday_119 : decode cX9_birthday 119 = .ok (.aload_n 0, 1) := by decide +kernel
theorem dX9_birthday_120 : decode cX9_birthday 120 = .ok (.getfield 129, 3) := by decide +kernel
theorem dX9_birthday_123 : decode cX9_birthday 123 = .ok (.aload_n 0, 1) := by decide +kernel
theorem dX9_birthday_124 : decode cX9_birthday 124 = .ok (.getfield 132, 3) := by decide +kernel
theorem dX9_birthday_127 : decode cX9_birthday 127 = .ok (.invokevirtual 158, 3) := by decide +kernel
theorem dX9_birthday_130 : decode cX9_birthday 130 = .ok (.istore 9, 2) := by decide +kernel
theorem dX9_birthday_132 : decode cX9_birthday 132 = .ok (.iload 9, 2) := by decide +kernel
theorem dX9_birthday_134 : decode cX9_birthday 134 = .ok (.ifCond .lt 20, 3) := by decide +kernel
theorem dX9_birthday_137 : decode cX9_birthday 137 = .ok (.iload 9, 2) := by decide +kernel
theorem dX9_birthday_139 : decode cX9_birthday 139 = .ok (.iload 5, 2) := by decide +kernel
theorem dX9_birthday_141 : decode cX9_birthday 141 = .ok (.if_icmp .lt 13, 3) := by decide +kernel
theorem dX9_birthday_144 : decode cX9_birthday 144 = .ok (.iload 9, 2) := by decide +kernel
theorem dX9_birthday_146 : decode cX9_birthday 146 = .ok (.iload 6, 2) := by decide +kernel
theorem dX9_birthday_148 : decode cX9_birthday 148 = .ok (.if_icmp .gt 6, 3) := by decide +kernel
theorem dX9_birthday_151 : decode cX9_birthday 151 = .ok (.iload 9, 2) := by decide +kernel
theorem dX9_birthday_153 : decode cX9_birthday 153 = .ok (.ireturn, 1) := by decide +kernel
theorem dX9_birthday_154 : decode cX9_birthday 154 = .ok (.iinc 8 1, 3) := by decide +kernel
theorem dX9_birthday_157 : decode cX9_birthday 157 = .ok (.goto (-51), 3) := by decide +kernel
theorem dX9_birthday_160 : decode cX9_birthday 160 = .ok (.bipush (-2), 2) := by decide +kernel
theorem dX9_birthday_162 : decode cX9_birthday 162 = .ok (.ireturn, 1) := by decide +kernel
theorem dX9_laid_0 : decode cX9_laid 0 = .ok (.aload_n 0, 1) := by decide +kernel
theorem dX9_laid_1 : decode cX9_laid 1 = .ok (.getfield 170, 3) := by decide +kernel
theorem dX9_laid_4 : decode cX9_laid 4 = .ok (.bipush 100, 2) := by decide +kernel
theorem dX9_laid_6 : decode cX9_laid 6 = .ok (.if_icmp .ne 41, 3) := by decide +kernel
theorem dX9_laid_9 : decode cX9_laid 9 = .ok (.iconst 1, 1) := by decide +kernel
theorem dX9_laid_10 : decode cX9_laid 10 = .ok (.istore_n 2, 1) := by decide +kernel
theorem dX9_laid_11 : decode cX9_laid 11 = .ok (.iload_n 2, 1) := by decide +kernel
theorem dX9_laid_12 : decode cX9_laid 12 = .ok (.bipush 100, 2) := by decide +kernel
theorem dX9_laid_14 : decode cX9_laid 14 = .ok (.if_icmp .ge 23, 3) := by decide +kernel
theorem dX9_laid_17 : decode cX9_laid 17 = .ok (.aload_n 0, 1) := by decide +kernel
theorem dX9_laid_18 : decode cX9_laid 18 = .ok (.getfield 16, 3) := by decide +kernel
theorem dX9_laid_21 : decode cX9_laid 21 = .ok (.iload_n 2, 1) := by decide +kernel
theorem dX9_laid_22 : decode cX9_laid 22 = .ok (.iconst 1, 1) := by decide +kernel
theorem dX9_laid_23 : decode cX9_laid 23 = .ok (.isub, 1) := by decide +kernel
theorem dX9_laid_24 : decode cX9_laid 24 = .ok (.aload_n 0, 1) := by decide +kernel
theorem dX9_laid_25 : decode cX9_laid 25 = .ok (.getfield 16, 3) := by decide +kernel
theorem dX9_laid_28 : decode cX9_laid 28 = .ok (.iload_n 2, 1) := by decide +kernel
theorem dX9_laid_29 : decode cX9_laid 29 = .ok (.iaload, 1) := by decide +kernel
theorem dX9_laid_30 : decode cX9_laid 30 = .ok (.iastore, 1) := by decide +kernel
theorem dX9_laid_31 : decode cX9_laid 31 = .ok (.iinc 2 1, 3) := by decide +kernel
theorem dX9_laid_34 : decode cX9_laid 34 = .ok (.goto (-23), 3) := by decide +kernel
theorem dX9_laid_37 : decode cX9_laid 37 = .ok (.aload_n 0, 1) := by decide +kernel
theorem dX9_laid_38 : decode cX9_laid 38 = .ok (.dup, 1) := by decide +kernel
theorem dX9_laid_39 : decode cX9_laid 39 = .ok (.getfield 170, 3) := by decide +kernel
theorem dX9_laid_42 : decode cX9_laid 42 = .ok (.iconst 1, 1) := by decide +kernel
theorem dX9_laid_43 : decode cX9_laid 43 = .ok (.isub, 1) := by decide +kernel
theorem dX9_laid_44 : decode cX9_laid 44 = .ok (.putfield 170, 3) := by decide +kernel
theorem dX9_laid_47 : decode cX9_laid 47 = .ok (.aload_n 0, 1) := by decide +kernel
theorem dX9_laid_48 : decode cX9_laid 48 = .ok (.getfield 16, 3) := by decide +kernel
theorem dX9_laid_51 : decode cX9_laid 51 = .ok (.aload_n 0, 1) := by decide +kernel
theorem dX9_laid_52 : decode cX9_laid 52 = .ok (.getfield 170, 3) := by decide +kernel
theorem dX9_laid_55 : decode cX9_laid 55 = .ok (.iload_n 1, 1) := by decide +kernel
theorem dX9_laid_56 : decode cX9_laid 56 = .ok (.iastore, 1) := by decide +kernel
theorem dX9_laid_57 : decode cX9_laid 57 = .ok (.aload_n 0, 1) := by decide +kernel
theorem dX9_laid_58 : decode cX9_laid 58 = .ok (.dup, 1) := by decide +kernel
theorem dX9_laid_59 : decode cX9_laid 59 = .ok (.getfield 170, 3) := by decide +kernel
theorem dX9_laid_62 : decode cX9_laid 62 = .ok (.iconst 1, 1) := by decide +kernel
theorem dX9_laid_63 : decode cX9_laid 63 = .ok (.iadd, 1) := by decide +kernel
theorem dX9_laid_64 : decode cX9_laid 64 = .ok (.putfield 170, 3) := by decide +kernel
theorem dX9_laid_67 : decode cX9_laid 67 = .ok (.return_, 1) := by decide +kernel
theorem dX9_row_0 : decode cX9_row 0 = .ok (.iload_n 2, 1) := by decide +kernel
theorem dX9_row_1 : decode cX9_row 1 = .ok (.iconst 1, 1) := by decide +kernel
theorem dX9_row_2 : decode cX9_row 2 = .ok (.sipush 200, 3) := by decide +kernel
theorem dX9_row_5 : decode cX9_row 5 = .ok (.invokestatic 138, 3) := by decide +kernel
theorem dX9_row_8 : decode cX9_row 8 = .ok (.ifCond .eq 37, 3) := by decide +kernel
theorem dX9_row_11 : decode cX9_row 11 = .ok (.aload_n 0, 1) := by decide +kernel
theorem dX9_row_12 : decode cX9_row 12 = .ok (.getfield 85, 3) := by decide +kernel
theorem dX9_row_15 : decode cX9_row 15 = .ok (.ifCond .le 32, 3) := by decide +kernel
theorem dX9_row_18 : decode cX9_row 18 = .ok (.iload_n 1, 1) := by decide +kernel
theorem dX9_row_19 : decode cX9_row 19 = .ok (.aload_n 0, 1) := by decide +kernel
theorem dX9_row_20 : decode cX9_row 20 = .ok (.getfield 7, 3) := by decide +kernel
theorem dX9_row_23 : decode cX9_row 23 = .ok (.aload_n 0, 1) := by decide +kernel
theorem dX9_row_24 : decode cX9_row 24 = .ok (.getfield 85, 3) := by decide +kernel
theorem dX9_row_27 : decode cX9_row 27 = .ok (.iconst 1, 1) := by decide +kernel
theorem dX9_row_28 : decode cX9_row 28 = .ok (.isub, 1) := by decide +kernel
theorem dX9_row_29 : decode cX9_row 29 = .ok (.iaload, 1) := by decide +kernel
theorem dX9_row_30 : decode cX9_row 30 = .ok (.aload_n 0, 1) := by decide +kernel
theorem dX9_row_31 : decode cX9_row 31 = .ok (.getfield 13, 3) := by decide +kernel
theorem dX9_row_34 : decode cX9_row 34 = .ok (.aload_n 0, 1) := by decide +kernel
theorem dX9_row_35 : decode cX9_row 35 = .ok (.getfield 85, 3) := by decide +kernel
theorem dX9_row_38 : decode cX9_row 38 = .ok (.iconst 1, 1) := by decide +kernel
theorem dX9_row_39 : decode cX9_row 39 = .ok (.isub, 1) := by decide +kernel
theorem dX9_row_40 : decode cX9_row 40 = .ok (.iaload, 1) := by decide +kernel
theorem dX9_row_41 : decode cX9_row 41 = .ok (.iadd, 1) := by decide +kernel
theorem dX9_row_42 : decode cX9_row 42 = .ok (.if_icmp .eq 5, 3) := by decide +kernel
theorem dX9_row_45 : decode cX9_row 45 = .ok (.iconst (-1), 1) := by decide +kernel
theorem dX9_row_46 : decode cX9_row 46 = .ok (.ireturn, 1) := by decide +kernel
theorem dX9_row_47 : decode cX9_row 47 = .ok (.iload_n 1, 1) := by decide +kernel
theorem dX9_row_48 : decode cX9_row 48 = .ok (.i2l, 1) := by decide +kernel
theorem dX9_row_49 : decode cX9_row 49 = .ok (.invokestatic 151, 3) := by decide +kernel
theorem dX9_row_52 : decode cX9_row 52 = .ok (.ifCond .eq 16, 3) := by decide +kernel
theorem dX9_row_55 : decode cX9_row 55 = .ok (.iload_n 1, 1) := by decide +kernel
theorem dX9_row_56 : decode cX9_row 56 = .ok (.i2l, 1) := by decide +kernel
theorem dX9_row_57 : decode cX9_row 57 = .ok (.iload_n 2, 1) := by decide +kernel
theorem dX9_row_58 : decode cX9_row 58 = .ok (.i2l, 1) := by decide +kernel
theorem dX9_row_59 : decode cX9_row 59 = .ok (.ladd, 1) := by decide +kernel
theorem dX9_row_60 : decode cX9_row 60 = .ok (.lconst 1, 1) := by decide +kernel
theorem dX9_row_61 : decode cX9_row 61 = .ok (.lsub, 1) := by decide +kernel
theorem dX9_row_62 : decode cX9_row 62 = .ok (.invokestatic 151, 3) := by decide +kernel
theorem dX9_row_65 : decode cX9_row 65 = .ok (.ifCond .ne 6, 3) := by decide +kernel
theorem dX9_row_68 : decode cX9_row 68 = .ok (.bipush (-3), 2) := by decide +kernel
theorem dX9_row_70 : decode cX9_row 70 = .ok (.ireturn, 1) := by decide +kernel
theorem dX9_row_71 : decode cX9_row 71 = .ok (.aload_n 0, 1) := by decide +kernel
theorem dX9_row_72 : decode cX9_row 72 = .ok (.getfield 85, 3) := by decide +kernel
theorem dX9_row_75 : decode cX9_row 75 = .ok (.sipush 500, 3) := by decide +kernel
theorem dX9_row_78 : decode cX9_row 78 = .ok (.if_icmp .ne 6, 3) := by decide +kernel
theorem dX9_row_81 : decode cX9_row 81 = .ok (.bipush (-4), 2) := by decide +kernel
theorem dX9_row_83 : decode cX9_row 83 = .ok (.ireturn, 1) := by decide +kernel
theorem dX9_row_84 : decode cX9_row 84 = .ok (.aload_n 0, 1) := by decide +kernel
theorem dX9_row_85 : decode cX9_row 85 = .ok (.getfield 7, 3) := by decide +kernel
theorem dX9_row_88 : decode cX9_row 88 = .ok (.aload_n 0, 1) := by decide +kernel
theorem dX9_row_89 : decode cX9_row 89 = .ok (.getfield 85, 3) := by decide +kernel
theorem dX9_row_92 : decode cX9_row 92 = .ok (.iload_n 1, 1) := by decide +kernel
theorem dX9_row_93 : decode cX9_row 93 = .ok (.iastore, 1) := by decide +kernel
theorem dX9_row_94 : decode cX9_row 94 = .ok (.aload_n 0, 1) := by decide +kernel
theorem dX9_row_95 : decode cX9_row 95 = .ok (.getfield 13, 3) := by decide +kernel
theorem dX9_row_98 : decode cX9_row 98 = .ok (.aload_n 0, 1) := by decide +kernel
theorem dX9_row_99 : decode cX9_row 99 = .ok (.getfield 85, 3) := by decide +kernel
theorem dX9_row_102 : decode cX9_row 102 = .ok (.iload_n 2, 1) := by decide +kernel
theorem dX9_row_103 : decode cX9_row 103 = .ok (.iastore, 1) := by decide +kernel
theorem dX9_row_104 : decode cX9_row 104 = .ok (.aload_n 0, 1) := by decide +kernel
theorem dX9_row_105 : decode cX9_row 105 = .ok (.dup, 1) := by decide +kernel
theorem dX9_row_106 : decode cX9_row 106 = .ok (.getfield 85, 3) := by decide +kernel
theorem dX9_row_109 : decode cX9_row 109 = .ok (.iconst 1, 1) := by decide +kernel
theorem dX9_row_110 : decode cX9_row 110 = .ok (.iadd, 1) := by decide +kernel
theorem dX9_row_111 : decode cX9_row 111 = .ok (.putfield 85, 3) := by decide +kernel
theorem dX9_row_114 : decode cX9_row 114 = .ok (.aload_n 0, 1) := by decide +kernel
theorem dX9_row_115 : decode cX9_row 115 = .ok (.iconst 0, 1) := by decide +kernel
theorem dX9_row_116 : decode cX9_row 116 = .ok (.invokevirtual 173, 3) := by decide +kernel
theorem dX9_row_119 : decode cX9_row 119 = .ok (.aload_n 0, 1) := by decide +kernel
theorem dX9_row_120 : decode cX9_row 120 = .ok (.getfield 85, 3) := by decide +kernel
theorem dX9_row_123 : decode cX9_row 123 = .ok (.ireturn, 1) := by decide +kernel
theorem dX9_namedBy_0 : decode cX9_namedBy 0 = .ok (.iconst 0, 1) := by decide +kernel
theorem dX9_namedBy_1 : decode cX9_namedBy 1 = .ok (.istore 4, 2) := by decide +kernel
theorem dX9_namedBy_3 : decode cX9_namedBy 3 = .ok (.iload 4, 2) := by decide +kernel
theorem dX9_namedBy_5 : decode cX9_namedBy 5 = .ok (.aload_n 0, 1) := by decide +kernel
theorem dX9_namedBy_6 : decode cX9_namedBy 6 = .ok (.getfield 177, 3) := by decide +kernel
theorem dX9_namedBy_9 : decode cX9_namedBy 9 = .ok (.if_icmp .ge 40, 3) := by decide +kernel
theorem dX9_namedBy_12 : decode cX9_namedBy 12 = .ok (.aload_n 0, 1) := by decide +kernel
theorem dX9_namedBy_13 : decode cX9_namedBy 13 = .ok (.getfield 19, 3) := by decide +kernel
theorem dX9_namedBy_16 : decode cX9_namedBy 16 = .ok (.iload 4, 2) := by decide +kernel
theorem dX9_namedBy_18 : decode cX9_namedBy 18 = .ok (.iaload, 1) := by decide +kernel
theorem dX9_namedBy_19 : decode cX9_namedBy 19 = .ok (.iload_n 1, 1) := by decide +kernel
theorem dX9_namedBy_20 : decode cX9_namedBy 20 = .ok (.if_icmp .ne 23, 3) := by decide +kernel
theorem dX9_namedBy_23 : decode cX9_namedBy 23 = .ok (.aload_n 0, 1) := by decide +kernel
theorem dX9_namedBy_24 : decode cX9_namedBy 24 = .ok (.getfield 25, 3) := by decide +kernel
theorem dX9_namedBy_27 : decode cX9_namedBy 27 = .ok (.iload 4, 2) := by decide +kernel
theorem dX9_namedBy_29 : decode cX9_namedBy 29 = .ok (.laload, 1) := by decide +kernel
theorem dX9_namedBy_30 : decode cX9_namedBy 30 = .ok (.lload_n 2, 1) := by decide +kernel
theorem dX9_namedBy_31 : decode cX9_namedBy 31 = .ok (.lcmp, 1) := by decide +kernel
theorem dX9_namedBy_32 : decode cX9_namedBy 32 = .ok (.ifCond .ne 11, 3) := by decide +kernel
theorem dX9_namedBy_35 : decode cX9_namedBy 35 = .ok (.aload_n 0, 1) := by decide +kernel
theorem dX9_namedBy_36 : decode cX9_namedBy 36 = .ok (.getfield 22, 3) := by decide +kernel
theorem dX9_namedBy_39 : decode cX9_namedBy 39 = .ok (.iload 4, 2) := by decide +kernel
theorem dX9_namedBy_41 : decode cX9_namedBy 41 = .ok (.iaload, 1) := by decide +kernel
theorem dX9_namedBy_42 : decode cX9_namedBy 42 = .ok (.ireturn, 1) := by decide +kernel
theorem dX9_namedBy_43 : decode cX9_namedBy 43 = .ok (.iinc 4 1, 3) := by decide +kernel
theorem dX9_namedBy_46 : decode cX9_namedBy 46 = .ok (.goto (-43), 3) := by decide +kernel
theorem dX9_namedBy_49 : decode cX9_namedBy 49 = .ok (.bipush (-2), 2) := by decide +kernel
theorem dX9_namedBy_51 : decode cX9_namedBy 51 = .ok (.ireturn, 1) := by decide +kernel
theorem dX9_name_0 : decode cX9_name 0 = .ok (.iload_n 1, 1) := by decide +kernel
theorem dX9_name_1 : decode cX9_name 1 = .ok (.invokestatic 142, 3) := by decide +kernel
theorem dX9_name_4 : decode cX9_name 4 = .ok (.ifCond .eq 30, 3) := by decide +kernel
theorem dX9_name_7 : decode cX9_name 7 = .ok (.iload_n 2, 1) := by decide +kernel
theorem dX9_name_8 : decode cX9_name 8 = .ok (.iconst 1, 1) := by decide +kernel
theorem dX9_name_9 : decode cX9_name 9 = .ok (.bipush 53, 2) := by decide +kernel
theorem dX9_name_11 : decode cX9_name 11 = .ok (.invokestatic 138, 3) := by decide +kernel
theorem dX9_name_14 : decode cX9_name 14 = .ok (.ifCond .eq 20, 3) := by decide +kernel
theorem dX9_name_17 : decode cX9_name 17 = .ok (.lload_n 3, 1) := by decide +kernel
theorem dX9_name_18 : decode cX9_name 18 = .ok (.lconst 0, 1) := by decide +kernel
theorem dX9_name_19 : decode cX9_name 19 = .ok (.lcmp, 1) := by decide +kernel
theorem dX9_name_20 : decode cX9_name 20 = .ok (.ifCond .eq 14, 3) := by decide +kernel
theorem dX9_name_23 : decode cX9_name 23 = .ok (.aload_n 0, 1) := by decide +kernel
theorem dX9_name_24 : decode cX9_name 24 = .ok (.iload_n 1, 1) := by decide +kernel
theorem dX9_name_25 : decode cX9_name 25 = .ok (.lload_n 3, 1) := by decide +kernel
theorem dX9_name_26 : decode cX9_name 26 = .ok (.invokevirtual 180, 3) := by decide +kernel
theorem dX9_name_29 : decode cX9_name 29 = .ok (.bipush (-2), 2) := by decide +kernel
theorem dX9_name_31 : decode cX9_name 31 = .ok (.if_icmp .eq 5, 3) := by decide +kernel
theorem dX9_name_34 : decode cX9_name 34 = .ok (.iconst (-1), 1) := by decide +kernel
theorem dX9_name_35 : decode cX9_name 35 = .ok (.ireturn, 1) := by decide +kernel
theorem dX9_name_36 : decode cX9_name 36 = .ok (.iconst 0, 1) := by decide +kernel
theorem dX9_name_37 : decode cX9_name 37 = .ok (.istore 5, 2) := by decide +kernel
theorem dX9_name_39 : decode cX9_name 39 = .ok (.iconst 0, 1) := by decide +kernel
theorem dX9_name_40 : decode cX9_name 40 = .ok (.istore 6, 2) := by decide +kernel
theorem dX9_name_42 : decode cX9_name 42 = .ok (.iload 6, 2) := by decide +kernel
theorem dX9_name_44 : decode cX9_name 44 = .ok (.aload_n 0, 1) := by decide +kernel
theorem dX9_name_45 : decode cX9_name 45 = .ok (.getfield 177, 3) := by decide +kernel
theorem dX9_name_48 : decode cX9_name 48 = .ok (.if_icmp .ge 41, 3) := by decide +kernel
theorem dX9_name_51 : decode cX9_name 51 = .ok (.iload 5, 2) := by decide +kernel
theorem dX9_name_53 : decode cX9_name 53 = .ok (.aload_n 0, 1) := by decide +kernel
theorem dX9_name_54 : decode cX9_name 54 = .ok (.getfield 19, 3) := by decide +kernel
theorem dX9_name_57 : decode cX9_name 57 = .ok (.iload 6, 2) := by decide +kernel
theorem dX9_name_59 : decode cX9_name 59 = .ok (.iaload, 1) := by decide +kernel
theorem dX9_name_60 : decode cX9_name 60 = .ok (.iload_n 1, 1) := by decide +kernel
theorem dX9_name_61 : decode cX9_name 61 = .ok (.if_icmp .ne 18, 3) := by decide +kernel
theorem dX9_name_64 : decode cX9_name 64 = .ok (.aload_n 0, 1) := by decide +kernel
theorem dX9_name_65 : decode cX9_name 65 = .ok (.getfield 22, 3) := by decide +kernel
theorem dX9_name_68 : decode cX9_name 68 = .ok (.iload 6, 2) := by decide +kernel
theorem dX9_name_70 : decode cX9_name 70 = .ok (.iaload, 1) := by decide +kernel
theorem dX9_name_71 : decode cX9_name 71 = .ok (.iload_n 2, 1) := by decide +kernel
theorem dX9_name_72 : decode cX9_name 72 = .ok (.if_icmp .ne 7, 3) := by decide +kernel
theorem dX9_name_75 : decode cX9_name 75 = .ok (.iconst 1, 1) := by decide +kernel
theorem dX9_name_76 : decode cX9_name 76 = .ok (.goto 4, 3) := by decide +kernel
theorem dX9_name_79 : decode cX9_name 79 = .ok (.iconst 0, 1) := by decide +kernel
theorem dX9_name_80 : decode cX9_name 80 = .ok (.iadd, 1) := by decide +kernel
theorem dX9_name_81 : decode cX9_name 81 = .ok (.istore 5, 2) := by decide +kernel
theorem dX9_name_83 : decode cX9_name 83 = .ok (.iinc 6 1, 3) := by decide +kernel
theorem dX9_name_86 : decode cX9_name 86 = .ok (.goto (-44), 3) := by decide +kernel
theorem dX9_name_89 : decode cX9_name 89 = .ok (.iload 5, 2) := by decide +kernel
theorem dX9_name_91 : decode cX9_name 91 = .ok (.iconst 3, 1) := by decide +kernel
theorem dX9_name_92 : decode cX9_name 92 = .ok (.if_icmp .eq 13, 3) := by decide +kernel
theorem dX9_name_95 : decode cX9_name 95 = .ok (.aload_n 0, 1) := by decide +kernel
theorem dX9_name_96 : decode cX9_name 96 = .ok (.getfield 177, 3) := by decide +kernel
theorem dX9_name_99 : decode cX9_name 99 = .ok (.sipush 300, 3) := by decide +kernel
theorem dX9_name_102 : decode cX9_name 102 = .ok (.if_icmp .ne 6, 3) := by decide +kernel
theorem dX9_name_105 : decode cX9_name 105 = .ok (.bipush (-4), 2) := by decide +kernel
theorem dX9_name_107 : decode cX9_name 107 = .ok (.ireturn, 1) := by decide +kernel
theorem dX9_name_108 : decode cX9_name 108 = .ok (.aload_n 0, 1) := by decide +kernel
theorem dX9_name_109 : decode cX9_name 109 = .ok (.getfield 19, 3) := by decide +kernel
theorem dX9_name_112 : decode cX9_name 112 = .ok (.aload_n 0, 1) := by decide +kernel
theorem dX9_name_113 : decode cX9_name 113 = .ok (.getfield 177, 3) := by decide +kernel
theorem dX9_name_116 : decode cX9_name 116 = .ok (.iload_n 1, 1) := by decide +kernel
theorem dX9_name_117 : decode cX9_name 117 = .ok (.iastore, 1) := by decide +kernel
theorem dX9_name_118 : decode cX9_name 118 = .ok (.aload_n 0, 1) := by decide +kernel
theorem dX9_name_119 : decode cX9_name 119 = .ok (.getfield 22, 3) := by decide +kernel
theorem dX9_name_122 : decode cX9_name 122 = .ok (.aload_n 0, 1) := by decide +kernel
theorem dX9_name_123 : decode cX9_name 123 = .ok (.getfield 177, 3) := by decide +kernel
theorem dX9_name_126 : decode cX9_name 126 = .ok (.iload_n 2, 1) := by decide +kernel
theorem dX9_name_127 : decode cX9_name 127 = .ok (.iastore, 1) := by decide +kernel
theorem dX9_name_128 : decode cX9_name 128 = .ok (.aload_n 0, 1) := by decide +kernel
theorem dX9_name_129 : decode cX9_name 129 = .ok (.getfield 25, 3) := by decide +kernel
theorem dX9_name_132 : decode cX9_name 132 = .ok (.aload_n 0, 1) := by decide +kernel
theorem dX9_name_133 : decode cX9_name 133 = .ok (.getfield 177, 3) := by decide +kernel
theorem dX9_name_136 : decode cX9_name 136 = .ok (.lload_n 3, 1) := by decide +kernel
theorem dX9_name_137 : decode cX9_name 137 = .ok (.lastore, 1) := by decide +kernel
theorem dX9_name_138 : decode cX9_name 138 = .ok (.aload_n 0, 1) := by decide +kernel
theorem dX9_name_139 : decode cX9_name 139 = .ok (.dup, 1) := by decide +kernel
theorem dX9_name_140 : decode cX9_name 140 = .ok (.getfield 177, 3) := by decide +kernel
theorem dX9_name_143 : decode cX9_name 143 = .ok (.iconst 1, 1) := by decide +kernel
theorem dX9_name_144 : decode cX9_name 144 = .ok (.iadd, 1) := by decide +kernel
theorem dX9_name_145 : decode cX9_name 145 = .ok (.putfield 177, 3) := by decide +kernel
theorem dX9_name_148 : decode cX9_name 148 = .ok (.aload_n 0, 1) := by decide +kernel
theorem dX9_name_149 : decode cX9_name 149 = .ok (.iconst 1, 1) := by decide +kernel
theorem dX9_name_150 : decode cX9_name 150 = .ok (.invokevirtual 173, 3) := by decide +kernel
theorem dX9_name_153 : decode cX9_name 153 = .ok (.iload 5, 2) := by decide +kernel
theorem dX9_name_155 : decode cX9_name 155 = .ok (.iconst 1, 1) := by decide +kernel
theorem dX9_name_156 : decode cX9_name 156 = .ok (.iadd, 1) := by decide +kernel
theorem dX9_name_157 : decode cX9_name 157 = .ok (.ireturn, 1) := by decide +kernel
theorem dX9_monthNamed_0 : decode cX9_monthNamed 0 = .ok (.iload_n 1, 1) := by decide +kernel
theorem dX9_monthNamed_1 : decode cX9_monthNamed 1 = .ok (.invokestatic 142, 3) := by decide +kernel
theorem dX9_monthNamed_4 : decode cX9_monthNamed 4 = .ok (.ifCond .eq 12, 3) := by decide +kernel
theorem dX9_monthNamed_7 : decode cX9_monthNamed 7 = .ok (.aload_n 0, 1) := by decide +kernel
theorem dX9_monthNamed_8 : decode cX9_monthNamed 8 = .ok (.iload_n 1, 1) := by decide +kernel
theorem dX9_monthNamed_9 : decode cX9_monthNamed 9 = .ok (.lload_n 2, 1) := by decide +kernel
theorem dX9_monthNamed_10 : decode cX9_monthNamed 10 = .ok (.invokevirtual 180, 3) := by decide +kernel
theorem dX9_monthNamed_13 : decode cX9_monthNamed 13 = .ok (.goto 4, 3) := by decide +kernel
theorem dX9_monthNamed_16 : decode cX9_monthNamed 16 = .ok (.iconst (-1), 1) := by decide +kernel
theorem dX9_monthNamed_17 : decode cX9_monthNamed 17 = .ok (.ireturn, 1) := by decide +kernel
theorem dX9_spellings_0 : decode cX9_spellings 0 = .ok (.iconst 0, 1) := by decide +kernel
theorem dX9_spellings_1 : decode cX9_spellings 1 = .ok (.istore_n 3, 1) := by decide +kernel
theorem dX9_spellings_2 : decode cX9_spellings 2 = .ok (.iconst 0, 1) := by decide +kernel
theorem dX9_spellings_3 : decode cX9_spellings 3 = .ok (.istore 4, 2) := by decide +kernel
theorem dX9_spellings_5 : decode cX9_spellings 5 = .ok (.iload 4, 2) := by decide +kernel
theorem dX9_spellings_7 : decode cX9_spellings 7 = .ok (.bipush 8, 2) := by decide +kernel
theorem dX9_spellings_9 : decode cX9_spellings 9 = .ok (.if_icmp .ge 29, 3) := by decide +kernel
theorem dX9_spellings_12 : decode cX9_spellings 12 = .ok (.iload_n 3, 1) := by decide +kernel
theorem dX9_spellings_13 : decode cX9_spellings 13 = .ok (.aload_n 0, 1) := by decide +kernel
theorem dX9_spellings_14 : decode cX9_spellings 14 = .ok (.iload 4, 2) := by decide +kernel
theorem dX9_spellings_16 : decode cX9_spellings 16 = .ok (.lload_n 1, 1) := by decide +kernel
theorem dX9_spellings_17 : decode cX9_spellings 17 = .ok (.invokevirtual 180, 3) := by decide +kernel
theorem dX9_spellings_20 : decode cX9_spellings 20 = .ok (.bipush (-2), 2) := by decide +kernel
theorem dX9_spellings_22 : decode cX9_spellings 22 = .ok (.if_icmp .eq 7, 3) := by decide +kernel
theorem dX9_spellings_25 : decode cX9_spellings 25 = .ok (.iconst 1, 1) := by decide +kernel
theorem dX9_spellings_26 : decode cX9_spellings 26 = .ok (.goto 4, 3) := by decide +kernel
theorem dX9_spellings_29 : decode cX9_spellings 29 = .ok (.iconst 0, 1) := by decide +kernel
theorem dX9_spellings_30 : decode cX9_spellings 30 = .ok (.iadd, 1) := by decide +kernel
theorem dX9_spellings_31 : decode cX9_spellings 31 = .ok (.istore_n 3, 1) := by decide +kernel
theorem dX9_spellings_32 : decode cX9_spellings 32 = .ok (.iinc 4 1, 3) := by decide +kernel
theorem dX9_spellings_35 : decode cX9_spellings 35 = .ok (.goto (-30), 3) := by decide +kernel
theorem dX9_spellings_38 : decode cX9_spellings 38 = .ok (.iload_n 3, 1) := by decide +kernel
theorem dX9_spellings_39 : decode cX9_spellings 39 = .ok (.ireturn, 1) := by decide +kernel
theorem dX9_isFeast_0 : decode cX9_isFeast 0 = .ok (.iload_n 1, 1) := by decide +kernel
theorem dX9_isFeast_1 : decode cX9_isFeast 1 = .ok (.iconst 0, 1) := by decide +kernel
theorem dX9_isFeast_2 : decode cX9_isFeast 2 = .ok (.aload_n 0, 1) := by decide +kernel
theorem dX9_isFeast_3 : decode cX9_isFeast 3 = .ok (.getfield 184, 3) := by decide +kernel
theorem dX9_isFeast_6 : decode cX9_isFeast 6 = .ok (.iconst 1, 1) := by decide +kernel
theorem dX9_isFeast_7 : decode cX9_isFeast 7 = .ok (.isub, 1) := by decide +kernel
theorem dX9_isFeast_8 : decode cX9_isFeast 8 = .ok (.invokestatic 138, 3) := by decide +kernel
theorem dX9_isFeast_11 : decode cX9_isFeast 11 = .ok (.ireturn, 1) := by decide +kernel
theorem dX9_feast_0 : decode cX9_feast 0 = .ok (.iload_n 1, 1) := by decide +kernel
theorem dX9_feast_1 : decode cX9_feast 1 = .ok (.iconst 0, 1) := by decide +kernel
theorem dX9_feast_2 : decode cX9_feast 2 = .ok (.iconst 3, 1) := by decide +kernel
theorem dX9_feast_3 : decode cX9_feast 3 = .ok (.invokestatic 138, 3) := by decide +kernel
theorem dX9_feast_6 : decode cX9_feast 6 = .ok (.ifCond .eq 18, 3) := by decide +kernel
theorem dX9_feast_9 : decode cX9_feast 9 = .ok (.iload 5, 2) := by decide +kernel
theorem dX9_feast_11 : decode cX9_feast 11 = .ok (.iconst 0, 1) := by decide +kernel
theorem dX9_feast_12 : decode cX9_feast 12 = .ok (.bipush 9, 2) := by decide +kernel
theorem dX9_feast_14 : decode cX9_feast 14 = .ok (.invokestatic 138, 3) := by decide +kernel
theorem dX9_feast_17 : decode cX9_feast 17 = .ok (.ifCond .eq 7, 3) := by decide +kernel
theorem dX9_feast_20 : decode cX9_feast 20 = .ok (.iconst 1, 1) := by decide +kernel
theorem dX9_feast_21 : decode cX9_feast 21 = .ok (.goto 4, 3) := by decide +kernel
theorem dX9_feast_24 : decode cX9_feast 24 = .ok (.iconst 0, 1) := by decide +kernel
theorem dX9_feast_25 : decode cX9_feast 25 = .ok (.istore 6, 2) := by decide +kernel
theorem dX9_feast_27 : decode cX9_feast 27 = .ok (.iload_n 1, 1) := by decide +kernel
theorem dX9_feast_28 : decode cX9_feast 28 = .ok (.ifCond .ne 50, 3) := by decide +kernel
theorem dX9_feast_31 : decode cX9_feast 31 = .ok (.iload 6, 2) := by decide +kernel
theorem dX9_feast_33 : decode cX9_feast 33 = .ok (.ifCond .eq 39, 3) := by decide +kernel
theorem dX9_feast_36 : decode cX9_feast 36 = .ok (.iload_n 2, 1) := by decide +kernel
theorem dX9_feast_37 : decode cX9_feast 37 = .ok (.iconst 1, 1) := by decide +kernel
theorem dX9_feast_38 : decode cX9_feast 38 = .ok (.bipush 53, 2) := by decide +kernel
theorem dX9_feast_40 : decode cX9_feast 40 = .ok (.invokestatic 138, 3) := by decide +kernel
theorem dX9_feast_43 : decode cX9_feast 43 = .ok (.ifCond .eq 29, 3) := by decide +kernel
theorem dX9_feast_46 : decode cX9_feast 46 = .ok (.iload_n 3, 1) := by decide +kernel
theorem dX9_feast_47 : decode cX9_feast 47 = .ok (.iconst 1, 1) := by decide +kernel
theorem dX9_feast_48 : decode cX9_feast 48 = .ok (.sipush 200, 3) := by decide +kernel
theorem dX9_feast_51 : decode cX9_feast 51 = .ok (.invokestatic 138, 3) := by decide +kernel
theorem dX9_feast_54 : decode cX9_feast 54 = .ok (.ifCond .eq 18, 3) := by decide +kernel
theorem dX9_feast_57 : decode cX9_feast 57 = .ok (.iload 4, 2) := by decide +kernel
theorem dX9_feast_59 : decode cX9_feast 59 = .ok (.iconst 0, 1) := by decide +kernel
theorem dX9_feast_60 : decode cX9_feast 60 = .ok (.bipush 6, 2) := by decide +kernel
theorem dX9_feast_62 : decode cX9_feast 62 = .ok (.invokestatic 138, 3) := by decide +kernel
theorem dX9_feast_65 : decode cX9_feast 65 = .ok (.ifCond .eq 7, 3) := by decide +kernel
theorem dX9_feast_68 : decode cX9_feast 68 = .ok (.iconst 1, 1) := by decide +kernel
theorem dX9_feast_69 : decode cX9_feast 69 = .ok (.goto 4, 3) := by decide +kernel
theorem dX9_feast_72 : decode cX9_feast 72 = .ok (.iconst 0, 1) := by decide +kernel
theorem dX9_feast_73 : decode cX9_feast 73 = .ok (.istore 6, 2) := by decide +kernel
theorem dX9_feast_75 : decode cX9_feast 75 = .ok (.goto 130, 3) := by decide +kernel
theorem dX9_feast_78 : decode cX9_feast 78 = .ok (.iload_n 1, 1) := by decide +kernel
theorem dX9_feast_79 : decode cX9_feast 79 = .ok (.iconst 1, 1) := by decide +kernel
theorem dX9_feast_80 : decode cX9_feast 80 = .ok (.if_icmp .ne 54, 3) := by decide +kernel
theorem dX9_feast_83 : decode cX9_feast 83 = .ok (.iload 6, 2) := by decide +kernel
theorem dX9_feast_85 : decode cX9_feast 85 = .ok (.ifCond .eq 43, 3) := by decide +kernel
theorem dX9_feast_88 : decode cX9_feast 88 = .ok (.iload_n 2, 1) := by decide +kernel
theorem dX9_feast_89 : decode cX9_feast 89 = .ok (.iconst 1, 1) := by decide +kernel
theorem dX9_feast_90 : decode cX9_feast 90 = .ok (.bipush 12, 2) := by decide +kernel
theorem dX9_feast_92 : decode cX9_feast 92 = .ok (.invokestatic 138, 3) := by decide +kernel
theorem dX9_feast_95 : decode cX9_feast 95 = .ok (.ifCond .eq 33, 3) := by decide +kernel
theorem dX9_feast_98 : decode cX9_feast 98 = .ok (.iload_n 3, 1) := by decide +kernel
theorem dX9_feast_99 : decode cX9_feast 99 = .ok (.iconst 0, 1) := by decide +kernel
theorem dX9_feast_100 : decode cX9_feast 100 = .ok (.bipush 6, 2) := by decide +kernel
theorem dX9_feast_102 : decode cX9_feast 102 = .ok (.invokestatic 138, 3) := by decide +kernel
theorem dX9_feast_105 : decode cX9_feast 105 = .ok (.ifCond .eq 23, 3) := by decide +kernel
theorem dX9_feast_108 : decode cX9_feast 108 = .ok (.iload 4, 2) := by decide +kernel
theorem dX9_feast_110 : decode cX9_feast 110 = .ok (.iconst (-1), 1) := by decide +kernel
theorem dX9_feast_111 : decode cX9_feast 111 = .ok (.if_icmp .eq 13, 3) := by decide +kernel
theorem dX9_feast_114 : decode cX9_feast 114 = .ok (.iload 4, 2) := by decide +kernel
theorem dX9_feast_116 : decode cX9_feast 116 = .ok (.iconst 1, 1) := by decide +kernel
theorem dX9_feast_117 : decode cX9_feast 117 = .ok (.iconst 5, 1) := by decide +kernel
theorem dX9_feast_118 : decode cX9_feast 118 = .ok (.invokestatic 138, 3) := by decide +kernel
theorem dX9_feast_121 : decode cX9_feast 121 = .ok (.ifCond .eq 7, 3) := by decide +kernel
theorem dX9_feast_124 : decode cX9_feast 124 = .ok (.iconst 1, 1) := by decide +kernel
theorem dX9_feast_125 : decode cX9_feast 125 = .ok (.goto 4, 3) := by decide +kernel
theorem dX9_feast_128 : decode cX9_feast 128 = .ok (.iconst 0, 1) := by decide +kernel
theorem dX9_feast_129 : decode cX9_feast 129 = .ok (.istore 6, 2) := by decide +kernel
theorem dX9_feast_131 : decode cX9_feast 131 = .ok (.goto 74, 3) := by decide +kernel
theorem dX9_feast_134 : decode cX9_feast 134 = .ok (.iload_n 1, 1) := by decide +kernel
theorem dX9_feast_135 : decode cX9_feast 135 = .ok (.iconst 2, 1) := by decide +kernel
theorem dX9_feast_136 : decode cX9_feast 136 = .ok (.if_icmp .ne 38, 3) := by decide +kernel
theorem dX9_feast_139 : decode cX9_feast 139 = .ok (.iload 6, 2) := by decide +kernel
theorem dX9_feast_141 : decode cX9_feast 141 = .ok (.ifCond .eq 27, 3) := by decide +kernel
theorem dX9_feast_144 : decode cX9_feast 144 = .ok (.iload_n 2, 1) := by decide +kernel
theorem dX9_feast_145 : decode cX9_feast 145 = .ok (.bipush (-60), 2) := by decide +kernel
theorem dX9_feast_147 : decode cX9_feast 147 = .ok (.bipush 100, 2) := by decide +kernel
theorem dX9_feast_149 : decode cX9_feast 149 = .ok (.invokestatic 138, 3) := by decide +kernel
theorem dX9_feast_152 : decode cX9_feast 152 = .ok (.ifCond .eq 16, 3) := by decide +kernel
theorem dX9_feast_155 : decode cX9_feast 155 = .ok (.iload_n 3, 1) := by decide +kernel
theorem dX9_feast_156 : decode cX9_feast 156 = .ok (.iconst 0, 1) := by decide +kernel
theorem dX9_feast_157 : decode cX9_feast 157 = .ok (.iconst 1, 1) := by decide +kernel
theorem dX9_feast_158 : decode cX9_feast 158 = .ok (.invokestatic 138, 3) := by decide +kernel
theorem dX9_feast_161 : decode cX9_feast 161 = .ok (.ifCond .eq 7, 3) := by decide +kernel
theorem dX9_feast_164 : decode cX9_feast 164 = .ok (.iconst 1, 1) := by decide +kernel
theorem dX9_feast_165 : decode cX9_feast 165 = .ok (.goto 4, 3) := by decide +kernel
theorem dX9_feast_168 : decode cX9_feast 168 = .ok (.iconst 0, 1) := by decide +kernel
theorem dX9_feast_169 : decode cX9_feast 169 = .ok (.istore 6, 2) := by decide +kernel
theorem dX9_feast_171 : decode cX9_feast 171 = .ok (.goto 34, 3) := by decide +kernel
theorem dX9_feast_174 : decode cX9_feast 174 = .ok (.iload 6, 2) := by decide +kernel
theorem dX9_feast_176 : decode cX9_feast 176 = .ok (.ifCond .eq 26, 3) := by decide +kernel
theorem dX9_feast_179 : decode cX9_feast 179 = .ok (.aload_n 0, 1) := by decide +kernel
theorem dX9_feast_180 : decode cX9_feast 180 = .ok (.iload_n 2, 1) := by decide +kernel
theorem dX9_feast_181 : decode cX9_feast 181 = .ok (.invokevirtual 187, 3) := by decide +kernel
theorem dX9_feast_184 : decode cX9_feast 184 = .ok (.ifCond .eq 18, 3) := by decide +kernel
theorem dX9_feast_187 : decode cX9_feast 187 = .ok (.iload_n 3, 1) := by decide +kernel
theorem dX9_feast_188 : decode cX9_feast 188 = .ok (.bipush (-40), 2) := by decide +kernel
theorem dX9_feast_190 : decode cX9_feast 190 = .ok (.bipush 40, 2) := by decide +kernel
theorem dX9_feast_192 : decode cX9_feast 192 = .ok (.invokestatic 138, 3) := by decide +kernel
theorem dX9_feast_195 : decode cX9_feast 195 = .ok (.ifCond .eq 7, 3) := by decide +kernel
theorem dX9_feast_198 : decode cX9_feast 198 = .ok (.iconst 1, 1) := by decide +kernel
theorem dX9_feast_199 : decode cX9_feast 199 = .ok (.goto 4, 3) := by decide +kernel
theorem dX9_feast_202 : decode cX9_feast 202 = .ok (.iconst 0, 1) := by decide +kernel
theorem dX9_feast_203 : decode cX9_feast 203 = .ok (.istore 6, 2) := by decide +kernel
theorem dX9_feast_205 : decode cX9_feast 205 = .ok (.iload 6, 2) := by decide +kernel
theorem dX9_feast_207 : decode cX9_feast 207 = .ok (.ifCond .ne 5, 3) := by decide +kernel
theorem dX9_feast_210 : decode cX9_feast 210 = .ok (.iconst (-1), 1) := by decide +kernel
theorem dX9_feast_211 : decode cX9_feast 211 = .ok (.ireturn, 1) := by decide +kernel
theorem dX9_feast_212 : decode cX9_feast 212 = .ok (.aload_n 0, 1) := by decide +kernel
theorem dX9_feast_213 : decode cX9_feast 213 = .ok (.getfield 184, 3) := by decide +kernel
theorem dX9_feast_216 : decode cX9_feast 216 = .ok (.bipush 60, 2) := by decide +kernel
theorem dX9_feast_218 : decode cX9_feast 218 = .ok (.if_icmp .ne 6, 3) := by decide +kernel
theorem dX9_feast_221 : decode cX9_feast 221 = .ok (.bipush (-4), 2) := by decide +kernel
theorem dX9_feast_223 : decode cX9_feast 223 = .ok (.ireturn, 1) := by decide +kernel
theorem dX9_feast_224 : decode cX9_feast 224 = .ok (.aload_n 0, 1) := by decide +kernel
theorem dX9_feast_225 : decode cX9_feast 225 = .ok (.getfield 29, 3) := by decide +kernel
theorem dX9_feast_228 : decode cX9_feast 228 = .ok (.aload_n 0, 1) := by decide +kernel
theorem dX9_feast_229 : decode cX9_feast 229 = .ok (.getfield 184, 3) := by decide +kernel
theorem dX9_feast_232 : decode cX9_feast 232 = .ok (.iload_n 1, 1) := by decide +kernel
theorem dX9_feast_233 : decode cX9_feast 233 = .ok (.iastore, 1) := by decide +kernel
theorem dX9_feast_234 : decode cX9_feast 234 = .ok (.aload_n 0, 1) := by decide +kernel
theorem dX9_feast_235 : decode cX9_feast 235 = .ok (.getfield 32, 3) := by decide +kernel
theorem dX9_feast_238 : decode cX9_feast 238 = .ok (.aload_n 0, 1) := by decide +kernel
theorem dX9_feast_239 : decode cX9_feast 239 = .ok (.getfield 184, 3) := by decide +kernel
theorem dX9_feast_242 : decode cX9_feast 242 = .ok (.iload_n 2, 1) := by decide +kernel
theorem dX9_feast_243 : decode cX9_feast 243 = .ok (.iastore, 1) := by decide +kernel
theorem dX9_feast_244 : decode cX9_feast 244 = .ok (.aload_n 0, 1) := by decide +kernel
theorem dX9_feast_245 : decode cX9_feast 245 = .ok (.getfield 35, 3) := by decide +kernel
theorem dX9_feast_248 : decode cX9_feast 248 = .ok (.aload_n 0, 1) := by decide +kernel
theorem dX9_feast_249 : decode cX9_feast 249 = .ok (.getfield 184, 3) := by decide +kernel
theorem dX9_feast_252 : decode cX9_feast 252 = .ok (.iload_n 3, 1) := by decide +kernel
theorem dX9_feast_253 : decode cX9_feast 253 = .ok (.iastore, 1) := by decide +kernel
theorem dX9_feast_254 : decode cX9_feast 254 = .ok (.aload_n 0, 1) := by decide +kernel
theorem dX9_feast_255 : decode cX9_feast 255 = .ok (.getfield 38, 3) := by decide +kernel
theorem dX9_feast_258 : decode cX9_feast 258 = .ok (.aload_n 0, 1) := by decide +kernel
theorem dX9_feast_259 : decode cX9_feast 259 = .ok (.getfield 184, 3) := by decide +kernel
theorem dX9_feast_262 : decode cX9_feast 262 = .ok (.iload 4, 2) := by decide +kernel
theorem dX9_feast_264 : decode cX9_feast 264 = .ok (.iastore, 1) := by decide +kernel
theorem dX9_feast_265 : decode cX9_feast 265 = .ok (.aload_n 0, 1) := by decide +kernel
theorem dX9_feast_266 : decode cX9_feast 266 = .ok (.getfield 41, 3) := by decide +kernel
theorem dX9_feast_269 : decode cX9_feast 269 = .ok (.aload_n 0, 1) := by decide +kernel
theorem dX9_feast_270 : decode cX9_feast 270 = .ok (.getfield 184, 3) := by decide +kernel
theorem dX9_feast_273 : decode cX9_feast 273 = .ok (.iload 5, 2) := by decide +kernel
theorem dX9_feast_275 : decode cX9_feast 275 = .ok (.iastore, 1) := by decide +kernel
theorem dX9_feast_276 : decode cX9_feast 276 = .ok (.aload_n 0, 1) := by decide +kernel
theorem dX9_feast_277 : decode cX9_feast 277 = .ok (.dup, 1) := by decide +kernel
theorem dX9_feast_278 : decode cX9_feast 278 = .ok (.getfield 184, 3) := by decide +kernel
theorem dX9_feast_281 : decode cX9_feast 281 = .ok (.iconst 1, 1) := by decide +kernel
theorem dX9_feast_282 : decode cX9_feast 282 = .ok (.iadd, 1) := by decide +kernel
theorem dX9_feast_283 : decode cX9_feast 283 = .ok (.putfield 184, 3) := by decide +kernel
theorem dX9_feast_286 : decode cX9_feast 286 = .ok (.aload_n 0, 1) := by decide +kernel
theorem dX9_feast_287 : decode cX9_feast 287 = .ok (.iconst 2, 1) := by decide +kernel
theorem dX9_feast_288 : decode cX9_feast 288 = .ok (.invokevirtual 173, 3) := by decide +kernel
theorem dX9_feast_291 : decode cX9_feast 291 = .ok (.aload_n 0, 1) := by decide +kernel
theorem dX9_feast_292 : decode cX9_feast 292 = .ok (.invokevirtual 190, 3) := by decide +kernel
theorem dX9_feast_295 : decode cX9_feast 295 = .ok (.aload_n 0, 1) := by decide +kernel
theorem dX9_feast_296 : decode cX9_feast 296 = .ok (.getfield 184, 3) := by decide +kernel
theorem dX9_feast_299 : decode cX9_feast 299 = .ok (.iconst 1, 1) := by decide +kernel
theorem dX9_feast_300 : decode cX9_feast 300 = .ok (.isub, 1) := by decide +kernel
theorem dX9_feast_301 : decode cX9_feast 301 = .ok (.ireturn, 1) := by decide +kernel
theorem dX9_movableDay_0 : decode cX9_movableDay 0 = .ok (.iload_n 2, 1) := by decide +kernel
theorem dX9_movableDay_1 : decode cX9_movableDay 1 = .ok (.bipush 19, 2) := by decide +kernel
theorem dX9_movableDay_3 : decode cX9_movableDay 3 = .ok (.irem, 1) := by decide +kernel
theorem dX9_movableDay_4 : decode cX9_movableDay 4 = .ok (.istore_n 3, 1) := by decide +kernel
theorem dX9_movableDay_5 : decode cX9_movableDay 5 = .ok (.iload_n 1, 1) := by decide +kernel
theorem dX9_movableDay_6 : decode cX9_movableDay 6 = .ok (.iconst 1, 1) := by decide +kernel
theorem dX9_movableDay_7 : decode cX9_movableDay 7 = .ok (.if_icmp .ne 38, 3) := by decide +kernel
theorem dX9_movableDay_10 : decode cX9_movableDay 10 = .ok (.bipush 19, 2) := by decide +kernel
theorem dX9_movableDay_12 : decode cX9_movableDay 12 = .ok (.iload_n 3, 1) := by decide +kernel
theorem dX9_movableDay_13 : decode cX9_movableDay 13 = .ok (.imul, 1) := by decide +kernel
theorem dX9_movableDay_14 : decode cX9_movableDay 14 = .ok (.bipush 15, 2) := by decide +kernel
theorem dX9_movableDay_16 : decode cX9_movableDay 16 = .ok (.iadd, 1) := by decide +kernel
theorem dX9_movableDay_17 : decode cX9_movableDay 17 = .ok (.bipush 30, 2) := by decide +kernel
theorem dX9_movableDay_19 : decode cX9_movableDay 19 = .ok (.invokestatic 93, 3) := by decide +kernel
theorem dX9_movableDay_22 : decode cX9_movableDay 22 = .ok (.istore 5, 2) := by decide +kernel
theorem dX9_movableDay_24 : decode cX9_movableDay 24 = .ok (.iload 5, 2) := by decide +kernel
theorem dX9_movableDay_26 : decode cX9_movableDay 26 = .ok (.iload_n 2, 1) := by decide +kernel
theorem dX9_movableDay_27 : decode cX9_movableDay 27 = .ok (.iload_n 2, 1) := by decide +kernel
theorem dX9_movableDay_28 : decode cX9_movableDay 28 = .ok (.iconst 4, 1) := by decide +kernel
theorem dX9_movableDay_29 : decode cX9_movableDay 29 = .ok (.idiv, 1) := by decide +kernel
theorem dX9_movableDay_30 : decode cX9_movableDay 30 = .ok (.iadd, 1) := by decide +kernel
theorem dX9_movableDay_31 : decode cX9_movableDay 31 = .ok (.iload 5, 2) := by decide +kernel
theorem dX9_movableDay_33 : decode cX9_movableDay 33 = .ok (.iadd, 1) := by decide +kernel
theorem dX9_movableDay_34 : decode cX9_movableDay 34 = .ok (.bipush 7, 2) := by decide +kernel
theorem dX9_movableDay_36 : decode cX9_movableDay 36 = .ok (.invokestatic 93, 3) := by decide +kernel
theorem dX9_movableDay_39 : decode cX9_movableDay 39 = .ok (.isub, 1) := by decide +kernel
theorem dX9_movableDay_40 : decode cX9_movableDay 40 = .ok (.istore 4, 2) := by decide +kernel
theorem dX9_movableDay_42 : decode cX9_movableDay 42 = .ok (.goto 99, 3) := by decide +kernel
theorem dX9_movableDay_45 : decode cX9_movableDay 45 = .ok (.iload_n 2, 1) := by decide +kernel
theorem dX9_movableDay_46 : decode cX9_movableDay 46 = .ok (.bipush 100, 2) := by decide +kernel
theorem dX9_movableDay_48 : decode cX9_movableDay 48 = .ok (.idiv, 1) := by decide +kernel
theorem dX9_movableDay_49 : decode cX9_movableDay 49 = .ok (.istore 5, 2) := by decide +kernel
theorem dX9_movableDay_51 : decode cX9_movableDay 51 = .ok (.iload 5, 2) := by decide +kernel
theorem dX9_movableDay_53 : decode cX9_movableDay 53 = .ok (.iload 5, 2) := by decide +kernel
theorem dX9_movableDay_55 : decode cX9_movableDay 55 = .ok (.iconst 4, 1) := by decide +kernel
theorem dX9_movableDay_56 : decode cX9_movableDay 56 = .ok (.idiv, 1) := by decide +kernel
theorem dX9_movableDay_57 : decode cX9_movableDay 57 = .ok (.isub, 1) := by decide +kernel
theorem dX9_movableDay_58 : decode cX9_movableDay 58 = .ok (.bipush 8, 2) := by decide +kernel
theorem dX9_movableDay_60 : decode cX9_movableDay 60 = .ok (.iload 5, 2) := by decide +kernel
theorem dX9_movableDay_62 : decode cX9_movableDay 62 = .ok (.imul, 1) := by decide +kernel
theorem dX9_movableDay_63 : decode cX9_movableDay 63 = .ok (.bipush 13, 2) := by decide +kernel
theorem dX9_movableDay_65 : decode cX9_movableDay 65 = .ok (.iadd, 1) := by decide +kernel
theorem dX9_movableDay_66 : decode cX9_movableDay 66 = .ok (.bipush 25, 2) := by decide +kernel
theorem dX9_movableDay_68 : decode cX9_movableDay 68 = .ok (.idiv, 1) := by decide +kernel
theorem dX9_movableDay_69 : decode cX9_movableDay 69 = .ok (.isub, 1) := by decide +kernel
theorem dX9_movableDay_70 : decode cX9_movableDay 70 = .ok (.bipush 19, 2) := by decide +kernel
theorem dX9_movableDay_72 : decode cX9_movableDay 72 = .ok (.iload_n 3, 1) := by decide +kernel
theorem dX9_movableDay_73 : decode cX9_movableDay 73 = .ok (.imul, 1) := by decide +kernel
theorem dX9_movableDay_74 : decode cX9_movableDay 74 = .ok (.iadd, 1) := by decide +kernel
theorem dX9_movableDay_75 : decode cX9_movableDay 75 = .ok (.bipush 15, 2) := by decide +kernel
theorem dX9_movableDay_77 : decode cX9_movableDay 77 = .ok (.iadd, 1) := by decide +kernel
theorem dX9_movableDay_78 : decode cX9_movableDay 78 = .ok (.bipush 30, 2) := by decide +kernel
theorem dX9_movableDay_80 : decode cX9_movableDay 80 = .ok (.invokestatic 93, 3) := by decide +kernel
theorem dX9_movableDay_83 : decode cX9_movableDay 83 = .ok (.istore 6, 2) := by decide +kernel
theorem dX9_movableDay_85 : decode cX9_movableDay 85 = .ok (.iload 6, 2) := by decide +kernel
theorem dX9_movableDay_87 : decode cX9_movableDay 87 = .ok (.iload 6, 2) := by decide +kernel
theorem dX9_movableDay_89 : decode cX9_movableDay 89 = .ok (.bipush 28, 2) := by decide +kernel
theorem dX9_movableDay_91 : decode cX9_movableDay 91 = .ok (.idiv, 1) := by decide +kernel
theorem dX9_movableDay_92 : decode cX9_movableDay 92 = .ok (.iconst 1, 1) := by decide +kernel
theorem dX9_movableDay_93 : decode cX9_movableDay 93 = .ok (.bipush 29, 2) := by decide +kernel
theorem dX9_movableDay_95 : decode cX9_movableDay 95 = .ok (.iload 6, 2) := by decide +kernel
theorem dX9_movableDay_97 : decode cX9_movableDay 97 = .ok (.iconst 1, 1) := by decide +kernel
theorem dX9_movableDay_98 : decode cX9_movableDay 98 = .ok (.iadd, 1) := by decide +kernel
theorem dX9_movableDay_99 : decode cX9_movableDay 99 = .ok (.idiv, 1) := by decide +kernel
theorem dX9_movableDay_100 : decode cX9_movableDay 100 = .ok (.bipush 21, 2) := by decide +kernel
theorem dX9_movableDay_102 : decode cX9_movableDay 102 = .ok (.iload_n 3, 1) := by decide +kernel
theorem dX9_movableDay_103 : decode cX9_movableDay 103 = .ok (.isub, 1) := by decide +kernel
theorem dX9_movableDay_104 : decode cX9_movableDay 104 = .ok (.bipush 11, 2) := by decide +kernel
theorem dX9_movableDay_106 : decode cX9_movableDay 106 = .ok (.idiv, 1) := by decide +kernel
theorem dX9_movableDay_107 : decode cX9_movableDay 107 = .ok (.imul, 1) := by decide +kernel
theorem dX9_movableDay_108 : decode cX9_movableDay 108 = .ok (.isub, 1) := by decide +kernel
theorem dX9_movableDay_109 : decode cX9_movableDay 109 = .ok (.imul, 1) := by decide +kernel
theorem dX9_movableDay_110 : decode cX9_movableDay 110 = .ok (.isub, 1) := by decide +kernel
theorem dX9_movableDay_111 : decode cX9_movableDay 111 = .ok (.istore 7, 2) := by decide +kernel
theorem dX9_movableDay_113 : decode cX9_movableDay 113 = .ok (.iload 7, 2) := by decide +kernel
theorem dX9_movableDay_115 : decode cX9_movableDay 115 = .ok (.iload_n 2, 1) := by decide +kernel
theorem dX9_movableDay_116 : decode cX9_movableDay 116 = .ok (.iload_n 2, 1) := by decide +kernel
theorem dX9_movableDay_117 : decode cX9_movableDay 117 = .ok (.iconst 4, 1) := by decide +kernel
theorem dX9_movableDay_118 : decode cX9_movableDay 118 = .ok (.idiv, 1) := by decide +kernel
theorem dX9_movableDay_119 : decode cX9_movableDay 119 = .ok (.iadd, 1) := by decide +kernel
theorem dX9_movableDay_120 : decode cX9_movableDay 120 = .ok (.iload 7, 2) := by decide +kernel
theorem dX9_movableDay_122 : decode cX9_movableDay 122 = .ok (.iadd, 1) := by decide +kernel
theorem dX9_movableDay_123 : decode cX9_movableDay 123 = .ok (.iconst 2, 1) := by decide +kernel
theorem dX9_movableDay_124 : decode cX9_movableDay 124 = .ok (.iadd, 1) := by decide +kernel
theorem dX9_movableDay_125 : decode cX9_movableDay 125 = .ok (.iload 5, 2) := by decide +kernel
theorem dX9_movableDay_127 : decode cX9_movableDay 127 = .ok (.isub, 1) := by decide +kernel
theorem dX9_movableDay_128 : decode cX9_movableDay 128 = .ok (.iload 5, 2) := by decide +kernel
theorem dX9_movableDay_130 : decode cX9_movableDay 130 = .ok (.iconst 4, 1) := by decide +kernel
theorem dX9_movableDay_131 : decode cX9_movableDay 131 = .ok (.idiv, 1) := by decide +kernel
theorem dX9_movableDay_132 : decode cX9_movableDay 132 = .ok (.iadd, 1) := by decide +kernel
theorem dX9_movableDay_133 : decode cX9_movableDay 133 = .ok (.bipush 7, 2) := by decide +kernel
theorem dX9_movableDay_135 : decode cX9_movableDay 135 = .ok (.invokestatic 93, 3) := by decide +kernel
theorem dX9_movableDay_138 : decode cX9_movableDay 138 = .ok (.isub, 1) := by decide +kernel
theorem dX9_movableDay_139 : decode cX9_movableDay 139 = .ok (.istore 4, 2) := by decide +kernel
theorem dX9_movableDay_141 : decode cX9_movableDay 141 = .ok (.iconst 3, 1) := by decide +kernel
theorem dX9_movableDay_142 : decode cX9_movableDay 142 = .ok (.iload 4, 2) := by decide +kernel
theorem dX9_movableDay_144 : decode cX9_movableDay 144 = .ok (.bipush 40, 2) := by decide +kernel
theorem dX9_movableDay_146 : decode cX9_movableDay 146 = .ok (.iadd, 1) := by decide +kernel
theorem dX9_movableDay_147 : decode cX9_movableDay 147 = .ok (.bipush 44, 2) := by decide +kernel
theorem dX9_movableDay_149 : decode cX9_movableDay 149 = .ok (.idiv, 1) := by decide +kernel
theorem dX9_movableDay_150 : decode cX9_movableDay 150 = .ok (.iadd, 1) := by decide +kernel
theorem dX9_movableDay_151 : decode cX9_movableDay 151 = .ok (.istore 5, 2) := by decide +kernel
theorem dX9_movableDay_153 : decode cX9_movableDay 153 = .ok (.aload_n 0, 1) := by decide +kernel
theorem dX9_movableDay_154 : decode cX9_movableDay 154 = .ok (.iload_n 1, 1) := by decide +kernel
theorem dX9_movableDay_155 : decode cX9_movableDay 155 = .ok (.iload_n 2, 1) := by decide +kernel
theorem dX9_movableDay_156 : decode cX9_movableDay 156 = .ok (.iload 5, 2) := by decide +kernel
theorem dX9_movableDay_158 : decode cX9_movableDay 158 = .ok (.invokevirtual 148, 3) := by decide +kernel
theorem dX9_movableDay_161 : decode cX9_movableDay 161 = .ok (.iload 4, 2) := by decide +kernel
theorem dX9_movableDay_163 : decode cX9_movableDay 163 = .ok (.iadd, 1) := by decide +kernel
theorem dX9_movableDay_164 : decode cX9_movableDay 164 = .ok (.bipush 28, 2) := by decide +kernel
theorem dX9_movableDay_166 : decode cX9_movableDay 166 = .ok (.iadd, 1) := by decide +kernel
theorem dX9_movableDay_167 : decode cX9_movableDay 167 = .ok (.bipush 31, 2) := by decide +kernel
theorem dX9_movableDay_169 : decode cX9_movableDay 169 = .ok (.iload 5, 2) := by decide +kernel
theorem dX9_movableDay_171 : decode cX9_movableDay 171 = .ok (.iconst 4, 1) := by decide +kernel
theorem dX9_movableDay_172 : decode cX9_movableDay 172 = .ok (.idiv, 1) := by decide +kernel
theorem dX9_movableDay_173 : decode cX9_movableDay 173 = .ok (.imul, 1) := by decide +kernel
theorem dX9_movableDay_174 : decode cX9_movableDay 174 = .ok (.isub, 1) := by decide +kernel
theorem dX9_movableDay_175 : decode cX9_movableDay 175 = .ok (.iconst 1, 1) := by decide +kernel
theorem dX9_movableDay_176 : decode cX9_movableDay 176 = .ok (.isub, 1) := by decide +kernel
theorem dX9_movableDay_177 : decode cX9_movableDay 177 = .ok (.ireturn, 1) := by decide +kernel
theorem dX9_movable_0 : decode cX9_movable 0 = .ok (.iload_n 1, 1) := by decide +kernel
theorem dX9_movable_1 : decode cX9_movable 1 = .ok (.iconst 0, 1) := by decide +kernel
theorem dX9_movable_2 : decode cX9_movable 2 = .ok (.iconst 1, 1) := by decide +kernel
theorem dX9_movable_3 : decode cX9_movable 3 = .ok (.invokestatic 138, 3) := by decide +kernel
theorem dX9_movable_6 : decode cX9_movable 6 = .ok (.ifCond .ne 5, 3) := by decide +kernel
theorem dX9_movable_9 : decode cX9_movable 9 = .ok (.iconst (-1), 1) := by decide +kernel
theorem dX9_movable_10 : decode cX9_movable 10 = .ok (.ireturn, 1) := by decide +kernel
theorem dX9_movable_11 : decode cX9_movable 11 = .ok (.aload_n 0, 1) := by decide +kernel
theorem dX9_movable_12 : decode cX9_movable 12 = .ok (.iconst 0, 1) := by decide +kernel
theorem dX9_movable_13 : decode cX9_movable 13 = .ok (.iload_n 2, 1) := by decide +kernel
theorem dX9_movable_14 : decode cX9_movable 14 = .ok (.invokevirtual 120, 3) := by decide +kernel
theorem dX9_movable_17 : decode cX9_movable 17 = .ok (.ifCond .ne 6, 3) := by decide +kernel
theorem dX9_movable_20 : decode cX9_movable 20 = .ok (.bipush (-2), 2) := by decide +kernel
theorem dX9_movable_22 : decode cX9_movable 22 = .ok (.ireturn, 1) := by decide +kernel
theorem dX9_movable_23 : decode cX9_movable 23 = .ok (.aload_n 0, 1) := by decide +kernel
theorem dX9_movable_24 : decode cX9_movable 24 = .ok (.iload_n 1, 1) := by decide +kernel
theorem dX9_movable_25 : decode cX9_movable 25 = .ok (.iload_n 2, 1) := by decide +kernel
theorem dX9_movable_26 : decode cX9_movable 26 = .ok (.invokevirtual 193, 3) := by decide +kernel
theorem dX9_movable_29 : decode cX9_movable 29 = .ok (.istore_n 3, 1) := by decide +kernel
theorem dX9_movable_30 : decode cX9_movable 30 = .ok (.iload_n 3, 1) := by decide +kernel
theorem dX9_movable_31 : decode cX9_movable 31 = .ok (.i2l, 1) := by decide +kernel
theorem dX9_movable_32 : decode cX9_movable 32 = .ok (.invokestatic 151, 3) := by decide +kernel
theorem dX9_movable_35 : decode cX9_movable 35 = .ok (.ifCond .eq 7, 3) := by decide +kernel
theorem dX9_movable_38 : decode cX9_movable 38 = .ok (.iload_n 3, 1) := by decide +kernel
theorem dX9_movable_39 : decode cX9_movable 39 = .ok (.goto 5, 3) := by decide +kernel
theorem dX9_movable_42 : decode cX9_movable 42 = .ok (.bipush (-3), 2) := by decide +kernel
theorem dX9_movable_44 : decode cX9_movable 44 = .ok (.ireturn, 1) := by decide +kernel
theorem dX9_fixed_0 : decode cX9_fixed 0 = .ok (.iconst 0, 1) := by decide +kernel
theorem dX9_fixed_1 : decode cX9_fixed 1 = .ok (.iload_n 1, 1) := by decide +kernel
theorem dX9_fixed_2 : decode cX9_fixed 2 = .ok (.invokestatic 109, 3) := by decide +kernel
theorem dX9_fixed_5 : decode cX9_fixed 5 = .ok (.istore 5, 2) := by decide +kernel
theorem dX9_fixed_7 : decode cX9_fixed 7 = .ok (.iconst 0, 1) := by decide +kernel
theorem dX9_fixed_8 : decode cX9_fixed 8 = .ok (.iload_n 1, 1) := by decide +kernel
theorem dX9_fixed_9 : decode cX9_fixed 9 = .ok (.iconst 1, 1) := by decide +kernel
theorem dX9_fixed_10 : decode cX9_fixed 10 = .ok (.iadd, 1) := by decide +kernel
theorem dX9_fixed_11 : decode cX9_fixed 11 = .ok (.invokestatic 109, 3) := by decide +kernel
theorem dX9_fixed_14 : decode cX9_fixed 14 = .ok (.iconst 1, 1) := by decide +kernel
theorem dX9_fixed_15 : decode cX9_fixed 15 = .ok (.isub, 1) := by decide +kernel
theorem dX9_fixed_16 : decode cX9_fixed 16 = .ok (.istore 6, 2) := by decide +kernel
theorem dX9_fixed_18 : decode cX9_fixed 18 = .ok (.iload 5, 2) := by decide +kernel
theorem dX9_fixed_20 : decode cX9_fixed 20 = .ok (.ifCond .gt 11, 3) := by decide +kernel
theorem dX9_fixed_23 : decode cX9_fixed 23 = .ok (.iload 4, 2) := by decide +kernel
theorem dX9_fixed_25 : decode cX9_fixed 25 = .ok (.invokestatic 81, 3) := by decide +kernel
theorem dX9_fixed_28 : decode cX9_fixed 28 = .ok (.goto 10, 3) := by decide +kernel
theorem dX9_fixed_31 : decode cX9_fixed 31 = .ok (.iload 4, 2) := by decide +kernel
theorem dX9_fixed_33 : decode cX9_fixed 33 = .ok (.iload 5, 2) := by decide +kernel
theorem dX9_fixed_35 : decode cX9_fixed 35 = .ok (.invokestatic 135, 3) := by decide +kernel
theorem dX9_fixed_38 : decode cX9_fixed 38 = .ok (.istore 7, 2) := by decide +kernel
theorem dX9_fixed_40 : decode cX9_fixed 40 = .ok (.iload 7, 2) := by decide +kernel
theorem dX9_fixed_42 : decode cX9_fixed 42 = .ok (.istore 8, 2) := by decide +kernel
theorem dX9_fixed_44 : decode cX9_fixed 44 = .ok (.iload 8, 2) := by decide +kernel
theorem dX9_fixed_46 : decode cX9_fixed 46 = .ok (.iload 7, 2) := by decide +kernel
theorem dX9_fixed_48 : decode cX9_fixed 48 = .ok (.iconst 4, 1) := by decide +kernel
theorem dX9_fixed_49 : decode cX9_fixed 49 = .ok (.iadd, 1) := by decide +kernel
theorem dX9_fixed_50 : decode cX9_fixed 50 = .ok (.if_icmp .ge 66, 3) := by decide +kernel
theorem dX9_fixed_53 : decode cX9_fixed 53 = .ok (.aload_n 0, 1) := by decide +kernel
theorem dX9_fixed_54 : decode cX9_fixed 54 = .ok (.iload 4, 2) := by decide +kernel
theorem dX9_fixed_56 : decode cX9_fixed 56 = .ok (.iload 8, 2) := by decide +kernel
theorem dX9_fixed_58 : decode cX9_fixed 58 = .ok (.iload_n 2, 1) := by decide +kernel
theorem dX9_fixed_59 : decode cX9_fixed 59 = .ok (.invokevirtual 145, 3) := by decide +kernel
theorem dX9_fixed_62 : decode cX9_fixed 62 = .ok (.ifCond .eq 48, 3) := by decide +kernel
theorem dX9_fixed_65 : decode cX9_fixed 65 = .ok (.iload_n 3, 1) := by decide +kernel
theorem dX9_fixed_66 : decode cX9_fixed 66 = .ok (.aload_n 0, 1) := by decide +kernel
theorem dX9_fixed_67 : decode cX9_fixed 67 = .ok (.iload 4, 2) := by decide +kernel
theorem dX9_fixed_69 : decode cX9_fixed 69 = .ok (.iload 8, 2) := by decide +kernel
theorem dX9_fixed_71 : decode cX9_fixed 71 = .ok (.iload_n 2, 1) := by decide +kernel
theorem dX9_fixed_72 : decode cX9_fixed 72 = .ok (.invokevirtual 116, 3) := by decide +kernel
theorem dX9_fixed_75 : decode cX9_fixed 75 = .ok (.if_icmp .gt 35, 3) := by decide +kernel
theorem dX9_fixed_78 : decode cX9_fixed 78 = .ok (.aload_n 0, 1) := by decide +kernel
theorem dX9_fixed_79 : decode cX9_fixed 79 = .ok (.iload 4, 2) := by decide +kernel
theorem dX9_fixed_81 : decode cX9_fixed 81 = .ok (.iload 8, 2) := by decide +kernel
theorem dX9_fixed_83 : decode cX9_fixed 83 = .ok (.iload_n 2, 1) := by decide +kernel
theorem dX9_fixed_84 : decode cX9_fixed 84 = .ok (.invokevirtual 148, 3) := by decide +kernel
theorem dX9_fixed_87 : decode cX9_fixed 87 = .ok (.iload_n 3, 1) := by decide +kernel
theorem dX9_fixed_88 : decode cX9_fixed 88 = .ok (.iadd, 1) := by decide +kernel
theorem dX9_fixed_89 : decode cX9_fixed 89 = .ok (.iconst 1, 1) := by decide +kernel
theorem dX9_fixed_90 : decode cX9_fixed 90 = .ok (.isub, 1) := by decide +kernel
theorem dX9_fixed_91 : decode cX9_fixed 91 = .ok (.istore 9, 2) := by decide +kernel
theorem dX9_fixed_93 : decode cX9_fixed 93 = .ok (.iload 9, 2) := by decide +kernel
theorem dX9_fixed_95 : decode cX9_fixed 95 = .ok (.iload 5, 2) := by decide +kernel
theorem dX9_fixed_97 : decode cX9_fixed 97 = .ok (.if_icmp .lt 13, 3) := by decide +kernel
theorem dX9_fixed_100 : decode cX9_fixed 100 = .ok (.iload 9, 2) := by decide +kernel
theorem dX9_fixed_102 : decode cX9_fixed 102 = .ok (.iload 6, 2) := by decide +kernel
theorem dX9_fixed_104 : decode cX9_fixed 104 = .ok (.if_icmp .gt 6, 3) := by decide +kernel
theorem dX9_fixed_107 : decode cX9_fixed 107 = .ok (.iload 9, 2) := by decide +kernel
theorem dX9_fixed_109 : decode cX9_fixed 109 = .ok (.ireturn, 1) := by decide +kernel
theorem dX9_fixed_110 : decode cX9_fixed 110 = .ok (.iinc 8 1, 3) := by decide +kernel
theorem dX9_fixed_113 : decode cX9_fixed 113 = .ok (.goto (-69), 3) := by decide +kernel
theorem dX9_fixed_116 : decode cX9_fixed 116 = .ok (.bipush (-2), 2) := by decide +kernel
theorem dX9_fixed_118 : decode cX9_fixed 118 = .ok (.ireturn, 1) := by decide +kernel
theorem dX9_weekday_0 : decode cX9_weekday 0 = .ok (.aload_n 0, 1) := by decide +kernel
theorem dX9_weekday_1 : decode cX9_weekday 1 = .ok (.iconst 0, 1) := by decide +kernel
theorem dX9_weekday_2 : decode cX9_weekday 2 = .ok (.iload_n 1, 1) := by decide +kernel
theorem dX9_weekday_3 : decode cX9_weekday 3 = .ok (.iload_n 2, 1) := by decide +kernel
theorem dX9_weekday_4 : decode cX9_weekday 4 = .ok (.invokevirtual 148, 3) := by decide +kernel
theorem dX9_weekday_7 : decode cX9_weekday 7 = .ok (.istore 5, 2) := by decide +kernel
theorem dX9_weekday_9 : decode cX9_weekday 9 = .ok (.aload_n 0, 1) := by decide +kernel
theorem dX9_weekday_10 : decode cX9_weekday 10 = .ok (.iconst 0, 1) := by decide +kernel
theorem dX9_weekday_11 : decode cX9_weekday 11 = .ok (.iload_n 1, 1) := by decide +kernel
theorem dX9_weekday_12 : decode cX9_weekday 12 = .ok (.iload_n 2, 1) := by decide +kernel
theorem dX9_weekday_13 : decode cX9_weekday 13 = .ok (.invokevirtual 116, 3) := by decide +kernel
theorem dX9_weekday_16 : decode cX9_weekday 16 = .ok (.istore 6, 2) := by decide +kernel
theorem dX9_weekday_18 : decode cX9_weekday 18 = .ok (.iload_n 3, 1) := by decide +kernel
theorem dX9_weekday_19 : decode cX9_weekday 19 = .ok (.iload 5, 2) := by decide +kernel
theorem dX9_weekday_21 : decode cX9_weekday 21 = .ok (.isub, 1) := by decide +kernel
theorem dX9_weekday_22 : decode cX9_weekday 22 = .ok (.bipush 7, 2) := by decide +kernel
theorem dX9_weekday_24 : decode cX9_weekday 24 = .ok (.invokestatic 93, 3) := by decide +kernel
theorem dX9_weekday_27 : decode cX9_weekday 27 = .ok (.istore 7, 2) := by decide +kernel
theorem dX9_weekday_29 : decode cX9_weekday 29 = .ok (.bipush (-2), 2) := by decide +kernel
theorem dX9_weekday_31 : decode cX9_weekday 31 = .ok (.istore 8, 2) := by decide +kernel
theorem dX9_weekday_33 : decode cX9_weekday 33 = .ok (.iload 4, 2) := by decide +kernel
theorem dX9_weekday_35 : decode cX9_weekday 35 = .ok (.iconst (-1), 1) := by decide +kernel
theorem dX9_weekday_36 : decode cX9_weekday 36 = .ok (.if_icmp .ne 25, 3) := by decide +kernel
theorem dX9_weekday_39 : decode cX9_weekday 39 = .ok (.iload 7, 2) := by decide +kernel
theorem dX9_weekday_41 : decode cX9_weekday 41 = .ok (.bipush 7, 2) := by decide +kernel
theorem dX9_weekday_43 : decode cX9_weekday 43 = .ok (.iadd, 1) := by decide +kernel
theorem dX9_weekday_44 : decode cX9_weekday 44 = .ok (.iload 6, 2) := by decide +kernel
theorem dX9_weekday_46 : decode cX9_weekday 46 = .ok (.if_icmp .ge 9, 3) := by decide +kernel
theorem dX9_weekday_49 : decode cX9_weekday 49 = .ok (.iinc 7 7, 3) := by decide +kernel
theorem dX9_weekday_52 : decode cX9_weekday 52 = .ok (.goto (-13), 3) := by decide +kernel
theorem dX9_weekday_55 : decode cX9_weekday 55 = .ok (.iload 5, 2) := by decide +kernel
theorem dX9_weekday_57 : decode cX9_weekday 57 = .ok (.iload 7, 2) := by decide +kernel
theorem dX9_weekday_59 : decode cX9_weekday 59 = .ok (.iadd, 1) := by decide +kernel
theorem dX9_weekday_60 : decode cX9_weekday 60 = .ok (.ireturn, 1) := by decide +kernel
theorem dX9_weekday_61 : decode cX9_weekday 61 = .ok (.iload 7, 2) := by decide +kernel
theorem dX9_weekday_63 : decode cX9_weekday 63 = .ok (.bipush 7, 2) := by decide +kernel
theorem dX9_weekday_65 : decode cX9_weekday 65 = .ok (.iload 4, 2) := by decide +kernel
theorem dX9_weekday_67 : decode cX9_weekday 67 = .ok (.iconst 1, 1) := by decide +kernel
theorem dX9_weekday_68 : decode cX9_weekday 68 = .ok (.isub, 1) := by decide +kernel
theorem dX9_weekday_69 : decode cX9_weekday 69 = .ok (.imul, 1) := by decide +kernel
theorem dX9_weekday_70 : decode cX9_weekday 70 = .ok (.iadd, 1) := by decide +kernel
theorem dX9_weekday_71 : decode cX9_weekday 71 = .ok (.istore 7, 2) := by decide +kernel
theorem dX9_weekday_73 : decode cX9_weekday 73 = .ok (.iload 7, 2) := by decide +kernel
theorem dX9_weekday_75 : decode cX9_weekday 75 = .ok (.iload 6, 2) := by decide +kernel
theorem dX9_weekday_77 : decode cX9_weekday 77 = .ok (.if_icmp .ge 11, 3) := by decide +kernel
theorem dX9_weekday_80 : decode cX9_weekday 80 = .ok (.iload 5, 2) := by decide +kernel
theorem dX9_weekday_82 : decode cX9_weekday 82 = .ok (.iload 7, 2) := by decide +kernel
theorem dX9_weekday_84 : decode cX9_weekday 84 = .ok (.iadd, 1) := by decide +kernel
theorem dX9_weekday_85 : decode cX9_weekday 85 = .ok (.goto 5, 3) := by decide +kernel
theorem dX9_weekday_88 : decode cX9_weekday 88 = .ok (.iload 8, 2) := by decide +kernel
theorem dX9_weekday_90 : decode cX9_weekday 90 = .ok (.ireturn, 1) := by decide +kernel
theorem dX9_forget_0 : decode cX9_forget 0 = .ok (.aload_n 0, 1) := by decide +kernel
theorem dX9_forget_1 : decode cX9_forget 1 = .ok (.iconst 0, 1) := by decide +kernel
theorem dX9_forget_2 : decode cX9_forget 2 = .ok (.putfield 196, 3) := by decide +kernel
theorem dX9_forget_5 : decode cX9_forget 5 = .ok (.return_, 1) := by decide +kernel
theorem dX9_kept_0 : decode cX9_kept 0 = .ok (.aload_n 0, 1) := by decide +kernel
theorem dX9_kept_1 : decode cX9_kept 1 = .ok (.getfield 196, 3) := by decide +kernel
theorem dX9_kept_4 : decode cX9_kept 4 = .ok (.ifCond .ne 28, 3) := by decide +kernel
theorem dX9_kept_7 : decode cX9_kept 7 = .ok (.iconst 0, 1) := by decide +kernel
theorem dX9_kept_8 : decode cX9_kept 8 = .ok (.istore_n 2, 1) := by decide +kernel
theorem dX9_kept_9 : decode cX9_kept 9 = .ok (.iload_n 2, 1) := by decide +kernel
theorem dX9_kept_10 : decode cX9_kept 10 = .ok (.iconst 4, 1) := by decide +kernel
theorem dX9_kept_11 : decode cX9_kept 11 = .ok (.if_icmp .ge 16, 3) := by decide +kernel
theorem dX9_kept_14 : decode cX9_kept 14 = .ok (.aload_n 0, 1) := by decide +kernel
theorem dX9_kept_15 : decode cX9_kept 15 = .ok (.getfield 44, 3) := by decide +kernel
theorem dX9_kept_18 : decode cX9_kept 18 = .ok (.iload_n 2, 1) := by decide +kernel
theorem dX9_kept_19 : decode cX9_kept 19 = .ok (.iconst (-1), 1) := by decide +kernel
theorem dX9_kept_20 : decode cX9_kept 20 = .ok (.iastore, 1) := by decide +kernel
theorem dX9_kept_21 : decode cX9_kept 21 = .ok (.iinc 2 1, 3) := by decide +kernel
theorem dX9_kept_24 : decode cX9_kept 24 = .ok (.goto (-15), 3) := by decide +kernel
theorem dX9_kept_27 : decode cX9_kept 27 = .ok (.aload_n 0, 1) := by decide +kernel
theorem dX9_kept_28 : decode cX9_kept 28 = .ok (.iconst 1, 1) := by decide +kernel
theorem dX9_kept_29 : decode cX9_kept 29 = .ok (.putfield 196, 3) := by decide +kernel
theorem dX9_kept_32 : decode cX9_kept 32 = .ok (.iconst 0, 1) := by decide +kernel
theorem dX9_kept_33 : decode cX9_kept 33 = .ok (.istore_n 2, 1) := by decide +kernel
theorem dX9_kept_34 : decode cX9_kept 34 = .ok (.iload_n 2, 1) := by decide +kernel
theorem dX9_kept_35 : decode cX9_kept 35 = .ok (.iconst 4, 1) := by decide +kernel
theorem dX9_kept_36 : decode cX9_kept 36 = .ok (.if_icmp .ge 24, 3) := by decide +kernel
theorem dX9_kept_39 : decode cX9_kept 39 = .ok (.aload_n 0, 1) := by decide +kernel
theorem dX9_kept_40 : decode cX9_kept 40 = .ok (.getfield 44, 3) := by decide +kernel
theorem dX9_kept_43 : decode cX9_kept 43 = .ok (.iload_n 2, 1) := by decide +kernel
theorem dX9_kept_44 : decode cX9_kept 44 = .ok (.iaload, 1) := by decide +kernel
theorem dX9_kept_45 : decode cX9_kept 45 = .ok (.iload_n 1, 1) := by decide +kernel
theorem dX9_kept_46 : decode cX9_kept 46 = .ok (.if_icmp .ne 8, 3) := by decide +kernel
theorem dX9_kept_49 : decode cX9_kept 49 = .ok (.bipush 60, 2) := by decide +kernel
theorem dX9_kept_51 : decode cX9_kept 51 = .ok (.iload_n 2, 1) := by decide +kernel
theorem dX9_kept_52 : decode cX9_kept 52 = .ok (.imul, 1) := by decide +kernel
theorem dX9_kept_53 : decode cX9_kept 53 = .ok (.ireturn, 1) := by decide +kernel
theorem dX9_kept_54 : decode cX9_kept 54 = .ok (.iinc 2 1, 3) := by decide +kernel
theorem dX9_kept_57 : decode cX9_kept 57 = .ok (.goto (-23), 3) := by decide +kernel
theorem dX9_kept_60 : decode cX9_kept 60 = .ok (.aload_n 0, 1) := by decide +kernel
theorem dX9_kept_61 : decode cX9_kept 61 = .ok (.aload_n 0, 1) := by decide +kernel
theorem dX9_kept_62 : decode cX9_kept 62 = .ok (.getfield 200, 3) := by decide +kernel
theorem dX9_kept_65 : decode cX9_kept 65 = .ok (.iconst 1, 1) := by decide +kernel
theorem dX9_kept_66 : decode cX9_kept 66 = .ok (.iadd, 1) := by decide +kernel
theorem dX9_kept_67 : decode cX9_kept 67 = .ok (.iconst 4, 1) := by decide +kernel
theorem dX9_kept_68 : decode cX9_kept 68 = .ok (.irem, 1) := by decide +kernel
theorem dX9_kept_69 : decode cX9_kept 69 = .ok (.putfield 200, 3) := by decide +kernel
theorem dX9_kept_72 : decode cX9_kept 72 = .ok (.aload_n 0, 1) := by decide +kernel
theorem dX9_kept_73 : decode cX9_kept 73 = .ok (.getfield 44, 3) := by decide +kernel
theorem dX9_kept_76 : decode cX9_kept 76 = .ok (.aload_n 0, 1) := by decide +kernel
theorem dX9_kept_77 : decode cX9_kept 77 = .ok (.getfield 200, 3) := by decide +kernel
theorem dX9_kept_80 : decode cX9_kept 80 = .ok (.iload_n 1, 1) := by decide +kernel
theorem dX9_kept_81 : decode cX9_kept 81 = .ok (.iastore, 1) := by decide +kernel
theorem dX9_kept_82 : decode cX9_kept 82 = .ok (.aload_n 0, 1) := by decide +kernel
theorem dX9_kept_83 : decode cX9_kept 83 = .ok (.bipush 60, 2) := by decide +kernel
theorem dX9_kept_85 : decode cX9_kept 85 = .ok (.aload_n 0, 1) := by decide +kernel
theorem dX9_kept_86 : decode cX9_kept 86 = .ok (.getfield 200, 3) := by decide +kernel
theorem dX9_kept_89 : decode cX9_kept 89 = .ok (.imul, 1) := by decide +kernel
theorem dX9_kept_90 : decode cX9_kept 90 = .ok (.iload_n 1, 1) := by decide +kernel
theorem dX9_kept_91 : decode cX9_kept 91 = .ok (.invokevirtual 203, 3) := by decide +kernel
theorem dX9_kept_94 : decode cX9_kept 94 = .ok (.bipush 60, 2) := by decide +kernel
theorem dX9_kept_96 : decode cX9_kept 96 = .ok (.aload_n 0, 1) := by decide +kernel
theorem dX9_kept_97 : decode cX9_kept 97 = .ok (.getfield 200, 3) := by decide +kernel
theorem dX9_kept_100 : decode cX9_kept 100 = .ok (.imul, 1) := by decide +kernel
theorem dX9_kept_101 : decode cX9_kept 101 = .ok (.ireturn, 1) := by decide +kernel
theorem dX9_place_0 : decode cX9_place 0 = .ok (.iconst 0, 1) := by decide +kernel
theorem dX9_place_1 : decode cX9_place 1 = .ok (.istore_n 3, 1) := by decide +kernel
theorem dX9_place_2 : decode cX9_place 2 = .ok (.iload_n 3, 1) := by decide +kernel
theorem dX9_place_3 : decode cX9_place 3 = .ok (.aload_n 0, 1) := by decide +kernel
theorem dX9_place_4 : decode cX9_place 4 = .ok (.getfield 184, 3) := by decide +kernel
theorem dX9_place_7 : decode cX9_place 7 = .ok (.if_icmp .ge 244, 3) := by decide +kernel
theorem dX9_place_10 : decode cX9_place 10 = .ok (.aload_n 0, 1) := by decide +kernel
theorem dX9_place_11 : decode cX9_place 11 = .ok (.getfield 32, 3) := by decide +kernel
theorem dX9_place_14 : decode cX9_place 14 = .ok (.iload_n 3, 1) := by decide +kernel
theorem dX9_place_15 : decode cX9_place 15 = .ok (.iaload, 1) := by decide +kernel
theorem dX9_place_16 : decode cX9_place 16 = .ok (.istore 4, 2) := by decide +kernel
theorem dX9_place_18 : decode cX9_place 18 = .ok (.aload_n 0, 1) := by decide +kernel
theorem dX9_place_19 : decode cX9_place 19 = .ok (.getfield 35, 3) := by decide +kernel
theorem dX9_place_22 : decode cX9_place 22 = .ok (.iload_n 3, 1) := by decide +kernel
theorem dX9_place_23 : decode cX9_place 23 = .ok (.iaload, 1) := by decide +kernel
theorem dX9_place_24 : decode cX9_place 24 = .ok (.istore 5, 2) := by decide +kernel
theorem dX9_place_26 : decode cX9_place 26 = .ok (.iconst 1, 1) := by decide +kernel
theorem dX9_place_27 : decode cX9_place 27 = .ok (.istore 7, 2) := by decide +kernel
theorem dX9_place_29 : decode cX9_place 29 = .ok (.aload_n 0, 1) := by decide +kernel
theorem dX9_place_30 : decode cX9_place 30 = .ok (.getfield 29, 3) := by decide +kernel
theorem dX9_place_33 : decode cX9_place 33 = .ok (.iload_n 3, 1) := by decide +kernel
theorem dX9_place_34 : decode cX9_place 34 = .ok (.iaload, 1) := by decide +kernel
theorem dX9_place_35 : decode cX9_place 35 = .ok (.ifCond .ne 37, 3) := by decide +kernel
theorem dX9_place_38 : decode cX9_place 38 = .ok (.aload_n 0, 1) := by decide +kernel
theorem dX9_place_39 : decode cX9_place 39 = .ok (.iload_n 2, 1) := by decide +kernel
theorem dX9_place_40 : decode cX9_place 40 = .ok (.iload 4, 2) := by decide +kernel
theorem dX9_place_42 : decode cX9_place 42 = .ok (.iload 5, 2) := by decide +kernel
theorem dX9_place_44 : decode cX9_place 44 = .ok (.aload_n 0, 1) := by decide +kernel
theorem dX9_place_45 : decode cX9_place 45 = .ok (.getfield 38, 3) := by decide +kernel
theorem dX9_place_48 : decode cX9_place 48 = .ok (.iload_n 3, 1) := by decide +kernel
theorem dX9_place_49 : decode cX9_place 49 = .ok (.iaload, 1) := by decide +kernel
theorem dX9_place_50 : decode cX9_place 50 = .ok (.invokevirtual 207, 3) := by decide +kernel
theorem dX9_place_53 : decode cX9_place 53 = .ok (.istore 6, 2) := by decide +kernel
theorem dX9_place_55 : decode cX9_place 55 = .ok (.iload 6, 2) := by decide +kernel
theorem dX9_place_57 : decode cX9_place 57 = .ok (.bipush (-2), 2) := by decide +kernel
theorem dX9_place_59 : decode cX9_place 59 = .ok (.if_icmp .eq 7, 3) := by decide +kernel
theorem dX9_place_62 : decode cX9_place 62 = .ok (.iconst 1, 1) := by decide +kernel
theorem dX9_place_63 : decode cX9_place 63 = .ok (.goto 4, 3) := by decide +kernel
theorem dX9_place_66 : decode cX9_place 66 = .ok (.iconst 0, 1) := by decide +kernel
theorem dX9_place_67 : decode cX9_place 67 = .ok (.istore 7, 2) := by decide +kernel
theorem dX9_place_69 : decode cX9_place 69 = .ok (.goto 117, 3) := by decide +kernel
theorem dX9_place_72 : decode cX9_place 72 = .ok (.aload_n 0, 1) := by decide +kernel
theorem dX9_place_73 : decode cX9_place 73 = .ok (.getfield 29, 3) := by decide +kernel
theorem dX9_place_76 : decode cX9_place 76 = .ok (.iload_n 3, 1) := by decide +kernel
theorem dX9_place_77 : decode cX9_place 77 = .ok (.iaload, 1) := by decide +kernel
theorem dX9_place_78 : decode cX9_place 78 = .ok (.iconst 1, 1) := by decide +kernel
theorem dX9_place_79 : decode cX9_place 79 = .ok (.if_icmp .ne 47, 3) := by decide +kernel
theorem dX9_place_82 : decode cX9_place 82 = .ok (.aload_n 0, 1) := by decide +kernel
theorem dX9_place_83 : decode cX9_place 83 = .ok (.iconst 0, 1) := by decide +kernel
theorem dX9_place_84 : decode cX9_place 84 = .ok (.iload_n 2, 1) := by decide +kernel
theorem dX9_place_85 : decode cX9_place 85 = .ok (.iload 4, 2) := by decide +kernel
theorem dX9_place_87 : decode cX9_place 87 = .ok (.invokevirtual 148, 3) := by decide +kernel
theorem dX9_place_90 : decode cX9_place 90 = .ok (.istore 8, 2) := by decide +kernel
theorem dX9_place_92 : decode cX9_place 92 = .ok (.aload_n 0, 1) := by decide +kernel
theorem dX9_place_93 : decode cX9_place 93 = .ok (.iload_n 2, 1) := by decide +kernel
theorem dX9_place_94 : decode cX9_place 94 = .ok (.iload 4, 2) := by decide +kernel
theorem dX9_place_96 : decode cX9_place 96 = .ok (.iload 5, 2) := by decide +kernel
theorem dX9_place_98 : decode cX9_place 98 = .ok (.aload_n 0, 1) := by decide +kernel
theorem dX9_place_99 : decode cX9_place 99 = .ok (.getfield 38, 3) := by decide +kernel
theorem dX9_place_102 : decode cX9_place 102 = .ok (.iload_n 3, 1) := by decide +kernel
theorem dX9_place_103 : decode cX9_place 103 = .ok (.iaload, 1) := by decide +kernel
theorem dX9_place_104 : decode cX9_place 104 = .ok (.invokevirtual 210, 3) := by decide +kernel
theorem dX9_place_107 : decode cX9_place 107 = .ok (.istore 6, 2) := by decide +kernel
theorem dX9_place_109 : decode cX9_place 109 = .ok (.iload 6, 2) := by decide +kernel
theorem dX9_place_111 : decode cX9_place 111 = .ok (.iload 8, 2) := by decide +kernel
theorem dX9_place_113 : decode cX9_place 113 = .ok (.if_icmp .lt 7, 3) := by decide +kernel
theorem dX9_place_116 : decode cX9_place 116 = .ok (.iconst 1, 1) := by decide +kernel
theorem dX9_place_117 : decode cX9_place 117 = .ok (.goto 4, 3) := by decide +kernel
theorem dX9_place_120 : decode cX9_place 120 = .ok (.iconst 0, 1) := by decide +kernel
theorem dX9_place_121 : decode cX9_place 121 = .ok (.istore 7, 2) := by decide +kernel
theorem dX9_place_123 : decode cX9_place 123 = .ok (.goto 63, 3) := by decide +kernel
theorem dX9_place_126 : decode cX9_place 126 = .ok (.aload_n 0, 1) := by decide +kernel
theorem dX9_place_127 : decode cX9_place 127 = .ok (.getfield 29, 3) := by decide +kernel
theorem dX9_place_130 : decode cX9_place 130 = .ok (.iload_n 3, 1) := by decide +kernel
theorem dX9_place_131 : decode cX9_place 131 = .ok (.iaload, 1) := by decide +kernel
theorem dX9_place_132 : decode cX9_place 132 = .ok (.iconst 2, 1) := by decide +kernel
theorem dX9_place_133 : decode cX9_place 133 = .ok (.if_icmp .ne 18, 3) := by decide +kernel
theorem dX9_place_136 : decode cX9_place 136 = .ok (.aload_n 0, 1) := by decide +kernel
theorem dX9_place_137 : decode cX9_place 137 = .ok (.iload 5, 2) := by decide +kernel
theorem dX9_place_139 : decode cX9_place 139 = .ok (.iload_n 2, 1) := by decide +kernel
theorem dX9_place_140 : decode cX9_place 140 = .ok (.invokevirtual 193, 3) := by decide +kernel
theorem dX9_place_143 : decode cX9_place 143 = .ok (.iload 4, 2) := by decide +kernel
theorem dX9_place_145 : decode cX9_place 145 = .ok (.iadd, 1) := by decide +kernel
theorem dX9_place_146 : decode cX9_place 146 = .ok (.istore 6, 2) := by decide +kernel
theorem dX9_place_148 : decode cX9_place 148 = .ok (.goto 38, 3) := by decide +kernel
theorem dX9_place_151 : decode cX9_place 151 = .ok (.aload_n 0, 1) := by decide +kernel
theorem dX9_place_152 : decode cX9_place 152 = .ok (.getfield 47, 3) := by decide +kernel
theorem dX9_place_155 : decode cX9_place 155 = .ok (.iload_n 1, 1) := by decide +kernel
theorem dX9_place_156 : decode cX9_place 156 = .ok (.iload 4, 2) := by decide +kernel
theorem dX9_place_158 : decode cX9_place 158 = .ok (.iadd, 1) := by decide +kernel
theorem dX9_place_159 : decode cX9_place 159 = .ok (.iaload, 1) := by decide +kernel
theorem dX9_place_160 : decode cX9_place 160 = .ok (.bipush (-2), 2) := by decide +kernel
theorem dX9_place_162 : decode cX9_place 162 = .ok (.if_icmp .eq 7, 3) := by decide +kernel
theorem dX9_place_165 : decode cX9_place 165 = .ok (.iconst 1, 1) := by decide +kernel
theorem dX9_place_166 : decode cX9_place 166 = .ok (.goto 4, 3) := by decide +kernel
theorem dX9_place_169 : decode cX9_place 169 = .ok (.iconst 0, 1) := by decide +kernel
theorem dX9_place_170 : decode cX9_place 170 = .ok (.istore 7, 2) := by decide +kernel
theorem dX9_place_172 : decode cX9_place 172 = .ok (.aload_n 0, 1) := by decide +kernel
theorem dX9_place_173 : decode cX9_place 173 = .ok (.getfield 47, 3) := by decide +kernel
theorem dX9_place_176 : decode cX9_place 176 = .ok (.iload_n 1, 1) := by decide +kernel
theorem dX9_place_177 : decode cX9_place 177 = .ok (.iload 4, 2) := by decide +kernel
theorem dX9_place_179 : decode cX9_place 179 = .ok (.iadd, 1) := by decide +kernel
theorem dX9_place_180 : decode cX9_place 180 = .ok (.iaload, 1) := by decide +kernel
theorem dX9_place_181 : decode cX9_place 181 = .ok (.iload 5, 2) := by decide +kernel
theorem dX9_place_183 : decode cX9_place 183 = .ok (.iadd, 1) := by decide +kernel
theorem dX9_place_184 : decode cX9_place 184 = .ok (.istore 6, 2) := by decide +kernel
theorem dX9_place_186 : decode cX9_place 186 = .ok (.aload_n 0, 1) := by decide +kernel
theorem dX9_place_187 : decode cX9_place 187 = .ok (.getfield 47, 3) := by decide +kernel
theorem dX9_place_190 : decode cX9_place 190 = .ok (.iload_n 1, 1) := by decide +kernel
theorem dX9_place_191 : decode cX9_place 191 = .ok (.iload_n 3, 1) := by decide +kernel
theorem dX9_place_192 : decode cX9_place 192 = .ok (.iadd, 1) := by decide +kernel
theorem dX9_place_193 : decode cX9_place 193 = .ok (.iload 7, 2) := by decide +kernel
theorem dX9_place_195 : decode cX9_place 195 = .ok (.ifCond .eq 17, 3) := by decide +kernel
theorem dX9_place_198 : decode cX9_place 198 = .ok (.iload 6, 2) := by decide +kernel
theorem dX9_place_200 : decode cX9_place 200 = .ok (.i2l, 1) := by decide +kernel
theorem dX9_place_201 : decode cX9_place 201 = .ok (.invokestatic 151, 3) := by decide +kernel
theorem dX9_place_204 : decode cX9_place 204 = .ok (.ifCond .eq 8, 3) := by decide +kernel
theorem dX9_place_207 : decode cX9_place 207 = .ok (.iload 6, 2) := by decide +kernel
theorem dX9_place_209 : decode cX9_place 209 = .ok (.goto 5, 3) := by decide +kernel
theorem dX9_place_212 : decode cX9_place 212 = .ok (.bipush (-2), 2) := by decide +kernel
theorem dX9_place_214 : decode cX9_place 214 = .ok (.iastore, 1) := by decide +kernel
theorem dX9_place_215 : decode cX9_place 215 = .ok (.aload_n 0, 1) := by decide +kernel
theorem dX9_place_216 : decode cX9_place 216 = .ok (.getfield 50, 3) := by decide +kernel
theorem dX9_place_219 : decode cX9_place 219 = .ok (.iload_n 1, 1) := by decide +kernel
theorem dX9_place_220 : decode cX9_place 220 = .ok (.iload_n 3, 1) := by decide +kernel
theorem dX9_place_221 : decode cX9_place 221 = .ok (.iadd, 1) := by decide +kernel
theorem dX9_place_222 : decode cX9_place 222 = .ok (.aload_n 0, 1) := by decide +kernel
theorem dX9_place_223 : decode cX9_place 223 = .ok (.getfield 41, 3) := by decide +kernel
theorem dX9_place_226 : decode cX9_place 226 = .ok (.iload_n 3, 1) := by decide +kernel
theorem dX9_place_227 : decode cX9_place 227 = .ok (.iaload, 1) := by decide +kernel
theorem dX9_place_228 : decode cX9_place 228 = .ok (.ifCond .ne 14, 3) := by decide +kernel
theorem dX9_place_231 : decode cX9_place 231 = .ok (.aload_n 0, 1) := by decide +kernel
theorem dX9_place_232 : decode cX9_place 232 = .ok (.getfield 47, 3) := by decide +kernel
theorem dX9_place_235 : decode cX9_place 235 = .ok (.iload_n 1, 1) := by decide +kernel
theorem dX9_place_236 : decode cX9_place 236 = .ok (.iload_n 3, 1) := by decide +kernel
theorem dX9_place_237 : decode cX9_place 237 = .ok (.iadd, 1) := by decide +kernel
theorem dX9_place_238 : decode cX9_place 238 = .ok (.iaload, 1) := by decide +kernel
theorem dX9_place_239 : decode cX9_place 239 = .ok (.goto 5, 3) := by decide +kernel
theorem dX9_place_242 : decode cX9_place 242 = .ok (.bipush (-2), 2) := by decide +kernel
theorem dX9_place_244 : decode cX9_place 244 = .ok (.iastore, 1) := by decide +kernel
theorem dX9_place_245 : decode cX9_place 245 = .ok (.iinc 3 1, 3) := by decide +kernel
theorem dX9_place_248 : decode cX9_place 248 = .ok (.goto (-246), 3) := by decide +kernel
theorem dX9_place_251 : decode cX9_place 251 = .ok (.bipush 9, 2) := by decide +kernel
theorem dX9_place_253 : decode cX9_place 253 = .ok (.istore_n 3, 1) := by decide +kernel
theorem dX9_place_254 : decode cX9_place 254 = .ok (.iload_n 3, 1) := by decide +kernel
theorem dX9_place_255 : decode cX9_place 255 = .ok (.ifCond .le 104, 3) := by decide +kernel
theorem dX9_place_258 : decode cX9_place 258 = .ok (.iconst 0, 1) := by decide +kernel
theorem dX9_place_259 : decode cX9_place 259 = .ok (.istore 4, 2) := by decide +kernel
theorem dX9_place_261 : decode cX9_place 261 = .ok (.iload 4, 2) := by decide +kernel
theorem dX9_place_263 : decode cX9_place 263 = .ok (.aload_n 0, 1) := by decide +kernel
theorem dX9_place_264 : decode cX9_place 264 = .ok (.getfield 184, 3) := by decide +kernel
theorem dX9_place_267 : decode cX9_place 267 = .ok (.if_icmp .ge 86, 3) := by decide +kernel
theorem dX9_place_270 : decode cX9_place 270 = .ok (.aload_n 0, 1) := by decide +kernel
theorem dX9_place_271 : decode cX9_place 271 = .ok (.getfield 41, 3) := by decide +kernel
theorem dX9_place_274 : decode cX9_place 274 = .ok (.iload 4, 2) := by decide +kernel
theorem dX9_place_276 : decode cX9_place 276 = .ok (.iaload, 1) := by decide +kernel
theorem dX9_place_277 : decode cX9_place 277 = .ok (.iload_n 3, 1) := by decide +kernel
theorem dX9_place_278 : decode cX9_place 278 = .ok (.if_icmp .ne 69, 3) := by decide +kernel
theorem dX9_place_281 : decode cX9_place 281 = .ok (.aload_n 0, 1) := by decide +kernel
theorem dX9_place_282 : decode cX9_place 282 = .ok (.getfield 47, 3) := by decide +kernel
theorem dX9_place_285 : decode cX9_place 285 = .ok (.iload_n 1, 1) := by decide +kernel
theorem dX9_place_286 : decode cX9_place 286 = .ok (.iload 4, 2) := by decide +kernel
theorem dX9_place_288 : decode cX9_place 288 = .ok (.iadd, 1) := by decide +kernel
theorem dX9_place_289 : decode cX9_place 289 = .ok (.iaload, 1) := by decide +kernel
theorem dX9_place_290 : decode cX9_place 290 = .ok (.bipush (-2), 2) := by decide +kernel
theorem dX9_place_292 : decode cX9_place 292 = .ok (.if_icmp .eq 55, 3) := by decide +kernel
theorem dX9_place_295 : decode cX9_place 295 = .ok (.aload_n 0, 1) := by decide +kernel
theorem dX9_place_296 : decode cX9_place 296 = .ok (.getfield 47, 3) := by decide +kernel
theorem dX9_place_299 : decode cX9_place 299 = .ok (.iload_n 1, 1) := by decide +kernel
theorem dX9_place_300 : decode cX9_place 300 = .ok (.iload 4, 2) := by decide +kernel
theorem dX9_place_302 : decode cX9_place 302 = .ok (.iadd, 1) := by decide +kernel
theorem dX9_place_303 : decode cX9_place 303 = .ok (.iaload, 1) := by decide +kernel
theorem dX9_place_304 : decode cX9_place 304 = .ok (.istore 5, 2) := by decide +kernel
theorem dX9_place_306 : decode cX9_place 306 = .ok (.aload_n 0, 1) := by decide +kernel
theorem dX9_place_307 : decode cX9_place 307 = .ok (.iload_n 1, 1) := by decide +kernel
theorem dX9_place_308 : decode cX9_place 308 = .ok (.iload 5, 2) := by decide +kernel
theorem dX9_place_310 : decode cX9_place 310 = .ok (.invokevirtual 213, 3) := by decide +kernel
theorem dX9_place_313 : decode cX9_place 313 = .ok (.ifCond .eq 9, 3) := by decide +kernel
theorem dX9_place_316 : decode cX9_place 316 = .ok (.iinc 5 1, 3) := by decide +kernel
theorem dX9_place_319 : decode cX9_place 319 = .ok (.goto (-13), 3) := by decide +kernel
theorem dX9_place_322 : decode cX9_place 322 = .ok (.aload_n 0, 1) := by decide +kernel
theorem dX9_place_323 : decode cX9_place 323 = .ok (.getfield 50, 3) := by decide +kernel
theorem dX9_place_326 : decode cX9_place 326 = .ok (.iload_n 1, 1) := by decide +kernel
theorem dX9_place_327 : decode cX9_place 327 = .ok (.iload 4, 2) := by decide +kernel
theorem dX9_place_329 : decode cX9_place 329 = .ok (.iadd, 1) := by decide +kernel
theorem dX9_place_330 : decode cX9_place 330 = .ok (.iload 5, 2) := by decide +kernel
theorem dX9_place_332 : decode cX9_place 332 = .ok (.i2l, 1) := by decide +kernel
theorem dX9_place_333 : decode cX9_place 333 = .ok (.invokestatic 151, 3) := by decide +kernel
theorem dX9_place_336 : decode cX9_place 336 = .ok (.ifCond .eq 8, 3) := by decide +kernel
theorem dX9_place_339 : decode cX9_place 339 = .ok (.iload 5, 2) := by decide +kernel
theorem dX9_place_341 : decode cX9_place 341 = .ok (.goto 5, 3) := by decide +kernel
theorem dX9_place_344 : decode cX9_place 344 = .ok (.bipush (-2), 2) := by decide +kernel
theorem dX9_place_346 : decode cX9_place 346 = .ok (.iastore, 1) := by decide +kernel
theorem dX9_place_347 : decode cX9_place 347 = .ok (.iinc 4 1, 3) := by decide +kernel
theorem dX9_place_350 : decode cX9_place 350 = .ok (.goto (-89), 3) := by decide +kernel
theorem dX9_place_353 : decode cX9_place 353 = .ok (.iinc 3 (-1), 3) := by decide +kernel
theorem dX9_place_356 : decode cX9_place 356 = .ok (.goto (-102), 3) := by decide +kernel
theorem dX9_place_359 : decode cX9_place 359 = .ok (.return_, 1) := by decide +kernel
theorem dX9_isTaken_0 : decode cX9_isTaken 0 = .ok (.iconst 0, 1) := by decide +kernel
theorem dX9_isTaken_1 : decode cX9_isTaken 1 = .ok (.istore_n 3, 1) := by decide +kernel
theorem dX9_isTaken_2 : decode cX9_isTaken 2 = .ok (.iconst 0, 1) := by decide +kernel
theorem dX9_isTaken_3 : decode cX9_isTaken 3 = .ok (.istore 4, 2) := by decide +kernel
theorem dX9_isTaken_5 : decode cX9_isTaken 5 = .ok (.iload 4, 2) := by decide +kernel
theorem dX9_isTaken_7 : decode cX9_isTaken 7 = .ok (.aload_n 0, 1) := by decide +kernel
theorem dX9_isTaken_8 : decode cX9_isTaken 8 = .ok (.getfield 184, 3) := by decide +kernel
theorem dX9_isTaken_11 : decode cX9_isTaken 11 = .ok (.if_icmp .ge 42, 3) := by decide +kernel
theorem dX9_isTaken_14 : decode cX9_isTaken 14 = .ok (.iload_n 3, 1) := by decide +kernel
theorem dX9_isTaken_15 : decode cX9_isTaken 15 = .ok (.ifCond .ne 26, 3) := by decide +kernel
theorem dX9_isTaken_18 : decode cX9_isTaken 18 = .ok (.aload_n 0, 1) := by decide +kernel
theorem dX9_isTaken_19 : decode cX9_isTaken 19 = .ok (.getfield 41, 3) := by decide +kernel
theorem dX9_isTaken_22 : decode cX9_isTaken 22 = .ok (.iload 4, 2) := by decide +kernel
theorem dX9_isTaken_24 : decode cX9_isTaken 24 = .ok (.iaload, 1) := by decide +kernel
theorem dX9_isTaken_25 : decode cX9_isTaken 25 = .ok (.ifCond .le 20, 3) := by decide +kernel
theorem dX9_isTaken_28 : decode cX9_isTaken 28 = .ok (.aload_n 0, 1) := by decide +kernel
theorem dX9_isTaken_29 : decode cX9_isTaken 29 = .ok (.getfield 50, 3) := by decide +kernel
theorem dX9_isTaken_32 : decode cX9_isTaken 32 = .ok (.iload_n 1, 1) := by decide +kernel
theorem dX9_isTaken_33 : decode cX9_isTaken 33 = .ok (.iload 4, 2) := by decide +kernel
theorem dX9_isTaken_35 : decode cX9_isTaken 35 = .ok (.iadd, 1) := by decide +kernel
theorem dX9_isTaken_36 : decode cX9_isTaken 36 = .ok (.iaload, 1) := by decide +kernel
theorem dX9_isTaken_37 : decode cX9_isTaken 37 = .ok (.iload_n 2, 1) := by decide +kernel
theorem dX9_isTaken_38 : decode cX9_isTaken 38 = .ok (.if_icmp .ne 7, 3) := by decide +kernel
theorem dX9_isTaken_41 : decode cX9_isTaken 41 = .ok (.iconst 1, 1) := by decide +kernel
theorem dX9_isTaken_42 : decode cX9_isTaken 42 = .ok (.goto 4, 3) := by decide +kernel
theorem dX9_isTaken_45 : decode cX9_isTaken 45 = .ok (.iconst 0, 1) := by decide +kernel
theorem dX9_isTaken_46 : decode cX9_isTaken 46 = .ok (.istore_n 3, 1) := by decide +kernel
theorem dX9_isTaken_47 : decode cX9_isTaken 47 = .ok (.iinc 4 1, 3) := by decide +kernel
theorem dX9_isTaken_50 : decode cX9_isTaken 50 = .ok (.goto (-45), 3) := by decide +kernel
theorem dX9_isTaken_53 : decode cX9_isTaken 53 = .ok (.iload_n 3, 1) := by decide +kernel
theorem dX9_isTaken_54 : decode cX9_isTaken 54 = .ok (.ireturn, 1) := by decide +kernel
theorem dX9_feastDay_0 : decode cX9_feastDay 0 = .ok (.aload_n 0, 1) := by decide +kernel
theorem dX9_feastDay_1 : decode cX9_feastDay 1 = .ok (.iload_n 1, 1) := by decide +kernel
theorem dX9_feastDay_2 : decode cX9_feastDay 2 = .ok (.invokevirtual 187, 3) := by decide +kernel
theorem dX9_feastDay_5 : decode cX9_feastDay 5 = .ok (.ifCond .ne 5, 3) := by decide +kernel
theorem dX9_feastDay_8 : decode cX9_feastDay 8 = .ok (.iconst (-1), 1) := by decide +kernel
theorem dX9_feastDay_9 : decode cX9_feastDay 9 = .ok (.ireturn, 1) := by decide +kernel
theorem dX9_feastDay_10 : decode cX9_feastDay 10 = .ok (.aload_n 0, 1) := by decide +kernel
theorem dX9_feastDay_11 : decode cX9_feastDay 11 = .ok (.iconst 0, 1) := by decide +kernel
theorem dX9_feastDay_12 : decode cX9_feastDay 12 = .ok (.iload_n 2, 1) := by decide +kernel
theorem dX9_feastDay_13 : decode cX9_feastDay 13 = .ok (.invokevirtual 120, 3) := by decide +kernel
theorem dX9_feastDay_16 : decode cX9_feastDay 16 = .ok (.ifCond .eq 18, 3) := by decide +kernel
theorem dX9_feastDay_19 : decode cX9_feastDay 19 = .ok (.aload_n 0, 1) := by decide +kernel
theorem dX9_feastDay_20 : decode cX9_feastDay 20 = .ok (.getfield 50, 3) := by decide +kernel
theorem dX9_feastDay_23 : decode cX9_feastDay 23 = .ok (.aload_n 0, 1) := by decide +kernel
theorem dX9_feastDay_24 : decode cX9_feastDay 24 = .ok (.iload_n 2, 1) := by decide +kernel
theorem dX9_feastDay_25 : decode cX9_feastDay 25 = .ok (.invokevirtual 216, 3) := by decide +kernel
theorem dX9_feastDay_28 : decode cX9_feastDay 28 = .ok (.iload_n 1, 1) := by decide +kernel
theorem dX9_feastDay_29 : decode cX9_feastDay 29 = .ok (.iadd, 1) := by decide +kernel
theorem dX9_feastDay_30 : decode cX9_feastDay 30 = .ok (.iaload, 1) := by decide +kernel
theorem dX9_feastDay_31 : decode cX9_feastDay 31 = .ok (.goto 5, 3) := by decide +kernel
theorem dX9_feastDay_34 : decode cX9_feastDay 34 = .ok (.bipush (-2), 2) := by decide +kernel
theorem dX9_feastDay_36 : decode cX9_feastDay 36 = .ok (.ireturn, 1) := by decide +kernel
theorem dX9_moved_0 : decode cX9_moved 0 = .ok (.aload_n 0, 1) := by decide +kernel
theorem dX9_moved_1 : decode cX9_moved 1 = .ok (.iload_n 1, 1) := by decide +kernel
theorem dX9_moved_2 : decode cX9_moved 2 = .ok (.invokevirtual 187, 3) := by decide +kernel
theorem dX9_moved_5 : decode cX9_moved 5 = .ok (.ifCond .ne 5, 3) := by decide +kernel
theorem dX9_moved_8 : decode cX9_moved 8 = .ok (.iconst (-1), 1) := by decide +kernel
theorem dX9_moved_9 : decode cX9_moved 9 = .ok (.ireturn, 1) := by decide +kernel
theorem dX9_moved_10 : decode cX9_moved 10 = .ok (.aload_n 0, 1) := by decide +kernel
theorem dX9_moved_11 : decode cX9_moved 11 = .ok (.iconst 0, 1) := by decide +kernel
theorem dX9_moved_12 : decode cX9_moved 12 = .ok (.iload_n 2, 1) := by decide +kernel
theorem dX9_moved_13 : decode cX9_moved 13 = .ok (.invokevirtual 120, 3) := by decide +kernel
theorem dX9_moved_16 : decode cX9_moved 16 = .ok (.ifCond .ne 6, 3) := by decide +kernel
theorem dX9_moved_19 : decode cX9_moved 19 = .ok (.bipush (-2), 2) := by decide +kernel
theorem dX9_moved_21 : decode cX9_moved 21 = .ok (.ireturn, 1) := by decide +kernel
theorem dX9_moved_22 : decode cX9_moved 22 = .ok (.aload_n 0, 1) := by decide +kernel
theorem dX9_moved_23 : decode cX9_moved 23 = .ok (.iload_n 2, 1) := by decide +kernel
theorem dX9_moved_24 : decode cX9_moved 24 = .ok (.invokevirtual 216, 3) := by decide +kernel
theorem dX9_moved_27 : decode cX9_moved 27 = .ok (.iload_n 1, 1) := by decide +kernel
theorem dX9_moved_28 : decode cX9_moved 28 = .ok (.iadd, 1) := by decide +kernel
theorem dX9_moved_29 : decode cX9_moved 29 = .ok (.istore_n 3, 1) := by decide +kernel
theorem dX9_moved_30 : decode cX9_moved 30 = .ok (.aload_n 0, 1) := by decide +kernel
theorem dX9_moved_31 : decode cX9_moved 31 = .ok (.getfield 50, 3) := by decide +kernel
theorem dX9_moved_34 : decode cX9_moved 34 = .ok (.iload_n 3, 1) := by decide +kernel
theorem dX9_moved_35 : decode cX9_moved 35 = .ok (.iaload, 1) := by decide +kernel
theorem dX9_moved_36 : decode cX9_moved 36 = .ok (.bipush (-2), 2) := by decide +kernel
theorem dX9_moved_38 : decode cX9_moved 38 = .ok (.if_icmp .ne 8, 3) := by decide +kernel
theorem dX9_moved_41 : decode cX9_moved 41 = .ok (.bipush (-2), 2) := by decide +kernel
theorem dX9_moved_43 : decode cX9_moved 43 = .ok (.goto 16, 3) := by decide +kernel
theorem dX9_moved_46 : decode cX9_moved 46 = .ok (.aload_n 0, 1) := by decide +kernel
theorem dX9_moved_47 : decode cX9_moved 47 = .ok (.getfield 50, 3) := by decide +kernel
theorem dX9_moved_50 : decode cX9_moved 50 = .ok (.iload_n 3, 1) := by decide +kernel
theorem dX9_moved_51 : decode cX9_moved 51 = .ok (.iaload, 1) := by decide +kernel
theorem dX9_moved_52 : decode cX9_moved 52 = .ok (.aload_n 0, 1) := by decide +kernel
theorem dX9_moved_53 : decode cX9_moved 53 = .ok (.getfield 47, 3) := by decide +kernel
theorem dX9_moved_56 : decode cX9_moved 56 = .ok (.iload_n 3, 1) := by decide +kernel
theorem dX9_moved_57 : decode cX9_moved 57 = .ok (.iaload, 1) := by decide +kernel
theorem dX9_moved_58 : decode cX9_moved 58 = .ok (.isub, 1) := by decide +kernel
theorem dX9_moved_59 : decode cX9_moved 59 = .ok (.ireturn, 1) := by decide +kernel
theorem dX9_feastAt_0 : decode cX9_feastAt 0 = .ok (.aload_n 0, 1) := by decide +kernel
theorem dX9_feastAt_1 : decode cX9_feastAt 1 = .ok (.iconst 0, 1) := by decide +kernel
theorem dX9_feastAt_2 : decode cX9_feastAt 2 = .ok (.iload_n 1, 1) := by decide +kernel
theorem dX9_feastAt_3 : decode cX9_feastAt 3 = .ok (.invokestatic 135, 3) := by decide +kernel
theorem dX9_feastAt_6 : decode cX9_feastAt 6 = .ok (.invokevirtual 216, 3) := by decide +kernel
theorem dX9_feastAt_9 : decode cX9_feastAt 9 = .ok (.istore_n 3, 1) := by decide +kernel
theorem dX9_feastAt_10 : decode cX9_feastAt 10 = .ok (.iload_n 2, 1) := by decide +kernel
theorem dX9_feastAt_11 : decode cX9_feastAt 11 = .ok (.istore 4, 2) := by decide +kernel
theorem dX9_feastAt_13 : decode cX9_feastAt 13 = .ok (.bipush 9, 2) := by decide +kernel
theorem dX9_feastAt_15 : decode cX9_feastAt 15 = .ok (.istore 5, 2) := by decide +kernel
theorem dX9_feastAt_17 : decode cX9_feastAt 17 = .ok (.iload 5, 2) := by decide +kernel
theorem dX9_feastAt_19 : decode cX9_feastAt 19 = .ok (.ifCond .lt 67, 3) := by decide +kernel
theorem dX9_feastAt_22 : decode cX9_feastAt 22 = .ok (.iload_n 2, 1) := by decide +kernel
theorem dX9_feastAt_23 : decode cX9_feastAt 23 = .ok (.ifCond .lt 63, 3) := by decide +kernel
theorem dX9_feastAt_26 : decode cX9_feastAt 26 = .ok (.iconst 0, 1) := by decide +kernel
theorem dX9_feastAt_27 : decode cX9_feastAt 27 = .ok (.istore 6, 2) := by decide +kernel
theorem dX9_feastAt_29 : decode cX9_feastAt 29 = .ok (.iload 6, 2) := by decide +kernel
theorem dX9_feastAt_31 : decode cX9_feastAt 31 = .ok (.aload_n 0, 1) := by decide +kernel
theorem dX9_feastAt_32 : decode cX9_feastAt 32 = .ok (.getfield 184, 3) := by decide +kernel
theorem dX9_feastAt_35 : decode cX9_feastAt 35 = .ok (.if_icmp .ge 45, 3) := by decide +kernel
theorem dX9_feastAt_38 : decode cX9_feastAt 38 = .ok (.aload_n 0, 1) := by decide +kernel
theorem dX9_feastAt_39 : decode cX9_feastAt 39 = .ok (.getfield 41, 3) := by decide +kernel
theorem dX9_feastAt_42 : decode cX9_feastAt 42 = .ok (.iload 6, 2) := by decide +kernel
theorem dX9_feastAt_44 : decode cX9_feastAt 44 = .ok (.iaload, 1) := by decide +kernel
theorem dX9_feastAt_45 : decode cX9_feastAt 45 = .ok (.iload 5, 2) := by decide +kernel
theorem dX9_feastAt_47 : decode cX9_feastAt 47 = .ok (.if_icmp .ne 27, 3) := by decide +kernel
theorem dX9_feastAt_50 : decode cX9_feastAt 50 = .ok (.aload_n 0, 1) := by decide +kernel
theorem dX9_feastAt_51 : decode cX9_feastAt 51 = .ok (.getfield 50, 3) := by decide +kernel
theorem dX9_feastAt_54 : decode cX9_feastAt 54 = .ok (.iload_n 3, 1) := by decide +kernel
theorem dX9_feastAt_55 : decode cX9_feastAt 55 = .ok (.iload 6, 2) := by decide +kernel
theorem dX9_feastAt_57 : decode cX9_feastAt 57 = .ok (.iadd, 1) := by decide +kernel
theorem dX9_feastAt_58 : decode cX9_feastAt 58 = .ok (.iaload, 1) := by decide +kernel
theorem dX9_feastAt_59 : decode cX9_feastAt 59 = .ok (.iload_n 1, 1) := by decide +kernel
theorem dX9_feastAt_60 : decode cX9_feastAt 60 = .ok (.if_icmp .ne 14, 3) := by decide +kernel
theorem dX9_feastAt_63 : decode cX9_feastAt 63 = .ok (.iload 4, 2) := by decide +kernel
theorem dX9_feastAt_65 : decode cX9_feastAt 65 = .ok (.ifCond .ne 6, 3) := by decide +kernel
theorem dX9_feastAt_68 : decode cX9_feastAt 68 = .ok (.iload 6, 2) := by decide +kernel
theorem dX9_feastAt_70 : decode cX9_feastAt 70 = .ok (.ireturn, 1) := by decide +kernel
theorem dX9_feastAt_71 : decode cX9_feastAt 71 = .ok (.iinc 4 (-1), 3) := by decide +kernel
theorem dX9_feastAt_74 : decode cX9_feastAt 74 = .ok (.iinc 6 1, 3) := by decide +kernel
theorem dX9_feastAt_77 : decode cX9_feastAt 77 = .ok (.goto (-48), 3) := by decide +kernel
theorem dX9_feastAt_80 : decode cX9_feastAt 80 = .ok (.iinc 5 (-1), 3) := by decide +kernel
theorem dX9_feastAt_83 : decode cX9_feastAt 83 = .ok (.goto (-66), 3) := by decide +kernel
theorem dX9_feastAt_86 : decode cX9_feastAt 86 = .ok (.bipush (-2), 2) := by decide +kernel
theorem dX9_feastAt_88 : decode cX9_feastAt 88 = .ok (.ireturn, 1) := by decide +kernel
theorem dX9_feastOn_0 : decode cX9_feastOn 0 = .ok (.iload_n 1, 1) := by decide +kernel
theorem dX9_feastOn_1 : decode cX9_feastOn 1 = .ok (.i2l, 1) := by decide +kernel
theorem dX9_feastOn_2 : decode cX9_feastOn 2 = .ok (.invokestatic 151, 3) := by decide +kernel
theorem dX9_feastOn_5 : decode cX9_feastOn 5 = .ok (.ifCond .eq 12, 3) := by decide +kernel
theorem dX9_feastOn_8 : decode cX9_feastOn 8 = .ok (.aload_n 0, 1) := by decide +kernel
theorem dX9_feastOn_9 : decode cX9_feastOn 9 = .ok (.iload_n 1, 1) := by decide +kernel
theorem dX9_feastOn_10 : decode cX9_feastOn 10 = .ok (.iload_n 2, 1) := by decide +kernel
theorem dX9_feastOn_11 : decode cX9_feastOn 11 = .ok (.invokevirtual 219, 3) := by decide +kernel
theorem dX9_feastOn_14 : decode cX9_feastOn 14 = .ok (.goto 5, 3) := by decide +kernel
theorem dX9_feastOn_17 : decode cX9_feastOn 17 = .ok (.bipush (-3), 2) := by decide +kernel
theorem dX9_feastOn_19 : decode cX9_feastOn 19 = .ok (.ireturn, 1) := by decide +kernel
theorem dX9_ageOf_0 : decode cX9_ageOf 0 = .ok (.ldc2_w 222, 3) := by decide +kernel
theorem dX9_ageOf_3 : decode cX9_ageOf 3 = .ok (.iload_n 0, 1) := by decide +kernel
theorem dX9_ageOf_4 : decode cX9_ageOf 4 = .ok (.i2l, 1) := by decide +kernel
theorem dX9_ageOf_5 : decode cX9_ageOf 5 = .ok (.lmul, 1) := by decide +kernel
theorem dX9_ageOf_6 : decode cX9_ageOf 6 = .ok (.ldc2_w 224, 3) := by decide +kernel
theorem dX9_ageOf_9 : decode cX9_ageOf 9 = .ok (.lsub, 1) := by decide +kernel
theorem dX9_ageOf_10 : decode cX9_ageOf 10 = .ok (.ldc2_w 226, 3) := by decide +kernel
theorem dX9_ageOf_13 : decode cX9_ageOf 13 = .ok (.lrem, 1) := by decide +kernel
theorem dX9_ageOf_14 : decode cX9_ageOf 14 = .ok (.lstore_n 1, 1) := by decide +kernel
theorem dX9_ageOf_15 : decode cX9_ageOf 15 = .ok (.lload_n 1, 1) := by decide +kernel
theorem dX9_ageOf_16 : decode cX9_ageOf 16 = .ok (.lconst 0, 1) := by decide +kernel
theorem dX9_ageOf_17 : decode cX9_ageOf 17 = .ok (.lcmp, 1) := by decide +kernel
theorem dX9_ageOf_18 : decode cX9_ageOf 18 = .ok (.ifCond .ge 11, 3) := by decide +kernel
theorem dX9_ageOf_21 : decode cX9_ageOf 21 = .ok (.lload_n 1, 1) := by decide +kernel
theorem dX9_ageOf_22 : decode cX9_ageOf 22 = .ok (.ldc2_w 226, 3) := by decide +kernel
theorem dX9_ageOf_25 : decode cX9_ageOf 25 = .ok (.ladd, 1) := by decide +kernel
theorem dX9_ageOf_26 : decode cX9_ageOf 26 = .ok (.goto 4, 3) := by decide +kernel
theorem dX9_ageOf_29 : decode cX9_ageOf 29 = .ok (.lload_n 1, 1) := by decide +kernel
theorem dX9_ageOf_30 : decode cX9_ageOf 30 = .ok (.lreturn, 1) := by decide +kernel
theorem dX9_age_0 : decode cX9_age 0 = .ok (.iload_n 1, 1) := by decide +kernel
theorem dX9_age_1 : decode cX9_age 1 = .ok (.i2l, 1) := by decide +kernel
theorem dX9_age_2 : decode cX9_age 2 = .ok (.invokestatic 151, 3) := by decide +kernel
theorem dX9_age_5 : decode cX9_age 5 = .ok (.ifCond .eq 11, 3) := by decide +kernel
theorem dX9_age_8 : decode cX9_age 8 = .ok (.iload_n 1, 1) := by decide +kernel
theorem dX9_age_9 : decode cX9_age 9 = .ok (.invokestatic 228, 3) := by decide +kernel
theorem dX9_age_12 : decode cX9_age 12 = .ok (.l2i, 1) := by decide +kernel
theorem dX9_age_13 : decode cX9_age 13 = .ok (.goto 5, 3) := by decide +kernel
theorem dX9_age_16 : decode cX9_age 16 = .ok (.bipush (-3), 2) := by decide +kernel
theorem dX9_age_18 : decode cX9_age 18 = .ok (.ireturn, 1) := by decide +kernel
theorem dX9_newMoon_0 : decode cX9_newMoon 0 = .ok (.iload_n 1, 1) := by decide +kernel
theorem dX9_newMoon_1 : decode cX9_newMoon 1 = .ok (.ifCond .ge 5, 3) := by decide +kernel
theorem dX9_newMoon_4 : decode cX9_newMoon 4 = .ok (.iconst (-1), 1) := by decide +kernel
theorem dX9_newMoon_5 : decode cX9_newMoon 5 = .ok (.ireturn, 1) := by decide +kernel
theorem dX9_newMoon_6 : decode cX9_newMoon 6 = .ok (.ldc2_w 224, 3) := by decide +kernel
theorem dX9_newMoon_9 : decode cX9_newMoon 9 = .ok (.ldc2_w 226, 3) := by decide +kernel
theorem dX9_newMoon_12 : decode cX9_newMoon 12 = .ok (.iload_n 1, 1) := by decide +kernel
theorem dX9_newMoon_13 : decode cX9_newMoon 13 = .ok (.i2l, 1) := by decide +kernel
theorem dX9_newMoon_14 : decode cX9_newMoon 14 = .ok (.lmul, 1) := by decide +kernel
theorem dX9_newMoon_15 : decode cX9_newMoon 15 = .ok (.ladd, 1) := by decide +kernel
theorem dX9_newMoon_16 : decode cX9_newMoon 16 = .ok (.ldc2_w 222, 3) := by decide +kernel
theorem dX9_newMoon_19 : decode cX9_newMoon 19 = .ok (.ldiv, 1) := by decide +kernel
theorem dX9_newMoon_20 : decode cX9_newMoon 20 = .ok (.lstore_n 2, 1) := by decide +kernel
theorem dX9_newMoon_21 : decode cX9_newMoon 21 = .ok (.lload_n 2, 1) := by decide +kernel
theorem dX9_newMoon_22 : decode cX9_newMoon 22 = .ok (.invokestatic 151, 3) := by decide +kernel
theorem dX9_newMoon_25 : decode cX9_newMoon 25 = .ok (.ifCond .eq 8, 3) := by decide +kernel
theorem dX9_newMoon_28 : decode cX9_newMoon 28 = .ok (.lload_n 2, 1) := by decide +kernel
theorem dX9_newMoon_29 : decode cX9_newMoon 29 = .ok (.l2i, 1) := by decide +kernel
theorem dX9_newMoon_30 : decode cX9_newMoon 30 = .ok (.goto 5, 3) := by decide +kernel
theorem dX9_newMoon_33 : decode cX9_newMoon 33 = .ok (.bipush (-3), 2) := by decide +kernel
theorem dX9_newMoon_35 : decode cX9_newMoon 35 = .ok (.ireturn, 1) := by decide +kernel
theorem dX9_floor_0 : decode cX9_floor 0 = .ok (.dload_n 0, 1) := by decide +kernel
theorem dX9_floor_1 : decode cX9_floor 1 = .ok (.d2l, 1) := by decide +kernel
theorem dX9_floor_2 : decode cX9_floor 2 = .ok (.l2d, 1) := by decide +kernel
theorem dX9_floor_3 : decode cX9_floor 3 = .ok (.dstore_n 2, 1) := by decide +kernel
theorem dX9_floor_4 : decode cX9_floor 4 = .ok (.dload_n 2, 1) := by decide +kernel
theorem dX9_floor_5 : decode cX9_floor 5 = .ok (.dload_n 0, 1) := by decide +kernel
theorem dX9_floor_6 : decode cX9_floor 6 = .ok (.dcmp .l, 1) := by decide +kernel
theorem dX9_floor_7 : decode cX9_floor 7 = .ok (.ifCond .le 9, 3) := by decide +kernel
theorem dX9_floor_10 : decode cX9_floor 10 = .ok (.dload_n 2, 1) := by decide +kernel
theorem dX9_floor_11 : decode cX9_floor 11 = .ok (.dconst 1, 1) := by decide +kernel
theorem dX9_floor_12 : decode cX9_floor 12 = .ok (.dsub, 1) := by decide +kernel
theorem dX9_floor_13 : decode cX9_floor 13 = .ok (.goto 4, 3) := by decide +kernel
theorem dX9_floor_16 : decode cX9_floor 16 = .ok (.dload_n 2, 1) := by decide +kernel
theorem dX9_floor_17 : decode cX9_floor 17 = .ok (.dreturn, 1) := by decide +kernel
theorem dX9_wave_0 : decode cX9_wave 0 = .ok (.dload_n 0, 1) := by decide +kernel
theorem dX9_wave_1 : decode cX9_wave 1 = .ok (.dload_n 0, 1) := by decide +kernel
theorem dX9_wave_2 : decode cX9_wave 2 = .ok (.invokestatic 232, 3) := by decide +kernel
theorem dX9_wave_5 : decode cX9_wave 5 = .ok (.dsub, 1) := by decide +kernel
theorem dX9_wave_6 : decode cX9_wave 6 = .ok (.dstore_n 2, 1) := by decide +kernel
theorem dX9_wave_7 : decode cX9_wave 7 = .ok (.ldc2_w 236, 3) := by decide +kernel
theorem dX9_wave_10 : decode cX9_wave 10 = .ok (.dload_n 2, 1) := by decide +kernel
theorem dX9_wave_11 : decode cX9_wave 11 = .ok (.dmul, 1) := by decide +kernel
theorem dX9_wave_12 : decode cX9_wave 12 = .ok (.dconst 1, 1) := by decide +kernel
theorem dX9_wave_13 : decode cX9_wave 13 = .ok (.dsub, 1) := by decide +kernel
theorem dX9_wave_14 : decode cX9_wave 14 = .ok (.dstore 4, 2) := by decide +kernel
theorem dX9_wave_16 : decode cX9_wave 16 = .ok (.dload 4, 2) := by decide +kernel
theorem dX9_wave_18 : decode cX9_wave 18 = .ok (.dload 4, 2) := by decide +kernel
theorem dX9_wave_20 : decode cX9_wave 20 = .ok (.dmul, 1) := by decide +kernel
theorem dX9_wave_21 : decode cX9_wave 21 = .ok (.dstore 6, 2) := by decide +kernel
theorem dX9_wave_23 : decode cX9_wave 23 = .ok (.dload 4, 2) := by decide +kernel
theorem dX9_wave_25 : decode cX9_wave 25 = .ok (.dload 6, 2) := by decide +kernel
theorem dX9_wave_27 : decode cX9_wave 27 = .ok (.dconst 1, 1) := by decide +kernel
theorem dX9_wave_28 : decode cX9_wave 28 = .ok (.dsub, 1) := by decide +kernel
theorem dX9_wave_29 : decode cX9_wave 29 = .ok (.dmul, 1) := by decide +kernel
theorem dX9_wave_30 : decode cX9_wave 30 = .ok (.ldc2_w 238, 3) := by decide +kernel
theorem dX9_wave_33 : decode cX9_wave 33 = .ok (.dload 6, 2) := by decide +kernel
theorem dX9_wave_35 : decode cX9_wave 35 = .ok (.ldc2_w 240, 3) := by decide +kernel
theorem dX9_wave_38 : decode cX9_wave 38 = .ok (.dload 6, 2) := by decide +kernel
theorem dX9_wave_40 : decode cX9_wave 40 = .ok (.ldc2_w 242, 3) := by decide +kernel
theorem dX9_wave_43 : decode cX9_wave 43 = .ok (.dmul, 1) := by decide +kernel
theorem dX9_wave_44 : decode cX9_wave 44 = .ok (.dsub, 1) := by decide +kernel
theorem dX9_wave_45 : decode cX9_wave 45 = .ok (.dmul, 1) := by decide +kernel
theorem dX9_wave_46 : decode cX9_wave 46 = .ok (.dsub, 1) := by decide +kernel
theorem dX9_wave_47 : decode cX9_wave 47 = .ok (.dmul, 1) := by decide +kernel
theorem dX9_wave_48 : decode cX9_wave 48 = .ok (.dreturn, 1) := by decide +kernel
theorem dX9_estimated_0 : decode cX9_estimated 0 = .ok (.iload_n 0, 1) := by decide +kernel
theorem dX9_estimated_1 : decode cX9_estimated 1 = .ok (.invokestatic 228, 3) := by decide +kernel
theorem dX9_estimated_4 : decode cX9_estimated 4 = .ok (.l2d, 1) := by decide +kernel
theorem dX9_estimated_5 : decode cX9_estimated 5 = .ok (.ldc2_w 244, 3) := by decide +kernel
theorem dX9_estimated_8 : decode cX9_estimated 8 = .ok (.ddiv, 1) := by decide +kernel
theorem dX9_estimated_9 : decode cX9_estimated 9 = .ok (.dstore_n 1, 1) := by decide +kernel
theorem dX9_estimated_10 : decode cX9_estimated 10 = .ok (.dload_n 1, 1) := by decide +kernel
theorem dX9_estimated_11 : decode cX9_estimated 11 = .ok (.ldc2_w 246, 3) := by decide +kernel
theorem dX9_estimated_14 : decode cX9_estimated 14 = .ok (.iload_n 0, 1) := by decide +kernel
theorem dX9_estimated_15 : decode cX9_estimated 15 = .ok (.i2d, 1) := by decide +kernel
theorem dX9_estimated_16 : decode cX9_estimated 16 = .ok (.ldc2_w 248, 3) := by decide +kernel
theorem dX9_estimated_19 : decode cX9_estimated 19 = .ok (.dmul, 1) := by decide +kernel
theorem dX9_estimated_20 : decode cX9_estimated 20 = .ok (.ldc2_w 250, 3) := by decide +kernel
theorem dX9_estimated_23 : decode cX9_estimated 23 = .ok (.dadd, 1) := by decide +kernel
theorem dX9_estimated_24 : decode cX9_estimated 24 = .ok (.invokestatic 252, 3) := by decide +kernel
theorem dX9_estimated_27 : decode cX9_estimated 27 = .ok (.dmul, 1) := by decide +kernel
theorem dX9_estimated_28 : decode cX9_estimated 28 = .ok (.dadd, 1) := by decide +kernel
theorem dX9_estimated_29 : decode cX9_estimated 29 = .ok (.dstore_n 1, 1) := by decide +kernel
theorem dX9_estimated_30 : decode cX9_estimated 30 = .ok (.dload_n 1, 1) := by decide +kernel
theorem dX9_estimated_31 : decode cX9_estimated 31 = .ok (.ldc2_w 255, 3) := by decide +kernel
theorem dX9_estimated_34 : decode cX9_estimated 34 = .ok (.iload_n 0, 1) := by decide +kernel
theorem dX9_estimated_35 : decode cX9_estimated 35 = .ok (.i2d, 1) := by decide +kernel
theorem dX9_estimated_36 : decode cX9_estimated 36 = .ok (.ldc2_w 257, 3) := by decide +kernel
theorem dX9_estimated_39 : decode cX9_estimated 39 = .ok (.dmul, 1) := by decide +kernel
theorem dX9_estimated_40 : decode cX9_estimated 40 = .ok (.ldc2_w 259, 3) := by decide +kernel
theorem dX9_estimated_43 : decode cX9_estimated 43 = .ok (.dadd, 1) := by decide +kernel
theorem dX9_estimated_44 : decode cX9_estimated 44 = .ok (.invokestatic 252, 3) := by decide +kernel
theorem dX9_estimated_47 : decode cX9_estimated 47 = .ok (.dmul, 1) := by decide +kernel
theorem dX9_estimated_48 : decode cX9_estimated 48 = .ok (.dadd, 1) := by decide +kernel
theorem dX9_estimated_49 : decode cX9_estimated 49 = .ok (.dstore_n 1, 1) := by decide +kernel
theorem dX9_estimated_50 : decode cX9_estimated 50 = .ok (.dload_n 1, 1) := by decide +kernel
theorem dX9_estimated_51 : decode cX9_estimated 51 = .ok (.ldc2_w 261, 3) := by decide +kernel
theorem dX9_estimated_54 : decode cX9_estimated 54 = .ok (.iload_n 0, 1) := by decide +kernel
theorem dX9_estimated_55 : decode cX9_estimated 55 = .ok (.i2d, 1) := by decide +kernel
theorem dX9_estimated_56 : decode cX9_estimated 56 = .ok (.ldc2_w 263, 3) := by decide +kernel
theorem dX9_estimated_59 : decode cX9_estimated 59 = .ok (.dmul, 1) := by decide +kernel
theorem dX9_estimated_60 : decode cX9_estimated 60 = .ok (.ldc2_w 265, 3) := by decide +kernel
theorem dX9_estimated_63 : decode cX9_estimated 63 = .ok (.dadd, 1) := by decide +kernel
theorem dX9_estimated_64 : decode cX9_estimated 64 = .ok (.invokestatic 252, 3) := by decide +kernel
theorem dX9_estimated_67 : decode cX9_estimated 67 = .ok (.dmul, 1) := by decide +kernel
theorem dX9_estimated_68 : decode cX9_estimated 68 = .ok (.dadd, 1) := by decide +kernel
theorem dX9_estimated_69 : decode cX9_estimated 69 = .ok (.dstore_n 1, 1) := by decide +kernel
theorem dX9_estimated_70 : decode cX9_estimated 70 = .ok (.dload_n 1, 1) := by decide +kernel
theorem dX9_estimated_71 : decode cX9_estimated 71 = .ok (.ldc2_w 267, 3) := by decide +kernel
theorem dX9_estimated_74 : decode cX9_estimated 74 = .ok (.iload_n 0, 1) := by decide +kernel
theorem dX9_estimated_75 : decode cX9_estimated 75 = .ok (.i2d, 1) := by decide +kernel
theorem dX9_estimated_76 : decode cX9_estimated 76 = .ok (.ldc2_w 269, 3) := by decide +kernel
theorem dX9_estimated_79 : decode cX9_estimated 79 = .ok (.dmul, 1) := by decide +kernel
theorem dX9_estimated_80 : decode cX9_estimated 80 = .ok (.ldc2_w 271, 3) := by decide +kernel
theorem dX9_estimated_83 : decode cX9_estimated 83 = .ok (.dadd, 1) := by decide +kernel
theorem dX9_estimated_84 : decode cX9_estimated 84 = .ok (.invokestatic 252, 3) := by decide +kernel
theorem dX9_estimated_87 : decode cX9_estimated 87 = .ok (.dmul, 1) := by decide +kernel
theorem dX9_estimated_88 : decode cX9_estimated 88 = .ok (.dadd, 1) := by decide +kernel
theorem dX9_estimated_89 : decode cX9_estimated 89 = .ok (.dstore_n 1, 1) := by decide +kernel
theorem dX9_estimated_90 : decode cX9_estimated 90 = .ok (.dload_n 1, 1) := by decide +kernel
theorem dX9_estimated_91 : decode cX9_estimated 91 = .ok (.ldc2_w 273, 3) := by decide +kernel
theorem dX9_estimated_94 : decode cX9_estimated 94 = .ok (.iload_n 0, 1) := by decide +kernel
theorem dX9_estimated_95 : decode cX9_estimated 95 = .ok (.i2d, 1) := by decide +kernel
theorem dX9_estimated_96 : decode cX9_estimated 96 = .ok (.ldc2_w 275, 3) := by decide +kernel
theorem dX9_estimated_99 : decode cX9_estimated 99 = .ok (.dmul, 1) := by decide +kernel
theorem dX9_estimated_100 : decode cX9_estimated 100 = .ok (.ldc2_w 277, 3) := by decide +kernel
theorem dX9_estimated_103 : decode cX9_estimated 103 = .ok (.dadd, 1) := by decide +kernel
theorem dX9_estimated_104 : decode cX9_estimated 104 = .ok (.invokestatic 252, 3) := by decide +kernel
theorem dX9_estimated_107 : decode cX9_estimated 107 = .ok (.dmul, 1) := by decide +kernel
theorem dX9_estimated_108 : decode cX9_estimated 108 = .ok (.dadd, 1) := by decide +kernel
theorem dX9_estimated_109 : decode cX9_estimated 109 = .ok (.dreturn, 1) := by decide +kernel
theorem dX9_estimate_0 : decode cX9_estimate 0 = .ok (.iload_n 1, 1) := by decide +kernel
theorem dX9_estimate_1 : decode cX9_estimate 1 = .ok (.i2l, 1) := by decide +kernel
theorem dX9_estimate_2 : decode cX9_estimate 2 = .ok (.invokestatic 151, 3) := by decide +kernel
theorem dX9_estimate_5 : decode cX9_estimate 5 = .ok (.ifCond .eq 10, 3) := by decide +kernel
theorem dX9_estimate_8 : decode cX9_estimate 8 = .ok (.iload_n 1, 1) := by decide +kernel
theorem dX9_estimate_9 : decode cX9_estimate 9 = .ok (.invokestatic 279, 3) := by decide +kernel
theorem dX9_estimate_12 : decode cX9_estimate 12 = .ok (.goto 6, 3) := by decide +kernel
theorem dX9_estimate_15 : decode cX9_estimate 15 = .ok (.ldc2_w 283, 3) := by decide +kernel
theorem dX9_estimate_18 : decode cX9_estimate 18 = .ok (.dreturn, 1) := by decide +kernel
theorem dX9_light_0 : decode cX9_light 0 = .ok (.iload_n 1, 1) := by decide +kernel
theorem dX9_light_1 : decode cX9_light 1 = .ok (.i2l, 1) := by decide +kernel
theorem dX9_light_2 : decode cX9_light 2 = .ok (.invokestatic 151, 3) := by decide +kernel
theorem dX9_light_5 : decode cX9_light 5 = .ok (.ifCond .ne 6, 3) := by decide +kernel
theorem dX9_light_8 : decode cX9_light 8 = .ok (.bipush (-3), 2) := by decide +kernel
theorem dX9_light_10 : decode cX9_light 10 = .ok (.ireturn, 1) := by decide +kernel
theorem dX9_light_11 : decode cX9_light 11 = .ok (.ldc2_w 285, 3) := by decide +kernel
theorem dX9_light_14 : decode cX9_light 14 = .ok (.ldc2_w 285, 3) := by decide +kernel
theorem dX9_light_17 : decode cX9_light 17 = .ok (.iload_n 1, 1) := by decide +kernel
theorem dX9_light_18 : decode cX9_light 18 = .ok (.invokestatic 279, 3) := by decide +kernel
theorem dX9_light_21 : decode cX9_light 21 = .ok (.ldc2_w 287, 3) := by decide +kernel
theorem dX9_light_24 : decode cX9_light 24 = .ok (.ddiv, 1) := by decide +kernel
theorem dX9_light_25 : decode cX9_light 25 = .ok (.ldc2_w 289, 3) := by decide +kernel
theorem dX9_light_28 : decode cX9_light 28 = .ok (.dadd, 1) := by decide +kernel
theorem dX9_light_29 : decode cX9_light 29 = .ok (.invokestatic 252, 3) := by decide +kernel
theorem dX9_light_32 : decode cX9_light 32 = .ok (.dmul, 1) := by decide +kernel
theorem dX9_light_33 : decode cX9_light 33 = .ok (.dsub, 1) := by decide +kernel
theorem dX9_light_34 : decode cX9_light 34 = .ok (.dstore_n 2, 1) := by decide +kernel
theorem dX9_light_35 : decode cX9_light 35 = .ok (.dload_n 2, 1) := by decide +kernel
theorem dX9_light_36 : decode cX9_light 36 = .ok (.invokestatic 232, 3) := by decide +kernel
theorem dX9_light_39 : decode cX9_light 39 = .ok (.d2i, 1) := by decide +kernel
theorem dX9_light_40 : decode cX9_light 40 = .ok (.istore 4, 2) := by decide +kernel
theorem dX9_light_42 : decode cX9_light 42 = .ok (.dload_n 2, 1) := by decide +kernel
theorem dX9_light_43 : decode cX9_light 43 = .ok (.iload 4, 2) := by decide +kernel
theorem dX9_light_45 : decode cX9_light 45 = .ok (.i2d, 1) := by decide +kernel
theorem dX9_light_46 : decode cX9_light 46 = .ok (.dsub, 1) := by decide +kernel
theorem dX9_light_47 : decode cX9_light 47 = .ok (.dstore 5, 2) := by decide +kernel
theorem dX9_light_49 : decode cX9_light 49 = .ok (.dload 5, 2) := by decide +kernel
theorem dX9_light_51 : decode cX9_light 51 = .ok (.ldc2_w 277, 3) := by decide +kernel
theorem dX9_light_54 : decode cX9_light 54 = .ok (.dcmp .l, 1) := by decide +kernel
theorem dX9_light_55 : decode cX9_light 55 = .ok (.ifCond .gt 19, 3) := by decide +kernel
theorem dX9_light_58 : decode cX9_light 58 = .ok (.dload 5, 2) := by decide +kernel
theorem dX9_light_60 : decode cX9_light 60 = .ok (.ldc2_w 277, 3) := by decide +kernel
theorem dX9_light_63 : decode cX9_light 63 = .ok (.dcmp .l, 1) := by decide +kernel
theorem dX9_light_64 : decode cX9_light 64 = .ok (.ifCond .ne 17, 3) := by decide +kernel
theorem dX9_light_67 : decode cX9_light 67 = .ok (.iload 4, 2) := by decide +kernel
theorem dX9_light_69 : decode cX9_light 69 = .ok (.iconst 2, 1) := by decide +kernel
theorem dX9_light_70 : decode cX9_light 70 = .ok (.irem, 1) := by decide +kernel
theorem dX9_light_71 : decode cX9_light 71 = .ok (.ifCond .eq 10, 3) := by decide +kernel
theorem dX9_light_74 : decode cX9_light 74 = .ok (.iload 4, 2) := by decide +kernel
theorem dX9_light_76 : decode cX9_light 76 = .ok (.iconst 1, 1) := by decide +kernel
theorem dX9_light_77 : decode cX9_light 77 = .ok (.iadd, 1) := by decide +kernel
theorem dX9_light_78 : decode cX9_light 78 = .ok (.goto 5, 3) := by decide +kernel
theorem dX9_light_81 : decode cX9_light 81 = .ok (.iload 4, 2) := by decide +kernel
theorem dX9_light_83 : decode cX9_light 83 = .ok (.istore 7, 2) := by decide +kernel
theorem dX9_light_85 : decode cX9_light 85 = .ok (.iload 7, 2) := by decide +kernel
theorem dX9_light_87 : decode cX9_light 87 = .ok (.ifCond .ge 7, 3) := by decide +kernel
theorem dX9_light_90 : decode cX9_light 90 = .ok (.iconst 0, 1) := by decide +kernel
theorem dX9_light_91 : decode cX9_light 91 = .ok (.goto 19, 3) := by decide +kernel
theorem dX9_light_94 : decode cX9_light 94 = .ok (.iload 7, 2) := by decide +kernel
theorem dX9_light_96 : decode cX9_light 96 = .ok (.sipush 1000, 3) := by decide +kernel
theorem dX9_light_99 : decode cX9_light 99 = .ok (.if_icmp .le 9, 3) := by decide +kernel
theorem dX9_light_102 : decode cX9_light 102 = .ok (.sipush 1000, 3) := by decide +kernel
theorem dX9_light_105 : decode cX9_light 105 = .ok (.goto 5, 3) := by decide +kernel
theorem dX9_light_108 : decode cX9_light 108 = .ok (.iload 7, 2) := by decide +kernel
theorem dX9_light_110 : decode cX9_light 110 = .ok (.ireturn, 1) := by decide +kernel
theorem dX9_isNew_0 : decode cX9_isNew 0 = .ok (.ldc2_w 222, 3) := by decide +kernel
theorem dX9_isNew_3 : decode cX9_isNew 3 = .ok (.iload_n 0, 1) := by decide +kernel
theorem dX9_isNew_4 : decode cX9_isNew 4 = .ok (.i2l, 1) := by decide +kernel
theorem dX9_isNew_5 : decode cX9_isNew 5 = .ok (.lmul, 1) := by decide +kernel
theorem dX9_isNew_6 : decode cX9_isNew 6 = .ok (.ldc2_w 224, 3) := by decide +kernel
theorem dX9_isNew_9 : decode cX9_isNew 9 = .ok (.lsub, 1) := by decide +kernel
theorem dX9_isNew_10 : decode cX9_isNew 10 = .ok (.ldc2_w 291, 3) := by decide +kernel
theorem dX9_isNew_13 : decode cX9_isNew 13 = .ok (.ladd, 1) := by decide +kernel
theorem dX9_isNew_14 : decode cX9_isNew 14 = .ok (.ldc2_w 226, 3) := by decide +kernel
theorem dX9_isNew_17 : decode cX9_isNew 17 = .ok (.ldiv, 1) := by decide +kernel
theorem dX9_isNew_18 : decode cX9_isNew 18 = .ok (.lstore_n 1, 1) := by decide +kernel
theorem dX9_isNew_19 : decode cX9_isNew 19 = .ok (.lload_n 1, 1) := by decide +kernel
theorem dX9_isNew_20 : decode cX9_isNew 20 = .ok (.lconst 0, 1) := by decide +kernel
theorem dX9_isNew_21 : decode cX9_isNew 21 = .ok (.lcmp, 1) := by decide +kernel
theorem dX9_isNew_22 : decode cX9_isNew 22 = .ok (.ifCond .ge 7, 3) := by decide +kernel
theorem dX9_isNew_25 : decode cX9_isNew 25 = .ok (.lconst 0, 1) := by decide +kernel
theorem dX9_isNew_26 : decode cX9_isNew 26 = .ok (.goto 4, 3) := by decide +kernel
theorem dX9_isNew_29 : decode cX9_isNew 29 = .ok (.lload_n 1, 1) := by decide +kernel
theorem dX9_isNew_30 : decode cX9_isNew 30 = .ok (.lstore_n 3, 1) := by decide +kernel
theorem dX9_isNew_31 : decode cX9_isNew 31 = .ok (.ldc2_w 224, 3) := by decide +kernel
theorem dX9_isNew_34 : decode cX9_isNew 34 = .ok (.ldc2_w 226, 3) := by decide +kernel
theorem dX9_isNew_37 : decode cX9_isNew 37 = .ok (.lload_n 3, 1) := by decide +kernel
theorem dX9_isNew_38 : decode cX9_isNew 38 = .ok (.lmul, 1) := by decide +kernel
theorem dX9_isNew_39 : decode cX9_isNew 39 = .ok (.ladd, 1) := by decide +kernel
theorem dX9_isNew_40 : decode cX9_isNew 40 = .ok (.lstore 5, 2) := by decide +kernel
theorem dX9_isNew_42 : decode cX9_isNew 42 = .ok (.lload 5, 2) := by decide +kernel
theorem dX9_isNew_44 : decode cX9_isNew 44 = .ok (.ldc2_w 222, 3) := by decide +kernel
theorem dX9_isNew_47 : decode cX9_isNew 47 = .ok (.iload_n 0, 1) := by decide +kernel
theorem dX9_isNew_48 : decode cX9_isNew 48 = .ok (.i2l, 1) := by decide +kernel
theorem dX9_isNew_49 : decode cX9_isNew 49 = .ok (.lmul, 1) := by decide +kernel
theorem dX9_isNew_50 : decode cX9_isNew 50 = .ok (.lcmp, 1) := by decide +kernel
theorem dX9_isNew_51 : decode cX9_isNew 51 = .ok (.ifCond .lt 23, 3) := by decide +kernel
theorem dX9_isNew_54 : decode cX9_isNew 54 = .ok (.lload 5, 2) := by decide +kernel
theorem dX9_isNew_56 : decode cX9_isNew 56 = .ok (.ldc2_w 222, 3) := by decide +kernel
theorem dX9_isNew_59 : decode cX9_isNew 59 = .ok (.iload_n 0, 1) := by decide +kernel
theorem dX9_isNew_60 : decode cX9_isNew 60 = .ok (.i2l, 1) := by decide +kernel
theorem dX9_isNew_61 : decode cX9_isNew 61 = .ok (.lmul, 1) := by decide +kernel
theorem dX9_isNew_62 : decode cX9_isNew 62 = .ok (.ldc2_w 222, 3) := by decide +kernel
theorem dX9_isNew_65 : decode cX9_isNew 65 = .ok (.ladd, 1) := by decide +kernel
theorem dX9_isNew_66 : decode cX9_isNew 66 = .ok (.lcmp, 1) := by decide +kernel
theorem dX9_isNew_67 : decode cX9_isNew 67 = .ok (.ifCond .ge 7, 3) := by decide +kernel
theorem dX9_isNew_70 : decode cX9_isNew 70 = .ok (.iconst 1, 1) := by decide +kernel
theorem dX9_isNew_71 : decode cX9_isNew 71 = .ok (.goto 4, 3) := by decide +kernel
theorem dX9_isNew_74 : decode cX9_isNew 74 = .ok (.iconst 0, 1) := by decide +kernel
theorem dX9_isNew_75 : decode cX9_isNew 75 = .ok (.ireturn, 1) := by decide +kernel
theorem dX9_isParish_0 : decode cX9_isParish 0 = .ok (.iload_n 1, 1) := by decide +kernel
theorem dX9_isParish_1 : decode cX9_isParish 1 = .ok (.iconst 0, 1) := by decide +kernel
theorem dX9_isParish_2 : decode cX9_isParish 2 = .ok (.aload_n 0, 1) := by decide +kernel
theorem dX9_isParish_3 : decode cX9_isParish 3 = .ok (.getfield 293, 3) := by decide +kernel
theorem dX9_isParish_6 : decode cX9_isParish 6 = .ok (.iconst 1, 1) := by decide +kernel
theorem dX9_isParish_7 : decode cX9_isParish 7 = .ok (.isub, 1) := by decide +kernel
theorem dX9_isParish_8 : decode cX9_isParish 8 = .ok (.invokestatic 138, 3) := by decide +kernel
theorem dX9_isParish_11 : decode cX9_isParish 11 = .ok (.ireturn, 1) := by decide +kernel
theorem dX9_parish_0 : decode cX9_parish 0 = .ok (.iload_n 1, 1) := by decide +kernel
theorem dX9_parish_1 : decode cX9_parish 1 = .ok (.iconst 0, 1) := by decide +kernel
theorem dX9_parish_2 : decode cX9_parish 2 = .ok (.bipush 127, 2) := by decide +kernel
theorem dX9_parish_4 : decode cX9_parish 4 = .ok (.invokestatic 138, 3) := by decide +kernel
theorem dX9_parish_7 : decode cX9_parish 7 = .ok (.ifCond .ne 5, 3) := by decide +kernel
theorem dX9_parish_10 : decode cX9_parish 10 = .ok (.iconst (-1), 1) := by decide +kernel
theorem dX9_parish_11 : decode cX9_parish 11 = .ok (.ireturn, 1) := by decide +kernel
theorem dX9_parish_12 : decode cX9_parish 12 = .ok (.aload_n 0, 1) := by decide +kernel
theorem dX9_parish_13 : decode cX9_parish 13 = .ok (.getfield 293, 3) := by decide +kernel
theorem dX9_parish_16 : decode cX9_parish 16 = .ok (.bipush 8, 2) := by decide +kernel
theorem dX9_parish_18 : decode cX9_parish 18 = .ok (.if_icmp .ne 6, 3) := by decide +kernel
theorem dX9_parish_21 : decode cX9_parish 21 = .ok (.bipush (-4), 2) := by decide +kernel
theorem dX9_parish_23 : decode cX9_parish 23 = .ok (.ireturn, 1) := by decide +kernel
theorem dX9_parish_24 : decode cX9_parish 24 = .ok (.aload_n 0, 1) := by decide +kernel
theorem dX9_parish_25 : decode cX9_parish 25 = .ok (.getfield 53, 3) := by decide +kernel
theorem dX9_parish_28 : decode cX9_parish 28 = .ok (.aload_n 0, 1) := by decide +kernel
theorem dX9_parish_29 : decode cX9_parish 29 = .ok (.getfield 293, 3) := by decide +kernel
theorem dX9_parish_32 : decode cX9_parish 32 = .ok (.iload_n 1, 1) := by decide +kernel
theorem dX9_parish_33 : decode cX9_parish 33 = .ok (.iastore, 1) := by decide +kernel
theorem dX9_parish_34 : decode cX9_parish 34 = .ok (.aload_n 0, 1) := by decide +kernel
theorem dX9_parish_35 : decode cX9_parish 35 = .ok (.getfield 56, 3) := by decide +kernel
theorem dX9_parish_38 : decode cX9_parish 38 = .ok (.aload_n 0, 1) := by decide +kernel
theorem dX9_parish_39 : decode cX9_parish 39 = .ok (.getfield 293, 3) := by decide +kernel
theorem dX9_parish_42 : decode cX9_parish 42 = .ok (.iload_n 2, 1) := by decide +kernel
theorem dX9_parish_43 : decode cX9_parish 43 = .ok (.bastore, 1) := by decide +kernel
theorem dX9_parish_44 : decode cX9_parish 44 = .ok (.aload_n 0, 1) := by decide +kernel
theorem dX9_parish_45 : decode cX9_parish 45 = .ok (.dup, 1) := by decide +kernel
theorem dX9_parish_46 : decode cX9_parish 46 = .ok (.getfield 293, 3) := by decide +kernel
theorem dX9_parish_49 : decode cX9_parish 49 = .ok (.iconst 1, 1) := by decide +kernel
theorem dX9_parish_50 : decode cX9_parish 50 = .ok (.iadd, 1) := by decide +kernel
theorem dX9_parish_51 : decode cX9_parish 51 = .ok (.putfield 293, 3) := by decide +kernel
theorem dX9_parish_54 : decode cX9_parish 54 = .ok (.aload_n 0, 1) := by decide +kernel
theorem dX9_parish_55 : decode cX9_parish 55 = .ok (.iconst 3, 1) := by decide +kernel
theorem dX9_parish_56 : decode cX9_parish 56 = .ok (.invokevirtual 173, 3) := by decide +kernel
theorem dX9_parish_59 : decode cX9_parish 59 = .ok (.aload_n 0, 1) := by decide +kernel
theorem dX9_parish_60 : decode cX9_parish 60 = .ok (.getfield 293, 3) := by decide +kernel
theorem dX9_parish_63 : decode cX9_parish 63 = .ok (.iconst 1, 1) := by decide +kernel
theorem dX9_parish_64 : decode cX9_parish 64 = .ok (.isub, 1) := by decide +kernel
theorem dX9_parish_65 : decode cX9_parish 65 = .ok (.ireturn, 1) := by decide +kernel
theorem dX9_rule_0 : decode cX9_rule 0 = .ok (.aload_n 0, 1) := by decide +kernel
theorem dX9_rule_1 : decode cX9_rule 1 = .ok (.iload_n 1, 1) := by decide +kernel
theorem dX9_rule_2 : decode cX9_rule 2 = .ok (.invokevirtual 296, 3) := by decide +kernel
theorem dX9_rule_5 : decode cX9_rule 5 = .ok (.ifCond .eq 32, 3) := by decide +kernel
theorem dX9_rule_8 : decode cX9_rule 8 = .ok (.aload_n 0, 1) := by decide +kernel
theorem dX9_rule_9 : decode cX9_rule 9 = .ok (.iload_n 2, 1) := by decide +kernel
theorem dX9_rule_10 : decode cX9_rule 10 = .ok (.invokevirtual 187, 3) := by decide +kernel
theorem dX9_rule_13 : decode cX9_rule 13 = .ok (.ifCond .eq 24, 3) := by decide +kernel
theorem dX9_rule_16 : decode cX9_rule 16 = .ok (.iload_n 3, 1) := by decide +kernel
theorem dX9_rule_17 : decode cX9_rule 17 = .ok (.iconst 0, 1) := by decide +kernel
theorem dX9_rule_18 : decode cX9_rule 18 = .ok (.bipush 10, 2) := by decide +kernel
theorem dX9_rule_20 : decode cX9_rule 20 = .ok (.invokestatic 138, 3) := by decide +kernel
theorem dX9_rule_23 : decode cX9_rule 23 = .ok (.ifCond .eq 14, 3) := by decide +kernel
theorem dX9_rule_26 : decode cX9_rule 26 = .ok (.iload 4, 2) := by decide +kernel
theorem dX9_rule_28 : decode cX9_rule 28 = .ok (.iconst 0, 1) := by decide +kernel
theorem dX9_rule_29 : decode cX9_rule 29 = .ok (.bipush 10, 2) := by decide +kernel
theorem dX9_rule_31 : decode cX9_rule 31 = .ok (.invokestatic 138, 3) := by decide +kernel
theorem dX9_rule_34 : decode cX9_rule 34 = .ok (.ifCond .ne 5, 3) := by decide +kernel
theorem dX9_rule_37 : decode cX9_rule 37 = .ok (.iconst (-1), 1) := by decide +kernel
theorem dX9_rule_38 : decode cX9_rule 38 = .ok (.ireturn, 1) := by decide +kernel
theorem dX9_rule_39 : decode cX9_rule 39 = .ok (.aload_n 0, 1) := by decide +kernel
theorem dX9_rule_40 : decode cX9_rule 40 = .ok (.getfield 299, 3) := by decide +kernel
theorem dX9_rule_43 : decode cX9_rule 43 = .ok (.bipush 48, 2) := by decide +kernel
theorem dX9_rule_45 : decode cX9_rule 45 = .ok (.if_icmp .ne 6, 3) := by decide +kernel
theorem dX9_rule_48 : decode cX9_rule 48 = .ok (.bipush (-4), 2) := by decide +kernel
theorem dX9_rule_50 : decode cX9_rule 50 = .ok (.ireturn, 1) := by decide +kernel
theorem dX9_rule_51 : decode cX9_rule 51 = .ok (.aload_n 0, 1) := by decide +kernel
theorem dX9_rule_52 : decode cX9_rule 52 = .ok (.getfield 60, 3) := by decide +kernel
theorem dX9_rule_55 : decode cX9_rule 55 = .ok (.aload_n 0, 1) := by decide +kernel
theorem dX9_rule_56 : decode cX9_rule 56 = .ok (.getfield 299, 3) := by decide +kernel
theorem dX9_rule_59 : decode cX9_rule 59 = .ok (.iload_n 1, 1) := by decide +kernel
theorem dX9_rule_60 : decode cX9_rule 60 = .ok (.iastore, 1) := by decide +kernel
theorem dX9_rule_61 : decode cX9_rule 61 = .ok (.aload_n 0, 1) := by decide +kernel
theorem dX9_rule_62 : decode cX9_rule 62 = .ok (.getfield 63, 3) := by decide +kernel
theorem dX9_rule_65 : decode cX9_rule 65 = .ok (.aload_n 0, 1) := by decide +kernel
theorem dX9_rule_66 : decode cX9_rule 66 = .ok (.getfield 299, 3) := by decide +kernel
theorem dX9_rule_69 : decode cX9_rule 69 = .ok (.iload_n 2, 1) := by decide +kernel
theorem dX9_rule_70 : decode cX9_rule 70 = .ok (.iastore, 1) := by decide +kernel
theorem dX9_rule_71 : decode cX9_rule 71 = .ok (.aload_n 0, 1) := by decide +kernel
theorem dX9_rule_72 : decode cX9_rule 72 = .ok (.getfield 66, 3) := by decide +kernel
theorem dX9_rule_75 : decode cX9_rule 75 = .ok (.aload_n 0, 1) := by decide +kernel
theorem dX9_rule_76 : decode cX9_rule 76 = .ok (.getfield 299, 3) := by decide +kernel
theorem dX9_rule_79 : decode cX9_rule 79 = .ok (.iload_n 3, 1) := by decide +kernel
theorem dX9_rule_80 : decode cX9_rule 80 = .ok (.iastore, 1) := by decide +kernel
theorem dX9_rule_81 : decode cX9_rule 81 = .ok (.aload_n 0, 1) := by decide +kernel
theorem dX9_rule_82 : decode cX9_rule 82 = .ok (.getfield 69, 3) := by decide +kernel
theorem dX9_rule_85 : decode cX9_rule 85 = .ok (.aload_n 0, 1) := by decide +kernel
theorem dX9_rule_86 : decode cX9_rule 86 = .ok (.getfield 299, 3) := by decide +kernel
theorem dX9_rule_89 : decode cX9_rule 89 = .ok (.iload 4, 2) := by decide +kernel
theorem dX9_rule_91 : decode cX9_rule 91 = .ok (.iastore, 1) := by decide +kernel
theorem dX9_rule_92 : decode cX9_rule 92 = .ok (.aload_n 0, 1) := by decide +kernel
theorem dX9_rule_93 : decode cX9_rule 93 = .ok (.dup, 1) := by decide +kernel
theorem dX9_rule_94 : decode cX9_rule 94 = .ok (.getfield 299, 3) := by decide +kernel
theorem dX9_rule_97 : decode cX9_rule 97 = .ok (.iconst 1, 1) := by decide +kernel
theorem dX9_rule_98 : decode cX9_rule 98 = .ok (.iadd, 1) := by decide +kernel
theorem dX9_rule_99 : decode cX9_rule 99 = .ok (.putfield 299, 3) := by decide +kernel
theorem dX9_rule_102 : decode cX9_rule 102 = .ok (.aload_n 0, 1) := by decide +kernel
theorem dX9_rule_103 : decode cX9_rule 103 = .ok (.iconst 4, 1) := by decide +kernel
theorem dX9_rule_104 : decode cX9_rule 104 = .ok (.invokevirtual 173, 3) := by decide +kernel
theorem dX9_rule_107 : decode cX9_rule 107 = .ok (.iconst 0, 1) := by decide +kernel
theorem dX9_rule_108 : decode cX9_rule 108 = .ok (.istore 5, 2) := by decide +kernel
theorem dX9_rule_110 : decode cX9_rule 110 = .ok (.iconst 0, 1) := by decide +kernel
theorem dX9_rule_111 : decode cX9_rule 111 = .ok (.istore 6, 2) := by decide +kernel
theorem dX9_rule_113 : decode cX9_rule 113 = .ok (.iload 6, 2) := by decide +kernel
theorem dX9_rule_115 : decode cX9_rule 115 = .ok (.aload_n 0, 1) := by decide +kernel
theorem dX9_rule_116 : decode cX9_rule 116 = .ok (.getfield 299, 3) := by decide +kernel
theorem dX9_rule_119 : decode cX9_rule 119 = .ok (.if_icmp .ge 30, 3) := by decide +kernel
theorem dX9_rule_122 : decode cX9_rule 122 = .ok (.iload 5, 2) := by decide +kernel
theorem dX9_rule_124 : decode cX9_rule 124 = .ok (.aload_n 0, 1) := by decide +kernel
theorem dX9_rule_125 : decode cX9_rule 125 = .ok (.getfield 60, 3) := by decide +kernel
theorem dX9_rule_128 : decode cX9_rule 128 = .ok (.iload 6, 2) := by decide +kernel
theorem dX9_rule_130 : decode cX9_rule 130 = .ok (.iaload, 1) := by decide +kernel
theorem dX9_rule_131 : decode cX9_rule 131 = .ok (.iload_n 1, 1) := by decide +kernel
theorem dX9_rule_132 : decode cX9_rule 132 = .ok (.if_icmp .ne 7, 3) := by decide +kernel
theorem dX9_rule_135 : decode cX9_rule 135 = .ok (.iconst 1, 1) := by decide +kernel
theorem dX9_rule_136 : decode cX9_rule 136 = .ok (.goto 4, 3) := by decide +kernel
theorem dX9_rule_139 : decode cX9_rule 139 = .ok (.iconst 0, 1) := by decide +kernel
theorem dX9_rule_140 : decode cX9_rule 140 = .ok (.iadd, 1) := by decide +kernel
theorem dX9_rule_141 : decode cX9_rule 141 = .ok (.istore 5, 2) := by decide +kernel
theorem dX9_rule_143 : decode cX9_rule 143 = .ok (.iinc 6 1, 3) := by decide +kernel
theorem dX9_rule_146 : decode cX9_rule 146 = .ok (.goto (-33), 3) := by decide +kernel
theorem dX9_rule_149 : decode cX9_rule 149 = .ok (.iload 5, 2) := by decide +kernel
theorem dX9_rule_151 : decode cX9_rule 151 = .ok (.ireturn, 1) := by decide +kernel
theorem dX9_isFree_0 : decode cX9_isFree 0 = .ok (.iload_n 2, 1) := by decide +kernel
theorem dX9_isFree_1 : decode cX9_isFree 1 = .ok (.i2l, 1) := by decide +kernel
theorem dX9_isFree_2 : decode cX9_isFree 2 = .ok (.invokestatic 151, 3) := by decide +kernel
theorem dX9_isFree_5 : decode cX9_isFree 5 = .ok (.ifCond .ne 5, 3) := by decide +kernel
theorem dX9_isFree_8 : decode cX9_isFree 8 = .ok (.iconst 0, 1) := by decide +kernel
theorem dX9_isFree_9 : decode cX9_isFree 9 = .ok (.ireturn, 1) := by decide +kernel
theorem dX9_isFree_10 : decode cX9_isFree 10 = .ok (.aload_n 0, 1) := by decide +kernel
theorem dX9_isFree_11 : decode cX9_isFree 11 = .ok (.getfield 53, 3) := by decide +kernel
theorem dX9_isFree_14 : decode cX9_isFree 14 = .ok (.iload_n 1, 1) := by decide +kernel
theorem dX9_isFree_15 : decode cX9_isFree 15 = .ok (.iaload, 1) := by decide +kernel
theorem dX9_isFree_16 : decode cX9_isFree 16 = .ok (.iload_n 2, 1) := by decide +kernel
theorem dX9_isFree_17 : decode cX9_isFree 17 = .ok (.bipush 7, 2) := by decide +kernel
theorem dX9_isFree_19 : decode cX9_isFree 19 = .ok (.irem, 1) := by decide +kernel
theorem dX9_isFree_20 : decode cX9_isFree 20 = .ok (.ishr, 1) := by decide +kernel
theorem dX9_isFree_21 : decode cX9_isFree 21 = .ok (.iconst 1, 1) := by decide +kernel
theorem dX9_isFree_22 : decode cX9_isFree 22 = .ok (.iand, 1) := by decide +kernel
theorem dX9_isFree_23 : decode cX9_isFree 23 = .ok (.iconst 1, 1) := by decide +kernel
theorem dX9_isFree_24 : decode cX9_isFree 24 = .ok (.if_icmp .ne 5, 3) := by decide +kernel
theorem dX9_isFree_27 : decode cX9_isFree 27 = .ok (.iconst 1, 1) := by decide +kernel
theorem dX9_isFree_28 : decode cX9_isFree 28 = .ok (.ireturn, 1) := by decide +kernel
theorem dX9_isFree_29 : decode cX9_isFree 29 = .ok (.iconst 0, 1) := by decide +kernel
theorem dX9_isFree_30 : decode cX9_isFree 30 = .ok (.iload_n 2, 1) := by decide +kernel
theorem dX9_isFree_31 : decode cX9_isFree 31 = .ok (.invokestatic 135, 3) := by decide +kernel
theorem dX9_isFree_34 : decode cX9_isFree 34 = .ok (.istore_n 3, 1) := by decide +kernel
theorem dX9_isFree_35 : decode cX9_isFree 35 = .ok (.iload_n 3, 1) := by decide +kernel
theorem dX9_isFree_36 : decode cX9_isFree 36 = .ok (.iconst 1, 1) := by decide +kernel
theorem dX9_isFree_37 : decode cX9_isFree 37 = .ok (.isub, 1) := by decide +kernel
theorem dX9_isFree_38 : decode cX9_isFree 38 = .ok (.istore 4, 2) := by decide +kernel
theorem dX9_isFree_40 : decode cX9_isFree 40 = .ok (.iload 4, 2) := by decide +kernel
theorem dX9_isFree_42 : decode cX9_isFree 42 = .ok (.iload_n 3, 1) := by decide +kernel
theorem dX9_isFree_43 : decode cX9_isFree 43 = .ok (.iconst 1, 1) := by decide +kernel
theorem dX9_isFree_44 : decode cX9_isFree 44 = .ok (.iadd, 1) := by decide +kernel
theorem dX9_isFree_45 : decode cX9_isFree 45 = .ok (.if_icmp .gt 121, 3) := by decide +kernel
theorem dX9_isFree_48 : decode cX9_isFree 48 = .ok (.aload_n 0, 1) := by decide +kernel
theorem dX9_isFree_49 : decode cX9_isFree 49 = .ok (.iconst 0, 1) := by decide +kernel
theorem dX9_isFree_50 : decode cX9_isFree 50 = .ok (.iload 4, 2) := by decide +kernel
theorem dX9_isFree_52 : decode cX9_isFree 52 = .ok (.invokevirtual 120, 3) := by decide +kernel
theorem dX9_isFree_55 : decode cX9_isFree 55 = .ok (.ifCond .eq 105, 3) := by decide +kernel
theorem dX9_isFree_58 : decode cX9_isFree 58 = .ok (.aload_n 0, 1) := by decide +kernel
theorem dX9_isFree_59 : decode cX9_isFree 59 = .ok (.getfield 299, 3) := by decide +kernel
theorem dX9_isFree_62 : decode cX9_isFree 62 = .ok (.ifCond .le 12, 3) := by decide +kernel
theorem dX9_isFree_65 : decode cX9_isFree 65 = .ok (.aload_n 0, 1) := by decide +kernel
theorem dX9_isFree_66 : decode cX9_isFree 66 = .ok (.iload 4, 2) := by decide +kernel
theorem dX9_isFree_68 : decode cX9_isFree 68 = .ok (.invokevirtual 216, 3) := by decide +kernel
theorem dX9_isFree_71 : decode cX9_isFree 71 = .ok (.goto 4, 3) := by decide +kernel
theorem dX9_isFree_74 : decode cX9_isFree 74 = .ok (.iconst 0, 1) := by decide +kernel
theorem dX9_isFree_75 : decode cX9_isFree 75 = .ok (.istore 5, 2) := by decide +kernel
theorem dX9_isFree_77 : decode cX9_isFree 77 = .ok (.iconst 0, 1) := by decide +kernel
theorem dX9_isFree_78 : decode cX9_isFree 78 = .ok (.istore 6, 2) := by decide +kernel
theorem dX9_isFree_80 : decode cX9_isFree 80 = .ok (.iload 6, 2) := by decide +kernel
theorem dX9_isFree_82 : decode cX9_isFree 82 = .ok (.aload_n 0, 1) := by decide +kernel
theorem dX9_isFree_83 : decode cX9_isFree 83 = .ok (.getfield 299, 3) := by decide +kernel
theorem dX9_isFree_86 : decode cX9_isFree 86 = .ok (.if_icmp .ge 74, 3) := by decide +kernel
theorem dX9_isFree_89 : decode cX9_isFree 89 = .ok (.aload_n 0, 1) := by decide +kernel
theorem dX9_isFree_90 : decode cX9_isFree 90 = .ok (.getfield 50, 3) := by decide +kernel
theorem dX9_isFree_93 : decode cX9_isFree 93 = .ok (.iload 5, 2) := by decide +kernel
theorem dX9_isFree_95 : decode cX9_isFree 95 = .ok (.aload_n 0, 1) := by decide +kernel
theorem dX9_isFree_96 : decode cX9_isFree 96 = .ok (.getfield 63, 3) := by decide +kernel
theorem dX9_isFree_99 : decode cX9_isFree 99 = .ok (.iload 6, 2) := by decide +kernel
theorem dX9_isFree_101 : decode cX9_isFree 101 = .ok (.iaload, 1) := by decide +kernel
theorem dX9_isFree_102 : decode cX9_isFree 102 = .ok (.iadd, 1) := by decide +kernel
theorem dX9_isFree_103 : decode cX9_isFree 103 = .ok (.iaload, 1) := by decide +kernel
theorem dX9_isFree_104 : decode cX9_isFree 104 = .ok (.istore 7, 2) := by decide +kernel
theorem dX9_isFree_106 : decode cX9_isFree 106 = .ok (.aload_n 0, 1) := by decide +kernel
theorem dX9_isFree_107 : decode cX9_isFree 107 = .ok (.getfield 60, 3) := by decide +kernel
theorem dX9_isFree_110 : decode cX9_isFree 110 = .ok (.iload 6, 2) := by decide +kernel
theorem dX9_isFree_112 : decode cX9_isFree 112 = .ok (.iaload, 1) := by decide +kernel
theorem dX9_isFree_113 : decode cX9_isFree 113 = .ok (.iload_n 1, 1) := by decide +kernel
theorem dX9_isFree_114 : decode cX9_isFree 114 = .ok (.if_icmp .ne 40, 3) := by decide +kernel
theorem dX9_isFree_117 : decode cX9_isFree 117 = .ok (.iload 7, 2) := by decide +kernel
theorem dX9_isFree_119 : decode cX9_isFree 119 = .ok (.bipush (-2), 2) := by decide +kernel
theorem dX9_isFree_121 : decode cX9_isFree 121 = .ok (.if_icmp .eq 33, 3) := by decide +kernel
theorem dX9_isFree_124 : decode cX9_isFree 124 = .ok (.iload_n 2, 1) := by decide +kernel
theorem dX9_isFree_125 : decode cX9_isFree 125 = .ok (.iload 7, 2) := by decide +kernel
theorem dX9_isFree_127 : decode cX9_isFree 127 = .ok (.aload_n 0, 1) := by decide +kernel
theorem dX9_isFree_128 : decode cX9_isFree 128 = .ok (.getfield 66, 3) := by decide +kernel
theorem dX9_isFree_131 : decode cX9_isFree 131 = .ok (.iload 6, 2) := by decide +kernel
theorem dX9_isFree_133 : decode cX9_isFree 133 = .ok (.iaload, 1) := by decide +kernel
theorem dX9_isFree_134 : decode cX9_isFree 134 = .ok (.isub, 1) := by decide +kernel
theorem dX9_isFree_135 : decode cX9_isFree 135 = .ok (.if_icmp .lt 19, 3) := by decide +kernel
theorem dX9_isFree_138 : decode cX9_isFree 138 = .ok (.iload_n 2, 1) := by decide +kernel
theorem dX9_isFree_139 : decode cX9_isFree 139 = .ok (.iload 7, 2) := by decide +kernel
theorem dX9_isFree_141 : decode cX9_isFree 141 = .ok (.aload_n 0, 1) := by decide +kernel
theorem dX9_isFree_142 : decode cX9_isFree 142 = .ok (.getfield 69, 3) := by decide +kernel
theorem dX9_isFree_145 : decode cX9_isFree 145 = .ok (.iload 6, 2) := by decide +kernel
theorem dX9_isFree_147 : decode cX9_isFree 147 = .ok (.iaload, 1) := by decide +kernel
theorem dX9_isFree_148 : decode cX9_isFree 148 = .ok (.iadd, 1) := by decide +kernel
theorem dX9_isFree_149 : decode cX9_isFree 149 = .ok (.if_icmp .gt 5, 3) := by decide +kernel
theorem dX9_isFree_152 : decode cX9_isFree 152 = .ok (.iconst 1, 1) := by decide +kernel
theorem dX9_isFree_153 : decode cX9_isFree 153 = .ok (.ireturn, 1) := by decide +kernel
theorem dX9_isFree_154 : decode cX9_isFree 154 = .ok (.iinc 6 1, 3) := by decide +kernel
theorem dX9_isFree_157 : decode cX9_isFree 157 = .ok (.goto (-77), 3) := by decide +kernel
theorem dX9_isFree_160 : decode cX9_isFree 160 = .ok (.iinc 4 1, 3) := by decide +kernel
theorem dX9_isFree_163 : decode cX9_isFree 163 = .ok (.goto (-123), 3) := by decide +kernel
theorem dX9_isFree_166 : decode cX9_isFree 166 = .ok (.iconst 0, 1) := by decide +kernel
theorem dX9_isFree_167 : decode cX9_isFree 167 = .ok (.ireturn, 1) := by decide +kernel
theorem dX9_isOffDay_0 : decode cX9_isOffDay 0 = .ok (.aload_n 0, 1) := by decide +kernel
theorem dX9_isOffDay_1 : decode cX9_isOffDay 1 = .ok (.iload_n 1, 1) := by decide +kernel
theorem dX9_isOffDay_2 : decode cX9_isOffDay 2 = .ok (.iload_n 2, 1) := by decide +kernel
theorem dX9_isOffDay_3 : decode cX9_isOffDay 3 = .ok (.invokevirtual 302, 3) := by decide +kernel
theorem dX9_isOffDay_6 : decode cX9_isOffDay 6 = .ok (.ifCond .ne 34, 3) := by decide +kernel
theorem dX9_isOffDay_9 : decode cX9_isOffDay 9 = .ok (.aload_n 0, 1) := by decide +kernel
theorem dX9_isOffDay_10 : decode cX9_isOffDay 10 = .ok (.getfield 56, 3) := by decide +kernel
theorem dX9_isOffDay_13 : decode cX9_isOffDay 13 = .ok (.iload_n 1, 1) := by decide +kernel
theorem dX9_isOffDay_14 : decode cX9_isOffDay 14 = .ok (.baload, 1) := by decide +kernel
theorem dX9_isOffDay_15 : decode cX9_isOffDay 15 = .ok (.ifCond .eq 29, 3) := by decide +kernel
theorem dX9_isOffDay_18 : decode cX9_isOffDay 18 = .ok (.aload_n 0, 1) := by decide +kernel
theorem dX9_isOffDay_19 : decode cX9_isOffDay 19 = .ok (.iload_n 1, 1) := by decide +kernel
theorem dX9_isOffDay_20 : decode cX9_isOffDay 20 = .ok (.iload_n 2, 1) := by decide +kernel
theorem dX9_isOffDay_21 : decode cX9_isOffDay 21 = .ok (.iconst 1, 1) := by decide +kernel
theorem dX9_isOffDay_22 : decode cX9_isOffDay 22 = .ok (.isub, 1) := by decide +kernel
theorem dX9_isOffDay_23 : decode cX9_isOffDay 23 = .ok (.invokevirtual 302, 3) := by decide +kernel
theorem dX9_isOffDay_26 : decode cX9_isOffDay 26 = .ok (.ifCond .eq 18, 3) := by decide +kernel
theorem dX9_isOffDay_29 : decode cX9_isOffDay 29 = .ok (.aload_n 0, 1) := by decide +kernel
theorem dX9_isOffDay_30 : decode cX9_isOffDay 30 = .ok (.iload_n 1, 1) := by decide +kernel
theorem dX9_isOffDay_31 : decode cX9_isOffDay 31 = .ok (.iload_n 2, 1) := by decide +kernel
theorem dX9_isOffDay_32 : decode cX9_isOffDay 32 = .ok (.iconst 1, 1) := by decide +kernel
theorem dX9_isOffDay_33 : decode cX9_isOffDay 33 = .ok (.iadd, 1) := by decide +kernel
theorem dX9_isOffDay_34 : decode cX9_isOffDay 34 = .ok (.invokevirtual 302, 3) := by decide +kernel
theorem dX9_isOffDay_37 : decode cX9_isOffDay 37 = .ok (.ifCond .eq 7, 3) := by decide +kernel
theorem dX9_isOffDay_40 : decode cX9_isOffDay 40 = .ok (.iconst 1, 1) := by decide +kernel
theorem dX9_isOffDay_41 : decode cX9_isOffDay 41 = .ok (.goto 4, 3) := by decide +kernel
theorem dX9_isOffDay_44 : decode cX9_isOffDay 44 = .ok (.iconst 0, 1) := by decide +kernel
theorem dX9_isOffDay_45 : decode cX9_isOffDay 45 = .ok (.ireturn, 1) := by decide +kernel
theorem dX9_isOff_0 : decode cX9_isOff 0 = .ok (.aload_n 0, 1) := by decide +kernel
theorem dX9_isOff_1 : decode cX9_isOff 1 = .ok (.iload_n 1, 1) := by decide +kernel
theorem dX9_isOff_2 : decode cX9_isOff 2 = .ok (.invokevirtual 296, 3) := by decide +kernel
theorem dX9_isOff_5 : decode cX9_isOff 5 = .ok (.ifCond .ne 5, 3) := by decide +kernel
theorem dX9_isOff_8 : decode cX9_isOff 8 = .ok (.iconst (-1), 1) := by decide +kernel
theorem dX9_isOff_9 : decode cX9_isOff 9 = .ok (.ireturn, 1) := by decide +kernel
theorem dX9_isOff_10 : decode cX9_isOff 10 = .ok (.iload_n 2, 1) := by decide +kernel
theorem dX9_isOff_11 : decode cX9_isOff 11 = .ok (.i2l, 1) := by decide +kernel
theorem dX9_isOff_12 : decode cX9_isOff 12 = .ok (.invokestatic 151, 3) := by decide +kernel
theorem dX9_isOff_15 : decode cX9_isOff 15 = .ok (.ifCond .ne 8, 3) := by decide +kernel
theorem dX9_isOff_18 : decode cX9_isOff 18 = .ok (.bipush (-3), 2) := by decide +kernel
theorem dX9_isOff_20 : decode cX9_isOff 20 = .ok (.goto 17, 3) := by decide +kernel
theorem dX9_isOff_23 : decode cX9_isOff 23 = .ok (.aload_n 0, 1) := by decide +kernel
theorem dX9_isOff_24 : decode cX9_isOff 24 = .ok (.iload_n 1, 1) := by decide +kernel
theorem dX9_isOff_25 : decode cX9_isOff 25 = .ok (.iload_n 2, 1) := by decide +kernel
theorem dX9_isOff_26 : decode cX9_isOff 26 = .ok (.invokevirtual 305, 3) := by decide +kernel
theorem dX9_isOff_29 : decode cX9_isOff 29 = .ok (.ifCond .eq 7, 3) := by decide +kernel
theorem dX9_isOff_32 : decode cX9_isOff 32 = .ok (.iconst 1, 1) := by decide +kernel
theorem dX9_isOff_33 : decode cX9_isOff 33 = .ok (.goto 4, 3) := by decide +kernel
theorem dX9_isOff_36 : decode cX9_isOff 36 = .ok (.iconst 0, 1) := by decide +kernel
theorem dX9_isOff_37 : decode cX9_isOff 37 = .ok (.ireturn, 1) := by decide +kernel
theorem dX9_worked_0 : decode cX9_worked 0 = .ok (.aload_n 0, 1) := by decide +kernel
theorem dX9_worked_1 : decode cX9_worked 1 = .ok (.iload_n 1, 1) := by decide +kernel
theorem dX9_worked_2 : decode cX9_worked 2 = .ok (.invokevirtual 296, 3) := by decide +kernel
theorem dX9_worked_5 : decode cX9_worked 5 = .ok (.ifCond .eq 22, 3) := by decide +kernel
theorem dX9_worked_8 : decode cX9_worked 8 = .ok (.iload_n 3, 1) := by decide +kernel
theorem dX9_worked_9 : decode cX9_worked 9 = .ok (.iload_n 2, 1) := by decide +kernel
theorem dX9_worked_10 : decode cX9_worked 10 = .ok (.if_icmp .lt 17, 3) := by decide +kernel
theorem dX9_worked_13 : decode cX9_worked 13 = .ok (.iload_n 3, 1) := by decide +kernel
theorem dX9_worked_14 : decode cX9_worked 14 = .ok (.i2l, 1) := by decide +kernel
theorem dX9_worked_15 : decode cX9_worked 15 = .ok (.iload_n 2, 1) := by decide +kernel
theorem dX9_worked_16 : decode cX9_worked 16 = .ok (.i2l, 1) := by decide +kernel
theorem dX9_worked_17 : decode cX9_worked 17 = .ok (.lsub, 1) := by decide +kernel
theorem dX9_worked_18 : decode cX9_worked 18 = .ok (.lconst 1, 1) := by decide +kernel
theorem dX9_worked_19 : decode cX9_worked 19 = .ok (.ladd, 1) := by decide +kernel
theorem dX9_worked_20 : decode cX9_worked 20 = .ok (.ldc2_w 308, 3) := by decide +kernel
theorem dX9_worked_23 : decode cX9_worked 23 = .ok (.lcmp, 1) := by decide +kernel
theorem dX9_worked_24 : decode cX9_worked 24 = .ok (.ifCond .le 5, 3) := by decide +kernel
theorem dX9_worked_27 : decode cX9_worked 27 = .ok (.iconst (-1), 1) := by decide +kernel
theorem dX9_worked_28 : decode cX9_worked 28 = .ok (.ireturn, 1) := by decide +kernel
theorem dX9_worked_29 : decode cX9_worked 29 = .ok (.iload_n 2, 1) := by decide +kernel
theorem dX9_worked_30 : decode cX9_worked 30 = .ok (.i2l, 1) := by decide +kernel
theorem dX9_worked_31 : decode cX9_worked 31 = .ok (.invokestatic 151, 3) := by decide +kernel
theorem dX9_worked_34 : decode cX9_worked 34 = .ok (.ifCond .eq 11, 3) := by decide +kernel
theorem dX9_worked_37 : decode cX9_worked 37 = .ok (.iload_n 3, 1) := by decide +kernel
theorem dX9_worked_38 : decode cX9_worked 38 = .ok (.i2l, 1) := by decide +kernel
theorem dX9_worked_39 : decode cX9_worked 39 = .ok (.invokestatic 151, 3) := by decide +kernel
theorem dX9_worked_42 : decode cX9_worked 42 = .ok (.ifCond .ne 6, 3) := by decide +kernel
theorem dX9_worked_45 : decode cX9_worked 45 = .ok (.bipush (-3), 2) := by decide +kernel
theorem dX9_worked_47 : decode cX9_worked 47 = .ok (.ireturn, 1) := by decide +kernel
theorem dX9_worked_48 : decode cX9_worked 48 = .ok (.iconst 0, 1) := by decide +kernel
theorem dX9_worked_49 : decode cX9_worked 49 = .ok (.istore 4, 2) := by decide +kernel
theorem dX9_worked_51 : decode cX9_worked 51 = .ok (.iload_n 2, 1) := by decide +kernel
theorem dX9_worked_52 : decode cX9_worked 52 = .ok (.istore 5, 2) := by decide +kernel
theorem dX9_worked_54 : decode cX9_worked 54 = .ok (.iload 5, 2) := by decide +kernel
theorem dX9_worked_56 : decode cX9_worked 56 = .ok (.iload_n 3, 1) := by decide +kernel
theorem dX9_worked_57 : decode cX9_worked 57 = .ok (.if_icmp .gt 29, 3) := by decide +kernel
theorem dX9_worked_60 : decode cX9_worked 60 = .ok (.iload 4, 2) := by decide +kernel
theorem dX9_worked_62 : decode cX9_worked 62 = .ok (.aload_n 0, 1) := by decide +kernel
theorem dX9_worked_63 : decode cX9_worked 63 = .ok (.iload_n 1, 1) := by decide +kernel
theorem dX9_worked_64 : decode cX9_worked 64 = .ok (.iload 5, 2) := by decide +kernel
theorem dX9_worked_66 : decode cX9_worked 66 = .ok (.invokevirtual 305, 3) := by decide +kernel
theorem dX9_worked_69 : decode cX9_worked 69 = .ok (.ifCond .eq 7, 3) := by decide +kernel
theorem dX9_worked_72 : decode cX9_worked 72 = .ok (.iconst 0, 1) := by decide +kernel
theorem dX9_worked_73 : decode cX9_worked 73 = .ok (.goto 4, 3) := by decide +kernel
theorem dX9_worked_76 : decode cX9_worked 76 = .ok (.iconst 1, 1) := by decide +kernel
theorem dX9_worked_77 : decode cX9_worked 77 = .ok (.iadd, 1) := by decide +kernel
theorem dX9_worked_78 : decode cX9_worked 78 = .ok (.istore 4, 2) := by decide +kernel
theorem dX9_worked_80 : decode cX9_worked 80 = .ok (.iinc 5 1, 3) := by decide +kernel
theorem dX9_worked_83 : decode cX9_worked 83 = .ok (.goto (-29), 3) := by decide +kernel
theorem dX9_worked_86 : decode cX9_worked 86 = .ok (.iload 4, 2) := by decide +kernel
theorem dX9_worked_88 : decode cX9_worked 88 = .ok (.ireturn, 1) := by decide +kernel
theorem dX9_nextOff_0 : decode cX9_nextOff 0 = .ok (.aload_n 0, 1) := by decide +kernel
theorem dX9_nextOff_1 : decode cX9_nextOff 1 = .ok (.iload_n 1, 1) := by decide +kernel
theorem dX9_nextOff_2 : decode cX9_nextOff 2 = .ok (.invokevirtual 296, 3) := by decide +kernel
theorem dX9_nextOff_5 : decode cX9_nextOff 5 = .ok (.ifCond .ne 5, 3) := by decide +kernel
theorem dX9_nextOff_8 : decode cX9_nextOff 8 = .ok (.iconst (-1), 1) := by decide +kernel
theorem dX9_nextOff_9 : decode cX9_nextOff 9 = .ok (.ireturn, 1) := by decide +kernel
theorem dX9_nextOff_10 : decode cX9_nextOff 10 = .ok (.iload_n 2, 1) := by decide +kernel
theorem dX9_nextOff_11 : decode cX9_nextOff 11 = .ok (.i2l, 1) := by decide +kernel
theorem dX9_nextOff_12 : decode cX9_nextOff 12 = .ok (.invokestatic 151, 3) := by decide +kernel
theorem dX9_nextOff_15 : decode cX9_nextOff 15 = .ok (.ifCond .ne 6, 3) := by decide +kernel
theorem dX9_nextOff_18 : decode cX9_nextOff 18 = .ok (.bipush (-3), 2) := by decide +kernel
theorem dX9_nextOff_20 : decode cX9_nextOff 20 = .ok (.ireturn, 1) := by decide +kernel
theorem dX9_nextOff_21 : decode cX9_nextOff 21 = .ok (.iload_n 2, 1) := by decide +kernel
theorem dX9_nextOff_22 : decode cX9_nextOff 22 = .ok (.iconst 1, 1) := by decide +kernel
theorem dX9_nextOff_23 : decode cX9_nextOff 23 = .ok (.iadd, 1) := by decide +kernel
theorem dX9_nextOff_24 : decode cX9_nextOff 24 = .ok (.istore_n 3, 1) := by decide +kernel
theorem dX9_nextOff_25 : decode cX9_nextOff 25 = .ok (.iload_n 3, 1) := by decide +kernel
theorem dX9_nextOff_26 : decode cX9_nextOff 26 = .ok (.iload_n 2, 1) := by decide +kernel
theorem dX9_nextOff_27 : decode cX9_nextOff 27 = .ok (.sipush 400, 3) := by decide +kernel
theorem dX9_nextOff_30 : decode cX9_nextOff 30 = .ok (.iadd, 1) := by decide +kernel
theorem dX9_nextOff_31 : decode cX9_nextOff 31 = .ok (.if_icmp .gt 27, 3) := by decide +kernel
theorem dX9_nextOff_34 : decode cX9_nextOff 34 = .ok (.iload_n 3, 1) := by decide +kernel
theorem dX9_nextOff_35 : decode cX9_nextOff 35 = .ok (.ldc_w 310, 3) := by decide +kernel
theorem dX9_nextOff_38 : decode cX9_nextOff 38 = .ok (.if_icmp .gt 20, 3) := by decide +kernel
theorem dX9_nextOff_41 : decode cX9_nextOff 41 = .ok (.aload_n 0, 1) := by decide +kernel
theorem dX9_nextOff_42 : decode cX9_nextOff 42 = .ok (.iload_n 1, 1) := by decide +kernel
theorem dX9_nextOff_43 : decode cX9_nextOff 43 = .ok (.iload_n 3, 1) := by decide +kernel
theorem dX9_nextOff_44 : decode cX9_nextOff 44 = .ok (.invokevirtual 305, 3) := by decide +kernel
theorem dX9_nextOff_47 : decode cX9_nextOff 47 = .ok (.ifCond .eq 5, 3) := by decide +kernel
theorem dX9_nextOff_50 : decode cX9_nextOff 50 = .ok (.iload_n 3, 1) := by decide +kernel
theorem dX9_nextOff_51 : decode cX9_nextOff 51 = .ok (.ireturn, 1) := by decide +kernel
theorem dX9_nextOff_52 : decode cX9_nextOff 52 = .ok (.iinc 3 1, 3) := by decide +kernel
theorem dX9_nextOff_55 : decode cX9_nextOff 55 = .ok (.goto (-30), 3) := by decide +kernel
theorem dX9_nextOff_58 : decode cX9_nextOff 58 = .ok (.bipush (-2), 2) := by decide +kernel
theorem dX9_nextOff_60 : decode cX9_nextOff 60 = .ok (.ireturn, 1) := by decide +kernel
theorem dX9_inRow_0 : decode cX9_inRow 0 = .ok (.aload_n 0, 1) := by decide +kernel
theorem dX9_inRow_1 : decode cX9_inRow 1 = .ok (.iload_n 1, 1) := by decide +kernel
theorem dX9_inRow_2 : decode cX9_inRow 2 = .ok (.invokevirtual 296, 3) := by decide +kernel
theorem dX9_inRow_5 : decode cX9_inRow 5 = .ok (.ifCond .ne 5, 3) := by decide +kernel
theorem dX9_inRow_8 : decode cX9_inRow 8 = .ok (.iconst (-1), 1) := by decide +kernel
theorem dX9_inRow_9 : decode cX9_inRow 9 = .ok (.ireturn, 1) := by decide +kernel
theorem dX9_inRow_10 : decode cX9_inRow 10 = .ok (.iload_n 2, 1) := by decide +kernel
theorem dX9_inRow_11 : decode cX9_inRow 11 = .ok (.i2l, 1) := by decide +kernel
theorem dX9_inRow_12 : decode cX9_inRow 12 = .ok (.invokestatic 151, 3) := by decide +kernel
theorem dX9_inRow_15 : decode cX9_inRow 15 = .ok (.ifCond .ne 6, 3) := by decide +kernel
theorem dX9_inRow_18 : decode cX9_inRow 18 = .ok (.bipush (-3), 2) := by decide +kernel
theorem dX9_inRow_20 : decode cX9_inRow 20 = .ok (.ireturn, 1) := by decide +kernel
theorem dX9_inRow_21 : decode cX9_inRow 21 = .ok (.aload_n 0, 1) := by decide +kernel
theorem dX9_inRow_22 : decode cX9_inRow 22 = .ok (.iload_n 1, 1) := by decide +kernel
theorem dX9_inRow_23 : decode cX9_inRow 23 = .ok (.iload_n 2, 1) := by decide +kernel
theorem dX9_inRow_24 : decode cX9_inRow 24 = .ok (.invokevirtual 305, 3) := by decide +kernel
theorem dX9_inRow_27 : decode cX9_inRow 27 = .ok (.ifCond .ne 5, 3) := by decide +kernel
theorem dX9_inRow_30 : decode cX9_inRow 30 = .ok (.iconst 0, 1) := by decide +kernel
theorem dX9_inRow_31 : decode cX9_inRow 31 = .ok (.ireturn, 1) := by decide +kernel
theorem dX9_inRow_32 : decode cX9_inRow 32 = .ok (.iconst 1, 1) := by decide +kernel
theorem dX9_inRow_33 : decode cX9_inRow 33 = .ok (.istore_n 3, 1) := by decide +kernel
theorem dX9_inRow_34 : decode cX9_inRow 34 = .ok (.iload_n 2, 1) := by decide +kernel
theorem dX9_inRow_35 : decode cX9_inRow 35 = .ok (.iconst 1, 1) := by decide +kernel
theorem dX9_inRow_36 : decode cX9_inRow 36 = .ok (.isub, 1) := by decide +kernel
theorem dX9_inRow_37 : decode cX9_inRow 37 = .ok (.istore 4, 2) := by decide +kernel
theorem dX9_inRow_39 : decode cX9_inRow 39 = .ok (.iload 4, 2) := by decide +kernel
theorem dX9_inRow_41 : decode cX9_inRow 41 = .ok (.iload_n 2, 1) := by decide +kernel
theorem dX9_inRow_42 : decode cX9_inRow 42 = .ok (.bipush 50, 2) := by decide +kernel
theorem dX9_inRow_44 : decode cX9_inRow 44 = .ok (.isub, 1) := by decide +kernel
theorem dX9_inRow_45 : decode cX9_inRow 45 = .ok (.if_icmp .lt 27, 3) := by decide +kernel
theorem dX9_inRow_48 : decode cX9_inRow 48 = .ok (.iload 4, 2) := by decide +kernel
theorem dX9_inRow_50 : decode cX9_inRow 50 = .ok (.ifCond .lt 22, 3) := by decide +kernel
theorem dX9_inRow_53 : decode cX9_inRow 53 = .ok (.aload_n 0, 1) := by decide +kernel
theorem dX9_inRow_54 : decode cX9_inRow 54 = .ok (.iload_n 1, 1) := by decide +kernel
theorem dX9_inRow_55 : decode cX9_inRow 55 = .ok (.iload 4, 2) := by decide +kernel
theorem dX9_inRow_57 : decode cX9_inRow 57 = .ok (.invokevirtual 305, 3) := by decide +kernel
theorem dX9_inRow_60 : decode cX9_inRow 60 = .ok (.ifCond .eq 12, 3) := by decide +kernel
theorem dX9_inRow_63 : decode cX9_inRow 63 = .ok (.iinc 3 1, 3) := by decide +kernel
theorem dX9_inRow_66 : decode cX9_inRow 66 = .ok (.iinc 4 (-1), 3) := by decide +kernel
theorem dX9_inRow_69 : decode cX9_inRow 69 = .ok (.goto (-30), 3) := by decide +kernel
theorem dX9_inRow_72 : decode cX9_inRow 72 = .ok (.iload_n 2, 1) := by decide +kernel
theorem dX9_inRow_73 : decode cX9_inRow 73 = .ok (.iconst 1, 1) := by decide +kernel
theorem dX9_inRow_74 : decode cX9_inRow 74 = .ok (.iadd, 1) := by decide +kernel
theorem dX9_inRow_75 : decode cX9_inRow 75 = .ok (.istore 4, 2) := by decide +kernel
theorem dX9_inRow_77 : decode cX9_inRow 77 = .ok (.iload 4, 2) := by decide +kernel
theorem dX9_inRow_79 : decode cX9_inRow 79 = .ok (.iload_n 2, 1) := by decide +kernel
theorem dX9_inRow_80 : decode cX9_inRow 80 = .ok (.bipush 50, 2) := by decide +kernel
theorem dX9_inRow_82 : decode cX9_inRow 82 = .ok (.iadd, 1) := by decide +kernel
theorem dX9_inRow_83 : decode cX9_inRow 83 = .ok (.if_icmp .gt 30, 3) := by decide +kernel
theorem dX9_inRow_86 : decode cX9_inRow 86 = .ok (.iload 4, 2) := by decide +kernel
theorem dX9_inRow_88 : decode cX9_inRow 88 = .ok (.ldc_w 310, 3) := by decide +kernel
theorem dX9_inRow_91 : decode cX9_inRow 91 = .ok (.if_icmp .gt 22, 3) := by decide +kernel
theorem dX9_inRow_94 : decode cX9_inRow 94 = .ok (.aload_n 0, 1) := by decide +kernel
theorem dX9_inRow_95 : decode cX9_inRow 95 = .ok (.iload_n 1, 1) := by decide +kernel
theorem dX9_inRow_96 : decode cX9_inRow 96 = .ok (.iload 4, 2) := by decide +kernel
theorem dX9_inRow_98 : decode cX9_inRow 98 = .ok (.invokevirtual 305, 3) := by decide +kernel
theorem dX9_inRow_101 : decode cX9_inRow 101 = .ok (.ifCond .eq 12, 3) := by decide +kernel
theorem dX9_inRow_104 : decode cX9_inRow 104 = .ok (.iinc 3 1, 3) := by decide +kernel
theorem dX9_inRow_107 : decode cX9_inRow 107 = .ok (.iinc 4 1, 3) := by decide +kernel
theorem dX9_inRow_110 : decode cX9_inRow 110 = .ok (.goto (-33), 3) := by decide +kernel
theorem dX9_inRow_113 : decode cX9_inRow 113 = .ok (.iload_n 3, 1) := by decide +kernel
theorem dX9_inRow_114 : decode cX9_inRow 114 = .ok (.ireturn, 1) := by decide +kernel
theorem dX9_write_0 : decode cX9_write 0 = .ok (.iload_n 1, 1) := by decide +kernel
theorem dX9_write_1 : decode cX9_write 1 = .ok (.bipush 28, 2) := by decide +kernel
theorem dX9_write_3 : decode cX9_write 3 = .ok (.if_icmp .ge 22, 3) := by decide +kernel
theorem dX9_write_6 : decode cX9_write 6 = .ok (.iload_n 2, 1) := by decide +kernel
theorem dX9_write_7 : decode cX9_write 7 = .ok (.bipush 40, 2) := by decide +kernel
theorem dX9_write_9 : decode cX9_write 9 = .ok (.if_icmp .ge 16, 3) := by decide +kernel
theorem dX9_write_12 : decode cX9_write 12 = .ok (.aload_n 0, 1) := by decide +kernel
theorem dX9_write_13 : decode cX9_write 13 = .ok (.getfield 72, 3) := by decide +kernel
theorem dX9_write_16 : decode cX9_write 16 = .ok (.bipush 40, 2) := by decide +kernel
theorem dX9_write_18 : decode cX9_write 18 = .ok (.iload_n 1, 1) := by decide +kernel
theorem dX9_write_19 : decode cX9_write 19 = .ok (.imul, 1) := by decide +kernel
theorem dX9_write_20 : decode cX9_write 20 = .ok (.iload_n 2, 1) := by decide +kernel
theorem dX9_write_21 : decode cX9_write 21 = .ok (.iadd, 1) := by decide +kernel
theorem dX9_write_22 : decode cX9_write 22 = .ok (.iload_n 3, 1) := by decide +kernel
theorem dX9_write_23 : decode cX9_write 23 = .ok (.i2b, 1) := by decide +kernel
theorem dX9_write_24 : decode cX9_write 24 = .ok (.bastore, 1) := by decide +kernel
theorem dX9_write_25 : decode cX9_write 25 = .ok (.return_, 1) := by decide +kernel
theorem dX9_writeNumber_0 : decode cX9_writeNumber 0 = .ok (.iconst 1, 1) := by decide +kernel
theorem dX9_writeNumber_1 : decode cX9_writeNumber 1 = .ok (.istore 4, 2) := by decide +kernel
theorem dX9_writeNumber_3 : decode cX9_writeNumber 3 = .ok (.iload_n 3, 1) := by decide +kernel
theorem dX9_writeNumber_4 : decode cX9_writeNumber 4 = .ok (.iload 4, 2) := by decide +kernel
theorem dX9_writeNumber_6 : decode cX9_writeNumber 6 = .ok (.idiv, 1) := by decide +kernel
theorem dX9_writeNumber_7 : decode cX9_writeNumber 7 = .ok (.bipush 9, 2) := by decide +kernel
theorem dX9_writeNumber_9 : decode cX9_writeNumber 9 = .ok (.if_icmp .le 13, 3) := by decide +kernel
theorem dX9_writeNumber_12 : decode cX9_writeNumber 12 = .ok (.iload 4, 2) := by decide +kernel
theorem dX9_writeNumber_14 : decode cX9_writeNumber 14 = .ok (.bipush 10, 2) := by decide +kernel
theorem dX9_writeNumber_16 : decode cX9_writeNumber 16 = .ok (.imul, 1) := by decide +kernel
theorem dX9_writeNumber_17 : decode cX9_writeNumber 17 = .ok (.istore 4, 2) := by decide +kernel
theorem dX9_writeNumber_19 : decode cX9_writeNumber 19 = .ok (.goto (-16), 3) := by decide +kernel
theorem dX9_writeNumber_22 : decode cX9_writeNumber 22 = .ok (.iload_n 2, 1) := by decide +kernel
theorem dX9_writeNumber_23 : decode cX9_writeNumber 23 = .ok (.istore 5, 2) := by decide +kernel
theorem dX9_writeNumber_25 : decode cX9_writeNumber 25 = .ok (.iload 4, 2) := by decide +kernel
theorem dX9_writeNumber_27 : decode cX9_writeNumber 27 = .ok (.ifCond .le 33, 3) := by decide +kernel
theorem dX9_writeNumber_30 : decode cX9_writeNumber 30 = .ok (.aload_n 0, 1) := by decide +kernel
theorem dX9_writeNumber_31 : decode cX9_writeNumber 31 = .ok (.iload_n 1, 1) := by decide +kernel
theorem dX9_writeNumber_32 : decode cX9_writeNumber 32 = .ok (.iload 5, 2) := by decide +kernel
theorem dX9_writeNumber_34 : decode cX9_writeNumber 34 = .ok (.bipush 48, 2) := by decide +kernel
theorem dX9_writeNumber_36 : decode cX9_writeNumber 36 = .ok (.iload_n 3, 1) := by decide +kernel
theorem dX9_writeNumber_37 : decode cX9_writeNumber 37 = .ok (.iload 4, 2) := by decide +kernel
theorem dX9_writeNumber_39 : decode cX9_writeNumber 39 = .ok (.idiv, 1) := by decide +kernel
theorem dX9_writeNumber_40 : decode cX9_writeNumber 40 = .ok (.bipush 10, 2) := by decide +kernel
theorem dX9_writeNumber_42 : decode cX9_writeNumber 42 = .ok (.irem, 1) := by decide +kernel
theorem dX9_writeNumber_43 : decode cX9_writeNumber 43 = .ok (.iadd, 1) := by decide +kernel
theorem dX9_writeNumber_44 : decode cX9_writeNumber 44 = .ok (.invokevirtual 311, 3) := by decide +kernel
theorem dX9_writeNumber_47 : decode cX9_writeNumber 47 = .ok (.iload 4, 2) := by decide +kernel
theorem dX9_writeNumber_49 : decode cX9_writeNumber 49 = .ok (.bipush 10, 2) := by decide +kernel
theorem dX9_writeNumber_51 : decode cX9_writeNumber 51 = .ok (.idiv, 1) := by decide +kernel
theorem dX9_writeNumber_52 : decode cX9_writeNumber 52 = .ok (.istore 4, 2) := by decide +kernel
theorem dX9_writeNumber_54 : decode cX9_writeNumber 54 = .ok (.iinc 5 1, 3) := by decide +kernel
theorem dX9_writeNumber_57 : decode cX9_writeNumber 57 = .ok (.goto (-32), 3) := by decide +kernel
theorem dX9_writeNumber_60 : decode cX9_writeNumber 60 = .ok (.iload 5, 2) := by decide +kernel
theorem dX9_writeNumber_62 : decode cX9_writeNumber 62 = .ok (.ireturn, 1) := by decide +kernel
theorem dX9_writeDay_0 : decode cX9_writeDay 0 = .ok (.aload_n 0, 1) := by decide +kernel
theorem dX9_writeDay_1 : decode cX9_writeDay 1 = .ok (.iload_n 1, 1) := by decide +kernel
theorem dX9_writeDay_2 : decode cX9_writeDay 2 = .ok (.iload_n 2, 1) := by decide +kernel
theorem dX9_writeDay_3 : decode cX9_writeDay 3 = .ok (.iload_n 3, 1) := by decide +kernel
theorem dX9_writeDay_4 : decode cX9_writeDay 4 = .ok (.bipush 10, 2) := by decide +kernel
theorem dX9_writeDay_6 : decode cX9_writeDay 6 = .ok (.idiv, 1) := by decide +kernel
theorem dX9_writeDay_7 : decode cX9_writeDay 7 = .ok (.bipush 10, 2) := by decide +kernel
theorem dX9_writeDay_9 : decode cX9_writeDay 9 = .ok (.irem, 1) := by decide +kernel
theorem dX9_writeDay_10 : decode cX9_writeDay 10 = .ok (.ifCond .ne 8, 3) := by decide +kernel
theorem dX9_writeDay_13 : decode cX9_writeDay 13 = .ok (.bipush 32, 2) := by decide +kernel
theorem dX9_writeDay_15 : decode cX9_writeDay 15 = .ok (.goto 13, 3) := by decide +kernel
theorem dX9_writeDay_18 : decode cX9_writeDay 18 = .ok (.bipush 48, 2) := by decide +kernel
theorem dX9_writeDay_20 : decode cX9_writeDay 20 = .ok (.iload_n 3, 1) := by decide +kernel
theorem dX9_writeDay_21 : decode cX9_writeDay 21 = .ok (.bipush 10, 2) := by decide +kernel
theorem dX9_writeDay_23 : decode cX9_writeDay 23 = .ok (.idiv, 1) := by decide +kernel
theorem dX9_writeDay_24 : decode cX9_writeDay 24 = .ok (.bipush 10, 2) := by decide +kernel
theorem dX9_writeDay_26 : decode cX9_writeDay 26 = .ok (.irem, 1) := by decide +kernel
theorem dX9_writeDay_27 : decode cX9_writeDay 27 = .ok (.iadd, 1) := by decide +kernel
theorem dX9_writeDay_28 : decode cX9_writeDay 28 = .ok (.invokevirtual 311, 3) := by decide +kernel
theorem dX9_writeDay_31 : decode cX9_writeDay 31 = .ok (.aload_n 0, 1) := by decide +kernel
theorem dX9_writeDay_32 : decode cX9_writeDay 32 = .ok (.iload_n 1, 1) := by decide +kernel
theorem dX9_writeDay_33 : decode cX9_writeDay 33 = .ok (.iload_n 2, 1) := by decide +kernel
theorem dX9_writeDay_34 : decode cX9_writeDay 34 = .ok (.iconst 1, 1) := by decide +kernel
theorem dX9_writeDay_35 : decode cX9_writeDay 35 = .ok (.iadd, 1) := by decide +kernel
theorem dX9_writeDay_36 : decode cX9_writeDay 36 = .ok (.bipush 48, 2) := by decide +kernel
theorem dX9_writeDay_38 : decode cX9_writeDay 38 = .ok (.iload_n 3, 1) := by decide +kernel
theorem dX9_writeDay_39 : decode cX9_writeDay 39 = .ok (.bipush 10, 2) := by decide +kernel
theorem dX9_writeDay_41 : decode cX9_writeDay 41 = .ok (.irem, 1) := by decide +kernel
theorem dX9_writeDay_42 : decode cX9_writeDay 42 = .ok (.iadd, 1) := by decide +kernel
theorem dX9_writeDay_43 : decode cX9_writeDay 43 = .ok (.invokevirtual 311, 3) := by decide +kernel
theorem dX9_writeDay_46 : decode cX9_writeDay 46 = .ok (.return_, 1) := by decide +kernel
theorem dX9_letterOf_0 : decode cX9_letterOf 0 = .ok (.iload_n 0, 1) := by decide +kernel
theorem dX9_letterOf_1 : decode cX9_letterOf 1 = .ok (.ifCond .ne 8, 3) := by decide +kernel
theorem dX9_letterOf_4 : decode cX9_letterOf 4 = .ok (.bipush 77, 2) := by decide +kernel
theorem dX9_letterOf_6 : decode cX9_letterOf 6 = .ok (.goto 40, 3) := by decide +kernel
theorem dX9_letterOf_9 : decode cX9_letterOf 9 = .ok (.iload_n 0, 1) := by decide +kernel
theorem dX9_letterOf_10 : decode cX9_letterOf 10 = .ok (.iconst 1, 1) := by decide +kernel
theorem dX9_letterOf_11 : decode cX9_letterOf 11 = .ok (.if_icmp .eq 8, 3) := by decide +kernel
theorem dX9_letterOf_14 : decode cX9_letterOf 14 = .ok (.iload_n 0, 1) := by decide +kernel
theorem dX9_letterOf_15 : decode cX9_letterOf 15 = .ok (.iconst 3, 1) := by decide +kernel
theorem dX9_letterOf_16 : decode cX9_letterOf 16 = .ok (.if_icmp .ne 8, 3) := by decide +kernel
theorem dX9_letterOf_19 : decode cX9_letterOf 19 = .ok (.bipush 84, 2) := by decide +kernel
theorem dX9_letterOf_21 : decode cX9_letterOf 21 = .ok (.goto 25, 3) := by decide +kernel
theorem dX9_letterOf_24 : decode cX9_letterOf 24 = .ok (.iload_n 0, 1) := by decide +kernel
theorem dX9_letterOf_25 : decode cX9_letterOf 25 = .ok (.iconst 2, 1) := by decide +kernel
theorem dX9_letterOf_26 : decode cX9_letterOf 26 = .ok (.if_icmp .ne 8, 3) := by decide +kernel
theorem dX9_letterOf_29 : decode cX9_letterOf 29 = .ok (.bipush 87, 2) := by decide +kernel
theorem dX9_letterOf_31 : decode cX9_letterOf 31 = .ok (.goto 15, 3) := by decide +kernel
theorem dX9_letterOf_34 : decode cX9_letterOf 34 = .ok (.iload_n 0, 1) := by decide +kernel
theorem dX9_letterOf_35 : decode cX9_letterOf 35 = .ok (.iconst 4, 1) := by decide +kernel
theorem dX9_letterOf_36 : decode cX9_letterOf 36 = .ok (.if_icmp .ne 8, 3) := by decide +kernel
theorem dX9_letterOf_39 : decode cX9_letterOf 39 = .ok (.bipush 70, 2) := by decide +kernel
theorem dX9_letterOf_41 : decode cX9_letterOf 41 = .ok (.goto 5, 3) := by decide +kernel
theorem dX9_letterOf_44 : decode cX9_letterOf 44 = .ok (.bipush 83, 2) := by decide +kernel
theorem dX9_letterOf_46 : decode cX9_letterOf 46 = .ok (.ireturn, 1) := by decide +kernel
theorem dX9_page_0 : decode cX9_page 0 = .ok (.aload_n 0, 1) := by decide +kernel
theorem dX9_page_1 : decode cX9_page 1 = .ok (.iload_n 1, 1) := by decide +kernel
theorem dX9_page_2 : decode cX9_page 2 = .ok (.invokevirtual 296, 3) := by decide +kernel
theorem dX9_page_5 : decode cX9_page 5 = .ok (.ifCond .eq 10, 3) := by decide +kernel
theorem dX9_page_8 : decode cX9_page 8 = .ok (.iload_n 2, 1) := by decide +kernel
theorem dX9_page_9 : decode cX9_page 9 = .ok (.invokestatic 142, 3) := by decide +kernel
theorem dX9_page_12 : decode cX9_page 12 = .ok (.ifCond .ne 5, 3) := by decide +kernel
theorem dX9_page_15 : decode cX9_page 15 = .ok (.iconst (-1), 1) := by decide +kernel
theorem dX9_page_16 : decode cX9_page 16 = .ok (.ireturn, 1) := by decide +kernel
theorem dX9_page_17 : decode cX9_page 17 = .ok (.aload_n 0, 1) := by decide +kernel
theorem dX9_page_18 : decode cX9_page 18 = .ok (.iload_n 2, 1) := by decide +kernel
theorem dX9_page_19 : decode cX9_page 19 = .ok (.iload_n 3, 1) := by decide +kernel
theorem dX9_page_20 : decode cX9_page 20 = .ok (.iload 4, 2) := by decide +kernel
theorem dX9_page_22 : decode cX9_page 22 = .ok (.invokevirtual 145, 3) := by decide +kernel
theorem dX9_page_25 : decode cX9_page 25 = .ok (.ifCond .ne 6, 3) := by decide +kernel
theorem dX9_page_28 : decode cX9_page 28 = .ok (.bipush (-2), 2) := by decide +kernel
theorem dX9_page_30 : decode cX9_page 30 = .ok (.ireturn, 1) := by decide +kernel
theorem dX9_page_31 : decode cX9_page 31 = .ok (.aload_n 0, 1) := by decide +kernel
theorem dX9_page_32 : decode cX9_page 32 = .ok (.iload_n 2, 1) := by decide +kernel
theorem dX9_page_33 : decode cX9_page 33 = .ok (.iload_n 3, 1) := by decide +kernel
theorem dX9_page_34 : decode cX9_page 34 = .ok (.iload 4, 2) := by decide +kernel
theorem dX9_page_36 : decode cX9_page 36 = .ok (.invokevirtual 148, 3) := by decide +kernel
theorem dX9_page_39 : decode cX9_page 39 = .ok (.istore 5, 2) := by decide +kernel
theorem dX9_page_41 : decode cX9_page 41 = .ok (.aload_n 0, 1) := by decide +kernel
theorem dX9_page_42 : decode cX9_page 42 = .ok (.iload_n 2, 1) := by decide +kernel
theorem dX9_page_43 : decode cX9_page 43 = .ok (.iload_n 3, 1) := by decide +kernel
theorem dX9_page_44 : decode cX9_page 44 = .ok (.iload 4, 2) := by decide +kernel
theorem dX9_page_46 : decode cX9_page 46 = .ok (.invokevirtual 116, 3) := by decide +kernel
theorem dX9_page_49 : decode cX9_page 49 = .ok (.istore 6, 2) := by decide +kernel
theorem dX9_page_51 : decode cX9_page 51 = .ok (.iload 5, 2) := by decide +kernel
theorem dX9_page_53 : decode cX9_page 53 = .ok (.i2l, 1) := by decide +kernel
theorem dX9_page_54 : decode cX9_page 54 = .ok (.invokestatic 151, 3) := by decide +kernel
theorem dX9_page_57 : decode cX9_page 57 = .ok (.ifCond .eq 17, 3) := by decide +kernel
theorem dX9_page_60 : decode cX9_page 60 = .ok (.iload 5, 2) := by decide +kernel
theorem dX9_page_62 : decode cX9_page 62 = .ok (.iload 6, 2) := by decide +kernel
theorem dX9_page_64 : decode cX9_page 64 = .ok (.iadd, 1) := by decide +kernel
theorem dX9_page_65 : decode cX9_page 65 = .ok (.iconst 1, 1) := by decide +kernel
theorem dX9_page_66 : decode cX9_page 66 = .ok (.isub, 1) := by decide +kernel
theorem dX9_page_67 : decode cX9_page 67 = .ok (.i2l, 1) := by decide +kernel
theorem dX9_page_68 : decode cX9_page 68 = .ok (.invokestatic 151, 3) := by decide +kernel
theorem dX9_page_71 : decode cX9_page 71 = .ok (.ifCond .ne 6, 3) := by decide +kernel
theorem dX9_page_74 : decode cX9_page 74 = .ok (.bipush (-3), 2) := by decide +kernel
theorem dX9_page_76 : decode cX9_page 76 = .ok (.ireturn, 1) := by decide +kernel
theorem dX9_page_77 : decode cX9_page 77 = .ok (.iconst 0, 1) := by decide +kernel
theorem dX9_page_78 : decode cX9_page 78 = .ok (.istore 7, 2) := by decide +kernel
theorem dX9_page_80 : decode cX9_page 80 = .ok (.iload 7, 2) := by decide +kernel
theorem dX9_page_82 : decode cX9_page 82 = .ok (.sipush 1120, 3) := by decide +kernel
theorem dX9_page_85 : decode cX9_page 85 = .ok (.if_icmp .ge 18, 3) := by decide +kernel
theorem dX9_page_88 : decode cX9_page 88 = .ok (.aload_n 0, 1) := by decide +kernel
theorem dX9_page_89 : decode cX9_page 89 = .ok (.getfield 72, 3) := by decide +kernel
theorem dX9_page_92 : decode cX9_page 92 = .ok (.iload 7, 2) := by decide +kernel
theorem dX9_page_94 : decode cX9_page 94 = .ok (.bipush 32, 2) := by decide +kernel
theorem dX9_page_96 : decode cX9_page 96 = .ok (.bastore, 1) := by decide +kernel
theorem dX9_page_97 : decode cX9_page 97 = .ok (.iinc 7 1, 3) := by decide +kernel
theorem dX9_page_100 : decode cX9_page 100 = .ok (.goto (-20), 3) := by decide +kernel
theorem dX9_page_103 : decode cX9_page 103 = .ok (.aload_n 0, 1) := by decide +kernel
theorem dX9_page_104 : decode cX9_page 104 = .ok (.iconst 1, 1) := by decide +kernel
theorem dX9_page_105 : decode cX9_page 105 = .ok (.putfield 315, 3) := by decide +kernel
theorem dX9_page_108 : decode cX9_page 108 = .ok (.aload_n 0, 1) := by decide +kernel
theorem dX9_page_109 : decode cX9_page 109 = .ok (.iconst 0, 1) := by decide +kernel
theorem dX9_page_110 : decode cX9_page 110 = .ok (.iconst 0, 1) := by decide +kernel
theorem dX9_page_111 : decode cX9_page 111 = .ok (.iload_n 3, 1) := by decide +kernel
theorem dX9_page_112 : decode cX9_page 112 = .ok (.invokevirtual 318, 3) := by decide +kernel
theorem dX9_page_115 : decode cX9_page 115 = .ok (.istore 7, 2) := by decide +kernel
theorem dX9_page_117 : decode cX9_page 117 = .ok (.aload_n 0, 1) := by decide +kernel
theorem dX9_page_118 : decode cX9_page 118 = .ok (.iconst 0, 1) := by decide +kernel
theorem dX9_page_119 : decode cX9_page 119 = .ok (.iload 7, 2) := by decide +kernel
theorem dX9_page_121 : decode cX9_page 121 = .ok (.iconst 1, 1) := by decide +kernel
theorem dX9_page_122 : decode cX9_page 122 = .ok (.iadd, 1) := by decide +kernel
theorem dX9_page_123 : decode cX9_page 123 = .ok (.iload 4, 2) := by decide +kernel
theorem dX9_page_125 : decode cX9_page 125 = .ok (.invokevirtual 318, 3) := by decide +kernel
theorem dX9_page_128 : decode cX9_page 128 = .ok (.istore 7, 2) := by decide +kernel
theorem dX9_page_130 : decode cX9_page 130 = .ok (.iconst 0, 1) := by decide +kernel
theorem dX9_page_131 : decode cX9_page 131 = .ok (.istore 8, 2) := by decide +kernel
theorem dX9_page_133 : decode cX9_page 133 = .ok (.iload 8, 2) := by decide +kernel
theorem dX9_page_135 : decode cX9_page 135 = .ok (.bipush 7, 2) := by decide +kernel
theorem dX9_page_137 : decode cX9_page 137 = .ok (.if_icmp .ge 25, 3) := by decide +kernel
theorem dX9_page_140 : decode cX9_page 140 = .ok (.aload_n 0, 1) := by decide +kernel
theorem dX9_page_141 : decode cX9_page 141 = .ok (.iconst 1, 1) := by decide +kernel
theorem dX9_page_142 : decode cX9_page 142 = .ok (.iconst 1, 1) := by decide +kernel
theorem dX9_page_143 : decode cX9_page 143 = .ok (.iconst 3, 1) := by decide +kernel
theorem dX9_page_144 : decode cX9_page 144 = .ok (.iload 8, 2) := by decide +kernel
theorem dX9_page_146 : decode cX9_page 146 = .ok (.imul, 1) := by decide +kernel
theorem dX9_page_147 : decode cX9_page 147 = .ok (.iadd, 1) := by decide +kernel
theorem dX9_page_148 : decode cX9_page 148 = .ok (.iload 8, 2) := by decide +kernel
theorem dX9_page_150 : decode cX9_page 150 = .ok (.invokestatic 321, 3) := by decide +kernel
theorem dX9_page_153 : decode cX9_page 153 = .ok (.invokevirtual 311, 3) := by decide +kernel
theorem dX9_page_156 : decode cX9_page 156 = .ok (.iinc 8 1, 3) := by decide +kernel
theorem dX9_page_159 : decode cX9_page 159 = .ok (.goto (-26), 3) := by decide +kernel
theorem dX9_page_162 : decode cX9_page 162 = .ok (.iconst 1, 1) := by decide +kernel
theorem dX9_page_163 : decode cX9_page 163 = .ok (.istore 8, 2) := by decide +kernel
theorem dX9_page_165 : decode cX9_page 165 = .ok (.iload 8, 2) := by decide +kernel
theorem dX9_page_167 : decode cX9_page 167 = .ok (.iload 6, 2) := by decide +kernel
theorem dX9_page_169 : decode cX9_page 169 = .ok (.if_icmp .gt 126, 3) := by decide +kernel
theorem dX9_page_172 : decode cX9_page 172 = .ok (.iload 5, 2) := by decide +kernel
theorem dX9_page_174 : decode cX9_page 174 = .ok (.iload 8, 2) := by decide +kernel
theorem dX9_page_176 : decode cX9_page 176 = .ok (.iadd, 1) := by decide +kernel
theorem dX9_page_177 : decode cX9_page 177 = .ok (.iconst 1, 1) := by decide +kernel
theorem dX9_page_178 : decode cX9_page 178 = .ok (.isub, 1) := by decide +kernel
theorem dX9_page_179 : decode cX9_page 179 = .ok (.istore 9, 2) := by decide +kernel
theorem dX9_page_181 : decode cX9_page 181 = .ok (.iload 9, 2) := by decide +kernel
theorem dX9_page_183 : decode cX9_page 183 = .ok (.bipush 7, 2) := by decide +kernel
theorem dX9_page_185 : decode cX9_page 185 = .ok (.irem, 1) := by decide +kernel
theorem dX9_page_186 : decode cX9_page 186 = .ok (.istore 10, 2) := by decide +kernel
theorem dX9_page_188 : decode cX9_page 188 = .ok (.iconst 2, 1) := by decide +kernel
theorem dX9_page_189 : decode cX9_page 189 = .ok (.iload 9, 2) := by decide +kernel
theorem dX9_page_191 : decode cX9_page 191 = .ok (.bipush 7, 2) := by decide +kernel
theorem dX9_page_193 : decode cX9_page 193 = .ok (.idiv, 1) := by decide +kernel
theorem dX9_page_194 : decode cX9_page 194 = .ok (.iadd, 1) := by decide +kernel
theorem dX9_page_195 : decode cX9_page 195 = .ok (.iload 5, 2) := by decide +kernel
theorem dX9_page_197 : decode cX9_page 197 = .ok (.bipush 7, 2) := by decide +kernel
theorem dX9_page_199 : decode cX9_page 199 = .ok (.idiv, 1) := by decide +kernel
theorem dX9_page_200 : decode cX9_page 200 = .ok (.isub, 1) := by decide +kernel
theorem dX9_page_201 : decode cX9_page 201 = .ok (.istore 11, 2) := by decide +kernel
theorem dX9_page_203 : decode cX9_page 203 = .ok (.aload_n 0, 1) := by decide +kernel
theorem dX9_page_204 : decode cX9_page 204 = .ok (.iload 11, 2) := by decide +kernel
theorem dX9_page_206 : decode cX9_page 206 = .ok (.iconst 3, 1) := by decide +kernel
theorem dX9_page_207 : decode cX9_page 207 = .ok (.iload 10, 2) := by decide +kernel
theorem dX9_page_209 : decode cX9_page 209 = .ok (.imul, 1) := by decide +kernel
theorem dX9_page_210 : decode cX9_page 210 = .ok (.iload 8, 2) := by decide +kernel
theorem dX9_page_212 : decode cX9_page 212 = .ok (.invokevirtual 324, 3) := by decide +kernel
theorem dX9_page_215 : decode cX9_page 215 = .ok (.aload_n 0, 1) := by decide +kernel
theorem dX9_page_216 : decode cX9_page 216 = .ok (.iload 9, 2) := by decide +kernel
theorem dX9_page_218 : decode cX9_page 218 = .ok (.iconst 0, 1) := by decide +kernel
theorem dX9_page_219 : decode cX9_page 219 = .ok (.invokevirtual 219, 3) := by decide +kernel
theorem dX9_page_222 : decode cX9_page 222 = .ok (.bipush (-2), 2) := by decide +kernel
theorem dX9_page_224 : decode cX9_page 224 = .ok (.if_icmp .eq 20, 3) := by decide +kernel
theorem dX9_page_227 : decode cX9_page 227 = .ok (.aload_n 0, 1) := by decide +kernel
theorem dX9_page_228 : decode cX9_page 228 = .ok (.iload 11, 2) := by decide +kernel
theorem dX9_page_230 : decode cX9_page 230 = .ok (.iconst 3, 1) := by decide +kernel
theorem dX9_page_231 : decode cX9_page 231 = .ok (.iload 10, 2) := by decide +kernel
theorem dX9_page_233 : decode cX9_page 233 = .ok (.imul, 1) := by decide +kernel
theorem dX9_page_234 : decode cX9_page 234 = .ok (.iconst 2, 1) := by decide +kernel
theorem dX9_page_235 : decode cX9_page 235 = .ok (.iadd, 1) := by decide +kernel
theorem dX9_page_236 : decode cX9_page 236 = .ok (.bipush 42, 2) := by decide +kernel
theorem dX9_page_238 : decode cX9_page 238 = .ok (.invokevirtual 311, 3) := by decide +kernel
theorem dX9_page_241 : decode cX9_page 241 = .ok (.goto 27, 3) := by decide +kernel
theorem dX9_page_244 : decode cX9_page 244 = .ok (.aload_n 0, 1) := by decide +kernel
theorem dX9_page_245 : decode cX9_page 245 = .ok (.iload_n 1, 1) := by decide +kernel
theorem dX9_page_246 : decode cX9_page 246 = .ok (.iload 9, 2) := by decide +kernel
theorem dX9_page_248 : decode cX9_page 248 = .ok (.invokevirtual 305, 3) := by decide +kernel
theorem dX9_page_251 : decode cX9_page 251 = .ok (.ifCond .eq 17, 3) := by decide +kernel
theorem dX9_page_254 : decode cX9_page 254 = .ok (.aload_n 0, 1) := by decide +kernel
theorem dX9_page_255 : decode cX9_page 255 = .ok (.iload 11, 2) := by decide +kernel
theorem dX9_page_257 : decode cX9_page 257 = .ok (.iconst 3, 1) := by decide +kernel
theorem dX9_page_258 : decode cX9_page 258 = .ok (.iload 10, 2) := by decide +kernel
theorem dX9_page_260 : decode cX9_page 260 = .ok (.imul, 1) := by decide +kernel
theorem dX9_page_261 : decode cX9_page 261 = .ok (.iconst 2, 1) := by decide +kernel
theorem dX9_page_262 : decode cX9_page 262 = .ok (.iadd, 1) := by decide +kernel
theorem dX9_page_263 : decode cX9_page 263 = .ok (.bipush 46, 2) := by decide +kernel
theorem dX9_page_265 : decode cX9_page 265 = .ok (.invokevirtual 311, 3) := by decide +kernel
theorem dX9_page_268 : decode cX9_page 268 = .ok (.iload 9, 2) := by decide +kernel
theorem dX9_page_270 : decode cX9_page 270 = .ok (.invokestatic 327, 3) := by decide +kernel
theorem dX9_page_273 : decode cX9_page 273 = .ok (.ifCond .eq 16, 3) := by decide +kernel
theorem dX9_page_276 : decode cX9_page 276 = .ok (.aload_n 0, 1) := by decide +kernel
theorem dX9_page_277 : decode cX9_page 277 = .ok (.iload 11, 2) := by decide +kernel
theorem dX9_page_279 : decode cX9_page 279 = .ok (.bipush 23, 2) := by decide +kernel
theorem dX9_page_281 : decode cX9_page 281 = .ok (.iload 10, 2) := by decide +kernel
theorem dX9_page_283 : decode cX9_page 283 = .ok (.iadd, 1) := by decide +kernel
theorem dX9_page_284 : decode cX9_page 284 = .ok (.bipush 111, 2) := by decide +kernel
theorem dX9_page_286 : decode cX9_page 286 = .ok (.invokevirtual 311, 3) := by decide +kernel
theorem dX9_page_289 : decode cX9_page 289 = .ok (.iinc 8 1, 3) := by decide +kernel
theorem dX9_page_292 : decode cX9_page 292 = .ok (.goto (-127), 3) := by decide +kernel
theorem dX9_page_295 : decode cX9_page 295 = .ok (.iconst 3, 1) := by decide +kernel
theorem dX9_page_296 : decode cX9_page 296 = .ok (.iload 5, 2) := by decide +kernel
theorem dX9_page_298 : decode cX9_page 298 = .ok (.iload 6, 2) := by decide +kernel
theorem dX9_page_300 : decode cX9_page 300 = .ok (.iadd, 1) := by decide +kernel
theorem dX9_page_301 : decode cX9_page 301 = .ok (.iconst 1, 1) := by decide +kernel
theorem dX9_page_302 : decode cX9_page 302 = .ok (.isub, 1) := by decide +kernel
theorem dX9_page_303 : decode cX9_page 303 = .ok (.bipush 7, 2) := by decide +kernel
theorem dX9_page_305 : decode cX9_page 305 = .ok (.idiv, 1) := by decide +kernel
theorem dX9_page_306 : decode cX9_page 306 = .ok (.iadd, 1) := by decide +kernel
theorem dX9_page_307 : decode cX9_page 307 = .ok (.iload 5, 2) := by decide +kernel
theorem dX9_page_309 : decode cX9_page 309 = .ok (.bipush 7, 2) := by decide +kernel
theorem dX9_page_311 : decode cX9_page 311 = .ok (.idiv, 1) := by decide +kernel
theorem dX9_page_312 : decode cX9_page 312 = .ok (.isub, 1) := by decide +kernel
theorem dX9_page_313 : decode cX9_page 313 = .ok (.istore 8, 2) := by decide +kernel
theorem dX9_page_315 : decode cX9_page 315 = .ok (.iconst 1, 1) := by decide +kernel
theorem dX9_page_316 : decode cX9_page 316 = .ok (.istore 9, 2) := by decide +kernel
theorem dX9_page_318 : decode cX9_page 318 = .ok (.iload 9, 2) := by decide +kernel
theorem dX9_page_320 : decode cX9_page 320 = .ok (.iload 6, 2) := by decide +kernel
theorem dX9_page_322 : decode cX9_page 322 = .ok (.if_icmp .gt 94, 3) := by decide +kernel
theorem dX9_page_325 : decode cX9_page 325 = .ok (.iconst 0, 1) := by decide +kernel
theorem dX9_page_326 : decode cX9_page 326 = .ok (.istore 10, 2) := by decide +kernel
theorem dX9_page_328 : decode cX9_page 328 = .ok (.aload_n 0, 1) := by decide +kernel
theorem dX9_page_329 : decode cX9_page 329 = .ok (.iload 5, 2) := by decide +kernel
theorem dX9_page_331 : decode cX9_page 331 = .ok (.iload 9, 2) := by decide +kernel
theorem dX9_page_333 : decode cX9_page 333 = .ok (.iadd, 1) := by decide +kernel
theorem dX9_page_334 : decode cX9_page 334 = .ok (.iconst 1, 1) := by decide +kernel
theorem dX9_page_335 : decode cX9_page 335 = .ok (.isub, 1) := by decide +kernel
theorem dX9_page_336 : decode cX9_page 336 = .ok (.iconst 0, 1) := by decide +kernel
theorem dX9_page_337 : decode cX9_page 337 = .ok (.invokevirtual 219, 3) := by decide +kernel
theorem dX9_page_340 : decode cX9_page 340 = .ok (.istore 11, 2) := by decide +kernel
theorem dX9_page_342 : decode cX9_page 342 = .ok (.iload 11, 2) := by decide +kernel
theorem dX9_page_344 : decode cX9_page 344 = .ok (.bipush (-2), 2) := by decide +kernel
theorem dX9_page_346 : decode cX9_page 346 = .ok (.if_icmp .eq 64, 3) := by decide +kernel
theorem dX9_page_349 : decode cX9_page 349 = .ok (.aload_n 0, 1) := by decide +kernel
theorem dX9_page_350 : decode cX9_page 350 = .ok (.iload 8, 2) := by decide +kernel
theorem dX9_page_352 : decode cX9_page 352 = .ok (.iconst 0, 1) := by decide +kernel
theorem dX9_page_353 : decode cX9_page 353 = .ok (.iload 9, 2) := by decide +kernel
theorem dX9_page_355 : decode cX9_page 355 = .ok (.invokevirtual 324, 3) := by decide +kernel
theorem dX9_page_358 : decode cX9_page 358 = .ok (.aload_n 0, 1) := by decide +kernel
theorem dX9_page_359 : decode cX9_page 359 = .ok (.iload 8, 2) := by decide +kernel
theorem dX9_page_361 : decode cX9_page 361 = .ok (.iconst 3, 1) := by decide +kernel
theorem dX9_page_362 : decode cX9_page 362 = .ok (.iload 11, 2) := by decide +kernel
theorem dX9_page_364 : decode cX9_page 364 = .ok (.invokevirtual 318, 3) := by decide +kernel
theorem dX9_page_367 : decode cX9_page 367 = .ok (.istore 7, 2) := by decide +kernel
theorem dX9_page_369 : decode cX9_page 369 = .ok (.aload_n 0, 1) := by decide +kernel
theorem dX9_page_370 : decode cX9_page 370 = .ok (.iload 8, 2) := by decide +kernel
theorem dX9_page_372 : decode cX9_page 372 = .ok (.bipush 6, 2) := by decide +kernel
theorem dX9_page_374 : decode cX9_page 374 = .ok (.aload_n 0, 1) := by decide +kernel
theorem dX9_page_375 : decode cX9_page 375 = .ok (.getfield 41, 3) := by decide +kernel
theorem dX9_page_378 : decode cX9_page 378 = .ok (.iload 11, 2) := by decide +kernel
theorem dX9_page_380 : decode cX9_page 380 = .ok (.iaload, 1) := by decide +kernel
theorem dX9_page_381 : decode cX9_page 381 = .ok (.invokevirtual 318, 3) := by decide +kernel
theorem dX9_page_384 : decode cX9_page 384 = .ok (.istore 7, 2) := by decide +kernel
theorem dX9_page_386 : decode cX9_page 386 = .ok (.iinc 8 1, 3) := by decide +kernel
theorem dX9_page_389 : decode cX9_page 389 = .ok (.iinc 10 1, 3) := by decide +kernel
theorem dX9_page_392 : decode cX9_page 392 = .ok (.aload_n 0, 1) := by decide +kernel
theorem dX9_page_393 : decode cX9_page 393 = .ok (.iload 5, 2) := by decide +kernel
theorem dX9_page_395 : decode cX9_page 395 = .ok (.iload 9, 2) := by decide +kernel
theorem dX9_page_397 : decode cX9_page 397 = .ok (.iadd, 1) := by decide +kernel
theorem dX9_page_398 : decode cX9_page 398 = .ok (.iconst 1, 1) := by decide +kernel
theorem dX9_page_399 : decode cX9_page 399 = .ok (.isub, 1) := by decide +kernel
theorem dX9_page_400 : decode cX9_page 400 = .ok (.iload 10, 2) := by decide +kernel
theorem dX9_page_402 : decode cX9_page 402 = .ok (.invokevirtual 219, 3) := by decide +kernel
theorem dX9_page_405 : decode cX9_page 405 = .ok (.istore 11, 2) := by decide +kernel
theorem dX9_page_407 : decode cX9_page 407 = .ok (.goto (-65), 3) := by decide +kernel
theorem dX9_page_410 : decode cX9_page 410 = .ok (.iinc 9 1, 3) := by decide +kernel
theorem dX9_page_413 : decode cX9_page 413 = .ok (.goto (-95), 3) := by decide +kernel
theorem dX9_page_416 : decode cX9_page 416 = .ok (.iload 8, 2) := by decide +kernel
theorem dX9_page_418 : decode cX9_page 418 = .ok (.bipush 28, 2) := by decide +kernel
theorem dX9_page_420 : decode cX9_page 420 = .ok (.if_icmp .ge 8, 3) := by decide +kernel
theorem dX9_page_423 : decode cX9_page 423 = .ok (.iload 8, 2) := by decide +kernel
theorem dX9_page_425 : decode cX9_page 425 = .ok (.goto 5, 3) := by decide +kernel
theorem dX9_page_428 : decode cX9_page 428 = .ok (.bipush 28, 2) := by decide +kernel
theorem dX9_page_430 : decode cX9_page 430 = .ok (.ireturn, 1) := by decide +kernel
theorem dX9_sign_0 : decode cX9_sign 0 = .ok (.iload_n 1, 1) := by decide +kernel
theorem dX9_sign_1 : decode cX9_sign 1 = .ok (.iconst 0, 1) := by decide +kernel
theorem dX9_sign_2 : decode cX9_sign 2 = .ok (.bipush 27, 2) := by decide +kernel
theorem dX9_sign_4 : decode cX9_sign 4 = .ok (.invokestatic 138, 3) := by decide +kernel
theorem dX9_sign_7 : decode cX9_sign 7 = .ok (.ifCond .eq 13, 3) := by decide +kernel
theorem dX9_sign_10 : decode cX9_sign 10 = .ok (.iload_n 2, 1) := by decide +kernel
theorem dX9_sign_11 : decode cX9_sign 11 = .ok (.iconst 0, 1) := by decide +kernel
theorem dX9_sign_12 : decode cX9_sign 12 = .ok (.bipush 39, 2) := by decide +kernel
theorem dX9_sign_14 : decode cX9_sign 14 = .ok (.invokestatic 138, 3) := by decide +kernel
theorem dX9_sign_17 : decode cX9_sign 17 = .ok (.ifCond .ne 5, 3) := by decide +kernel
theorem dX9_sign_20 : decode cX9_sign 20 = .ok (.iconst (-1), 1) := by decide +kernel
theorem dX9_sign_21 : decode cX9_sign 21 = .ok (.ireturn, 1) := by decide +kernel
theorem dX9_sign_22 : decode cX9_sign 22 = .ok (.aload_n 0, 1) := by decide +kernel
theorem dX9_sign_23 : decode cX9_sign 23 = .ok (.getfield 315, 3) := by decide +kernel
theorem dX9_sign_26 : decode cX9_sign 26 = .ok (.ifCond .eq 17, 3) := by decide +kernel
theorem dX9_sign_29 : decode cX9_sign 29 = .ok (.aload_n 0, 1) := by decide +kernel
theorem dX9_sign_30 : decode cX9_sign 30 = .ok (.getfield 72, 3) := by decide +kernel
theorem dX9_sign_33 : decode cX9_sign 33 = .ok (.bipush 40, 2) := by decide +kernel
theorem dX9_sign_35 : decode cX9_sign 35 = .ok (.iload_n 1, 1) := by decide +kernel
theorem dX9_sign_36 : decode cX9_sign 36 = .ok (.imul, 1) := by decide +kernel
theorem dX9_sign_37 : decode cX9_sign 37 = .ok (.iload_n 2, 1) := by decide +kernel
theorem dX9_sign_38 : decode cX9_sign 38 = .ok (.iadd, 1) := by decide +kernel
theorem dX9_sign_39 : decode cX9_sign 39 = .ok (.baload, 1) := by decide +kernel
theorem dX9_sign_40 : decode cX9_sign 40 = .ok (.goto 5, 3) := by decide +kernel
theorem dX9_sign_43 : decode cX9_sign 43 = .ok (.bipush 32, 2) := by decide +kernel
theorem dX9_sign_45 : decode cX9_sign 45 = .ok (.ireturn, 1) := by decide +kernel
theorem dX9_put_0 : decode cX9_put 0 = .ok (.aload_n 0, 1) := by decide +kernel
theorem dX9_put_1 : decode cX9_put 1 = .ok (.getfield 76, 3) := by decide +kernel
theorem dX9_put_4 : decode cX9_put 4 = .ok (.aload_n 0, 1) := by decide +kernel
theorem dX9_put_5 : decode cX9_put 5 = .ok (.getfield 330, 3) := by decide +kernel
theorem dX9_put_8 : decode cX9_put 8 = .ok (.iload_n 1, 1) := by decide +kernel
theorem dX9_put_9 : decode cX9_put 9 = .ok (.i2b, 1) := by decide +kernel
theorem dX9_put_10 : decode cX9_put 10 = .ok (.bastore, 1) := by decide +kernel
theorem dX9_put_11 : decode cX9_put 11 = .ok (.aload_n 0, 1) := by decide +kernel
theorem dX9_put_12 : decode cX9_put 12 = .ok (.dup, 1) := by decide +kernel
theorem dX9_put_13 : decode cX9_put 13 = .ok (.getfield 330, 3) := by decide +kernel
theorem dX9_put_16 : decode cX9_put 16 = .ok (.iconst 1, 1) := by decide +kernel
theorem dX9_put_17 : decode cX9_put 17 = .ok (.iadd, 1) := by decide +kernel
theorem dX9_put_18 : decode cX9_put 18 = .ok (.putfield 330, 3) := by decide +kernel
theorem dX9_put_21 : decode cX9_put 21 = .ok (.return_, 1) := by decide +kernel
theorem dX9_sum_0 : decode cX9_sum 0 = .ok (.iconst 1, 1) := by decide +kernel
theorem dX9_sum_1 : decode cX9_sum 1 = .ok (.istore_n 3, 1) := by decide +kernel
theorem dX9_sum_2 : decode cX9_sum 2 = .ok (.iload_n 1, 1) := by decide +kernel
theorem dX9_sum_3 : decode cX9_sum 3 = .ok (.istore 4, 2) := by decide +kernel
theorem dX9_sum_5 : decode cX9_sum 5 = .ok (.iload 4, 2) := by decide +kernel
theorem dX9_sum_7 : decode cX9_sum 7 = .ok (.iload_n 2, 1) := by decide +kernel
theorem dX9_sum_8 : decode cX9_sum 8 = .ok (.if_icmp .ge 37, 3) := by decide +kernel
theorem dX9_sum_11 : decode cX9_sum 11 = .ok (.iload_n 3, 1) := by decide +kernel
theorem dX9_sum_12 : decode cX9_sum 12 = .ok (.aload_n 0, 1) := by decide +kernel
theorem dX9_sum_13 : decode cX9_sum 13 = .ok (.getfield 76, 3) := by decide +kernel
theorem dX9_sum_16 : decode cX9_sum 16 = .ok (.iload 4, 2) := by decide +kernel
theorem dX9_sum_18 : decode cX9_sum 18 = .ok (.baload, 1) := by decide +kernel
theorem dX9_sum_19 : decode cX9_sum 19 = .ok (.sipush 255, 3) := by decide +kernel
theorem dX9_sum_22 : decode cX9_sum 22 = .ok (.iand, 1) := by decide +kernel
theorem dX9_sum_23 : decode cX9_sum 23 = .ok (.ixor, 1) := by decide +kernel
theorem dX9_sum_24 : decode cX9_sum 24 = .ok (.istore_n 3, 1) := by decide +kernel
theorem dX9_sum_25 : decode cX9_sum 25 = .ok (.iload_n 3, 1) := by decide +kernel
theorem dX9_sum_26 : decode cX9_sum 26 = .ok (.bipush 9, 2) := by decide +kernel
theorem dX9_sum_28 : decode cX9_sum 28 = .ok (.ishl, 1) := by decide +kernel
theorem dX9_sum_29 : decode cX9_sum 29 = .ok (.iload_n 3, 1) := by decide +kernel
theorem dX9_sum_30 : decode cX9_sum 30 = .ok (.bipush 23, 2) := by decide +kernel
theorem dX9_sum_32 : decode cX9_sum 32 = .ok (.iushr, 1) := by decide +kernel
theorem dX9_sum_33 : decode cX9_sum 33 = .ok (.ior, 1) := by decide +kernel
theorem dX9_sum_34 : decode cX9_sum 34 = .ok (.ldc_w 333, 3) := by decide +kernel
theorem dX9_sum_37 : decode cX9_sum 37 = .ok (.imul, 1) := by decide +kernel
theorem dX9_sum_38 : decode cX9_sum 38 = .ok (.istore_n 3, 1) := by decide +kernel
theorem dX9_sum_39 : decode cX9_sum 39 = .ok (.iinc 4 1, 3) := by decide +kernel
theorem dX9_sum_42 : decode cX9_sum 42 = .ok (.goto (-37), 3) := by decide +kernel
theorem dX9_sum_45 : decode cX9_sum 45 = .ok (.iload_n 3, 1) := by decide +kernel
theorem dX9_sum_46 : decode cX9_sum 46 = .ok (.ireturn, 1) := by decide +kernel
theorem dX9_book_0 : decode cX9_book 0 = .ok (.aload_n 0, 1) := by decide +kernel
theorem dX9_book_1 : decode cX9_book 1 = .ok (.iload_n 1, 1) := by decide +kernel
theorem dX9_book_2 : decode cX9_book 2 = .ok (.invokevirtual 296, 3) := by decide +kernel
theorem dX9_book_5 : decode cX9_book 5 = .ok (.ifCond .ne 5, 3) := by decide +kernel
theorem dX9_book_8 : decode cX9_book 8 = .ok (.iconst (-1), 1) := by decide +kernel
theorem dX9_book_9 : decode cX9_book 9 = .ok (.ireturn, 1) := by decide +kernel
theorem dX9_book_10 : decode cX9_book 10 = .ok (.aload_n 0, 1) := by decide +kernel
theorem dX9_book_11 : decode cX9_book 11 = .ok (.iconst 0, 1) := by decide +kernel
theorem dX9_book_12 : decode cX9_book 12 = .ok (.iload_n 2, 1) := by decide +kernel
theorem dX9_book_13 : decode cX9_book 13 = .ok (.invokevirtual 120, 3) := by decide +kernel
theorem dX9_book_16 : decode cX9_book 16 = .ok (.ifCond .ne 6, 3) := by decide +kernel
theorem dX9_book_19 : decode cX9_book 19 = .ok (.bipush (-2), 2) := by decide +kernel
theorem dX9_book_21 : decode cX9_book 21 = .ok (.ireturn, 1) := by decide +kernel
theorem dX9_book_22 : decode cX9_book 22 = .ok (.iconst 0, 1) := by decide +kernel
theorem dX9_book_23 : decode cX9_book 23 = .ok (.iload_n 2, 1) := by decide +kernel
theorem dX9_book_24 : decode cX9_book 24 = .ok (.invokestatic 109, 3) := by decide +kernel
theorem dX9_book_27 : decode cX9_book 27 = .ok (.istore_n 3, 1) := by decide +kernel
theorem dX9_book_28 : decode cX9_book 28 = .ok (.iconst 0, 1) := by decide +kernel
theorem dX9_book_29 : decode cX9_book 29 = .ok (.iload_n 2, 1) := by decide +kernel
theorem dX9_book_30 : decode cX9_book 30 = .ok (.iconst 1, 1) := by decide +kernel
theorem dX9_book_31 : decode cX9_book 31 = .ok (.iadd, 1) := by decide +kernel
theorem dX9_book_32 : decode cX9_book 32 = .ok (.invokestatic 109, 3) := by decide +kernel
theorem dX9_book_35 : decode cX9_book 35 = .ok (.iload_n 3, 1) := by decide +kernel
theorem dX9_book_36 : decode cX9_book 36 = .ok (.isub, 1) := by decide +kernel
theorem dX9_book_37 : decode cX9_book 37 = .ok (.istore 4, 2) := by decide +kernel
theorem dX9_book_39 : decode cX9_book 39 = .ok (.iload_n 3, 1) := by decide +kernel
theorem dX9_book_40 : decode cX9_book 40 = .ok (.i2l, 1) := by decide +kernel
theorem dX9_book_41 : decode cX9_book 41 = .ok (.invokestatic 151, 3) := by decide +kernel
theorem dX9_book_44 : decode cX9_book 44 = .ok (.ifCond .eq 16, 3) := by decide +kernel
theorem dX9_book_47 : decode cX9_book 47 = .ok (.iload_n 3, 1) := by decide +kernel
theorem dX9_book_48 : decode cX9_book 48 = .ok (.iload 4, 2) := by decide +kernel
theorem dX9_book_50 : decode cX9_book 50 = .ok (.iadd, 1) := by decide +kernel
theorem dX9_book_51 : decode cX9_book 51 = .ok (.iconst 1, 1) := by decide +kernel
theorem dX9_book_52 : decode cX9_book 52 = .ok (.isub, 1) := by decide +kernel
theorem dX9_book_53 : decode cX9_book 53 = .ok (.i2l, 1) := by decide +kernel
theorem dX9_book_54 : decode cX9_book 54 = .ok (.invokestatic 151, 3) := by decide +kernel
theorem dX9_book_57 : decode cX9_book 57 = .ok (.ifCond .ne 6, 3) := by decide +kernel
theorem dX9_book_60 : decode cX9_book 60 = .ok (.bipush (-3), 2) := by decide +kernel
theorem dX9_book_62 : decode cX9_book 62 = .ok (.ireturn, 1) := by decide +kernel
theorem dX9_book_63 : decode cX9_book 63 = .ok (.aload_n 0, 1) := by decide +kernel
theorem dX9_book_64 : decode cX9_book 64 = .ok (.getfield 330, 3) := by decide +kernel
theorem dX9_book_67 : decode cX9_book 67 = .ok (.iload 4, 2) := by decide +kernel
theorem dX9_book_69 : decode cX9_book 69 = .ok (.iadd, 1) := by decide +kernel
theorem dX9_book_70 : decode cX9_book 70 = .ok (.bipush 8, 2) := by decide +kernel
theorem dX9_book_72 : decode cX9_book 72 = .ok (.iadd, 1) := by decide +kernel
theorem dX9_book_73 : decode cX9_book 73 = .ok (.sipush 1200, 3) := by decide +kernel
theorem dX9_book_76 : decode cX9_book 76 = .ok (.if_icmp .le 6, 3) := by decide +kernel
theorem dX9_book_79 : decode cX9_book 79 = .ok (.bipush (-4), 2) := by decide +kernel
theorem dX9_book_81 : decode cX9_book 81 = .ok (.ireturn, 1) := by decide +kernel
theorem dX9_book_82 : decode cX9_book 82 = .ok (.aload_n 0, 1) := by decide +kernel
theorem dX9_book_83 : decode cX9_book 83 = .ok (.getfield 330, 3) := by decide +kernel
theorem dX9_book_86 : decode cX9_book 86 = .ok (.istore 5, 2) := by decide +kernel
theorem dX9_book_88 : decode cX9_book 88 = .ok (.aload_n 0, 1) := by decide +kernel
theorem dX9_book_89 : decode cX9_book 89 = .ok (.iload_n 2, 1) := by decide +kernel
theorem dX9_book_90 : decode cX9_book 90 = .ok (.bipush 8, 2) := by decide +kernel
theorem dX9_book_92 : decode cX9_book 92 = .ok (.ishr, 1) := by decide +kernel
theorem dX9_book_93 : decode cX9_book 93 = .ok (.invokevirtual 334, 3) := by decide +kernel
theorem dX9_book_96 : decode cX9_book 96 = .ok (.aload_n 0, 1) := by decide +kernel
theorem dX9_book_97 : decode cX9_book 97 = .ok (.iload_n 2, 1) := by decide +kernel
theorem dX9_book_98 : decode cX9_book 98 = .ok (.invokevirtual 334, 3) := by decide +kernel
theorem dX9_book_101 : decode cX9_book 101 = .ok (.aload_n 0, 1) := by decide +kernel
theorem dX9_book_102 : decode cX9_book 102 = .ok (.iload 4, 2) := by decide +kernel
theorem dX9_book_104 : decode cX9_book 104 = .ok (.bipush 8, 2) := by decide +kernel
theorem dX9_book_106 : decode cX9_book 106 = .ok (.ishr, 1) := by decide +kernel
theorem dX9_book_107 : decode cX9_book 107 = .ok (.invokevirtual 334, 3) := by decide +kernel
theorem dX9_book_110 : decode cX9_book 110 = .ok (.aload_n 0, 1) := by decide +kernel
theorem dX9_book_111 : decode cX9_book 111 = .ok (.iload 4, 2) := by decide +kernel
theorem dX9_book_113 : decode cX9_book 113 = .ok (.invokevirtual 334, 3) := by decide +kernel
theorem dX9_book_116 : decode cX9_book 116 = .ok (.iload_n 3, 1) := by decide +kernel
theorem dX9_book_117 : decode cX9_book 117 = .ok (.istore 6, 2) := by decide +kernel
theorem dX9_book_119 : decode cX9_book 119 = .ok (.iload 6, 2) := by decide +kernel
theorem dX9_book_121 : decode cX9_book 121 = .ok (.iload_n 3, 1) := by decide +kernel
theorem dX9_book_122 : decode cX9_book 122 = .ok (.iload 4, 2) := by decide +kernel
theorem dX9_book_124 : decode cX9_book 124 = .ok (.iadd, 1) := by decide +kernel
theorem dX9_book_125 : decode cX9_book 125 = .ok (.if_icmp .ge 110, 3) := by decide +kernel
theorem dX9_book_128 : decode cX9_book 128 = .ok (.aload_n 0, 1) := by decide +kernel
theorem dX9_book_129 : decode cX9_book 129 = .ok (.iload_n 1, 1) := by decide +kernel
theorem dX9_book_130 : decode cX9_book 130 = .ok (.iload 6, 2) := by decide +kernel
theorem dX9_book_132 : decode cX9_book 132 = .ok (.invokevirtual 305, 3) := by decide +kernel
theorem dX9_book_135 : decode cX9_book 135 = .ok (.istore 7, 2) := by decide +kernel
theorem dX9_book_137 : decode cX9_book 137 = .ok (.aload_n 0, 1) := by decide +kernel
theorem dX9_book_138 : decode cX9_book 138 = .ok (.iload_n 2, 1) := by decide +kernel
theorem dX9_book_139 : decode cX9_book 139 = .ok (.invokevirtual 216, 3) := by decide +kernel
theorem dX9_book_142 : decode cX9_book 142 = .ok (.istore 8, 2) := by decide +kernel
theorem dX9_book_144 : decode cX9_book 144 = .ok (.iconst 0, 1) := by decide +kernel
theorem dX9_book_145 : decode cX9_book 145 = .ok (.istore 9, 2) := by decide +kernel
theorem dX9_book_147 : decode cX9_book 147 = .ok (.iconst 0, 1) := by decide +kernel
theorem dX9_book_148 : decode cX9_book 148 = .ok (.istore 10, 2) := by decide +kernel
theorem dX9_book_150 : decode cX9_book 150 = .ok (.iload 10, 2) := by decide +kernel
theorem dX9_book_152 : decode cX9_book 152 = .ok (.aload_n 0, 1) := by decide +kernel
theorem dX9_book_153 : decode cX9_book 153 = .ok (.getfield 184, 3) := by decide +kernel
theorem dX9_book_156 : decode cX9_book 156 = .ok (.if_icmp .ge 34, 3) := by decide +kernel
theorem dX9_book_159 : decode cX9_book 159 = .ok (.iload 9, 2) := by decide +kernel
theorem dX9_book_161 : decode cX9_book 161 = .ok (.aload_n 0, 1) := by decide +kernel
theorem dX9_book_162 : decode cX9_book 162 = .ok (.getfield 50, 3) := by decide +kernel
theorem dX9_book_165 : decode cX9_book 165 = .ok (.iload 8, 2) := by decide +kernel
theorem dX9_book_167 : decode cX9_book 167 = .ok (.iload 10, 2) := by decide +kernel
theorem dX9_book_169 : decode cX9_book 169 = .ok (.iadd, 1) := by decide +kernel
theorem dX9_book_170 : decode cX9_book 170 = .ok (.iaload, 1) := by decide +kernel
theorem dX9_book_171 : decode cX9_book 171 = .ok (.iload 6, 2) := by decide +kernel
theorem dX9_book_173 : decode cX9_book 173 = .ok (.if_icmp .ne 7, 3) := by decide +kernel
theorem dX9_book_176 : decode cX9_book 176 = .ok (.iconst 1, 1) := by decide +kernel
theorem dX9_book_177 : decode cX9_book 177 = .ok (.goto 4, 3) := by decide +kernel
theorem dX9_book_180 : decode cX9_book 180 = .ok (.iconst 0, 1) := by decide +kernel
theorem dX9_book_181 : decode cX9_book 181 = .ok (.iadd, 1) := by decide +kernel
theorem dX9_book_182 : decode cX9_book 182 = .ok (.istore 9, 2) := by decide +kernel
theorem dX9_book_184 : decode cX9_book 184 = .ok (.iinc 10 1, 3) := by decide +kernel
theorem dX9_book_187 : decode cX9_book 187 = .ok (.goto (-37), 3) := by decide +kernel
theorem dX9_book_190 : decode cX9_book 190 = .ok (.aload_n 0, 1) := by decide +kernel
theorem dX9_book_191 : decode cX9_book 191 = .ok (.iload 6, 2) := by decide +kernel
theorem dX9_book_193 : decode cX9_book 193 = .ok (.bipush 7, 2) := by decide +kernel
theorem dX9_book_195 : decode cX9_book 195 = .ok (.irem, 1) := by decide +kernel
theorem dX9_book_196 : decode cX9_book 196 = .ok (.iload 7, 2) := by decide +kernel
theorem dX9_book_198 : decode cX9_book 198 = .ok (.ifCond .eq 8, 3) := by decide +kernel
theorem dX9_book_201 : decode cX9_book 201 = .ok (.bipush 8, 2) := by decide +kernel
theorem dX9_book_203 : decode cX9_book 203 = .ok (.goto 4, 3) := by decide +kernel
theorem dX9_book_206 : decode cX9_book 206 = .ok (.iconst 0, 1) := by decide +kernel
theorem dX9_book_207 : decode cX9_book 207 = .ok (.iadd, 1) := by decide +kernel
theorem dX9_book_208 : decode cX9_book 208 = .ok (.bipush 16, 2) := by decide +kernel
theorem dX9_book_210 : decode cX9_book 210 = .ok (.iload 9, 2) := by decide +kernel
theorem dX9_book_212 : decode cX9_book 212 = .ok (.bipush 15, 2) := by decide +kernel
theorem dX9_book_214 : decode cX9_book 214 = .ok (.if_icmp .le 8, 3) := by decide +kernel
theorem dX9_book_217 : decode cX9_book 217 = .ok (.bipush 15, 2) := by decide +kernel
theorem dX9_book_219 : decode cX9_book 219 = .ok (.goto 5, 3) := by decide +kernel
theorem dX9_book_222 : decode cX9_book 222 = .ok (.iload 9, 2) := by decide +kernel
theorem dX9_book_224 : decode cX9_book 224 = .ok (.imul, 1) := by decide +kernel
theorem dX9_book_225 : decode cX9_book 225 = .ok (.iadd, 1) := by decide +kernel
theorem dX9_book_226 : decode cX9_book 226 = .ok (.invokevirtual 334, 3) := by decide +kernel
theorem dX9_book_229 : decode cX9_book 229 = .ok (.iinc 6 1, 3) := by decide +kernel
theorem dX9_book_232 : decode cX9_book 232 = .ok (.goto (-113), 3) := by decide +kernel
theorem dX9_book_235 : decode cX9_book 235 = .ok (.aload_n 0, 1) := by decide +kernel
theorem dX9_book_236 : decode cX9_book 236 = .ok (.iload 5, 2) := by decide +kernel
theorem dX9_book_238 : decode cX9_book 238 = .ok (.aload_n 0, 1) := by decide +kernel
theorem dX9_book_239 : decode cX9_book 239 = .ok (.getfield 330, 3) := by decide +kernel
theorem dX9_book_242 : decode cX9_book 242 = .ok (.invokevirtual 337, 3) := by decide +kernel
theorem dX9_book_245 : decode cX9_book 245 = .ok (.istore 6, 2) := by decide +kernel
theorem dX9_book_247 : decode cX9_book 247 = .ok (.bipush 24, 2) := by decide +kernel
theorem dX9_book_249 : decode cX9_book 249 = .ok (.istore 7, 2) := by decide +kernel
theorem dX9_book_251 : decode cX9_book 251 = .ok (.iload 7, 2) := by decide +kernel
theorem dX9_book_253 : decode cX9_book 253 = .ok (.ifCond .lt 18, 3) := by decide +kernel
theorem dX9_book_256 : decode cX9_book 256 = .ok (.aload_n 0, 1) := by decide +kernel
theorem dX9_book_257 : decode cX9_book 257 = .ok (.iload 6, 2) := by decide +kernel
theorem dX9_book_259 : decode cX9_book 259 = .ok (.iload 7, 2) := by decide +kernel
theorem dX9_book_261 : decode cX9_book 261 = .ok (.ishr, 1) := by decide +kernel
theorem dX9_book_262 : decode cX9_book 262 = .ok (.invokevirtual 334, 3) := by decide +kernel
theorem dX9_book_265 : decode cX9_book 265 = .ok (.iinc 7 (-8), 3) := by decide +kernel
theorem dX9_book_268 : decode cX9_book 268 = .ok (.goto (-17), 3) := by decide +kernel
theorem dX9_book_271 : decode cX9_book 271 = .ok (.aload_n 0, 1) := by decide +kernel
theorem dX9_book_272 : decode cX9_book 272 = .ok (.getfield 330, 3) := by decide +kernel
theorem dX9_book_275 : decode cX9_book 275 = .ok (.ireturn, 1) := by decide +kernel
theorem dX9_load_0 : decode cX9_load 0 = .ok (.iload_n 2, 1) := by decide +kernel
theorem dX9_load_1 : decode cX9_load 1 = .ok (.iconst 1, 1) := by decide +kernel
theorem dX9_load_2 : decode cX9_load 2 = .ok (.iconst 4, 1) := by decide +kernel
theorem dX9_load_3 : decode cX9_load 3 = .ok (.invokestatic 138, 3) := by decide +kernel
theorem dX9_load_6 : decode cX9_load 6 = .ok (.ifCond .ne 5, 3) := by decide +kernel
theorem dX9_load_9 : decode cX9_load 9 = .ok (.iconst (-1), 1) := by decide +kernel
theorem dX9_load_10 : decode cX9_load 10 = .ok (.ireturn, 1) := by decide +kernel
theorem dX9_load_11 : decode cX9_load 11 = .ok (.aload_n 0, 1) := by decide +kernel
theorem dX9_load_12 : decode cX9_load 12 = .ok (.getfield 330, 3) := by decide +kernel
theorem dX9_load_15 : decode cX9_load 15 = .ok (.iload_n 2, 1) := by decide +kernel
theorem dX9_load_16 : decode cX9_load 16 = .ok (.iadd, 1) := by decide +kernel
theorem dX9_load_17 : decode cX9_load 17 = .ok (.sipush 1200, 3) := by decide +kernel
theorem dX9_load_20 : decode cX9_load 20 = .ok (.if_icmp .le 6, 3) := by decide +kernel
theorem dX9_load_23 : decode cX9_load 23 = .ok (.bipush (-4), 2) := by decide +kernel
theorem dX9_load_25 : decode cX9_load 25 = .ok (.ireturn, 1) := by decide +kernel
theorem dX9_load_26 : decode cX9_load 26 = .ok (.iload_n 2, 1) := by decide +kernel
theorem dX9_load_27 : decode cX9_load 27 = .ok (.iconst 1, 1) := by decide +kernel
theorem dX9_load_28 : decode cX9_load 28 = .ok (.isub, 1) := by decide +kernel
theorem dX9_load_29 : decode cX9_load 29 = .ok (.istore_n 3, 1) := by decide +kernel
theorem dX9_load_30 : decode cX9_load 30 = .ok (.iload_n 3, 1) := by decide +kernel
theorem dX9_load_31 : decode cX9_load 31 = .ok (.ifCond .lt 19, 3) := by decide +kernel
theorem dX9_load_34 : decode cX9_load 34 = .ok (.aload_n 0, 1) := by decide +kernel
theorem dX9_load_35 : decode cX9_load 35 = .ok (.iload_n 1, 1) := by decide +kernel
theorem dX9_load_36 : decode cX9_load 36 = .ok (.bipush 8, 2) := by decide +kernel
theorem dX9_load_38 : decode cX9_load 38 = .ok (.iload_n 3, 1) := by decide +kernel
theorem dX9_load_39 : decode cX9_load 39 = .ok (.imul, 1) := by decide +kernel
theorem dX9_load_40 : decode cX9_load 40 = .ok (.ishr, 1) := by decide +kernel
theorem dX9_load_41 : decode cX9_load 41 = .ok (.invokevirtual 334, 3) := by decide +kernel
theorem dX9_load_44 : decode cX9_load 44 = .ok (.iinc 3 (-1), 3) := by decide +kernel
theorem dX9_load_47 : decode cX9_load 47 = .ok (.goto (-17), 3) := by decide +kernel
theorem dX9_load_50 : decode cX9_load 50 = .ok (.aload_n 0, 1) := by decide +kernel
theorem dX9_load_51 : decode cX9_load 51 = .ok (.getfield 330, 3) := by decide +kernel
theorem dX9_load_54 : decode cX9_load 54 = .ok (.ireturn, 1) := by decide +kernel
theorem dX9_byteAt_0 : decode cX9_byteAt 0 = .ok (.iload_n 1, 1) := by decide +kernel
theorem dX9_byteAt_1 : decode cX9_byteAt 1 = .ok (.iconst 0, 1) := by decide +kernel
theorem dX9_byteAt_2 : decode cX9_byteAt 2 = .ok (.aload_n 0, 1) := by decide +kernel
theorem dX9_byteAt_3 : decode cX9_byteAt 3 = .ok (.getfield 330, 3) := by decide +kernel
theorem dX9_byteAt_6 : decode cX9_byteAt 6 = .ok (.iconst 1, 1) := by decide +kernel
theorem dX9_byteAt_7 : decode cX9_byteAt 7 = .ok (.isub, 1) := by decide +kernel
theorem dX9_byteAt_8 : decode cX9_byteAt 8 = .ok (.invokestatic 138, 3) := by decide +kernel
theorem dX9_byteAt_11 : decode cX9_byteAt 11 = .ok (.ifCond .eq 16, 3) := by decide +kernel
theorem dX9_byteAt_14 : decode cX9_byteAt 14 = .ok (.aload_n 0, 1) := by decide +kernel
theorem dX9_byteAt_15 : decode cX9_byteAt 15 = .ok (.getfield 76, 3) := by decide +kernel
theorem dX9_byteAt_18 : decode cX9_byteAt 18 = .ok (.iload_n 1, 1) := by decide +kernel
theorem dX9_byteAt_19 : decode cX9_byteAt 19 = .ok (.baload, 1) := by decide +kernel
theorem dX9_byteAt_20 : decode cX9_byteAt 20 = .ok (.sipush 255, 3) := by decide +kernel
theorem dX9_byteAt_23 : decode cX9_byteAt 23 = .ok (.iand, 1) := by decide +kernel
theorem dX9_byteAt_24 : decode cX9_byteAt 24 = .ok (.goto 5, 3) := by decide +kernel
theorem dX9_byteAt_27 : decode cX9_byteAt 27 = .ok (.bipush (-2), 2) := by decide +kernel
theorem dX9_byteAt_29 : decode cX9_byteAt 29 = .ok (.ireturn, 1) := by decide +kernel
theorem dX9_spoil_0 : decode cX9_spoil 0 = .ok (.iload_n 1, 1) := by decide +kernel
theorem dX9_spoil_1 : decode cX9_spoil 1 = .ok (.iconst 0, 1) := by decide +kernel
theorem dX9_spoil_2 : decode cX9_spoil 2 = .ok (.aload_n 0, 1) := by decide +kernel
theorem dX9_spoil_3 : decode cX9_spoil 3 = .ok (.getfield 330, 3) := by decide +kernel
theorem dX9_spoil_6 : decode cX9_spoil 6 = .ok (.iconst 1, 1) := by decide +kernel
theorem dX9_spoil_7 : decode cX9_spoil 7 = .ok (.isub, 1) := by decide +kernel
theorem dX9_spoil_8 : decode cX9_spoil 8 = .ok (.invokestatic 138, 3) := by decide +kernel
theorem dX9_spoil_11 : decode cX9_spoil 11 = .ok (.ifCond .ne 6, 3) := by decide +kernel
theorem dX9_spoil_14 : decode cX9_spoil 14 = .ok (.bipush (-2), 2) := by decide +kernel
theorem dX9_spoil_16 : decode cX9_spoil 16 = .ok (.ireturn, 1) := by decide +kernel
theorem dX9_spoil_17 : decode cX9_spoil 17 = .ok (.aload_n 0, 1) := by decide +kernel
theorem dX9_spoil_18 : decode cX9_spoil 18 = .ok (.getfield 76, 3) := by decide +kernel
theorem dX9_spoil_21 : decode cX9_spoil 21 = .ok (.iload_n 1, 1) := by decide +kernel
theorem dX9_spoil_22 : decode cX9_spoil 22 = .ok (.aload_n 0, 1) := by decide +kernel
theorem dX9_spoil_23 : decode cX9_spoil 23 = .ok (.getfield 76, 3) := by decide +kernel
theorem dX9_spoil_26 : decode cX9_spoil 26 = .ok (.iload_n 1, 1) := by decide +kernel
theorem dX9_spoil_27 : decode cX9_spoil 27 = .ok (.baload, 1) := by decide +kernel
theorem dX9_spoil_28 : decode cX9_spoil 28 = .ok (.iload_n 2, 1) := by decide +kernel
theorem dX9_spoil_29 : decode cX9_spoil 29 = .ok (.ixor, 1) := by decide +kernel
theorem dX9_spoil_30 : decode cX9_spoil 30 = .ok (.i2b, 1) := by decide +kernel
theorem dX9_spoil_31 : decode cX9_spoil 31 = .ok (.bastore, 1) := by decide +kernel
theorem dX9_spoil_32 : decode cX9_spoil 32 = .ok (.aload_n 0, 1) := by decide +kernel
theorem dX9_spoil_33 : decode cX9_spoil 33 = .ok (.getfield 76, 3) := by decide +kernel
theorem dX9_spoil_36 : decode cX9_spoil 36 = .ok (.iload_n 1, 1) := by decide +kernel
theorem dX9_spoil_37 : decode cX9_spoil 37 = .ok (.baload, 1) := by decide +kernel
theorem dX9_spoil_38 : decode cX9_spoil 38 = .ok (.sipush 255, 3) := by decide +kernel
theorem dX9_spoil_41 : decode cX9_spoil 41 = .ok (.iand, 1) := by decide +kernel
theorem dX9_spoil_42 : decode cX9_spoil 42 = .ok (.ireturn, 1) := by decide +kernel
theorem dX9_wipe_0 : decode cX9_wipe 0 = .ok (.aload_n 0, 1) := by decide +kernel
theorem dX9_wipe_1 : decode cX9_wipe 1 = .ok (.getfield 330, 3) := by decide +kernel
theorem dX9_wipe_4 : decode cX9_wipe 4 = .ok (.istore_n 1, 1) := by decide +kernel
theorem dX9_wipe_5 : decode cX9_wipe 5 = .ok (.aload_n 0, 1) := by decide +kernel
theorem dX9_wipe_6 : decode cX9_wipe 6 = .ok (.iconst 0, 1) := by decide +kernel
theorem dX9_wipe_7 : decode cX9_wipe 7 = .ok (.putfield 330, 3) := by decide +kernel
theorem dX9_wipe_10 : decode cX9_wipe 10 = .ok (.iload_n 1, 1) := by decide +kernel
theorem dX9_wipe_11 : decode cX9_wipe 11 = .ok (.ireturn, 1) := by decide +kernel
theorem dX9_verify_0 : decode cX9_verify 0 = .ok (.iconst 0, 1) := by decide +kernel
theorem dX9_verify_1 : decode cX9_verify 1 = .ok (.istore_n 1, 1) := by decide +kernel
theorem dX9_verify_2 : decode cX9_verify 2 = .ok (.iconst 0, 1) := by decide +kernel
theorem dX9_verify_3 : decode cX9_verify 3 = .ok (.istore_n 2, 1) := by decide +kernel
theorem dX9_verify_4 : decode cX9_verify 4 = .ok (.iload_n 1, 1) := by decide +kernel
theorem dX9_verify_5 : decode cX9_verify 5 = .ok (.aload_n 0, 1) := by decide +kernel
theorem dX9_verify_6 : decode cX9_verify 6 = .ok (.getfield 330, 3) := by decide +kernel
theorem dX9_verify_9 : decode cX9_verify 9 = .ok (.if_icmp .ge 126, 3) := by decide +kernel
theorem dX9_verify_12 : decode cX9_verify 12 = .ok (.iload_n 1, 1) := by decide +kernel
theorem dX9_verify_13 : decode cX9_verify 13 = .ok (.bipush 8, 2) := by decide +kernel
theorem dX9_verify_15 : decode cX9_verify 15 = .ok (.iadd, 1) := by decide +kernel
theorem dX9_verify_16 : decode cX9_verify 16 = .ok (.aload_n 0, 1) := by decide +kernel
theorem dX9_verify_17 : decode cX9_verify 17 = .ok (.getfield 330, 3) := by decide +kernel
theorem dX9_verify_20 : decode cX9_verify 20 = .ok (.if_icmp .le 6, 3) := by decide +kernel
theorem dX9_verify_23 : decode cX9_verify 23 = .ok (.bipush (-2), 2) := by decide +kernel
theorem dX9_verify_25 : decode cX9_verify 25 = .ok (.ireturn, 1) := by decide +kernel
theorem dX9_verify_26 : decode cX9_verify 26 = .ok (.iload_n 1, 1) := by decide +kernel
theorem dX9_verify_27 : decode cX9_verify 27 = .ok (.iconst 4, 1) := by decide +kernel
theorem dX9_verify_28 : decode cX9_verify 28 = .ok (.iadd, 1) := by decide +kernel
theorem dX9_verify_29 : decode cX9_verify 29 = .ok (.aload_n 0, 1) := by decide +kernel
theorem dX9_verify_30 : decode cX9_verify 30 = .ok (.getfield 76, 3) := by decide +kernel
theorem dX9_verify_33 : decode cX9_verify 33 = .ok (.iload_n 1, 1) := by decide +kernel
theorem dX9_verify_34 : decode cX9_verify 34 = .ok (.iconst 2, 1) := by decide +kernel
theorem dX9_verify_35 : decode cX9_verify 35 = .ok (.iadd, 1) := by decide +kernel
theorem dX9_verify_36 : decode cX9_verify 36 = .ok (.baload, 1) := by decide +kernel
theorem dX9_verify_37 : decode cX9_verify 37 = .ok (.sipush 255, 3) := by decide +kernel
theorem dX9_verify_40 : decode cX9_verify 40 = .ok (.iand, 1) := by decide +kernel
theorem dX9_verify_41 : decode cX9_verify 41 = .ok (.bipush 8, 2) := by decide +kernel
theorem dX9_verify_43 : decode cX9_verify 43 = .ok (.ishl, 1) := by decide +kernel
theorem dX9_verify_44 : decode cX9_verify 44 = .ok (.aload_n 0, 1) := by decide +kernel
theorem dX9_verify_45 : decode cX9_verify 45 = .ok (.getfield 76, 3) := by decide +kernel
theorem dX9_verify_48 : decode cX9_verify 48 = .ok (.iload_n 1, 1) := by decide +kernel
theorem dX9_verify_49 : decode cX9_verify 49 = .ok (.iconst 3, 1) := by decide +kernel
theorem dX9_verify_50 : decode cX9_verify 50 = .ok (.iadd, 1) := by decide +kernel
theorem dX9_verify_51 : decode cX9_verify 51 = .ok (.baload, 1) := by decide +kernel
theorem dX9_verify_52 : decode cX9_verify 52 = .ok (.sipush 255, 3) := by decide +kernel
theorem dX9_verify_55 : decode cX9_verify 55 = .ok (.iand, 1) := by decide +kernel
theorem dX9_verify_56 : decode cX9_verify 56 = .ok (.ior, 1) := by decide +kernel
theorem dX9_verify_57 : decode cX9_verify 57 = .ok (.iadd, 1) := by decide +kernel
theorem dX9_verify_58 : decode cX9_verify 58 = .ok (.istore_n 3, 1) := by decide +kernel
theorem dX9_verify_59 : decode cX9_verify 59 = .ok (.iload_n 3, 1) := by decide +kernel
theorem dX9_verify_60 : decode cX9_verify 60 = .ok (.iconst 4, 1) := by decide +kernel
theorem dX9_verify_61 : decode cX9_verify 61 = .ok (.iadd, 1) := by decide +kernel
theorem dX9_verify_62 : decode cX9_verify 62 = .ok (.aload_n 0, 1) := by decide +kernel
theorem dX9_verify_63 : decode cX9_verify 63 = .ok (.getfield 330, 3) := by decide +kernel
theorem dX9_verify_66 : decode cX9_verify 66 = .ok (.if_icmp .le 6, 3) := by decide +kernel
theorem dX9_verify_69 : decode cX9_verify 69 = .ok (.bipush (-2), 2) := by decide +kernel
theorem dX9_verify_71 : decode cX9_verify 71 = .ok (.ireturn, 1) := by decide +kernel
theorem dX9_verify_72 : decode cX9_verify 72 = .ok (.iconst 0, 1) := by decide +kernel
theorem dX9_verify_73 : decode cX9_verify 73 = .ok (.istore 4, 2) := by decide +kernel
theorem dX9_verify_75 : decode cX9_verify 75 = .ok (.iconst 0, 1) := by decide +kernel
theorem dX9_verify_76 : decode cX9_verify 76 = .ok (.istore 5, 2) := by decide +kernel
theorem dX9_verify_78 : decode cX9_verify 78 = .ok (.iload 5, 2) := by decide +kernel
theorem dX9_verify_80 : decode cX9_verify 80 = .ok (.iconst 4, 1) := by decide +kernel
theorem dX9_verify_81 : decode cX9_verify 81 = .ok (.if_icmp .ge 30, 3) := by decide +kernel
theorem dX9_verify_84 : decode cX9_verify 84 = .ok (.iload 4, 2) := by decide +kernel
theorem dX9_verify_86 : decode cX9_verify 86 = .ok (.bipush 8, 2) := by decide +kernel
theorem dX9_verify_88 : decode cX9_verify 88 = .ok (.ishl, 1) := by decide +kernel
theorem dX9_verify_89 : decode cX9_verify 89 = .ok (.aload_n 0, 1) := by decide +kernel
theorem dX9_verify_90 : decode cX9_verify 90 = .ok (.getfield 76, 3) := by decide +kernel
theorem dX9_verify_93 : decode cX9_verify 93 = .ok (.iload_n 3, 1) := by decide +kernel
theorem dX9_verify_94 : decode cX9_verify 94 = .ok (.iload 5, 2) := by decide +kernel
theorem dX9_verify_96 : decode cX9_verify 96 = .ok (.iadd, 1) := by decide +kernel
theorem dX9_verify_97 : decode cX9_verify 97 = .ok (.baload, 1) := by decide +kernel
theorem dX9_verify_98 : decode cX9_verify 98 = .ok (.sipush 255, 3) := by decide +kernel
theorem dX9_verify_101 : decode cX9_verify 101 = .ok (.iand, 1) := by decide +kernel
theorem dX9_verify_102 : decode cX9_verify 102 = .ok (.ior, 1) := by decide +kernel
theorem dX9_verify_103 : decode cX9_verify 103 = .ok (.istore 4, 2) := by decide +kernel
theorem dX9_verify_105 : decode cX9_verify 105 = .ok (.iinc 5 1, 3) := by decide +kernel
theorem dX9_verify_108 : decode cX9_verify 108 = .ok (.goto (-30), 3) := by decide +kernel
theorem dX9_verify_111 : decode cX9_verify 111 = .ok (.iload 4, 2) := by decide +kernel
theorem dX9_verify_113 : decode cX9_verify 113 = .ok (.aload_n 0, 1) := by decide +kernel
theorem dX9_verify_114 : decode cX9_verify 114 = .ok (.iload_n 1, 1) := by decide +kernel
theorem dX9_verify_115 : decode cX9_verify 115 = .ok (.iload_n 3, 1) := by decide +kernel
theorem dX9_verify_116 : decode cX9_verify 116 = .ok (.invokevirtual 337, 3) := by decide +kernel
theorem dX9_verify_119 : decode cX9_verify 119 = .ok (.if_icmp .eq 6, 3) := by decide +kernel
theorem dX9_verify_122 : decode cX9_verify 122 = .ok (.bipush (-2), 2) := by decide +kernel
theorem dX9_verify_124 : decode cX9_verify 124 = .ok (.ireturn, 1) := by decide +kernel
theorem dX9_verify_125 : decode cX9_verify 125 = .ok (.iload_n 3, 1) := by decide +kernel
theorem dX9_verify_126 : decode cX9_verify 126 = .ok (.iconst 4, 1) := by decide +kernel
theorem dX9_verify_127 : decode cX9_verify 127 = .ok (.iadd, 1) := by decide +kernel
theorem dX9_verify_128 : decode cX9_verify 128 = .ok (.istore_n 1, 1) := by decide +kernel
theorem dX9_verify_129 : decode cX9_verify 129 = .ok (.iinc 2 1, 3) := by decide +kernel
theorem dX9_verify_132 : decode cX9_verify 132 = .ok (.goto (-128), 3) := by decide +kernel
theorem dX9_verify_135 : decode cX9_verify 135 = .ok (.iload_n 2, 1) := by decide +kernel
theorem dX9_verify_136 : decode cX9_verify 136 = .ok (.ifCond .le 7, 3) := by decide +kernel
theorem dX9_verify_139 : decode cX9_verify 139 = .ok (.iload_n 2, 1) := by decide +kernel
theorem dX9_verify_140 : decode cX9_verify 140 = .ok (.goto 5, 3) := by decide +kernel
theorem dX9_verify_143 : decode cX9_verify 143 = .ok (.bipush (-2), 2) := by decide +kernel
theorem dX9_verify_145 : decode cX9_verify 145 = .ok (.ireturn, 1) := by decide +kernel
theorem dX9_undo_0 : decode cX9_undo 0 = .ok (.aload_n 0, 1) := by decide +kernel
theorem dX9_undo_1 : decode cX9_undo 1 = .ok (.getfield 170, 3) := by decide +kernel
theorem dX9_undo_4 : decode cX9_undo 4 = .ok (.ifCond .ne 6, 3) := by decide +kernel
theorem dX9_undo_7 : decode cX9_undo 7 = .ok (.bipush (-2), 2) := by decide +kernel
theorem dX9_undo_9 : decode cX9_undo 9 = .ok (.ireturn, 1) := by decide +kernel
theorem dX9_undo_10 : decode cX9_undo 10 = .ok (.aload_n 0, 1) := by decide +kernel
theorem dX9_undo_11 : decode cX9_undo 11 = .ok (.dup, 1) := by decide +kernel
theorem dX9_undo_12 : decode cX9_undo 12 = .ok (.getfield 170, 3) := by decide +kernel
theorem dX9_undo_15 : decode cX9_undo 15 = .ok (.iconst 1, 1) := by decide +kernel
theorem dX9_undo_16 : decode cX9_undo 16 = .ok (.isub, 1) := by decide +kernel
theorem dX9_undo_17 : decode cX9_undo 17 = .ok (.putfield 170, 3) := by decide +kernel
theorem dX9_undo_20 : decode cX9_undo 20 = .ok (.aload_n 0, 1) := by decide +kernel
theorem dX9_undo_21 : decode cX9_undo 21 = .ok (.getfield 16, 3) := by decide +kernel
theorem dX9_undo_24 : decode cX9_undo 24 = .ok (.aload_n 0, 1) := by decide +kernel
theorem dX9_undo_25 : decode cX9_undo 25 = .ok (.getfield 170, 3) := by decide +kernel
theorem dX9_undo_28 : decode cX9_undo 28 = .ok (.iaload, 1) := by decide +kernel
theorem dX9_undo_29 : decode cX9_undo 29 = .ok (.tableswitch 87 0 3 #[31, 44, 57, 74], 31) := by decide +kernel
theorem dX9_undo_60 : decode cX9_undo 60 = .ok (.aload_n 0, 1) := by decide +kernel
theorem dX9_undo_61 : decode cX9_undo 61 = .ok (.dup, 1) := by decide +kernel
theorem dX9_undo_62 : decode cX9_undo 62 = .ok (.getfield 85, 3) := by decide +kernel
theorem dX9_undo_65 : decode cX9_undo 65 = .ok (.iconst 1, 1) := by decide +kernel
theorem dX9_undo_66 : decode cX9_undo 66 = .ok (.isub, 1) := by decide +kernel
theorem dX9_undo_67 : decode cX9_undo 67 = .ok (.putfield 85, 3) := by decide +kernel
theorem dX9_undo_70 : decode cX9_undo 70 = .ok (.goto 56, 3) := by decide +kernel
theorem dX9_undo_73 : decode cX9_undo 73 = .ok (.aload_n 0, 1) := by decide +kernel
theorem dX9_undo_74 : decode cX9_undo 74 = .ok (.dup, 1) := by decide +kernel
theorem dX9_undo_75 : decode cX9_undo 75 = .ok (.getfield 177, 3) := by decide +kernel
theorem dX9_undo_78 : decode cX9_undo 78 = .ok (.iconst 1, 1) := by decide +kernel
theorem dX9_undo_79 : decode cX9_undo 79 = .ok (.isub, 1) := by decide +kernel
theorem dX9_undo_80 : decode cX9_undo 80 = .ok (.putfield 177, 3) := by decide +kernel
theorem dX9_undo_83 : decode cX9_undo 83 = .ok (.goto 43, 3) := by decide +kernel
theorem dX9_undo_86 : decode cX9_undo 86 = .ok (.aload_n 0, 1) := by decide +kernel
theorem dX9_undo_87 : decode cX9_undo 87 = .ok (.dup, 1) := by decide +kernel
theorem dX9_undo_88 : decode cX9_undo 88 = .ok (.getfield 184, 3) := by decide +kernel
theorem dX9_undo_91 : decode cX9_undo 91 = .ok (.iconst 1, 1) := by decide +kernel
theorem dX9_undo_92 : decode cX9_undo 92 = .ok (.isub, 1) := by decide +kernel
theorem dX9_undo_93 : decode cX9_undo 93 = .ok (.putfield 184, 3) := by decide +kernel
theorem dX9_undo_96 : decode cX9_undo 96 = .ok (.aload_n 0, 1) := by decide +kernel
theorem dX9_undo_97 : decode cX9_undo 97 = .ok (.invokevirtual 190, 3) := by decide +kernel
theorem dX9_undo_100 : decode cX9_undo 100 = .ok (.goto 26, 3) := by decide +kernel
theorem dX9_undo_103 : decode cX9_undo 103 = .ok (.aload_n 0, 1) := by decide +kernel
theorem dX9_undo_104 : decode cX9_undo 104 = .ok (.dup, 1) := by decide +kernel
theorem dX9_undo_105 : decode cX9_undo 105 = .ok (.getfield 293, 3) := by decide +kernel
theorem dX9_undo_108 : decode cX9_undo 108 = .ok (.iconst 1, 1) := by decide +kernel
theorem dX9_undo_109 : decode cX9_undo 109 = .ok (.isub, 1) := by decide +kernel
theorem dX9_undo_110 : decode cX9_undo 110 = .ok (.putfield 293, 3) := by decide +kernel
theorem dX9_undo_113 : decode cX9_undo 113 = .ok (.goto 13, 3) := by decide +kernel
theorem dX9_undo_116 : decode cX9_undo 116 = .ok (.aload_n 0, 1) := by decide +kernel
theorem dX9_undo_117 : decode cX9_undo 117 = .ok (.dup, 1) := by decide +kernel
theorem dX9_undo_118 : decode cX9_undo 118 = .ok (.getfield 299, 3) := by decide +kernel
theorem dX9_undo_121 : decode cX9_undo 121 = .ok (.iconst 1, 1) := by decide +kernel
theorem dX9_undo_122 : decode cX9_undo 122 = .ok (.isub, 1) := by decide +kernel
theorem dX9_undo_123 : decode cX9_undo 123 = .ok (.putfield 299, 3) := by decide +kernel
theorem dX9_undo_126 : decode cX9_undo 126 = .ok (.aload_n 0, 1) := by decide +kernel
theorem dX9_undo_127 : decode cX9_undo 127 = .ok (.getfield 170, 3) := by decide +kernel
theorem dX9_undo_130 : decode cX9_undo 130 = .ok (.ireturn, 1) := by decide +kernel
theorem dX9_count_0 : decode cX9_count 0 = .ok (.iload_n 1, 1) := by decide +kernel
theorem dX9_count_1 : decode cX9_count 1 = .ok (.tableswitch 78 0 6 #[43, 48, 53, 58, 63, 68, 73], 43) := by decide +kernel
theorem dX9_count_44 : decode cX9_count 44 = .ok (.aload_n 0, 1) := by decide +kernel
theorem dX9_count_45 : decode cX9_count 45 = .ok (.getfield 85, 3) := by decide +kernel
theorem dX9_count_48 : decode cX9_count 48 = .ok (.ireturn, 1) := by decide +kernel
theorem dX9_count_49 : decode cX9_count 49 = .ok (.aload_n 0, 1) := by decide +kernel
theorem dX9_count_50 : decode cX9_count 50 = .ok (.getfield 177, 3) := by decide +kernel
theorem dX9_count_53 : decode cX9_count 53 = .ok (.ireturn, 1) := by decide +kernel
theorem dX9_count_54 : decode cX9_count 54 = .ok (.aload_n 0, 1) := by decide +kernel
theorem dX9_count_55 : decode cX9_count 55 = .ok (.getfield 184, 3) := by decide +kernel
theorem dX9_count_58 : decode cX9_count 58 = .ok (.ireturn, 1) := by decide +kernel
theorem dX9_count_59 : decode cX9_count 59 = .ok (.aload_n 0, 1) := by decide +kernel
theorem dX9_count_60 : decode cX9_count 60 = .ok (.getfield 293, 3) := by decide +kernel
theorem dX9_count_63 : decode cX9_count 63 = .ok (.ireturn, 1) := by decide +kernel
theorem dX9_count_64 : decode cX9_count 64 = .ok (.aload_n 0, 1) := by decide +kernel
theorem dX9_count_65 : decode cX9_count 65 = .ok (.getfield 299, 3) := by decide +kernel
theorem dX9_count_68 : decode cX9_count 68 = .ok (.ireturn, 1) := by decide +kernel
theorem dX9_count_69 : decode cX9_count 69 = .ok (.aload_n 0, 1) := by decide +kernel
theorem dX9_count_70 : decode cX9_count 70 = .ok (.getfield 170, 3) := by decide +kernel
theorem dX9_count_73 : decode cX9_count 73 = .ok (.ireturn, 1) := by decide +kernel
theorem dX9_count_74 : decode cX9_count 74 = .ok (.aload_n 0, 1) := by decide +kernel
theorem dX9_count_75 : decode cX9_count 75 = .ok (.getfield 330, 3) := by decide +kernel
theorem dX9_count_78 : decode cX9_count 78 = .ok (.ireturn, 1) := by decide +kernel
theorem dX9_count_79 : decode cX9_count 79 = .ok (.iconst (-1), 1) := by decide +kernel
theorem dX9_count_80 : decode cX9_count 80 = .ok (.ireturn, 1) := by decide +kernel
