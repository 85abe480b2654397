theorem dX0_init_0 : decode cX0_init 0 = .ok (.aload_n 0, 1) := by decide +kernel
theorem dX0_init_1 : decode cX0_init 1 = .ok (.invokespecial 3, 3) := by decide +kernel
theorem dX0_init_4 : decode cX0_init 4 = .ok (.aload_n 0, 1) := by decide +kernel
theorem dX0_init_5 : decode cX0_init 5 = .ok (.sipush 5002, 3) := by decide +kernel
theorem dX0_init_8 : decode cX0_init 8 = .ok (.newarray .int, 2) := by decide +kernel
theorem dX0_init_10 : decode cX0_init 10 = .ok (.putfield 9, 3) := by decide +kernel
theorem dX0_init_13 : decode cX0_init 13 = .ok (.aload_n 0, 1) := by decide +kernel
theorem dX0_init_14 : decode cX0_init 14 = .ok (.sipush 501, 3) := by decide +kernel
theorem dX0_init_17 : decode cX0_init 17 = .ok (.newarray .int, 2) := by decide +kernel
theorem dX0_init_19 : decode cX0_init 19 = .ok (.putfield 15, 3) := by decide +kernel
theorem dX0_init_22 : decode cX0_init 22 = .ok (.iconst 1, 1) := by decide +kernel
theorem dX0_init_23 : decode cX0_init 23 = .ok (.istore_n 1, 1) := by decide +kernel
theorem dX0_init_24 : decode cX0_init 24 = .ok (.iload_n 1, 1) := by decide +kernel
theorem dX0_init_25 : decode cX0_init 25 = .ok (.aload_n 0, 1) := by decide +kernel
theorem dX0_init_26 : decode cX0_init 26 = .ok (.getfield 9, 3) := by decide +kernel
theorem dX0_init_29 : decode cX0_init 29 = .ok (.arraylength, 1) := by decide +kernel
theorem dX0_init_30 : decode cX0_init 30 = .ok (.if_icmp .ge 19, 3) := by decide +kernel
theorem dX0_init_33 : decode cX0_init 33 = .ok (.aload_n 0, 1) := by decide +kernel
theorem dX0_init_34 : decode cX0_init 34 = .ok (.getfield 9, 3) := by decide +kernel
theorem dX0_init_37 : decode cX0_init 37 = .ok (.iload_n 1, 1) := by decide +kernel
theorem dX0_init_38 : decode cX0_init 38 = .ok (.iload_n 1, 1) := by decide +kernel
theorem dX0_init_39 : decode cX0_init 39 = .ok (.invokestatic 18, 3) := by decide +kernel
theorem dX0_init_42 : decode cX0_init 42 = .ok (.iastore, 1) := by decide +kernel
theorem dX0_init_43 : decode cX0_init 43 = .ok (.iinc 1 1, 3) := by decide +kernel
theorem dX0_init_46 : decode cX0_init 46 = .ok (.goto (-22), 3) := by decide +kernel
theorem dX0_init_49 : decode cX0_init 49 = .ok (.return_, 1) := by decide +kernel
theorem dX0_elapsedDays_0 : decode cX0_elapsedDays 0 = .ok (.sipush 235, 3) := by decide +kernel
theorem dX0_elapsedDays_3 : decode cX0_elapsedDays 3 = .ok (.iload_n 0, 1) := by decide +kernel
theorem dX0_elapsedDays_4 : decode cX0_elapsedDays 4 = .ok (.imul, 1) := by decide +kernel
theorem dX0_elapsedDays_5 : decode cX0_elapsedDays 5 = .ok (.sipush 234, 3) := by decide +kernel
theorem dX0_elapsedDays_8 : decode cX0_elapsedDays 8 = .ok (.isub, 1) := by decide +kernel
theorem dX0_elapsedDays_9 : decode cX0_elapsedDays 9 = .ok (.bipush 19, 2) := by decide +kernel
theorem dX0_elapsedDays_11 : decode cX0_elapsedDays 11 = .ok (.idiv, 1) := by decide +kernel
theorem dX0_elapsedDays_12 : decode cX0_elapsedDays 12 = .ok (.istore_n 1, 1) := by decide +kernel
theorem dX0_elapsedDays_13 : decode cX0_elapsedDays 13 = .ok (.bipush 29, 2) := by decide +kernel
theorem dX0_elapsedDays_15 : decode cX0_elapsedDays 15 = .ok (.iload_n 1, 1) := by decide +kernel
theorem dX0_elapsedDays_16 : decode cX0_elapsedDays 16 = .ok (.imul, 1) := by decide +kernel
theorem dX0_elapsedDays_17 : decode cX0_elapsedDays 17 = .ok (.sipush 12084, 3) := by decide +kernel
theorem dX0_elapsedDays_20 : decode cX0_elapsedDays 20 = .ok (.sipush 13753, 3) := by decide +kernel
theorem dX0_elapsedDays_23 : decode cX0_elapsedDays 23 = .ok (.iload_n 1, 1) := by decide +kernel
theorem dX0_elapsedDays_24 : decode cX0_elapsedDays 24 = .ok (.imul, 1) := by decide +kernel
theorem dX0_elapsedDays_25 : decode cX0_elapsedDays 25 = .ok (.iadd, 1) := by decide +kernel
theorem dX0_elapsedDays_26 : decode cX0_elapsedDays 26 = .ok (.sipush 25920, 3) := by decide +kernel
theorem dX0_elapsedDays_29 : decode cX0_elapsedDays 29 = .ok (.idiv, 1) := by decide +kernel
theorem dX0_elapsedDays_30 : decode cX0_elapsedDays 30 = .ok (.iadd, 1) := by decide +kernel
theorem dX0_elapsedDays_31 : decode cX0_elapsedDays 31 = .ok (.istore_n 2, 1) := by decide +kernel
theorem dX0_elapsedDays_32 : decode cX0_elapsedDays 32 = .ok (.iconst 3, 1) := by decide +kernel
theorem dX0_elapsedDays_33 : decode cX0_elapsedDays 33 = .ok (.iload_n 2, 1) := by decide +kernel
theorem dX0_elapsedDays_34 : decode cX0_elapsedDays 34 = .ok (.iconst 1, 1) := by decide +kernel
theorem dX0_elapsedDays_35 : decode cX0_elapsedDays 35 = .ok (.iadd, 1) := by decide +kernel
theorem dX0_elapsedDays_36 : decode cX0_elapsedDays 36 = .ok (.imul, 1) := by decide +kernel
theorem dX0_elapsedDays_37 : decode cX0_elapsedDays 37 = .ok (.bipush 7, 2) := by decide +kernel
theorem dX0_elapsedDays_39 : decode cX0_elapsedDays 39 = .ok (.irem, 1) := by decide +kernel
theorem dX0_elapsedDays_40 : decode cX0_elapsedDays 40 = .ok (.iconst 3, 1) := by decide +kernel
theorem dX0_elapsedDays_41 : decode cX0_elapsedDays 41 = .ok (.if_icmp .ge 9, 3) := by decide +kernel
theorem dX0_elapsedDays_44 : decode cX0_elapsedDays 44 = .ok (.iload_n 2, 1) := by decide +kernel
theorem dX0_elapsedDays_45 : decode cX0_elapsedDays 45 = .ok (.iconst 1, 1) := by decide +kernel
theorem dX0_elapsedDays_46 : decode cX0_elapsedDays 46 = .ok (.iadd, 1) := by decide +kernel
theorem dX0_elapsedDays_47 : decode cX0_elapsedDays 47 = .ok (.goto 4, 3) := by decide +kernel
theorem dX0_elapsedDays_50 : decode cX0_elapsedDays 50 = .ok (.iload_n 2, 1) := by decide +kernel
theorem dX0_elapsedDays_51 : decode cX0_elapsedDays 51 = .ok (.ireturn, 1) := by decide +kernel
theorem dX0_countedYearStart_0 : decode cX0_countedYearStart 0 = .ok (.iload_n 0, 1) := by decide +kernel
theorem dX0_countedYearStart_1 : decode cX0_countedYearStart 1 = .ok (.invokestatic 22, 3) := by decide +kernel
theorem dX0_countedYearStart_4 : decode cX0_countedYearStart 4 = .ok (.istore_n 1, 1) := by decide +kernel
theorem dX0_countedYearStart_5 : decode cX0_countedYearStart 5 = .ok (.iload_n 0, 1) := by decide +kernel
theorem dX0_countedYearStart_6 : decode cX0_countedYearStart 6 = .ok (.iconst 1, 1) := by decide +kernel
theorem dX0_countedYearStart_7 : decode cX0_countedYearStart 7 = .ok (.iadd, 1) := by decide +kernel
theorem dX0_countedYearStart_8 : decode cX0_countedYearStart 8 = .ok (.invokestatic 22, 3) := by decide +kernel
theorem dX0_countedYearStart_11 : decode cX0_countedYearStart 11 = .ok (.iload_n 1, 1) := by decide +kernel
theorem dX0_countedYearStart_12 : decode cX0_countedYearStart 12 = .ok (.isub, 1) := by decide +kernel
theorem dX0_countedYearStart_13 : decode cX0_countedYearStart 13 = .ok (.sipush 356, 3) := by decide +kernel
theorem dX0_countedYearStart_16 : decode cX0_countedYearStart 16 = .ok (.if_icmp .ne 7, 3) := by decide +kernel
theorem dX0_countedYearStart_19 : decode cX0_countedYearStart 19 = .ok (.iload_n 1, 1) := by decide +kernel
theorem dX0_countedYearStart_20 : decode cX0_countedYearStart 20 = .ok (.iconst 2, 1) := by decide +kernel
theorem dX0_countedYearStart_21 : decode cX0_countedYearStart 21 = .ok (.iadd, 1) := by decide +kernel
theorem dX0_countedYearStart_22 : decode cX0_countedYearStart 22 = .ok (.ireturn, 1) := by decide +kernel
theorem dX0_countedYearStart_23 : decode cX0_countedYearStart 23 = .ok (.iload_n 0, 1) := by decide +kernel
theorem dX0_countedYearStart_24 : decode cX0_countedYearStart 24 = .ok (.iconst 1, 1) := by decide +kernel
theorem dX0_countedYearStart_25 : decode cX0_countedYearStart 25 = .ok (.if_icmp .le 21, 3) := by decide +kernel
theorem dX0_countedYearStart_28 : decode cX0_countedYearStart 28 = .ok (.iload_n 1, 1) := by decide +kernel
theorem dX0_countedYearStart_29 : decode cX0_countedYearStart 29 = .ok (.iload_n 0, 1) := by decide +kernel
theorem dX0_countedYearStart_30 : decode cX0_countedYearStart 30 = .ok (.iconst 1, 1) := by decide +kernel
theorem dX0_countedYearStart_31 : decode cX0_countedYearStart 31 = .ok (.isub, 1) := by decide +kernel
theorem dX0_countedYearStart_32 : decode cX0_countedYearStart 32 = .ok (.invokestatic 22, 3) := by decide +kernel
theorem dX0_countedYearStart_35 : decode cX0_countedYearStart 35 = .ok (.isub, 1) := by decide +kernel
theorem dX0_countedYearStart_36 : decode cX0_countedYearStart 36 = .ok (.sipush 382, 3) := by decide +kernel
theorem dX0_countedYearStart_39 : decode cX0_countedYearStart 39 = .ok (.if_icmp .ne 7, 3) := by decide +kernel
theorem dX0_countedYearStart_42 : decode cX0_countedYearStart 42 = .ok (.iload_n 1, 1) := by decide +kernel
theorem dX0_countedYearStart_43 : decode cX0_countedYearStart 43 = .ok (.iconst 1, 1) := by decide +kernel
theorem dX0_countedYearStart_44 : decode cX0_countedYearStart 44 = .ok (.iadd, 1) := by decide +kernel
theorem dX0_countedYearStart_45 : decode cX0_countedYearStart 45 = .ok (.ireturn, 1) := by decide +kernel
theorem dX0_countedYearStart_46 : decode cX0_countedYearStart 46 = .ok (.iload_n 1, 1) := by decide +kernel
theorem dX0_countedYearStart_47 : decode cX0_countedYearStart 47 = .ok (.ireturn, 1) := by decide +kernel
theorem dX0_firstYear_0 : decode cX0_firstYear 0 = .ok (.iload_n 0, 1) := by decide +kernel
theorem dX0_firstYear_1 : decode cX0_firstYear 1 = .ok (.ifCond .eq 19, 3) := by decide +kernel
theorem dX0_firstYear_4 : decode cX0_firstYear 4 = .ok (.iload_n 0, 1) := by decide +kernel
theorem dX0_firstYear_5 : decode cX0_firstYear 5 = .ok (.iconst 1, 1) := by decide +kernel
theorem dX0_firstYear_6 : decode cX0_firstYear 6 = .ok (.if_icmp .eq 14, 3) := by decide +kernel
theorem dX0_firstYear_9 : decode cX0_firstYear 9 = .ok (.iload_n 0, 1) := by decide +kernel
theorem dX0_firstYear_10 : decode cX0_firstYear 10 = .ok (.iconst 5, 1) := by decide +kernel
theorem dX0_firstYear_11 : decode cX0_firstYear 11 = .ok (.if_icmp .eq 9, 3) := by decide +kernel
theorem dX0_firstYear_14 : decode cX0_firstYear 14 = .ok (.iload_n 0, 1) := by decide +kernel
theorem dX0_firstYear_15 : decode cX0_firstYear 15 = .ok (.bipush 6, 2) := by decide +kernel
theorem dX0_firstYear_17 : decode cX0_firstYear 17 = .ok (.if_icmp .ne 7, 3) := by decide +kernel
theorem dX0_firstYear_20 : decode cX0_firstYear 20 = .ok (.iconst 0, 1) := by decide +kernel
theorem dX0_firstYear_21 : decode cX0_firstYear 21 = .ok (.goto 4, 3) := by decide +kernel
theorem dX0_firstYear_24 : decode cX0_firstYear 24 = .ok (.iconst 1, 1) := by decide +kernel
theorem dX0_firstYear_25 : decode cX0_firstYear 25 = .ok (.ireturn, 1) := by decide +kernel
theorem dX0_lastYear_0 : decode cX0_lastYear 0 = .ok (.iload_n 1, 1) := by decide +kernel
theorem dX0_lastYear_1 : decode cX0_lastYear 1 = .ok (.bipush 7, 2) := by decide +kernel
theorem dX0_lastYear_3 : decode cX0_lastYear 3 = .ok (.if_icmp .ne 18, 3) := by decide +kernel
theorem dX0_lastYear_6 : decode cX0_lastYear 6 = .ok (.aload_n 0, 1) := by decide +kernel
theorem dX0_lastYear_7 : decode cX0_lastYear 7 = .ok (.getfield 25, 3) := by decide +kernel
theorem dX0_lastYear_10 : decode cX0_lastYear 10 = .ok (.bipush 10, 2) := by decide +kernel
theorem dX0_lastYear_12 : decode cX0_lastYear 12 = .ok (.iadd, 1) := by decide +kernel
theorem dX0_lastYear_13 : decode cX0_lastYear 13 = .ok (.iconst 1, 1) := by decide +kernel
theorem dX0_lastYear_14 : decode cX0_lastYear 14 = .ok (.isub, 1) := by decide +kernel
theorem dX0_lastYear_15 : decode cX0_lastYear 15 = .ok (.bipush 10, 2) := by decide +kernel
theorem dX0_lastYear_17 : decode cX0_lastYear 17 = .ok (.idiv, 1) := by decide +kernel
theorem dX0_lastYear_18 : decode cX0_lastYear 18 = .ok (.goto 6, 3) := by decide +kernel
theorem dX0_lastYear_21 : decode cX0_lastYear 21 = .ok (.sipush 5000, 3) := by decide +kernel
theorem dX0_lastYear_24 : decode cX0_lastYear 24 = .ok (.ireturn, 1) := by decide +kernel
theorem dX0_hasYear_0 : decode cX0_hasYear 0 = .ok (.iload_n 2, 1) := by decide +kernel
theorem dX0_hasYear_1 : decode cX0_hasYear 1 = .ok (.iload_n 1, 1) := by decide +kernel
theorem dX0_hasYear_2 : decode cX0_hasYear 2 = .ok (.invokestatic 29, 3) := by decide +kernel
theorem dX0_hasYear_5 : decode cX0_hasYear 5 = .ok (.if_icmp .lt 16, 3) := by decide +kernel
theorem dX0_hasYear_8 : decode cX0_hasYear 8 = .ok (.iload_n 2, 1) := by decide +kernel
theorem dX0_hasYear_9 : decode cX0_hasYear 9 = .ok (.aload_n 0, 1) := by decide +kernel
theorem dX0_hasYear_10 : decode cX0_hasYear 10 = .ok (.iload_n 1, 1) := by decide +kernel
theorem dX0_hasYear_11 : decode cX0_hasYear 11 = .ok (.invokevirtual 32, 3) := by decide +kernel
theorem dX0_hasYear_14 : decode cX0_hasYear 14 = .ok (.if_icmp .gt 7, 3) := by decide +kernel
theorem dX0_hasYear_17 : decode cX0_hasYear 17 = .ok (.iconst 1, 1) := by decide +kernel
theorem dX0_hasYear_18 : decode cX0_hasYear 18 = .ok (.goto 4, 3) := by decide +kernel
theorem dX0_hasYear_21 : decode cX0_hasYear 21 = .ok (.iconst 0, 1) := by decide +kernel
theorem dX0_hasYear_22 : decode cX0_hasYear 22 = .ok (.ireturn, 1) := by decide +kernel
theorem dX0_hasMonth_0 : decode cX0_hasMonth 0 = .ok (.aload_n 0, 1) := by decide +kernel
theorem dX0_hasMonth_1 : decode cX0_hasMonth 1 = .ok (.iload_n 1, 1) := by decide +kernel
theorem dX0_hasMonth_2 : decode cX0_hasMonth 2 = .ok (.iload_n 2, 1) := by decide +kernel
theorem dX0_hasMonth_3 : decode cX0_hasMonth 3 = .ok (.invokevirtual 35, 3) := by decide +kernel
theorem dX0_hasMonth_6 : decode cX0_hasMonth 6 = .ok (.ifCond .eq 22, 3) := by decide +kernel
theorem dX0_hasMonth_9 : decode cX0_hasMonth 9 = .ok (.iload_n 3, 1) := by decide +kernel
theorem dX0_hasMonth_10 : decode cX0_hasMonth 10 = .ok (.iconst 1, 1) := by decide +kernel
theorem dX0_hasMonth_11 : decode cX0_hasMonth 11 = .ok (.if_icmp .lt 17, 3) := by decide +kernel
theorem dX0_hasMonth_14 : decode cX0_hasMonth 14 = .ok (.iload_n 3, 1) := by decide +kernel
theorem dX0_hasMonth_15 : decode cX0_hasMonth 15 = .ok (.aload_n 0, 1) := by decide +kernel
theorem dX0_hasMonth_16 : decode cX0_hasMonth 16 = .ok (.iload_n 1, 1) := by decide +kernel
theorem dX0_hasMonth_17 : decode cX0_hasMonth 17 = .ok (.iload_n 2, 1) := by decide +kernel
theorem dX0_hasMonth_18 : decode cX0_hasMonth 18 = .ok (.invokevirtual 39, 3) := by decide +kernel
theorem dX0_hasMonth_21 : decode cX0_hasMonth 21 = .ok (.if_icmp .gt 7, 3) := by decide +kernel
theorem dX0_hasMonth_24 : decode cX0_hasMonth 24 = .ok (.iconst 1, 1) := by decide +kernel
theorem dX0_hasMonth_25 : decode cX0_hasMonth 25 = .ok (.goto 4, 3) := by decide +kernel
theorem dX0_hasMonth_28 : decode cX0_hasMonth 28 = .ok (.iconst 0, 1) := by decide +kernel
theorem dX0_hasMonth_29 : decode cX0_hasMonth 29 = .ok (.ireturn, 1) := by decide +kernel
theorem dX0_hasDate_0 : decode cX0_hasDate 0 = .ok (.iload_n 1, 1) := by decide +kernel
theorem dX0_hasDate_1 : decode cX0_hasDate 1 = .ok (.bipush 7, 2) := by decide +kernel
theorem dX0_hasDate_3 : decode cX0_hasDate 3 = .ok (.if_icmp .ne 32, 3) := by decide +kernel
theorem dX0_hasDate_6 : decode cX0_hasDate 6 = .ok (.aload_n 0, 1) := by decide +kernel
theorem dX0_hasDate_7 : decode cX0_hasDate 7 = .ok (.getfield 25, 3) := by decide +kernel
theorem dX0_hasDate_10 : decode cX0_hasDate 10 = .ok (.ifCond .le 29, 3) := by decide +kernel
theorem dX0_hasDate_13 : decode cX0_hasDate 13 = .ok (.iload_n 2, 1) := by decide +kernel
theorem dX0_hasDate_14 : decode cX0_hasDate 14 = .ok (.aload_n 0, 1) := by decide +kernel
theorem dX0_hasDate_15 : decode cX0_hasDate 15 = .ok (.getfield 15, 3) := by decide +kernel
theorem dX0_hasDate_18 : decode cX0_hasDate 18 = .ok (.iconst 0, 1) := by decide +kernel
theorem dX0_hasDate_19 : decode cX0_hasDate 19 = .ok (.iaload, 1) := by decide +kernel
theorem dX0_hasDate_20 : decode cX0_hasDate 20 = .ok (.if_icmp .lt 19, 3) := by decide +kernel
theorem dX0_hasDate_23 : decode cX0_hasDate 23 = .ok (.iload_n 2, 1) := by decide +kernel
theorem dX0_hasDate_24 : decode cX0_hasDate 24 = .ok (.aload_n 0, 1) := by decide +kernel
theorem dX0_hasDate_25 : decode cX0_hasDate 25 = .ok (.aload_n 0, 1) := by decide +kernel
theorem dX0_hasDate_26 : decode cX0_hasDate 26 = .ok (.getfield 25, 3) := by decide +kernel
theorem dX0_hasDate_29 : decode cX0_hasDate 29 = .ok (.invokevirtual 43, 3) := by decide +kernel
theorem dX0_hasDate_32 : decode cX0_hasDate 32 = .ok (.if_icmp .ge 7, 3) := by decide +kernel
theorem dX0_hasDate_35 : decode cX0_hasDate 35 = .ok (.iconst 1, 1) := by decide +kernel
theorem dX0_hasDate_36 : decode cX0_hasDate 36 = .ok (.goto 4, 3) := by decide +kernel
theorem dX0_hasDate_39 : decode cX0_hasDate 39 = .ok (.iconst 0, 1) := by decide +kernel
theorem dX0_hasDate_40 : decode cX0_hasDate 40 = .ok (.ireturn, 1) := by decide +kernel
theorem dX0_yearStart_0 : decode cX0_yearStart 0 = .ok (.sipush 365, 3) := by decide +kernel
theorem dX0_yearStart_3 : decode cX0_yearStart 3 = .ok (.iload_n 2, 1) := by decide +kernel
theorem dX0_yearStart_4 : decode cX0_yearStart 4 = .ok (.imul, 1) := by decide +kernel
theorem dX0_yearStart_5 : decode cX0_yearStart 5 = .ok (.iload_n 2, 1) := by decide +kernel
theorem dX0_yearStart_6 : decode cX0_yearStart 6 = .ok (.iconst 3, 1) := by decide +kernel
theorem dX0_yearStart_7 : decode cX0_yearStart 7 = .ok (.iadd, 1) := by decide +kernel
theorem dX0_yearStart_8 : decode cX0_yearStart 8 = .ok (.iconst 4, 1) := by decide +kernel
theorem dX0_yearStart_9 : decode cX0_yearStart 9 = .ok (.idiv, 1) := by decide +kernel
theorem dX0_yearStart_10 : decode cX0_yearStart 10 = .ok (.iadd, 1) := by decide +kernel
theorem dX0_yearStart_11 : decode cX0_yearStart 11 = .ok (.istore_n 3, 1) := by decide +kernel
theorem dX0_yearStart_12 : decode cX0_yearStart 12 = .ok (.iload_n 3, 1) := by decide +kernel
theorem dX0_yearStart_13 : decode cX0_yearStart 13 = .ok (.iload_n 2, 1) := by decide +kernel
theorem dX0_yearStart_14 : decode cX0_yearStart 14 = .ok (.bipush 99, 2) := by decide +kernel
theorem dX0_yearStart_16 : decode cX0_yearStart 16 = .ok (.iadd, 1) := by decide +kernel
theorem dX0_yearStart_17 : decode cX0_yearStart 17 = .ok (.bipush 100, 2) := by decide +kernel
theorem dX0_yearStart_19 : decode cX0_yearStart 19 = .ok (.idiv, 1) := by decide +kernel
theorem dX0_yearStart_20 : decode cX0_yearStart 20 = .ok (.isub, 1) := by decide +kernel
theorem dX0_yearStart_21 : decode cX0_yearStart 21 = .ok (.iload_n 2, 1) := by decide +kernel
theorem dX0_yearStart_22 : decode cX0_yearStart 22 = .ok (.sipush 399, 3) := by decide +kernel
theorem dX0_yearStart_25 : decode cX0_yearStart 25 = .ok (.iadd, 1) := by decide +kernel
theorem dX0_yearStart_26 : decode cX0_yearStart 26 = .ok (.sipush 400, 3) := by decide +kernel
theorem dX0_yearStart_29 : decode cX0_yearStart 29 = .ok (.idiv, 1) := by decide +kernel
theorem dX0_yearStart_30 : decode cX0_yearStart 30 = .ok (.iadd, 1) := by decide +kernel
theorem dX0_yearStart_31 : decode cX0_yearStart 31 = .ok (.istore 4, 2) := by decide +kernel
theorem dX0_yearStart_33 : decode cX0_yearStart 33 = .ok (.iload_n 1, 1) := by decide +kernel
theorem dX0_yearStart_34 : decode cX0_yearStart 34 = .ok (.tableswitch 133 0 6 #[42, 48, 53, 65, 83, 108, 127], 42) := by decide +kernel
theorem dX0_yearStart_76 : decode cX0_yearStart 76 = .ok (.iload 4, 2) := by decide +kernel
theorem dX0_yearStart_78 : decode cX0_yearStart 78 = .ok (.bipush 60, 2) := by decide +kernel
theorem dX0_yearStart_80 : decode cX0_yearStart 80 = .ok (.isub, 1) := by decide +kernel
theorem dX0_yearStart_81 : decode cX0_yearStart 81 = .ok (.ireturn, 1) := by decide +kernel
theorem dX0_yearStart_82 : decode cX0_yearStart 82 = .ok (.iload_n 3, 1) := by decide +kernel
theorem dX0_yearStart_83 : decode cX0_yearStart 83 = .ok (.bipush 62, 2) := by decide +kernel
theorem dX0_yearStart_85 : decode cX0_yearStart 85 = .ok (.isub, 1) := by decide +kernel
theorem dX0_yearStart_86 : decode cX0_yearStart 86 = .ok (.ireturn, 1) := by decide +kernel
theorem dX0_yearStart_87 : decode cX0_yearStart 87 = .ok (.sipush 365, 3) := by decide +kernel
theorem dX0_yearStart_90 : decode cX0_yearStart 90 = .ok (.iload_n 2, 1) := by decide +kernel
theorem dX0_yearStart_91 : decode cX0_yearStart 91 = .ok (.iconst 1, 1) := by decide +kernel
theorem dX0_yearStart_92 : decode cX0_yearStart 92 = .ok (.isub, 1) := by decide +kernel
theorem dX0_yearStart_93 : decode cX0_yearStart 93 = .ok (.imul, 1) := by decide +kernel
theorem dX0_yearStart_94 : decode cX0_yearStart 94 = .ok (.iload_n 2, 1) := by decide +kernel
theorem dX0_yearStart_95 : decode cX0_yearStart 95 = .ok (.iconst 4, 1) := by decide +kernel
theorem dX0_yearStart_96 : decode cX0_yearStart 96 = .ok (.idiv, 1) := by decide +kernel
theorem dX0_yearStart_97 : decode cX0_yearStart 97 = .ok (.iadd, 1) := by decide +kernel
theorem dX0_yearStart_98 : decode cX0_yearStart 98 = .ok (.ireturn, 1) := by decide +kernel
theorem dX0_yearStart_99 : decode cX0_yearStart 99 = .ok (.sipush 354, 3) := by decide +kernel
theorem dX0_yearStart_102 : decode cX0_yearStart 102 = .ok (.iload_n 2, 1) := by decide +kernel
theorem dX0_yearStart_103 : decode cX0_yearStart 103 = .ok (.iconst 1, 1) := by decide +kernel
theorem dX0_yearStart_104 : decode cX0_yearStart 104 = .ok (.isub, 1) := by decide +kernel
theorem dX0_yearStart_105 : decode cX0_yearStart 105 = .ok (.imul, 1) := by decide +kernel
theorem dX0_yearStart_106 : decode cX0_yearStart 106 = .ok (.bipush 11, 2) := by decide +kernel
theorem dX0_yearStart_108 : decode cX0_yearStart 108 = .ok (.iload_n 2, 1) := by decide +kernel
theorem dX0_yearStart_109 : decode cX0_yearStart 109 = .ok (.imul, 1) := by decide +kernel
theorem dX0_yearStart_110 : decode cX0_yearStart 110 = .ok (.iconst 3, 1) := by decide +kernel
theorem dX0_yearStart_111 : decode cX0_yearStart 111 = .ok (.iadd, 1) := by decide +kernel
theorem dX0_yearStart_112 : decode cX0_yearStart 112 = .ok (.bipush 30, 2) := by decide +kernel
theorem dX0_yearStart_114 : decode cX0_yearStart 114 = .ok (.idiv, 1) := by decide +kernel
theorem dX0_yearStart_115 : decode cX0_yearStart 115 = .ok (.iadd, 1) := by decide +kernel
theorem dX0_yearStart_116 : decode cX0_yearStart 116 = .ok (.ireturn, 1) := by decide +kernel
theorem dX0_yearStart_117 : decode cX0_yearStart 117 = .ok (.iload_n 2, 1) := by decide +kernel
theorem dX0_yearStart_118 : decode cX0_yearStart 118 = .ok (.iconst 1, 1) := by decide +kernel
theorem dX0_yearStart_119 : decode cX0_yearStart 119 = .ok (.if_icmp .lt 12, 3) := by decide +kernel
theorem dX0_yearStart_122 : decode cX0_yearStart 122 = .ok (.iload_n 2, 1) := by decide +kernel
theorem dX0_yearStart_123 : decode cX0_yearStart 123 = .ok (.aload_n 0, 1) := by decide +kernel
theorem dX0_yearStart_124 : decode cX0_yearStart 124 = .ok (.getfield 9, 3) := by decide +kernel
theorem dX0_yearStart_127 : decode cX0_yearStart 127 = .ok (.arraylength, 1) := by decide +kernel
theorem dX0_yearStart_128 : decode cX0_yearStart 128 = .ok (.if_icmp .lt 7, 3) := by decide +kernel
theorem dX0_yearStart_131 : decode cX0_yearStart 131 = .ok (.iconst 0, 1) := by decide +kernel
theorem dX0_yearStart_132 : decode cX0_yearStart 132 = .ok (.goto 9, 3) := by decide +kernel
theorem dX0_yearStart_135 : decode cX0_yearStart 135 = .ok (.aload_n 0, 1) := by decide +kernel
theorem dX0_yearStart_136 : decode cX0_yearStart 136 = .ok (.getfield 9, 3) := by decide +kernel
theorem dX0_yearStart_139 : decode cX0_yearStart 139 = .ok (.iload_n 2, 1) := by decide +kernel
theorem dX0_yearStart_140 : decode cX0_yearStart 140 = .ok (.iaload, 1) := by decide +kernel
theorem dX0_yearStart_141 : decode cX0_yearStart 141 = .ok (.ireturn, 1) := by decide +kernel
theorem dX0_yearStart_142 : decode cX0_yearStart 142 = .ok (.iload 4, 2) := by decide +kernel
theorem dX0_yearStart_144 : decode cX0_yearStart 144 = .ok (.bipush 57, 2) := by decide +kernel
theorem dX0_yearStart_146 : decode cX0_yearStart 146 = .ok (.isub, 1) := by decide +kernel
theorem dX0_yearStart_147 : decode cX0_yearStart 147 = .ok (.istore 5, 2) := by decide +kernel
theorem dX0_yearStart_149 : decode cX0_yearStart 149 = .ok (.iload 5, 2) := by decide +kernel
theorem dX0_yearStart_151 : decode cX0_yearStart 151 = .ok (.iload 5, 2) := by decide +kernel
theorem dX0_yearStart_153 : decode cX0_yearStart 153 = .ok (.bipush 63, 2) := by decide +kernel
theorem dX0_yearStart_155 : decode cX0_yearStart 155 = .ok (.iadd, 1) := by decide +kernel
theorem dX0_yearStart_156 : decode cX0_yearStart 156 = .ok (.bipush 7, 2) := by decide +kernel
theorem dX0_yearStart_158 : decode cX0_yearStart 158 = .ok (.irem, 1) := by decide +kernel
theorem dX0_yearStart_159 : decode cX0_yearStart 159 = .ok (.isub, 1) := by decide +kernel
theorem dX0_yearStart_160 : decode cX0_yearStart 160 = .ok (.ireturn, 1) := by decide +kernel
theorem dX0_yearStart_161 : decode cX0_yearStart 161 = .ok (.sipush 360, 3) := by decide +kernel
theorem dX0_yearStart_164 : decode cX0_yearStart 164 = .ok (.iload_n 2, 1) := by decide +kernel
theorem dX0_yearStart_165 : decode cX0_yearStart 165 = .ok (.imul, 1) := by decide +kernel
theorem dX0_yearStart_166 : decode cX0_yearStart 166 = .ok (.ireturn, 1) := by decide +kernel
theorem dX0_yearStart_167 : decode cX0_yearStart 167 = .ok (.aload_n 0, 1) := by decide +kernel
theorem dX0_yearStart_168 : decode cX0_yearStart 168 = .ok (.bipush 10, 2) := by decide +kernel
theorem dX0_yearStart_170 : decode cX0_yearStart 170 = .ok (.iload_n 2, 1) := by decide +kernel
theorem dX0_yearStart_171 : decode cX0_yearStart 171 = .ok (.iconst 1, 1) := by decide +kernel
theorem dX0_yearStart_172 : decode cX0_yearStart 172 = .ok (.isub, 1) := by decide +kernel
theorem dX0_yearStart_173 : decode cX0_yearStart 173 = .ok (.imul, 1) := by decide +kernel
theorem dX0_yearStart_174 : decode cX0_yearStart 174 = .ok (.invokevirtual 43, 3) := by decide +kernel
theorem dX0_yearStart_177 : decode cX0_yearStart 177 = .ok (.ireturn, 1) := by decide +kernel
theorem dX0_daysInYear_0 : decode cX0_daysInYear 0 = .ok (.aload_n 0, 1) := by decide +kernel
theorem dX0_daysInYear_1 : decode cX0_daysInYear 1 = .ok (.iload_n 1, 1) := by decide +kernel
theorem dX0_daysInYear_2 : decode cX0_daysInYear 2 = .ok (.iload_n 2, 1) := by decide +kernel
theorem dX0_daysInYear_3 : decode cX0_daysInYear 3 = .ok (.iconst 1, 1) := by decide +kernel
theorem dX0_daysInYear_4 : decode cX0_daysInYear 4 = .ok (.iadd, 1) := by decide +kernel
theorem dX0_daysInYear_5 : decode cX0_daysInYear 5 = .ok (.invokevirtual 46, 3) := by decide +kernel
theorem dX0_daysInYear_8 : decode cX0_daysInYear 8 = .ok (.aload_n 0, 1) := by decide +kernel
theorem dX0_daysInYear_9 : decode cX0_daysInYear 9 = .ok (.iload_n 1, 1) := by decide +kernel
theorem dX0_daysInYear_10 : decode cX0_daysInYear 10 = .ok (.iload_n 2, 1) := by decide +kernel
theorem dX0_daysInYear_11 : decode cX0_daysInYear 11 = .ok (.invokevirtual 46, 3) := by decide +kernel
theorem dX0_daysInYear_14 : decode cX0_daysInYear 14 = .ok (.isub, 1) := by decide +kernel
theorem dX0_daysInYear_15 : decode cX0_daysInYear 15 = .ok (.ireturn, 1) := by decide +kernel
theorem dX0_monthsIn_0 : decode cX0_monthsIn 0 = .ok (.iload_n 1, 1) := by decide +kernel
theorem dX0_monthsIn_1 : decode cX0_monthsIn 1 = .ok (.tableswitch 103 2 7 #[39, 103, 42, 64, 83, 86], 39) := by decide +kernel
theorem dX0_monthsIn_40 : decode cX0_monthsIn 40 = .ok (.bipush 13, 2) := by decide +kernel
theorem dX0_monthsIn_42 : decode cX0_monthsIn 42 = .ok (.ireturn, 1) := by decide +kernel
theorem dX0_monthsIn_43 : decode cX0_monthsIn 43 = .ok (.bipush 7, 2) := by decide +kernel
theorem dX0_monthsIn_45 : decode cX0_monthsIn 45 = .ok (.iload_n 2, 1) := by decide +kernel
theorem dX0_monthsIn_46 : decode cX0_monthsIn 46 = .ok (.imul, 1) := by decide +kernel
theorem dX0_monthsIn_47 : decode cX0_monthsIn 47 = .ok (.iconst 1, 1) := by decide +kernel
theorem dX0_monthsIn_48 : decode cX0_monthsIn 48 = .ok (.iadd, 1) := by decide +kernel
theorem dX0_monthsIn_49 : decode cX0_monthsIn 49 = .ok (.bipush 19, 2) := by decide +kernel
theorem dX0_monthsIn_51 : decode cX0_monthsIn 51 = .ok (.irem, 1) := by decide +kernel
theorem dX0_monthsIn_52 : decode cX0_monthsIn 52 = .ok (.bipush 7, 2) := by decide +kernel
theorem dX0_monthsIn_54 : decode cX0_monthsIn 54 = .ok (.if_icmp .ge 8, 3) := by decide +kernel
theorem dX0_monthsIn_57 : decode cX0_monthsIn 57 = .ok (.bipush 13, 2) := by decide +kernel
theorem dX0_monthsIn_59 : decode cX0_monthsIn 59 = .ok (.goto 5, 3) := by decide +kernel
theorem dX0_monthsIn_62 : decode cX0_monthsIn 62 = .ok (.bipush 12, 2) := by decide +kernel
theorem dX0_monthsIn_64 : decode cX0_monthsIn 64 = .ok (.ireturn, 1) := by decide +kernel
theorem dX0_monthsIn_65 : decode cX0_monthsIn 65 = .ok (.aload_n 0, 1) := by decide +kernel
theorem dX0_monthsIn_66 : decode cX0_monthsIn 66 = .ok (.iconst 5, 1) := by decide +kernel
theorem dX0_monthsIn_67 : decode cX0_monthsIn 67 = .ok (.iload_n 2, 1) := by decide +kernel
theorem dX0_monthsIn_68 : decode cX0_monthsIn 68 = .ok (.iconst 1, 1) := by decide +kernel
theorem dX0_monthsIn_69 : decode cX0_monthsIn 69 = .ok (.iadd, 1) := by decide +kernel
theorem dX0_monthsIn_70 : decode cX0_monthsIn 70 = .ok (.invokevirtual 46, 3) := by decide +kernel
theorem dX0_monthsIn_73 : decode cX0_monthsIn 73 = .ok (.aload_n 0, 1) := by decide +kernel
theorem dX0_monthsIn_74 : decode cX0_monthsIn 74 = .ok (.iconst 5, 1) := by decide +kernel
theorem dX0_monthsIn_75 : decode cX0_monthsIn 75 = .ok (.iload_n 2, 1) := by decide +kernel
theorem dX0_monthsIn_76 : decode cX0_monthsIn 76 = .ok (.invokevirtual 46, 3) := by decide +kernel
theorem dX0_monthsIn_79 : decode cX0_monthsIn 79 = .ok (.isub, 1) := by decide +kernel
theorem dX0_monthsIn_80 : decode cX0_monthsIn 80 = .ok (.bipush 7, 2) := by decide +kernel
theorem dX0_monthsIn_82 : decode cX0_monthsIn 82 = .ok (.idiv, 1) := by decide +kernel
theorem dX0_monthsIn_83 : decode cX0_monthsIn 83 = .ok (.ireturn, 1) := by decide +kernel
theorem dX0_monthsIn_84 : decode cX0_monthsIn 84 = .ok (.bipush 18, 2) := by decide +kernel
theorem dX0_monthsIn_86 : decode cX0_monthsIn 86 = .ok (.ireturn, 1) := by decide +kernel
theorem dX0_monthsIn_87 : decode cX0_monthsIn 87 = .ok (.bipush 10, 2) := by decide +kernel
theorem dX0_monthsIn_89 : decode cX0_monthsIn 89 = .ok (.aload_n 0, 1) := by decide +kernel
theorem dX0_monthsIn_90 : decode cX0_monthsIn 90 = .ok (.getfield 25, 3) := by decide +kernel
theorem dX0_monthsIn_93 : decode cX0_monthsIn 93 = .ok (.bipush 10, 2) := by decide +kernel
theorem dX0_monthsIn_95 : decode cX0_monthsIn 95 = .ok (.iload_n 2, 1) := by decide +kernel
theorem dX0_monthsIn_96 : decode cX0_monthsIn 96 = .ok (.iconst 1, 1) := by decide +kernel
theorem dX0_monthsIn_97 : decode cX0_monthsIn 97 = .ok (.isub, 1) := by decide +kernel
theorem dX0_monthsIn_98 : decode cX0_monthsIn 98 = .ok (.imul, 1) := by decide +kernel
theorem dX0_monthsIn_99 : decode cX0_monthsIn 99 = .ok (.isub, 1) := by decide +kernel
theorem dX0_monthsIn_100 : decode cX0_monthsIn 100 = .ok (.invokestatic 49, 3) := by decide +kernel
theorem dX0_monthsIn_103 : decode cX0_monthsIn 103 = .ok (.ireturn, 1) := by decide +kernel
theorem dX0_monthsIn_104 : decode cX0_monthsIn 104 = .ok (.bipush 12, 2) := by decide +kernel
theorem dX0_monthsIn_106 : decode cX0_monthsIn 106 = .ok (.ireturn, 1) := by decide +kernel
theorem dX0_monthsAhead_0 : decode cX0_monthsAhead 0 = .ok (.iload_n 1, 1) := by decide +kernel
theorem dX0_monthsAhead_1 : decode cX0_monthsAhead 1 = .ok (.tableswitch 93 0 6 #[43, 43, 48, 55, 62, 75, 88], 43) := by decide +kernel
theorem dX0_monthsAhead_44 : decode cX0_monthsAhead 44 = .ok (.bipush 12, 2) := by decide +kernel
theorem dX0_monthsAhead_46 : decode cX0_monthsAhead 46 = .ok (.iload_n 2, 1) := by decide +kernel
theorem dX0_monthsAhead_47 : decode cX0_monthsAhead 47 = .ok (.imul, 1) := by decide +kernel
theorem dX0_monthsAhead_48 : decode cX0_monthsAhead 48 = .ok (.ireturn, 1) := by decide +kernel
theorem dX0_monthsAhead_49 : decode cX0_monthsAhead 49 = .ok (.bipush 13, 2) := by decide +kernel
theorem dX0_monthsAhead_51 : decode cX0_monthsAhead 51 = .ok (.iload_n 2, 1) := by decide +kernel
theorem dX0_monthsAhead_52 : decode cX0_monthsAhead 52 = .ok (.iconst 1, 1) := by decide +kernel
theorem dX0_monthsAhead_53 : decode cX0_monthsAhead 53 = .ok (.isub, 1) := by decide +kernel
theorem dX0_monthsAhead_54 : decode cX0_monthsAhead 54 = .ok (.imul, 1) := by decide +kernel
theorem dX0_monthsAhead_55 : decode cX0_monthsAhead 55 = .ok (.ireturn, 1) := by decide +kernel
theorem dX0_monthsAhead_56 : decode cX0_monthsAhead 56 = .ok (.bipush 12, 2) := by decide +kernel
theorem dX0_monthsAhead_58 : decode cX0_monthsAhead 58 = .ok (.iload_n 2, 1) := by decide +kernel
theorem dX0_monthsAhead_59 : decode cX0_monthsAhead 59 = .ok (.iconst 1, 1) := by decide +kernel
theorem dX0_monthsAhead_60 : decode cX0_monthsAhead 60 = .ok (.isub, 1) := by decide +kernel
theorem dX0_monthsAhead_61 : decode cX0_monthsAhead 61 = .ok (.imul, 1) := by decide +kernel
theorem dX0_monthsAhead_62 : decode cX0_monthsAhead 62 = .ok (.ireturn, 1) := by decide +kernel
theorem dX0_monthsAhead_63 : decode cX0_monthsAhead 63 = .ok (.sipush 235, 3) := by decide +kernel
theorem dX0_monthsAhead_66 : decode cX0_monthsAhead 66 = .ok (.iload_n 2, 1) := by decide +kernel
theorem dX0_monthsAhead_67 : decode cX0_monthsAhead 67 = .ok (.imul, 1) := by decide +kernel
theorem dX0_monthsAhead_68 : decode cX0_monthsAhead 68 = .ok (.sipush 234, 3) := by decide +kernel
theorem dX0_monthsAhead_71 : decode cX0_monthsAhead 71 = .ok (.isub, 1) := by decide +kernel
theorem dX0_monthsAhead_72 : decode cX0_monthsAhead 72 = .ok (.bipush 19, 2) := by decide +kernel
theorem dX0_monthsAhead_74 : decode cX0_monthsAhead 74 = .ok (.idiv, 1) := by decide +kernel
theorem dX0_monthsAhead_75 : decode cX0_monthsAhead 75 = .ok (.ireturn, 1) := by decide +kernel
theorem dX0_monthsAhead_76 : decode cX0_monthsAhead 76 = .ok (.aload_n 0, 1) := by decide +kernel
theorem dX0_monthsAhead_77 : decode cX0_monthsAhead 77 = .ok (.iconst 5, 1) := by decide +kernel
theorem dX0_monthsAhead_78 : decode cX0_monthsAhead 78 = .ok (.iload_n 2, 1) := by decide +kernel
theorem dX0_monthsAhead_79 : decode cX0_monthsAhead 79 = .ok (.invokevirtual 46, 3) := by decide +kernel
theorem dX0_monthsAhead_82 : decode cX0_monthsAhead 82 = .ok (.bipush 63, 2) := by decide +kernel
theorem dX0_monthsAhead_84 : decode cX0_monthsAhead 84 = .ok (.iadd, 1) := by decide +kernel
theorem dX0_monthsAhead_85 : decode cX0_monthsAhead 85 = .ok (.bipush 7, 2) := by decide +kernel
theorem dX0_monthsAhead_87 : decode cX0_monthsAhead 87 = .ok (.idiv, 1) := by decide +kernel
theorem dX0_monthsAhead_88 : decode cX0_monthsAhead 88 = .ok (.ireturn, 1) := by decide +kernel
theorem dX0_monthsAhead_89 : decode cX0_monthsAhead 89 = .ok (.bipush 18, 2) := by decide +kernel
theorem dX0_monthsAhead_91 : decode cX0_monthsAhead 91 = .ok (.iload_n 2, 1) := by decide +kernel
theorem dX0_monthsAhead_92 : decode cX0_monthsAhead 92 = .ok (.imul, 1) := by decide +kernel
theorem dX0_monthsAhead_93 : decode cX0_monthsAhead 93 = .ok (.ireturn, 1) := by decide +kernel
theorem dX0_monthsAhead_94 : decode cX0_monthsAhead 94 = .ok (.aload_n 0, 1) := by decide +kernel
theorem dX0_monthsAhead_95 : decode cX0_monthsAhead 95 = .ok (.getfield 25, 3) := by decide +kernel
theorem dX0_monthsAhead_98 : decode cX0_monthsAhead 98 = .ok (.bipush 10, 2) := by decide +kernel
theorem dX0_monthsAhead_100 : decode cX0_monthsAhead 100 = .ok (.iload_n 2, 1) := by decide +kernel
theorem dX0_monthsAhead_101 : decode cX0_monthsAhead 101 = .ok (.iconst 1, 1) := by decide +kernel
theorem dX0_monthsAhead_102 : decode cX0_monthsAhead 102 = .ok (.isub, 1) := by decide +kernel
theorem dX0_monthsAhead_103 : decode cX0_monthsAhead 103 = .ok (.imul, 1) := by decide +kernel
theorem dX0_monthsAhead_104 : decode cX0_monthsAhead 104 = .ok (.invokestatic 49, 3) := by decide +kernel
theorem dX0_monthsAhead_107 : decode cX0_monthsAhead 107 = .ok (.ireturn, 1) := by decide +kernel
theorem dX0_monthsInAll_0 : decode cX0_monthsInAll 0 = .ok (.aload_n 0, 1) := by decide +kernel
theorem dX0_monthsInAll_1 : decode cX0_monthsInAll 1 = .ok (.iload_n 1, 1) := by decide +kernel
theorem dX0_monthsInAll_2 : decode cX0_monthsInAll 2 = .ok (.aload_n 0, 1) := by decide +kernel
theorem dX0_monthsInAll_3 : decode cX0_monthsInAll 3 = .ok (.iload_n 1, 1) := by decide +kernel
theorem dX0_monthsInAll_4 : decode cX0_monthsInAll 4 = .ok (.invokevirtual 32, 3) := by decide +kernel
theorem dX0_monthsInAll_7 : decode cX0_monthsInAll 7 = .ok (.iconst 1, 1) := by decide +kernel
theorem dX0_monthsInAll_8 : decode cX0_monthsInAll 8 = .ok (.iadd, 1) := by decide +kernel
theorem dX0_monthsInAll_9 : decode cX0_monthsInAll 9 = .ok (.invokevirtual 54, 3) := by decide +kernel
theorem dX0_monthsInAll_12 : decode cX0_monthsInAll 12 = .ok (.ireturn, 1) := by decide +kernel
theorem dX0_daysInMonth_0 : decode cX0_daysInMonth 0 = .ok (.aload_n 0, 1) := by decide +kernel
theorem dX0_daysInMonth_1 : decode cX0_daysInMonth 1 = .ok (.iload_n 1, 1) := by decide +kernel
theorem dX0_daysInMonth_2 : decode cX0_daysInMonth 2 = .ok (.iload_n 2, 1) := by decide +kernel
theorem dX0_daysInMonth_3 : decode cX0_daysInMonth 3 = .ok (.iconst 1, 1) := by decide +kernel
theorem dX0_daysInMonth_4 : decode cX0_daysInMonth 4 = .ok (.iadd, 1) := by decide +kernel
theorem dX0_daysInMonth_5 : decode cX0_daysInMonth 5 = .ok (.invokevirtual 46, 3) := by decide +kernel
theorem dX0_daysInMonth_8 : decode cX0_daysInMonth 8 = .ok (.aload_n 0, 1) := by decide +kernel
theorem dX0_daysInMonth_9 : decode cX0_daysInMonth 9 = .ok (.iload_n 1, 1) := by decide +kernel
theorem dX0_daysInMonth_10 : decode cX0_daysInMonth 10 = .ok (.iload_n 2, 1) := by decide +kernel
theorem dX0_daysInMonth_11 : decode cX0_daysInMonth 11 = .ok (.invokevirtual 46, 3) := by decide +kernel
theorem dX0_daysInMonth_14 : decode cX0_daysInMonth 14 = .ok (.isub, 1) := by decide +kernel
theorem dX0_daysInMonth_15 : decode cX0_daysInMonth 15 = .ok (.istore 4, 2) := by decide +kernel
theorem dX0_daysInMonth_17 : decode cX0_daysInMonth 17 = .ok (.aload_n 0, 1) := by decide +kernel
theorem dX0_daysInMonth_18 : decode cX0_daysInMonth 18 = .ok (.iload_n 1, 1) := by decide +kernel
theorem dX0_daysInMonth_19 : decode cX0_daysInMonth 19 = .ok (.iload_n 2, 1) := by decide +kernel
theorem dX0_daysInMonth_20 : decode cX0_daysInMonth 20 = .ok (.iload_n 3, 1) := by decide +kernel
theorem dX0_daysInMonth_21 : decode cX0_daysInMonth 21 = .ok (.iload 4, 2) := by decide +kernel
theorem dX0_daysInMonth_23 : decode cX0_daysInMonth 23 = .ok (.invokevirtual 57, 3) := by decide +kernel
theorem dX0_daysInMonth_26 : decode cX0_daysInMonth 26 = .ok (.ireturn, 1) := by decide +kernel
theorem dX0_monthDays_0 : decode cX0_monthDays 0 = .ok (.iload_n 1, 1) := by decide +kernel
theorem dX0_monthDays_1 : decode cX0_monthDays 1 = .ok (.tableswitch 105 0 6 #[43, 43, 50, 68, 92, 99, 102], 43) := by decide +kernel
theorem dX0_monthDays_44 : decode cX0_monthDays 44 = .ok (.iload_n 3, 1) := by decide +kernel
theorem dX0_monthDays_45 : decode cX0_monthDays 45 = .ok (.iload 4, 2) := by decide +kernel
theorem dX0_monthDays_47 : decode cX0_monthDays 47 = .ok (.invokestatic 61, 3) := by decide +kernel
theorem dX0_monthDays_50 : decode cX0_monthDays 50 = .ok (.ireturn, 1) := by decide +kernel
theorem dX0_monthDays_51 : decode cX0_monthDays 51 = .ok (.iload_n 3, 1) := by decide +kernel
theorem dX0_monthDays_52 : decode cX0_monthDays 52 = .ok (.bipush 13, 2) := by decide +kernel
theorem dX0_monthDays_54 : decode cX0_monthDays 54 = .ok (.if_icmp .ne 12, 3) := by decide +kernel
theorem dX0_monthDays_57 : decode cX0_monthDays 57 = .ok (.iload 4, 2) := by decide +kernel
theorem dX0_monthDays_59 : decode cX0_monthDays 59 = .ok (.sipush 360, 3) := by decide +kernel
theorem dX0_monthDays_62 : decode cX0_monthDays 62 = .ok (.isub, 1) := by decide +kernel
theorem dX0_monthDays_63 : decode cX0_monthDays 63 = .ok (.goto 5, 3) := by decide +kernel
theorem dX0_monthDays_66 : decode cX0_monthDays 66 = .ok (.bipush 30, 2) := by decide +kernel
theorem dX0_monthDays_68 : decode cX0_monthDays 68 = .ok (.ireturn, 1) := by decide +kernel
theorem dX0_monthDays_69 : decode cX0_monthDays 69 = .ok (.iload_n 3, 1) := by decide +kernel
theorem dX0_monthDays_70 : decode cX0_monthDays 70 = .ok (.bipush 12, 2) := by decide +kernel
theorem dX0_monthDays_72 : decode cX0_monthDays 72 = .ok (.if_icmp .ne 12, 3) := by decide +kernel
theorem dX0_monthDays_75 : decode cX0_monthDays 75 = .ok (.iload 4, 2) := by decide +kernel
theorem dX0_monthDays_77 : decode cX0_monthDays 77 = .ok (.sipush 325, 3) := by decide +kernel
theorem dX0_monthDays_80 : decode cX0_monthDays 80 = .ok (.isub, 1) := by decide +kernel
theorem dX0_monthDays_81 : decode cX0_monthDays 81 = .ok (.goto 11, 3) := by decide +kernel
theorem dX0_monthDays_84 : decode cX0_monthDays 84 = .ok (.bipush 30, 2) := by decide +kernel
theorem dX0_monthDays_86 : decode cX0_monthDays 86 = .ok (.iload_n 3, 1) := by decide +kernel
theorem dX0_monthDays_87 : decode cX0_monthDays 87 = .ok (.iconst 1, 1) := by decide +kernel
theorem dX0_monthDays_88 : decode cX0_monthDays 88 = .ok (.iadd, 1) := by decide +kernel
theorem dX0_monthDays_89 : decode cX0_monthDays 89 = .ok (.iconst 2, 1) := by decide +kernel
theorem dX0_monthDays_90 : decode cX0_monthDays 90 = .ok (.irem, 1) := by decide +kernel
theorem dX0_monthDays_91 : decode cX0_monthDays 91 = .ok (.isub, 1) := by decide +kernel
theorem dX0_monthDays_92 : decode cX0_monthDays 92 = .ok (.ireturn, 1) := by decide +kernel
theorem dX0_monthDays_93 : decode cX0_monthDays 93 = .ok (.iload_n 3, 1) := by decide +kernel
theorem dX0_monthDays_94 : decode cX0_monthDays 94 = .ok (.iload 4, 2) := by decide +kernel
theorem dX0_monthDays_96 : decode cX0_monthDays 96 = .ok (.invokestatic 64, 3) := by decide +kernel
theorem dX0_monthDays_99 : decode cX0_monthDays 99 = .ok (.ireturn, 1) := by decide +kernel
theorem dX0_monthDays_100 : decode cX0_monthDays 100 = .ok (.bipush 7, 2) := by decide +kernel
theorem dX0_monthDays_102 : decode cX0_monthDays 102 = .ok (.ireturn, 1) := by decide +kernel
theorem dX0_monthDays_103 : decode cX0_monthDays 103 = .ok (.bipush 20, 2) := by decide +kernel
theorem dX0_monthDays_105 : decode cX0_monthDays 105 = .ok (.ireturn, 1) := by decide +kernel
theorem dX0_monthDays_106 : decode cX0_monthDays 106 = .ok (.bipush 10, 2) := by decide +kernel
theorem dX0_monthDays_108 : decode cX0_monthDays 108 = .ok (.iload_n 2, 1) := by decide +kernel
theorem dX0_monthDays_109 : decode cX0_monthDays 109 = .ok (.iconst 1, 1) := by decide +kernel
theorem dX0_monthDays_110 : decode cX0_monthDays 110 = .ok (.isub, 1) := by decide +kernel
theorem dX0_monthDays_111 : decode cX0_monthDays 111 = .ok (.imul, 1) := by decide +kernel
theorem dX0_monthDays_112 : decode cX0_monthDays 112 = .ok (.iload_n 3, 1) := by decide +kernel
theorem dX0_monthDays_113 : decode cX0_monthDays 113 = .ok (.iadd, 1) := by decide +kernel
theorem dX0_monthDays_114 : decode cX0_monthDays 114 = .ok (.istore 5, 2) := by decide +kernel
theorem dX0_monthDays_116 : decode cX0_monthDays 116 = .ok (.aload_n 0, 1) := by decide +kernel
theorem dX0_monthDays_117 : decode cX0_monthDays 117 = .ok (.iload 5, 2) := by decide +kernel
theorem dX0_monthDays_119 : decode cX0_monthDays 119 = .ok (.invokevirtual 43, 3) := by decide +kernel
theorem dX0_monthDays_122 : decode cX0_monthDays 122 = .ok (.aload_n 0, 1) := by decide +kernel
theorem dX0_monthDays_123 : decode cX0_monthDays 123 = .ok (.iload 5, 2) := by decide +kernel
theorem dX0_monthDays_125 : decode cX0_monthDays 125 = .ok (.iconst 1, 1) := by decide +kernel
theorem dX0_monthDays_126 : decode cX0_monthDays 126 = .ok (.isub, 1) := by decide +kernel
theorem dX0_monthDays_127 : decode cX0_monthDays 127 = .ok (.invokevirtual 43, 3) := by decide +kernel
theorem dX0_monthDays_130 : decode cX0_monthDays 130 = .ok (.isub, 1) := by decide +kernel
theorem dX0_monthDays_131 : decode cX0_monthDays 131 = .ok (.ireturn, 1) := by decide +kernel
theorem dX0_sunMonthDays_0 : decode cX0_sunMonthDays 0 = .ok (.iload_n 0, 1) := by decide +kernel
theorem dX0_sunMonthDays_1 : decode cX0_sunMonthDays 1 = .ok (.iconst 1, 1) := by decide +kernel
theorem dX0_sunMonthDays_2 : decode cX0_sunMonthDays 2 = .ok (.if_icmp .lt 11, 3) := by decide +kernel
theorem dX0_sunMonthDays_5 : decode cX0_sunMonthDays 5 = .ok (.iload_n 0, 1) := by decide +kernel
theorem dX0_sunMonthDays_6 : decode cX0_sunMonthDays 6 = .ok (.getstatic 67, 3) := by decide +kernel
theorem dX0_sunMonthDays_9 : decode cX0_sunMonthDays 9 = .ok (.arraylength, 1) := by decide +kernel
theorem dX0_sunMonthDays_10 : decode cX0_sunMonthDays 10 = .ok (.if_icmp .le 5, 3) := by decide +kernel
theorem dX0_sunMonthDays_13 : decode cX0_sunMonthDays 13 = .ok (.iconst 0, 1) := by decide +kernel
theorem dX0_sunMonthDays_14 : decode cX0_sunMonthDays 14 = .ok (.ireturn, 1) := by decide +kernel
theorem dX0_sunMonthDays_15 : decode cX0_sunMonthDays 15 = .ok (.iload_n 0, 1) := by decide +kernel
theorem dX0_sunMonthDays_16 : decode cX0_sunMonthDays 16 = .ok (.iconst 2, 1) := by decide +kernel
theorem dX0_sunMonthDays_17 : decode cX0_sunMonthDays 17 = .ok (.if_icmp .ne 11, 3) := by decide +kernel
theorem dX0_sunMonthDays_20 : decode cX0_sunMonthDays 20 = .ok (.iload_n 1, 1) := by decide +kernel
theorem dX0_sunMonthDays_21 : decode cX0_sunMonthDays 21 = .ok (.sipush 337, 3) := by decide +kernel
theorem dX0_sunMonthDays_24 : decode cX0_sunMonthDays 24 = .ok (.isub, 1) := by decide +kernel
theorem dX0_sunMonthDays_25 : decode cX0_sunMonthDays 25 = .ok (.goto 10, 3) := by decide +kernel
theorem dX0_sunMonthDays_28 : decode cX0_sunMonthDays 28 = .ok (.getstatic 67, 3) := by decide +kernel
theorem dX0_sunMonthDays_31 : decode cX0_sunMonthDays 31 = .ok (.iload_n 0, 1) := by decide +kernel
theorem dX0_sunMonthDays_32 : decode cX0_sunMonthDays 32 = .ok (.iconst 1, 1) := by decide +kernel
theorem dX0_sunMonthDays_33 : decode cX0_sunMonthDays 33 = .ok (.isub, 1) := by decide +kernel
theorem dX0_sunMonthDays_34 : decode cX0_sunMonthDays 34 = .ok (.iaload, 1) := by decide +kernel
theorem dX0_sunMonthDays_35 : decode cX0_sunMonthDays 35 = .ok (.ireturn, 1) := by decide +kernel
theorem dX0_countedMonthDays_0 : decode cX0_countedMonthDays 0 = .ok (.iload_n 0, 1) := by decide +kernel
theorem dX0_countedMonthDays_1 : decode cX0_countedMonthDays 1 = .ok (.iconst 2, 1) := by decide +kernel
theorem dX0_countedMonthDays_2 : decode cX0_countedMonthDays 2 = .ok (.if_icmp .ne 20, 3) := by decide +kernel
theorem dX0_countedMonthDays_5 : decode cX0_countedMonthDays 5 = .ok (.iload_n 1, 1) := by decide +kernel
theorem dX0_countedMonthDays_6 : decode cX0_countedMonthDays 6 = .ok (.sipush 355, 3) := by decide +kernel
theorem dX0_countedMonthDays_9 : decode cX0_countedMonthDays 9 = .ok (.if_icmp .eq 10, 3) := by decide +kernel
theorem dX0_countedMonthDays_12 : decode cX0_countedMonthDays 12 = .ok (.iload_n 1, 1) := by decide +kernel
theorem dX0_countedMonthDays_13 : decode cX0_countedMonthDays 13 = .ok (.sipush 385, 3) := by decide +kernel
theorem dX0_countedMonthDays_16 : decode cX0_countedMonthDays 16 = .ok (.if_icmp .ne 6, 3) := by decide +kernel
theorem dX0_countedMonthDays_19 : decode cX0_countedMonthDays 19 = .ok (.bipush 30, 2) := by decide +kernel
theorem dX0_countedMonthDays_21 : decode cX0_countedMonthDays 21 = .ok (.ireturn, 1) := by decide +kernel
theorem dX0_countedMonthDays_22 : decode cX0_countedMonthDays 22 = .ok (.iload_n 0, 1) := by decide +kernel
theorem dX0_countedMonthDays_23 : decode cX0_countedMonthDays 23 = .ok (.iconst 3, 1) := by decide +kernel
theorem dX0_countedMonthDays_24 : decode cX0_countedMonthDays 24 = .ok (.if_icmp .ne 20, 3) := by decide +kernel
theorem dX0_countedMonthDays_27 : decode cX0_countedMonthDays 27 = .ok (.iload_n 1, 1) := by decide +kernel
theorem dX0_countedMonthDays_28 : decode cX0_countedMonthDays 28 = .ok (.sipush 353, 3) := by decide +kernel
theorem dX0_countedMonthDays_31 : decode cX0_countedMonthDays 31 = .ok (.if_icmp .eq 10, 3) := by decide +kernel
theorem dX0_countedMonthDays_34 : decode cX0_countedMonthDays 34 = .ok (.iload_n 1, 1) := by decide +kernel
theorem dX0_countedMonthDays_35 : decode cX0_countedMonthDays 35 = .ok (.sipush 383, 3) := by decide +kernel
theorem dX0_countedMonthDays_38 : decode cX0_countedMonthDays 38 = .ok (.if_icmp .ne 6, 3) := by decide +kernel
theorem dX0_countedMonthDays_41 : decode cX0_countedMonthDays 41 = .ok (.bipush 29, 2) := by decide +kernel
theorem dX0_countedMonthDays_43 : decode cX0_countedMonthDays 43 = .ok (.ireturn, 1) := by decide +kernel
theorem dX0_countedMonthDays_44 : decode cX0_countedMonthDays 44 = .ok (.iload_n 1, 1) := by decide +kernel
theorem dX0_countedMonthDays_45 : decode cX0_countedMonthDays 45 = .ok (.sipush 360, 3) := by decide +kernel
theorem dX0_countedMonthDays_48 : decode cX0_countedMonthDays 48 = .ok (.if_icmp .le 14, 3) := by decide +kernel
theorem dX0_countedMonthDays_51 : decode cX0_countedMonthDays 51 = .ok (.iload_n 0, 1) := by decide +kernel
theorem dX0_countedMonthDays_52 : decode cX0_countedMonthDays 52 = .ok (.iconst 5, 1) := by decide +kernel
theorem dX0_countedMonthDays_53 : decode cX0_countedMonthDays 53 = .ok (.if_icmp .le 9, 3) := by decide +kernel
theorem dX0_countedMonthDays_56 : decode cX0_countedMonthDays 56 = .ok (.iload_n 0, 1) := by decide +kernel
theorem dX0_countedMonthDays_57 : decode cX0_countedMonthDays 57 = .ok (.iconst 1, 1) := by decide +kernel
theorem dX0_countedMonthDays_58 : decode cX0_countedMonthDays 58 = .ok (.isub, 1) := by decide +kernel
theorem dX0_countedMonthDays_59 : decode cX0_countedMonthDays 59 = .ok (.goto 4, 3) := by decide +kernel
theorem dX0_countedMonthDays_62 : decode cX0_countedMonthDays 62 = .ok (.iload_n 0, 1) := by decide +kernel
theorem dX0_countedMonthDays_63 : decode cX0_countedMonthDays 63 = .ok (.istore_n 2, 1) := by decide +kernel
theorem dX0_countedMonthDays_64 : decode cX0_countedMonthDays 64 = .ok (.iload_n 2, 1) := by decide +kernel
theorem dX0_countedMonthDays_65 : decode cX0_countedMonthDays 65 = .ok (.iconst 2, 1) := by decide +kernel
theorem dX0_countedMonthDays_66 : decode cX0_countedMonthDays 66 = .ok (.irem, 1) := by decide +kernel
theorem dX0_countedMonthDays_67 : decode cX0_countedMonthDays 67 = .ok (.iconst 1, 1) := by decide +kernel
theorem dX0_countedMonthDays_68 : decode cX0_countedMonthDays 68 = .ok (.if_icmp .ne 8, 3) := by decide +kernel
theorem dX0_countedMonthDays_71 : decode cX0_countedMonthDays 71 = .ok (.bipush 30, 2) := by decide +kernel
theorem dX0_countedMonthDays_73 : decode cX0_countedMonthDays 73 = .ok (.goto 5, 3) := by decide +kernel
theorem dX0_countedMonthDays_76 : decode cX0_countedMonthDays 76 = .ok (.bipush 29, 2) := by decide +kernel
theorem dX0_countedMonthDays_78 : decode cX0_countedMonthDays 78 = .ok (.ireturn, 1) := by decide +kernel
theorem dX0_evenMonthDays_0 : decode cX0_evenMonthDays 0 = .ok (.iload_n 0, 1) := by decide +kernel
theorem dX0_evenMonthDays_1 : decode cX0_evenMonthDays 1 = .ok (.tableswitch 44 2 6 #[35, 44, 44, 38, 41], 35) := by decide +kernel
theorem dX0_evenMonthDays_36 : decode cX0_evenMonthDays 36 = .ok (.bipush 30, 2) := by decide +kernel
theorem dX0_evenMonthDays_38 : decode cX0_evenMonthDays 38 = .ok (.ireturn, 1) := by decide +kernel
theorem dX0_evenMonthDays_39 : decode cX0_evenMonthDays 39 = .ok (.bipush 7, 2) := by decide +kernel
theorem dX0_evenMonthDays_41 : decode cX0_evenMonthDays 41 = .ok (.ireturn, 1) := by decide +kernel
theorem dX0_evenMonthDays_42 : decode cX0_evenMonthDays 42 = .ok (.bipush 20, 2) := by decide +kernel
theorem dX0_evenMonthDays_44 : decode cX0_evenMonthDays 44 = .ok (.ireturn, 1) := by decide +kernel
theorem dX0_evenMonthDays_45 : decode cX0_evenMonthDays 45 = .ok (.iconst 0, 1) := by decide +kernel
theorem dX0_evenMonthDays_46 : decode cX0_evenMonthDays 46 = .ok (.ireturn, 1) := by decide +kernel
theorem dX0_monthStart_0 : decode cX0_monthStart 0 = .ok (.aload_n 0, 1) := by decide +kernel
theorem dX0_monthStart_1 : decode cX0_monthStart 1 = .ok (.iload_n 1, 1) := by decide +kernel
theorem dX0_monthStart_2 : decode cX0_monthStart 2 = .ok (.iload_n 2, 1) := by decide +kernel
theorem dX0_monthStart_3 : decode cX0_monthStart 3 = .ok (.invokevirtual 46, 3) := by decide +kernel
theorem dX0_monthStart_6 : decode cX0_monthStart 6 = .ok (.istore 4, 2) := by decide +kernel
theorem dX0_monthStart_8 : decode cX0_monthStart 8 = .ok (.iload_n 1, 1) := by decide +kernel
theorem dX0_monthStart_9 : decode cX0_monthStart 9 = .ok (.invokestatic 70, 3) := by decide +kernel
theorem dX0_monthStart_12 : decode cX0_monthStart 12 = .ok (.istore 5, 2) := by decide +kernel
theorem dX0_monthStart_14 : decode cX0_monthStart 14 = .ok (.iload 5, 2) := by decide +kernel
theorem dX0_monthStart_16 : decode cX0_monthStart 16 = .ok (.ifCond .le 13, 3) := by decide +kernel
theorem dX0_monthStart_19 : decode cX0_monthStart 19 = .ok (.iload 4, 2) := by decide +kernel
theorem dX0_monthStart_21 : decode cX0_monthStart 21 = .ok (.iload 5, 2) := by decide +kernel
theorem dX0_monthStart_23 : decode cX0_monthStart 23 = .ok (.iload_n 3, 1) := by decide +kernel
theorem dX0_monthStart_24 : decode cX0_monthStart 24 = .ok (.iconst 1, 1) := by decide +kernel
theorem dX0_monthStart_25 : decode cX0_monthStart 25 = .ok (.isub, 1) := by decide +kernel
theorem dX0_monthStart_26 : decode cX0_monthStart 26 = .ok (.imul, 1) := by decide +kernel
theorem dX0_monthStart_27 : decode cX0_monthStart 27 = .ok (.iadd, 1) := by decide +kernel
theorem dX0_monthStart_28 : decode cX0_monthStart 28 = .ok (.ireturn, 1) := by decide +kernel
theorem dX0_monthStart_29 : decode cX0_monthStart 29 = .ok (.aload_n 0, 1) := by decide +kernel
theorem dX0_monthStart_30 : decode cX0_monthStart 30 = .ok (.iload_n 1, 1) := by decide +kernel
theorem dX0_monthStart_31 : decode cX0_monthStart 31 = .ok (.iload_n 2, 1) := by decide +kernel
theorem dX0_monthStart_32 : decode cX0_monthStart 32 = .ok (.iconst 1, 1) := by decide +kernel
theorem dX0_monthStart_33 : decode cX0_monthStart 33 = .ok (.iadd, 1) := by decide +kernel
theorem dX0_monthStart_34 : decode cX0_monthStart 34 = .ok (.invokevirtual 46, 3) := by decide +kernel
theorem dX0_monthStart_37 : decode cX0_monthStart 37 = .ok (.iload 4, 2) := by decide +kernel
theorem dX0_monthStart_39 : decode cX0_monthStart 39 = .ok (.isub, 1) := by decide +kernel
theorem dX0_monthStart_40 : decode cX0_monthStart 40 = .ok (.istore 6, 2) := by decide +kernel
theorem dX0_monthStart_42 : decode cX0_monthStart 42 = .ok (.iconst 1, 1) := by decide +kernel
theorem dX0_monthStart_43 : decode cX0_monthStart 43 = .ok (.istore 7, 2) := by decide +kernel
theorem dX0_monthStart_45 : decode cX0_monthStart 45 = .ok (.iload 7, 2) := by decide +kernel
theorem dX0_monthStart_47 : decode cX0_monthStart 47 = .ok (.iload_n 3, 1) := by decide +kernel
theorem dX0_monthStart_48 : decode cX0_monthStart 48 = .ok (.if_icmp .ge 24, 3) := by decide +kernel
theorem dX0_monthStart_51 : decode cX0_monthStart 51 = .ok (.iload 4, 2) := by decide +kernel
theorem dX0_monthStart_53 : decode cX0_monthStart 53 = .ok (.aload_n 0, 1) := by decide +kernel
theorem dX0_monthStart_54 : decode cX0_monthStart 54 = .ok (.iload_n 1, 1) := by decide +kernel
theorem dX0_monthStart_55 : decode cX0_monthStart 55 = .ok (.iload_n 2, 1) := by decide +kernel
theorem dX0_monthStart_56 : decode cX0_monthStart 56 = .ok (.iload 7, 2) := by decide +kernel
theorem dX0_monthStart_58 : decode cX0_monthStart 58 = .ok (.iload 6, 2) := by decide +kernel
theorem dX0_monthStart_60 : decode cX0_monthStart 60 = .ok (.invokevirtual 57, 3) := by decide +kernel
theorem dX0_monthStart_63 : decode cX0_monthStart 63 = .ok (.iadd, 1) := by decide +kernel
theorem dX0_monthStart_64 : decode cX0_monthStart 64 = .ok (.istore 4, 2) := by decide +kernel
theorem dX0_monthStart_66 : decode cX0_monthStart 66 = .ok (.iinc 7 1, 3) := by decide +kernel
theorem dX0_monthStart_69 : decode cX0_monthStart 69 = .ok (.goto (-24), 3) := by decide +kernel
theorem dX0_monthStart_72 : decode cX0_monthStart 72 = .ok (.iload 4, 2) := by decide +kernel
theorem dX0_monthStart_74 : decode cX0_monthStart 74 = .ok (.ireturn, 1) := by decide +kernel
theorem dX0_yearOf_0 : decode cX0_yearOf 0 = .ok (.iload_n 1, 1) := by decide +kernel
theorem dX0_yearOf_1 : decode cX0_yearOf 1 = .ok (.invokestatic 29, 3) := by decide +kernel
theorem dX0_yearOf_4 : decode cX0_yearOf 4 = .ok (.istore_n 3, 1) := by decide +kernel
theorem dX0_yearOf_5 : decode cX0_yearOf 5 = .ok (.aload_n 0, 1) := by decide +kernel
theorem dX0_yearOf_6 : decode cX0_yearOf 6 = .ok (.iload_n 1, 1) := by decide +kernel
theorem dX0_yearOf_7 : decode cX0_yearOf 7 = .ok (.invokevirtual 32, 3) := by decide +kernel
theorem dX0_yearOf_10 : decode cX0_yearOf 10 = .ok (.istore 4, 2) := by decide +kernel
theorem dX0_yearOf_12 : decode cX0_yearOf 12 = .ok (.iconst 0, 1) := by decide +kernel
theorem dX0_yearOf_13 : decode cX0_yearOf 13 = .ok (.istore 5, 2) := by decide +kernel
theorem dX0_yearOf_15 : decode cX0_yearOf 15 = .ok (.iload 5, 2) := by decide +kernel
theorem dX0_yearOf_17 : decode cX0_yearOf 17 = .ok (.bipush 32, 2) := by decide +kernel
theorem dX0_yearOf_19 : decode cX0_yearOf 19 = .ok (.if_icmp .ge 48, 3) := by decide +kernel
theorem dX0_yearOf_22 : decode cX0_yearOf 22 = .ok (.iload_n 3, 1) := by decide +kernel
theorem dX0_yearOf_23 : decode cX0_yearOf 23 = .ok (.iload 4, 2) := by decide +kernel
theorem dX0_yearOf_25 : decode cX0_yearOf 25 = .ok (.if_icmp .ge 42, 3) := by decide +kernel
theorem dX0_yearOf_28 : decode cX0_yearOf 28 = .ok (.iload_n 3, 1) := by decide +kernel
theorem dX0_yearOf_29 : decode cX0_yearOf 29 = .ok (.iload 4, 2) := by decide +kernel
theorem dX0_yearOf_31 : decode cX0_yearOf 31 = .ok (.iadd, 1) := by decide +kernel
theorem dX0_yearOf_32 : decode cX0_yearOf 32 = .ok (.iconst 1, 1) := by decide +kernel
theorem dX0_yearOf_33 : decode cX0_yearOf 33 = .ok (.iadd, 1) := by decide +kernel
theorem dX0_yearOf_34 : decode cX0_yearOf 34 = .ok (.iconst 2, 1) := by decide +kernel
theorem dX0_yearOf_35 : decode cX0_yearOf 35 = .ok (.idiv, 1) := by decide +kernel
theorem dX0_yearOf_36 : decode cX0_yearOf 36 = .ok (.istore 6, 2) := by decide +kernel
theorem dX0_yearOf_38 : decode cX0_yearOf 38 = .ok (.aload_n 0, 1) := by decide +kernel
theorem dX0_yearOf_39 : decode cX0_yearOf 39 = .ok (.iload_n 1, 1) := by decide +kernel
theorem dX0_yearOf_40 : decode cX0_yearOf 40 = .ok (.iload 6, 2) := by decide +kernel
theorem dX0_yearOf_42 : decode cX0_yearOf 42 = .ok (.invokevirtual 46, 3) := by decide +kernel
theorem dX0_yearOf_45 : decode cX0_yearOf 45 = .ok (.iload_n 2, 1) := by decide +kernel
theorem dX0_yearOf_46 : decode cX0_yearOf 46 = .ok (.if_icmp .gt 9, 3) := by decide +kernel
theorem dX0_yearOf_49 : decode cX0_yearOf 49 = .ok (.iload 6, 2) := by decide +kernel
theorem dX0_yearOf_51 : decode cX0_yearOf 51 = .ok (.istore_n 3, 1) := by decide +kernel
theorem dX0_yearOf_52 : decode cX0_yearOf 52 = .ok (.goto 9, 3) := by decide +kernel
theorem dX0_yearOf_55 : decode cX0_yearOf 55 = .ok (.iload 6, 2) := by decide +kernel
theorem dX0_yearOf_57 : decode cX0_yearOf 57 = .ok (.iconst 1, 1) := by decide +kernel
theorem dX0_yearOf_58 : decode cX0_yearOf 58 = .ok (.isub, 1) := by decide +kernel
theorem dX0_yearOf_59 : decode cX0_yearOf 59 = .ok (.istore 4, 2) := by decide +kernel
theorem dX0_yearOf_61 : decode cX0_yearOf 61 = .ok (.iinc 5 1, 3) := by decide +kernel
theorem dX0_yearOf_64 : decode cX0_yearOf 64 = .ok (.goto (-49), 3) := by decide +kernel
theorem dX0_yearOf_67 : decode cX0_yearOf 67 = .ok (.iload_n 3, 1) := by decide +kernel
theorem dX0_yearOf_68 : decode cX0_yearOf 68 = .ok (.ireturn, 1) := by decide +kernel
theorem dX0_yearOfMonth_0 : decode cX0_yearOfMonth 0 = .ok (.iload_n 1, 1) := by decide +kernel
theorem dX0_yearOfMonth_1 : decode cX0_yearOfMonth 1 = .ok (.invokestatic 29, 3) := by decide +kernel
theorem dX0_yearOfMonth_4 : decode cX0_yearOfMonth 4 = .ok (.istore_n 3, 1) := by decide +kernel
theorem dX0_yearOfMonth_5 : decode cX0_yearOfMonth 5 = .ok (.aload_n 0, 1) := by decide +kernel
theorem dX0_yearOfMonth_6 : decode cX0_yearOfMonth 6 = .ok (.iload_n 1, 1) := by decide +kernel
theorem dX0_yearOfMonth_7 : decode cX0_yearOfMonth 7 = .ok (.invokevirtual 32, 3) := by decide +kernel
theorem dX0_yearOfMonth_10 : decode cX0_yearOfMonth 10 = .ok (.istore 4, 2) := by decide +kernel
theorem dX0_yearOfMonth_12 : decode cX0_yearOfMonth 12 = .ok (.iconst 0, 1) := by decide +kernel
theorem dX0_yearOfMonth_13 : decode cX0_yearOfMonth 13 = .ok (.istore 5, 2) := by decide +kernel
theorem dX0_yearOfMonth_15 : decode cX0_yearOfMonth 15 = .ok (.iload 5, 2) := by decide +kernel
theorem dX0_yearOfMonth_17 : decode cX0_yearOfMonth 17 = .ok (.bipush 32, 2) := by decide +kernel
theorem dX0_yearOfMonth_19 : decode cX0_yearOfMonth 19 = .ok (.if_icmp .ge 48, 3) := by decide +kernel
theorem dX0_yearOfMonth_22 : decode cX0_yearOfMonth 22 = .ok (.iload_n 3, 1) := by decide +kernel
theorem dX0_yearOfMonth_23 : decode cX0_yearOfMonth 23 = .ok (.iload 4, 2) := by decide +kernel
theorem dX0_yearOfMonth_25 : decode cX0_yearOfMonth 25 = .ok (.if_icmp .ge 42, 3) := by decide +kernel
theorem dX0_yearOfMonth_28 : decode cX0_yearOfMonth 28 = .ok (.iload_n 3, 1) := by decide +kernel
theorem dX0_yearOfMonth_29 : decode cX0_yearOfMonth 29 = .ok (.iload 4, 2) := by decide +kernel
theorem dX0_yearOfMonth_31 : decode cX0_yearOfMonth 31 = .ok (.iadd, 1) := by decide +kernel
theorem dX0_yearOfMonth_32 : decode cX0_yearOfMonth 32 = .ok (.iconst 1, 1) := by decide +kernel
theorem dX0_yearOfMonth_33 : decode cX0_yearOfMonth 33 = .ok (.iadd, 1) := by decide +kernel
theorem dX0_yearOfMonth_34 : decode cX0_yearOfMonth 34 = .ok (.iconst 2, 1) := by decide +kernel
theorem dX0_yearOfMonth_35 : decode cX0_yearOfMonth 35 = .ok (.idiv, 1) := by decide +kernel
theorem dX0_yearOfMonth_36 : decode cX0_yearOfMonth 36 = .ok (.istore 6, 2) := by decide +kernel
theorem dX0_yearOfMonth_38 : decode cX0_yearOfMonth 38 = .ok (.aload_n 0, 1) := by decide +kernel
theorem dX0_yearOfMonth_39 : decode cX0_yearOfMonth 39 = .ok (.iload_n 1, 1) := by decide +kernel
theorem dX0_yearOfMonth_40 : decode cX0_yearOfMonth 40 = .ok (.iload 6, 2) := by decide +kernel
theorem dX0_yearOfMonth_42 : decode cX0_yearOfMonth 42 = .ok (.invokevirtual 54, 3) := by decide +kernel
theorem dX0_yearOfMonth_45 : decode cX0_yearOfMonth 45 = .ok (.iload_n 2, 1) := by decide +kernel
theorem dX0_yearOfMonth_46 : decode cX0_yearOfMonth 46 = .ok (.if_icmp .gt 9, 3) := by decide +kernel
theorem dX0_yearOfMonth_49 : decode cX0_yearOfMonth 49 = .ok (.iload 6, 2) := by decide +kernel
theorem dX0_yearOfMonth_51 : decode cX0_yearOfMonth 51 = .ok (.istore_n 3, 1) := by decide +kernel
theorem dX0_yearOfMonth_52 : decode cX0_yearOfMonth 52 = .ok (.goto 9, 3) := by decide +kernel
theorem dX0_yearOfMonth_55 : decode cX0_yearOfMonth 55 = .ok (.iload 6, 2) := by decide +kernel
theorem dX0_yearOfMonth_57 : decode cX0_yearOfMonth 57 = .ok (.iconst 1, 1) := by decide +kernel
theorem dX0_yearOfMonth_58 : decode cX0_yearOfMonth 58 = .ok (.isub, 1) := by decide +kernel
theorem dX0_yearOfMonth_59 : decode cX0_yearOfMonth 59 = .ok (.istore 4, 2) := by decide +kernel
theorem dX0_yearOfMonth_61 : decode cX0_yearOfMonth 61 = .ok (.iinc 5 1, 3) := by decide +kernel
theorem dX0_yearOfMonth_64 : decode cX0_yearOfMonth 64 = .ok (.goto (-49), 3) := by decide +kernel
theorem dX0_yearOfMonth_67 : decode cX0_yearOfMonth 67 = .ok (.iload_n 3, 1) := by decide +kernel
theorem dX0_yearOfMonth_68 : decode cX0_yearOfMonth 68 = .ok (.ireturn, 1) := by decide +kernel
theorem dX0_monthOf_0 : decode cX0_monthOf 0 = .ok (.aload_n 0, 1) := by decide +kernel
theorem dX0_monthOf_1 : decode cX0_monthOf 1 = .ok (.iload_n 1, 1) := by decide +kernel
theorem dX0_monthOf_2 : decode cX0_monthOf 2 = .ok (.iload_n 2, 1) := by decide +kernel
theorem dX0_monthOf_3 : decode cX0_monthOf 3 = .ok (.invokevirtual 73, 3) := by decide +kernel
theorem dX0_monthOf_6 : decode cX0_monthOf 6 = .ok (.istore_n 3, 1) := by decide +kernel
theorem dX0_monthOf_7 : decode cX0_monthOf 7 = .ok (.aload_n 0, 1) := by decide +kernel
theorem dX0_monthOf_8 : decode cX0_monthOf 8 = .ok (.iload_n 1, 1) := by decide +kernel
theorem dX0_monthOf_9 : decode cX0_monthOf 9 = .ok (.iload_n 3, 1) := by decide +kernel
theorem dX0_monthOf_10 : decode cX0_monthOf 10 = .ok (.invokevirtual 46, 3) := by decide +kernel
theorem dX0_monthOf_13 : decode cX0_monthOf 13 = .ok (.istore 4, 2) := by decide +kernel
theorem dX0_monthOf_15 : decode cX0_monthOf 15 = .ok (.iload_n 1, 1) := by decide +kernel
theorem dX0_monthOf_16 : decode cX0_monthOf 16 = .ok (.invokestatic 70, 3) := by decide +kernel
theorem dX0_monthOf_19 : decode cX0_monthOf 19 = .ok (.istore 5, 2) := by decide +kernel
theorem dX0_monthOf_21 : decode cX0_monthOf 21 = .ok (.iload 5, 2) := by decide +kernel
theorem dX0_monthOf_23 : decode cX0_monthOf 23 = .ok (.ifCond .le 13, 3) := by decide +kernel
theorem dX0_monthOf_26 : decode cX0_monthOf 26 = .ok (.iload_n 2, 1) := by decide +kernel
theorem dX0_monthOf_27 : decode cX0_monthOf 27 = .ok (.iload 4, 2) := by decide +kernel
theorem dX0_monthOf_29 : decode cX0_monthOf 29 = .ok (.isub, 1) := by decide +kernel
theorem dX0_monthOf_30 : decode cX0_monthOf 30 = .ok (.iload 5, 2) := by decide +kernel
theorem dX0_monthOf_32 : decode cX0_monthOf 32 = .ok (.idiv, 1) := by decide +kernel
theorem dX0_monthOf_33 : decode cX0_monthOf 33 = .ok (.iconst 1, 1) := by decide +kernel
theorem dX0_monthOf_34 : decode cX0_monthOf 34 = .ok (.iadd, 1) := by decide +kernel
theorem dX0_monthOf_35 : decode cX0_monthOf 35 = .ok (.ireturn, 1) := by decide +kernel
theorem dX0_monthOf_36 : decode cX0_monthOf 36 = .ok (.aload_n 0, 1) := by decide +kernel
theorem dX0_monthOf_37 : decode cX0_monthOf 37 = .ok (.iload_n 1, 1) := by decide +kernel
theorem dX0_monthOf_38 : decode cX0_monthOf 38 = .ok (.iload_n 3, 1) := by decide +kernel
theorem dX0_monthOf_39 : decode cX0_monthOf 39 = .ok (.iconst 1, 1) := by decide +kernel
theorem dX0_monthOf_40 : decode cX0_monthOf 40 = .ok (.iadd, 1) := by decide +kernel
theorem dX0_monthOf_41 : decode cX0_monthOf 41 = .ok (.invokevirtual 46, 3) := by decide +kernel
theorem dX0_monthOf_44 : decode cX0_monthOf 44 = .ok (.iload 4, 2) := by decide +kernel
theorem dX0_monthOf_46 : decode cX0_monthOf 46 = .ok (.isub, 1) := by decide +kernel
theorem dX0_monthOf_47 : decode cX0_monthOf 47 = .ok (.istore 6, 2) := by decide +kernel
theorem dX0_monthOf_49 : decode cX0_monthOf 49 = .ok (.aload_n 0, 1) := by decide +kernel
theorem dX0_monthOf_50 : decode cX0_monthOf 50 = .ok (.iload_n 1, 1) := by decide +kernel
theorem dX0_monthOf_51 : decode cX0_monthOf 51 = .ok (.iload_n 3, 1) := by decide +kernel
theorem dX0_monthOf_52 : decode cX0_monthOf 52 = .ok (.invokevirtual 39, 3) := by decide +kernel
theorem dX0_monthOf_55 : decode cX0_monthOf 55 = .ok (.istore 7, 2) := by decide +kernel
theorem dX0_monthOf_57 : decode cX0_monthOf 57 = .ok (.iload 4, 2) := by decide +kernel
theorem dX0_monthOf_59 : decode cX0_monthOf 59 = .ok (.istore 8, 2) := by decide +kernel
theorem dX0_monthOf_61 : decode cX0_monthOf 61 = .ok (.iconst 1, 1) := by decide +kernel
theorem dX0_monthOf_62 : decode cX0_monthOf 62 = .ok (.istore 9, 2) := by decide +kernel
theorem dX0_monthOf_64 : decode cX0_monthOf 64 = .ok (.iload 9, 2) := by decide +kernel
theorem dX0_monthOf_66 : decode cX0_monthOf 66 = .ok (.iload 7, 2) := by decide +kernel
theorem dX0_monthOf_68 : decode cX0_monthOf 68 = .ok (.if_icmp .ge 33, 3) := by decide +kernel
theorem dX0_monthOf_71 : decode cX0_monthOf 71 = .ok (.iload 8, 2) := by decide +kernel
theorem dX0_monthOf_73 : decode cX0_monthOf 73 = .ok (.aload_n 0, 1) := by decide +kernel
theorem dX0_monthOf_74 : decode cX0_monthOf 74 = .ok (.iload_n 1, 1) := by decide +kernel
theorem dX0_monthOf_75 : decode cX0_monthOf 75 = .ok (.iload_n 3, 1) := by decide +kernel
theorem dX0_monthOf_76 : decode cX0_monthOf 76 = .ok (.iload 9, 2) := by decide +kernel
theorem dX0_monthOf_78 : decode cX0_monthOf 78 = .ok (.iload 6, 2) := by decide +kernel
theorem dX0_monthOf_80 : decode cX0_monthOf 80 = .ok (.invokevirtual 57, 3) := by decide +kernel
theorem dX0_monthOf_83 : decode cX0_monthOf 83 = .ok (.iadd, 1) := by decide +kernel
theorem dX0_monthOf_84 : decode cX0_monthOf 84 = .ok (.istore 8, 2) := by decide +kernel
theorem dX0_monthOf_86 : decode cX0_monthOf 86 = .ok (.iload_n 2, 1) := by decide +kernel
theorem dX0_monthOf_87 : decode cX0_monthOf 87 = .ok (.iload 8, 2) := by decide +kernel
theorem dX0_monthOf_89 : decode cX0_monthOf 89 = .ok (.if_icmp .ge 6, 3) := by decide +kernel
theorem dX0_monthOf_92 : decode cX0_monthOf 92 = .ok (.iload 9, 2) := by decide +kernel
theorem dX0_monthOf_94 : decode cX0_monthOf 94 = .ok (.ireturn, 1) := by decide +kernel
theorem dX0_monthOf_95 : decode cX0_monthOf 95 = .ok (.iinc 9 1, 3) := by decide +kernel
theorem dX0_monthOf_98 : decode cX0_monthOf 98 = .ok (.goto (-34), 3) := by decide +kernel
theorem dX0_monthOf_101 : decode cX0_monthOf 101 = .ok (.iload 7, 2) := by decide +kernel
theorem dX0_monthOf_103 : decode cX0_monthOf 103 = .ok (.ireturn, 1) := by decide +kernel
theorem dX0_dayOf_0 : decode cX0_dayOf 0 = .ok (.iload_n 2, 1) := by decide +kernel
theorem dX0_dayOf_1 : decode cX0_dayOf 1 = .ok (.aload_n 0, 1) := by decide +kernel
theorem dX0_dayOf_2 : decode cX0_dayOf 2 = .ok (.iload_n 1, 1) := by decide +kernel
theorem dX0_dayOf_3 : decode cX0_dayOf 3 = .ok (.aload_n 0, 1) := by decide +kernel
theorem dX0_dayOf_4 : decode cX0_dayOf 4 = .ok (.iload_n 1, 1) := by decide +kernel
theorem dX0_dayOf_5 : decode cX0_dayOf 5 = .ok (.iload_n 2, 1) := by decide +kernel
theorem dX0_dayOf_6 : decode cX0_dayOf 6 = .ok (.invokevirtual 73, 3) := by decide +kernel
theorem dX0_dayOf_9 : decode cX0_dayOf 9 = .ok (.aload_n 0, 1) := by decide +kernel
theorem dX0_dayOf_10 : decode cX0_dayOf 10 = .ok (.iload_n 1, 1) := by decide +kernel
theorem dX0_dayOf_11 : decode cX0_dayOf 11 = .ok (.iload_n 2, 1) := by decide +kernel
theorem dX0_dayOf_12 : decode cX0_dayOf 12 = .ok (.invokevirtual 76, 3) := by decide +kernel
theorem dX0_dayOf_15 : decode cX0_dayOf 15 = .ok (.invokevirtual 79, 3) := by decide +kernel
theorem dX0_dayOf_18 : decode cX0_dayOf 18 = .ok (.isub, 1) := by decide +kernel
theorem dX0_dayOf_19 : decode cX0_dayOf 19 = .ok (.iconst 1, 1) := by decide +kernel
theorem dX0_dayOf_20 : decode cX0_dayOf 20 = .ok (.iadd, 1) := by decide +kernel
theorem dX0_dayOf_21 : decode cX0_dayOf 21 = .ok (.ireturn, 1) := by decide +kernel
theorem dX0_weekdayOf_0 : decode cX0_weekdayOf 0 = .ok (.iload_n 1, 1) := by decide +kernel
theorem dX0_weekdayOf_1 : decode cX0_weekdayOf 1 = .ok (.lookupswitch 47 #[(6, 27), (7, 35)], 27) := by decide +kernel
theorem dX0_weekdayOf_28 : decode cX0_weekdayOf 28 = .ok (.iload_n 2, 1) := by decide +kernel
theorem dX0_weekdayOf_29 : decode cX0_weekdayOf 29 = .ok (.bipush 7, 2) := by decide +kernel
theorem dX0_weekdayOf_31 : decode cX0_weekdayOf 31 = .ok (.iadd, 1) := by decide +kernel
theorem dX0_weekdayOf_32 : decode cX0_weekdayOf 32 = .ok (.bipush 20, 2) := by decide +kernel
theorem dX0_weekdayOf_34 : decode cX0_weekdayOf 34 = .ok (.irem, 1) := by decide +kernel
theorem dX0_weekdayOf_35 : decode cX0_weekdayOf 35 = .ok (.ireturn, 1) := by decide +kernel
theorem dX0_weekdayOf_36 : decode cX0_weekdayOf 36 = .ok (.iload_n 2, 1) := by decide +kernel
theorem dX0_weekdayOf_37 : decode cX0_weekdayOf 37 = .ok (.aload_n 0, 1) := by decide +kernel
theorem dX0_weekdayOf_38 : decode cX0_weekdayOf 38 = .ok (.getfield 15, 3) := by decide +kernel
theorem dX0_weekdayOf_41 : decode cX0_weekdayOf 41 = .ok (.iconst 0, 1) := by decide +kernel
theorem dX0_weekdayOf_42 : decode cX0_weekdayOf 42 = .ok (.iaload, 1) := by decide +kernel
theorem dX0_weekdayOf_43 : decode cX0_weekdayOf 43 = .ok (.isub, 1) := by decide +kernel
theorem dX0_weekdayOf_44 : decode cX0_weekdayOf 44 = .ok (.bipush 10, 2) := by decide +kernel
theorem dX0_weekdayOf_46 : decode cX0_weekdayOf 46 = .ok (.irem, 1) := by decide +kernel
theorem dX0_weekdayOf_47 : decode cX0_weekdayOf 47 = .ok (.ireturn, 1) := by decide +kernel
theorem dX0_weekdayOf_48 : decode cX0_weekdayOf 48 = .ok (.iload_n 2, 1) := by decide +kernel
theorem dX0_weekdayOf_49 : decode cX0_weekdayOf 49 = .ok (.bipush 7, 2) := by decide +kernel
theorem dX0_weekdayOf_51 : decode cX0_weekdayOf 51 = .ok (.irem, 1) := by decide +kernel
theorem dX0_weekdayOf_52 : decode cX0_weekdayOf 52 = .ok (.ireturn, 1) := by decide +kernel
theorem dX0_monthIndex_0 : decode cX0_monthIndex 0 = .ok (.aload_n 0, 1) := by decide +kernel
theorem dX0_monthIndex_1 : decode cX0_monthIndex 1 = .ok (.iload_n 1, 1) := by decide +kernel
theorem dX0_monthIndex_2 : decode cX0_monthIndex 2 = .ok (.aload_n 0, 1) := by decide +kernel
theorem dX0_monthIndex_3 : decode cX0_monthIndex 3 = .ok (.iload_n 1, 1) := by decide +kernel
theorem dX0_monthIndex_4 : decode cX0_monthIndex 4 = .ok (.iload_n 2, 1) := by decide +kernel
theorem dX0_monthIndex_5 : decode cX0_monthIndex 5 = .ok (.invokevirtual 73, 3) := by decide +kernel
theorem dX0_monthIndex_8 : decode cX0_monthIndex 8 = .ok (.invokevirtual 54, 3) := by decide +kernel
theorem dX0_monthIndex_11 : decode cX0_monthIndex 11 = .ok (.aload_n 0, 1) := by decide +kernel
theorem dX0_monthIndex_12 : decode cX0_monthIndex 12 = .ok (.iload_n 1, 1) := by decide +kernel
theorem dX0_monthIndex_13 : decode cX0_monthIndex 13 = .ok (.iload_n 2, 1) := by decide +kernel
theorem dX0_monthIndex_14 : decode cX0_monthIndex 14 = .ok (.invokevirtual 76, 3) := by decide +kernel
theorem dX0_monthIndex_17 : decode cX0_monthIndex 17 = .ok (.iadd, 1) := by decide +kernel
theorem dX0_monthIndex_18 : decode cX0_monthIndex 18 = .ok (.iconst 1, 1) := by decide +kernel
theorem dX0_monthIndex_19 : decode cX0_monthIndex 19 = .ok (.isub, 1) := by decide +kernel
theorem dX0_monthIndex_20 : decode cX0_monthIndex 20 = .ok (.ireturn, 1) := by decide +kernel
theorem dX0_dayInMonth_0 : decode cX0_dayInMonth 0 = .ok (.aload_n 0, 1) := by decide +kernel
theorem dX0_dayInMonth_1 : decode cX0_dayInMonth 1 = .ok (.iload_n 1, 1) := by decide +kernel
theorem dX0_dayInMonth_2 : decode cX0_dayInMonth 2 = .ok (.iload_n 2, 1) := by decide +kernel
theorem dX0_dayInMonth_3 : decode cX0_dayInMonth 3 = .ok (.invokevirtual 83, 3) := by decide +kernel
theorem dX0_dayInMonth_6 : decode cX0_dayInMonth 6 = .ok (.istore 4, 2) := by decide +kernel
theorem dX0_dayInMonth_8 : decode cX0_dayInMonth 8 = .ok (.iload_n 2, 1) := by decide +kernel
theorem dX0_dayInMonth_9 : decode cX0_dayInMonth 9 = .ok (.aload_n 0, 1) := by decide +kernel
theorem dX0_dayInMonth_10 : decode cX0_dayInMonth 10 = .ok (.iload_n 1, 1) := by decide +kernel
theorem dX0_dayInMonth_11 : decode cX0_dayInMonth 11 = .ok (.iload 4, 2) := by decide +kernel
theorem dX0_dayInMonth_13 : decode cX0_dayInMonth 13 = .ok (.invokevirtual 54, 3) := by decide +kernel
theorem dX0_dayInMonth_16 : decode cX0_dayInMonth 16 = .ok (.isub, 1) := by decide +kernel
theorem dX0_dayInMonth_17 : decode cX0_dayInMonth 17 = .ok (.iconst 1, 1) := by decide +kernel
theorem dX0_dayInMonth_18 : decode cX0_dayInMonth 18 = .ok (.iadd, 1) := by decide +kernel
theorem dX0_dayInMonth_19 : decode cX0_dayInMonth 19 = .ok (.istore 5, 2) := by decide +kernel
theorem dX0_dayInMonth_21 : decode cX0_dayInMonth 21 = .ok (.iload_n 3, 1) := by decide +kernel
theorem dX0_dayInMonth_22 : decode cX0_dayInMonth 22 = .ok (.aload_n 0, 1) := by decide +kernel
theorem dX0_dayInMonth_23 : decode cX0_dayInMonth 23 = .ok (.iload_n 1, 1) := by decide +kernel
theorem dX0_dayInMonth_24 : decode cX0_dayInMonth 24 = .ok (.iload 4, 2) := by decide +kernel
theorem dX0_dayInMonth_26 : decode cX0_dayInMonth 26 = .ok (.iload 5, 2) := by decide +kernel
theorem dX0_dayInMonth_28 : decode cX0_dayInMonth 28 = .ok (.invokevirtual 86, 3) := by decide +kernel
theorem dX0_dayInMonth_31 : decode cX0_dayInMonth 31 = .ok (.invokestatic 49, 3) := by decide +kernel
theorem dX0_dayInMonth_34 : decode cX0_dayInMonth 34 = .ok (.istore 6, 2) := by decide +kernel
theorem dX0_dayInMonth_36 : decode cX0_dayInMonth 36 = .ok (.aload_n 0, 1) := by decide +kernel
theorem dX0_dayInMonth_37 : decode cX0_dayInMonth 37 = .ok (.iload_n 1, 1) := by decide +kernel
theorem dX0_dayInMonth_38 : decode cX0_dayInMonth 38 = .ok (.iload 4, 2) := by decide +kernel
theorem dX0_dayInMonth_40 : decode cX0_dayInMonth 40 = .ok (.iload 5, 2) := by decide +kernel
theorem dX0_dayInMonth_42 : decode cX0_dayInMonth 42 = .ok (.invokevirtual 79, 3) := by decide +kernel
theorem dX0_dayInMonth_45 : decode cX0_dayInMonth 45 = .ok (.iload 6, 2) := by decide +kernel
theorem dX0_dayInMonth_47 : decode cX0_dayInMonth 47 = .ok (.iadd, 1) := by decide +kernel
theorem dX0_dayInMonth_48 : decode cX0_dayInMonth 48 = .ok (.iconst 1, 1) := by decide +kernel
theorem dX0_dayInMonth_49 : decode cX0_dayInMonth 49 = .ok (.isub, 1) := by decide +kernel
theorem dX0_dayInMonth_50 : decode cX0_dayInMonth 50 = .ok (.ireturn, 1) := by decide +kernel
theorem dX0_anniversary_0 : decode cX0_anniversary 0 = .ok (.aload_n 0, 1) := by decide +kernel
theorem dX0_anniversary_1 : decode cX0_anniversary 1 = .ok (.iload_n 1, 1) := by decide +kernel
theorem dX0_anniversary_2 : decode cX0_anniversary 2 = .ok (.iload_n 2, 1) := by decide +kernel
theorem dX0_anniversary_3 : decode cX0_anniversary 3 = .ok (.invokevirtual 76, 3) := by decide +kernel
theorem dX0_anniversary_6 : decode cX0_anniversary 6 = .ok (.aload_n 0, 1) := by decide +kernel
theorem dX0_anniversary_7 : decode cX0_anniversary 7 = .ok (.iload_n 1, 1) := by decide +kernel
theorem dX0_anniversary_8 : decode cX0_anniversary 8 = .ok (.iload_n 3, 1) := by decide +kernel
theorem dX0_anniversary_9 : decode cX0_anniversary 9 = .ok (.invokevirtual 39, 3) := by decide +kernel
theorem dX0_anniversary_12 : decode cX0_anniversary 12 = .ok (.invokestatic 49, 3) := by decide +kernel
theorem dX0_anniversary_15 : decode cX0_anniversary 15 = .ok (.istore 4, 2) := by decide +kernel
theorem dX0_anniversary_17 : decode cX0_anniversary 17 = .ok (.aload_n 0, 1) := by decide +kernel
theorem dX0_anniversary_18 : decode cX0_anniversary 18 = .ok (.iload_n 1, 1) := by decide +kernel
theorem dX0_anniversary_19 : decode cX0_anniversary 19 = .ok (.iload_n 2, 1) := by decide +kernel
theorem dX0_anniversary_20 : decode cX0_anniversary 20 = .ok (.invokevirtual 89, 3) := by decide +kernel
theorem dX0_anniversary_23 : decode cX0_anniversary 23 = .ok (.aload_n 0, 1) := by decide +kernel
theorem dX0_anniversary_24 : decode cX0_anniversary 24 = .ok (.iload_n 1, 1) := by decide +kernel
theorem dX0_anniversary_25 : decode cX0_anniversary 25 = .ok (.iload_n 3, 1) := by decide +kernel
theorem dX0_anniversary_26 : decode cX0_anniversary 26 = .ok (.iload 4, 2) := by decide +kernel
theorem dX0_anniversary_28 : decode cX0_anniversary 28 = .ok (.invokevirtual 86, 3) := by decide +kernel
theorem dX0_anniversary_31 : decode cX0_anniversary 31 = .ok (.invokestatic 49, 3) := by decide +kernel
theorem dX0_anniversary_34 : decode cX0_anniversary 34 = .ok (.istore 5, 2) := by decide +kernel
theorem dX0_anniversary_36 : decode cX0_anniversary 36 = .ok (.aload_n 0, 1) := by decide +kernel
theorem dX0_anniversary_37 : decode cX0_anniversary 37 = .ok (.iload_n 1, 1) := by decide +kernel
theorem dX0_anniversary_38 : decode cX0_anniversary 38 = .ok (.iload_n 3, 1) := by decide +kernel
theorem dX0_anniversary_39 : decode cX0_anniversary 39 = .ok (.iload 4, 2) := by decide +kernel
theorem dX0_anniversary_41 : decode cX0_anniversary 41 = .ok (.invokevirtual 79, 3) := by decide +kernel
theorem dX0_anniversary_44 : decode cX0_anniversary 44 = .ok (.iload 5, 2) := by decide +kernel
theorem dX0_anniversary_46 : decode cX0_anniversary 46 = .ok (.iadd, 1) := by decide +kernel
theorem dX0_anniversary_47 : decode cX0_anniversary 47 = .ok (.iconst 1, 1) := by decide +kernel
theorem dX0_anniversary_48 : decode cX0_anniversary 48 = .ok (.isub, 1) := by decide +kernel
theorem dX0_anniversary_49 : decode cX0_anniversary 49 = .ok (.ireturn, 1) := by decide +kernel
theorem dX0_firstDayIn_0 : decode cX0_firstDayIn 0 = .ok (.iconst 0, 1) := by decide +kernel
theorem dX0_firstDayIn_1 : decode cX0_firstDayIn 1 = .ok (.aload_n 0, 1) := by decide +kernel
theorem dX0_firstDayIn_2 : decode cX0_firstDayIn 2 = .ok (.iconst 0, 1) := by decide +kernel
theorem dX0_firstDayIn_3 : decode cX0_firstDayIn 3 = .ok (.iload_n 1, 1) := by decide +kernel
theorem dX0_firstDayIn_4 : decode cX0_firstDayIn 4 = .ok (.invokevirtual 46, 3) := by decide +kernel
theorem dX0_firstDayIn_7 : decode cX0_firstDayIn 7 = .ok (.invokestatic 92, 3) := by decide +kernel
theorem dX0_firstDayIn_10 : decode cX0_firstDayIn 10 = .ok (.ireturn, 1) := by decide +kernel
theorem dX0_lastDayIn_0 : decode cX0_lastDayIn 0 = .ok (.ldc 95, 2) := by decide +kernel
theorem dX0_lastDayIn_2 : decode cX0_lastDayIn 2 = .ok (.aload_n 0, 1) := by decide +kernel
theorem dX0_lastDayIn_3 : decode cX0_lastDayIn 3 = .ok (.iconst 0, 1) := by decide +kernel
theorem dX0_lastDayIn_4 : decode cX0_lastDayIn 4 = .ok (.iload_n 1, 1) := by decide +kernel
theorem dX0_lastDayIn_5 : decode cX0_lastDayIn 5 = .ok (.iconst 1, 1) := by decide +kernel
theorem dX0_lastDayIn_6 : decode cX0_lastDayIn 6 = .ok (.iadd, 1) := by decide +kernel
theorem dX0_lastDayIn_7 : decode cX0_lastDayIn 7 = .ok (.invokevirtual 46, 3) := by decide +kernel
theorem dX0_lastDayIn_10 : decode cX0_lastDayIn 10 = .ok (.iconst 1, 1) := by decide +kernel
theorem dX0_lastDayIn_11 : decode cX0_lastDayIn 11 = .ok (.isub, 1) := by decide +kernel
theorem dX0_lastDayIn_12 : decode cX0_lastDayIn 12 = .ok (.invokestatic 49, 3) := by decide +kernel
theorem dX0_lastDayIn_15 : decode cX0_lastDayIn 15 = .ok (.ireturn, 1) := by decide +kernel
theorem dX0_movableDay_0 : decode cX0_movableDay 0 = .ok (.iload_n 2, 1) := by decide +kernel
theorem dX0_movableDay_1 : decode cX0_movableDay 1 = .ok (.bipush 19, 2) := by decide +kernel
theorem dX0_movableDay_3 : decode cX0_movableDay 3 = .ok (.irem, 1) := by decide +kernel
theorem dX0_movableDay_4 : decode cX0_movableDay 4 = .ok (.istore_n 3, 1) := by decide +kernel
theorem dX0_movableDay_5 : decode cX0_movableDay 5 = .ok (.iload_n 1, 1) := by decide +kernel
theorem dX0_movableDay_6 : decode cX0_movableDay 6 = .ok (.iconst 1, 1) := by decide +kernel
theorem dX0_movableDay_7 : decode cX0_movableDay 7 = .ok (.if_icmp .ne 11, 3) := by decide +kernel
theorem dX0_movableDay_10 : decode cX0_movableDay 10 = .ok (.iload_n 3, 1) := by decide +kernel
theorem dX0_movableDay_11 : decode cX0_movableDay 11 = .ok (.iload_n 2, 1) := by decide +kernel
theorem dX0_movableDay_12 : decode cX0_movableDay 12 = .ok (.invokestatic 96, 3) := by decide +kernel
theorem dX0_movableDay_15 : decode cX0_movableDay 15 = .ok (.goto 8, 3) := by decide +kernel
theorem dX0_movableDay_18 : decode cX0_movableDay 18 = .ok (.iload_n 3, 1) := by decide +kernel
theorem dX0_movableDay_19 : decode cX0_movableDay 19 = .ok (.iload_n 2, 1) := by decide +kernel
theorem dX0_movableDay_20 : decode cX0_movableDay 20 = .ok (.invokestatic 99, 3) := by decide +kernel
theorem dX0_movableDay_23 : decode cX0_movableDay 23 = .ok (.istore 4, 2) := by decide +kernel
theorem dX0_movableDay_25 : decode cX0_movableDay 25 = .ok (.iconst 3, 1) := by decide +kernel
theorem dX0_movableDay_26 : decode cX0_movableDay 26 = .ok (.iload 4, 2) := by decide +kernel
theorem dX0_movableDay_28 : decode cX0_movableDay 28 = .ok (.bipush 40, 2) := by decide +kernel
theorem dX0_movableDay_30 : decode cX0_movableDay 30 = .ok (.iadd, 1) := by decide +kernel
theorem dX0_movableDay_31 : decode cX0_movableDay 31 = .ok (.bipush 44, 2) := by decide +kernel
theorem dX0_movableDay_33 : decode cX0_movableDay 33 = .ok (.idiv, 1) := by decide +kernel
theorem dX0_movableDay_34 : decode cX0_movableDay 34 = .ok (.iadd, 1) := by decide +kernel
theorem dX0_movableDay_35 : decode cX0_movableDay 35 = .ok (.istore 5, 2) := by decide +kernel
theorem dX0_movableDay_37 : decode cX0_movableDay 37 = .ok (.iload 4, 2) := by decide +kernel
theorem dX0_movableDay_39 : decode cX0_movableDay 39 = .ok (.bipush 28, 2) := by decide +kernel
theorem dX0_movableDay_41 : decode cX0_movableDay 41 = .ok (.iadd, 1) := by decide +kernel
theorem dX0_movableDay_42 : decode cX0_movableDay 42 = .ok (.bipush 31, 2) := by decide +kernel
theorem dX0_movableDay_44 : decode cX0_movableDay 44 = .ok (.iload 5, 2) := by decide +kernel
theorem dX0_movableDay_46 : decode cX0_movableDay 46 = .ok (.iconst 4, 1) := by decide +kernel
theorem dX0_movableDay_47 : decode cX0_movableDay 47 = .ok (.idiv, 1) := by decide +kernel
theorem dX0_movableDay_48 : decode cX0_movableDay 48 = .ok (.imul, 1) := by decide +kernel
theorem dX0_movableDay_49 : decode cX0_movableDay 49 = .ok (.isub, 1) := by decide +kernel
theorem dX0_movableDay_50 : decode cX0_movableDay 50 = .ok (.istore 6, 2) := by decide +kernel
theorem dX0_movableDay_52 : decode cX0_movableDay 52 = .ok (.aload_n 0, 1) := by decide +kernel
theorem dX0_movableDay_53 : decode cX0_movableDay 53 = .ok (.iload_n 1, 1) := by decide +kernel
theorem dX0_movableDay_54 : decode cX0_movableDay 54 = .ok (.iload_n 2, 1) := by decide +kernel
theorem dX0_movableDay_55 : decode cX0_movableDay 55 = .ok (.iload 5, 2) := by decide +kernel
theorem dX0_movableDay_57 : decode cX0_movableDay 57 = .ok (.invokevirtual 79, 3) := by decide +kernel
theorem dX0_movableDay_60 : decode cX0_movableDay 60 = .ok (.iload 6, 2) := by decide +kernel
theorem dX0_movableDay_62 : decode cX0_movableDay 62 = .ok (.iadd, 1) := by decide +kernel
theorem dX0_movableDay_63 : decode cX0_movableDay 63 = .ok (.iconst 1, 1) := by decide +kernel
theorem dX0_movableDay_64 : decode cX0_movableDay 64 = .ok (.isub, 1) := by decide +kernel
theorem dX0_movableDay_65 : decode cX0_movableDay 65 = .ok (.ireturn, 1) := by decide +kernel
theorem dX0_oldStyleShift_0 : decode cX0_oldStyleShift 0 = .ok (.bipush 19, 2) := by decide +kernel
theorem dX0_oldStyleShift_2 : decode cX0_oldStyleShift 2 = .ok (.iload_n 0, 1) := by decide +kernel
theorem dX0_oldStyleShift_3 : decode cX0_oldStyleShift 3 = .ok (.imul, 1) := by decide +kernel
theorem dX0_oldStyleShift_4 : decode cX0_oldStyleShift 4 = .ok (.bipush 15, 2) := by decide +kernel
theorem dX0_oldStyleShift_6 : decode cX0_oldStyleShift 6 = .ok (.iadd, 1) := by decide +kernel
theorem dX0_oldStyleShift_7 : decode cX0_oldStyleShift 7 = .ok (.bipush 30, 2) := by decide +kernel
theorem dX0_oldStyleShift_9 : decode cX0_oldStyleShift 9 = .ok (.irem, 1) := by decide +kernel
theorem dX0_oldStyleShift_10 : decode cX0_oldStyleShift 10 = .ok (.istore_n 2, 1) := by decide +kernel
theorem dX0_oldStyleShift_11 : decode cX0_oldStyleShift 11 = .ok (.iload_n 2, 1) := by decide +kernel
theorem dX0_oldStyleShift_12 : decode cX0_oldStyleShift 12 = .ok (.iload_n 1, 1) := by decide +kernel
theorem dX0_oldStyleShift_13 : decode cX0_oldStyleShift 13 = .ok (.iload_n 1, 1) := by decide +kernel
theorem dX0_oldStyleShift_14 : decode cX0_oldStyleShift 14 = .ok (.iconst 4, 1) := by decide +kernel
theorem dX0_oldStyleShift_15 : decode cX0_oldStyleShift 15 = .ok (.idiv, 1) := by decide +kernel
theorem dX0_oldStyleShift_16 : decode cX0_oldStyleShift 16 = .ok (.iadd, 1) := by decide +kernel
theorem dX0_oldStyleShift_17 : decode cX0_oldStyleShift 17 = .ok (.iload_n 2, 1) := by decide +kernel
theorem dX0_oldStyleShift_18 : decode cX0_oldStyleShift 18 = .ok (.iadd, 1) := by decide +kernel
theorem dX0_oldStyleShift_19 : decode cX0_oldStyleShift 19 = .ok (.bipush 7, 2) := by decide +kernel
theorem dX0_oldStyleShift_21 : decode cX0_oldStyleShift 21 = .ok (.irem, 1) := by decide +kernel
theorem dX0_oldStyleShift_22 : decode cX0_oldStyleShift 22 = .ok (.isub, 1) := by decide +kernel
theorem dX0_oldStyleShift_23 : decode cX0_oldStyleShift 23 = .ok (.ireturn, 1) := by decide +kernel
theorem dX0_newStyleShift_0 : decode cX0_newStyleShift 0 = .ok (.iload_n 1, 1) := by decide +kernel
theorem dX0_newStyleShift_1 : decode cX0_newStyleShift 1 = .ok (.bipush 100, 2) := by decide +kernel
theorem dX0_newStyleShift_3 : decode cX0_newStyleShift 3 = .ok (.idiv, 1) := by decide +kernel
theorem dX0_newStyleShift_4 : decode cX0_newStyleShift 4 = .ok (.istore_n 2, 1) := by decide +kernel
theorem dX0_newStyleShift_5 : decode cX0_newStyleShift 5 = .ok (.iload_n 2, 1) := by decide +kernel
theorem dX0_newStyleShift_6 : decode cX0_newStyleShift 6 = .ok (.iload_n 2, 1) := by decide +kernel
theorem dX0_newStyleShift_7 : decode cX0_newStyleShift 7 = .ok (.iconst 4, 1) := by decide +kernel
theorem dX0_newStyleShift_8 : decode cX0_newStyleShift 8 = .ok (.idiv, 1) := by decide +kernel
theorem dX0_newStyleShift_9 : decode cX0_newStyleShift 9 = .ok (.isub, 1) := by decide +kernel
theorem dX0_newStyleShift_10 : decode cX0_newStyleShift 10 = .ok (.bipush 8, 2) := by decide +kernel
theorem dX0_newStyleShift_12 : decode cX0_newStyleShift 12 = .ok (.iload_n 2, 1) := by decide +kernel
theorem dX0_newStyleShift_13 : decode cX0_newStyleShift 13 = .ok (.imul, 1) := by decide +kernel
theorem dX0_newStyleShift_14 : decode cX0_newStyleShift 14 = .ok (.bipush 13, 2) := by decide +kernel
theorem dX0_newStyleShift_16 : decode cX0_newStyleShift 16 = .ok (.iadd, 1) := by decide +kernel
theorem dX0_newStyleShift_17 : decode cX0_newStyleShift 17 = .ok (.bipush 25, 2) := by decide +kernel
theorem dX0_newStyleShift_19 : decode cX0_newStyleShift 19 = .ok (.idiv, 1) := by decide +kernel
theorem dX0_newStyleShift_20 : decode cX0_newStyleShift 20 = .ok (.isub, 1) := by decide +kernel
theorem dX0_newStyleShift_21 : decode cX0_newStyleShift 21 = .ok (.bipush 19, 2) := by decide +kernel
theorem dX0_newStyleShift_23 : decode cX0_newStyleShift 23 = .ok (.iload_n 0, 1) := by decide +kernel
theorem dX0_newStyleShift_24 : decode cX0_newStyleShift 24 = .ok (.imul, 1) := by decide +kernel
theorem dX0_newStyleShift_25 : decode cX0_newStyleShift 25 = .ok (.iadd, 1) := by decide +kernel
theorem dX0_newStyleShift_26 : decode cX0_newStyleShift 26 = .ok (.bipush 15, 2) := by decide +kernel
theorem dX0_newStyleShift_28 : decode cX0_newStyleShift 28 = .ok (.iadd, 1) := by decide +kernel
theorem dX0_newStyleShift_29 : decode cX0_newStyleShift 29 = .ok (.bipush 30, 2) := by decide +kernel
theorem dX0_newStyleShift_31 : decode cX0_newStyleShift 31 = .ok (.invokestatic 102, 3) := by decide +kernel
theorem dX0_newStyleShift_34 : decode cX0_newStyleShift 34 = .ok (.istore_n 3, 1) := by decide +kernel
theorem dX0_newStyleShift_35 : decode cX0_newStyleShift 35 = .ok (.iload_n 3, 1) := by decide +kernel
theorem dX0_newStyleShift_36 : decode cX0_newStyleShift 36 = .ok (.iload_n 3, 1) := by decide +kernel
theorem dX0_newStyleShift_37 : decode cX0_newStyleShift 37 = .ok (.bipush 28, 2) := by decide +kernel
theorem dX0_newStyleShift_39 : decode cX0_newStyleShift 39 = .ok (.idiv, 1) := by decide +kernel
theorem dX0_newStyleShift_40 : decode cX0_newStyleShift 40 = .ok (.iconst 1, 1) := by decide +kernel
theorem dX0_newStyleShift_41 : decode cX0_newStyleShift 41 = .ok (.bipush 29, 2) := by decide +kernel
theorem dX0_newStyleShift_43 : decode cX0_newStyleShift 43 = .ok (.iload_n 3, 1) := by decide +kernel
theorem dX0_newStyleShift_44 : decode cX0_newStyleShift 44 = .ok (.iconst 1, 1) := by decide +kernel
theorem dX0_newStyleShift_45 : decode cX0_newStyleShift 45 = .ok (.iadd, 1) := by decide +kernel
theorem dX0_newStyleShift_46 : decode cX0_newStyleShift 46 = .ok (.idiv, 1) := by decide +kernel
theorem dX0_newStyleShift_47 : decode cX0_newStyleShift 47 = .ok (.bipush 21, 2) := by decide +kernel
theorem dX0_newStyleShift_49 : decode cX0_newStyleShift 49 = .ok (.iload_n 0, 1) := by decide +kernel
theorem dX0_newStyleShift_50 : decode cX0_newStyleShift 50 = .ok (.isub, 1) := by decide +kernel
theorem dX0_newStyleShift_51 : decode cX0_newStyleShift 51 = .ok (.bipush 11, 2) := by decide +kernel
theorem dX0_newStyleShift_53 : decode cX0_newStyleShift 53 = .ok (.idiv, 1) := by decide +kernel
theorem dX0_newStyleShift_54 : decode cX0_newStyleShift 54 = .ok (.imul, 1) := by decide +kernel
theorem dX0_newStyleShift_55 : decode cX0_newStyleShift 55 = .ok (.isub, 1) := by decide +kernel
theorem dX0_newStyleShift_56 : decode cX0_newStyleShift 56 = .ok (.imul, 1) := by decide +kernel
theorem dX0_newStyleShift_57 : decode cX0_newStyleShift 57 = .ok (.isub, 1) := by decide +kernel
theorem dX0_newStyleShift_58 : decode cX0_newStyleShift 58 = .ok (.istore 4, 2) := by decide +kernel
theorem dX0_newStyleShift_60 : decode cX0_newStyleShift 60 = .ok (.iload 4, 2) := by decide +kernel
theorem dX0_newStyleShift_62 : decode cX0_newStyleShift 62 = .ok (.iload_n 1, 1) := by decide +kernel
theorem dX0_newStyleShift_63 : decode cX0_newStyleShift 63 = .ok (.iload_n 1, 1) := by decide +kernel
theorem dX0_newStyleShift_64 : decode cX0_newStyleShift 64 = .ok (.iconst 4, 1) := by decide +kernel
theorem dX0_newStyleShift_65 : decode cX0_newStyleShift 65 = .ok (.idiv, 1) := by decide +kernel
theorem dX0_newStyleShift_66 : decode cX0_newStyleShift 66 = .ok (.iadd, 1) := by decide +kernel
theorem dX0_newStyleShift_67 : decode cX0_newStyleShift 67 = .ok (.iload 4, 2) := by decide +kernel
theorem dX0_newStyleShift_69 : decode cX0_newStyleShift 69 = .ok (.iadd, 1) := by decide +kernel
theorem dX0_newStyleShift_70 : decode cX0_newStyleShift 70 = .ok (.iconst 2, 1) := by decide +kernel
theorem dX0_newStyleShift_71 : decode cX0_newStyleShift 71 = .ok (.iadd, 1) := by decide +kernel
theorem dX0_newStyleShift_72 : decode cX0_newStyleShift 72 = .ok (.iload_n 2, 1) := by decide +kernel
theorem dX0_newStyleShift_73 : decode cX0_newStyleShift 73 = .ok (.isub, 1) := by decide +kernel
theorem dX0_newStyleShift_74 : decode cX0_newStyleShift 74 = .ok (.iload_n 2, 1) := by decide +kernel
theorem dX0_newStyleShift_75 : decode cX0_newStyleShift 75 = .ok (.iconst 4, 1) := by decide +kernel
theorem dX0_newStyleShift_76 : decode cX0_newStyleShift 76 = .ok (.idiv, 1) := by decide +kernel
theorem dX0_newStyleShift_77 : decode cX0_newStyleShift 77 = .ok (.iadd, 1) := by decide +kernel
theorem dX0_newStyleShift_78 : decode cX0_newStyleShift 78 = .ok (.bipush 7, 2) := by decide +kernel
theorem dX0_newStyleShift_80 : decode cX0_newStyleShift 80 = .ok (.invokestatic 102, 3) := by decide +kernel
theorem dX0_newStyleShift_83 : decode cX0_newStyleShift 83 = .ok (.isub, 1) := by decide +kernel
theorem dX0_newStyleShift_84 : decode cX0_newStyleShift 84 = .ok (.ireturn, 1) := by decide +kernel
theorem dX0_startOfRow_0 : decode cX0_startOfRow 0 = .ok (.aload_n 0, 1) := by decide +kernel
theorem dX0_startOfRow_1 : decode cX0_startOfRow 1 = .ok (.getfield 15, 3) := by decide +kernel
theorem dX0_startOfRow_4 : decode cX0_startOfRow 4 = .ok (.iload_n 1, 1) := by decide +kernel
theorem dX0_startOfRow_5 : decode cX0_startOfRow 5 = .ok (.ifCond .ge 7, 3) := by decide +kernel
theorem dX0_startOfRow_8 : decode cX0_startOfRow 8 = .ok (.iconst 0, 1) := by decide +kernel
theorem dX0_startOfRow_9 : decode cX0_startOfRow 9 = .ok (.goto 19, 3) := by decide +kernel
theorem dX0_startOfRow_12 : decode cX0_startOfRow 12 = .ok (.iload_n 1, 1) := by decide +kernel
theorem dX0_startOfRow_13 : decode cX0_startOfRow 13 = .ok (.aload_n 0, 1) := by decide +kernel
theorem dX0_startOfRow_14 : decode cX0_startOfRow 14 = .ok (.getfield 25, 3) := by decide +kernel
theorem dX0_startOfRow_17 : decode cX0_startOfRow 17 = .ok (.if_icmp .le 10, 3) := by decide +kernel
theorem dX0_startOfRow_20 : decode cX0_startOfRow 20 = .ok (.aload_n 0, 1) := by decide +kernel
theorem dX0_startOfRow_21 : decode cX0_startOfRow 21 = .ok (.getfield 25, 3) := by decide +kernel
theorem dX0_startOfRow_24 : decode cX0_startOfRow 24 = .ok (.goto 4, 3) := by decide +kernel
theorem dX0_startOfRow_27 : decode cX0_startOfRow 27 = .ok (.iload_n 1, 1) := by decide +kernel
theorem dX0_startOfRow_28 : decode cX0_startOfRow 28 = .ok (.iaload, 1) := by decide +kernel
theorem dX0_startOfRow_29 : decode cX0_startOfRow 29 = .ok (.ireturn, 1) := by decide +kernel
theorem dX0_mayFollow_0 : decode cX0_mayFollow 0 = .ok (.aload_n 0, 1) := by decide +kernel
theorem dX0_mayFollow_1 : decode cX0_mayFollow 1 = .ok (.getfield 25, 3) := by decide +kernel
theorem dX0_mayFollow_4 : decode cX0_mayFollow 4 = .ok (.ifCond .eq 15, 3) := by decide +kernel
theorem dX0_mayFollow_7 : decode cX0_mayFollow 7 = .ok (.iload_n 1, 1) := by decide +kernel
theorem dX0_mayFollow_8 : decode cX0_mayFollow 8 = .ok (.aload_n 0, 1) := by decide +kernel
theorem dX0_mayFollow_9 : decode cX0_mayFollow 9 = .ok (.aload_n 0, 1) := by decide +kernel
theorem dX0_mayFollow_10 : decode cX0_mayFollow 10 = .ok (.getfield 25, 3) := by decide +kernel
theorem dX0_mayFollow_13 : decode cX0_mayFollow 13 = .ok (.invokevirtual 43, 3) := by decide +kernel
theorem dX0_mayFollow_16 : decode cX0_mayFollow 16 = .ok (.if_icmp .ne 7, 3) := by decide +kernel
theorem dX0_mayFollow_19 : decode cX0_mayFollow 19 = .ok (.iconst 1, 1) := by decide +kernel
theorem dX0_mayFollow_20 : decode cX0_mayFollow 20 = .ok (.goto 4, 3) := by decide +kernel
theorem dX0_mayFollow_23 : decode cX0_mayFollow 23 = .ok (.iconst 0, 1) := by decide +kernel
theorem dX0_mayFollow_24 : decode cX0_mayFollow 24 = .ok (.ireturn, 1) := by decide +kernel
theorem dX0_addRow_0 : decode cX0_addRow 0 = .ok (.aload_n 0, 1) := by decide +kernel
theorem dX0_addRow_1 : decode cX0_addRow 1 = .ok (.getfield 25, 3) := by decide +kernel
theorem dX0_addRow_4 : decode cX0_addRow 4 = .ok (.sipush 500, 3) := by decide +kernel
theorem dX0_addRow_7 : decode cX0_addRow 7 = .ok (.if_icmp .ge 35, 3) := by decide +kernel
theorem dX0_addRow_10 : decode cX0_addRow 10 = .ok (.aload_n 0, 1) := by decide +kernel
theorem dX0_addRow_11 : decode cX0_addRow 11 = .ok (.getfield 15, 3) := by decide +kernel
theorem dX0_addRow_14 : decode cX0_addRow 14 = .ok (.aload_n 0, 1) := by decide +kernel
theorem dX0_addRow_15 : decode cX0_addRow 15 = .ok (.getfield 25, 3) := by decide +kernel
theorem dX0_addRow_18 : decode cX0_addRow 18 = .ok (.iload_n 1, 1) := by decide +kernel
theorem dX0_addRow_19 : decode cX0_addRow 19 = .ok (.iastore, 1) := by decide +kernel
theorem dX0_addRow_20 : decode cX0_addRow 20 = .ok (.aload_n 0, 1) := by decide +kernel
theorem dX0_addRow_21 : decode cX0_addRow 21 = .ok (.dup, 1) := by decide +kernel
theorem dX0_addRow_22 : decode cX0_addRow 22 = .ok (.getfield 25, 3) := by decide +kernel
theorem dX0_addRow_25 : decode cX0_addRow 25 = .ok (.iconst 1, 1) := by decide +kernel
theorem dX0_addRow_26 : decode cX0_addRow 26 = .ok (.iadd, 1) := by decide +kernel
theorem dX0_addRow_27 : decode cX0_addRow 27 = .ok (.putfield 25, 3) := by decide +kernel
theorem dX0_addRow_30 : decode cX0_addRow 30 = .ok (.aload_n 0, 1) := by decide +kernel
theorem dX0_addRow_31 : decode cX0_addRow 31 = .ok (.getfield 15, 3) := by decide +kernel
theorem dX0_addRow_34 : decode cX0_addRow 34 = .ok (.aload_n 0, 1) := by decide +kernel
theorem dX0_addRow_35 : decode cX0_addRow 35 = .ok (.getfield 25, 3) := by decide +kernel
theorem dX0_addRow_38 : decode cX0_addRow 38 = .ok (.iload_n 1, 1) := by decide +kernel
theorem dX0_addRow_39 : decode cX0_addRow 39 = .ok (.iload_n 2, 1) := by decide +kernel
theorem dX0_addRow_40 : decode cX0_addRow 40 = .ok (.iadd, 1) := by decide +kernel
theorem dX0_addRow_41 : decode cX0_addRow 41 = .ok (.iastore, 1) := by decide +kernel
theorem dX0_addRow_42 : decode cX0_addRow 42 = .ok (.return_, 1) := by decide +kernel
theorem dX0_dropRow_0 : decode cX0_dropRow 0 = .ok (.aload_n 0, 1) := by decide +kernel
theorem dX0_dropRow_1 : decode cX0_dropRow 1 = .ok (.getfield 25, 3) := by decide +kernel
theorem dX0_dropRow_4 : decode cX0_dropRow 4 = .ok (.ifCond .le 13, 3) := by decide +kernel
theorem dX0_dropRow_7 : decode cX0_dropRow 7 = .ok (.aload_n 0, 1) := by decide +kernel
theorem dX0_dropRow_8 : decode cX0_dropRow 8 = .ok (.dup, 1) := by decide +kernel
theorem dX0_dropRow_9 : decode cX0_dropRow 9 = .ok (.getfield 25, 3) := by decide +kernel
theorem dX0_dropRow_12 : decode cX0_dropRow 12 = .ok (.iconst 1, 1) := by decide +kernel
theorem dX0_dropRow_13 : decode cX0_dropRow 13 = .ok (.isub, 1) := by decide +kernel
theorem dX0_dropRow_14 : decode cX0_dropRow 14 = .ok (.putfield 25, 3) := by decide +kernel
theorem dX0_dropRow_17 : decode cX0_dropRow 17 = .ok (.return_, 1) := by decide +kernel
theorem dX1_init_0 : decode cX1_init 0 = .ok (.aload_n 0, 1) := by decide +kernel
theorem dX1_init_1 : decode cX1_init 1 = .ok (.invokespecial 3, 3) := by decide +kernel
theorem dX1_init_4 : decode cX1_init 4 = .ok (.aload_n 0, 1) := by decide +kernel
theorem dX1_init_5 : decode cX1_init 5 = .ok (.bipush 100, 2) := by decide +kernel
theorem dX1_init_7 : decode cX1_init 7 = .ok (.newarray .int, 2) := by decide +kernel
theorem dX1_init_9 : decode cX1_init 9 = .ok (.putfield 11, 3) := by decide +kernel
theorem dX1_init_12 : decode cX1_init 12 = .ok (.return_, 1) := by decide +kernel
theorem dX1_note_0 : decode cX1_note 0 = .ok (.aload_n 0, 1) := by decide +kernel
theorem dX1_note_1 : decode cX1_note 1 = .ok (.getfield 11, 3) := by decide +kernel
theorem dX1_note_4 : decode cX1_note 4 = .ok (.aload_n 0, 1) := by decide +kernel
theorem dX1_note_5 : decode cX1_note 5 = .ok (.getfield 15, 3) := by decide +kernel
theorem dX1_note_8 : decode cX1_note 8 = .ok (.iload_n 1, 1) := by decide +kernel
theorem dX1_note_9 : decode cX1_note 9 = .ok (.iastore, 1) := by decide +kernel
theorem dX1_note_10 : decode cX1_note 10 = .ok (.aload_n 0, 1) := by decide +kernel
theorem dX1_note_11 : decode cX1_note 11 = .ok (.aload_n 0, 1) := by decide +kernel
theorem dX1_note_12 : decode cX1_note 12 = .ok (.getfield 15, 3) := by decide +kernel
theorem dX1_note_15 : decode cX1_note 15 = .ok (.iconst 1, 1) := by decide +kernel
theorem dX1_note_16 : decode cX1_note 16 = .ok (.iadd, 1) := by decide +kernel
theorem dX1_note_17 : decode cX1_note 17 = .ok (.bipush 100, 2) := by decide +kernel
theorem dX1_note_19 : decode cX1_note 19 = .ok (.irem, 1) := by decide +kernel
theorem dX1_note_20 : decode cX1_note 20 = .ok (.putfield 15, 3) := by decide +kernel
theorem dX1_note_23 : decode cX1_note 23 = .ok (.aload_n 0, 1) := by decide +kernel
theorem dX1_note_24 : decode cX1_note 24 = .ok (.bipush 100, 2) := by decide +kernel
theorem dX1_note_26 : decode cX1_note 26 = .ok (.aload_n 0, 1) := by decide +kernel
theorem dX1_note_27 : decode cX1_note 27 = .ok (.getfield 19, 3) := by decide +kernel
theorem dX1_note_30 : decode cX1_note 30 = .ok (.iconst 1, 1) := by decide +kernel
theorem dX1_note_31 : decode cX1_note 31 = .ok (.iadd, 1) := by decide +kernel
theorem dX1_note_32 : decode cX1_note 32 = .ok (.invokestatic 22, 3) := by decide +kernel
theorem dX1_note_35 : decode cX1_note 35 = .ok (.putfield 19, 3) := by decide +kernel
theorem dX1_note_38 : decode cX1_note 38 = .ok (.return_, 1) := by decide +kernel
theorem dX1_takeBack_0 : decode cX1_takeBack 0 = .ok (.aload_n 0, 1) := by decide +kernel
theorem dX1_takeBack_1 : decode cX1_takeBack 1 = .ok (.getfield 19, 3) := by decide +kernel
theorem dX1_takeBack_4 : decode cX1_takeBack 4 = .ok (.ifCond .ne 6, 3) := by decide +kernel
theorem dX1_takeBack_7 : decode cX1_takeBack 7 = .ok (.bipush (-2), 2) := by decide +kernel
theorem dX1_takeBack_9 : decode cX1_takeBack 9 = .ok (.ireturn, 1) := by decide +kernel
theorem dX1_takeBack_10 : decode cX1_takeBack 10 = .ok (.aload_n 0, 1) := by decide +kernel
theorem dX1_takeBack_11 : decode cX1_takeBack 11 = .ok (.dup, 1) := by decide +kernel
theorem dX1_takeBack_12 : decode cX1_takeBack 12 = .ok (.getfield 19, 3) := by decide +kernel
theorem dX1_takeBack_15 : decode cX1_takeBack 15 = .ok (.iconst 1, 1) := by decide +kernel
theorem dX1_takeBack_16 : decode cX1_takeBack 16 = .ok (.isub, 1) := by decide +kernel
theorem dX1_takeBack_17 : decode cX1_takeBack 17 = .ok (.putfield 19, 3) := by decide +kernel
theorem dX1_takeBack_20 : decode cX1_takeBack 20 = .ok (.aload_n 0, 1) := by decide +kernel
theorem dX1_takeBack_21 : decode cX1_takeBack 21 = .ok (.aload_n 0, 1) := by decide +kernel
theorem dX1_takeBack_22 : decode cX1_takeBack 22 = .ok (.getfield 15, 3) := by decide +kernel
theorem dX1_takeBack_25 : decode cX1_takeBack 25 = .ok (.bipush 100, 2) := by decide +kernel
theorem dX1_takeBack_27 : decode cX1_takeBack 27 = .ok (.iadd, 1) := by decide +kernel
theorem dX1_takeBack_28 : decode cX1_takeBack 28 = .ok (.iconst 1, 1) := by decide +kernel
theorem dX1_takeBack_29 : decode cX1_takeBack 29 = .ok (.isub, 1) := by decide +kernel
theorem dX1_takeBack_30 : decode cX1_takeBack 30 = .ok (.bipush 100, 2) := by decide +kernel
theorem dX1_takeBack_32 : decode cX1_takeBack 32 = .ok (.irem, 1) := by decide +kernel
theorem dX1_takeBack_33 : decode cX1_takeBack 33 = .ok (.putfield 15, 3) := by decide +kernel
theorem dX1_takeBack_36 : decode cX1_takeBack 36 = .ok (.aload_n 0, 1) := by decide +kernel
theorem dX1_takeBack_37 : decode cX1_takeBack 37 = .ok (.getfield 11, 3) := by decide +kernel
theorem dX1_takeBack_40 : decode cX1_takeBack 40 = .ok (.aload_n 0, 1) := by decide +kernel
theorem dX1_takeBack_41 : decode cX1_takeBack 41 = .ok (.getfield 15, 3) := by decide +kernel
theorem dX1_takeBack_44 : decode cX1_takeBack 44 = .ok (.iaload, 1) := by decide +kernel
theorem dX1_takeBack_45 : decode cX1_takeBack 45 = .ok (.ireturn, 1) := by decide +kernel
theorem dX2_init_0 : decode cX2_init 0 = .ok (.aload_n 0, 1) := by decide +kernel
theorem dX2_init_1 : decode cX2_init 1 = .ok (.invokespecial 3, 3) := by decide +kernel
theorem dX2_init_4 : decode cX2_init 4 = .ok (.aload_n 0, 1) := by decide +kernel
theorem dX2_init_5 : decode cX2_init 5 = .ok (.bipush 60, 2) := by decide +kernel
theorem dX2_init_7 : decode cX2_init 7 = .ok (.newarray .int, 2) := by decide +kernel
theorem dX2_init_9 : decode cX2_init 9 = .ok (.putfield 11, 3) := by decide +kernel
theorem dX2_init_12 : decode cX2_init 12 = .ok (.aload_n 0, 1) := by decide +kernel
theorem dX2_init_13 : decode cX2_init 13 = .ok (.bipush 60, 2) := by decide +kernel
theorem dX2_init_15 : decode cX2_init 15 = .ok (.newarray .int, 2) := by decide +kernel
theorem dX2_init_17 : decode cX2_init 17 = .ok (.putfield 15, 3) := by decide +kernel
theorem dX2_init_20 : decode cX2_init 20 = .ok (.aload_n 0, 1) := by decide +kernel
theorem dX2_init_21 : decode cX2_init 21 = .ok (.bipush 60, 2) := by decide +kernel
theorem dX2_init_23 : decode cX2_init 23 = .ok (.newarray .int, 2) := by decide +kernel
theorem dX2_init_25 : decode cX2_init 25 = .ok (.putfield 18, 3) := by decide +kernel
theorem dX2_init_28 : decode cX2_init 28 = .ok (.aload_n 0, 1) := by decide +kernel
theorem dX2_init_29 : decode cX2_init 29 = .ok (.bipush 60, 2) := by decide +kernel
theorem dX2_init_31 : decode cX2_init 31 = .ok (.newarray .int, 2) := by decide +kernel
theorem dX2_init_33 : decode cX2_init 33 = .ok (.putfield 21, 3) := by decide +kernel
theorem dX2_init_36 : decode cX2_init 36 = .ok (.aload_n 0, 1) := by decide +kernel
theorem dX2_init_37 : decode cX2_init 37 = .ok (.bipush 60, 2) := by decide +kernel
theorem dX2_init_39 : decode cX2_init 39 = .ok (.newarray .int, 2) := by decide +kernel
theorem dX2_init_41 : decode cX2_init 41 = .ok (.putfield 24, 3) := by decide +kernel
theorem dX2_init_44 : decode cX2_init 44 = .ok (.aload_n 0, 1) := by decide +kernel
theorem dX2_init_45 : decode cX2_init 45 = .ok (.bipush 60, 2) := by decide +kernel
theorem dX2_init_47 : decode cX2_init 47 = .ok (.newarray .int, 2) := by decide +kernel
theorem dX2_init_49 : decode cX2_init 49 = .ok (.putfield 27, 3) := by decide +kernel
theorem dX2_init_52 : decode cX2_init 52 = .ok (.aload_n 0, 1) := by decide +kernel
theorem dX2_init_53 : decode cX2_init 53 = .ok (.bipush 8, 2) := by decide +kernel
theorem dX2_init_55 : decode cX2_init 55 = .ok (.newarray .int, 2) := by decide +kernel
theorem dX2_init_57 : decode cX2_init 57 = .ok (.putfield 30, 3) := by decide +kernel
theorem dX2_init_60 : decode cX2_init 60 = .ok (.aload_n 0, 1) := by decide +kernel
theorem dX2_init_61 : decode cX2_init 61 = .ok (.sipush 480, 3) := by decide +kernel
theorem dX2_init_64 : decode cX2_init 64 = .ok (.newarray .int, 2) := by decide +kernel
theorem dX2_init_66 : decode cX2_init 66 = .ok (.putfield 33, 3) := by decide +kernel
theorem dX2_init_69 : decode cX2_init 69 = .ok (.aload_n 0, 1) := by decide +kernel
theorem dX2_init_70 : decode cX2_init 70 = .ok (.sipush 480, 3) := by decide +kernel
theorem dX2_init_73 : decode cX2_init 73 = .ok (.newarray .int, 2) := by decide +kernel
theorem dX2_init_75 : decode cX2_init 75 = .ok (.putfield 36, 3) := by decide +kernel
theorem dX2_init_78 : decode cX2_init 78 = .ok (.aload_n 0, 1) := by decide +kernel
theorem dX2_init_79 : decode cX2_init 79 = .ok (.bipush 60, 2) := by decide +kernel
theorem dX2_init_81 : decode cX2_init 81 = .ok (.newarray .int, 2) := by decide +kernel
theorem dX2_init_83 : decode cX2_init 83 = .ok (.putfield 39, 3) := by decide +kernel
theorem dX2_init_86 : decode cX2_init 86 = .ok (.aload_n 0, 1) := by decide +kernel
theorem dX2_init_87 : decode cX2_init 87 = .ok (.aload_n 1, 1) := by decide +kernel
theorem dX2_init_88 : decode cX2_init 88 = .ok (.putfield 42, 3) := by decide +kernel
theorem dX2_init_91 : decode cX2_init 91 = .ok (.aload_n 0, 1) := by decide +kernel
theorem dX2_init_92 : decode cX2_init 92 = .ok (.getfield 30, 3) := by decide +kernel
theorem dX2_init_95 : decode cX2_init 95 = .ok (.iconst (-1), 1) := by decide +kernel
theorem dX2_init_96 : decode cX2_init 96 = .ok (.invokestatic 46, 3) := by decide +kernel
theorem dX2_init_99 : decode cX2_init 99 = .ok (.return_, 1) := by decide +kernel
theorem dX2_has_0 : decode cX2_has 0 = .ok (.iload_n 1, 1) := by decide +kernel
theorem dX2_has_1 : decode cX2_has 1 = .ok (.ifCond .lt 15, 3) := by decide +kernel
theorem dX2_has_4 : decode cX2_has 4 = .ok (.iload_n 1, 1) := by decide +kernel
theorem dX2_has_5 : decode cX2_has 5 = .ok (.aload_n 0, 1) := by decide +kernel
theorem dX2_has_6 : decode cX2_has 6 = .ok (.getfield 52, 3) := by decide +kernel
theorem dX2_has_9 : decode cX2_has 9 = .ok (.if_icmp .ge 7, 3) := by decide +kernel
theorem dX2_has_12 : decode cX2_has 12 = .ok (.iconst 1, 1) := by decide +kernel
theorem dX2_has_13 : decode cX2_has 13 = .ok (.goto 4, 3) := by decide +kernel
theorem dX2_has_16 : decode cX2_has 16 = .ok (.iconst 0, 1) := by decide +kernel
theorem dX2_has_17 : decode cX2_has 17 = .ok (.ireturn, 1) := by decide +kernel
theorem dX2_isRuleRight_0 : decode cX2_isRuleRight 0 = .ok (.iload_n 1, 1) := by decide +kernel
theorem dX2_isRuleRight_1 : decode cX2_isRuleRight 1 = .ok (.tableswitch 162 0 3 #[31, 69, 111, 137], 31) := by decide +kernel
theorem dX2_isRuleRight_32 : decode cX2_isRuleRight 32 = .ok (.iload_n 2, 1) := by decide +kernel
theorem dX2_isRuleRight_33 : decode cX2_isRuleRight 33 = .ok (.iconst 1, 1) := by decide +kernel
theorem dX2_isRuleRight_34 : decode cX2_isRuleRight 34 = .ok (.bipush 53, 2) := by decide +kernel
theorem dX2_isRuleRight_36 : decode cX2_isRuleRight 36 = .ok (.invokestatic 56, 3) := by decide +kernel
theorem dX2_isRuleRight_39 : decode cX2_isRuleRight 39 = .ok (.ifCond .eq 29, 3) := by decide +kernel
theorem dX2_isRuleRight_42 : decode cX2_isRuleRight 42 = .ok (.iload_n 3, 1) := by decide +kernel
theorem dX2_isRuleRight_43 : decode cX2_isRuleRight 43 = .ok (.iconst 1, 1) := by decide +kernel
theorem dX2_isRuleRight_44 : decode cX2_isRuleRight 44 = .ok (.sipush 200, 3) := by decide +kernel
theorem dX2_isRuleRight_47 : decode cX2_isRuleRight 47 = .ok (.invokestatic 56, 3) := by decide +kernel
theorem dX2_isRuleRight_50 : decode cX2_isRuleRight 50 = .ok (.ifCond .eq 18, 3) := by decide +kernel
theorem dX2_isRuleRight_53 : decode cX2_isRuleRight 53 = .ok (.iload 4, 2) := by decide +kernel
theorem dX2_isRuleRight_55 : decode cX2_isRuleRight 55 = .ok (.iconst 0, 1) := by decide +kernel
theorem dX2_isRuleRight_56 : decode cX2_isRuleRight 56 = .ok (.bipush 6, 2) := by decide +kernel
theorem dX2_isRuleRight_58 : decode cX2_isRuleRight 58 = .ok (.invokestatic 56, 3) := by decide +kernel
theorem dX2_isRuleRight_61 : decode cX2_isRuleRight 61 = .ok (.ifCond .eq 7, 3) := by decide +kernel
theorem dX2_isRuleRight_64 : decode cX2_isRuleRight 64 = .ok (.iconst 1, 1) := by decide +kernel
theorem dX2_isRuleRight_65 : decode cX2_isRuleRight 65 = .ok (.goto 4, 3) := by decide +kernel
theorem dX2_isRuleRight_68 : decode cX2_isRuleRight 68 = .ok (.iconst 0, 1) := by decide +kernel
theorem dX2_isRuleRight_69 : decode cX2_isRuleRight 69 = .ok (.ireturn, 1) := by decide +kernel
theorem dX2_isRuleRight_70 : decode cX2_isRuleRight 70 = .ok (.iload_n 2, 1) := by decide +kernel
theorem dX2_isRuleRight_71 : decode cX2_isRuleRight 71 = .ok (.iconst 1, 1) := by decide +kernel
theorem dX2_isRuleRight_72 : decode cX2_isRuleRight 72 = .ok (.bipush 12, 2) := by decide +kernel
theorem dX2_isRuleRight_74 : decode cX2_isRuleRight 74 = .ok (.invokestatic 56, 3) := by decide +kernel
theorem dX2_isRuleRight_77 : decode cX2_isRuleRight 77 = .ok (.ifCond .eq 33, 3) := by decide +kernel
theorem dX2_isRuleRight_80 : decode cX2_isRuleRight 80 = .ok (.iload_n 3, 1) := by decide +kernel
theorem dX2_isRuleRight_81 : decode cX2_isRuleRight 81 = .ok (.iconst 0, 1) := by decide +kernel
theorem dX2_isRuleRight_82 : decode cX2_isRuleRight 82 = .ok (.bipush 6, 2) := by decide +kernel
theorem dX2_isRuleRight_84 : decode cX2_isRuleRight 84 = .ok (.invokestatic 56, 3) := by decide +kernel
theorem dX2_isRuleRight_87 : decode cX2_isRuleRight 87 = .ok (.ifCond .eq 23, 3) := by decide +kernel
theorem dX2_isRuleRight_90 : decode cX2_isRuleRight 90 = .ok (.iload 4, 2) := by decide +kernel
theorem dX2_isRuleRight_92 : decode cX2_isRuleRight 92 = .ok (.iconst 1, 1) := by decide +kernel
theorem dX2_isRuleRight_93 : decode cX2_isRuleRight 93 = .ok (.iconst 5, 1) := by decide +kernel
theorem dX2_isRuleRight_94 : decode cX2_isRuleRight 94 = .ok (.invokestatic 56, 3) := by decide +kernel
theorem dX2_isRuleRight_97 : decode cX2_isRuleRight 97 = .ok (.ifCond .ne 9, 3) := by decide +kernel
theorem dX2_isRuleRight_100 : decode cX2_isRuleRight 100 = .ok (.iload 4, 2) := by decide +kernel
theorem dX2_isRuleRight_102 : decode cX2_isRuleRight 102 = .ok (.iconst (-1), 1) := by decide +kernel
theorem dX2_isRuleRight_103 : decode cX2_isRuleRight 103 = .ok (.if_icmp .ne 7, 3) := by decide +kernel
theorem dX2_isRuleRight_106 : decode cX2_isRuleRight 106 = .ok (.iconst 1, 1) := by decide +kernel
theorem dX2_isRuleRight_107 : decode cX2_isRuleRight 107 = .ok (.goto 4, 3) := by decide +kernel
theorem dX2_isRuleRight_110 : decode cX2_isRuleRight 110 = .ok (.iconst 0, 1) := by decide +kernel
theorem dX2_isRuleRight_111 : decode cX2_isRuleRight 111 = .ok (.ireturn, 1) := by decide +kernel
theorem dX2_isRuleRight_112 : decode cX2_isRuleRight 112 = .ok (.iload_n 2, 1) := by decide +kernel
theorem dX2_isRuleRight_113 : decode cX2_isRuleRight 113 = .ok (.bipush (-60), 2) := by decide +kernel
theorem dX2_isRuleRight_115 : decode cX2_isRuleRight 115 = .ok (.bipush 100, 2) := by decide +kernel
theorem dX2_isRuleRight_117 : decode cX2_isRuleRight 117 = .ok (.invokestatic 56, 3) := by decide +kernel
theorem dX2_isRuleRight_120 : decode cX2_isRuleRight 120 = .ok (.ifCond .eq 16, 3) := by decide +kernel
theorem dX2_isRuleRight_123 : decode cX2_isRuleRight 123 = .ok (.iload_n 3, 1) := by decide +kernel
theorem dX2_isRuleRight_124 : decode cX2_isRuleRight 124 = .ok (.iconst 0, 1) := by decide +kernel
theorem dX2_isRuleRight_125 : decode cX2_isRuleRight 125 = .ok (.iconst 1, 1) := by decide +kernel
theorem dX2_isRuleRight_126 : decode cX2_isRuleRight 126 = .ok (.invokestatic 56, 3) := by decide +kernel
theorem dX2_isRuleRight_129 : decode cX2_isRuleRight 129 = .ok (.ifCond .eq 7, 3) := by decide +kernel
theorem dX2_isRuleRight_132 : decode cX2_isRuleRight 132 = .ok (.iconst 1, 1) := by decide +kernel
theorem dX2_isRuleRight_133 : decode cX2_isRuleRight 133 = .ok (.goto 4, 3) := by decide +kernel
theorem dX2_isRuleRight_136 : decode cX2_isRuleRight 136 = .ok (.iconst 0, 1) := by decide +kernel
theorem dX2_isRuleRight_137 : decode cX2_isRuleRight 137 = .ok (.ireturn, 1) := by decide +kernel
theorem dX2_isRuleRight_138 : decode cX2_isRuleRight 138 = .ok (.aload_n 0, 1) := by decide +kernel
theorem dX2_isRuleRight_139 : decode cX2_isRuleRight 139 = .ok (.iload_n 2, 1) := by decide +kernel
theorem dX2_isRuleRight_140 : decode cX2_isRuleRight 140 = .ok (.invokevirtual 60, 3) := by decide +kernel
theorem dX2_isRuleRight_143 : decode cX2_isRuleRight 143 = .ok (.ifCond .eq 18, 3) := by decide +kernel
theorem dX2_isRuleRight_146 : decode cX2_isRuleRight 146 = .ok (.iload_n 3, 1) := by decide +kernel
theorem dX2_isRuleRight_147 : decode cX2_isRuleRight 147 = .ok (.bipush (-40), 2) := by decide +kernel
theorem dX2_isRuleRight_149 : decode cX2_isRuleRight 149 = .ok (.bipush 40, 2) := by decide +kernel
theorem dX2_isRuleRight_151 : decode cX2_isRuleRight 151 = .ok (.invokestatic 56, 3) := by decide +kernel
theorem dX2_isRuleRight_154 : decode cX2_isRuleRight 154 = .ok (.ifCond .eq 7, 3) := by decide +kernel
theorem dX2_isRuleRight_157 : decode cX2_isRuleRight 157 = .ok (.iconst 1, 1) := by decide +kernel
theorem dX2_isRuleRight_158 : decode cX2_isRuleRight 158 = .ok (.goto 4, 3) := by decide +kernel
theorem dX2_isRuleRight_161 : decode cX2_isRuleRight 161 = .ok (.iconst 0, 1) := by decide +kernel
theorem dX2_isRuleRight_162 : decode cX2_isRuleRight 162 = .ok (.ireturn, 1) := by decide +kernel
theorem dX2_isRuleRight_163 : decode cX2_isRuleRight 163 = .ok (.iconst 0, 1) := by decide +kernel
theorem dX2_isRuleRight_164 : decode cX2_isRuleRight 164 = .ok (.ireturn, 1) := by decide +kernel
theorem dX2_within_0 : decode cX2_within 0 = .ok (.iload_n 0, 1) := by decide +kernel
theorem dX2_within_1 : decode cX2_within 1 = .ok (.iload_n 1, 1) := by decide +kernel
theorem dX2_within_2 : decode cX2_within 2 = .ok (.if_icmp .lt 12, 3) := by decide +kernel
theorem dX2_within_5 : decode cX2_within 5 = .ok (.iload_n 0, 1) := by decide +kernel
theorem dX2_within_6 : decode cX2_within 6 = .ok (.iload_n 2, 1) := by decide +kernel
theorem dX2_within_7 : decode cX2_within 7 = .ok (.if_icmp .gt 7, 3) := by decide +kernel
theorem dX2_within_10 : decode cX2_within 10 = .ok (.iconst 1, 1) := by decide +kernel
theorem dX2_within_11 : decode cX2_within 11 = .ok (.goto 4, 3) := by decide +kernel
theorem dX2_within_14 : decode cX2_within 14 = .ok (.iconst 0, 1) := by decide +kernel
theorem dX2_within_15 : decode cX2_within 15 = .ok (.ireturn, 1) := by decide +kernel
theorem dX2_add_0 : decode cX2_add 0 = .ok (.aload_n 0, 1) := by decide +kernel
theorem dX2_add_1 : decode cX2_add 1 = .ok (.getfield 52, 3) := by decide +kernel
theorem dX2_add_4 : decode cX2_add 4 = .ok (.bipush 60, 2) := by decide +kernel
theorem dX2_add_6 : decode cX2_add 6 = .ok (.if_icmp .ge 69, 3) := by decide +kernel
theorem dX2_add_9 : decode cX2_add 9 = .ok (.aload_n 0, 1) := by decide +kernel
theorem dX2_add_10 : decode cX2_add 10 = .ok (.getfield 11, 3) := by decide +kernel
theorem dX2_add_13 : decode cX2_add 13 = .ok (.aload_n 0, 1) := by decide +kernel
theorem dX2_add_14 : decode cX2_add 14 = .ok (.getfield 52, 3) := by decide +kernel
theorem dX2_add_17 : decode cX2_add 17 = .ok (.iload_n 1, 1) := by decide +kernel
theorem dX2_add_18 : decode cX2_add 18 = .ok (.iastore, 1) := by decide +kernel
theorem dX2_add_19 : decode cX2_add 19 = .ok (.aload_n 0, 1) := by decide +kernel
theorem dX2_add_20 : decode cX2_add 20 = .ok (.getfield 15, 3) := by decide +kernel
theorem dX2_add_23 : decode cX2_add 23 = .ok (.aload_n 0, 1) := by decide +kernel
theorem dX2_add_24 : decode cX2_add 24 = .ok (.getfield 52, 3) := by decide +kernel
theorem dX2_add_27 : decode cX2_add 27 = .ok (.iload_n 2, 1) := by decide +kernel
theorem dX2_add_28 : decode cX2_add 28 = .ok (.iastore, 1) := by decide +kernel
theorem dX2_add_29 : decode cX2_add 29 = .ok (.aload_n 0, 1) := by decide +kernel
theorem dX2_add_30 : decode cX2_add 30 = .ok (.getfield 18, 3) := by decide +kernel
theorem dX2_add_33 : decode cX2_add 33 = .ok (.aload_n 0, 1) := by decide +kernel
theorem dX2_add_34 : decode cX2_add 34 = .ok (.getfield 52, 3) := by decide +kernel
theorem dX2_add_37 : decode cX2_add 37 = .ok (.iload_n 3, 1) := by decide +kernel
theorem dX2_add_38 : decode cX2_add 38 = .ok (.iastore, 1) := by decide +kernel
theorem dX2_add_39 : decode cX2_add 39 = .ok (.aload_n 0, 1) := by decide +kernel
theorem dX2_add_40 : decode cX2_add 40 = .ok (.getfield 21, 3) := by decide +kernel
theorem dX2_add_43 : decode cX2_add 43 = .ok (.aload_n 0, 1) := by decide +kernel
theorem dX2_add_44 : decode cX2_add 44 = .ok (.getfield 52, 3) := by decide +kernel
theorem dX2_add_47 : decode cX2_add 47 = .ok (.iload 4, 2) := by decide +kernel
theorem dX2_add_49 : decode cX2_add 49 = .ok (.iastore, 1) := by decide +kernel
theorem dX2_add_50 : decode cX2_add 50 = .ok (.aload_n 0, 1) := by decide +kernel
theorem dX2_add_51 : decode cX2_add 51 = .ok (.getfield 24, 3) := by decide +kernel
theorem dX2_add_54 : decode cX2_add 54 = .ok (.aload_n 0, 1) := by decide +kernel
theorem dX2_add_55 : decode cX2_add 55 = .ok (.getfield 52, 3) := by decide +kernel
theorem dX2_add_58 : decode cX2_add 58 = .ok (.iload 5, 2) := by decide +kernel
theorem dX2_add_60 : decode cX2_add 60 = .ok (.iastore, 1) := by decide +kernel
theorem dX2_add_61 : decode cX2_add 61 = .ok (.aload_n 0, 1) := by decide +kernel
theorem dX2_add_62 : decode cX2_add 62 = .ok (.dup, 1) := by decide +kernel
theorem dX2_add_63 : decode cX2_add 63 = .ok (.getfield 52, 3) := by decide +kernel
theorem dX2_add_66 : decode cX2_add 66 = .ok (.iconst 1, 1) := by decide +kernel
theorem dX2_add_67 : decode cX2_add 67 = .ok (.iadd, 1) := by decide +kernel
theorem dX2_add_68 : decode cX2_add 68 = .ok (.putfield 52, 3) := by decide +kernel
theorem dX2_add_71 : decode cX2_add 71 = .ok (.aload_n 0, 1) := by decide +kernel
theorem dX2_add_72 : decode cX2_add 72 = .ok (.invokevirtual 64, 3) := by decide +kernel
theorem dX2_add_75 : decode cX2_add 75 = .ok (.return_, 1) := by decide +kernel
theorem dX2_drop_0 : decode cX2_drop 0 = .ok (.aload_n 0, 1) := by decide +kernel
theorem dX2_drop_1 : decode cX2_drop 1 = .ok (.getfield 52, 3) := by decide +kernel
theorem dX2_drop_4 : decode cX2_drop 4 = .ok (.ifCond .le 17, 3) := by decide +kernel
theorem dX2_drop_7 : decode cX2_drop 7 = .ok (.aload_n 0, 1) := by decide +kernel
theorem dX2_drop_8 : decode cX2_drop 8 = .ok (.dup, 1) := by decide +kernel
theorem dX2_drop_9 : decode cX2_drop 9 = .ok (.getfield 52, 3) := by decide +kernel
theorem dX2_drop_12 : decode cX2_drop 12 = .ok (.iconst 1, 1) := by decide +kernel
theorem dX2_drop_13 : decode cX2_drop 13 = .ok (.isub, 1) := by decide +kernel
theorem dX2_drop_14 : decode cX2_drop 14 = .ok (.putfield 52, 3) := by decide +kernel
theorem dX2_drop_17 : decode cX2_drop 17 = .ok (.aload_n 0, 1) := by decide +kernel
theorem dX2_drop_18 : decode cX2_drop 18 = .ok (.invokevirtual 64, 3) := by decide +kernel
theorem dX2_drop_21 : decode cX2_drop 21 = .ok (.return_, 1) := by decide +kernel
theorem dX2_changed_0 : decode cX2_changed 0 = .ok (.aload_n 0, 1) := by decide +kernel
theorem dX2_changed_1 : decode cX2_changed 1 = .ok (.getfield 30, 3) := by decide +kernel
theorem dX2_changed_4 : decode cX2_changed 4 = .ok (.iconst (-1), 1) := by decide +kernel
theorem dX2_changed_5 : decode cX2_changed 5 = .ok (.invokestatic 46, 3) := by decide +kernel
theorem dX2_changed_8 : decode cX2_changed 8 = .ok (.aload_n 0, 1) := by decide +kernel
theorem dX2_changed_9 : decode cX2_changed 9 = .ok (.invokevirtual 67, 3) := by decide +kernel
theorem dX2_changed_12 : decode cX2_changed 12 = .ok (.return_, 1) := by decide +kernel
theorem dX2_inOrder_0 : decode cX2_inOrder 0 = .ok (.aload_n 0, 1) := by decide +kernel
theorem dX2_inOrder_1 : decode cX2_inOrder 1 = .ok (.iload_n 1, 1) := by decide +kernel
theorem dX2_inOrder_2 : decode cX2_inOrder 2 = .ok (.invokevirtual 60, 3) := by decide +kernel
theorem dX2_inOrder_5 : decode cX2_inOrder 5 = .ok (.ifCond .eq 12, 3) := by decide +kernel
theorem dX2_inOrder_8 : decode cX2_inOrder 8 = .ok (.aload_n 0, 1) := by decide +kernel
theorem dX2_inOrder_9 : decode cX2_inOrder 9 = .ok (.getfield 27, 3) := by decide +kernel
theorem dX2_inOrder_12 : decode cX2_inOrder 12 = .ok (.iload_n 1, 1) := by decide +kernel
theorem dX2_inOrder_13 : decode cX2_inOrder 13 = .ok (.iaload, 1) := by decide +kernel
theorem dX2_inOrder_14 : decode cX2_inOrder 14 = .ok (.goto 5, 3) := by decide +kernel
theorem dX2_inOrder_17 : decode cX2_inOrder 17 = .ok (.bipush (-2), 2) := by decide +kernel
theorem dX2_inOrder_19 : decode cX2_inOrder 19 = .ok (.ireturn, 1) := by decide +kernel
theorem dX2_rankOf_0 : decode cX2_rankOf 0 = .ok (.aload_n 0, 1) := by decide +kernel
theorem dX2_rankOf_1 : decode cX2_rankOf 1 = .ok (.iload_n 1, 1) := by decide +kernel
theorem dX2_rankOf_2 : decode cX2_rankOf 2 = .ok (.invokevirtual 60, 3) := by decide +kernel
theorem dX2_rankOf_5 : decode cX2_rankOf 5 = .ok (.ifCond .eq 12, 3) := by decide +kernel
theorem dX2_rankOf_8 : decode cX2_rankOf 8 = .ok (.aload_n 0, 1) := by decide +kernel
theorem dX2_rankOf_9 : decode cX2_rankOf 9 = .ok (.getfield 24, 3) := by decide +kernel
theorem dX2_rankOf_12 : decode cX2_rankOf 12 = .ok (.iload_n 1, 1) := by decide +kernel
theorem dX2_rankOf_13 : decode cX2_rankOf 13 = .ok (.iaload, 1) := by decide +kernel
theorem dX2_rankOf_14 : decode cX2_rankOf 14 = .ok (.goto 5, 3) := by decide +kernel
theorem dX2_rankOf_17 : decode cX2_rankOf 17 = .ok (.bipush (-2), 2) := by decide +kernel
theorem dX2_rankOf_19 : decode cX2_rankOf 19 = .ok (.ireturn, 1) := by decide +kernel
theorem dX2_placedDay_0 : decode cX2_placedDay 0 = .ok (.aload_n 0, 1) := by decide +kernel
theorem dX2_placedDay_1 : decode cX2_placedDay 1 = .ok (.iload_n 1, 1) := by decide +kernel
theorem dX2_placedDay_2 : decode cX2_placedDay 2 = .ok (.invokevirtual 60, 3) := by decide +kernel
theorem dX2_placedDay_5 : decode cX2_placedDay 5 = .ok (.ifCond .eq 17, 3) := by decide +kernel
theorem dX2_placedDay_8 : decode cX2_placedDay 8 = .ok (.aload_n 0, 1) := by decide +kernel
theorem dX2_placedDay_9 : decode cX2_placedDay 9 = .ok (.getfield 36, 3) := by decide +kernel
theorem dX2_placedDay_12 : decode cX2_placedDay 12 = .ok (.aload_n 0, 1) := by decide +kernel
theorem dX2_placedDay_13 : decode cX2_placedDay 13 = .ok (.getfield 70, 3) := by decide +kernel
theorem dX2_placedDay_16 : decode cX2_placedDay 16 = .ok (.iload_n 1, 1) := by decide +kernel
theorem dX2_placedDay_17 : decode cX2_placedDay 17 = .ok (.iadd, 1) := by decide +kernel
theorem dX2_placedDay_18 : decode cX2_placedDay 18 = .ok (.iaload, 1) := by decide +kernel
theorem dX2_placedDay_19 : decode cX2_placedDay 19 = .ok (.goto 5, 3) := by decide +kernel
theorem dX2_placedDay_22 : decode cX2_placedDay 22 = .ok (.bipush (-2), 2) := by decide +kernel
theorem dX2_placedDay_24 : decode cX2_placedDay 24 = .ok (.ireturn, 1) := by decide +kernel
theorem dX2_unmovedDay_0 : decode cX2_unmovedDay 0 = .ok (.aload_n 0, 1) := by decide +kernel
theorem dX2_unmovedDay_1 : decode cX2_unmovedDay 1 = .ok (.iload_n 1, 1) := by decide +kernel
theorem dX2_unmovedDay_2 : decode cX2_unmovedDay 2 = .ok (.invokevirtual 60, 3) := by decide +kernel
theorem dX2_unmovedDay_5 : decode cX2_unmovedDay 5 = .ok (.ifCond .eq 17, 3) := by decide +kernel
theorem dX2_unmovedDay_8 : decode cX2_unmovedDay 8 = .ok (.aload_n 0, 1) := by decide +kernel
theorem dX2_unmovedDay_9 : decode cX2_unmovedDay 9 = .ok (.getfield 33, 3) := by decide +kernel
theorem dX2_unmovedDay_12 : decode cX2_unmovedDay 12 = .ok (.aload_n 0, 1) := by decide +kernel
theorem dX2_unmovedDay_13 : decode cX2_unmovedDay 13 = .ok (.getfield 70, 3) := by decide +kernel
theorem dX2_unmovedDay_16 : decode cX2_unmovedDay 16 = .ok (.iload_n 1, 1) := by decide +kernel
theorem dX2_unmovedDay_17 : decode cX2_unmovedDay 17 = .ok (.iadd, 1) := by decide +kernel
theorem dX2_unmovedDay_18 : decode cX2_unmovedDay 18 = .ok (.iaload, 1) := by decide +kernel
theorem dX2_unmovedDay_19 : decode cX2_unmovedDay 19 = .ok (.goto 5, 3) := by decide +kernel
theorem dX2_unmovedDay_22 : decode cX2_unmovedDay 22 = .ok (.bipush (-2), 2) := by decide +kernel
theorem dX2_unmovedDay_24 : decode cX2_unmovedDay 24 = .ok (.ireturn, 1) := by decide +kernel
theorem dX2_countOn_0 : decode cX2_countOn 0 = .ok (.iconst 0, 1) := by decide +kernel
theorem dX2_countOn_1 : decode cX2_countOn 1 = .ok (.istore_n 2, 1) := by decide +kernel
theorem dX2_countOn_2 : decode cX2_countOn 2 = .ok (.iconst 0, 1) := by decide +kernel
theorem dX2_countOn_3 : decode cX2_countOn 3 = .ok (.istore_n 3, 1) := by decide +kernel
theorem dX2_countOn_4 : decode cX2_countOn 4 = .ok (.iload_n 3, 1) := by decide +kernel
theorem dX2_countOn_5 : decode cX2_countOn 5 = .ok (.aload_n 0, 1) := by decide +kernel
theorem dX2_countOn_6 : decode cX2_countOn 6 = .ok (.getfield 52, 3) := by decide +kernel
theorem dX2_countOn_9 : decode cX2_countOn 9 = .ok (.if_icmp .ge 27, 3) := by decide +kernel
theorem dX2_countOn_12 : decode cX2_countOn 12 = .ok (.aload_n 0, 1) := by decide +kernel
theorem dX2_countOn_13 : decode cX2_countOn 13 = .ok (.getfield 36, 3) := by decide +kernel
theorem dX2_countOn_16 : decode cX2_countOn 16 = .ok (.aload_n 0, 1) := by decide +kernel
theorem dX2_countOn_17 : decode cX2_countOn 17 = .ok (.getfield 70, 3) := by decide +kernel
theorem dX2_countOn_20 : decode cX2_countOn 20 = .ok (.iload_n 3, 1) := by decide +kernel
theorem dX2_countOn_21 : decode cX2_countOn 21 = .ok (.iadd, 1) := by decide +kernel
theorem dX2_countOn_22 : decode cX2_countOn 22 = .ok (.iaload, 1) := by decide +kernel
theorem dX2_countOn_23 : decode cX2_countOn 23 = .ok (.iload_n 1, 1) := by decide +kernel
theorem dX2_countOn_24 : decode cX2_countOn 24 = .ok (.if_icmp .ne 6, 3) := by decide +kernel
theorem dX2_countOn_27 : decode cX2_countOn 27 = .ok (.iinc 2 1, 3) := by decide +kernel
theorem dX2_countOn_30 : decode cX2_countOn 30 = .ok (.iinc 3 1, 3) := by decide +kernel
theorem dX2_countOn_33 : decode cX2_countOn 33 = .ok (.goto (-29), 3) := by decide +kernel
theorem dX2_countOn_36 : decode cX2_countOn 36 = .ok (.iload_n 2, 1) := by decide +kernel
theorem dX2_countOn_37 : decode cX2_countOn 37 = .ok (.ireturn, 1) := by decide +kernel
theorem dX2_place_0 : decode cX2_place 0 = .ok (.iload_n 1, 1) := by decide +kernel
theorem dX2_place_1 : decode cX2_place 1 = .ok (.bipush 8, 2) := by decide +kernel
theorem dX2_place_3 : decode cX2_place 3 = .ok (.invokestatic 73, 3) := by decide +kernel
theorem dX2_place_6 : decode cX2_place 6 = .ok (.istore_n 2, 1) := by decide +kernel
theorem dX2_place_7 : decode cX2_place 7 = .ok (.aload_n 0, 1) := by decide +kernel
theorem dX2_place_8 : decode cX2_place 8 = .ok (.iload_n 2, 1) := by decide +kernel
theorem dX2_place_9 : decode cX2_place 9 = .ok (.bipush 60, 2) := by decide +kernel
theorem dX2_place_11 : decode cX2_place 11 = .ok (.imul, 1) := by decide +kernel
theorem dX2_place_12 : decode cX2_place 12 = .ok (.putfield 70, 3) := by decide +kernel
theorem dX2_place_15 : decode cX2_place 15 = .ok (.aload_n 0, 1) := by decide +kernel
theorem dX2_place_16 : decode cX2_place 16 = .ok (.getfield 30, 3) := by decide +kernel
theorem dX2_place_19 : decode cX2_place 19 = .ok (.iload_n 2, 1) := by decide +kernel
theorem dX2_place_20 : decode cX2_place 20 = .ok (.iaload, 1) := by decide +kernel
theorem dX2_place_21 : decode cX2_place 21 = .ok (.iload_n 1, 1) := by decide +kernel
theorem dX2_place_22 : decode cX2_place 22 = .ok (.if_icmp .ne 4, 3) := by decide +kernel
theorem dX2_place_25 : decode cX2_place 25 = .ok (.return_, 1) := by decide +kernel
theorem dX2_place_26 : decode cX2_place 26 = .ok (.aload_n 0, 1) := by decide +kernel
theorem dX2_place_27 : decode cX2_place 27 = .ok (.getfield 30, 3) := by decide +kernel
theorem dX2_place_30 : decode cX2_place 30 = .ok (.iload_n 2, 1) := by decide +kernel
theorem dX2_place_31 : decode cX2_place 31 = .ok (.iload_n 1, 1) := by decide +kernel
theorem dX2_place_32 : decode cX2_place 32 = .ok (.iastore, 1) := by decide +kernel
theorem dX2_place_33 : decode cX2_place 33 = .ok (.iconst 0, 1) := by decide +kernel
theorem dX2_place_34 : decode cX2_place 34 = .ok (.istore_n 3, 1) := by decide +kernel
theorem dX2_place_35 : decode cX2_place 35 = .ok (.iload_n 3, 1) := by decide +kernel
theorem dX2_place_36 : decode cX2_place 36 = .ok (.aload_n 0, 1) := by decide +kernel
theorem dX2_place_37 : decode cX2_place 37 = .ok (.getfield 52, 3) := by decide +kernel
theorem dX2_place_40 : decode cX2_place 40 = .ok (.if_icmp .ge 43, 3) := by decide +kernel
theorem dX2_place_43 : decode cX2_place 43 = .ok (.aload_n 0, 1) := by decide +kernel
theorem dX2_place_44 : decode cX2_place 44 = .ok (.iload_n 3, 1) := by decide +kernel
theorem dX2_place_45 : decode cX2_place 45 = .ok (.iload_n 1, 1) := by decide +kernel
theorem dX2_place_46 : decode cX2_place 46 = .ok (.invokevirtual 79, 3) := by decide +kernel
theorem dX2_place_49 : decode cX2_place 49 = .ok (.istore 4, 2) := by decide +kernel
theorem dX2_place_51 : decode cX2_place 51 = .ok (.aload_n 0, 1) := by decide +kernel
theorem dX2_place_52 : decode cX2_place 52 = .ok (.getfield 33, 3) := by decide +kernel
theorem dX2_place_55 : decode cX2_place 55 = .ok (.aload_n 0, 1) := by decide +kernel
theorem dX2_place_56 : decode cX2_place 56 = .ok (.getfield 70, 3) := by decide +kernel
theorem dX2_place_59 : decode cX2_place 59 = .ok (.iload_n 3, 1) := by decide +kernel
theorem dX2_place_60 : decode cX2_place 60 = .ok (.iadd, 1) := by decide +kernel
theorem dX2_place_61 : decode cX2_place 61 = .ok (.iload 4, 2) := by decide +kernel
theorem dX2_place_63 : decode cX2_place 63 = .ok (.invokestatic 82, 3) := by decide +kernel
theorem dX2_place_66 : decode cX2_place 66 = .ok (.ifCond .eq 8, 3) := by decide +kernel
theorem dX2_place_69 : decode cX2_place 69 = .ok (.iload 4, 2) := by decide +kernel
theorem dX2_place_71 : decode cX2_place 71 = .ok (.goto 5, 3) := by decide +kernel
theorem dX2_place_74 : decode cX2_place 74 = .ok (.bipush (-2), 2) := by decide +kernel
theorem dX2_place_76 : decode cX2_place 76 = .ok (.iastore, 1) := by decide +kernel
theorem dX2_place_77 : decode cX2_place 77 = .ok (.iinc 3 1, 3) := by decide +kernel
theorem dX2_place_80 : decode cX2_place 80 = .ok (.goto (-45), 3) := by decide +kernel
theorem dX2_place_83 : decode cX2_place 83 = .ok (.aload_n 0, 1) := by decide +kernel
theorem dX2_place_84 : decode cX2_place 84 = .ok (.iconst 0, 1) := by decide +kernel
theorem dX2_place_85 : decode cX2_place 85 = .ok (.putfield 85, 3) := by decide +kernel
theorem dX2_place_88 : decode cX2_place 88 = .ok (.iconst 0, 1) := by decide +kernel
theorem dX2_place_89 : decode cX2_place 89 = .ok (.istore_n 3, 1) := by decide +kernel
theorem dX2_place_90 : decode cX2_place 90 = .ok (.iload_n 3, 1) := by decide +kernel
theorem dX2_place_91 : decode cX2_place 91 = .ok (.aload_n 0, 1) := by decide +kernel
theorem dX2_place_92 : decode cX2_place 92 = .ok (.getfield 52, 3) := by decide +kernel
theorem dX2_place_95 : decode cX2_place 95 = .ok (.if_icmp .ge 71, 3) := by decide +kernel
theorem dX2_place_98 : decode cX2_place 98 = .ok (.aload_n 0, 1) := by decide +kernel
theorem dX2_place_99 : decode cX2_place 99 = .ok (.getfield 27, 3) := by decide +kernel
theorem dX2_place_102 : decode cX2_place 102 = .ok (.iload_n 3, 1) := by decide +kernel
theorem dX2_place_103 : decode cX2_place 103 = .ok (.iaload, 1) := by decide +kernel
theorem dX2_place_104 : decode cX2_place 104 = .ok (.istore 4, 2) := by decide +kernel
theorem dX2_place_106 : decode cX2_place 106 = .ok (.aload_n 0, 1) := by decide +kernel
theorem dX2_place_107 : decode cX2_place 107 = .ok (.getfield 33, 3) := by decide +kernel
theorem dX2_place_110 : decode cX2_place 110 = .ok (.aload_n 0, 1) := by decide +kernel
theorem dX2_place_111 : decode cX2_place 111 = .ok (.getfield 70, 3) := by decide +kernel
theorem dX2_place_114 : decode cX2_place 114 = .ok (.iload 4, 2) := by decide +kernel
theorem dX2_place_116 : decode cX2_place 116 = .ok (.iadd, 1) := by decide +kernel
theorem dX2_place_117 : decode cX2_place 117 = .ok (.iaload, 1) := by decide +kernel
theorem dX2_place_118 : decode cX2_place 118 = .ok (.istore 5, 2) := by decide +kernel
theorem dX2_place_120 : decode cX2_place 120 = .ok (.aload_n 0, 1) := by decide +kernel
theorem dX2_place_121 : decode cX2_place 121 = .ok (.getfield 36, 3) := by decide +kernel
theorem dX2_place_124 : decode cX2_place 124 = .ok (.aload_n 0, 1) := by decide +kernel
theorem dX2_place_125 : decode cX2_place 125 = .ok (.getfield 70, 3) := by decide +kernel
theorem dX2_place_128 : decode cX2_place 128 = .ok (.iload 4, 2) := by decide +kernel
theorem dX2_place_130 : decode cX2_place 130 = .ok (.iadd, 1) := by decide +kernel
theorem dX2_place_131 : decode cX2_place 131 = .ok (.iload 5, 2) := by decide +kernel
theorem dX2_place_133 : decode cX2_place 133 = .ok (.bipush (-2), 2) := by decide +kernel
theorem dX2_place_135 : decode cX2_place 135 = .ok (.if_icmp .eq 13, 3) := by decide +kernel
theorem dX2_place_138 : decode cX2_place 138 = .ok (.aload_n 0, 1) := by decide +kernel
theorem dX2_place_139 : decode cX2_place 139 = .ok (.getfield 24, 3) := by decide +kernel
theorem dX2_place_142 : decode cX2_place 142 = .ok (.iload 4, 2) := by decide +kernel
theorem dX2_place_144 : decode cX2_place 144 = .ok (.iaload, 1) := by decide +kernel
theorem dX2_place_145 : decode cX2_place 145 = .ok (.ifCond .ne 8, 3) := by decide +kernel
theorem dX2_place_148 : decode cX2_place 148 = .ok (.iload 5, 2) := by decide +kernel
theorem dX2_place_150 : decode cX2_place 150 = .ok (.goto 9, 3) := by decide +kernel
theorem dX2_place_153 : decode cX2_place 153 = .ok (.aload_n 0, 1) := by decide +kernel
theorem dX2_place_154 : decode cX2_place 154 = .ok (.iload 5, 2) := by decide +kernel
theorem dX2_place_156 : decode cX2_place 156 = .ok (.invokevirtual 88, 3) := by decide +kernel
theorem dX2_place_159 : decode cX2_place 159 = .ok (.iastore, 1) := by decide +kernel
theorem dX2_place_160 : decode cX2_place 160 = .ok (.iinc 3 1, 3) := by decide +kernel
theorem dX2_place_163 : decode cX2_place 163 = .ok (.goto (-73), 3) := by decide +kernel
theorem dX2_place_166 : decode cX2_place 166 = .ok (.return_, 1) := by decide +kernel
theorem dX2_sortByRank_0 : decode cX2_sortByRank 0 = .ok (.iconst 0, 1) := by decide +kernel
theorem dX2_sortByRank_1 : decode cX2_sortByRank 1 = .ok (.istore_n 1, 1) := by decide +kernel
theorem dX2_sortByRank_2 : decode cX2_sortByRank 2 = .ok (.bipush 9, 2) := by decide +kernel
theorem dX2_sortByRank_4 : decode cX2_sortByRank 4 = .ok (.istore_n 2, 1) := by decide +kernel
theorem dX2_sortByRank_5 : decode cX2_sortByRank 5 = .ok (.iload_n 2, 1) := by decide +kernel
theorem dX2_sortByRank_6 : decode cX2_sortByRank 6 = .ok (.ifCond .lt 51, 3) := by decide +kernel
theorem dX2_sortByRank_9 : decode cX2_sortByRank 9 = .ok (.iconst 0, 1) := by decide +kernel
theorem dX2_sortByRank_10 : decode cX2_sortByRank 10 = .ok (.istore_n 3, 1) := by decide +kernel
theorem dX2_sortByRank_11 : decode cX2_sortByRank 11 = .ok (.iload_n 3, 1) := by decide +kernel
theorem dX2_sortByRank_12 : decode cX2_sortByRank 12 = .ok (.aload_n 0, 1) := by decide +kernel
theorem dX2_sortByRank_13 : decode cX2_sortByRank 13 = .ok (.getfield 52, 3) := by decide +kernel
theorem dX2_sortByRank_16 : decode cX2_sortByRank 16 = .ok (.if_icmp .ge 35, 3) := by decide +kernel
theorem dX2_sortByRank_19 : decode cX2_sortByRank 19 = .ok (.aload_n 0, 1) := by decide +kernel
theorem dX2_sortByRank_20 : decode cX2_sortByRank 20 = .ok (.getfield 24, 3) := by decide +kernel
theorem dX2_sortByRank_23 : decode cX2_sortByRank 23 = .ok (.iload_n 3, 1) := by decide +kernel
theorem dX2_sortByRank_24 : decode cX2_sortByRank 24 = .ok (.iaload, 1) := by decide +kernel
theorem dX2_sortByRank_25 : decode cX2_sortByRank 25 = .ok (.iload_n 2, 1) := by decide +kernel
theorem dX2_sortByRank_26 : decode cX2_sortByRank 26 = .ok (.if_icmp .ne 19, 3) := by decide +kernel
theorem dX2_sortByRank_29 : decode cX2_sortByRank 29 = .ok (.iload_n 1, 1) := by decide +kernel
theorem dX2_sortByRank_30 : decode cX2_sortByRank 30 = .ok (.bipush 60, 2) := by decide +kernel
theorem dX2_sortByRank_32 : decode cX2_sortByRank 32 = .ok (.if_icmp .ge 13, 3) := by decide +kernel
theorem dX2_sortByRank_35 : decode cX2_sortByRank 35 = .ok (.aload_n 0, 1) := by decide +kernel
theorem dX2_sortByRank_36 : decode cX2_sortByRank 36 = .ok (.getfield 27, 3) := by decide +kernel
theorem dX2_sortByRank_39 : decode cX2_sortByRank 39 = .ok (.iload_n 1, 1) := by decide +kernel
theorem dX2_sortByRank_40 : decode cX2_sortByRank 40 = .ok (.iload_n 3, 1) := by decide +kernel
theorem dX2_sortByRank_41 : decode cX2_sortByRank 41 = .ok (.iastore, 1) := by decide +kernel
theorem dX2_sortByRank_42 : decode cX2_sortByRank 42 = .ok (.iinc 1 1, 3) := by decide +kernel
theorem dX2_sortByRank_45 : decode cX2_sortByRank 45 = .ok (.iinc 3 1, 3) := by decide +kernel
theorem dX2_sortByRank_48 : decode cX2_sortByRank 48 = .ok (.goto (-37), 3) := by decide +kernel
theorem dX2_sortByRank_51 : decode cX2_sortByRank 51 = .ok (.iinc 2 (-1), 3) := by decide +kernel
theorem dX2_sortByRank_54 : decode cX2_sortByRank 54 = .ok (.goto (-49), 3) := by decide +kernel
theorem dX2_sortByRank_57 : decode cX2_sortByRank 57 = .ok (.return_, 1) := by decide +kernel
theorem dX2_settle_0 : decode cX2_settle 0 = .ok (.iconst 0, 1) := by decide +kernel
theorem dX2_settle_1 : decode cX2_settle 1 = .ok (.istore_n 2, 1) := by decide +kernel
theorem dX2_settle_2 : decode cX2_settle 2 = .ok (.iload_n 2, 1) := by decide +kernel
theorem dX2_settle_3 : decode cX2_settle 3 = .ok (.aload_n 0, 1) := by decide +kernel
theorem dX2_settle_4 : decode cX2_settle 4 = .ok (.getfield 85, 3) := by decide +kernel
theorem dX2_settle_7 : decode cX2_settle 7 = .ok (.if_icmp .ge 19, 3) := by decide +kernel
theorem dX2_settle_10 : decode cX2_settle 10 = .ok (.aload_n 0, 1) := by decide +kernel
theorem dX2_settle_11 : decode cX2_settle 11 = .ok (.getfield 39, 3) := by decide +kernel
theorem dX2_settle_14 : decode cX2_settle 14 = .ok (.iload_n 2, 1) := by decide +kernel
theorem dX2_settle_15 : decode cX2_settle 15 = .ok (.iaload, 1) := by decide +kernel
theorem dX2_settle_16 : decode cX2_settle 16 = .ok (.iload_n 1, 1) := by decide +kernel
theorem dX2_settle_17 : decode cX2_settle 17 = .ok (.if_icmp .ge 9, 3) := by decide +kernel
theorem dX2_settle_20 : decode cX2_settle 20 = .ok (.iinc 2 1, 3) := by decide +kernel
theorem dX2_settle_23 : decode cX2_settle 23 = .ok (.goto (-21), 3) := by decide +kernel
theorem dX2_settle_26 : decode cX2_settle 26 = .ok (.iload_n 1, 1) := by decide +kernel
theorem dX2_settle_27 : decode cX2_settle 27 = .ok (.istore_n 3, 1) := by decide +kernel
theorem dX2_settle_28 : decode cX2_settle 28 = .ok (.iload_n 2, 1) := by decide +kernel
theorem dX2_settle_29 : decode cX2_settle 29 = .ok (.aload_n 0, 1) := by decide +kernel
theorem dX2_settle_30 : decode cX2_settle 30 = .ok (.getfield 85, 3) := by decide +kernel
theorem dX2_settle_33 : decode cX2_settle 33 = .ok (.if_icmp .ge 22, 3) := by decide +kernel
theorem dX2_settle_36 : decode cX2_settle 36 = .ok (.aload_n 0, 1) := by decide +kernel
theorem dX2_settle_37 : decode cX2_settle 37 = .ok (.getfield 39, 3) := by decide +kernel
theorem dX2_settle_40 : decode cX2_settle 40 = .ok (.iload_n 2, 1) := by decide +kernel
theorem dX2_settle_41 : decode cX2_settle 41 = .ok (.iaload, 1) := by decide +kernel
theorem dX2_settle_42 : decode cX2_settle 42 = .ok (.iload_n 3, 1) := by decide +kernel
theorem dX2_settle_43 : decode cX2_settle 43 = .ok (.if_icmp .ne 12, 3) := by decide +kernel
theorem dX2_settle_46 : decode cX2_settle 46 = .ok (.iinc 2 1, 3) := by decide +kernel
theorem dX2_settle_49 : decode cX2_settle 49 = .ok (.iinc 3 1, 3) := by decide +kernel
theorem dX2_settle_52 : decode cX2_settle 52 = .ok (.goto (-24), 3) := by decide +kernel
theorem dX2_settle_55 : decode cX2_settle 55 = .ok (.iload_n 3, 1) := by decide +kernel
theorem dX2_settle_56 : decode cX2_settle 56 = .ok (.ldc 92, 2) := by decide +kernel
theorem dX2_settle_58 : decode cX2_settle 58 = .ok (.if_icmp .gt 12, 3) := by decide +kernel
theorem dX2_settle_61 : decode cX2_settle 61 = .ok (.aload_n 0, 1) := by decide +kernel
theorem dX2_settle_62 : decode cX2_settle 62 = .ok (.getfield 85, 3) := by decide +kernel
theorem dX2_settle_65 : decode cX2_settle 65 = .ok (.bipush 60, 2) := by decide +kernel
theorem dX2_settle_67 : decode cX2_settle 67 = .ok (.if_icmp .lt 6, 3) := by decide +kernel
theorem dX2_settle_70 : decode cX2_settle 70 = .ok (.bipush (-2), 2) := by decide +kernel
theorem dX2_settle_72 : decode cX2_settle 72 = .ok (.ireturn, 1) := by decide +kernel
theorem dX2_settle_73 : decode cX2_settle 73 = .ok (.aload_n 0, 1) := by decide +kernel
theorem dX2_settle_74 : decode cX2_settle 74 = .ok (.getfield 85, 3) := by decide +kernel
theorem dX2_settle_77 : decode cX2_settle 77 = .ok (.istore 4, 2) := by decide +kernel
theorem dX2_settle_79 : decode cX2_settle 79 = .ok (.iload 4, 2) := by decide +kernel
theorem dX2_settle_81 : decode cX2_settle 81 = .ok (.iload_n 2, 1) := by decide +kernel
theorem dX2_settle_82 : decode cX2_settle 82 = .ok (.if_icmp .le 25, 3) := by decide +kernel
theorem dX2_settle_85 : decode cX2_settle 85 = .ok (.aload_n 0, 1) := by decide +kernel
theorem dX2_settle_86 : decode cX2_settle 86 = .ok (.getfield 39, 3) := by decide +kernel
theorem dX2_settle_89 : decode cX2_settle 89 = .ok (.iload 4, 2) := by decide +kernel
theorem dX2_settle_91 : decode cX2_settle 91 = .ok (.aload_n 0, 1) := by decide +kernel
theorem dX2_settle_92 : decode cX2_settle 92 = .ok (.getfield 39, 3) := by decide +kernel
theorem dX2_settle_95 : decode cX2_settle 95 = .ok (.iload 4, 2) := by decide +kernel
theorem dX2_settle_97 : decode cX2_settle 97 = .ok (.iconst 1, 1) := by decide +kernel
theorem dX2_settle_98 : decode cX2_settle 98 = .ok (.isub, 1) := by decide +kernel
theorem dX2_settle_99 : decode cX2_settle 99 = .ok (.iaload, 1) := by decide +kernel
theorem dX2_settle_100 : decode cX2_settle 100 = .ok (.iastore, 1) := by decide +kernel
theorem dX2_settle_101 : decode cX2_settle 101 = .ok (.iinc 4 (-1), 3) := by decide +kernel
theorem dX2_settle_104 : decode cX2_settle 104 = .ok (.goto (-25), 3) := by decide +kernel
theorem dX2_settle_107 : decode cX2_settle 107 = .ok (.aload_n 0, 1) := by decide +kernel
theorem dX2_settle_108 : decode cX2_settle 108 = .ok (.getfield 39, 3) := by decide +kernel
theorem dX2_settle_111 : decode cX2_settle 111 = .ok (.iload_n 2, 1) := by decide +kernel
theorem dX2_settle_112 : decode cX2_settle 112 = .ok (.iload_n 3, 1) := by decide +kernel
theorem dX2_settle_113 : decode cX2_settle 113 = .ok (.iastore, 1) := by decide +kernel
theorem dX2_settle_114 : decode cX2_settle 114 = .ok (.aload_n 0, 1) := by decide +kernel
theorem dX2_settle_115 : decode cX2_settle 115 = .ok (.dup, 1) := by decide +kernel
theorem dX2_settle_116 : decode cX2_settle 116 = .ok (.getfield 85, 3) := by decide +kernel
theorem dX2_settle_119 : decode cX2_settle 119 = .ok (.iconst 1, 1) := by decide +kernel
theorem dX2_settle_120 : decode cX2_settle 120 = .ok (.iadd, 1) := by decide +kernel
theorem dX2_settle_121 : decode cX2_settle 121 = .ok (.putfield 85, 3) := by decide +kernel
theorem dX2_settle_124 : decode cX2_settle 124 = .ok (.iload_n 3, 1) := by decide +kernel
theorem dX2_settle_125 : decode cX2_settle 125 = .ok (.ireturn, 1) := by decide +kernel
theorem dX2_ruleDay_0 : decode cX2_ruleDay 0 = .ok (.aload_n 0, 1) := by decide +kernel
theorem dX2_ruleDay_1 : decode cX2_ruleDay 1 = .ok (.getfield 11, 3) := by decide +kernel
theorem dX2_ruleDay_4 : decode cX2_ruleDay 4 = .ok (.iload_n 1, 1) := by decide +kernel
theorem dX2_ruleDay_5 : decode cX2_ruleDay 5 = .ok (.iaload, 1) := by decide +kernel
theorem dX2_ruleDay_6 : decode cX2_ruleDay 6 = .ok (.tableswitch 96 0 2 #[26, 50, 74], 26) := by decide +kernel
theorem dX2_ruleDay_32 : decode cX2_ruleDay 32 = .ok (.aload_n 0, 1) := by decide +kernel
theorem dX2_ruleDay_33 : decode cX2_ruleDay 33 = .ok (.aload_n 0, 1) := by decide +kernel
theorem dX2_ruleDay_34 : decode cX2_ruleDay 34 = .ok (.getfield 21, 3) := by decide +kernel
theorem dX2_ruleDay_37 : decode cX2_ruleDay 37 = .ok (.iload_n 1, 1) := by decide +kernel
theorem dX2_ruleDay_38 : decode cX2_ruleDay 38 = .ok (.iaload, 1) := by decide +kernel
theorem dX2_ruleDay_39 : decode cX2_ruleDay 39 = .ok (.aload_n 0, 1) := by decide +kernel
theorem dX2_ruleDay_40 : decode cX2_ruleDay 40 = .ok (.getfield 15, 3) := by decide +kernel
theorem dX2_ruleDay_43 : decode cX2_ruleDay 43 = .ok (.iload_n 1, 1) := by decide +kernel
theorem dX2_ruleDay_44 : decode cX2_ruleDay 44 = .ok (.iaload, 1) := by decide +kernel
theorem dX2_ruleDay_45 : decode cX2_ruleDay 45 = .ok (.aload_n 0, 1) := by decide +kernel
theorem dX2_ruleDay_46 : decode cX2_ruleDay 46 = .ok (.getfield 18, 3) := by decide +kernel
theorem dX2_ruleDay_49 : decode cX2_ruleDay 49 = .ok (.iload_n 1, 1) := by decide +kernel
theorem dX2_ruleDay_50 : decode cX2_ruleDay 50 = .ok (.iaload, 1) := by decide +kernel
theorem dX2_ruleDay_51 : decode cX2_ruleDay 51 = .ok (.iload_n 2, 1) := by decide +kernel
theorem dX2_ruleDay_52 : decode cX2_ruleDay 52 = .ok (.invokevirtual 93, 3) := by decide +kernel
theorem dX2_ruleDay_55 : decode cX2_ruleDay 55 = .ok (.ireturn, 1) := by decide +kernel
theorem dX2_ruleDay_56 : decode cX2_ruleDay 56 = .ok (.aload_n 0, 1) := by decide +kernel
theorem dX2_ruleDay_57 : decode cX2_ruleDay 57 = .ok (.aload_n 0, 1) := by decide +kernel
theorem dX2_ruleDay_58 : decode cX2_ruleDay 58 = .ok (.getfield 15, 3) := by decide +kernel
theorem dX2_ruleDay_61 : decode cX2_ruleDay 61 = .ok (.iload_n 1, 1) := by decide +kernel
theorem dX2_ruleDay_62 : decode cX2_ruleDay 62 = .ok (.iaload, 1) := by decide +kernel
theorem dX2_ruleDay_63 : decode cX2_ruleDay 63 = .ok (.aload_n 0, 1) := by decide +kernel
theorem dX2_ruleDay_64 : decode cX2_ruleDay 64 = .ok (.getfield 18, 3) := by decide +kernel
theorem dX2_ruleDay_67 : decode cX2_ruleDay 67 = .ok (.iload_n 1, 1) := by decide +kernel
theorem dX2_ruleDay_68 : decode cX2_ruleDay 68 = .ok (.iaload, 1) := by decide +kernel
theorem dX2_ruleDay_69 : decode cX2_ruleDay 69 = .ok (.aload_n 0, 1) := by decide +kernel
theorem dX2_ruleDay_70 : decode cX2_ruleDay 70 = .ok (.getfield 21, 3) := by decide +kernel
theorem dX2_ruleDay_73 : decode cX2_ruleDay 73 = .ok (.iload_n 1, 1) := by decide +kernel
theorem dX2_ruleDay_74 : decode cX2_ruleDay 74 = .ok (.iaload, 1) := by decide +kernel
theorem dX2_ruleDay_75 : decode cX2_ruleDay 75 = .ok (.iload_n 2, 1) := by decide +kernel
theorem dX2_ruleDay_76 : decode cX2_ruleDay 76 = .ok (.invokevirtual 97, 3) := by decide +kernel
theorem dX2_ruleDay_79 : decode cX2_ruleDay 79 = .ok (.ireturn, 1) := by decide +kernel
theorem dX2_ruleDay_80 : decode cX2_ruleDay 80 = .ok (.aload_n 0, 1) := by decide +kernel
theorem dX2_ruleDay_81 : decode cX2_ruleDay 81 = .ok (.getfield 42, 3) := by decide +kernel
theorem dX2_ruleDay_84 : decode cX2_ruleDay 84 = .ok (.aload_n 0, 1) := by decide +kernel
theorem dX2_ruleDay_85 : decode cX2_ruleDay 85 = .ok (.getfield 18, 3) := by decide +kernel
theorem dX2_ruleDay_88 : decode cX2_ruleDay 88 = .ok (.iload_n 1, 1) := by decide +kernel
theorem dX2_ruleDay_89 : decode cX2_ruleDay 89 = .ok (.iaload, 1) := by decide +kernel
theorem dX2_ruleDay_90 : decode cX2_ruleDay 90 = .ok (.iload_n 2, 1) := by decide +kernel
theorem dX2_ruleDay_91 : decode cX2_ruleDay 91 = .ok (.invokevirtual 100, 3) := by decide +kernel
theorem dX2_ruleDay_94 : decode cX2_ruleDay 94 = .ok (.aload_n 0, 1) := by decide +kernel
theorem dX2_ruleDay_95 : decode cX2_ruleDay 95 = .ok (.getfield 15, 3) := by decide +kernel
theorem dX2_ruleDay_98 : decode cX2_ruleDay 98 = .ok (.iload_n 1, 1) := by decide +kernel
theorem dX2_ruleDay_99 : decode cX2_ruleDay 99 = .ok (.iaload, 1) := by decide +kernel
theorem dX2_ruleDay_100 : decode cX2_ruleDay 100 = .ok (.iadd, 1) := by decide +kernel
theorem dX2_ruleDay_101 : decode cX2_ruleDay 101 = .ok (.ireturn, 1) := by decide +kernel
theorem dX2_ruleDay_102 : decode cX2_ruleDay 102 = .ok (.aload_n 0, 1) := by decide +kernel
theorem dX2_ruleDay_103 : decode cX2_ruleDay 103 = .ok (.aload_n 0, 1) := by decide +kernel
theorem dX2_ruleDay_104 : decode cX2_ruleDay 104 = .ok (.getfield 15, 3) := by decide +kernel
theorem dX2_ruleDay_107 : decode cX2_ruleDay 107 = .ok (.iload_n 1, 1) := by decide +kernel
theorem dX2_ruleDay_108 : decode cX2_ruleDay 108 = .ok (.iaload, 1) := by decide +kernel
theorem dX2_ruleDay_109 : decode cX2_ruleDay 109 = .ok (.invokevirtual 105, 3) := by decide +kernel
theorem dX2_ruleDay_112 : decode cX2_ruleDay 112 = .ok (.istore_n 3, 1) := by decide +kernel
theorem dX2_ruleDay_113 : decode cX2_ruleDay 113 = .ok (.iload_n 3, 1) := by decide +kernel
theorem dX2_ruleDay_114 : decode cX2_ruleDay 114 = .ok (.bipush (-2), 2) := by decide +kernel
theorem dX2_ruleDay_116 : decode cX2_ruleDay 116 = .ok (.if_icmp .ne 8, 3) := by decide +kernel
theorem dX2_ruleDay_119 : decode cX2_ruleDay 119 = .ok (.bipush (-2), 2) := by decide +kernel
theorem dX2_ruleDay_121 : decode cX2_ruleDay 121 = .ok (.goto 11, 3) := by decide +kernel
theorem dX2_ruleDay_124 : decode cX2_ruleDay 124 = .ok (.iload_n 3, 1) := by decide +kernel
theorem dX2_ruleDay_125 : decode cX2_ruleDay 125 = .ok (.aload_n 0, 1) := by decide +kernel
theorem dX2_ruleDay_126 : decode cX2_ruleDay 126 = .ok (.getfield 18, 3) := by decide +kernel
theorem dX2_ruleDay_129 : decode cX2_ruleDay 129 = .ok (.iload_n 1, 1) := by decide +kernel
theorem dX2_ruleDay_130 : decode cX2_ruleDay 130 = .ok (.iaload, 1) := by decide +kernel
theorem dX2_ruleDay_131 : decode cX2_ruleDay 131 = .ok (.iadd, 1) := by decide +kernel
theorem dX2_ruleDay_132 : decode cX2_ruleDay 132 = .ok (.ireturn, 1) := by decide +kernel
theorem dX2_fixedDay_0 : decode cX2_fixedDay 0 = .ok (.aload_n 0, 1) := by decide +kernel
theorem dX2_fixedDay_1 : decode cX2_fixedDay 1 = .ok (.getfield 42, 3) := by decide +kernel
theorem dX2_fixedDay_4 : decode cX2_fixedDay 4 = .ok (.iload 4, 2) := by decide +kernel
theorem dX2_fixedDay_6 : decode cX2_fixedDay 6 = .ok (.invokevirtual 108, 3) := by decide +kernel
theorem dX2_fixedDay_9 : decode cX2_fixedDay 9 = .ok (.istore 5, 2) := by decide +kernel
theorem dX2_fixedDay_11 : decode cX2_fixedDay 11 = .ok (.aload_n 0, 1) := by decide +kernel
theorem dX2_fixedDay_12 : decode cX2_fixedDay 12 = .ok (.getfield 42, 3) := by decide +kernel
theorem dX2_fixedDay_15 : decode cX2_fixedDay 15 = .ok (.iload 4, 2) := by decide +kernel
theorem dX2_fixedDay_17 : decode cX2_fixedDay 17 = .ok (.invokevirtual 111, 3) := by decide +kernel
theorem dX2_fixedDay_20 : decode cX2_fixedDay 20 = .ok (.istore 6, 2) := by decide +kernel
theorem dX2_fixedDay_22 : decode cX2_fixedDay 22 = .ok (.iload 5, 2) := by decide +kernel
theorem dX2_fixedDay_24 : decode cX2_fixedDay 24 = .ok (.iload 6, 2) := by decide +kernel
theorem dX2_fixedDay_26 : decode cX2_fixedDay 26 = .ok (.if_icmp .le 6, 3) := by decide +kernel
theorem dX2_fixedDay_29 : decode cX2_fixedDay 29 = .ok (.bipush (-2), 2) := by decide +kernel
theorem dX2_fixedDay_31 : decode cX2_fixedDay 31 = .ok (.ireturn, 1) := by decide +kernel
theorem dX2_fixedDay_32 : decode cX2_fixedDay 32 = .ok (.aload_n 0, 1) := by decide +kernel
theorem dX2_fixedDay_33 : decode cX2_fixedDay 33 = .ok (.getfield 42, 3) := by decide +kernel
theorem dX2_fixedDay_36 : decode cX2_fixedDay 36 = .ok (.iload_n 1, 1) := by decide +kernel
theorem dX2_fixedDay_37 : decode cX2_fixedDay 37 = .ok (.iload 6, 2) := by decide +kernel
theorem dX2_fixedDay_39 : decode cX2_fixedDay 39 = .ok (.invokevirtual 114, 3) := by decide +kernel
theorem dX2_fixedDay_42 : decode cX2_fixedDay 42 = .ok (.istore 7, 2) := by decide +kernel
theorem dX2_fixedDay_44 : decode cX2_fixedDay 44 = .ok (.aload_n 0, 1) := by decide +kernel
theorem dX2_fixedDay_45 : decode cX2_fixedDay 45 = .ok (.getfield 42, 3) := by decide +kernel
theorem dX2_fixedDay_48 : decode cX2_fixedDay 48 = .ok (.iload_n 1, 1) := by decide +kernel
theorem dX2_fixedDay_49 : decode cX2_fixedDay 49 = .ok (.iload 5, 2) := by decide +kernel
theorem dX2_fixedDay_51 : decode cX2_fixedDay 51 = .ok (.invokevirtual 114, 3) := by decide +kernel
theorem dX2_fixedDay_54 : decode cX2_fixedDay 54 = .ok (.istore 8, 2) := by decide +kernel
theorem dX2_fixedDay_56 : decode cX2_fixedDay 56 = .ok (.iload 8, 2) := by decide +kernel
theorem dX2_fixedDay_58 : decode cX2_fixedDay 58 = .ok (.iload 7, 2) := by decide +kernel
theorem dX2_fixedDay_60 : decode cX2_fixedDay 60 = .ok (.if_icmp .gt 72, 3) := by decide +kernel
theorem dX2_fixedDay_63 : decode cX2_fixedDay 63 = .ok (.iload_n 2, 1) := by decide +kernel
theorem dX2_fixedDay_64 : decode cX2_fixedDay 64 = .ok (.aload_n 0, 1) := by decide +kernel
theorem dX2_fixedDay_65 : decode cX2_fixedDay 65 = .ok (.getfield 42, 3) := by decide +kernel
theorem dX2_fixedDay_68 : decode cX2_fixedDay 68 = .ok (.iload_n 1, 1) := by decide +kernel
theorem dX2_fixedDay_69 : decode cX2_fixedDay 69 = .ok (.iload 8, 2) := by decide +kernel
theorem dX2_fixedDay_71 : decode cX2_fixedDay 71 = .ok (.invokevirtual 117, 3) := by decide +kernel
theorem dX2_fixedDay_74 : decode cX2_fixedDay 74 = .ok (.if_icmp .gt 52, 3) := by decide +kernel
theorem dX2_fixedDay_77 : decode cX2_fixedDay 77 = .ok (.iload_n 3, 1) := by decide +kernel
theorem dX2_fixedDay_78 : decode cX2_fixedDay 78 = .ok (.aload_n 0, 1) := by decide +kernel
theorem dX2_fixedDay_79 : decode cX2_fixedDay 79 = .ok (.getfield 42, 3) := by decide +kernel
theorem dX2_fixedDay_82 : decode cX2_fixedDay 82 = .ok (.iload_n 1, 1) := by decide +kernel
theorem dX2_fixedDay_83 : decode cX2_fixedDay 83 = .ok (.iload 8, 2) := by decide +kernel
theorem dX2_fixedDay_85 : decode cX2_fixedDay 85 = .ok (.iload_n 2, 1) := by decide +kernel
theorem dX2_fixedDay_86 : decode cX2_fixedDay 86 = .ok (.invokevirtual 120, 3) := by decide +kernel
theorem dX2_fixedDay_89 : decode cX2_fixedDay 89 = .ok (.if_icmp .gt 37, 3) := by decide +kernel
theorem dX2_fixedDay_92 : decode cX2_fixedDay 92 = .ok (.aload_n 0, 1) := by decide +kernel
theorem dX2_fixedDay_93 : decode cX2_fixedDay 93 = .ok (.getfield 42, 3) := by decide +kernel
theorem dX2_fixedDay_96 : decode cX2_fixedDay 96 = .ok (.iload_n 1, 1) := by decide +kernel
theorem dX2_fixedDay_97 : decode cX2_fixedDay 97 = .ok (.iload 8, 2) := by decide +kernel
theorem dX2_fixedDay_99 : decode cX2_fixedDay 99 = .ok (.iload_n 2, 1) := by decide +kernel
theorem dX2_fixedDay_100 : decode cX2_fixedDay 100 = .ok (.invokevirtual 124, 3) := by decide +kernel
theorem dX2_fixedDay_103 : decode cX2_fixedDay 103 = .ok (.iload_n 3, 1) := by decide +kernel
theorem dX2_fixedDay_104 : decode cX2_fixedDay 104 = .ok (.iadd, 1) := by decide +kernel
theorem dX2_fixedDay_105 : decode cX2_fixedDay 105 = .ok (.iconst 1, 1) := by decide +kernel
theorem dX2_fixedDay_106 : decode cX2_fixedDay 106 = .ok (.isub, 1) := by decide +kernel
theorem dX2_fixedDay_107 : decode cX2_fixedDay 107 = .ok (.istore 9, 2) := by decide +kernel
theorem dX2_fixedDay_109 : decode cX2_fixedDay 109 = .ok (.iload 9, 2) := by decide +kernel
theorem dX2_fixedDay_111 : decode cX2_fixedDay 111 = .ok (.iload 5, 2) := by decide +kernel
theorem dX2_fixedDay_113 : decode cX2_fixedDay 113 = .ok (.if_icmp .lt 13, 3) := by decide +kernel
theorem dX2_fixedDay_116 : decode cX2_fixedDay 116 = .ok (.iload 9, 2) := by decide +kernel
theorem dX2_fixedDay_118 : decode cX2_fixedDay 118 = .ok (.iload 6, 2) := by decide +kernel
theorem dX2_fixedDay_120 : decode cX2_fixedDay 120 = .ok (.if_icmp .gt 6, 3) := by decide +kernel
theorem dX2_fixedDay_123 : decode cX2_fixedDay 123 = .ok (.iload 9, 2) := by decide +kernel
theorem dX2_fixedDay_125 : decode cX2_fixedDay 125 = .ok (.ireturn, 1) := by decide +kernel
theorem dX2_fixedDay_126 : decode cX2_fixedDay 126 = .ok (.iinc 8 1, 3) := by decide +kernel
theorem dX2_fixedDay_129 : decode cX2_fixedDay 129 = .ok (.goto (-73), 3) := by decide +kernel
theorem dX2_fixedDay_132 : decode cX2_fixedDay 132 = .ok (.bipush (-2), 2) := by decide +kernel
theorem dX2_fixedDay_134 : decode cX2_fixedDay 134 = .ok (.ireturn, 1) := by decide +kernel
theorem dX2_weekdayDay_0 : decode cX2_weekdayDay 0 = .ok (.aload_n 0, 1) := by decide +kernel
theorem dX2_weekdayDay_1 : decode cX2_weekdayDay 1 = .ok (.getfield 42, 3) := by decide +kernel
theorem dX2_weekdayDay_4 : decode cX2_weekdayDay 4 = .ok (.iconst 0, 1) := by decide +kernel
theorem dX2_weekdayDay_5 : decode cX2_weekdayDay 5 = .ok (.iload 4, 2) := by decide +kernel
theorem dX2_weekdayDay_7 : decode cX2_weekdayDay 7 = .ok (.iload_n 1, 1) := by decide +kernel
theorem dX2_weekdayDay_8 : decode cX2_weekdayDay 8 = .ok (.invokevirtual 124, 3) := by decide +kernel
theorem dX2_weekdayDay_11 : decode cX2_weekdayDay 11 = .ok (.istore 5, 2) := by decide +kernel
theorem dX2_weekdayDay_13 : decode cX2_weekdayDay 13 = .ok (.iload 5, 2) := by decide +kernel
theorem dX2_weekdayDay_15 : decode cX2_weekdayDay 15 = .ok (.aload_n 0, 1) := by decide +kernel
theorem dX2_weekdayDay_16 : decode cX2_weekdayDay 16 = .ok (.getfield 42, 3) := by decide +kernel
theorem dX2_weekdayDay_19 : decode cX2_weekdayDay 19 = .ok (.iconst 0, 1) := by decide +kernel
theorem dX2_weekdayDay_20 : decode cX2_weekdayDay 20 = .ok (.iload 4, 2) := by decide +kernel
theorem dX2_weekdayDay_22 : decode cX2_weekdayDay 22 = .ok (.iload_n 1, 1) := by decide +kernel
theorem dX2_weekdayDay_23 : decode cX2_weekdayDay 23 = .ok (.invokevirtual 120, 3) := by decide +kernel
theorem dX2_weekdayDay_26 : decode cX2_weekdayDay 26 = .ok (.iadd, 1) := by decide +kernel
theorem dX2_weekdayDay_27 : decode cX2_weekdayDay 27 = .ok (.istore 6, 2) := by decide +kernel
theorem dX2_weekdayDay_29 : decode cX2_weekdayDay 29 = .ok (.iload 5, 2) := by decide +kernel
theorem dX2_weekdayDay_31 : decode cX2_weekdayDay 31 = .ok (.iload_n 2, 1) := by decide +kernel
theorem dX2_weekdayDay_32 : decode cX2_weekdayDay 32 = .ok (.iload 5, 2) := by decide +kernel
theorem dX2_weekdayDay_34 : decode cX2_weekdayDay 34 = .ok (.isub, 1) := by decide +kernel
theorem dX2_weekdayDay_35 : decode cX2_weekdayDay 35 = .ok (.bipush 7, 2) := by decide +kernel
theorem dX2_weekdayDay_37 : decode cX2_weekdayDay 37 = .ok (.invokestatic 73, 3) := by decide +kernel
theorem dX2_weekdayDay_40 : decode cX2_weekdayDay 40 = .ok (.iadd, 1) := by decide +kernel
theorem dX2_weekdayDay_41 : decode cX2_weekdayDay 41 = .ok (.istore 7, 2) := by decide +kernel
theorem dX2_weekdayDay_43 : decode cX2_weekdayDay 43 = .ok (.iload_n 3, 1) := by decide +kernel
theorem dX2_weekdayDay_44 : decode cX2_weekdayDay 44 = .ok (.iconst (-1), 1) := by decide +kernel
theorem dX2_weekdayDay_45 : decode cX2_weekdayDay 45 = .ok (.if_icmp .ne 27, 3) := by decide +kernel
theorem dX2_weekdayDay_48 : decode cX2_weekdayDay 48 = .ok (.iload 7, 2) := by decide +kernel
theorem dX2_weekdayDay_50 : decode cX2_weekdayDay 50 = .ok (.bipush 28, 2) := by decide +kernel
theorem dX2_weekdayDay_52 : decode cX2_weekdayDay 52 = .ok (.iadd, 1) := by decide +kernel
theorem dX2_weekdayDay_53 : decode cX2_weekdayDay 53 = .ok (.iload 6, 2) := by decide +kernel
theorem dX2_weekdayDay_55 : decode cX2_weekdayDay 55 = .ok (.if_icmp .ge 11, 3) := by decide +kernel
theorem dX2_weekdayDay_58 : decode cX2_weekdayDay 58 = .ok (.iload 7, 2) := by decide +kernel
theorem dX2_weekdayDay_60 : decode cX2_weekdayDay 60 = .ok (.bipush 28, 2) := by decide +kernel
theorem dX2_weekdayDay_62 : decode cX2_weekdayDay 62 = .ok (.iadd, 1) := by decide +kernel
theorem dX2_weekdayDay_63 : decode cX2_weekdayDay 63 = .ok (.goto 8, 3) := by decide +kernel
theorem dX2_weekdayDay_66 : decode cX2_weekdayDay 66 = .ok (.iload 7, 2) := by decide +kernel
theorem dX2_weekdayDay_68 : decode cX2_weekdayDay 68 = .ok (.bipush 21, 2) := by decide +kernel
theorem dX2_weekdayDay_70 : decode cX2_weekdayDay 70 = .ok (.iadd, 1) := by decide +kernel
theorem dX2_weekdayDay_71 : decode cX2_weekdayDay 71 = .ok (.ireturn, 1) := by decide +kernel
theorem dX2_weekdayDay_72 : decode cX2_weekdayDay 72 = .ok (.iload 7, 2) := by decide +kernel
theorem dX2_weekdayDay_74 : decode cX2_weekdayDay 74 = .ok (.bipush 7, 2) := by decide +kernel
theorem dX2_weekdayDay_76 : decode cX2_weekdayDay 76 = .ok (.iload_n 3, 1) := by decide +kernel
theorem dX2_weekdayDay_77 : decode cX2_weekdayDay 77 = .ok (.iconst 1, 1) := by decide +kernel
theorem dX2_weekdayDay_78 : decode cX2_weekdayDay 78 = .ok (.isub, 1) := by decide +kernel
theorem dX2_weekdayDay_79 : decode cX2_weekdayDay 79 = .ok (.imul, 1) := by decide +kernel
theorem dX2_weekdayDay_80 : decode cX2_weekdayDay 80 = .ok (.iadd, 1) := by decide +kernel
theorem dX2_weekdayDay_81 : decode cX2_weekdayDay 81 = .ok (.istore 7, 2) := by decide +kernel
theorem dX2_weekdayDay_83 : decode cX2_weekdayDay 83 = .ok (.iload 7, 2) := by decide +kernel
theorem dX2_weekdayDay_85 : decode cX2_weekdayDay 85 = .ok (.iload 6, 2) := by decide +kernel
theorem dX2_weekdayDay_87 : decode cX2_weekdayDay 87 = .ok (.if_icmp .ge 8, 3) := by decide +kernel
theorem dX2_weekdayDay_90 : decode cX2_weekdayDay 90 = .ok (.iload 7, 2) := by decide +kernel
theorem dX2_weekdayDay_92 : decode cX2_weekdayDay 92 = .ok (.goto 5, 3) := by decide +kernel
theorem dX2_weekdayDay_95 : decode cX2_weekdayDay 95 = .ok (.bipush (-2), 2) := by decide +kernel
theorem dX2_weekdayDay_97 : decode cX2_weekdayDay 97 = .ok (.ireturn, 1) := by decide +kernel
theorem dX3_ageOn_0 : decode cX3_ageOn 0 = .ok (.iload_n 0, 1) := by decide +kernel
theorem dX3_ageOn_1 : decode cX3_ageOn 1 = .ok (.i2l, 1) := by decide +kernel
theorem dX3_ageOn_2 : decode cX3_ageOn 2 = .ok (.ldc2_w 9, 3) := by decide +kernel
theorem dX3_ageOn_5 : decode cX3_ageOn 5 = .ok (.lmul, 1) := by decide +kernel
theorem dX3_ageOn_6 : decode cX3_ageOn 6 = .ok (.ldc2_w 11, 3) := by decide +kernel
theorem dX3_ageOn_9 : decode cX3_ageOn 9 = .ok (.lsub, 1) := by decide +kernel
theorem dX3_ageOn_10 : decode cX3_ageOn 10 = .ok (.ldc2_w 13, 3) := by decide +kernel
theorem dX3_ageOn_13 : decode cX3_ageOn 13 = .ok (.invokestatic 15, 3) := by decide +kernel
theorem dX3_ageOn_16 : decode cX3_ageOn 16 = .ok (.l2i, 1) := by decide +kernel
theorem dX3_ageOn_17 : decode cX3_ageOn 17 = .ok (.ireturn, 1) := by decide +kernel
theorem dX3_dayOfNewMoon_0 : decode cX3_dayOfNewMoon 0 = .ok (.ldc2_w 11, 3) := by decide +kernel
theorem dX3_dayOfNewMoon_3 : decode cX3_dayOfNewMoon 3 = .ok (.iload_n 0, 1) := by decide +kernel
theorem dX3_dayOfNewMoon_4 : decode cX3_dayOfNewMoon 4 = .ok (.i2l, 1) := by decide +kernel
theorem dX3_dayOfNewMoon_5 : decode cX3_dayOfNewMoon 5 = .ok (.ldc2_w 13, 3) := by decide +kernel
theorem dX3_dayOfNewMoon_8 : decode cX3_dayOfNewMoon 8 = .ok (.lmul, 1) := by decide +kernel
theorem dX3_dayOfNewMoon_9 : decode cX3_dayOfNewMoon 9 = .ok (.ladd, 1) := by decide +kernel
theorem dX3_dayOfNewMoon_10 : decode cX3_dayOfNewMoon 10 = .ok (.ldc2_w 9, 3) := by decide +kernel
theorem dX3_dayOfNewMoon_13 : decode cX3_dayOfNewMoon 13 = .ok (.ldiv, 1) := by decide +kernel
theorem dX3_dayOfNewMoon_14 : decode cX3_dayOfNewMoon 14 = .ok (.lreturn, 1) := by decide +kernel
theorem dX3_isNewOn_0 : decode cX3_isNewOn 0 = .ok (.iload_n 0, 1) := by decide +kernel
theorem dX3_isNewOn_1 : decode cX3_isNewOn 1 = .ok (.iconst 1, 1) := by decide +kernel
theorem dX3_isNewOn_2 : decode cX3_isNewOn 2 = .ok (.iadd, 1) := by decide +kernel
theorem dX3_isNewOn_3 : decode cX3_isNewOn 3 = .ok (.i2l, 1) := by decide +kernel
theorem dX3_isNewOn_4 : decode cX3_isNewOn 4 = .ok (.ldc2_w 9, 3) := by decide +kernel
theorem dX3_isNewOn_7 : decode cX3_isNewOn 7 = .ok (.lmul, 1) := by decide +kernel
theorem dX3_isNewOn_8 : decode cX3_isNewOn 8 = .ok (.lconst 1, 1) := by decide +kernel
theorem dX3_isNewOn_9 : decode cX3_isNewOn 9 = .ok (.lsub, 1) := by decide +kernel
theorem dX3_isNewOn_10 : decode cX3_isNewOn 10 = .ok (.ldc2_w 11, 3) := by decide +kernel
theorem dX3_isNewOn_13 : decode cX3_isNewOn 13 = .ok (.lsub, 1) := by decide +kernel
theorem dX3_isNewOn_14 : decode cX3_isNewOn 14 = .ok (.ldc2_w 13, 3) := by decide +kernel
theorem dX3_isNewOn_17 : decode cX3_isNewOn 17 = .ok (.invokestatic 15, 3) := by decide +kernel
theorem dX3_isNewOn_20 : decode cX3_isNewOn 20 = .ok (.ldc2_w 9, 3) := by decide +kernel
theorem dX3_isNewOn_23 : decode cX3_isNewOn 23 = .ok (.lcmp, 1) := by decide +kernel
theorem dX3_isNewOn_24 : decode cX3_isNewOn 24 = .ok (.ifCond .ge 7, 3) := by decide +kernel
theorem dX3_isNewOn_27 : decode cX3_isNewOn 27 = .ok (.iconst 1, 1) := by decide +kernel
theorem dX3_isNewOn_28 : decode cX3_isNewOn 28 = .ok (.goto 4, 3) := by decide +kernel
theorem dX3_isNewOn_31 : decode cX3_isNewOn 31 = .ok (.iconst 0, 1) := by decide +kernel
theorem dX3_isNewOn_32 : decode cX3_isNewOn 32 = .ok (.ireturn, 1) := by decide +kernel
theorem dX3_floorOf_0 : decode cX3_floorOf 0 = .ok (.dload_n 0, 1) := by decide +kernel
theorem dX3_floorOf_1 : decode cX3_floorOf 1 = .ok (.d2l, 1) := by decide +kernel
theorem dX3_floorOf_2 : decode cX3_floorOf 2 = .ok (.l2d, 1) := by decide +kernel
theorem dX3_floorOf_3 : decode cX3_floorOf 3 = .ok (.dstore_n 2, 1) := by decide +kernel
theorem dX3_floorOf_4 : decode cX3_floorOf 4 = .ok (.dload_n 2, 1) := by decide +kernel
theorem dX3_floorOf_5 : decode cX3_floorOf 5 = .ok (.dload_n 0, 1) := by decide +kernel
theorem dX3_floorOf_6 : decode cX3_floorOf 6 = .ok (.dcmp .l, 1) := by decide +kernel
theorem dX3_floorOf_7 : decode cX3_floorOf 7 = .ok (.ifCond .le 9, 3) := by decide +kernel
theorem dX3_floorOf_10 : decode cX3_floorOf 10 = .ok (.dload_n 2, 1) := by decide +kernel
theorem dX3_floorOf_11 : decode cX3_floorOf 11 = .ok (.dconst 1, 1) := by decide +kernel
theorem dX3_floorOf_12 : decode cX3_floorOf 12 = .ok (.dsub, 1) := by decide +kernel
theorem dX3_floorOf_13 : decode cX3_floorOf 13 = .ok (.goto 4, 3) := by decide +kernel
theorem dX3_floorOf_16 : decode cX3_floorOf 16 = .ok (.dload_n 2, 1) := by decide +kernel
theorem dX3_floorOf_17 : decode cX3_floorOf 17 = .ok (.dreturn, 1) := by decide +kernel
theorem dX3_wave_0 : decode cX3_wave 0 = .ok (.dload_n 0, 1) := by decide +kernel
theorem dX3_wave_1 : decode cX3_wave 1 = .ok (.dload_n 0, 1) := by decide +kernel
theorem dX3_wave_2 : decode cX3_wave 2 = .ok (.invokestatic 21, 3) := by decide +kernel
theorem dX3_wave_5 : decode cX3_wave 5 = .ok (.dsub, 1) := by decide +kernel
theorem dX3_wave_6 : decode cX3_wave 6 = .ok (.dstore_n 2, 1) := by decide +kernel
theorem dX3_wave_7 : decode cX3_wave 7 = .ok (.ldc2_w 25, 3) := by decide +kernel
theorem dX3_wave_10 : decode cX3_wave 10 = .ok (.dload_n 2, 1) := by decide +kernel
theorem dX3_wave_11 : decode cX3_wave 11 = .ok (.dmul, 1) := by decide +kernel
theorem dX3_wave_12 : decode cX3_wave 12 = .ok (.dconst 1, 1) := by decide +kernel
theorem dX3_wave_13 : decode cX3_wave 13 = .ok (.dsub, 1) := by decide +kernel
theorem dX3_wave_14 : decode cX3_wave 14 = .ok (.dstore 4, 2) := by decide +kernel
theorem dX3_wave_16 : decode cX3_wave 16 = .ok (.dload 4, 2) := by decide +kernel
theorem dX3_wave_18 : decode cX3_wave 18 = .ok (.dload 4, 2) := by decide +kernel
theorem dX3_wave_20 : decode cX3_wave 20 = .ok (.dmul, 1) := by decide +kernel
theorem dX3_wave_21 : decode cX3_wave 21 = .ok (.dstore 6, 2) := by decide +kernel
theorem dX3_wave_23 : decode cX3_wave 23 = .ok (.dload 4, 2) := by decide +kernel
theorem dX3_wave_25 : decode cX3_wave 25 = .ok (.dload 6, 2) := by decide +kernel
theorem dX3_wave_27 : decode cX3_wave 27 = .ok (.dconst 1, 1) := by decide +kernel
theorem dX3_wave_28 : decode cX3_wave 28 = .ok (.dsub, 1) := by decide +kernel
theorem dX3_wave_29 : decode cX3_wave 29 = .ok (.dmul, 1) := by decide +kernel
theorem dX3_wave_30 : decode cX3_wave 30 = .ok (.ldc2_w 27, 3) := by decide +kernel
theorem dX3_wave_33 : decode cX3_wave 33 = .ok (.dload 6, 2) := by decide +kernel
theorem dX3_wave_35 : decode cX3_wave 35 = .ok (.ldc2_w 29, 3) := by decide +kernel
theorem dX3_wave_38 : decode cX3_wave 38 = .ok (.dload 6, 2) := by decide +kernel
theorem dX3_wave_40 : decode cX3_wave 40 = .ok (.ldc2_w 31, 3) := by decide +kernel
theorem dX3_wave_43 : decode cX3_wave 43 = .ok (.dmul, 1) := by decide +kernel
theorem dX3_wave_44 : decode cX3_wave 44 = .ok (.dsub, 1) := by decide +kernel
theorem dX3_wave_45 : decode cX3_wave 45 = .ok (.dmul, 1) := by decide +kernel
theorem dX3_wave_46 : decode cX3_wave 46 = .ok (.dsub, 1) := by decide +kernel
theorem dX3_wave_47 : decode cX3_wave 47 = .ok (.dmul, 1) := by decide +kernel
theorem dX3_wave_48 : decode cX3_wave 48 = .ok (.dreturn, 1) := by decide +kernel
theorem dX3_estimatedAge_0 : decode cX3_estimatedAge 0 = .ok (.iload_n 0, 1) := by decide +kernel
theorem dX3_estimatedAge_1 : decode cX3_estimatedAge 1 = .ok (.invokestatic 33, 3) := by decide +kernel
theorem dX3_estimatedAge_4 : decode cX3_estimatedAge 4 = .ok (.i2d, 1) := by decide +kernel
theorem dX3_estimatedAge_5 : decode cX3_estimatedAge 5 = .ok (.ldc2_w 37, 3) := by decide +kernel
theorem dX3_estimatedAge_8 : decode cX3_estimatedAge 8 = .ok (.ddiv, 1) := by decide +kernel
theorem dX3_estimatedAge_9 : decode cX3_estimatedAge 9 = .ok (.dstore_n 1, 1) := by decide +kernel
theorem dX3_estimatedAge_10 : decode cX3_estimatedAge 10 = .ok (.dload_n 1, 1) := by decide +kernel
theorem dX3_estimatedAge_11 : decode cX3_estimatedAge 11 = .ok (.ldc2_w 39, 3) := by decide +kernel
theorem dX3_estimatedAge_14 : decode cX3_estimatedAge 14 = .ok (.iload_n 0, 1) := by decide +kernel
theorem dX3_estimatedAge_15 : decode cX3_estimatedAge 15 = .ok (.i2d, 1) := by decide +kernel
theorem dX3_estimatedAge_16 : decode cX3_estimatedAge 16 = .ok (.ldc2_w 41, 3) := by decide +kernel
theorem dX3_estimatedAge_19 : decode cX3_estimatedAge 19 = .ok (.dmul, 1) := by decide +kernel
theorem dX3_estimatedAge_20 : decode cX3_estimatedAge 20 = .ok (.ldc2_w 43, 3) := by decide +kernel
theorem dX3_estimatedAge_23 : decode cX3_estimatedAge 23 = .ok (.dadd, 1) := by decide +kernel
theorem dX3_estimatedAge_24 : decode cX3_estimatedAge 24 = .ok (.invokestatic 45, 3) := by decide +kernel
theorem dX3_estimatedAge_27 : decode cX3_estimatedAge 27 = .ok (.dmul, 1) := by decide +kernel
theorem dX3_estimatedAge_28 : decode cX3_estimatedAge 28 = .ok (.dadd, 1) := by decide +kernel
theorem dX3_estimatedAge_29 : decode cX3_estimatedAge 29 = .ok (.dstore_n 1, 1) := by decide +kernel
theorem dX3_estimatedAge_30 : decode cX3_estimatedAge 30 = .ok (.dload_n 1, 1) := by decide +kernel
theorem dX3_estimatedAge_31 : decode cX3_estimatedAge 31 = .ok (.ldc2_w 48, 3) := by decide +kernel
theorem dX3_estimatedAge_34 : decode cX3_estimatedAge 34 = .ok (.iload_n 0, 1) := by decide +kernel
theorem dX3_estimatedAge_35 : decode cX3_estimatedAge 35 = .ok (.i2d, 1) := by decide +kernel
theorem dX3_estimatedAge_36 : decode cX3_estimatedAge 36 = .ok (.ldc2_w 50, 3) := by decide +kernel
theorem dX3_estimatedAge_39 : decode cX3_estimatedAge 39 = .ok (.dmul, 1) := by decide +kernel
theorem dX3_estimatedAge_40 : decode cX3_estimatedAge 40 = .ok (.ldc2_w 52, 3) := by decide +kernel
theorem dX3_estimatedAge_43 : decode cX3_estimatedAge 43 = .ok (.dadd, 1) := by decide +kernel
theorem dX3_estimatedAge_44 : decode cX3_estimatedAge 44 = .ok (.invokestatic 45, 3) := by decide +kernel
theorem dX3_estimatedAge_47 : decode cX3_estimatedAge 47 = .ok (.dmul, 1) := by decide +kernel
theorem dX3_estimatedAge_48 : decode cX3_estimatedAge 48 = .ok (.dadd, 1) := by decide +kernel
theorem dX3_estimatedAge_49 : decode cX3_estimatedAge 49 = .ok (.dstore_n 1, 1) := by decide +kernel
theorem dX3_estimatedAge_50 : decode cX3_estimatedAge 50 = .ok (.dload_n 1, 1) := by decide +kernel
theorem dX3_estimatedAge_51 : decode cX3_estimatedAge 51 = .ok (.ldc2_w 54, 3) := by decide +kernel
theorem dX3_estimatedAge_54 : decode cX3_estimatedAge 54 = .ok (.iload_n 0, 1) := by decide +kernel
theorem dX3_estimatedAge_55 : decode cX3_estimatedAge 55 = .ok (.i2d, 1) := by decide +kernel
theorem dX3_estimatedAge_56 : decode cX3_estimatedAge 56 = .ok (.ldc2_w 56, 3) := by decide +kernel
theorem dX3_estimatedAge_59 : decode cX3_estimatedAge 59 = .ok (.dmul, 1) := by decide +kernel
theorem dX3_estimatedAge_60 : decode cX3_estimatedAge 60 = .ok (.ldc2_w 58, 3) := by decide +kernel
theorem dX3_estimatedAge_63 : decode cX3_estimatedAge 63 = .ok (.dadd, 1) := by decide +kernel
theorem dX3_estimatedAge_64 : decode cX3_estimatedAge 64 = .ok (.invokestatic 45, 3) := by decide +kernel
theorem dX3_estimatedAge_67 : decode cX3_estimatedAge 67 = .ok (.dmul, 1) := by decide +kernel
theorem dX3_estimatedAge_68 : decode cX3_estimatedAge 68 = .ok (.dadd, 1) := by decide +kernel
theorem dX3_estimatedAge_69 : decode cX3_estimatedAge 69 = .ok (.dstore_n 1, 1) := by decide +kernel
theorem dX3_estimatedAge_70 : decode cX3_estimatedAge 70 = .ok (.dload_n 1, 1) := by decide +kernel
theorem dX3_estimatedAge_71 : decode cX3_estimatedAge 71 = .ok (.ldc2_w 60, 3) := by decide +kernel
theorem dX3_estimatedAge_74 : decode cX3_estimatedAge 74 = .ok (.iload_n 0, 1) := by decide +kernel
theorem dX3_estimatedAge_75 : decode cX3_estimatedAge 75 = .ok (.i2d, 1) := by decide +kernel
theorem dX3_estimatedAge_76 : decode cX3_estimatedAge 76 = .ok (.ldc2_w 62, 3) := by decide +kernel
theorem dX3_estimatedAge_79 : decode cX3_estimatedAge 79 = .ok (.dmul, 1) := by decide +kernel
theorem dX3_estimatedAge_80 : decode cX3_estimatedAge 80 = .ok (.ldc2_w 64, 3) := by decide +kernel
theorem dX3_estimatedAge_83 : decode cX3_estimatedAge 83 = .ok (.dadd, 1) := by decide +kernel
theorem dX3_estimatedAge_84 : decode cX3_estimatedAge 84 = .ok (.invokestatic 45, 3) := by decide +kernel
theorem dX3_estimatedAge_87 : decode cX3_estimatedAge 87 = .ok (.dmul, 1) := by decide +kernel
theorem dX3_estimatedAge_88 : decode cX3_estimatedAge 88 = .ok (.dadd, 1) := by decide +kernel
theorem dX3_estimatedAge_89 : decode cX3_estimatedAge 89 = .ok (.dstore_n 1, 1) := by decide +kernel
theorem dX3_estimatedAge_90 : decode cX3_estimatedAge 90 = .ok (.dload_n 1, 1) := by decide +kernel
theorem dX3_estimatedAge_91 : decode cX3_estimatedAge 91 = .ok (.ldc2_w 66, 3) := by decide +kernel
theorem dX3_estimatedAge_94 : decode cX3_estimatedAge 94 = .ok (.iload_n 0, 1) := by decide +kernel
theorem dX3_estimatedAge_95 : decode cX3_estimatedAge 95 = .ok (.i2d, 1) := by decide +kernel
theorem dX3_estimatedAge_96 : decode cX3_estimatedAge 96 = .ok (.ldc2_w 68, 3) := by decide +kernel
theorem dX3_estimatedAge_99 : decode cX3_estimatedAge 99 = .ok (.dmul, 1) := by decide +kernel
theorem dX3_estimatedAge_100 : decode cX3_estimatedAge 100 = .ok (.ldc2_w 70, 3) := by decide +kernel
theorem dX3_estimatedAge_103 : decode cX3_estimatedAge 103 = .ok (.dadd, 1) := by decide +kernel
theorem dX3_estimatedAge_104 : decode cX3_estimatedAge 104 = .ok (.invokestatic 45, 3) := by decide +kernel
theorem dX3_estimatedAge_107 : decode cX3_estimatedAge 107 = .ok (.dmul, 1) := by decide +kernel
theorem dX3_estimatedAge_108 : decode cX3_estimatedAge 108 = .ok (.dadd, 1) := by decide +kernel
theorem dX3_estimatedAge_109 : decode cX3_estimatedAge 109 = .ok (.dstore_n 1, 1) := by decide +kernel
theorem dX3_estimatedAge_110 : decode cX3_estimatedAge 110 = .ok (.dload_n 1, 1) := by decide +kernel
theorem dX3_estimatedAge_111 : decode cX3_estimatedAge 111 = .ok (.dreturn, 1) := by decide +kernel
theorem dX3_lightOn_0 : decode cX3_lightOn 0 = .ok (.ldc2_w 72, 3) := by decide +kernel
theorem dX3_lightOn_3 : decode cX3_lightOn 3 = .ok (.ldc2_w 72, 3) := by decide +kernel
theorem dX3_lightOn_6 : decode cX3_lightOn 6 = .ok (.iload_n 0, 1) := by decide +kernel
theorem dX3_lightOn_7 : decode cX3_lightOn 7 = .ok (.invokestatic 74, 3) := by decide +kernel
theorem dX3_lightOn_10 : decode cX3_lightOn 10 = .ok (.ldc2_w 78, 3) := by decide +kernel
theorem dX3_lightOn_13 : decode cX3_lightOn 13 = .ok (.ddiv, 1) := by decide +kernel
theorem dX3_lightOn_14 : decode cX3_lightOn 14 = .ok (.ldc2_w 80, 3) := by decide +kernel
theorem dX3_lightOn_17 : decode cX3_lightOn 17 = .ok (.dadd, 1) := by decide +kernel
theorem dX3_lightOn_18 : decode cX3_lightOn 18 = .ok (.invokestatic 45, 3) := by decide +kernel
theorem dX3_lightOn_21 : decode cX3_lightOn 21 = .ok (.dmul, 1) := by decide +kernel
theorem dX3_lightOn_22 : decode cX3_lightOn 22 = .ok (.dsub, 1) := by decide +kernel
theorem dX3_lightOn_23 : decode cX3_lightOn 23 = .ok (.dstore_n 1, 1) := by decide +kernel
theorem dX3_lightOn_24 : decode cX3_lightOn 24 = .ok (.dload_n 1, 1) := by decide +kernel
theorem dX3_lightOn_25 : decode cX3_lightOn 25 = .ok (.dconst 0, 1) := by decide +kernel
theorem dX3_lightOn_26 : decode cX3_lightOn 26 = .ok (.dcmp .g, 1) := by decide +kernel
theorem dX3_lightOn_27 : decode cX3_lightOn 27 = .ok (.ifCond .gt 5, 3) := by decide +kernel
theorem dX3_lightOn_30 : decode cX3_lightOn 30 = .ok (.iconst 0, 1) := by decide +kernel
theorem dX3_lightOn_31 : decode cX3_lightOn 31 = .ok (.ireturn, 1) := by decide +kernel
theorem dX3_lightOn_32 : decode cX3_lightOn 32 = .ok (.dload_n 1, 1) := by decide +kernel
theorem dX3_lightOn_33 : decode cX3_lightOn 33 = .ok (.ldc2_w 82, 3) := by decide +kernel
theorem dX3_lightOn_36 : decode cX3_lightOn 36 = .ok (.dcmp .l, 1) := by decide +kernel
theorem dX3_lightOn_37 : decode cX3_lightOn 37 = .ok (.ifCond .lt 7, 3) := by decide +kernel
theorem dX3_lightOn_40 : decode cX3_lightOn 40 = .ok (.sipush 1000, 3) := by decide +kernel
theorem dX3_lightOn_43 : decode cX3_lightOn 43 = .ok (.ireturn, 1) := by decide +kernel
theorem dX3_lightOn_44 : decode cX3_lightOn 44 = .ok (.dload_n 1, 1) := by decide +kernel
theorem dX3_lightOn_45 : decode cX3_lightOn 45 = .ok (.d2i, 1) := by decide +kernel
theorem dX3_lightOn_46 : decode cX3_lightOn 46 = .ok (.istore_n 3, 1) := by decide +kernel
theorem dX3_lightOn_47 : decode cX3_lightOn 47 = .ok (.dload_n 1, 1) := by decide +kernel
theorem dX3_lightOn_48 : decode cX3_lightOn 48 = .ok (.iload_n 3, 1) := by decide +kernel
theorem dX3_lightOn_49 : decode cX3_lightOn 49 = .ok (.i2d, 1) := by decide +kernel
theorem dX3_lightOn_50 : decode cX3_lightOn 50 = .ok (.dsub, 1) := by decide +kernel
theorem dX3_lightOn_51 : decode cX3_lightOn 51 = .ok (.dstore 4, 2) := by decide +kernel
theorem dX3_lightOn_53 : decode cX3_lightOn 53 = .ok (.dload 4, 2) := by decide +kernel
theorem dX3_lightOn_55 : decode cX3_lightOn 55 = .ok (.ldc2_w 70, 3) := by decide +kernel
theorem dX3_lightOn_58 : decode cX3_lightOn 58 = .ok (.dcmp .l, 1) := by decide +kernel
theorem dX3_lightOn_59 : decode cX3_lightOn 59 = .ok (.ifCond .gt 19, 3) := by decide +kernel
theorem dX3_lightOn_62 : decode cX3_lightOn 62 = .ok (.dload 4, 2) := by decide +kernel
theorem dX3_lightOn_64 : decode cX3_lightOn 64 = .ok (.ldc2_w 70, 3) := by decide +kernel
theorem dX3_lightOn_67 : decode cX3_lightOn 67 = .ok (.dcmp .l, 1) := by decide +kernel
theorem dX3_lightOn_68 : decode cX3_lightOn 68 = .ok (.ifCond .ne 14, 3) := by decide +kernel
theorem dX3_lightOn_71 : decode cX3_lightOn 71 = .ok (.iload_n 3, 1) := by decide +kernel
theorem dX3_lightOn_72 : decode cX3_lightOn 72 = .ok (.iconst 2, 1) := by decide +kernel
theorem dX3_lightOn_73 : decode cX3_lightOn 73 = .ok (.irem, 1) := by decide +kernel
theorem dX3_lightOn_74 : decode cX3_lightOn 74 = .ok (.iconst 1, 1) := by decide +kernel
theorem dX3_lightOn_75 : decode cX3_lightOn 75 = .ok (.if_icmp .ne 7, 3) := by decide +kernel
theorem dX3_lightOn_78 : decode cX3_lightOn 78 = .ok (.iconst 1, 1) := by decide +kernel
theorem dX3_lightOn_79 : decode cX3_lightOn 79 = .ok (.goto 4, 3) := by decide +kernel
theorem dX3_lightOn_82 : decode cX3_lightOn 82 = .ok (.iconst 0, 1) := by decide +kernel
theorem dX3_lightOn_83 : decode cX3_lightOn 83 = .ok (.istore 6, 2) := by decide +kernel
theorem dX3_lightOn_85 : decode cX3_lightOn 85 = .ok (.iload 6, 2) := by decide +kernel
theorem dX3_lightOn_87 : decode cX3_lightOn 87 = .ok (.ifCond .eq 9, 3) := by decide +kernel
theorem dX3_lightOn_90 : decode cX3_lightOn 90 = .ok (.iload_n 3, 1) := by decide +kernel
theorem dX3_lightOn_91 : decode cX3_lightOn 91 = .ok (.iconst 1, 1) := by decide +kernel
theorem dX3_lightOn_92 : decode cX3_lightOn 92 = .ok (.iadd, 1) := by decide +kernel
theorem dX3_lightOn_93 : decode cX3_lightOn 93 = .ok (.goto 4, 3) := by decide +kernel
theorem dX3_lightOn_96 : decode cX3_lightOn 96 = .ok (.iload_n 3, 1) := by decide +kernel
theorem dX3_lightOn_97 : decode cX3_lightOn 97 = .ok (.ireturn, 1) := by decide +kernel
theorem dX4_init_0 : decode cX4_init 0 = .ok (.aload_n 0, 1) := by decide +kernel
theorem dX4_init_1 : decode cX4_init 1 = .ok (.invokespecial 1, 3) := by decide +kernel
theorem dX4_init_4 : decode cX4_init 4 = .ok (.aload_n 0, 1) := by decide +kernel
theorem dX4_init_5 : decode cX4_init 5 = .ok (.sipush 1120, 3) := by decide +kernel
theorem dX4_init_8 : decode cX4_init 8 = .ok (.newarray .int, 2) := by decide +kernel
theorem dX4_init_10 : decode cX4_init 10 = .ok (.putfield 9, 3) := by decide +kernel
theorem dX4_init_13 : decode cX4_init 13 = .ok (.aload_n 0, 1) := by decide +kernel
theorem dX4_init_14 : decode cX4_init 14 = .ok (.getfield 9, 3) := by decide +kernel
theorem dX4_init_17 : decode cX4_init 17 = .ok (.bipush 32, 2) := by decide +kernel
theorem dX4_init_19 : decode cX4_init 19 = .ok (.invokestatic 13, 3) := by decide +kernel
theorem dX4_init_22 : decode cX4_init 22 = .ok (.return_, 1) := by decide +kernel
theorem dX4_lineOf_0 : decode cX4_lineOf 0 = .ok (.iconst 2, 1) := by decide +kernel
theorem dX4_lineOf_1 : decode cX4_lineOf 1 = .ok (.iload_n 1, 1) := by decide +kernel
theorem dX4_lineOf_2 : decode cX4_lineOf 2 = .ok (.iload_n 0, 1) := by decide +kernel
theorem dX4_lineOf_3 : decode cX4_lineOf 3 = .ok (.iload_n 0, 1) := by decide +kernel
theorem dX4_lineOf_4 : decode cX4_lineOf 4 = .ok (.bipush 7, 2) := by decide +kernel
theorem dX4_lineOf_6 : decode cX4_lineOf 6 = .ok (.irem, 1) := by decide +kernel
theorem dX4_lineOf_7 : decode cX4_lineOf 7 = .ok (.isub, 1) := by decide +kernel
theorem dX4_lineOf_8 : decode cX4_lineOf 8 = .ok (.isub, 1) := by decide +kernel
theorem dX4_lineOf_9 : decode cX4_lineOf 9 = .ok (.bipush 7, 2) := by decide +kernel
theorem dX4_lineOf_11 : decode cX4_lineOf 11 = .ok (.idiv, 1) := by decide +kernel
theorem dX4_lineOf_12 : decode cX4_lineOf 12 = .ok (.iadd, 1) := by decide +kernel
theorem dX4_lineOf_13 : decode cX4_lineOf 13 = .ok (.ireturn, 1) := by decide +kernel
theorem dX4_begin_0 : decode cX4_begin 0 = .ok (.aload_n 0, 1) := by decide +kernel
theorem dX4_begin_1 : decode cX4_begin 1 = .ok (.getfield 9, 3) := by decide +kernel
theorem dX4_begin_4 : decode cX4_begin 4 = .ok (.bipush 32, 2) := by decide +kernel
theorem dX4_begin_6 : decode cX4_begin 6 = .ok (.invokestatic 13, 3) := by decide +kernel
theorem dX4_begin_9 : decode cX4_begin 9 = .ok (.aload_n 0, 1) := by decide +kernel
theorem dX4_begin_10 : decode cX4_begin 10 = .ok (.iconst 0, 1) := by decide +kernel
theorem dX4_begin_11 : decode cX4_begin 11 = .ok (.iconst 0, 1) := by decide +kernel
theorem dX4_begin_12 : decode cX4_begin 12 = .ok (.iload_n 1, 1) := by decide +kernel
theorem dX4_begin_13 : decode cX4_begin 13 = .ok (.invokevirtual 19, 3) := by decide +kernel
theorem dX4_begin_16 : decode cX4_begin 16 = .ok (.istore_n 3, 1) := by decide +kernel
theorem dX4_begin_17 : decode cX4_begin 17 = .ok (.aload_n 0, 1) := by decide +kernel
theorem dX4_begin_18 : decode cX4_begin 18 = .ok (.iconst 0, 1) := by decide +kernel
theorem dX4_begin_19 : decode cX4_begin 19 = .ok (.iload_n 3, 1) := by decide +kernel
theorem dX4_begin_20 : decode cX4_begin 20 = .ok (.iconst 1, 1) := by decide +kernel
theorem dX4_begin_21 : decode cX4_begin 21 = .ok (.iadd, 1) := by decide +kernel
theorem dX4_begin_22 : decode cX4_begin 22 = .ok (.iload_n 2, 1) := by decide +kernel
theorem dX4_begin_23 : decode cX4_begin 23 = .ok (.invokevirtual 19, 3) := by decide +kernel
theorem dX4_begin_26 : decode cX4_begin 26 = .ok (.pop, 1) := by decide +kernel
theorem dX4_begin_27 : decode cX4_begin 27 = .ok (.iconst 0, 1) := by decide +kernel
theorem dX4_begin_28 : decode cX4_begin 28 = .ok (.istore 4, 2) := by decide +kernel
theorem dX4_begin_30 : decode cX4_begin 30 = .ok (.iload 4, 2) := by decide +kernel
theorem dX4_begin_32 : decode cX4_begin 32 = .ok (.ldc 23, 2) := by decide +kernel
theorem dX4_begin_34 : decode cX4_begin 34 = .ok (.invokevirtual 25, 3) := by decide +kernel
theorem dX4_begin_37 : decode cX4_begin 37 = .ok (.if_icmp .ge 27, 3) := by decide +kernel
theorem dX4_begin_40 : decode cX4_begin 40 = .ok (.aload_n 0, 1) := by decide +kernel
theorem dX4_begin_41 : decode cX4_begin 41 = .ok (.iconst 1, 1) := by decide +kernel
theorem dX4_begin_42 : decode cX4_begin 42 = .ok (.iconst 3, 1) := by decide +kernel
theorem dX4_begin_43 : decode cX4_begin 43 = .ok (.iload 4, 2) := by decide +kernel
theorem dX4_begin_45 : decode cX4_begin 45 = .ok (.imul, 1) := by decide +kernel
theorem dX4_begin_46 : decode cX4_begin 46 = .ok (.iconst 1, 1) := by decide +kernel
theorem dX4_begin_47 : decode cX4_begin 47 = .ok (.iadd, 1) := by decide +kernel
theorem dX4_begin_48 : decode cX4_begin 48 = .ok (.ldc 23, 2) := by decide +kernel
theorem dX4_begin_50 : decode cX4_begin 50 = .ok (.iload 4, 2) := by decide +kernel
theorem dX4_begin_52 : decode cX4_begin 52 = .ok (.invokevirtual 31, 3) := by decide +kernel
theorem dX4_begin_55 : decode cX4_begin 55 = .ok (.invokevirtual 35, 3) := by decide +kernel
theorem dX4_begin_58 : decode cX4_begin 58 = .ok (.iinc 4 1, 3) := by decide +kernel
theorem dX4_begin_61 : decode cX4_begin 61 = .ok (.goto (-31), 3) := by decide +kernel
theorem dX4_begin_64 : decode cX4_begin 64 = .ok (.return_, 1) := by decide +kernel
theorem dX4_put_0 : decode cX4_put 0 = .ok (.iload_n 1, 1) := by decide +kernel
theorem dX4_put_1 : decode cX4_put 1 = .ok (.ifCond .lt 31, 3) := by decide +kernel
theorem dX4_put_4 : decode cX4_put 4 = .ok (.iload_n 1, 1) := by decide +kernel
theorem dX4_put_5 : decode cX4_put 5 = .ok (.bipush 28, 2) := by decide +kernel
theorem dX4_put_7 : decode cX4_put 7 = .ok (.if_icmp .ge 25, 3) := by decide +kernel
theorem dX4_put_10 : decode cX4_put 10 = .ok (.iload_n 2, 1) := by decide +kernel
theorem dX4_put_11 : decode cX4_put 11 = .ok (.ifCond .lt 21, 3) := by decide +kernel
theorem dX4_put_14 : decode cX4_put 14 = .ok (.iload_n 2, 1) := by decide +kernel
theorem dX4_put_15 : decode cX4_put 15 = .ok (.bipush 40, 2) := by decide +kernel
theorem dX4_put_17 : decode cX4_put 17 = .ok (.if_icmp .ge 15, 3) := by decide +kernel
theorem dX4_put_20 : decode cX4_put 20 = .ok (.aload_n 0, 1) := by decide +kernel
theorem dX4_put_21 : decode cX4_put 21 = .ok (.getfield 9, 3) := by decide +kernel
theorem dX4_put_24 : decode cX4_put 24 = .ok (.iload_n 1, 1) := by decide +kernel
theorem dX4_put_25 : decode cX4_put 25 = .ok (.bipush 40, 2) := by decide +kernel
theorem dX4_put_27 : decode cX4_put 27 = .ok (.imul, 1) := by decide +kernel
theorem dX4_put_28 : decode cX4_put 28 = .ok (.iload_n 2, 1) := by decide +kernel
theorem dX4_put_29 : decode cX4_put 29 = .ok (.iadd, 1) := by decide +kernel
theorem dX4_put_30 : decode cX4_put 30 = .ok (.iload_n 3, 1) := by decide +kernel
theorem dX4_put_31 : decode cX4_put 31 = .ok (.iastore, 1) := by decide +kernel
theorem dX4_put_32 : decode cX4_put 32 = .ok (.return_, 1) := by decide +kernel
theorem dX4_putNumber_0 : decode cX4_putNumber 0 = .ok (.iconst 1, 1) := by decide +kernel
theorem dX4_putNumber_1 : decode cX4_putNumber 1 = .ok (.istore 4, 2) := by decide +kernel
theorem dX4_putNumber_3 : decode cX4_putNumber 3 = .ok (.iload 4, 2) := by decide +kernel
theorem dX4_putNumber_5 : decode cX4_putNumber 5 = .ok (.ldc 39, 2) := by decide +kernel
theorem dX4_putNumber_7 : decode cX4_putNumber 7 = .ok (.if_icmp .ge 22, 3) := by decide +kernel
theorem dX4_putNumber_10 : decode cX4_putNumber 10 = .ok (.iload_n 3, 1) := by decide +kernel
theorem dX4_putNumber_11 : decode cX4_putNumber 11 = .ok (.iload 4, 2) := by decide +kernel
theorem dX4_putNumber_13 : decode cX4_putNumber 13 = .ok (.idiv, 1) := by decide +kernel
theorem dX4_putNumber_14 : decode cX4_putNumber 14 = .ok (.bipush 10, 2) := by decide +kernel
theorem dX4_putNumber_16 : decode cX4_putNumber 16 = .ok (.if_icmp .lt 13, 3) := by decide +kernel
theorem dX4_putNumber_19 : decode cX4_putNumber 19 = .ok (.iload 4, 2) := by decide +kernel
theorem dX4_putNumber_21 : decode cX4_putNumber 21 = .ok (.bipush 10, 2) := by decide +kernel
theorem dX4_putNumber_23 : decode cX4_putNumber 23 = .ok (.imul, 1) := by decide +kernel
theorem dX4_putNumber_24 : decode cX4_putNumber 24 = .ok (.istore 4, 2) := by decide +kernel
theorem dX4_putNumber_26 : decode cX4_putNumber 26 = .ok (.goto (-23), 3) := by decide +kernel
theorem dX4_putNumber_29 : decode cX4_putNumber 29 = .ok (.iload_n 2, 1) := by decide +kernel
theorem dX4_putNumber_30 : decode cX4_putNumber 30 = .ok (.istore 5, 2) := by decide +kernel
theorem dX4_putNumber_32 : decode cX4_putNumber 32 = .ok (.iload 4, 2) := by decide +kernel
theorem dX4_putNumber_34 : decode cX4_putNumber 34 = .ok (.istore 6, 2) := by decide +kernel
theorem dX4_putNumber_36 : decode cX4_putNumber 36 = .ok (.iload 6, 2) := by decide +kernel
theorem dX4_putNumber_38 : decode cX4_putNumber 38 = .ok (.ifCond .le 33, 3) := by decide +kernel
theorem dX4_putNumber_41 : decode cX4_putNumber 41 = .ok (.aload_n 0, 1) := by decide +kernel
theorem dX4_putNumber_42 : decode cX4_putNumber 42 = .ok (.iload_n 1, 1) := by decide +kernel
theorem dX4_putNumber_43 : decode cX4_putNumber 43 = .ok (.iload 5, 2) := by decide +kernel
theorem dX4_putNumber_45 : decode cX4_putNumber 45 = .ok (.bipush 48, 2) := by decide +kernel
theorem dX4_putNumber_47 : decode cX4_putNumber 47 = .ok (.iload_n 3, 1) := by decide +kernel
theorem dX4_putNumber_48 : decode cX4_putNumber 48 = .ok (.iload 6, 2) := by decide +kernel
theorem dX4_putNumber_50 : decode cX4_putNumber 50 = .ok (.idiv, 1) := by decide +kernel
theorem dX4_putNumber_51 : decode cX4_putNumber 51 = .ok (.bipush 10, 2) := by decide +kernel
theorem dX4_putNumber_53 : decode cX4_putNumber 53 = .ok (.irem, 1) := by decide +kernel
theorem dX4_putNumber_54 : decode cX4_putNumber 54 = .ok (.iadd, 1) := by decide +kernel
theorem dX4_putNumber_55 : decode cX4_putNumber 55 = .ok (.invokevirtual 35, 3) := by decide +kernel
theorem dX4_putNumber_58 : decode cX4_putNumber 58 = .ok (.iinc 5 1, 3) := by decide +kernel
theorem dX4_putNumber_61 : decode cX4_putNumber 61 = .ok (.iload 6, 2) := by decide +kernel
theorem dX4_putNumber_63 : decode cX4_putNumber 63 = .ok (.bipush 10, 2) := by decide +kernel
theorem dX4_putNumber_65 : decode cX4_putNumber 65 = .ok (.idiv, 1) := by decide +kernel
theorem dX4_putNumber_66 : decode cX4_putNumber 66 = .ok (.istore 6, 2) := by decide +kernel
theorem dX4_putNumber_68 : decode cX4_putNumber 68 = .ok (.goto (-32), 3) := by decide +kernel
theorem dX4_putNumber_71 : decode cX4_putNumber 71 = .ok (.iload 5, 2) := by decide +kernel
theorem dX4_putNumber_73 : decode cX4_putNumber 73 = .ok (.ireturn, 1) := by decide +kernel
theorem dX4_putTwoDigits_0 : decode cX4_putTwoDigits 0 = .ok (.iload_n 3, 1) := by decide +kernel
theorem dX4_putTwoDigits_1 : decode cX4_putTwoDigits 1 = .ok (.bipush 10, 2) := by decide +kernel
theorem dX4_putTwoDigits_3 : decode cX4_putTwoDigits 3 = .ok (.idiv, 1) := by decide +kernel
theorem dX4_putTwoDigits_4 : decode cX4_putTwoDigits 4 = .ok (.bipush 10, 2) := by decide +kernel
theorem dX4_putTwoDigits_6 : decode cX4_putTwoDigits 6 = .ok (.irem, 1) := by decide +kernel
theorem dX4_putTwoDigits_7 : decode cX4_putTwoDigits 7 = .ok (.istore 4, 2) := by decide +kernel
theorem dX4_putTwoDigits_9 : decode cX4_putTwoDigits 9 = .ok (.aload_n 0, 1) := by decide +kernel
theorem dX4_putTwoDigits_10 : decode cX4_putTwoDigits 10 = .ok (.iload_n 1, 1) := by decide +kernel
theorem dX4_putTwoDigits_11 : decode cX4_putTwoDigits 11 = .ok (.iload_n 2, 1) := by decide +kernel
theorem dX4_putTwoDigits_12 : decode cX4_putTwoDigits 12 = .ok (.iload 4, 2) := by decide +kernel
theorem dX4_putTwoDigits_14 : decode cX4_putTwoDigits 14 = .ok (.ifCond .ne 8, 3) := by decide +kernel
theorem dX4_putTwoDigits_17 : decode cX4_putTwoDigits 17 = .ok (.bipush 32, 2) := by decide +kernel
theorem dX4_putTwoDigits_19 : decode cX4_putTwoDigits 19 = .ok (.goto 8, 3) := by decide +kernel
theorem dX4_putTwoDigits_22 : decode cX4_putTwoDigits 22 = .ok (.bipush 48, 2) := by decide +kernel
theorem dX4_putTwoDigits_24 : decode cX4_putTwoDigits 24 = .ok (.iload 4, 2) := by decide +kernel
theorem dX4_putTwoDigits_26 : decode cX4_putTwoDigits 26 = .ok (.iadd, 1) := by decide +kernel
theorem dX4_putTwoDigits_27 : decode cX4_putTwoDigits 27 = .ok (.invokevirtual 35, 3) := by decide +kernel
theorem dX4_putTwoDigits_30 : decode cX4_putTwoDigits 30 = .ok (.aload_n 0, 1) := by decide +kernel
theorem dX4_putTwoDigits_31 : decode cX4_putTwoDigits 31 = .ok (.iload_n 1, 1) := by decide +kernel
theorem dX4_putTwoDigits_32 : decode cX4_putTwoDigits 32 = .ok (.iload_n 2, 1) := by decide +kernel
theorem dX4_putTwoDigits_33 : decode cX4_putTwoDigits 33 = .ok (.iconst 1, 1) := by decide +kernel
theorem dX4_putTwoDigits_34 : decode cX4_putTwoDigits 34 = .ok (.iadd, 1) := by decide +kernel
theorem dX4_putTwoDigits_35 : decode cX4_putTwoDigits 35 = .ok (.bipush 48, 2) := by decide +kernel
theorem dX4_putTwoDigits_37 : decode cX4_putTwoDigits 37 = .ok (.iload_n 3, 1) := by decide +kernel
theorem dX4_putTwoDigits_38 : decode cX4_putTwoDigits 38 = .ok (.bipush 10, 2) := by decide +kernel
theorem dX4_putTwoDigits_40 : decode cX4_putTwoDigits 40 = .ok (.irem, 1) := by decide +kernel
theorem dX4_putTwoDigits_41 : decode cX4_putTwoDigits 41 = .ok (.iadd, 1) := by decide +kernel
theorem dX4_putTwoDigits_42 : decode cX4_putTwoDigits 42 = .ok (.invokevirtual 35, 3) := by decide +kernel
theorem dX4_putTwoDigits_45 : decode cX4_putTwoDigits 45 = .ok (.return_, 1) := by decide +kernel
theorem dX5_init_0 : decode cX5_init 0 = .ok (.aload_n 0, 1) := by decide +kernel
theorem dX5_init_1 : decode cX5_init 1 = .ok (.invokespecial 3, 3) := by decide +kernel
theorem dX5_init_4 : decode cX5_init 4 = .ok (.aload_n 0, 1) := by decide +kernel
theorem dX5_init_5 : decode cX5_init 5 = .ok (.bipush 8, 2) := by decide +kernel
theorem dX5_init_7 : decode cX5_init 7 = .ok (.newarray .int, 2) := by decide +kernel
theorem dX5_init_9 : decode cX5_init 9 = .ok (.putfield 11, 3) := by decide +kernel
theorem dX5_init_12 : decode cX5_init 12 = .ok (.aload_n 0, 1) := by decide +kernel
theorem dX5_init_13 : decode cX5_init 13 = .ok (.bipush 8, 2) := by decide +kernel
theorem dX5_init_15 : decode cX5_init 15 = .ok (.newarray .boolean, 2) := by decide +kernel
theorem dX5_init_17 : decode cX5_init 17 = .ok (.putfield 15, 3) := by decide +kernel
theorem dX5_init_20 : decode cX5_init 20 = .ok (.aload_n 0, 1) := by decide +kernel
theorem dX5_init_21 : decode cX5_init 21 = .ok (.bipush 48, 2) := by decide +kernel
theorem dX5_init_23 : decode cX5_init 23 = .ok (.newarray .int, 2) := by decide +kernel
theorem dX5_init_25 : decode cX5_init 25 = .ok (.putfield 19, 3) := by decide +kernel
theorem dX5_init_28 : decode cX5_init 28 = .ok (.aload_n 0, 1) := by decide +kernel
theorem dX5_init_29 : decode cX5_init 29 = .ok (.bipush 48, 2) := by decide +kernel
theorem dX5_init_31 : decode cX5_init 31 = .ok (.newarray .int, 2) := by decide +kernel
theorem dX5_init_33 : decode cX5_init 33 = .ok (.putfield 22, 3) := by decide +kernel
theorem dX5_init_36 : decode cX5_init 36 = .ok (.aload_n 0, 1) := by decide +kernel
theorem dX5_init_37 : decode cX5_init 37 = .ok (.bipush 48, 2) := by decide +kernel
theorem dX5_init_39 : decode cX5_init 39 = .ok (.newarray .int, 2) := by decide +kernel
theorem dX5_init_41 : decode cX5_init 41 = .ok (.putfield 25, 3) := by decide +kernel
theorem dX5_init_44 : decode cX5_init 44 = .ok (.aload_n 0, 1) := by decide +kernel
theorem dX5_init_45 : decode cX5_init 45 = .ok (.bipush 48, 2) := by decide +kernel
theorem dX5_init_47 : decode cX5_init 47 = .ok (.newarray .int, 2) := by decide +kernel
theorem dX5_init_49 : decode cX5_init 49 = .ok (.putfield 28, 3) := by decide +kernel
theorem dX5_init_52 : decode cX5_init 52 = .ok (.aload_n 0, 1) := by decide +kernel
theorem dX5_init_53 : decode cX5_init 53 = .ok (.sipush 802, 3) := by decide +kernel
theorem dX5_init_56 : decode cX5_init 56 = .ok (.newarray .boolean, 2) := by decide +kernel
theorem dX5_init_58 : decode cX5_init 58 = .ok (.putfield 31, 3) := by decide +kernel
theorem dX5_init_61 : decode cX5_init 61 = .ok (.aload_n 0, 1) := by decide +kernel
theorem dX5_init_62 : decode cX5_init 62 = .ok (.aload_n 1, 1) := by decide +kernel
theorem dX5_init_63 : decode cX5_init 63 = .ok (.putfield 34, 3) := by decide +kernel
theorem dX5_init_66 : decode cX5_init 66 = .ok (.aload_n 0, 1) := by decide +kernel
theorem dX5_init_67 : decode cX5_init 67 = .ok (.aload_n 2, 1) := by decide +kernel
theorem dX5_init_68 : decode cX5_init 68 = .ok (.putfield 38, 3) := by decide +kernel
theorem dX5_init_71 : decode cX5_init 71 = .ok (.return_, 1) := by decide +kernel
theorem dX5_has_0 : decode cX5_has 0 = .ok (.iload_n 1, 1) := by decide +kernel
theorem dX5_has_1 : decode cX5_has 1 = .ok (.ifCond .lt 15, 3) := by decide +kernel
theorem dX5_has_4 : decode cX5_has 4 = .ok (.iload_n 1, 1) := by decide +kernel
theorem dX5_has_5 : decode cX5_has 5 = .ok (.aload_n 0, 1) := by decide +kernel
theorem dX5_has_6 : decode cX5_has 6 = .ok (.getfield 42, 3) := by decide +kernel
theorem dX5_has_9 : decode cX5_has 9 = .ok (.if_icmp .ge 7, 3) := by decide +kernel
theorem dX5_has_12 : decode cX5_has 12 = .ok (.iconst 1, 1) := by decide +kernel
theorem dX5_has_13 : decode cX5_has 13 = .ok (.goto 4, 3) := by decide +kernel
theorem dX5_has_16 : decode cX5_has 16 = .ok (.iconst 0, 1) := by decide +kernel
theorem dX5_has_17 : decode cX5_has 17 = .ok (.ireturn, 1) := by decide +kernel
theorem dX5_add_0 : decode cX5_add 0 = .ok (.aload_n 0, 1) := by decide +kernel
theorem dX5_add_1 : decode cX5_add 1 = .ok (.getfield 42, 3) := by decide +kernel
theorem dX5_add_4 : decode cX5_add 4 = .ok (.bipush 8, 2) := by decide +kernel
theorem dX5_add_6 : decode cX5_add 6 = .ok (.if_icmp .ge 33, 3) := by decide +kernel
theorem dX5_add_9 : decode cX5_add 9 = .ok (.aload_n 0, 1) := by decide +kernel
theorem dX5_add_10 : decode cX5_add 10 = .ok (.getfield 11, 3) := by decide +kernel
theorem dX5_add_13 : decode cX5_add 13 = .ok (.aload_n 0, 1) := by decide +kernel
theorem dX5_add_14 : decode cX5_add 14 = .ok (.getfield 42, 3) := by decide +kernel
theorem dX5_add_17 : decode cX5_add 17 = .ok (.iload_n 1, 1) := by decide +kernel
theorem dX5_add_18 : decode cX5_add 18 = .ok (.iastore, 1) := by decide +kernel
theorem dX5_add_19 : decode cX5_add 19 = .ok (.aload_n 0, 1) := by decide +kernel
theorem dX5_add_20 : decode cX5_add 20 = .ok (.getfield 15, 3) := by decide +kernel
theorem dX5_add_23 : decode cX5_add 23 = .ok (.aload_n 0, 1) := by decide +kernel
theorem dX5_add_24 : decode cX5_add 24 = .ok (.getfield 42, 3) := by decide +kernel
theorem dX5_add_27 : decode cX5_add 27 = .ok (.iload_n 2, 1) := by decide +kernel
theorem dX5_add_28 : decode cX5_add 28 = .ok (.bastore, 1) := by decide +kernel
theorem dX5_add_29 : decode cX5_add 29 = .ok (.aload_n 0, 1) := by decide +kernel
theorem dX5_add_30 : decode cX5_add 30 = .ok (.dup, 1) := by decide +kernel
theorem dX5_add_31 : decode cX5_add 31 = .ok (.getfield 42, 3) := by decide +kernel
theorem dX5_add_34 : decode cX5_add 34 = .ok (.iconst 1, 1) := by decide +kernel
theorem dX5_add_35 : decode cX5_add 35 = .ok (.iadd, 1) := by decide +kernel
theorem dX5_add_36 : decode cX5_add 36 = .ok (.putfield 42, 3) := by decide +kernel
theorem dX5_add_39 : decode cX5_add 39 = .ok (.return_, 1) := by decide +kernel
theorem dX5_drop_0 : decode cX5_drop 0 = .ok (.aload_n 0, 1) := by decide +kernel
theorem dX5_drop_1 : decode cX5_drop 1 = .ok (.getfield 42, 3) := by decide +kernel
theorem dX5_drop_4 : decode cX5_drop 4 = .ok (.ifCond .le 13, 3) := by decide +kernel
theorem dX5_drop_7 : decode cX5_drop 7 = .ok (.aload_n 0, 1) := by decide +kernel
theorem dX5_drop_8 : decode cX5_drop 8 = .ok (.dup, 1) := by decide +kernel
theorem dX5_drop_9 : decode cX5_drop 9 = .ok (.getfield 42, 3) := by decide +kernel
theorem dX5_drop_12 : decode cX5_drop 12 = .ok (.iconst 1, 1) := by decide +kernel
theorem dX5_drop_13 : decode cX5_drop 13 = .ok (.isub, 1) := by decide +kernel
theorem dX5_drop_14 : decode cX5_drop 14 = .ok (.putfield 42, 3) := by decide +kernel
theorem dX5_drop_17 : decode cX5_drop 17 = .ok (.return_, 1) := by decide +kernel
theorem dX5_addRule_0 : decode cX5_addRule 0 = .ok (.aload_n 0, 1) := by decide +kernel
theorem dX5_addRule_1 : decode cX5_addRule 1 = .ok (.getfield 46, 3) := by decide +kernel
theorem dX5_addRule_4 : decode cX5_addRule 4 = .ok (.bipush 48, 2) := by decide +kernel
theorem dX5_addRule_6 : decode cX5_addRule 6 = .ok (.if_icmp .ge 54, 3) := by decide +kernel
theorem dX5_addRule_9 : decode cX5_addRule 9 = .ok (.aload_n 0, 1) := by decide +kernel
theorem dX5_addRule_10 : decode cX5_addRule 10 = .ok (.getfield 19, 3) := by decide +kernel
theorem dX5_addRule_13 : decode cX5_addRule 13 = .ok (.aload_n 0, 1) := by decide +kernel
theorem dX5_addRule_14 : decode cX5_addRule 14 = .ok (.getfield 46, 3) := by decide +kernel
theorem dX5_addRule_17 : decode cX5_addRule 17 = .ok (.iload_n 1, 1) := by decide +kernel
theorem dX5_addRule_18 : decode cX5_addRule 18 = .ok (.iastore, 1) := by decide +kernel
theorem dX5_addRule_19 : decode cX5_addRule 19 = .ok (.aload_n 0, 1) := by decide +kernel
theorem dX5_addRule_20 : decode cX5_addRule 20 = .ok (.getfield 22, 3) := by decide +kernel
theorem dX5_addRule_23 : decode cX5_addRule 23 = .ok (.aload_n 0, 1) := by decide +kernel
theorem dX5_addRule_24 : decode cX5_addRule 24 = .ok (.getfield 46, 3) := by decide +kernel
theorem dX5_addRule_27 : decode cX5_addRule 27 = .ok (.iload_n 2, 1) := by decide +kernel
theorem dX5_addRule_28 : decode cX5_addRule 28 = .ok (.iastore, 1) := by decide +kernel
theorem dX5_addRule_29 : decode cX5_addRule 29 = .ok (.aload_n 0, 1) := by decide +kernel
theorem dX5_addRule_30 : decode cX5_addRule 30 = .ok (.getfield 25, 3) := by decide +kernel
theorem dX5_addRule_33 : decode cX5_addRule 33 = .ok (.aload_n 0, 1) := by decide +kernel
theorem dX5_addRule_34 : decode cX5_addRule 34 = .ok (.getfield 46, 3) := by decide +kernel
theorem dX5_addRule_37 : decode cX5_addRule 37 = .ok (.iload_n 3, 1) := by decide +kernel
theorem dX5_addRule_38 : decode cX5_addRule 38 = .ok (.iastore, 1) := by decide +kernel
theorem dX5_addRule_39 : decode cX5_addRule 39 = .ok (.aload_n 0, 1) := by decide +kernel
theorem dX5_addRule_40 : decode cX5_addRule 40 = .ok (.getfield 28, 3) := by decide +kernel
theorem dX5_addRule_43 : decode cX5_addRule 43 = .ok (.aload_n 0, 1) := by decide +kernel
theorem dX5_addRule_44 : decode cX5_addRule 44 = .ok (.getfield 46, 3) := by decide +kernel
theorem dX5_addRule_47 : decode cX5_addRule 47 = .ok (.iload 4, 2) := by decide +kernel
theorem dX5_addRule_49 : decode cX5_addRule 49 = .ok (.iastore, 1) := by decide +kernel
theorem dX5_addRule_50 : decode cX5_addRule 50 = .ok (.aload_n 0, 1) := by decide +kernel
theorem dX5_addRule_51 : decode cX5_addRule 51 = .ok (.dup, 1) := by decide +kernel
theorem dX5_addRule_52 : decode cX5_addRule 52 = .ok (.getfield 46, 3) := by decide +kernel
theorem dX5_addRule_55 : decode cX5_addRule 55 = .ok (.iconst 1, 1) := by decide +kernel
theorem dX5_addRule_56 : decode cX5_addRule 56 = .ok (.iadd, 1) := by decide +kernel
theorem dX5_addRule_57 : decode cX5_addRule 57 = .ok (.putfield 46, 3) := by decide +kernel
theorem dX5_addRule_60 : decode cX5_addRule 60 = .ok (.return_, 1) := by decide +kernel
theorem dX5_dropRule_0 : decode cX5_dropRule 0 = .ok (.aload_n 0, 1) := by decide +kernel
theorem dX5_dropRule_1 : decode cX5_dropRule 1 = .ok (.getfield 46, 3) := by decide +kernel
theorem dX5_dropRule_4 : decode cX5_dropRule 4 = .ok (.ifCond .le 13, 3) := by decide +kernel
theorem dX5_dropRule_7 : decode cX5_dropRule 7 = .ok (.aload_n 0, 1) := by decide +kernel
theorem dX5_dropRule_8 : decode cX5_dropRule 8 = .ok (.dup, 1) := by decide +kernel
theorem dX5_dropRule_9 : decode cX5_dropRule 9 = .ok (.getfield 46, 3) := by decide +kernel
theorem dX5_dropRule_12 : decode cX5_dropRule 12 = .ok (.iconst 1, 1) := by decide +kernel
theorem dX5_dropRule_13 : decode cX5_dropRule 13 = .ok (.isub, 1) := by decide +kernel
theorem dX5_dropRule_14 : decode cX5_dropRule 14 = .ok (.putfield 46, 3) := by decide +kernel
theorem dX5_dropRule_17 : decode cX5_dropRule 17 = .ok (.return_, 1) := by decide +kernel
theorem dX5_rulesOf_0 : decode cX5_rulesOf 0 = .ok (.iconst 0, 1) := by decide +kernel
theorem dX5_rulesOf_1 : decode cX5_rulesOf 1 = .ok (.istore_n 2, 1) := by decide +kernel
theorem dX5_rulesOf_2 : decode cX5_rulesOf 2 = .ok (.iconst 0, 1) := by decide +kernel
theorem dX5_rulesOf_3 : decode cX5_rulesOf 3 = .ok (.istore_n 3, 1) := by decide +kernel
theorem dX5_rulesOf_4 : decode cX5_rulesOf 4 = .ok (.iload_n 3, 1) := by decide +kernel
theorem dX5_rulesOf_5 : decode cX5_rulesOf 5 = .ok (.aload_n 0, 1) := by decide +kernel
theorem dX5_rulesOf_6 : decode cX5_rulesOf 6 = .ok (.getfield 46, 3) := by decide +kernel
theorem dX5_rulesOf_9 : decode cX5_rulesOf 9 = .ok (.if_icmp .ge 22, 3) := by decide +kernel
theorem dX5_rulesOf_12 : decode cX5_rulesOf 12 = .ok (.aload_n 0, 1) := by decide +kernel
theorem dX5_rulesOf_13 : decode cX5_rulesOf 13 = .ok (.getfield 19, 3) := by decide +kernel
theorem dX5_rulesOf_16 : decode cX5_rulesOf 16 = .ok (.iload_n 3, 1) := by decide +kernel
theorem dX5_rulesOf_17 : decode cX5_rulesOf 17 = .ok (.iaload, 1) := by decide +kernel
theorem dX5_rulesOf_18 : decode cX5_rulesOf 18 = .ok (.iload_n 1, 1) := by decide +kernel
theorem dX5_rulesOf_19 : decode cX5_rulesOf 19 = .ok (.if_icmp .ne 6, 3) := by decide +kernel
theorem dX5_rulesOf_22 : decode cX5_rulesOf 22 = .ok (.iinc 2 1, 3) := by decide +kernel
theorem dX5_rulesOf_25 : decode cX5_rulesOf 25 = .ok (.iinc 3 1, 3) := by decide +kernel
theorem dX5_rulesOf_28 : decode cX5_rulesOf 28 = .ok (.goto (-24), 3) := by decide +kernel
theorem dX5_rulesOf_31 : decode cX5_rulesOf 31 = .ok (.iload_n 2, 1) := by decide +kernel
theorem dX5_rulesOf_32 : decode cX5_rulesOf 32 = .ok (.ireturn, 1) := by decide +kernel
theorem dX5_lookAt_0 : decode cX5_lookAt 0 = .ok (.aload_n 0, 1) := by decide +kernel
theorem dX5_lookAt_1 : decode cX5_lookAt 1 = .ok (.iload_n 1, 1) := by decide +kernel
theorem dX5_lookAt_2 : decode cX5_lookAt 2 = .ok (.invokevirtual 49, 3) := by decide +kernel
theorem dX5_lookAt_5 : decode cX5_lookAt 5 = .ok (.ifCond .ne 4, 3) := by decide +kernel
theorem dX5_lookAt_8 : decode cX5_lookAt 8 = .ok (.return_, 1) := by decide +kernel
theorem dX5_lookAt_9 : decode cX5_lookAt 9 = .ok (.aload_n 0, 1) := by decide +kernel
theorem dX5_lookAt_10 : decode cX5_lookAt 10 = .ok (.aload_n 0, 1) := by decide +kernel
theorem dX5_lookAt_11 : decode cX5_lookAt 11 = .ok (.getfield 15, 3) := by decide +kernel
theorem dX5_lookAt_14 : decode cX5_lookAt 14 = .ok (.iload_n 1, 1) := by decide +kernel
theorem dX5_lookAt_15 : decode cX5_lookAt 15 = .ok (.baload, 1) := by decide +kernel
theorem dX5_lookAt_16 : decode cX5_lookAt 16 = .ok (.putfield 53, 3) := by decide +kernel
theorem dX5_lookAt_19 : decode cX5_lookAt 19 = .ok (.aload_n 0, 1) := by decide +kernel
theorem dX5_lookAt_20 : decode cX5_lookAt 20 = .ok (.iconst 0, 1) := by decide +kernel
theorem dX5_lookAt_21 : decode cX5_lookAt 21 = .ok (.iload_n 2, 1) := by decide +kernel
theorem dX5_lookAt_22 : decode cX5_lookAt 22 = .ok (.iconst 1, 1) := by decide +kernel
theorem dX5_lookAt_23 : decode cX5_lookAt 23 = .ok (.isub, 1) := by decide +kernel
theorem dX5_lookAt_24 : decode cX5_lookAt 24 = .ok (.invokestatic 57, 3) := by decide +kernel
theorem dX5_lookAt_27 : decode cX5_lookAt 27 = .ok (.putfield 63, 3) := by decide +kernel
theorem dX5_lookAt_30 : decode cX5_lookAt 30 = .ok (.aload_n 0, 1) := by decide +kernel
theorem dX5_lookAt_31 : decode cX5_lookAt 31 = .ok (.ldc 66, 2) := by decide +kernel
theorem dX5_lookAt_33 : decode cX5_lookAt 33 = .ok (.iload_n 3, 1) := by decide +kernel
theorem dX5_lookAt_34 : decode cX5_lookAt 34 = .ok (.iconst 2, 1) := by decide +kernel
theorem dX5_lookAt_35 : decode cX5_lookAt 35 = .ok (.iadd, 1) := by decide +kernel
theorem dX5_lookAt_36 : decode cX5_lookAt 36 = .ok (.aload_n 0, 1) := by decide +kernel
theorem dX5_lookAt_37 : decode cX5_lookAt 37 = .ok (.getfield 63, 3) := by decide +kernel
theorem dX5_lookAt_40 : decode cX5_lookAt 40 = .ok (.aload_n 0, 1) := by decide +kernel
theorem dX5_lookAt_41 : decode cX5_lookAt 41 = .ok (.getfield 31, 3) := by decide +kernel
theorem dX5_lookAt_44 : decode cX5_lookAt 44 = .ok (.arraylength, 1) := by decide +kernel
theorem dX5_lookAt_45 : decode cX5_lookAt 45 = .ok (.iadd, 1) := by decide +kernel
theorem dX5_lookAt_46 : decode cX5_lookAt 46 = .ok (.invokestatic 67, 3) := by decide +kernel
theorem dX5_lookAt_49 : decode cX5_lookAt 49 = .ok (.invokestatic 67, 3) := by decide +kernel
theorem dX5_lookAt_52 : decode cX5_lookAt 52 = .ok (.putfield 70, 3) := by decide +kernel
theorem dX5_lookAt_55 : decode cX5_lookAt 55 = .ok (.aload_n 0, 1) := by decide +kernel
theorem dX5_lookAt_56 : decode cX5_lookAt 56 = .ok (.getfield 63, 3) := by decide +kernel
theorem dX5_lookAt_59 : decode cX5_lookAt 59 = .ok (.istore 4, 2) := by decide +kernel
theorem dX5_lookAt_61 : decode cX5_lookAt 61 = .ok (.iload 4, 2) := by decide +kernel
theorem dX5_lookAt_63 : decode cX5_lookAt 63 = .ok (.aload_n 0, 1) := by decide +kernel
theorem dX5_lookAt_64 : decode cX5_lookAt 64 = .ok (.getfield 70, 3) := by decide +kernel
theorem dX5_lookAt_67 : decode cX5_lookAt 67 = .ok (.if_icmp .ge 44, 3) := by decide +kernel
theorem dX5_lookAt_70 : decode cX5_lookAt 70 = .ok (.aload_n 0, 1) := by decide +kernel
theorem dX5_lookAt_71 : decode cX5_lookAt 71 = .ok (.getfield 31, 3) := by decide +kernel
theorem dX5_lookAt_74 : decode cX5_lookAt 74 = .ok (.iload 4, 2) := by decide +kernel
theorem dX5_lookAt_76 : decode cX5_lookAt 76 = .ok (.aload_n 0, 1) := by decide +kernel
theorem dX5_lookAt_77 : decode cX5_lookAt 77 = .ok (.getfield 63, 3) := by decide +kernel
theorem dX5_lookAt_80 : decode cX5_lookAt 80 = .ok (.isub, 1) := by decide +kernel
theorem dX5_lookAt_81 : decode cX5_lookAt 81 = .ok (.aload_n 0, 1) := by decide +kernel
theorem dX5_lookAt_82 : decode cX5_lookAt 82 = .ok (.getfield 11, 3) := by decide +kernel
theorem dX5_lookAt_85 : decode cX5_lookAt 85 = .ok (.iload_n 1, 1) := by decide +kernel
theorem dX5_lookAt_86 : decode cX5_lookAt 86 = .ok (.iaload, 1) := by decide +kernel
theorem dX5_lookAt_87 : decode cX5_lookAt 87 = .ok (.iload 4, 2) := by decide +kernel
theorem dX5_lookAt_89 : decode cX5_lookAt 89 = .ok (.bipush 7, 2) := by decide +kernel
theorem dX5_lookAt_91 : decode cX5_lookAt 91 = .ok (.irem, 1) := by decide +kernel
theorem dX5_lookAt_92 : decode cX5_lookAt 92 = .ok (.ishr, 1) := by decide +kernel
theorem dX5_lookAt_93 : decode cX5_lookAt 93 = .ok (.iconst 1, 1) := by decide +kernel
theorem dX5_lookAt_94 : decode cX5_lookAt 94 = .ok (.iand, 1) := by decide +kernel
theorem dX5_lookAt_95 : decode cX5_lookAt 95 = .ok (.iconst 1, 1) := by decide +kernel
theorem dX5_lookAt_96 : decode cX5_lookAt 96 = .ok (.if_icmp .ne 7, 3) := by decide +kernel
theorem dX5_lookAt_99 : decode cX5_lookAt 99 = .ok (.iconst 1, 1) := by decide +kernel
theorem dX5_lookAt_100 : decode cX5_lookAt 100 = .ok (.goto 4, 3) := by decide +kernel
theorem dX5_lookAt_103 : decode cX5_lookAt 103 = .ok (.iconst 0, 1) := by decide +kernel
theorem dX5_lookAt_104 : decode cX5_lookAt 104 = .ok (.bastore, 1) := by decide +kernel
theorem dX5_lookAt_105 : decode cX5_lookAt 105 = .ok (.iinc 4 1, 3) := by decide +kernel
theorem dX5_lookAt_108 : decode cX5_lookAt 108 = .ok (.goto (-47), 3) := by decide +kernel
theorem dX5_lookAt_111 : decode cX5_lookAt 111 = .ok (.aload_n 0, 1) := by decide +kernel
theorem dX5_lookAt_112 : decode cX5_lookAt 112 = .ok (.iload_n 1, 1) := by decide +kernel
theorem dX5_lookAt_113 : decode cX5_lookAt 113 = .ok (.invokevirtual 73, 3) := by decide +kernel
theorem dX5_lookAt_116 : decode cX5_lookAt 116 = .ok (.ifCond .ne 4, 3) := by decide +kernel
theorem dX5_lookAt_119 : decode cX5_lookAt 119 = .ok (.return_, 1) := by decide +kernel
theorem dX5_lookAt_120 : decode cX5_lookAt 120 = .ok (.iconst 0, 1) := by decide +kernel
theorem dX5_lookAt_121 : decode cX5_lookAt 121 = .ok (.aload_n 0, 1) := by decide +kernel
theorem dX5_lookAt_122 : decode cX5_lookAt 122 = .ok (.getfield 34, 3) := by decide +kernel
theorem dX5_lookAt_125 : decode cX5_lookAt 125 = .ok (.iconst 0, 1) := by decide +kernel
theorem dX5_lookAt_126 : decode cX5_lookAt 126 = .ok (.aload_n 0, 1) := by decide +kernel
theorem dX5_lookAt_127 : decode cX5_lookAt 127 = .ok (.getfield 63, 3) := by decide +kernel
theorem dX5_lookAt_130 : decode cX5_lookAt 130 = .ok (.invokevirtual 77, 3) := by decide +kernel
theorem dX5_lookAt_133 : decode cX5_lookAt 133 = .ok (.iconst 1, 1) := by decide +kernel
theorem dX5_lookAt_134 : decode cX5_lookAt 134 = .ok (.isub, 1) := by decide +kernel
theorem dX5_lookAt_135 : decode cX5_lookAt 135 = .ok (.invokestatic 57, 3) := by decide +kernel
theorem dX5_lookAt_138 : decode cX5_lookAt 138 = .ok (.istore 4, 2) := by decide +kernel
theorem dX5_lookAt_140 : decode cX5_lookAt 140 = .ok (.sipush 5000, 3) := by decide +kernel
theorem dX5_lookAt_143 : decode cX5_lookAt 143 = .ok (.aload_n 0, 1) := by decide +kernel
theorem dX5_lookAt_144 : decode cX5_lookAt 144 = .ok (.getfield 34, 3) := by decide +kernel
theorem dX5_lookAt_147 : decode cX5_lookAt 147 = .ok (.iconst 0, 1) := by decide +kernel
theorem dX5_lookAt_148 : decode cX5_lookAt 148 = .ok (.aload_n 0, 1) := by decide +kernel
theorem dX5_lookAt_149 : decode cX5_lookAt 149 = .ok (.getfield 70, 3) := by decide +kernel
theorem dX5_lookAt_152 : decode cX5_lookAt 152 = .ok (.iconst 1, 1) := by decide +kernel
theorem dX5_lookAt_153 : decode cX5_lookAt 153 = .ok (.isub, 1) := by decide +kernel
theorem dX5_lookAt_154 : decode cX5_lookAt 154 = .ok (.invokevirtual 77, 3) := by decide +kernel
theorem dX5_lookAt_157 : decode cX5_lookAt 157 = .ok (.iconst 1, 1) := by decide +kernel
theorem dX5_lookAt_158 : decode cX5_lookAt 158 = .ok (.iadd, 1) := by decide +kernel
theorem dX5_lookAt_159 : decode cX5_lookAt 159 = .ok (.invokestatic 67, 3) := by decide +kernel
theorem dX5_lookAt_162 : decode cX5_lookAt 162 = .ok (.istore 5, 2) := by decide +kernel
theorem dX5_lookAt_164 : decode cX5_lookAt 164 = .ok (.iload 4, 2) := by decide +kernel
theorem dX5_lookAt_166 : decode cX5_lookAt 166 = .ok (.istore 6, 2) := by decide +kernel
theorem dX5_lookAt_168 : decode cX5_lookAt 168 = .ok (.iload 6, 2) := by decide +kernel
theorem dX5_lookAt_170 : decode cX5_lookAt 170 = .ok (.iload 5, 2) := by decide +kernel
theorem dX5_lookAt_172 : decode cX5_lookAt 172 = .ok (.if_icmp .gt 25, 3) := by decide +kernel
theorem dX5_lookAt_175 : decode cX5_lookAt 175 = .ok (.aload_n 0, 1) := by decide +kernel
theorem dX5_lookAt_176 : decode cX5_lookAt 176 = .ok (.getfield 38, 3) := by decide +kernel
theorem dX5_lookAt_179 : decode cX5_lookAt 179 = .ok (.iload 6, 2) := by decide +kernel
theorem dX5_lookAt_181 : decode cX5_lookAt 181 = .ok (.invokevirtual 82, 3) := by decide +kernel
theorem dX5_lookAt_184 : decode cX5_lookAt 184 = .ok (.aload_n 0, 1) := by decide +kernel
theorem dX5_lookAt_185 : decode cX5_lookAt 185 = .ok (.iload_n 1, 1) := by decide +kernel
theorem dX5_lookAt_186 : decode cX5_lookAt 186 = .ok (.iload 6, 2) := by decide +kernel
theorem dX5_lookAt_188 : decode cX5_lookAt 188 = .ok (.invokevirtual 88, 3) := by decide +kernel
theorem dX5_lookAt_191 : decode cX5_lookAt 191 = .ok (.iinc 6 1, 3) := by decide +kernel
theorem dX5_lookAt_194 : decode cX5_lookAt 194 = .ok (.goto (-26), 3) := by decide +kernel
theorem dX5_lookAt_197 : decode cX5_lookAt 197 = .ok (.return_, 1) := by decide +kernel
theorem dX5_markFeasts_0 : decode cX5_markFeasts 0 = .ok (.aload_n 0, 1) := by decide +kernel
theorem dX5_markFeasts_1 : decode cX5_markFeasts 1 = .ok (.getfield 63, 3) := by decide +kernel
theorem dX5_markFeasts_4 : decode cX5_markFeasts 4 = .ok (.aload_n 0, 1) := by decide +kernel
theorem dX5_markFeasts_5 : decode cX5_markFeasts 5 = .ok (.getfield 34, 3) := by decide +kernel
theorem dX5_markFeasts_8 : decode cX5_markFeasts 8 = .ok (.iconst 0, 1) := by decide +kernel
theorem dX5_markFeasts_9 : decode cX5_markFeasts 9 = .ok (.iload_n 2, 1) := by decide +kernel
theorem dX5_markFeasts_10 : decode cX5_markFeasts 10 = .ok (.iconst 1, 1) := by decide +kernel
theorem dX5_markFeasts_11 : decode cX5_markFeasts 11 = .ok (.isub, 1) := by decide +kernel
theorem dX5_markFeasts_12 : decode cX5_markFeasts 12 = .ok (.invokestatic 57, 3) := by decide +kernel
theorem dX5_markFeasts_15 : decode cX5_markFeasts 15 = .ok (.invokevirtual 92, 3) := by decide +kernel
theorem dX5_markFeasts_18 : decode cX5_markFeasts 18 = .ok (.invokestatic 57, 3) := by decide +kernel
theorem dX5_markFeasts_21 : decode cX5_markFeasts 21 = .ok (.istore_n 3, 1) := by decide +kernel
theorem dX5_markFeasts_22 : decode cX5_markFeasts 22 = .ok (.aload_n 0, 1) := by decide +kernel
theorem dX5_markFeasts_23 : decode cX5_markFeasts 23 = .ok (.getfield 70, 3) := by decide +kernel
theorem dX5_markFeasts_26 : decode cX5_markFeasts 26 = .ok (.iconst 1, 1) := by decide +kernel
theorem dX5_markFeasts_27 : decode cX5_markFeasts 27 = .ok (.isub, 1) := by decide +kernel
theorem dX5_markFeasts_28 : decode cX5_markFeasts 28 = .ok (.aload_n 0, 1) := by decide +kernel
theorem dX5_markFeasts_29 : decode cX5_markFeasts 29 = .ok (.getfield 34, 3) := by decide +kernel
theorem dX5_markFeasts_32 : decode cX5_markFeasts 32 = .ok (.iload_n 2, 1) := by decide +kernel
theorem dX5_markFeasts_33 : decode cX5_markFeasts 33 = .ok (.iconst 1, 1) := by decide +kernel
theorem dX5_markFeasts_34 : decode cX5_markFeasts 34 = .ok (.iadd, 1) := by decide +kernel
theorem dX5_markFeasts_35 : decode cX5_markFeasts 35 = .ok (.invokevirtual 95, 3) := by decide +kernel
theorem dX5_markFeasts_38 : decode cX5_markFeasts 38 = .ok (.invokestatic 67, 3) := by decide +kernel
theorem dX5_markFeasts_41 : decode cX5_markFeasts 41 = .ok (.istore 4, 2) := by decide +kernel
theorem dX5_markFeasts_43 : decode cX5_markFeasts 43 = .ok (.iconst 0, 1) := by decide +kernel
theorem dX5_markFeasts_44 : decode cX5_markFeasts 44 = .ok (.istore 5, 2) := by decide +kernel
theorem dX5_markFeasts_46 : decode cX5_markFeasts 46 = .ok (.iload 5, 2) := by decide +kernel
theorem dX5_markFeasts_48 : decode cX5_markFeasts 48 = .ok (.aload_n 0, 1) := by decide +kernel
theorem dX5_markFeasts_49 : decode cX5_markFeasts 49 = .ok (.getfield 46, 3) := by decide +kernel
theorem dX5_markFeasts_52 : decode cX5_markFeasts 52 = .ok (.if_icmp .ge 102, 3) := by decide +kernel
theorem dX5_markFeasts_55 : decode cX5_markFeasts 55 = .ok (.aload_n 0, 1) := by decide +kernel
theorem dX5_markFeasts_56 : decode cX5_markFeasts 56 = .ok (.getfield 38, 3) := by decide +kernel
theorem dX5_markFeasts_59 : decode cX5_markFeasts 59 = .ok (.aload_n 0, 1) := by decide +kernel
theorem dX5_markFeasts_60 : decode cX5_markFeasts 60 = .ok (.getfield 22, 3) := by decide +kernel
theorem dX5_markFeasts_63 : decode cX5_markFeasts 63 = .ok (.iload 5, 2) := by decide +kernel
theorem dX5_markFeasts_65 : decode cX5_markFeasts 65 = .ok (.iaload, 1) := by decide +kernel
theorem dX5_markFeasts_66 : decode cX5_markFeasts 66 = .ok (.invokevirtual 98, 3) := by decide +kernel
theorem dX5_markFeasts_69 : decode cX5_markFeasts 69 = .ok (.istore 6, 2) := by decide +kernel
theorem dX5_markFeasts_71 : decode cX5_markFeasts 71 = .ok (.aload_n 0, 1) := by decide +kernel
theorem dX5_markFeasts_72 : decode cX5_markFeasts 72 = .ok (.getfield 19, 3) := by decide +kernel
theorem dX5_markFeasts_75 : decode cX5_markFeasts 75 = .ok (.iload 5, 2) := by decide +kernel
theorem dX5_markFeasts_77 : decode cX5_markFeasts 77 = .ok (.iaload, 1) := by decide +kernel
theorem dX5_markFeasts_78 : decode cX5_markFeasts 78 = .ok (.iload_n 1, 1) := by decide +kernel
theorem dX5_markFeasts_79 : decode cX5_markFeasts 79 = .ok (.if_icmp .ne 69, 3) := by decide +kernel
theorem dX5_markFeasts_82 : decode cX5_markFeasts 82 = .ok (.iload 6, 2) := by decide +kernel
theorem dX5_markFeasts_84 : decode cX5_markFeasts 84 = .ok (.bipush (-2), 2) := by decide +kernel
theorem dX5_markFeasts_86 : decode cX5_markFeasts 86 = .ok (.if_icmp .eq 62, 3) := by decide +kernel
theorem dX5_markFeasts_89 : decode cX5_markFeasts 89 = .ok (.iload 4, 2) := by decide +kernel
theorem dX5_markFeasts_91 : decode cX5_markFeasts 91 = .ok (.iload 6, 2) := by decide +kernel
theorem dX5_markFeasts_93 : decode cX5_markFeasts 93 = .ok (.aload_n 0, 1) := by decide +kernel
theorem dX5_markFeasts_94 : decode cX5_markFeasts 94 = .ok (.getfield 28, 3) := by decide +kernel
theorem dX5_markFeasts_97 : decode cX5_markFeasts 97 = .ok (.iload 5, 2) := by decide +kernel
theorem dX5_markFeasts_99 : decode cX5_markFeasts 99 = .ok (.iaload, 1) := by decide +kernel
theorem dX5_markFeasts_100 : decode cX5_markFeasts 100 = .ok (.iadd, 1) := by decide +kernel
theorem dX5_markFeasts_101 : decode cX5_markFeasts 101 = .ok (.invokestatic 67, 3) := by decide +kernel
theorem dX5_markFeasts_104 : decode cX5_markFeasts 104 = .ok (.istore 7, 2) := by decide +kernel
theorem dX5_markFeasts_106 : decode cX5_markFeasts 106 = .ok (.iload_n 3, 1) := by decide +kernel
theorem dX5_markFeasts_107 : decode cX5_markFeasts 107 = .ok (.iload 6, 2) := by decide +kernel
theorem dX5_markFeasts_109 : decode cX5_markFeasts 109 = .ok (.aload_n 0, 1) := by decide +kernel
theorem dX5_markFeasts_110 : decode cX5_markFeasts 110 = .ok (.getfield 25, 3) := by decide +kernel
theorem dX5_markFeasts_113 : decode cX5_markFeasts 113 = .ok (.iload 5, 2) := by decide +kernel
theorem dX5_markFeasts_115 : decode cX5_markFeasts 115 = .ok (.iaload, 1) := by decide +kernel
theorem dX5_markFeasts_116 : decode cX5_markFeasts 116 = .ok (.isub, 1) := by decide +kernel
theorem dX5_markFeasts_117 : decode cX5_markFeasts 117 = .ok (.invokestatic 57, 3) := by decide +kernel
theorem dX5_markFeasts_120 : decode cX5_markFeasts 120 = .ok (.istore 8, 2) := by decide +kernel
theorem dX5_markFeasts_122 : decode cX5_markFeasts 122 = .ok (.iload 8, 2) := by decide +kernel
theorem dX5_markFeasts_124 : decode cX5_markFeasts 124 = .ok (.iload 7, 2) := by decide +kernel
theorem dX5_markFeasts_126 : decode cX5_markFeasts 126 = .ok (.if_icmp .gt 22, 3) := by decide +kernel
theorem dX5_markFeasts_129 : decode cX5_markFeasts 129 = .ok (.aload_n 0, 1) := by decide +kernel
theorem dX5_markFeasts_130 : decode cX5_markFeasts 130 = .ok (.getfield 31, 3) := by decide +kernel
theorem dX5_markFeasts_133 : decode cX5_markFeasts 133 = .ok (.iload 8, 2) := by decide +kernel
theorem dX5_markFeasts_135 : decode cX5_markFeasts 135 = .ok (.aload_n 0, 1) := by decide +kernel
theorem dX5_markFeasts_136 : decode cX5_markFeasts 136 = .ok (.getfield 63, 3) := by decide +kernel
theorem dX5_markFeasts_139 : decode cX5_markFeasts 139 = .ok (.isub, 1) := by decide +kernel
theorem dX5_markFeasts_140 : decode cX5_markFeasts 140 = .ok (.iconst 1, 1) := by decide +kernel
theorem dX5_markFeasts_141 : decode cX5_markFeasts 141 = .ok (.bastore, 1) := by decide +kernel
theorem dX5_markFeasts_142 : decode cX5_markFeasts 142 = .ok (.iinc 8 1, 3) := by decide +kernel
theorem dX5_markFeasts_145 : decode cX5_markFeasts 145 = .ok (.goto (-23), 3) := by decide +kernel
theorem dX5_markFeasts_148 : decode cX5_markFeasts 148 = .ok (.iinc 5 1, 3) := by decide +kernel
theorem dX5_markFeasts_151 : decode cX5_markFeasts 151 = .ok (.goto (-105), 3) := by decide +kernel
theorem dX5_markFeasts_154 : decode cX5_markFeasts 154 = .ok (.return_, 1) := by decide +kernel
theorem dX5_isFree_0 : decode cX5_isFree 0 = .ok (.iload_n 1, 1) := by decide +kernel
theorem dX5_isFree_1 : decode cX5_isFree 1 = .ok (.aload_n 0, 1) := by decide +kernel
theorem dX5_isFree_2 : decode cX5_isFree 2 = .ok (.getfield 63, 3) := by decide +kernel
theorem dX5_isFree_5 : decode cX5_isFree 5 = .ok (.if_icmp .lt 29, 3) := by decide +kernel
theorem dX5_isFree_8 : decode cX5_isFree 8 = .ok (.iload_n 1, 1) := by decide +kernel
theorem dX5_isFree_9 : decode cX5_isFree 9 = .ok (.aload_n 0, 1) := by decide +kernel
theorem dX5_isFree_10 : decode cX5_isFree 10 = .ok (.getfield 70, 3) := by decide +kernel
theorem dX5_isFree_13 : decode cX5_isFree 13 = .ok (.if_icmp .ge 21, 3) := by decide +kernel
theorem dX5_isFree_16 : decode cX5_isFree 16 = .ok (.aload_n 0, 1) := by decide +kernel
theorem dX5_isFree_17 : decode cX5_isFree 17 = .ok (.getfield 31, 3) := by decide +kernel
theorem dX5_isFree_20 : decode cX5_isFree 20 = .ok (.iload_n 1, 1) := by decide +kernel
theorem dX5_isFree_21 : decode cX5_isFree 21 = .ok (.aload_n 0, 1) := by decide +kernel
theorem dX5_isFree_22 : decode cX5_isFree 22 = .ok (.getfield 63, 3) := by decide +kernel
theorem dX5_isFree_25 : decode cX5_isFree 25 = .ok (.isub, 1) := by decide +kernel
theorem dX5_isFree_26 : decode cX5_isFree 26 = .ok (.baload, 1) := by decide +kernel
theorem dX5_isFree_27 : decode cX5_isFree 27 = .ok (.ifCond .eq 7, 3) := by decide +kernel
theorem dX5_isFree_30 : decode cX5_isFree 30 = .ok (.iconst 1, 1) := by decide +kernel
theorem dX5_isFree_31 : decode cX5_isFree 31 = .ok (.goto 4, 3) := by decide +kernel
theorem dX5_isFree_34 : decode cX5_isFree 34 = .ok (.iconst 0, 1) := by decide +kernel
theorem dX5_isFree_35 : decode cX5_isFree 35 = .ok (.ireturn, 1) := by decide +kernel
theorem dX5_rests_0 : decode cX5_rests 0 = .ok (.aload_n 0, 1) := by decide +kernel
theorem dX5_rests_1 : decode cX5_rests 1 = .ok (.iload_n 1, 1) := by decide +kernel
theorem dX5_rests_2 : decode cX5_rests 2 = .ok (.invokevirtual 101, 3) := by decide +kernel
theorem dX5_rests_5 : decode cX5_rests 5 = .ok (.ifCond .ne 30, 3) := by decide +kernel
theorem dX5_rests_8 : decode cX5_rests 8 = .ok (.aload_n 0, 1) := by decide +kernel
theorem dX5_rests_9 : decode cX5_rests 9 = .ok (.getfield 53, 3) := by decide +kernel
theorem dX5_rests_12 : decode cX5_rests 12 = .ok (.ifCond .eq 27, 3) := by decide +kernel
theorem dX5_rests_15 : decode cX5_rests 15 = .ok (.aload_n 0, 1) := by decide +kernel
theorem dX5_rests_16 : decode cX5_rests 16 = .ok (.iload_n 1, 1) := by decide +kernel
theorem dX5_rests_17 : decode cX5_rests 17 = .ok (.iconst 1, 1) := by decide +kernel
theorem dX5_rests_18 : decode cX5_rests 18 = .ok (.isub, 1) := by decide +kernel
theorem dX5_rests_19 : decode cX5_rests 19 = .ok (.invokevirtual 101, 3) := by decide +kernel
theorem dX5_rests_22 : decode cX5_rests 22 = .ok (.ifCond .eq 17, 3) := by decide +kernel
theorem dX5_rests_25 : decode cX5_rests 25 = .ok (.aload_n 0, 1) := by decide +kernel
theorem dX5_rests_26 : decode cX5_rests 26 = .ok (.iload_n 1, 1) := by decide +kernel
theorem dX5_rests_27 : decode cX5_rests 27 = .ok (.iconst 1, 1) := by decide +kernel
theorem dX5_rests_28 : decode cX5_rests 28 = .ok (.iadd, 1) := by decide +kernel
theorem dX5_rests_29 : decode cX5_rests 29 = .ok (.invokevirtual 101, 3) := by decide +kernel
theorem dX5_rests_32 : decode cX5_rests 32 = .ok (.ifCond .eq 7, 3) := by decide +kernel
theorem dX5_rests_35 : decode cX5_rests 35 = .ok (.iconst 1, 1) := by decide +kernel
theorem dX5_rests_36 : decode cX5_rests 36 = .ok (.goto 4, 3) := by decide +kernel
theorem dX5_rests_39 : decode cX5_rests 39 = .ok (.iconst 0, 1) := by decide +kernel
theorem dX5_rests_40 : decode cX5_rests 40 = .ok (.ireturn, 1) := by decide +kernel
theorem dX6_init_0 : decode cX6_init 0 = .ok (.aload_n 0, 1) := by decide +kernel
theorem dX6_init_1 : decode cX6_init 1 = .ok (.invokespecial 5, 3) := by decide +kernel
theorem dX6_init_4 : decode cX6_init 4 = .ok (.aload_n 0, 1) := by decide +kernel
theorem dX6_init_5 : decode cX6_init 5 = .ok (.sipush 1200, 3) := by decide +kernel
theorem dX6_init_8 : decode cX6_init 8 = .ok (.newarray .int, 2) := by decide +kernel
theorem dX6_init_10 : decode cX6_init 10 = .ok (.putfield 11, 3) := by decide +kernel
theorem dX6_init_13 : decode cX6_init 13 = .ok (.return_, 1) := by decide +kernel
theorem dX6_append_0 : decode cX6_append 0 = .ok (.iload_n 2, 1) := by decide +kernel
theorem dX6_append_1 : decode cX6_append 1 = .ok (.iconst 1, 1) := by decide +kernel
theorem dX6_append_2 : decode cX6_append 2 = .ok (.isub, 1) := by decide +kernel
theorem dX6_append_3 : decode cX6_append 3 = .ok (.istore_n 3, 1) := by decide +kernel
theorem dX6_append_4 : decode cX6_append 4 = .ok (.iload_n 3, 1) := by decide +kernel
theorem dX6_append_5 : decode cX6_append 5 = .ok (.ifCond .lt 48, 3) := by decide +kernel
theorem dX6_append_8 : decode cX6_append 8 = .ok (.aload_n 0, 1) := by decide +kernel
theorem dX6_append_9 : decode cX6_append 9 = .ok (.getfield 15, 3) := by decide +kernel
theorem dX6_append_12 : decode cX6_append 12 = .ok (.sipush 1200, 3) := by decide +kernel
theorem dX6_append_15 : decode cX6_append 15 = .ok (.if_icmp .ge 32, 3) := by decide +kernel
theorem dX6_append_18 : decode cX6_append 18 = .ok (.aload_n 0, 1) := by decide +kernel
theorem dX6_append_19 : decode cX6_append 19 = .ok (.getfield 11, 3) := by decide +kernel
theorem dX6_append_22 : decode cX6_append 22 = .ok (.aload_n 0, 1) := by decide +kernel
theorem dX6_append_23 : decode cX6_append 23 = .ok (.getfield 15, 3) := by decide +kernel
theorem dX6_append_26 : decode cX6_append 26 = .ok (.iload_n 1, 1) := by decide +kernel
theorem dX6_append_27 : decode cX6_append 27 = .ok (.bipush 8, 2) := by decide +kernel
theorem dX6_append_29 : decode cX6_append 29 = .ok (.iload_n 3, 1) := by decide +kernel
theorem dX6_append_30 : decode cX6_append 30 = .ok (.imul, 1) := by decide +kernel
theorem dX6_append_31 : decode cX6_append 31 = .ok (.ishr, 1) := by decide +kernel
theorem dX6_append_32 : decode cX6_append 32 = .ok (.sipush 255, 3) := by decide +kernel
theorem dX6_append_35 : decode cX6_append 35 = .ok (.iand, 1) := by decide +kernel
theorem dX6_append_36 : decode cX6_append 36 = .ok (.iastore, 1) := by decide +kernel
theorem dX6_append_37 : decode cX6_append 37 = .ok (.aload_n 0, 1) := by decide +kernel
theorem dX6_append_38 : decode cX6_append 38 = .ok (.dup, 1) := by decide +kernel
theorem dX6_append_39 : decode cX6_append 39 = .ok (.getfield 15, 3) := by decide +kernel
theorem dX6_append_42 : decode cX6_append 42 = .ok (.iconst 1, 1) := by decide +kernel
theorem dX6_append_43 : decode cX6_append 43 = .ok (.iadd, 1) := by decide +kernel
theorem dX6_append_44 : decode cX6_append 44 = .ok (.putfield 15, 3) := by decide +kernel
theorem dX6_append_47 : decode cX6_append 47 = .ok (.iinc 3 (-1), 3) := by decide +kernel
theorem dX6_append_50 : decode cX6_append 50 = .ok (.goto (-46), 3) := by decide +kernel
theorem dX6_append_53 : decode cX6_append 53 = .ok (.return_, 1) := by decide +kernel
theorem dX6_sumOf_0 : decode cX6_sumOf 0 = .ok (.iconst 1, 1) := by decide +kernel
theorem dX6_sumOf_1 : decode cX6_sumOf 1 = .ok (.istore_n 3, 1) := by decide +kernel
theorem dX6_sumOf_2 : decode cX6_sumOf 2 = .ok (.iconst 0, 1) := by decide +kernel
theorem dX6_sumOf_3 : decode cX6_sumOf 3 = .ok (.iload_n 1, 1) := by decide +kernel
theorem dX6_sumOf_4 : decode cX6_sumOf 4 = .ok (.invokestatic 19, 3) := by decide +kernel
theorem dX6_sumOf_7 : decode cX6_sumOf 7 = .ok (.istore 4, 2) := by decide +kernel
theorem dX6_sumOf_9 : decode cX6_sumOf 9 = .ok (.iload 4, 2) := by decide +kernel
theorem dX6_sumOf_11 : decode cX6_sumOf 11 = .ok (.iload_n 2, 1) := by decide +kernel
theorem dX6_sumOf_12 : decode cX6_sumOf 12 = .ok (.if_icmp .ge 35, 3) := by decide +kernel
theorem dX6_sumOf_15 : decode cX6_sumOf 15 = .ok (.iload 4, 2) := by decide +kernel
theorem dX6_sumOf_17 : decode cX6_sumOf 17 = .ok (.sipush 1200, 3) := by decide +kernel
theorem dX6_sumOf_20 : decode cX6_sumOf 20 = .ok (.if_icmp .ge 27, 3) := by decide +kernel
theorem dX6_sumOf_23 : decode cX6_sumOf 23 = .ok (.iload_n 3, 1) := by decide +kernel
theorem dX6_sumOf_24 : decode cX6_sumOf 24 = .ok (.aload_n 0, 1) := by decide +kernel
theorem dX6_sumOf_25 : decode cX6_sumOf 25 = .ok (.getfield 11, 3) := by decide +kernel
theorem dX6_sumOf_28 : decode cX6_sumOf 28 = .ok (.iload 4, 2) := by decide +kernel
theorem dX6_sumOf_30 : decode cX6_sumOf 30 = .ok (.iaload, 1) := by decide +kernel
theorem dX6_sumOf_31 : decode cX6_sumOf 31 = .ok (.ixor, 1) := by decide +kernel
theorem dX6_sumOf_32 : decode cX6_sumOf 32 = .ok (.bipush 9, 2) := by decide +kernel
theorem dX6_sumOf_34 : decode cX6_sumOf 34 = .ok (.invokestatic 25, 3) := by decide +kernel
theorem dX6_sumOf_37 : decode cX6_sumOf 37 = .ok (.ldc 30, 2) := by decide +kernel
theorem dX6_sumOf_39 : decode cX6_sumOf 39 = .ok (.imul, 1) := by decide +kernel
theorem dX6_sumOf_40 : decode cX6_sumOf 40 = .ok (.istore_n 3, 1) := by decide +kernel
theorem dX6_sumOf_41 : decode cX6_sumOf 41 = .ok (.iinc 4 1, 3) := by decide +kernel
theorem dX6_sumOf_44 : decode cX6_sumOf 44 = .ok (.goto (-35), 3) := by decide +kernel
theorem dX6_sumOf_47 : decode cX6_sumOf 47 = .ok (.iload_n 3, 1) := by decide +kernel
theorem dX6_sumOf_48 : decode cX6_sumOf 48 = .ok (.ireturn, 1) := by decide +kernel
theorem dX6_numberAt_0 : decode cX6_numberAt 0 = .ok (.iconst 0, 1) := by decide +kernel
theorem dX6_numberAt_1 : decode cX6_numberAt 1 = .ok (.istore_n 3, 1) := by decide +kernel
theorem dX6_numberAt_2 : decode cX6_numberAt 2 = .ok (.iconst 0, 1) := by decide +kernel
theorem dX6_numberAt_3 : decode cX6_numberAt 3 = .ok (.iload_n 1, 1) := by decide +kernel
theorem dX6_numberAt_4 : decode cX6_numberAt 4 = .ok (.invokestatic 19, 3) := by decide +kernel
theorem dX6_numberAt_7 : decode cX6_numberAt 7 = .ok (.istore 4, 2) := by decide +kernel
theorem dX6_numberAt_9 : decode cX6_numberAt 9 = .ok (.iload 4, 2) := by decide +kernel
theorem dX6_numberAt_11 : decode cX6_numberAt 11 = .ok (.iload_n 1, 1) := by decide +kernel
theorem dX6_numberAt_12 : decode cX6_numberAt 12 = .ok (.iload_n 2, 1) := by decide +kernel
theorem dX6_numberAt_13 : decode cX6_numberAt 13 = .ok (.iadd, 1) := by decide +kernel
theorem dX6_numberAt_14 : decode cX6_numberAt 14 = .ok (.if_icmp .ge 30, 3) := by decide +kernel
theorem dX6_numberAt_17 : decode cX6_numberAt 17 = .ok (.iload 4, 2) := by decide +kernel
theorem dX6_numberAt_19 : decode cX6_numberAt 19 = .ok (.sipush 1200, 3) := by decide +kernel
theorem dX6_numberAt_22 : decode cX6_numberAt 22 = .ok (.if_icmp .ge 22, 3) := by decide +kernel
theorem dX6_numberAt_25 : decode cX6_numberAt 25 = .ok (.iload_n 3, 1) := by decide +kernel
theorem dX6_numberAt_26 : decode cX6_numberAt 26 = .ok (.bipush 8, 2) := by decide +kernel
theorem dX6_numberAt_28 : decode cX6_numberAt 28 = .ok (.ishl, 1) := by decide +kernel
theorem dX6_numberAt_29 : decode cX6_numberAt 29 = .ok (.aload_n 0, 1) := by decide +kernel
theorem dX6_numberAt_30 : decode cX6_numberAt 30 = .ok (.getfield 11, 3) := by decide +kernel
theorem dX6_numberAt_33 : decode cX6_numberAt 33 = .ok (.iload 4, 2) := by decide +kernel
theorem dX6_numberAt_35 : decode cX6_numberAt 35 = .ok (.iaload, 1) := by decide +kernel
theorem dX6_numberAt_36 : decode cX6_numberAt 36 = .ok (.ior, 1) := by decide +kernel
theorem dX6_numberAt_37 : decode cX6_numberAt 37 = .ok (.istore_n 3, 1) := by decide +kernel
theorem dX6_numberAt_38 : decode cX6_numberAt 38 = .ok (.iinc 4 1, 3) := by decide +kernel
theorem dX6_numberAt_41 : decode cX6_numberAt 41 = .ok (.goto (-32), 3) := by decide +kernel
theorem dX6_numberAt_44 : decode cX6_numberAt 44 = .ok (.iload_n 3, 1) := by decide +kernel
theorem dX6_numberAt_45 : decode cX6_numberAt 45 = .ok (.ireturn, 1) := by decide +kernel
theorem dX6_countBooks_0 : decode cX6_countBooks 0 = .ok (.iconst 0, 1) := by decide +kernel
theorem dX6_countBooks_1 : decode cX6_countBooks 1 = .ok (.istore_n 1, 1) := by decide +kernel
theorem dX6_countBooks_2 : decode cX6_countBooks 2 = .ok (.iconst 1, 1) := by decide +kernel
theorem dX6_countBooks_3 : decode cX6_countBooks 3 = .ok (.istore_n 2, 1) := by decide +kernel
theorem dX6_countBooks_4 : decode cX6_countBooks 4 = .ok (.iload_n 2, 1) := by decide +kernel
theorem dX6_countBooks_5 : decode cX6_countBooks 5 = .ok (.sipush 1200, 3) := by decide +kernel
theorem dX6_countBooks_8 : decode cX6_countBooks 8 = .ok (.if_icmp .gt 64, 3) := by decide +kernel
theorem dX6_countBooks_11 : decode cX6_countBooks 11 = .ok (.iload_n 1, 1) := by decide +kernel
theorem dX6_countBooks_12 : decode cX6_countBooks 12 = .ok (.iconst 4, 1) := by decide +kernel
theorem dX6_countBooks_13 : decode cX6_countBooks 13 = .ok (.iadd, 1) := by decide +kernel
theorem dX6_countBooks_14 : decode cX6_countBooks 14 = .ok (.aload_n 0, 1) := by decide +kernel
theorem dX6_countBooks_15 : decode cX6_countBooks 15 = .ok (.iload_n 1, 1) := by decide +kernel
theorem dX6_countBooks_16 : decode cX6_countBooks 16 = .ok (.iconst 2, 1) := by decide +kernel
theorem dX6_countBooks_17 : decode cX6_countBooks 17 = .ok (.iadd, 1) := by decide +kernel
theorem dX6_countBooks_18 : decode cX6_countBooks 18 = .ok (.iconst 2, 1) := by decide +kernel
theorem dX6_countBooks_19 : decode cX6_countBooks 19 = .ok (.invokevirtual 31, 3) := by decide +kernel
theorem dX6_countBooks_22 : decode cX6_countBooks 22 = .ok (.iadd, 1) := by decide +kernel
theorem dX6_countBooks_23 : decode cX6_countBooks 23 = .ok (.istore_n 3, 1) := by decide +kernel
theorem dX6_countBooks_24 : decode cX6_countBooks 24 = .ok (.iload_n 3, 1) := by decide +kernel
theorem dX6_countBooks_25 : decode cX6_countBooks 25 = .ok (.iconst 4, 1) := by decide +kernel
theorem dX6_countBooks_26 : decode cX6_countBooks 26 = .ok (.iadd, 1) := by decide +kernel
theorem dX6_countBooks_27 : decode cX6_countBooks 27 = .ok (.aload_n 0, 1) := by decide +kernel
theorem dX6_countBooks_28 : decode cX6_countBooks 28 = .ok (.getfield 15, 3) := by decide +kernel
theorem dX6_countBooks_31 : decode cX6_countBooks 31 = .ok (.if_icmp .gt 18, 3) := by decide +kernel
theorem dX6_countBooks_34 : decode cX6_countBooks 34 = .ok (.aload_n 0, 1) := by decide +kernel
theorem dX6_countBooks_35 : decode cX6_countBooks 35 = .ok (.iload_n 3, 1) := by decide +kernel
theorem dX6_countBooks_36 : decode cX6_countBooks 36 = .ok (.iconst 4, 1) := by decide +kernel
theorem dX6_countBooks_37 : decode cX6_countBooks 37 = .ok (.invokevirtual 31, 3) := by decide +kernel
theorem dX6_countBooks_40 : decode cX6_countBooks 40 = .ok (.aload_n 0, 1) := by decide +kernel
theorem dX6_countBooks_41 : decode cX6_countBooks 41 = .ok (.iload_n 1, 1) := by decide +kernel
theorem dX6_countBooks_42 : decode cX6_countBooks 42 = .ok (.iload_n 3, 1) := by decide +kernel
theorem dX6_countBooks_43 : decode cX6_countBooks 43 = .ok (.invokevirtual 34, 3) := by decide +kernel
theorem dX6_countBooks_46 : decode cX6_countBooks 46 = .ok (.if_icmp .eq 6, 3) := by decide +kernel
theorem dX6_countBooks_49 : decode cX6_countBooks 49 = .ok (.bipush (-2), 2) := by decide +kernel
theorem dX6_countBooks_51 : decode cX6_countBooks 51 = .ok (.ireturn, 1) := by decide +kernel
theorem dX6_countBooks_52 : decode cX6_countBooks 52 = .ok (.iload_n 3, 1) := by decide +kernel
theorem dX6_countBooks_53 : decode cX6_countBooks 53 = .ok (.iconst 4, 1) := by decide +kernel
theorem dX6_countBooks_54 : decode cX6_countBooks 54 = .ok (.iadd, 1) := by decide +kernel
theorem dX6_countBooks_55 : decode cX6_countBooks 55 = .ok (.istore_n 1, 1) := by decide +kernel
theorem dX6_countBooks_56 : decode cX6_countBooks 56 = .ok (.iload_n 1, 1) := by decide +kernel
theorem dX6_countBooks_57 : decode cX6_countBooks 57 = .ok (.aload_n 0, 1) := by decide +kernel
theorem dX6_countBooks_58 : decode cX6_countBooks 58 = .ok (.getfield 15, 3) := by decide +kernel
theorem dX6_countBooks_61 : decode cX6_countBooks 61 = .ok (.if_icmp .ne 5, 3) := by decide +kernel
theorem dX6_countBooks_64 : decode cX6_countBooks 64 = .ok (.iload_n 2, 1) := by decide +kernel
theorem dX6_countBooks_65 : decode cX6_countBooks 65 = .ok (.ireturn, 1) := by decide +kernel
theorem dX6_countBooks_66 : decode cX6_countBooks 66 = .ok (.iinc 2 1, 3) := by decide +kernel
theorem dX6_countBooks_69 : decode cX6_countBooks 69 = .ok (.goto (-65), 3) := by decide +kernel
theorem dX6_countBooks_72 : decode cX6_countBooks 72 = .ok (.bipush (-2), 2) := by decide +kernel
theorem dX6_countBooks_74 : decode cX6_countBooks 74 = .ok (.ireturn, 1) := by decide +kernel
theorem dX7_init_0 : decode cX7_init 0 = .ok (.aload_n 0, 1) := by decide +kernel
theorem dX7_init_1 : decode cX7_init 1 = .ok (.invokespecial 3, 3) := by decide +kernel
theorem dX7_init_4 : decode cX7_init 4 = .ok (.aload_n 0, 1) := by decide +kernel
theorem dX7_init_5 : decode cX7_init 5 = .ok (.sipush 300, 3) := by decide +kernel
theorem dX7_init_8 : decode cX7_init 8 = .ok (.newarray .long, 2) := by decide +kernel
theorem dX7_init_10 : decode cX7_init 10 = .ok (.putfield 11, 3) := by decide +kernel
theorem dX7_init_13 : decode cX7_init 13 = .ok (.aload_n 0, 1) := by decide +kernel
theorem dX7_init_14 : decode cX7_init 14 = .ok (.sipush 300, 3) := by decide +kernel
theorem dX7_init_17 : decode cX7_init 17 = .ok (.newarray .int, 2) := by decide +kernel
theorem dX7_init_19 : decode cX7_init 19 = .ok (.putfield 15, 3) := by decide +kernel
theorem dX7_init_22 : decode cX7_init 22 = .ok (.aload_n 0, 1) := by decide +kernel
theorem dX7_init_23 : decode cX7_init 23 = .ok (.sipush 300, 3) := by decide +kernel
theorem dX7_init_26 : decode cX7_init 26 = .ok (.newarray .int, 2) := by decide +kernel
theorem dX7_init_28 : decode cX7_init 28 = .ok (.putfield 19, 3) := by decide +kernel
theorem dX7_init_31 : decode cX7_init 31 = .ok (.return_, 1) := by decide +kernel
theorem dX7_monthBy_0 : decode cX7_monthBy 0 = .ok (.iconst 0, 1) := by decide +kernel
theorem dX7_monthBy_1 : decode cX7_monthBy 1 = .ok (.istore 4, 2) := by decide +kernel
theorem dX7_monthBy_3 : decode cX7_monthBy 3 = .ok (.iload 4, 2) := by decide +kernel
theorem dX7_monthBy_5 : decode cX7_monthBy 5 = .ok (.aload_n 0, 1) := by decide +kernel
theorem dX7_monthBy_6 : decode cX7_monthBy 6 = .ok (.getfield 22, 3) := by decide +kernel
theorem dX7_monthBy_9 : decode cX7_monthBy 9 = .ok (.if_icmp .ge 40, 3) := by decide +kernel
theorem dX7_monthBy_12 : decode cX7_monthBy 12 = .ok (.aload_n 0, 1) := by decide +kernel
theorem dX7_monthBy_13 : decode cX7_monthBy 13 = .ok (.getfield 15, 3) := by decide +kernel
theorem dX7_monthBy_16 : decode cX7_monthBy 16 = .ok (.iload 4, 2) := by decide +kernel
theorem dX7_monthBy_18 : decode cX7_monthBy 18 = .ok (.iaload, 1) := by decide +kernel
theorem dX7_monthBy_19 : decode cX7_monthBy 19 = .ok (.iload_n 1, 1) := by decide +kernel
theorem dX7_monthBy_20 : decode cX7_monthBy 20 = .ok (.if_icmp .ne 23, 3) := by decide +kernel
theorem dX7_monthBy_23 : decode cX7_monthBy 23 = .ok (.aload_n 0, 1) := by decide +kernel
theorem dX7_monthBy_24 : decode cX7_monthBy 24 = .ok (.getfield 11, 3) := by decide +kernel
theorem dX7_monthBy_27 : decode cX7_monthBy 27 = .ok (.iload 4, 2) := by decide +kernel
theorem dX7_monthBy_29 : decode cX7_monthBy 29 = .ok (.laload, 1) := by decide +kernel
theorem dX7_monthBy_30 : decode cX7_monthBy 30 = .ok (.lload_n 2, 1) := by decide +kernel
theorem dX7_monthBy_31 : decode cX7_monthBy 31 = .ok (.lcmp, 1) := by decide +kernel
theorem dX7_monthBy_32 : decode cX7_monthBy 32 = .ok (.ifCond .ne 11, 3) := by decide +kernel
theorem dX7_monthBy_35 : decode cX7_monthBy 35 = .ok (.aload_n 0, 1) := by decide +kernel
theorem dX7_monthBy_36 : decode cX7_monthBy 36 = .ok (.getfield 19, 3) := by decide +kernel
theorem dX7_monthBy_39 : decode cX7_monthBy 39 = .ok (.iload 4, 2) := by decide +kernel
theorem dX7_monthBy_41 : decode cX7_monthBy 41 = .ok (.iaload, 1) := by decide +kernel
theorem dX7_monthBy_42 : decode cX7_monthBy 42 = .ok (.ireturn, 1) := by decide +kernel
theorem dX7_monthBy_43 : decode cX7_monthBy 43 = .ok (.iinc 4 1, 3) := by decide +kernel
theorem dX7_monthBy_46 : decode cX7_monthBy 46 = .ok (.goto (-43), 3) := by decide +kernel
theorem dX7_monthBy_49 : decode cX7_monthBy 49 = .ok (.bipush (-2), 2) := by decide +kernel
theorem dX7_monthBy_51 : decode cX7_monthBy 51 = .ok (.ireturn, 1) := by decide +kernel
theorem dX7_countFor_0 : decode cX7_countFor 0 = .ok (.iconst 0, 1) := by decide +kernel
theorem dX7_countFor_1 : decode cX7_countFor 1 = .ok (.istore_n 3, 1) := by decide +kernel
theorem dX7_countFor_2 : decode cX7_countFor 2 = .ok (.iconst 0, 1) := by decide +kernel
theorem dX7_countFor_3 : decode cX7_countFor 3 = .ok (.istore 4, 2) := by decide +kernel
theorem dX7_countFor_5 : decode cX7_countFor 5 = .ok (.iload 4, 2) := by decide +kernel
theorem dX7_countFor_7 : decode cX7_countFor 7 = .ok (.aload_n 0, 1) := by decide +kernel
theorem dX7_countFor_8 : decode cX7_countFor 8 = .ok (.getfield 22, 3) := by decide +kernel
theorem dX7_countFor_11 : decode cX7_countFor 11 = .ok (.if_icmp .ge 34, 3) := by decide +kernel
theorem dX7_countFor_14 : decode cX7_countFor 14 = .ok (.aload_n 0, 1) := by decide +kernel
theorem dX7_countFor_15 : decode cX7_countFor 15 = .ok (.getfield 15, 3) := by decide +kernel
theorem dX7_countFor_18 : decode cX7_countFor 18 = .ok (.iload 4, 2) := by decide +kernel
theorem dX7_countFor_20 : decode cX7_countFor 20 = .ok (.iaload, 1) := by decide +kernel
theorem dX7_countFor_21 : decode cX7_countFor 21 = .ok (.iload_n 1, 1) := by decide +kernel
theorem dX7_countFor_22 : decode cX7_countFor 22 = .ok (.if_icmp .ne 17, 3) := by decide +kernel
theorem dX7_countFor_25 : decode cX7_countFor 25 = .ok (.aload_n 0, 1) := by decide +kernel
theorem dX7_countFor_26 : decode cX7_countFor 26 = .ok (.getfield 19, 3) := by decide +kernel
theorem dX7_countFor_29 : decode cX7_countFor 29 = .ok (.iload 4, 2) := by decide +kernel
theorem dX7_countFor_31 : decode cX7_countFor 31 = .ok (.iaload, 1) := by decide +kernel
theorem dX7_countFor_32 : decode cX7_countFor 32 = .ok (.iload_n 2, 1) := by decide +kernel
theorem dX7_countFor_33 : decode cX7_countFor 33 = .ok (.if_icmp .ne 6, 3) := by decide +kernel
theorem dX7_countFor_36 : decode cX7_countFor 36 = .ok (.iinc 3 1, 3) := by decide +kernel
theorem dX7_countFor_39 : decode cX7_countFor 39 = .ok (.iinc 4 1, 3) := by decide +kernel
theorem dX7_countFor_42 : decode cX7_countFor 42 = .ok (.goto (-37), 3) := by decide +kernel
theorem dX7_countFor_45 : decode cX7_countFor 45 = .ok (.iload_n 3, 1) := by decide +kernel
theorem dX7_countFor_46 : decode cX7_countFor 46 = .ok (.ireturn, 1) := by decide +kernel
theorem dX7_add_0 : decode cX7_add 0 = .ok (.aload_n 0, 1) := by decide +kernel
theorem dX7_add_1 : decode cX7_add 1 = .ok (.getfield 22, 3) := by decide +kernel
theorem dX7_add_4 : decode cX7_add 4 = .ok (.sipush 300, 3) := by decide +kernel
theorem dX7_add_7 : decode cX7_add 7 = .ok (.if_icmp .ge 43, 3) := by decide +kernel
theorem dX7_add_10 : decode cX7_add 10 = .ok (.aload_n 0, 1) := by decide +kernel
theorem dX7_add_11 : decode cX7_add 11 = .ok (.getfield 15, 3) := by decide +kernel
theorem dX7_add_14 : decode cX7_add 14 = .ok (.aload_n 0, 1) := by decide +kernel
theorem dX7_add_15 : decode cX7_add 15 = .ok (.getfield 22, 3) := by decide +kernel
theorem dX7_add_18 : decode cX7_add 18 = .ok (.iload_n 1, 1) := by decide +kernel
theorem dX7_add_19 : decode cX7_add 19 = .ok (.iastore, 1) := by decide +kernel
theorem dX7_add_20 : decode cX7_add 20 = .ok (.aload_n 0, 1) := by decide +kernel
theorem dX7_add_21 : decode cX7_add 21 = .ok (.getfield 19, 3) := by decide +kernel
theorem dX7_add_24 : decode cX7_add 24 = .ok (.aload_n 0, 1) := by decide +kernel
theorem dX7_add_25 : decode cX7_add 25 = .ok (.getfield 22, 3) := by decide +kernel
theorem dX7_add_28 : decode cX7_add 28 = .ok (.iload_n 2, 1) := by decide +kernel
theorem dX7_add_29 : decode cX7_add 29 = .ok (.iastore, 1) := by decide +kernel
theorem dX7_add_30 : decode cX7_add 30 = .ok (.aload_n 0, 1) := by decide +kernel
theorem dX7_add_31 : decode cX7_add 31 = .ok (.getfield 11, 3) := by decide +kernel
theorem dX7_add_34 : decode cX7_add 34 = .ok (.aload_n 0, 1) := by decide +kernel
theorem dX7_add_35 : decode cX7_add 35 = .ok (.getfield 22, 3) := by decide +kernel
theorem dX7_add_38 : decode cX7_add 38 = .ok (.lload_n 3, 1) := by decide +kernel
theorem dX7_add_39 : decode cX7_add 39 = .ok (.lastore, 1) := by decide +kernel
theorem dX7_add_40 : decode cX7_add 40 = .ok (.aload_n 0, 1) := by decide +kernel
theorem dX7_add_41 : decode cX7_add 41 = .ok (.dup, 1) := by decide +kernel
theorem dX7_add_42 : decode cX7_add 42 = .ok (.getfield 22, 3) := by decide +kernel
theorem dX7_add_45 : decode cX7_add 45 = .ok (.iconst 1, 1) := by decide +kernel
theorem dX7_add_46 : decode cX7_add 46 = .ok (.iadd, 1) := by decide +kernel
theorem dX7_add_47 : decode cX7_add 47 = .ok (.putfield 22, 3) := by decide +kernel
theorem dX7_add_50 : decode cX7_add 50 = .ok (.return_, 1) := by decide +kernel
theorem dX7_drop_0 : decode cX7_drop 0 = .ok (.aload_n 0, 1) := by decide +kernel
theorem dX7_drop_1 : decode cX7_drop 1 = .ok (.getfield 22, 3) := by decide +kernel
theorem dX7_drop_4 : decode cX7_drop 4 = .ok (.ifCond .le 13, 3) := by decide +kernel
theorem dX7_drop_7 : decode cX7_drop 7 = .ok (.aload_n 0, 1) := by decide +kernel
theorem dX7_drop_8 : decode cX7_drop 8 = .ok (.dup, 1) := by decide +kernel
theorem dX7_drop_9 : decode cX7_drop 9 = .ok (.getfield 22, 3) := by decide +kernel
theorem dX7_drop_12 : decode cX7_drop 12 = .ok (.iconst 1, 1) := by decide +kernel
theorem dX7_drop_13 : decode cX7_drop 13 = .ok (.isub, 1) := by decide +kernel
theorem dX7_drop_14 : decode cX7_drop 14 = .ok (.putfield 22, 3) := by decide +kernel
theorem dX7_drop_17 : decode cX7_drop 17 = .ok (.return_, 1) := by decide +kernel
theorem dJ6_rotateLeft_7cf53_0 : decode cJ6_rotateLeft_7cf53 0 = .ok (.iload_n 0, 1) := by decide +kernel
theorem dJ6_rotateLeft_7cf53_1 : decode cJ6_rotateLeft_7cf53 1 = .ok (.iload_n 1, 1) := by decide +kernel
theorem dJ6_rotateLeft_7cf53_2 : decode cJ6_rotateLeft_7cf53 2 = .ok (.ishl, 1) := by decide +kernel
theorem dJ6_rotateLeft_7cf53_3 : decode cJ6_rotateLeft_7cf53 3 = .ok (.iload_n 0, 1) := by decide +kernel
theorem dJ6_rotateLeft_7cf53_4 : decode cJ6_rotateLeft_7cf53 4 = .ok (.iload_n 1, 1) := by decide +kernel
theorem dJ6_rotateLeft_7cf53_5 : decode cJ6_rotateLeft_7cf53 5 = .ok (.ineg, 1) := by decide +kernel
theorem dJ6_rotateLeft_7cf53_6 : decode cJ6_rotateLeft_7cf53 6 = .ok (.iushr, 1) := by decide +kernel
theorem dJ6_rotateLeft_7cf53_7 : decode cJ6_rotateLeft_7cf53 7 = .ok (.ior, 1) := by decide +kernel
theorem dJ6_rotateLeft_7cf53_8 : decode cJ6_rotateLeft_7cf53 8 = .ok (.ireturn, 1) := by decide +kernel
theorem dJ9_floorMod_7cf53_0 : decode cJ9_floorMod_7cf53 0 = .ok (.iload_n 0, 1) := by decide +kernel
theorem dJ9_floorMod_7cf53_1 : decode cJ9_floorMod_7cf53 1 = .ok (.iload_n 1, 1) := by decide +kernel
theorem dJ9_floorMod_7cf53_2 : decode cJ9_floorMod_7cf53 2 = .ok (.irem, 1) := by decide +kernel
theorem dJ9_floorMod_7cf53_3 : decode cJ9_floorMod_7cf53 3 = .ok (.istore_n 2, 1) := by decide +kernel
theorem dJ9_floorMod_7cf53_4 : decode cJ9_floorMod_7cf53 4 = .ok (.iload_n 0, 1) := by decide +kernel
theorem dJ9_floorMod_7cf53_5 : decode cJ9_floorMod_7cf53 5 = .ok (.iload_n 1, 1) := by decide +kernel
theorem dJ9_floorMod_7cf53_6 : decode cJ9_floorMod_7cf53 6 = .ok (.ixor, 1) := by decide +kernel
theorem dJ9_floorMod_7cf53_7 : decode cJ9_floorMod_7cf53 7 = .ok (.ifCond .ge 11, 3) := by decide +kernel
theorem dJ9_floorMod_7cf53_10 : decode cJ9_floorMod_7cf53 10 = .ok (.iload_n 2, 1) := by decide +kernel
theorem dJ9_floorMod_7cf53_11 : decode cJ9_floorMod_7cf53 11 = .ok (.ifCond .eq 7, 3) := by decide +kernel
theorem dJ9_floorMod_7cf53_14 : decode cJ9_floorMod_7cf53 14 = .ok (.iload_n 2, 1) := by decide +kernel
theorem dJ9_floorMod_7cf53_15 : decode cJ9_floorMod_7cf53 15 = .ok (.iload_n 1, 1) := by decide +kernel
theorem dJ9_floorMod_7cf53_16 : decode cJ9_floorMod_7cf53 16 = .ok (.iadd, 1) := by decide +kernel
theorem dJ9_floorMod_7cf53_17 : decode cJ9_floorMod_7cf53 17 = .ok (.ireturn, 1) := by decide +kernel
theorem dJ9_floorMod_7cf53_18 : decode cJ9_floorMod_7cf53 18 = .ok (.iload_n 2, 1) := by decide +kernel
theorem dJ9_floorMod_7cf53_19 : decode cJ9_floorMod_7cf53 19 = .ok (.ireturn, 1) := by decide +kernel
theorem dJ9_floorMod_f86c9_0 : decode cJ9_floorMod_f86c9 0 = .ok (.lload_n 0, 1) := by decide +kernel
theorem dJ9_floorMod_f86c9_1 : decode cJ9_floorMod_f86c9 1 = .ok (.lload_n 2, 1) := by decide +kernel
theorem dJ9_floorMod_f86c9_2 : decode cJ9_floorMod_f86c9 2 = .ok (.lrem, 1) := by decide +kernel
theorem dJ9_floorMod_f86c9_3 : decode cJ9_floorMod_f86c9 3 = .ok (.lstore 4, 2) := by decide +kernel
theorem dJ9_floorMod_f86c9_5 : decode cJ9_floorMod_f86c9 5 = .ok (.lload_n 0, 1) := by decide +kernel
theorem dJ9_floorMod_f86c9_6 : decode cJ9_floorMod_f86c9 6 = .ok (.lload_n 2, 1) := by decide +kernel
theorem dJ9_floorMod_f86c9_7 : decode cJ9_floorMod_f86c9 7 = .ok (.lxor, 1) := by decide +kernel
theorem dJ9_floorMod_f86c9_8 : decode cJ9_floorMod_f86c9 8 = .ok (.lconst 0, 1) := by decide +kernel
theorem dJ9_floorMod_f86c9_9 : decode cJ9_floorMod_f86c9 9 = .ok (.lcmp, 1) := by decide +kernel
theorem dJ9_floorMod_f86c9_10 : decode cJ9_floorMod_f86c9 10 = .ok (.ifCond .ge 15, 3) := by decide +kernel
theorem dJ9_floorMod_f86c9_13 : decode cJ9_floorMod_f86c9 13 = .ok (.lload 4, 2) := by decide +kernel
theorem dJ9_floorMod_f86c9_15 : decode cJ9_floorMod_f86c9 15 = .ok (.lconst 0, 1) := by decide +kernel
theorem dJ9_floorMod_f86c9_16 : decode cJ9_floorMod_f86c9 16 = .ok (.lcmp, 1) := by decide +kernel
theorem dJ9_floorMod_f86c9_17 : decode cJ9_floorMod_f86c9 17 = .ok (.ifCond .eq 8, 3) := by decide +kernel
theorem dJ9_floorMod_f86c9_20 : decode cJ9_floorMod_f86c9 20 = .ok (.lload 4, 2) := by decide +kernel
theorem dJ9_floorMod_f86c9_22 : decode cJ9_floorMod_f86c9 22 = .ok (.lload_n 2, 1) := by decide +kernel
theorem dJ9_floorMod_f86c9_23 : decode cJ9_floorMod_f86c9 23 = .ok (.ladd, 1) := by decide +kernel
theorem dJ9_floorMod_f86c9_24 : decode cJ9_floorMod_f86c9 24 = .ok (.lreturn, 1) := by decide +kernel
theorem dJ9_floorMod_f86c9_25 : decode cJ9_floorMod_f86c9 25 = .ok (.lload 4, 2) := by decide +kernel
theorem dJ9_floorMod_f86c9_27 : decode cJ9_floorMod_f86c9 27 = .ok (.lreturn, 1) := by decide +kernel
theorem dJ9_max_7cf53_0 : decode cJ9_max_7cf53 0 = .ok (.iload_n 0, 1) := by decide +kernel
theorem dJ9_max_7cf53_1 : decode cJ9_max_7cf53 1 = .ok (.iload_n 1, 1) := by decide +kernel
theorem dJ9_max_7cf53_2 : decode cJ9_max_7cf53 2 = .ok (.if_icmp .lt 7, 3) := by decide +kernel
theorem dJ9_max_7cf53_5 : decode cJ9_max_7cf53 5 = .ok (.iload_n 0, 1) := by decide +kernel
theorem dJ9_max_7cf53_6 : decode cJ9_max_7cf53 6 = .ok (.goto 4, 3) := by decide +kernel
theorem dJ9_max_7cf53_9 : decode cJ9_max_7cf53 9 = .ok (.iload_n 1, 1) := by decide +kernel
theorem dJ9_max_7cf53_10 : decode cJ9_max_7cf53 10 = .ok (.ireturn, 1) := by decide +kernel
theorem dJ9_min_7cf53_0 : decode cJ9_min_7cf53 0 = .ok (.iload_n 0, 1) := by decide +kernel
theorem dJ9_min_7cf53_1 : decode cJ9_min_7cf53 1 = .ok (.iload_n 1, 1) := by decide +kernel
theorem dJ9_min_7cf53_2 : decode cJ9_min_7cf53 2 = .ok (.if_icmp .gt 7, 3) := by decide +kernel
theorem dJ9_min_7cf53_5 : decode cJ9_min_7cf53 5 = .ok (.iload_n 0, 1) := by decide +kernel
theorem dJ9_min_7cf53_6 : decode cJ9_min_7cf53 6 = .ok (.goto 4, 3) := by decide +kernel
theorem dJ9_min_7cf53_9 : decode cJ9_min_7cf53 9 = .ok (.iload_n 1, 1) := by decide +kernel
theorem dJ9_min_7cf53_10 : decode cJ9_min_7cf53 10 = .ok (.ireturn, 1) := by decide +kernel
theorem dJ0_length_8abf5_0 : decode cJ0_length_8abf5 0 = .ok (.aload_n 0, 1) := by decide +kernel
theorem dJ0_length_8abf5_1 : decode cJ0_length_8abf5 1 = .ok (.getfield 9, 3) := by decide +kernel
theorem dJ0_length_8abf5_4 : decode cJ0_length_8abf5 4 = .ok (.arraylength, 1) := by decide +kernel
theorem dJ0_length_8abf5_5 : decode cJ0_length_8abf5 5 = .ok (.aload_n 0, 1) := by decide +kernel
theorem dJ0_length_8abf5_6 : decode cJ0_length_8abf5 6 = .ok (.invokevirtual 335, 3) := by decide +kernel
theorem dJ0_length_8abf5_9 : decode cJ0_length_8abf5 9 = .ok (.ishr, 1) := by decide +kernel
theorem dJ0_length_8abf5_10 : decode cJ0_length_8abf5 10 = .ok (.ireturn, 1) := by decide +kernel
theorem dJ0_charAt_5068e_0 : decode cJ0_charAt_5068e 0 = .ok (.aload_n 0, 1) := by decide +kernel
theorem dJ0_charAt_5068e_1 : decode cJ0_charAt_5068e 1 = .ok (.invokevirtual 492, 3) := by decide +kernel
theorem dJ0_charAt_5068e_4 : decode cJ0_charAt_5068e 4 = .ok (.ifCond .eq 12, 3) := by decide +kernel
theorem dJ0_charAt_5068e_7 : decode cJ0_charAt_5068e 7 = .ok (.aload_n 0, 1) := by decide +kernel
theorem dJ0_charAt_5068e_8 : decode cJ0_charAt_5068e 8 = .ok (.getfield 9, 3) := by decide +kernel
theorem dJ0_charAt_5068e_11 : decode cJ0_charAt_5068e 11 = .ok (.iload_n 1, 1) := by decide +kernel
theorem dJ0_charAt_5068e_12 : decode cJ0_charAt_5068e 12 = .ok (.invokestatic 495, 3) := by decide +kernel
theorem dJ0_charAt_5068e_15 : decode cJ0_charAt_5068e 15 = .ok (.ireturn, 1) := by decide +kernel
theorem dJ0_charAt_5068e_16 : decode cJ0_charAt_5068e 16 = .ok (.aload_n 0, 1) := by decide +kernel
theorem dJ0_charAt_5068e_17 : decode cJ0_charAt_5068e 17 = .ok (.getfield 9, 3) := by decide +kernel
theorem dJ0_charAt_5068e_20 : decode cJ0_charAt_5068e 20 = .ok (.iload_n 1, 1) := by decide +kernel
theorem dJ0_charAt_5068e_21 : decode cJ0_charAt_5068e 21 = .ok (.invokestatic 498, 3) := by decide +kernel
theorem dJ0_charAt_5068e_24 : decode cJ0_charAt_5068e 24 = .ok (.ireturn, 1) := by decide +kernel
theorem dJ0_coder_7d493_0 : decode cJ0_coder_7d493 0 = .ok (.getstatic 38, 3) := by decide +kernel
theorem dJ0_coder_7d493_3 : decode cJ0_coder_7d493 3 = .ok (.ifCond .eq 10, 3) := by decide +kernel
theorem dJ0_coder_7d493_6 : decode cJ0_coder_7d493 6 = .ok (.aload_n 0, 1) := by decide +kernel
theorem dJ0_coder_7d493_7 : decode cJ0_coder_7d493 7 = .ok (.getfield 15, 3) := by decide +kernel
theorem dJ0_coder_7d493_10 : decode cJ0_coder_7d493 10 = .ok (.goto 4, 3) := by decide +kernel
theorem dJ0_coder_7d493_13 : decode cJ0_coder_7d493 13 = .ok (.iconst 1, 1) := by decide +kernel
theorem dJ0_coder_7d493_14 : decode cJ0_coder_7d493 14 = .ok (.ireturn, 1) := by decide +kernel
theorem dJ0_isLatin1_aae02_0 : decode cJ0_isLatin1_aae02 0 = .ok (.getstatic 38, 3) := by decide +kernel
theorem dJ0_isLatin1_aae02_3 : decode cJ0_isLatin1_aae02 3 = .ok (.ifCond .eq 14, 3) := by decide +kernel
theorem dJ0_isLatin1_aae02_6 : decode cJ0_isLatin1_aae02 6 = .ok (.aload_n 0, 1) := by decide +kernel
theorem dJ0_isLatin1_aae02_7 : decode cJ0_isLatin1_aae02 7 = .ok (.getfield 15, 3) := by decide +kernel
theorem dJ0_isLatin1_aae02_10 : decode cJ0_isLatin1_aae02 10 = .ok (.ifCond .ne 7, 3) := by decide +kernel
theorem dJ0_isLatin1_aae02_13 : decode cJ0_isLatin1_aae02 13 = .ok (.iconst 1, 1) := by decide +kernel
theorem dJ0_isLatin1_aae02_14 : decode cJ0_isLatin1_aae02 14 = .ok (.goto 4, 3) := by decide +kernel
theorem dJ0_isLatin1_aae02_17 : decode cJ0_isLatin1_aae02 17 = .ok (.iconst 0, 1) := by decide +kernel
theorem dJ0_isLatin1_aae02_18 : decode cJ0_isLatin1_aae02 18 = .ok (.ireturn, 1) := by decide +kernel
theorem dJ0_checkIndex_df160_0 : decode cJ0_checkIndex_df160 0 = .ok (.iload_n 0, 1) := by decide +kernel
theorem dJ0_checkIndex_df160_1 : decode cJ0_checkIndex_df160 1 = .ok (.iload_n 1, 1) := by decide +kernel
theorem dJ0_checkIndex_df160_2 : decode cJ0_checkIndex_df160 2 = .ok (.getstatic 1053, 3) := by decide +kernel
theorem dJ0_checkIndex_df160_5 : decode cJ0_checkIndex_df160 5 = .ok (.invokestatic 1059, 3) := by decide +kernel
theorem dJ0_checkIndex_df160_8 : decode cJ0_checkIndex_df160 8 = .ok (.pop, 1) := by decide +kernel
theorem dJ0_checkIndex_df160_9 : decode cJ0_checkIndex_df160 9 = .ok (.return_, 1) := by decide +kernel
theorem dJ1_charAt_3b067_0 : decode cJ1_charAt_3b067 0 = .ok (.iload_n 1, 1) := by decide +kernel
theorem dJ1_charAt_3b067_1 : decode cJ1_charAt_3b067 1 = .ok (.aload_n 0, 1) := by decide +kernel
theorem dJ1_charAt_3b067_2 : decode cJ1_charAt_3b067 2 = .ok (.arraylength, 1) := by decide +kernel
theorem dJ1_charAt_3b067_3 : decode cJ1_charAt_3b067 3 = .ok (.invokestatic 9, 3) := by decide +kernel
theorem dJ1_charAt_3b067_6 : decode cJ1_charAt_3b067 6 = .ok (.aload_n 0, 1) := by decide +kernel
theorem dJ1_charAt_3b067_7 : decode cJ1_charAt_3b067 7 = .ok (.iload_n 1, 1) := by decide +kernel
theorem dJ1_charAt_3b067_8 : decode cJ1_charAt_3b067 8 = .ok (.baload, 1) := by decide +kernel
theorem dJ1_charAt_3b067_9 : decode cJ1_charAt_3b067 9 = .ok (.sipush 255, 3) := by decide +kernel
theorem dJ1_charAt_3b067_12 : decode cJ1_charAt_3b067 12 = .ok (.iand, 1) := by decide +kernel
theorem dJ1_charAt_3b067_13 : decode cJ1_charAt_3b067 13 = .ok (.i2c, 1) := by decide +kernel
theorem dJ1_charAt_3b067_14 : decode cJ1_charAt_3b067 14 = .ok (.ireturn, 1) := by decide +kernel
theorem dJ2_getChar_3b067_0 : decode cJ2_getChar_3b067 0 = .ok (.getstatic 44, 3) := by decide +kernel
theorem dJ2_getChar_3b067_3 : decode cJ2_getChar_3b067 3 = .ok (.ifCond .ne 25, 3) := by decide +kernel
theorem dJ2_getChar_3b067_6 : decode cJ2_getChar_3b067 6 = .ok (.iload_n 1, 1) := by decide +kernel
theorem dJ2_getChar_3b067_7 : decode cJ2_getChar_3b067 7 = .ok (.ifCond .lt 11, 3) := by decide +kernel
theorem dJ2_getChar_3b067_10 : decode cJ2_getChar_3b067 10 = .ok (.iload_n 1, 1) := by decide +kernel
theorem dJ2_getChar_3b067_11 : decode cJ2_getChar_3b067 11 = .ok (.aload_n 0, 1) := by decide +kernel
theorem dJ2_getChar_3b067_12 : decode cJ2_getChar_3b067 12 = .ok (.invokestatic 48, 3) := by decide +kernel
theorem dJ2_getChar_3b067_15 : decode cJ2_getChar_3b067 15 = .ok (.if_icmp .lt 13, 3) := by decide +kernel
theorem dJ2_getChar_3b067_18 : decode cJ2_getChar_3b067 18 = .ok (.new 52, 3) := by decide +kernel
theorem dJ2_getChar_3b067_21 : decode cJ2_getChar_3b067 21 = .ok (.dup, 1) := by decide +kernel
theorem dJ2_getChar_3b067_22 : decode cJ2_getChar_3b067 22 = .ok (.ldc 54, 2) := by decide +kernel
theorem dJ2_getChar_3b067_24 : decode cJ2_getChar_3b067 24 = .ok (.invokespecial 56, 3) := by decide +kernel
theorem dJ2_getChar_3b067_27 : decode cJ2_getChar_3b067 27 = .ok (.athrow, 1) := by decide +kernel
theorem dJ2_getChar_3b067_28 : decode cJ2_getChar_3b067 28 = .ok (.iload_n 1, 1) := by decide +kernel
theorem dJ2_getChar_3b067_29 : decode cJ2_getChar_3b067 29 = .ok (.iconst 1, 1) := by decide +kernel
theorem dJ2_getChar_3b067_30 : decode cJ2_getChar_3b067 30 = .ok (.ishl, 1) := by decide +kernel
theorem dJ2_getChar_3b067_31 : decode cJ2_getChar_3b067 31 = .ok (.istore_n 1, 1) := by decide +kernel
theorem dJ2_getChar_3b067_32 : decode cJ2_getChar_3b067 32 = .ok (.aload_n 0, 1) := by decide +kernel
theorem dJ2_getChar_3b067_33 : decode cJ2_getChar_3b067 33 = .ok (.iload_n 1, 1) := by decide +kernel
theorem dJ2_getChar_3b067_34 : decode cJ2_getChar_3b067 34 = .ok (.iinc 1 1, 3) := by decide +kernel
theorem dJ2_getChar_3b067_37 : decode cJ2_getChar_3b067 37 = .ok (.baload, 1) := by decide +kernel
theorem dJ2_getChar_3b067_38 : decode cJ2_getChar_3b067 38 = .ok (.sipush 255, 3) := by decide +kernel
theorem dJ2_getChar_3b067_41 : decode cJ2_getChar_3b067 41 = .ok (.iand, 1) := by decide +kernel
theorem dJ2_getChar_3b067_42 : decode cJ2_getChar_3b067 42 = .ok (.getstatic 59, 3) := by decide +kernel
theorem dJ2_getChar_3b067_45 : decode cJ2_getChar_3b067 45 = .ok (.ishl, 1) := by decide +kernel
theorem dJ2_getChar_3b067_46 : decode cJ2_getChar_3b067 46 = .ok (.aload_n 0, 1) := by decide +kernel
theorem dJ2_getChar_3b067_47 : decode cJ2_getChar_3b067 47 = .ok (.iload_n 1, 1) := by decide +kernel
theorem dJ2_getChar_3b067_48 : decode cJ2_getChar_3b067 48 = .ok (.baload, 1) := by decide +kernel
theorem dJ2_getChar_3b067_49 : decode cJ2_getChar_3b067 49 = .ok (.sipush 255, 3) := by decide +kernel
theorem dJ2_getChar_3b067_52 : decode cJ2_getChar_3b067 52 = .ok (.iand, 1) := by decide +kernel
theorem dJ2_getChar_3b067_53 : decode cJ2_getChar_3b067 53 = .ok (.getstatic 63, 3) := by decide +kernel
theorem dJ2_getChar_3b067_56 : decode cJ2_getChar_3b067 56 = .ok (.ishl, 1) := by decide +kernel
theorem dJ2_getChar_3b067_57 : decode cJ2_getChar_3b067 57 = .ok (.ior, 1) := by decide +kernel
theorem dJ2_getChar_3b067_58 : decode cJ2_getChar_3b067 58 = .ok (.i2c, 1) := by decide +kernel
theorem dJ2_getChar_3b067_59 : decode cJ2_getChar_3b067 59 = .ok (.ireturn, 1) := by decide +kernel
theorem dJ2_length_9d52b_0 : decode cJ2_length_9d52b 0 = .ok (.aload_n 0, 1) := by decide +kernel
theorem dJ2_length_9d52b_1 : decode cJ2_length_9d52b 1 = .ok (.arraylength, 1) := by decide +kernel
theorem dJ2_length_9d52b_2 : decode cJ2_length_9d52b 2 = .ok (.iconst 1, 1) := by decide +kernel
theorem dJ2_length_9d52b_3 : decode cJ2_length_9d52b 3 = .ok (.ishr, 1) := by decide +kernel
theorem dJ2_length_9d52b_4 : decode cJ2_length_9d52b 4 = .ok (.ireturn, 1) := by decide +kernel
theorem dJ2_charAt_3b067_0 : decode cJ2_charAt_3b067 0 = .ok (.iload_n 1, 1) := by decide +kernel
theorem dJ2_charAt_3b067_1 : decode cJ2_charAt_3b067 1 = .ok (.aload_n 0, 1) := by decide +kernel
theorem dJ2_charAt_3b067_2 : decode cJ2_charAt_3b067 2 = .ok (.invokestatic 67, 3) := by decide +kernel
theorem dJ2_charAt_3b067_5 : decode cJ2_charAt_3b067 5 = .ok (.aload_n 0, 1) := by decide +kernel
theorem dJ2_charAt_3b067_6 : decode cJ2_charAt_3b067 6 = .ok (.iload_n 1, 1) := by decide +kernel
theorem dJ2_charAt_3b067_7 : decode cJ2_charAt_3b067 7 = .ok (.invokestatic 71, 3) := by decide +kernel
theorem dJ2_charAt_3b067_10 : decode cJ2_charAt_3b067 10 = .ok (.ireturn, 1) := by decide +kernel
theorem dJ2_checkIndex_2214a_0 : decode cJ2_checkIndex_2214a 0 = .ok (.iload_n 0, 1) := by decide +kernel
theorem dJ2_checkIndex_2214a_1 : decode cJ2_checkIndex_2214a 1 = .ok (.aload_n 1, 1) := by decide +kernel
theorem dJ2_checkIndex_2214a_2 : decode cJ2_checkIndex_2214a 2 = .ok (.invokestatic 48, 3) := by decide +kernel
theorem dJ2_checkIndex_2214a_5 : decode cJ2_checkIndex_2214a 5 = .ok (.invokestatic 414, 3) := by decide +kernel
theorem dJ2_checkIndex_2214a_8 : decode cJ2_checkIndex_2214a 8 = .ok (.return_, 1) := by decide +kernel
theorem dJ7_fill_53178_0 : decode cJ7_fill_53178 0 = .ok (.iconst 0, 1) := by decide +kernel
theorem dJ7_fill_53178_1 : decode cJ7_fill_53178 1 = .ok (.istore_n 2, 1) := by decide +kernel
theorem dJ7_fill_53178_2 : decode cJ7_fill_53178 2 = .ok (.aload_n 0, 1) := by decide +kernel
theorem dJ7_fill_53178_3 : decode cJ7_fill_53178 3 = .ok (.arraylength, 1) := by decide +kernel
theorem dJ7_fill_53178_4 : decode cJ7_fill_53178 4 = .ok (.istore_n 3, 1) := by decide +kernel
theorem dJ7_fill_53178_5 : decode cJ7_fill_53178 5 = .ok (.iload_n 2, 1) := by decide +kernel
theorem dJ7_fill_53178_6 : decode cJ7_fill_53178 6 = .ok (.iload_n 3, 1) := by decide +kernel
theorem dJ7_fill_53178_7 : decode cJ7_fill_53178 7 = .ok (.if_icmp .ge 13, 3) := by decide +kernel
theorem dJ7_fill_53178_10 : decode cJ7_fill_53178 10 = .ok (.aload_n 0, 1) := by decide +kernel
theorem dJ7_fill_53178_11 : decode cJ7_fill_53178 11 = .ok (.iload_n 2, 1) := by decide +kernel
theorem dJ7_fill_53178_12 : decode cJ7_fill_53178 12 = .ok (.iload_n 1, 1) := by decide +kernel
theorem dJ7_fill_53178_13 : decode cJ7_fill_53178 13 = .ok (.iastore, 1) := by decide +kernel
theorem dJ7_fill_53178_14 : decode cJ7_fill_53178 14 = .ok (.iinc 2 1, 3) := by decide +kernel
theorem dJ7_fill_53178_17 : decode cJ7_fill_53178 17 = .ok (.goto (-12), 3) := by decide +kernel
theorem dJ7_fill_53178_20 : decode cJ7_fill_53178 20 = .ok (.return_, 1) := by decide +kernel
theorem dJ3_checkIndex_8e157_0 : decode cJ3_checkIndex_8e157 0 = .ok (.iload_n 0, 1) := by decide +kernel
theorem dJ3_checkIndex_8e157_1 : decode cJ3_checkIndex_8e157 1 = .ok (.ifCond .lt 8, 3) := by decide +kernel
theorem dJ3_checkIndex_8e157_4 : decode cJ3_checkIndex_8e157 4 = .ok (.iload_n 0, 1) := by decide +kernel
theorem dJ3_checkIndex_8e157_5 : decode cJ3_checkIndex_8e157 5 = .ok (.iload_n 1, 1) := by decide +kernel
theorem dJ3_checkIndex_8e157_6 : decode cJ3_checkIndex_8e157 6 = .ok (.if_icmp .lt 10, 3) := by decide +kernel
theorem dJ3_checkIndex_8e157_9 : decode cJ3_checkIndex_8e157 9 = .ok (.aload_n 2, 1) := by decide +kernel
theorem dJ3_checkIndex_8e157_10 : decode cJ3_checkIndex_8e157 10 = .ok (.iload_n 0, 1) := by decide +kernel
theorem dJ3_checkIndex_8e157_11 : decode cJ3_checkIndex_8e157 11 = .ok (.iload_n 1, 1) := by decide +kernel
theorem dJ3_checkIndex_8e157_12 : decode cJ3_checkIndex_8e157 12 = .ok (.invokestatic 95, 3) := by decide +kernel
theorem dJ3_checkIndex_8e157_15 : decode cJ3_checkIndex_8e157 15 = .ok (.athrow, 1) := by decide +kernel
theorem dJ3_checkIndex_8e157_16 : decode cJ3_checkIndex_8e157 16 = .ok (.iload_n 0, 1) := by decide +kernel
theorem dJ3_checkIndex_8e157_17 : decode cJ3_checkIndex_8e157 17 = .ok (.ireturn, 1) := by decide +kernel
