-- ===== PART A: goes FIRST, ahead of the names: the tables' words, and 'selects' of the private methods out of them =====
/-- a private method of a class that the tables say can be made, by its rows of tables_1 -/
def lw_okq (q : MethodName × Nat) : Prop := (q.1.cls ≠ "java/lang/invoke/MethodHandle" ∧ q.1.cls ≠ "java/lang/invoke/VarHandle") ∧ Cond.instantiable q.1.cls q.2 ∈ tables_1 ∧ Cond.privateMethod q.1 ∈ tables_1 ∧ Cond.instanceMethod q.1 ∈ tables_1
theorem lw_p0 : lw_okq (⟨"AlmanacHouse$Calendars", "startOfRow", "(I)I"⟩, 3) := ⟨⟨by decide +kernel, by decide +kernel⟩, List.mem_of_getElem? (i := 27) (by decide +kernel), List.mem_of_getElem? (i := 273) (by decide +kernel), List.mem_of_getElem? (i := 274) (by decide +kernel)⟩
theorem lw_p1 : lw_okq (⟨"AlmanacHouse$Calendars", "monthDays", "(IIII)I"⟩, 3) := ⟨⟨by decide +kernel, by decide +kernel⟩, List.mem_of_getElem? (i := 27) (by decide +kernel), List.mem_of_getElem? (i := 284) (by decide +kernel), List.mem_of_getElem? (i := 285) (by decide +kernel)⟩
theorem lw_p2 : lw_okq (⟨"AlmanacHouse$Calendars", "monthsAhead", "(II)I"⟩, 3) := ⟨⟨by decide +kernel, by decide +kernel⟩, List.mem_of_getElem? (i := 27) (by decide +kernel), List.mem_of_getElem? (i := 365) (by decide +kernel), List.mem_of_getElem? (i := 366) (by decide +kernel)⟩
theorem lw_p3 : lw_okq (⟨"AlmanacHouse$Calendars", "yearOfMonth", "(II)I"⟩, 3) := ⟨⟨by decide +kernel, by decide +kernel⟩, List.mem_of_getElem? (i := 27) (by decide +kernel), List.mem_of_getElem? (i := 377) (by decide +kernel), List.mem_of_getElem? (i := 378) (by decide +kernel)⟩
theorem lw_p4 : lw_okq (⟨"AlmanacHouse", "wholeYears", "(III)I"⟩, 7) := ⟨⟨by decide +kernel, by decide +kernel⟩, List.mem_of_getElem? (i := 19) (by decide +kernel), List.mem_of_getElem? (i := 395) (by decide +kernel), List.mem_of_getElem? (i := 396) (by decide +kernel)⟩
theorem lw_p5 : lw_okq (⟨"AlmanacHouse", "wholeMonths", "(III)I"⟩, 7) := ⟨⟨by decide +kernel, by decide +kernel⟩, List.mem_of_getElem? (i := 19) (by decide +kernel), List.mem_of_getElem? (i := 403) (by decide +kernel), List.mem_of_getElem? (i := 404) (by decide +kernel)⟩
theorem lw_p6 : lw_okq (⟨"AlmanacHouse$Feasts", "changed", "()V"⟩, 14) := ⟨⟨by decide +kernel, by decide +kernel⟩, List.mem_of_getElem? (i := 72) (by decide +kernel), List.mem_of_getElem? (i := 481) (by decide +kernel), List.mem_of_getElem? (i := 482) (by decide +kernel)⟩
theorem lw_p7 : lw_okq (⟨"AlmanacHouse$Feasts", "sortByRank", "()V"⟩, 14) := ⟨⟨by decide +kernel, by decide +kernel⟩, List.mem_of_getElem? (i := 72) (by decide +kernel), List.mem_of_getElem? (i := 485) (by decide +kernel), List.mem_of_getElem? (i := 486) (by decide +kernel)⟩
theorem lw_p8 : lw_okq (⟨"AlmanacHouse$Feasts", "ruleDay", "(II)I"⟩, 14) := ⟨⟨by decide +kernel, by decide +kernel⟩, List.mem_of_getElem? (i := 72) (by decide +kernel), List.mem_of_getElem? (i := 501) (by decide +kernel), List.mem_of_getElem? (i := 502) (by decide +kernel)⟩
theorem lw_p9 : lw_okq (⟨"AlmanacHouse$Feasts", "fixedDay", "(IIII)I"⟩, 14) := ⟨⟨by decide +kernel, by decide +kernel⟩, List.mem_of_getElem? (i := 72) (by decide +kernel), List.mem_of_getElem? (i := 505) (by decide +kernel), List.mem_of_getElem? (i := 506) (by decide +kernel)⟩
theorem lw_p10 : lw_okq (⟨"AlmanacHouse$Feasts", "weekdayDay", "(IIII)I"⟩, 14) := ⟨⟨by decide +kernel, by decide +kernel⟩, List.mem_of_getElem? (i := 72) (by decide +kernel), List.mem_of_getElem? (i := 515) (by decide +kernel), List.mem_of_getElem? (i := 516) (by decide +kernel)⟩
theorem lw_p11 : lw_okq (⟨"AlmanacHouse$Feasts", "settle", "(I)I"⟩, 14) := ⟨⟨by decide +kernel, by decide +kernel⟩, List.mem_of_getElem? (i := 72) (by decide +kernel), List.mem_of_getElem? (i := 535) (by decide +kernel), List.mem_of_getElem? (i := 536) (by decide +kernel)⟩
theorem lw_p12 : lw_okq (⟨"AlmanacHouse$Parishes", "markFeasts", "(II)V"⟩, 14) := ⟨⟨by decide +kernel, by decide +kernel⟩, List.mem_of_getElem? (i := 125) (by decide +kernel), List.mem_of_getElem? (i := 669) (by decide +kernel), List.mem_of_getElem? (i := 670) (by decide +kernel)⟩
theorem lw_p13 : lw_okq (⟨"AlmanacHouse$Parishes", "isFree", "(I)Z"⟩, 14) := ⟨⟨by decide +kernel, by decide +kernel⟩, List.mem_of_getElem? (i := 125) (by decide +kernel), List.mem_of_getElem? (i := 680) (by decide +kernel), List.mem_of_getElem? (i := 681) (by decide +kernel)⟩
theorem lw_p14 : lw_okq (⟨"AlmanacHouse", "writeDays", "(III)V"⟩, 7) := ⟨⟨by decide +kernel, by decide +kernel⟩, List.mem_of_getElem? (i := 19) (by decide +kernel), List.mem_of_getElem? (i := 767) (by decide +kernel), List.mem_of_getElem? (i := 768) (by decide +kernel)⟩
theorem lw_p15 : lw_okq (⟨"AlmanacHouse", "writeFeasts", "(IIII)I"⟩, 7) := ⟨⟨by decide +kernel, by decide +kernel⟩, List.mem_of_getElem? (i := 19) (by decide +kernel), List.mem_of_getElem? (i := 783) (by decide +kernel), List.mem_of_getElem? (i := 784) (by decide +kernel)⟩
def lw_privs_1 : List (MethodName × Nat) := [(⟨"AlmanacHouse$Calendars", "startOfRow", "(I)I"⟩, 3), (⟨"AlmanacHouse$Calendars", "monthDays", "(IIII)I"⟩, 3), (⟨"AlmanacHouse$Calendars", "monthsAhead", "(II)I"⟩, 3), (⟨"AlmanacHouse$Calendars", "yearOfMonth", "(II)I"⟩, 3), (⟨"AlmanacHouse", "wholeYears", "(III)I"⟩, 7), (⟨"AlmanacHouse", "wholeMonths", "(III)I"⟩, 7), (⟨"AlmanacHouse$Feasts", "changed", "()V"⟩, 14), (⟨"AlmanacHouse$Feasts", "sortByRank", "()V"⟩, 14), (⟨"AlmanacHouse$Feasts", "ruleDay", "(II)I"⟩, 14), (⟨"AlmanacHouse$Feasts", "fixedDay", "(IIII)I"⟩, 14), (⟨"AlmanacHouse$Feasts", "weekdayDay", "(IIII)I"⟩, 14), (⟨"AlmanacHouse$Feasts", "settle", "(I)I"⟩, 14), (⟨"AlmanacHouse$Parishes", "markFeasts", "(II)V"⟩, 14), (⟨"AlmanacHouse$Parishes", "isFree", "(I)Z"⟩, 14), (⟨"AlmanacHouse", "writeDays", "(III)V"⟩, 7), (⟨"AlmanacHouse", "writeFeasts", "(IIII)I"⟩, 7)]
theorem lw_r1 : ∀ q ∈ lw_privs_1, lw_okq q := List.forall_mem_cons.mpr ⟨lw_p0, List.forall_mem_cons.mpr ⟨lw_p1, List.forall_mem_cons.mpr ⟨lw_p2, List.forall_mem_cons.mpr ⟨lw_p3, List.forall_mem_cons.mpr ⟨lw_p4, List.forall_mem_cons.mpr ⟨lw_p5, List.forall_mem_cons.mpr ⟨lw_p6, List.forall_mem_cons.mpr ⟨lw_p7, List.forall_mem_cons.mpr ⟨lw_p8, List.forall_mem_cons.mpr ⟨lw_p9, List.forall_mem_cons.mpr ⟨lw_p10, List.forall_mem_cons.mpr ⟨lw_p11, List.forall_mem_cons.mpr ⟨lw_p12, List.forall_mem_cons.mpr ⟨lw_p13, List.forall_mem_cons.mpr ⟨lw_p14, List.forall_mem_cons.mpr ⟨lw_p15, fun _ h => absurd h List.not_mem_nil⟩⟩⟩⟩⟩⟩⟩⟩⟩⟩⟩⟩⟩⟩⟩⟩
theorem lw_p16 : lw_okq (⟨"AlmanacHouse$Tape", "numberAt", "(II)I"⟩, 2) := ⟨⟨by decide +kernel, by decide +kernel⟩, List.mem_of_getElem? (i := 189) (by decide +kernel), List.mem_of_getElem? (i := 839) (by decide +kernel), List.mem_of_getElem? (i := 840) (by decide +kernel)⟩
theorem lw_p17 : lw_okq (⟨"AlmanacHouseModel", "isMonth", "(III)Z"⟩, 35) := ⟨⟨by decide +kernel, by decide +kernel⟩, List.mem_of_getElem? (i := 876) (by decide +kernel), List.mem_of_getElem? (i := 998) (by decide +kernel), List.mem_of_getElem? (i := 999) (by decide +kernel)⟩
theorem lw_p18 : lw_okq (⟨"AlmanacHouseModel", "isYear", "(II)Z"⟩, 35) := ⟨⟨by decide +kernel, by decide +kernel⟩, List.mem_of_getElem? (i := 876) (by decide +kernel), List.mem_of_getElem? (i := 1002) (by decide +kernel), List.mem_of_getElem? (i := 1003) (by decide +kernel)⟩
theorem lw_p19 : lw_okq (⟨"AlmanacHouseModel", "monthsIn", "(II)I"⟩, 35) := ⟨⟨by decide +kernel, by decide +kernel⟩, List.mem_of_getElem? (i := 876) (by decide +kernel), List.mem_of_getElem? (i := 1009) (by decide +kernel), List.mem_of_getElem? (i := 1010) (by decide +kernel)⟩
theorem lw_p20 : lw_okq (⟨"AlmanacHouseModel", "lengthOf", "(III)I"⟩, 35) := ⟨⟨by decide +kernel, by decide +kernel⟩, List.mem_of_getElem? (i := 876) (by decide +kernel), List.mem_of_getElem? (i := 1034) (by decide +kernel), List.mem_of_getElem? (i := 1035) (by decide +kernel)⟩
theorem lw_p21 : lw_okq (⟨"AlmanacHouseModel", "monthStart", "(III)I"⟩, 35) := ⟨⟨by decide +kernel, by decide +kernel⟩, List.mem_of_getElem? (i := 876) (by decide +kernel), List.mem_of_getElem? (i := 1041) (by decide +kernel), List.mem_of_getElem? (i := 1042) (by decide +kernel)⟩
theorem lw_p22 : lw_okq (⟨"AlmanacHouseModel", "find", "(II)Z"⟩, 35) := ⟨⟨by decide +kernel, by decide +kernel⟩, List.mem_of_getElem? (i := 876) (by decide +kernel), List.mem_of_getElem? (i := 1053) (by decide +kernel), List.mem_of_getElem? (i := 1054) (by decide +kernel)⟩
theorem lw_p23 : lw_okq (⟨"AlmanacHouseModel", "added", "(IIIIZ)I"⟩, 35) := ⟨⟨by decide +kernel, by decide +kernel⟩, List.mem_of_getElem? (i := 876) (by decide +kernel), List.mem_of_getElem? (i := 1077) (by decide +kernel), List.mem_of_getElem? (i := 1078) (by decide +kernel)⟩
theorem lw_p24 : lw_okq (⟨"AlmanacHouseModel", "cut", "(IIII)I"⟩, 35) := ⟨⟨by decide +kernel, by decide +kernel⟩, List.mem_of_getElem? (i := 876) (by decide +kernel), List.mem_of_getElem? (i := 1081) (by decide +kernel), List.mem_of_getElem? (i := 1082) (by decide +kernel)⟩
theorem lw_p25 : lw_okq (⟨"AlmanacHouseModel", "monthsOn", "(II)I"⟩, 35) := ⟨⟨by decide +kernel, by decide +kernel⟩, List.mem_of_getElem? (i := 876) (by decide +kernel), List.mem_of_getElem? (i := 1085) (by decide +kernel), List.mem_of_getElem? (i := 1086) (by decide +kernel)⟩
theorem lw_p26 : lw_okq (⟨"AlmanacHouseModel", "laid", "(I)V"⟩, 35) := ⟨⟨by decide +kernel, by decide +kernel⟩, List.mem_of_getElem? (i := 876) (by decide +kernel), List.mem_of_getElem? (i := 1105) (by decide +kernel), List.mem_of_getElem? (i := 1106) (by decide +kernel)⟩
theorem lw_p27 : lw_okq (⟨"AlmanacHouseModel", "namedBy", "(IJ)I"⟩, 35) := ⟨⟨by decide +kernel, by decide +kernel⟩, List.mem_of_getElem? (i := 876) (by decide +kernel), List.mem_of_getElem? (i := 1113) (by decide +kernel), List.mem_of_getElem? (i := 1114) (by decide +kernel)⟩
theorem lw_p28 : lw_okq (⟨"AlmanacHouseModel", "isFeast", "(I)Z"⟩, 35) := ⟨⟨by decide +kernel, by decide +kernel⟩, List.mem_of_getElem? (i := 876) (by decide +kernel), List.mem_of_getElem? (i := 1129) (by decide +kernel), List.mem_of_getElem? (i := 1130) (by decide +kernel)⟩
theorem lw_p29 : lw_okq (⟨"AlmanacHouseModel", "forget", "()V"⟩, 35) := ⟨⟨by decide +kernel, by decide +kernel⟩, List.mem_of_getElem? (i := 876) (by decide +kernel), List.mem_of_getElem? (i := 1133) (by decide +kernel), List.mem_of_getElem? (i := 1134) (by decide +kernel)⟩
theorem lw_p30 : lw_okq (⟨"AlmanacHouseModel", "movableDay", "(II)I"⟩, 35) := ⟨⟨by decide +kernel, by decide +kernel⟩, List.mem_of_getElem? (i := 876) (by decide +kernel), List.mem_of_getElem? (i := 1141) (by decide +kernel), List.mem_of_getElem? (i := 1142) (by decide +kernel)⟩
theorem lw_p31 : lw_okq (⟨"AlmanacHouseModel", "kept", "(I)I"⟩, 35) := ⟨⟨by decide +kernel, by decide +kernel⟩, List.mem_of_getElem? (i := 876) (by decide +kernel), List.mem_of_getElem? (i := 1149) (by decide +kernel), List.mem_of_getElem? (i := 1150) (by decide +kernel)⟩
def lw_privs_2 : List (MethodName × Nat) := [(⟨"AlmanacHouse$Tape", "numberAt", "(II)I"⟩, 2), (⟨"AlmanacHouseModel", "isMonth", "(III)Z"⟩, 35), (⟨"AlmanacHouseModel", "isYear", "(II)Z"⟩, 35), (⟨"AlmanacHouseModel", "monthsIn", "(II)I"⟩, 35), (⟨"AlmanacHouseModel", "lengthOf", "(III)I"⟩, 35), (⟨"AlmanacHouseModel", "monthStart", "(III)I"⟩, 35), (⟨"AlmanacHouseModel", "find", "(II)Z"⟩, 35), (⟨"AlmanacHouseModel", "added", "(IIIIZ)I"⟩, 35), (⟨"AlmanacHouseModel", "cut", "(IIII)I"⟩, 35), (⟨"AlmanacHouseModel", "monthsOn", "(II)I"⟩, 35), (⟨"AlmanacHouseModel", "laid", "(I)V"⟩, 35), (⟨"AlmanacHouseModel", "namedBy", "(IJ)I"⟩, 35), (⟨"AlmanacHouseModel", "isFeast", "(I)Z"⟩, 35), (⟨"AlmanacHouseModel", "forget", "()V"⟩, 35), (⟨"AlmanacHouseModel", "movableDay", "(II)I"⟩, 35), (⟨"AlmanacHouseModel", "kept", "(I)I"⟩, 35)]
theorem lw_r2 : ∀ q ∈ lw_privs_2, lw_okq q := List.forall_mem_cons.mpr ⟨lw_p16, List.forall_mem_cons.mpr ⟨lw_p17, List.forall_mem_cons.mpr ⟨lw_p18, List.forall_mem_cons.mpr ⟨lw_p19, List.forall_mem_cons.mpr ⟨lw_p20, List.forall_mem_cons.mpr ⟨lw_p21, List.forall_mem_cons.mpr ⟨lw_p22, List.forall_mem_cons.mpr ⟨lw_p23, List.forall_mem_cons.mpr ⟨lw_p24, List.forall_mem_cons.mpr ⟨lw_p25, List.forall_mem_cons.mpr ⟨lw_p26, List.forall_mem_cons.mpr ⟨lw_p27, List.forall_mem_cons.mpr ⟨lw_p28, List.forall_mem_cons.mpr ⟨lw_p29, List.forall_mem_cons.mpr ⟨lw_p30, List.forall_mem_cons.mpr ⟨lw_p31, fun _ h => absurd h List.not_mem_nil⟩⟩⟩⟩⟩⟩⟩⟩⟩⟩⟩⟩⟩⟩⟩⟩
theorem lw_p32 : lw_okq (⟨"AlmanacHouseModel", "place", "(II)V"⟩, 35) := ⟨⟨by decide +kernel, by decide +kernel⟩, List.mem_of_getElem? (i := 876) (by decide +kernel), List.mem_of_getElem? (i := 1153) (by decide +kernel), List.mem_of_getElem? (i := 1154) (by decide +kernel)⟩
theorem lw_p33 : lw_okq (⟨"AlmanacHouseModel", "fixed", "(IIII)I"⟩, 35) := ⟨⟨by decide +kernel, by decide +kernel⟩, List.mem_of_getElem? (i := 876) (by decide +kernel), List.mem_of_getElem? (i := 1157) (by decide +kernel), List.mem_of_getElem? (i := 1158) (by decide +kernel)⟩
theorem lw_p34 : lw_okq (⟨"AlmanacHouseModel", "weekday", "(IIII)I"⟩, 35) := ⟨⟨by decide +kernel, by decide +kernel⟩, List.mem_of_getElem? (i := 876) (by decide +kernel), List.mem_of_getElem? (i := 1161) (by decide +kernel), List.mem_of_getElem? (i := 1162) (by decide +kernel)⟩
theorem lw_p35 : lw_okq (⟨"AlmanacHouseModel", "isTaken", "(II)Z"⟩, 35) := ⟨⟨by decide +kernel, by decide +kernel⟩, List.mem_of_getElem? (i := 876) (by decide +kernel), List.mem_of_getElem? (i := 1165) (by decide +kernel), List.mem_of_getElem? (i := 1166) (by decide +kernel)⟩
theorem lw_p36 : lw_okq (⟨"AlmanacHouseModel", "feastAt", "(II)I"⟩, 35) := ⟨⟨by decide +kernel, by decide +kernel⟩, List.mem_of_getElem? (i := 876) (by decide +kernel), List.mem_of_getElem? (i := 1177) (by decide +kernel), List.mem_of_getElem? (i := 1178) (by decide +kernel)⟩
theorem lw_p37 : lw_okq (⟨"AlmanacHouseModel", "isParish", "(I)Z"⟩, 35) := ⟨⟨by decide +kernel, by decide +kernel⟩, List.mem_of_getElem? (i := 876) (by decide +kernel), List.mem_of_getElem? (i := 1244) (by decide +kernel), List.mem_of_getElem? (i := 1245) (by decide +kernel)⟩
theorem lw_p38 : lw_okq (⟨"AlmanacHouseModel", "isOffDay", "(II)Z"⟩, 35) := ⟨⟨by decide +kernel, by decide +kernel⟩, List.mem_of_getElem? (i := 876) (by decide +kernel), List.mem_of_getElem? (i := 1252) (by decide +kernel), List.mem_of_getElem? (i := 1253) (by decide +kernel)⟩
theorem lw_p39 : lw_okq (⟨"AlmanacHouseModel", "isFree", "(II)Z"⟩, 35) := ⟨⟨by decide +kernel, by decide +kernel⟩, List.mem_of_getElem? (i := 876) (by decide +kernel), List.mem_of_getElem? (i := 1256) (by decide +kernel), List.mem_of_getElem? (i := 1257) (by decide +kernel)⟩
theorem lw_p40 : lw_okq (⟨"AlmanacHouseModel", "writeNumber", "(III)I"⟩, 35) := ⟨⟨by decide +kernel, by decide +kernel⟩, List.mem_of_getElem? (i := 876) (by decide +kernel), List.mem_of_getElem? (i := 1278) (by decide +kernel), List.mem_of_getElem? (i := 1279) (by decide +kernel)⟩
theorem lw_p41 : lw_okq (⟨"AlmanacHouseModel", "write", "(III)V"⟩, 35) := ⟨⟨by decide +kernel, by decide +kernel⟩, List.mem_of_getElem? (i := 876) (by decide +kernel), List.mem_of_getElem? (i := 1282) (by decide +kernel), List.mem_of_getElem? (i := 1283) (by decide +kernel)⟩
theorem lw_p42 : lw_okq (⟨"AlmanacHouseModel", "writeDay", "(III)V"⟩, 35) := ⟨⟨by decide +kernel, by decide +kernel⟩, List.mem_of_getElem? (i := 876) (by decide +kernel), List.mem_of_getElem? (i := 1289) (by decide +kernel), List.mem_of_getElem? (i := 1290) (by decide +kernel)⟩
theorem lw_p43 : lw_okq (⟨"AlmanacHouseModel", "put", "(I)V"⟩, 35) := ⟨⟨by decide +kernel, by decide +kernel⟩, List.mem_of_getElem? (i := 876) (by decide +kernel), List.mem_of_getElem? (i := 1305) (by decide +kernel), List.mem_of_getElem? (i := 1306) (by decide +kernel)⟩
theorem lw_p44 : lw_okq (⟨"AlmanacHouseModel", "sum", "(II)I"⟩, 35) := ⟨⟨by decide +kernel, by decide +kernel⟩, List.mem_of_getElem? (i := 876) (by decide +kernel), List.mem_of_getElem? (i := 1309) (by decide +kernel), List.mem_of_getElem? (i := 1310) (by decide +kernel)⟩
def lw_privs_3 : List (MethodName × Nat) := [(⟨"AlmanacHouseModel", "place", "(II)V"⟩, 35), (⟨"AlmanacHouseModel", "fixed", "(IIII)I"⟩, 35), (⟨"AlmanacHouseModel", "weekday", "(IIII)I"⟩, 35), (⟨"AlmanacHouseModel", "isTaken", "(II)Z"⟩, 35), (⟨"AlmanacHouseModel", "feastAt", "(II)I"⟩, 35), (⟨"AlmanacHouseModel", "isParish", "(I)Z"⟩, 35), (⟨"AlmanacHouseModel", "isOffDay", "(II)Z"⟩, 35), (⟨"AlmanacHouseModel", "isFree", "(II)Z"⟩, 35), (⟨"AlmanacHouseModel", "writeNumber", "(III)I"⟩, 35), (⟨"AlmanacHouseModel", "write", "(III)V"⟩, 35), (⟨"AlmanacHouseModel", "writeDay", "(III)V"⟩, 35), (⟨"AlmanacHouseModel", "put", "(I)V"⟩, 35), (⟨"AlmanacHouseModel", "sum", "(II)I"⟩, 35)]
theorem lw_r3 : ∀ q ∈ lw_privs_3, lw_okq q := List.forall_mem_cons.mpr ⟨lw_p32, List.forall_mem_cons.mpr ⟨lw_p33, List.forall_mem_cons.mpr ⟨lw_p34, List.forall_mem_cons.mpr ⟨lw_p35, List.forall_mem_cons.mpr ⟨lw_p36, List.forall_mem_cons.mpr ⟨lw_p37, List.forall_mem_cons.mpr ⟨lw_p38, List.forall_mem_cons.mpr ⟨lw_p39, List.forall_mem_cons.mpr ⟨lw_p40, List.forall_mem_cons.mpr ⟨lw_p41, List.forall_mem_cons.mpr ⟨lw_p42, List.forall_mem_cons.mpr ⟨lw_p43, List.forall_mem_cons.mpr ⟨lw_p44, fun _ h => absurd h List.not_mem_nil⟩⟩⟩⟩⟩⟩⟩⟩⟩⟩⟩⟩⟩
def lw_privs : List (MethodName × Nat) := lw_privs_1 ++ (lw_privs_2 ++ (lw_privs_3))
def lw_tbl : List Cond := k2_sels lw_privs ++ tables_1
theorem lw_privs_ok : ∀ q ∈ lw_privs, lw_okq q := by
  show ∀ q ∈ lw_privs_1 ++ (lw_privs_2 ++ (lw_privs_3)), lw_okq q
  exact List.forall_mem_append.mpr ⟨lw_r1, List.forall_mem_append.mpr ⟨lw_r2, lw_r3⟩⟩
/-- the streams that the claim lets the run draw from -/
abbrev lw_cs : List Choice := [Jvm.Choice.named "NaN.bits"]
theorem lw_bits : nanBits ∈ lw_cs := by first | decide | exact List.mem_cons_self | simp [lw_cs, nanBits]
def RX0 : String := "AlmanacHouse$Calendars"
def TX0 : u_T := fun k => match k with
  | 0 => ("AlmanacHouse$Calendars", "countedStart", "[I", true)
  | 1 => ("AlmanacHouse$Calendars", "rowStart", "[I", true)
  | _ => ("AlmanacHouse$Calendars", "rowCount", "I", false)
def tyX0 : Nat → FieldType := fun k => match k with
  | 0 => .array .int
  | 1 => .array .int
  | _ => .int
theorem nmX0 : ∀ a, a < 3 → ∀ b, b < 3 → a ≠ b → (TX0 a).2.1 ≠ (TX0 b).2.1 := by decide +kernel
theorem tyX0_ok : ∀ k, k < 3 → parseFieldDescriptor (TX0 k).2.2.1 = some (tyX0 k) := by decide +kernel
abbrev cX0_init : ByteArray := prog_2_method_1_code
def yX0_init : MethodName := ⟨RX0, "<init>", "()V"⟩
abbrev cX0_elapsedDays : ByteArray := prog_2_method_2_code
def yX0_elapsedDays : MethodName := ⟨RX0, "elapsedDays", "(I)I"⟩
abbrev cX0_countedYearStart : ByteArray := prog_2_method_3_code
def yX0_countedYearStart : MethodName := ⟨RX0, "countedYearStart", "(I)I"⟩
abbrev cX0_firstYear : ByteArray := prog_2_method_4_code
def yX0_firstYear : MethodName := ⟨RX0, "firstYear", "(I)I"⟩
abbrev cX0_lastYear : ByteArray := prog_2_method_5_code
def yX0_lastYear : MethodName := ⟨RX0, "lastYear", "(I)I"⟩
abbrev cX0_hasYear : ByteArray := prog_2_method_6_code
def yX0_hasYear : MethodName := ⟨RX0, "hasYear", "(II)Z"⟩
abbrev cX0_hasMonth : ByteArray := prog_2_method_7_code
def yX0_hasMonth : MethodName := ⟨RX0, "hasMonth", "(III)Z"⟩
abbrev cX0_hasDate : ByteArray := prog_2_method_8_code
def yX0_hasDate : MethodName := ⟨RX0, "hasDate", "(II)Z"⟩
abbrev cX0_yearStart : ByteArray := prog_2_method_9_code
def yX0_yearStart : MethodName := ⟨RX0, "yearStart", "(II)I"⟩
abbrev cX0_daysInYear : ByteArray := prog_2_method_10_code
def yX0_daysInYear : MethodName := ⟨RX0, "daysInYear", "(II)I"⟩
abbrev cX0_monthsIn : ByteArray := prog_2_method_11_code
def yX0_monthsIn : MethodName := ⟨RX0, "monthsIn", "(II)I"⟩
abbrev cX0_monthsAhead : ByteArray := prog_2_method_12_code
def yX0_monthsAhead : MethodName := ⟨RX0, "monthsAhead", "(II)I"⟩
abbrev cX0_monthsInAll : ByteArray := prog_2_method_13_code
def yX0_monthsInAll : MethodName := ⟨RX0, "monthsInAll", "(I)I"⟩
abbrev cX0_daysInMonth : ByteArray := prog_2_method_14_code
def yX0_daysInMonth : MethodName := ⟨RX0, "daysInMonth", "(III)I"⟩
abbrev cX0_monthDays : ByteArray := prog_2_method_15_code
def yX0_monthDays : MethodName := ⟨RX0, "monthDays", "(IIII)I"⟩
abbrev cX0_sunMonthDays : ByteArray := prog_2_method_16_code
def yX0_sunMonthDays : MethodName := ⟨RX0, "sunMonthDays", "(II)I"⟩
abbrev cX0_countedMonthDays : ByteArray := prog_2_method_17_code
def yX0_countedMonthDays : MethodName := ⟨RX0, "countedMonthDays", "(II)I"⟩
abbrev cX0_evenMonthDays : ByteArray := prog_2_method_18_code
def yX0_evenMonthDays : MethodName := ⟨RX0, "evenMonthDays", "(I)I"⟩
abbrev cX0_monthStart : ByteArray := prog_2_method_19_code
def yX0_monthStart : MethodName := ⟨RX0, "monthStart", "(III)I"⟩
abbrev cX0_yearOf : ByteArray := prog_2_method_20_code
def yX0_yearOf : MethodName := ⟨RX0, "yearOf", "(II)I"⟩
abbrev cX0_yearOfMonth : ByteArray := prog_2_method_21_code
def yX0_yearOfMonth : MethodName := ⟨RX0, "yearOfMonth", "(II)I"⟩
abbrev cX0_monthOf : ByteArray := prog_2_method_22_code
def yX0_monthOf : MethodName := ⟨RX0, "monthOf", "(II)I"⟩
abbrev cX0_dayOf : ByteArray := prog_2_method_23_code
def yX0_dayOf : MethodName := ⟨RX0, "dayOf", "(II)I"⟩
abbrev cX0_weekdayOf : ByteArray := prog_2_method_24_code
def yX0_weekdayOf : MethodName := ⟨RX0, "weekdayOf", "(II)I"⟩
abbrev cX0_monthIndex : ByteArray := prog_2_method_25_code
def yX0_monthIndex : MethodName := ⟨RX0, "monthIndex", "(II)I"⟩
abbrev cX0_dayInMonth : ByteArray := prog_2_method_26_code
def yX0_dayInMonth : MethodName := ⟨RX0, "dayInMonth", "(III)I"⟩
abbrev cX0_anniversary : ByteArray := prog_2_method_27_code
def yX0_anniversary : MethodName := ⟨RX0, "anniversary", "(III)I"⟩
abbrev cX0_firstDayIn : ByteArray := prog_2_method_28_code
def yX0_firstDayIn : MethodName := ⟨RX0, "firstDayIn", "(I)I"⟩
abbrev cX0_lastDayIn : ByteArray := prog_2_method_29_code
def yX0_lastDayIn : MethodName := ⟨RX0, "lastDayIn", "(I)I"⟩
abbrev cX0_movableDay : ByteArray := prog_2_method_30_code
def yX0_movableDay : MethodName := ⟨RX0, "movableDay", "(II)I"⟩
abbrev cX0_oldStyleShift : ByteArray := prog_2_method_31_code
def yX0_oldStyleShift : MethodName := ⟨RX0, "oldStyleShift", "(II)I"⟩
abbrev cX0_newStyleShift : ByteArray := prog_2_method_32_code
def yX0_newStyleShift : MethodName := ⟨RX0, "newStyleShift", "(II)I"⟩
abbrev cX0_startOfRow : ByteArray := prog_2_method_33_code
def yX0_startOfRow : MethodName := ⟨RX0, "startOfRow", "(I)I"⟩
abbrev cX0_mayFollow : ByteArray := prog_2_method_34_code
def yX0_mayFollow : MethodName := ⟨RX0, "mayFollow", "(I)Z"⟩
abbrev cX0_addRow : ByteArray := prog_2_method_35_code
def yX0_addRow : MethodName := ⟨RX0, "addRow", "(II)V"⟩
abbrev cX0_dropRow : ByteArray := prog_2_method_36_code
def yX0_dropRow : MethodName := ⟨RX0, "dropRow", "()V"⟩
def RX1 : String := "AlmanacHouse$Deeds"
def TX1 : u_T := fun k => match k with
  | 0 => ("AlmanacHouse$Deeds", "kinds", "[I", true)
  | 1 => ("AlmanacHouse$Deeds", "next", "I", false)
  | _ => ("AlmanacHouse$Deeds", "left", "I", false)
def tyX1 : Nat → FieldType := fun k => match k with
  | 0 => .array .int
  | 1 => .int
  | _ => .int
theorem nmX1 : ∀ a, a < 3 → ∀ b, b < 3 → a ≠ b → (TX1 a).2.1 ≠ (TX1 b).2.1 := by decide +kernel
theorem tyX1_ok : ∀ k, k < 3 → parseFieldDescriptor (TX1 k).2.2.1 = some (tyX1 k) := by decide +kernel
abbrev cX1_init : ByteArray := prog_3_method_1_code
def yX1_init : MethodName := ⟨RX1, "<init>", "()V"⟩
abbrev cX1_note : ByteArray := prog_3_method_2_code
def yX1_note : MethodName := ⟨RX1, "note", "(I)V"⟩
abbrev cX1_takeBack : ByteArray := prog_3_method_3_code
def yX1_takeBack : MethodName := ⟨RX1, "takeBack", "()I"⟩
def RX2 : String := "AlmanacHouse$Feasts"
def TX2 : u_T := fun k => match k with
  | 0 => ("AlmanacHouse$Feasts", "calendars", "LAlmanacHouse$Calendars;", true)
  | 1 => ("AlmanacHouse$Feasts", "rule", "[I", true)
  | 2 => ("AlmanacHouse$Feasts", "a", "[I", true)
  | 3 => ("AlmanacHouse$Feasts", "b", "[I", true)
  | 4 => ("AlmanacHouse$Feasts", "c", "[I", true)
  | 5 => ("AlmanacHouse$Feasts", "rank", "[I", true)
  | 6 => ("AlmanacHouse$Feasts", "count", "I", false)
  | 7 => ("AlmanacHouse$Feasts", "order", "[I", true)
  | 8 => ("AlmanacHouse$Feasts", "slotYear", "[I", true)
  | 9 => ("AlmanacHouse$Feasts", "unmoved", "[I", true)
  | 10 => ("AlmanacHouse$Feasts", "placed", "[I", true)
  | 11 => ("AlmanacHouse$Feasts", "slotStart", "I", false)
  | 12 => ("AlmanacHouse$Feasts", "taken", "[I", true)
  | _ => ("AlmanacHouse$Feasts", "takenCount", "I", false)
def tyX2 : Nat → FieldType := fun k => match k with
  | 0 => .object "AlmanacHouse$Calendars"
  | 1 => .array .int
  | 2 => .array .int
  | 3 => .array .int
  | 4 => .array .int
  | 5 => .array .int
  | 6 => .int
  | 7 => .array .int
  | 8 => .array .int
  | 9 => .array .int
  | 10 => .array .int
  | 11 => .int
  | 12 => .array .int
  | _ => .int
theorem nmX2 : ∀ a, a < 14 → ∀ b, b < 14 → a ≠ b → (TX2 a).2.1 ≠ (TX2 b).2.1 := by decide +kernel
theorem tyX2_ok : ∀ k, k < 14 → parseFieldDescriptor (TX2 k).2.2.1 = some (tyX2 k) := by decide +kernel
abbrev cX2_init : ByteArray := prog_4_method_1_code
def yX2_init : MethodName := ⟨RX2, "<init>", "(LAlmanacHouse$Calendars;)V"⟩
abbrev cX2_has : ByteArray := prog_4_method_2_code
def yX2_has : MethodName := ⟨RX2, "has", "(I)Z"⟩
abbrev cX2_isRuleRight : ByteArray := prog_4_method_3_code
def yX2_isRuleRight : MethodName := ⟨RX2, "isRuleRight", "(IIII)Z"⟩
abbrev cX2_within : ByteArray := prog_4_method_4_code
def yX2_within : MethodName := ⟨RX2, "within", "(III)Z"⟩
abbrev cX2_add : ByteArray := prog_4_method_5_code
def yX2_add : MethodName := ⟨RX2, "add", "(IIIII)V"⟩
abbrev cX2_drop : ByteArray := prog_4_method_6_code
def yX2_drop : MethodName := ⟨RX2, "drop", "()V"⟩
abbrev cX2_changed : ByteArray := prog_4_method_7_code
def yX2_changed : MethodName := ⟨RX2, "changed", "()V"⟩
abbrev cX2_inOrder : ByteArray := prog_4_method_8_code
def yX2_inOrder : MethodName := ⟨RX2, "inOrder", "(I)I"⟩
abbrev cX2_rankOf : ByteArray := prog_4_method_9_code
def yX2_rankOf : MethodName := ⟨RX2, "rankOf", "(I)I"⟩
abbrev cX2_placedDay : ByteArray := prog_4_method_10_code
def yX2_placedDay : MethodName := ⟨RX2, "placedDay", "(I)I"⟩
abbrev cX2_unmovedDay : ByteArray := prog_4_method_11_code
def yX2_unmovedDay : MethodName := ⟨RX2, "unmovedDay", "(I)I"⟩
abbrev cX2_countOn : ByteArray := prog_4_method_12_code
def yX2_countOn : MethodName := ⟨RX2, "countOn", "(I)I"⟩
abbrev cX2_place : ByteArray := prog_4_method_13_code
def yX2_place : MethodName := ⟨RX2, "place", "(I)V"⟩
abbrev cX2_sortByRank : ByteArray := prog_4_method_14_code
def yX2_sortByRank : MethodName := ⟨RX2, "sortByRank", "()V"⟩
abbrev cX2_settle : ByteArray := prog_4_method_15_code
def yX2_settle : MethodName := ⟨RX2, "settle", "(I)I"⟩
abbrev cX2_ruleDay : ByteArray := prog_4_method_16_code
def yX2_ruleDay : MethodName := ⟨RX2, "ruleDay", "(II)I"⟩
abbrev cX2_fixedDay : ByteArray := prog_4_method_17_code
def yX2_fixedDay : MethodName := ⟨RX2, "fixedDay", "(IIII)I"⟩
abbrev cX2_weekdayDay : ByteArray := prog_4_method_18_code
def yX2_weekdayDay : MethodName := ⟨RX2, "weekdayDay", "(IIII)I"⟩
def RX3 : String := "AlmanacHouse$Moon"
def TX3 : u_T := fun k => match k with
  | _ => ("", "", "", false)
def tyX3 : Nat → FieldType := fun k => match k with
  | _ => .int
theorem nmX3 : ∀ a, a < 0 → ∀ b, b < 0 → a ≠ b → (TX3 a).2.1 ≠ (TX3 b).2.1 := by decide +kernel
theorem tyX3_ok : ∀ k, k < 0 → parseFieldDescriptor (TX3 k).2.2.1 = some (tyX3 k) := by decide +kernel
abbrev cX3_ageOn : ByteArray := prog_5_method_2_code
def yX3_ageOn : MethodName := ⟨RX3, "ageOn", "(I)I"⟩
abbrev cX3_dayOfNewMoon : ByteArray := prog_5_method_3_code
def yX3_dayOfNewMoon : MethodName := ⟨RX3, "dayOfNewMoon", "(I)J"⟩
abbrev cX3_isNewOn : ByteArray := prog_5_method_4_code
def yX3_isNewOn : MethodName := ⟨RX3, "isNewOn", "(I)Z"⟩
abbrev cX3_floorOf : ByteArray := prog_5_method_5_code
def yX3_floorOf : MethodName := ⟨RX3, "floorOf", "(D)D"⟩
abbrev cX3_wave : ByteArray := prog_5_method_6_code
def yX3_wave : MethodName := ⟨RX3, "wave", "(D)D"⟩
abbrev cX3_estimatedAge : ByteArray := prog_5_method_7_code
def yX3_estimatedAge : MethodName := ⟨RX3, "estimatedAge", "(I)D"⟩
abbrev cX3_lightOn : ByteArray := prog_5_method_8_code
def yX3_lightOn : MethodName := ⟨RX3, "lightOn", "(I)I"⟩
def RX4 : String := "AlmanacHouse$Page"
def TX4 : u_T := fun k => match k with
  | _ => ("AlmanacHouse$Page", "signs", "[I", true)
def tyX4 : Nat → FieldType := fun k => match k with
  | _ => .array .int
theorem nmX4 : ∀ a, a < 1 → ∀ b, b < 1 → a ≠ b → (TX4 a).2.1 ≠ (TX4 b).2.1 := by decide +kernel
theorem tyX4_ok : ∀ k, k < 1 → parseFieldDescriptor (TX4 k).2.2.1 = some (tyX4 k) := by decide +kernel
abbrev cX4_init : ByteArray := prog_6_method_1_code
def yX4_init : MethodName := ⟨RX4, "<init>", "()V"⟩
abbrev cX4_lineOf : ByteArray := prog_6_method_2_code
def yX4_lineOf : MethodName := ⟨RX4, "lineOf", "(II)I"⟩
abbrev cX4_begin : ByteArray := prog_6_method_3_code
def yX4_begin : MethodName := ⟨RX4, "begin", "(II)V"⟩
abbrev cX4_put : ByteArray := prog_6_method_4_code
def yX4_put : MethodName := ⟨RX4, "put", "(III)V"⟩
abbrev cX4_putNumber : ByteArray := prog_6_method_5_code
def yX4_putNumber : MethodName := ⟨RX4, "putNumber", "(III)I"⟩
abbrev cX4_putTwoDigits : ByteArray := prog_6_method_6_code
def yX4_putTwoDigits : MethodName := ⟨RX4, "putTwoDigits", "(III)V"⟩
def RX5 : String := "AlmanacHouse$Parishes"
def TX5 : u_T := fun k => match k with
  | 0 => ("AlmanacHouse$Parishes", "calendars", "LAlmanacHouse$Calendars;", true)
  | 1 => ("AlmanacHouse$Parishes", "feasts", "LAlmanacHouse$Feasts;", true)
  | 2 => ("AlmanacHouse$Parishes", "weekly", "[I", true)
  | 3 => ("AlmanacHouse$Parishes", "bridges", "[Z", true)
  | 4 => ("AlmanacHouse$Parishes", "count", "I", false)
  | 5 => ("AlmanacHouse$Parishes", "ruleParish", "[I", true)
  | 6 => ("AlmanacHouse$Parishes", "ruleFeast", "[I", true)
  | 7 => ("AlmanacHouse$Parishes", "ahead", "[I", true)
  | 8 => ("AlmanacHouse$Parishes", "behind", "[I", true)
  | 9 => ("AlmanacHouse$Parishes", "ruleCount", "I", false)
  | 10 => ("AlmanacHouse$Parishes", "free", "[Z", true)
  | 11 => ("AlmanacHouse$Parishes", "freeStart", "I", false)
  | 12 => ("AlmanacHouse$Parishes", "freeEnd", "I", false)
  | _ => ("AlmanacHouse$Parishes", "bridging", "Z", false)
def tyX5 : Nat → FieldType := fun k => match k with
  | 0 => .object "AlmanacHouse$Calendars"
  | 1 => .object "AlmanacHouse$Feasts"
  | 2 => .array .int
  | 3 => .array .boolean
  | 4 => .int
  | 5 => .array .int
  | 6 => .array .int
  | 7 => .array .int
  | 8 => .array .int
  | 9 => .int
  | 10 => .array .boolean
  | 11 => .int
  | 12 => .int
  | _ => .boolean
theorem nmX5 : ∀ a, a < 14 → ∀ b, b < 14 → a ≠ b → (TX5 a).2.1 ≠ (TX5 b).2.1 := by decide +kernel
theorem tyX5_ok : ∀ k, k < 14 → parseFieldDescriptor (TX5 k).2.2.1 = some (tyX5 k) := by decide +kernel
abbrev cX5_init : ByteArray := prog_7_method_1_code
def yX5_init : MethodName := ⟨RX5, "<init>", "(LAlmanacHouse$Calendars;LAlmanacHouse$Feasts;)V"⟩
abbrev cX5_has : ByteArray := prog_7_method_2_code
def yX5_has : MethodName := ⟨RX5, "has", "(I)Z"⟩
abbrev cX5_add : ByteArray := prog_7_method_3_code
def yX5_add : MethodName := ⟨RX5, "add", "(IZ)V"⟩
abbrev cX5_drop : ByteArray := prog_7_method_4_code
def yX5_drop : MethodName := ⟨RX5, "drop", "()V"⟩
abbrev cX5_addRule : ByteArray := prog_7_method_5_code
def yX5_addRule : MethodName := ⟨RX5, "addRule", "(IIII)V"⟩
abbrev cX5_dropRule : ByteArray := prog_7_method_6_code
def yX5_dropRule : MethodName := ⟨RX5, "dropRule", "()V"⟩
abbrev cX5_rulesOf : ByteArray := prog_7_method_7_code
def yX5_rulesOf : MethodName := ⟨RX5, "rulesOf", "(I)I"⟩
abbrev cX5_lookAt : ByteArray := prog_7_method_8_code
def yX5_lookAt : MethodName := ⟨RX5, "lookAt", "(III)V"⟩
abbrev cX5_markFeasts : ByteArray := prog_7_method_9_code
def yX5_markFeasts : MethodName := ⟨RX5, "markFeasts", "(II)V"⟩
abbrev cX5_isFree : ByteArray := prog_7_method_10_code
def yX5_isFree : MethodName := ⟨RX5, "isFree", "(I)Z"⟩
abbrev cX5_rests : ByteArray := prog_7_method_11_code
def yX5_rests : MethodName := ⟨RX5, "rests", "(I)Z"⟩
def RX6 : String := "AlmanacHouse$Tape"
def TX6 : u_T := fun k => match k with
  | 0 => ("AlmanacHouse$Tape", "bytes", "[I", true)
  | _ => ("AlmanacHouse$Tape", "size", "I", false)
def tyX6 : Nat → FieldType := fun k => match k with
  | 0 => .array .int
  | _ => .int
theorem nmX6 : ∀ a, a < 2 → ∀ b, b < 2 → a ≠ b → (TX6 a).2.1 ≠ (TX6 b).2.1 := by decide +kernel
theorem tyX6_ok : ∀ k, k < 2 → parseFieldDescriptor (TX6 k).2.2.1 = some (tyX6 k) := by decide +kernel
abbrev cX6_init : ByteArray := prog_8_method_1_code
def yX6_init : MethodName := ⟨RX6, "<init>", "()V"⟩
abbrev cX6_append : ByteArray := prog_8_method_2_code
def yX6_append : MethodName := ⟨RX6, "append", "(II)V"⟩
abbrev cX6_sumOf : ByteArray := prog_8_method_3_code
def yX6_sumOf : MethodName := ⟨RX6, "sumOf", "(II)I"⟩
abbrev cX6_numberAt : ByteArray := prog_8_method_4_code
def yX6_numberAt : MethodName := ⟨RX6, "numberAt", "(II)I"⟩
abbrev cX6_countBooks : ByteArray := prog_8_method_5_code
def yX6_countBooks : MethodName := ⟨RX6, "countBooks", "()I"⟩
def RX7 : String := "AlmanacHouse$Words"
def TX7 : u_T := fun k => match k with
  | 0 => ("AlmanacHouse$Words", "word", "[J", true)
  | 1 => ("AlmanacHouse$Words", "calendar", "[I", true)
  | 2 => ("AlmanacHouse$Words", "month", "[I", true)
  | _ => ("AlmanacHouse$Words", "count", "I", false)
def tyX7 : Nat → FieldType := fun k => match k with
  | 0 => .array .long
  | 1 => .array .int
  | 2 => .array .int
  | _ => .int
theorem nmX7 : ∀ a, a < 4 → ∀ b, b < 4 → a ≠ b → (TX7 a).2.1 ≠ (TX7 b).2.1 := by decide +kernel
theorem tyX7_ok : ∀ k, k < 4 → parseFieldDescriptor (TX7 k).2.2.1 = some (tyX7 k) := by decide +kernel
abbrev cX7_init : ByteArray := prog_9_method_1_code
def yX7_init : MethodName := ⟨RX7, "<init>", "()V"⟩
abbrev cX7_monthBy : ByteArray := prog_9_method_2_code
def yX7_monthBy : MethodName := ⟨RX7, "monthBy", "(IJ)I"⟩
abbrev cX7_countFor : ByteArray := prog_9_method_3_code
def yX7_countFor : MethodName := ⟨RX7, "countFor", "(II)I"⟩
abbrev cX7_add : ByteArray := prog_9_method_4_code
def yX7_add : MethodName := ⟨RX7, "add", "(IIJ)V"⟩
abbrev cX7_drop : ByteArray := prog_9_method_5_code
def yX7_drop : MethodName := ⟨RX7, "drop", "()V"⟩
def RX8 : String := "AlmanacHouse"
def TX8 : u_T := fun k => match k with
  | 0 => ("AlmanacHouse", "calendars", "LAlmanacHouse$Calendars;", true)
  | 1 => ("AlmanacHouse", "words", "LAlmanacHouse$Words;", true)
  | 2 => ("AlmanacHouse", "feasts", "LAlmanacHouse$Feasts;", true)
  | 3 => ("AlmanacHouse", "parishes", "LAlmanacHouse$Parishes;", true)
  | 4 => ("AlmanacHouse", "page", "LAlmanacHouse$Page;", true)
  | 5 => ("AlmanacHouse", "tape", "LAlmanacHouse$Tape;", true)
  | _ => ("AlmanacHouse", "deeds", "LAlmanacHouse$Deeds;", true)
def tyX8 : Nat → FieldType := fun k => match k with
  | 0 => .object "AlmanacHouse$Calendars"
  | 1 => .object "AlmanacHouse$Words"
  | 2 => .object "AlmanacHouse$Feasts"
  | 3 => .object "AlmanacHouse$Parishes"
  | 4 => .object "AlmanacHouse$Page"
  | 5 => .object "AlmanacHouse$Tape"
  | _ => .object "AlmanacHouse$Deeds"
theorem nmX8 : ∀ a, a < 7 → ∀ b, b < 7 → a ≠ b → (TX8 a).2.1 ≠ (TX8 b).2.1 := by decide +kernel
theorem tyX8_ok : ∀ k, k < 7 → parseFieldDescriptor (TX8 k).2.2.1 = some (tyX8 k) := by decide +kernel
abbrev cX8_init : ByteArray := prog_1_method_1_code
def yX8_init : MethodName := ⟨RX8, "<init>", "()V"⟩
abbrev cX8_toDay : ByteArray := prog_1_method_2_code
def yX8_toDay : MethodName := ⟨RX8, "toDay", "(IIII)I"⟩
abbrev cX8_fromDay : ByteArray := prog_1_method_3_code
def yX8_fromDay : MethodName := ⟨RX8, "fromDay", "(III)I"⟩
abbrev cX8_monthLength : ByteArray := prog_1_method_4_code
def yX8_monthLength : MethodName := ⟨RX8, "monthLength", "(III)I"⟩
abbrev cX8_yearLength : ByteArray := prog_1_method_5_code
def yX8_yearLength : MethodName := ⟨RX8, "yearLength", "(II)I"⟩
abbrev cX8_months : ByteArray := prog_1_method_6_code
def yX8_months : MethodName := ⟨RX8, "months", "(II)I"⟩
abbrev cX8_addMonths : ByteArray := prog_1_method_7_code
def yX8_addMonths : MethodName := ⟨RX8, "addMonths", "(III)I"⟩
abbrev cX8_addYears : ByteArray := prog_1_method_8_code
def yX8_addYears : MethodName := ⟨RX8, "addYears", "(III)I"⟩
abbrev cX8_difference : ByteArray := prog_1_method_9_code
def yX8_difference : MethodName := ⟨RX8, "difference", "(IIII)I"⟩
abbrev cX8_birthday : ByteArray := prog_1_method_10_code
def yX8_birthday : MethodName := ⟨RX8, "birthday", "(III)I"⟩
abbrev cX8_row : ByteArray := prog_1_method_11_code
def yX8_row : MethodName := ⟨RX8, "row", "(II)I"⟩
abbrev cX8_name : ByteArray := prog_1_method_12_code
def yX8_name : MethodName := ⟨RX8, "name", "(IIJ)I"⟩
abbrev cX8_monthNamed : ByteArray := prog_1_method_13_code
def yX8_monthNamed : MethodName := ⟨RX8, "monthNamed", "(IJ)I"⟩
abbrev cX8_spellings : ByteArray := prog_1_method_14_code
def yX8_spellings : MethodName := ⟨RX8, "spellings", "(J)I"⟩
abbrev cX8_feast : ByteArray := prog_1_method_15_code
def yX8_feast : MethodName := ⟨RX8, "feast", "(IIIII)I"⟩
abbrev cX8_feastDay : ByteArray := prog_1_method_16_code
def yX8_feastDay : MethodName := ⟨RX8, "feastDay", "(II)I"⟩
abbrev cX8_moved : ByteArray := prog_1_method_17_code
def yX8_moved : MethodName := ⟨RX8, "moved", "(II)I"⟩
abbrev cX8_movable : ByteArray := prog_1_method_18_code
def yX8_movable : MethodName := ⟨RX8, "movable", "(II)I"⟩
abbrev cX8_feastOn : ByteArray := prog_1_method_19_code
def yX8_feastOn : MethodName := ⟨RX8, "feastOn", "(II)I"⟩
abbrev cX8_age : ByteArray := prog_1_method_20_code
def yX8_age : MethodName := ⟨RX8, "age", "(I)I"⟩
abbrev cX8_newMoon : ByteArray := prog_1_method_21_code
def yX8_newMoon : MethodName := ⟨RX8, "newMoon", "(I)I"⟩
abbrev cX8_estimate : ByteArray := prog_1_method_22_code
def yX8_estimate : MethodName := ⟨RX8, "estimate", "(I)D"⟩
abbrev cX8_light : ByteArray := prog_1_method_23_code
def yX8_light : MethodName := ⟨RX8, "light", "(I)I"⟩
abbrev cX8_parish : ByteArray := prog_1_method_24_code
def yX8_parish : MethodName := ⟨RX8, "parish", "(IZ)I"⟩
abbrev cX8_rule : ByteArray := prog_1_method_25_code
def yX8_rule : MethodName := ⟨RX8, "rule", "(IIII)I"⟩
abbrev cX8_isOff : ByteArray := prog_1_method_26_code
def yX8_isOff : MethodName := ⟨RX8, "isOff", "(II)I"⟩
abbrev cX8_worked : ByteArray := prog_1_method_27_code
def yX8_worked : MethodName := ⟨RX8, "worked", "(III)I"⟩
abbrev cX8_nextOff : ByteArray := prog_1_method_28_code
def yX8_nextOff : MethodName := ⟨RX8, "nextOff", "(II)I"⟩
abbrev cX8_inRow : ByteArray := prog_1_method_29_code
def yX8_inRow : MethodName := ⟨RX8, "inRow", "(II)I"⟩
abbrev cX8_page : ByteArray := prog_1_method_30_code
def yX8_page : MethodName := ⟨RX8, "page", "(IIII)I"⟩
abbrev cX8_sign : ByteArray := prog_1_method_31_code
def yX8_sign : MethodName := ⟨RX8, "sign", "(II)I"⟩
abbrev cX8_book : ByteArray := prog_1_method_32_code
def yX8_book : MethodName := ⟨RX8, "book", "(II)I"⟩
abbrev cX8_load : ByteArray := prog_1_method_33_code
def yX8_load : MethodName := ⟨RX8, "load", "(II)I"⟩
abbrev cX8_byteAt : ByteArray := prog_1_method_34_code
def yX8_byteAt : MethodName := ⟨RX8, "byteAt", "(I)I"⟩
abbrev cX8_spoil : ByteArray := prog_1_method_35_code
def yX8_spoil : MethodName := ⟨RX8, "spoil", "(II)I"⟩
abbrev cX8_wipe : ByteArray := prog_1_method_36_code
def yX8_wipe : MethodName := ⟨RX8, "wipe", "()I"⟩
abbrev cX8_verify : ByteArray := prog_1_method_37_code
def yX8_verify : MethodName := ⟨RX8, "verify", "()I"⟩
abbrev cX8_undo : ByteArray := prog_1_method_38_code
def yX8_undo : MethodName := ⟨RX8, "undo", "()I"⟩
abbrev cX8_count : ByteArray := prog_1_method_39_code
def yX8_count : MethodName := ⟨RX8, "count", "(I)I"⟩
abbrev cX8_isCalendar : ByteArray := prog_1_method_40_code
def yX8_isCalendar : MethodName := ⟨RX8, "isCalendar", "(I)Z"⟩
abbrev cX8_isDay : ByteArray := prog_1_method_41_code
def yX8_isDay : MethodName := ⟨RX8, "isDay", "(I)Z"⟩
abbrev cX8_dayOrOutside : ByteArray := prog_1_method_42_code
def yX8_dayOrOutside : MethodName := ⟨RX8, "dayOrOutside", "(I)I"⟩
abbrev cX8_wholeYears : ByteArray := prog_1_method_43_code
def yX8_wholeYears : MethodName := ⟨RX8, "wholeYears", "(III)I"⟩
abbrev cX8_wholeMonths : ByteArray := prog_1_method_44_code
def yX8_wholeMonths : MethodName := ⟨RX8, "wholeMonths", "(III)I"⟩
abbrev cX8_writeDays : ByteArray := prog_1_method_45_code
def yX8_writeDays : MethodName := ⟨RX8, "writeDays", "(III)V"⟩
abbrev cX8_writeFeasts : ByteArray := prog_1_method_46_code
def yX8_writeFeasts : MethodName := ⟨RX8, "writeFeasts", "(IIII)I"⟩
def RX9 : String := "AlmanacHouseModel"
def TX9 : u_T := fun k => match k with
  | 0 => ("AlmanacHouseModel", "rows", "I", false)
  | 1 => ("AlmanacHouseModel", "rowFirst", "[I", true)
  | 2 => ("AlmanacHouseModel", "rowLength", "[I", true)
  | 3 => ("AlmanacHouseModel", "atYear", "I", false)
  | 4 => ("AlmanacHouseModel", "atMonth", "I", false)
  | 5 => ("AlmanacHouseModel", "atDay", "I", false)
  | 6 => ("AlmanacHouseModel", "backs", "I", false)
  | 7 => ("AlmanacHouseModel", "back", "[I", true)
  | 8 => ("AlmanacHouseModel", "words", "I", false)
  | 9 => ("AlmanacHouseModel", "wordCalendar", "[I", true)
  | 10 => ("AlmanacHouseModel", "wordMonth", "[I", true)
  | 11 => ("AlmanacHouseModel", "wordOf", "[J", true)
  | 12 => ("AlmanacHouseModel", "feasts", "I", false)
  | 13 => ("AlmanacHouseModel", "ruleOf", "[I", true)
  | 14 => ("AlmanacHouseModel", "firstOf", "[I", true)
  | 15 => ("AlmanacHouseModel", "secondOf", "[I", true)
  | 16 => ("AlmanacHouseModel", "thirdOf", "[I", true)
  | 17 => ("AlmanacHouseModel", "rankOf", "[I", true)
  | 18 => ("AlmanacHouseModel", "keptYear", "[I", true)
  | 19 => ("AlmanacHouseModel", "days", "[I", true)
  | 20 => ("AlmanacHouseModel", "placed", "[I", true)
  | 21 => ("AlmanacHouseModel", "nextKept", "I", false)
  | 22 => ("AlmanacHouseModel", "isKept", "Z", false)
  | 23 => ("AlmanacHouseModel", "parishes", "I", false)
  | 24 => ("AlmanacHouseModel", "weekly", "[I", true)
  | 25 => ("AlmanacHouseModel", "bridges", "[Z", true)
  | 26 => ("AlmanacHouseModel", "rules", "I", false)
  | 27 => ("AlmanacHouseModel", "ruleParish", "[I", true)
  | 28 => ("AlmanacHouseModel", "ruleFeast", "[I", true)
  | 29 => ("AlmanacHouseModel", "ruleAhead", "[I", true)
  | 30 => ("AlmanacHouseModel", "ruleBehind", "[I", true)
  | 31 => ("AlmanacHouseModel", "pageSigns", "[B", true)
  | 32 => ("AlmanacHouseModel", "isWritten", "Z", false)
  | 33 => ("AlmanacHouseModel", "tape", "[B", true)
  | _ => ("AlmanacHouseModel", "taped", "I", false)
def tyX9 : Nat → FieldType := fun k => match k with
  | 0 => .int
  | 1 => .array .int
  | 2 => .array .int
  | 3 => .int
  | 4 => .int
  | 5 => .int
  | 6 => .int
  | 7 => .array .int
  | 8 => .int
  | 9 => .array .int
  | 10 => .array .int
  | 11 => .array .long
  | 12 => .int
  | 13 => .array .int
  | 14 => .array .int
  | 15 => .array .int
  | 16 => .array .int
  | 17 => .array .int
  | 18 => .array .int
  | 19 => .array .int
  | 20 => .array .int
  | 21 => .int
  | 22 => .boolean
  | 23 => .int
  | 24 => .array .int
  | 25 => .array .boolean
  | 26 => .int
  | 27 => .array .int
  | 28 => .array .int
  | 29 => .array .int
  | 30 => .array .int
  | 31 => .array .byte
  | 32 => .boolean
  | 33 => .array .byte
  | _ => .int
theorem nmX9 : ∀ a, a < 35 → ∀ b, b < 35 → a ≠ b → (TX9 a).2.1 ≠ (TX9 b).2.1 := by decide +kernel
theorem tyX9_ok : ∀ k, k < 35 → parseFieldDescriptor (TX9 k).2.2.1 = some (tyX9 k) := by decide +kernel
abbrev cX9_init : ByteArray := prog_11_method_1_code
def yX9_init : MethodName := ⟨RX9, "<init>", "()V"⟩
abbrev cX9_in : ByteArray := prog_11_method_3_code
def yX9_in : MethodName := ⟨RX9, "in", "(III)Z"⟩
abbrev cX9_isDay : ByteArray := prog_11_method_4_code
def yX9_isDay : MethodName := ⟨RX9, "isDay", "(J)Z"⟩
abbrev cX9_rest : ByteArray := prog_11_method_5_code
def yX9_rest : MethodName := ⟨RX9, "rest", "(II)I"⟩
abbrev cX9_firstYear : ByteArray := prog_11_method_6_code
def yX9_firstYear : MethodName := ⟨RX9, "firstYear", "(I)I"⟩
abbrev cX9_isYear : ByteArray := prog_11_method_7_code
def yX9_isYear : MethodName := ⟨RX9, "isYear", "(II)Z"⟩
abbrev cX9_isLeap : ByteArray := prog_11_method_8_code
def yX9_isLeap : MethodName := ⟨RX9, "isLeap", "(II)Z"⟩
abbrev cX9_isMoonLeap : ByteArray := prog_11_method_9_code
def yX9_isMoonLeap : MethodName := ⟨RX9, "isMoonLeap", "(I)Z"⟩
abbrev cX9_moonLeaps : ByteArray := prog_11_method_10_code
def yX9_moonLeaps : MethodName := ⟨RX9, "moonLeaps", "(I)I"⟩
abbrev cX9_isLong : ByteArray := prog_11_method_11_code
def yX9_isLong : MethodName := ⟨RX9, "isLong", "(I)Z"⟩
abbrev cX9_elapsed : ByteArray := prog_11_method_12_code
def yX9_elapsed : MethodName := ⟨RX9, "elapsed", "(I)I"⟩
abbrev cX9_newYear : ByteArray := prog_11_method_13_code
def yX9_newYear : MethodName := ⟨RX9, "newYear", "(I)I"⟩
abbrev cX9_start : ByteArray := prog_11_method_14_code
def yX9_start : MethodName := ⟨RX9, "start", "(II)I"⟩
abbrev cX9_monthsIn : ByteArray := prog_11_method_15_code
def yX9_monthsIn : MethodName := ⟨RX9, "monthsIn", "(II)I"⟩
abbrev cX9_lengthOf : ByteArray := prog_11_method_16_code
def yX9_lengthOf : MethodName := ⟨RX9, "lengthOf", "(III)I"⟩
abbrev cX9_monthStart : ByteArray := prog_11_method_17_code
def yX9_monthStart : MethodName := ⟨RX9, "monthStart", "(III)I"⟩
abbrev cX9_isMonth : ByteArray := prog_11_method_18_code
def yX9_isMonth : MethodName := ⟨RX9, "isMonth", "(III)Z"⟩
abbrev cX9_yearOf : ByteArray := prog_11_method_19_code
def yX9_yearOf : MethodName := ⟨RX9, "yearOf", "(II)I"⟩
abbrev cX9_find : ByteArray := prog_11_method_20_code
def yX9_find : MethodName := ⟨RX9, "find", "(II)Z"⟩
abbrev cX9_isCalendar : ByteArray := prog_11_method_21_code
def yX9_isCalendar : MethodName := ⟨RX9, "isCalendar", "(I)Z"⟩
abbrev cX9_toDay : ByteArray := prog_11_method_22_code
def yX9_toDay : MethodName := ⟨RX9, "toDay", "(IIII)I"⟩
abbrev cX9_fromDay : ByteArray := prog_11_method_23_code
def yX9_fromDay : MethodName := ⟨RX9, "fromDay", "(III)I"⟩
abbrev cX9_monthLength : ByteArray := prog_11_method_24_code
def yX9_monthLength : MethodName := ⟨RX9, "monthLength", "(III)I"⟩
abbrev cX9_yearLength : ByteArray := prog_11_method_25_code
def yX9_yearLength : MethodName := ⟨RX9, "yearLength", "(II)I"⟩
abbrev cX9_months : ByteArray := prog_11_method_26_code
def yX9_months : MethodName := ⟨RX9, "months", "(II)I"⟩
abbrev cX9_cut : ByteArray := prog_11_method_27_code
def yX9_cut : MethodName := ⟨RX9, "cut", "(IIII)I"⟩
abbrev cX9_monthsOn : ByteArray := prog_11_method_28_code
def yX9_monthsOn : MethodName := ⟨RX9, "monthsOn", "(II)I"⟩
abbrev cX9_added : ByteArray := prog_11_method_29_code
def yX9_added : MethodName := ⟨RX9, "added", "(IIIIZ)I"⟩
abbrev cX9_addMonths : ByteArray := prog_11_method_30_code
def yX9_addMonths : MethodName := ⟨RX9, "addMonths", "(III)I"⟩
abbrev cX9_addYears : ByteArray := prog_11_method_31_code
def yX9_addYears : MethodName := ⟨RX9, "addYears", "(III)I"⟩
abbrev cX9_difference : ByteArray := prog_11_method_32_code
def yX9_difference : MethodName := ⟨RX9, "difference", "(IIII)I"⟩
abbrev cX9_birthday : ByteArray := prog_11_method_33_code
def yX9_birthday : MethodName := ⟨RX9, "birthday", "(III)I"⟩
abbrev cX9_laid : ByteArray := prog_11_method_34_code
def yX9_laid : MethodName := ⟨RX9, "laid", "(I)V"⟩
abbrev cX9_row : ByteArray := prog_11_method_35_code
def yX9_row : MethodName := ⟨RX9, "row", "(II)I"⟩
abbrev cX9_namedBy : ByteArray := prog_11_method_36_code
def yX9_namedBy : MethodName := ⟨RX9, "namedBy", "(IJ)I"⟩
abbrev cX9_name : ByteArray := prog_11_method_37_code
def yX9_name : MethodName := ⟨RX9, "name", "(IIJ)I"⟩
abbrev cX9_monthNamed : ByteArray := prog_11_method_38_code
def yX9_monthNamed : MethodName := ⟨RX9, "monthNamed", "(IJ)I"⟩
abbrev cX9_spellings : ByteArray := prog_11_method_39_code
def yX9_spellings : MethodName := ⟨RX9, "spellings", "(J)I"⟩
abbrev cX9_isFeast : ByteArray := prog_11_method_40_code
def yX9_isFeast : MethodName := ⟨RX9, "isFeast", "(I)Z"⟩
abbrev cX9_feast : ByteArray := prog_11_method_41_code
def yX9_feast : MethodName := ⟨RX9, "feast", "(IIIII)I"⟩
abbrev cX9_movableDay : ByteArray := prog_11_method_42_code
def yX9_movableDay : MethodName := ⟨RX9, "movableDay", "(II)I"⟩
abbrev cX9_movable : ByteArray := prog_11_method_43_code
def yX9_movable : MethodName := ⟨RX9, "movable", "(II)I"⟩
abbrev cX9_fixed : ByteArray := prog_11_method_44_code
def yX9_fixed : MethodName := ⟨RX9, "fixed", "(IIII)I"⟩
abbrev cX9_weekday : ByteArray := prog_11_method_45_code
def yX9_weekday : MethodName := ⟨RX9, "weekday", "(IIII)I"⟩
abbrev cX9_forget : ByteArray := prog_11_method_46_code
def yX9_forget : MethodName := ⟨RX9, "forget", "()V"⟩
abbrev cX9_kept : ByteArray := prog_11_method_47_code
def yX9_kept : MethodName := ⟨RX9, "kept", "(I)I"⟩
abbrev cX9_place : ByteArray := prog_11_method_48_code
def yX9_place : MethodName := ⟨RX9, "place", "(II)V"⟩
abbrev cX9_isTaken : ByteArray := prog_11_method_49_code
def yX9_isTaken : MethodName := ⟨RX9, "isTaken", "(II)Z"⟩
abbrev cX9_feastDay : ByteArray := prog_11_method_50_code
def yX9_feastDay : MethodName := ⟨RX9, "feastDay", "(II)I"⟩
abbrev cX9_moved : ByteArray := prog_11_method_51_code
def yX9_moved : MethodName := ⟨RX9, "moved", "(II)I"⟩
abbrev cX9_feastAt : ByteArray := prog_11_method_52_code
def yX9_feastAt : MethodName := ⟨RX9, "feastAt", "(II)I"⟩
abbrev cX9_feastOn : ByteArray := prog_11_method_53_code
def yX9_feastOn : MethodName := ⟨RX9, "feastOn", "(II)I"⟩
abbrev cX9_ageOf : ByteArray := prog_11_method_54_code
def yX9_ageOf : MethodName := ⟨RX9, "ageOf", "(I)J"⟩
abbrev cX9_age : ByteArray := prog_11_method_55_code
def yX9_age : MethodName := ⟨RX9, "age", "(I)I"⟩
abbrev cX9_newMoon : ByteArray := prog_11_method_56_code
def yX9_newMoon : MethodName := ⟨RX9, "newMoon", "(I)I"⟩
abbrev cX9_floor : ByteArray := prog_11_method_57_code
def yX9_floor : MethodName := ⟨RX9, "floor", "(D)D"⟩
abbrev cX9_wave : ByteArray := prog_11_method_58_code
def yX9_wave : MethodName := ⟨RX9, "wave", "(D)D"⟩
abbrev cX9_estimated : ByteArray := prog_11_method_59_code
def yX9_estimated : MethodName := ⟨RX9, "estimated", "(I)D"⟩
abbrev cX9_estimate : ByteArray := prog_11_method_60_code
def yX9_estimate : MethodName := ⟨RX9, "estimate", "(I)D"⟩
abbrev cX9_light : ByteArray := prog_11_method_61_code
def yX9_light : MethodName := ⟨RX9, "light", "(I)I"⟩
abbrev cX9_isNew : ByteArray := prog_11_method_62_code
def yX9_isNew : MethodName := ⟨RX9, "isNew", "(I)Z"⟩
abbrev cX9_isParish : ByteArray := prog_11_method_63_code
def yX9_isParish : MethodName := ⟨RX9, "isParish", "(I)Z"⟩
abbrev cX9_parish : ByteArray := prog_11_method_64_code
def yX9_parish : MethodName := ⟨RX9, "parish", "(IZ)I"⟩
abbrev cX9_rule : ByteArray := prog_11_method_65_code
def yX9_rule : MethodName := ⟨RX9, "rule", "(IIII)I"⟩
abbrev cX9_isFree : ByteArray := prog_11_method_66_code
def yX9_isFree : MethodName := ⟨RX9, "isFree", "(II)Z"⟩
abbrev cX9_isOffDay : ByteArray := prog_11_method_67_code
def yX9_isOffDay : MethodName := ⟨RX9, "isOffDay", "(II)Z"⟩
abbrev cX9_isOff : ByteArray := prog_11_method_68_code
def yX9_isOff : MethodName := ⟨RX9, "isOff", "(II)I"⟩
abbrev cX9_worked : ByteArray := prog_11_method_69_code
def yX9_worked : MethodName := ⟨RX9, "worked", "(III)I"⟩
abbrev cX9_nextOff : ByteArray := prog_11_method_70_code
def yX9_nextOff : MethodName := ⟨RX9, "nextOff", "(II)I"⟩
abbrev cX9_inRow : ByteArray := prog_11_method_71_code
def yX9_inRow : MethodName := ⟨RX9, "inRow", "(II)I"⟩
abbrev cX9_write : ByteArray := prog_11_method_72_code
def yX9_write : MethodName := ⟨RX9, "write", "(III)V"⟩
abbrev cX9_writeNumber : ByteArray := prog_11_method_73_code
def yX9_writeNumber : MethodName := ⟨RX9, "writeNumber", "(III)I"⟩
abbrev cX9_writeDay : ByteArray := prog_11_method_74_code
def yX9_writeDay : MethodName := ⟨RX9, "writeDay", "(III)V"⟩
abbrev cX9_letterOf : ByteArray := prog_11_method_75_code
def yX9_letterOf : MethodName := ⟨RX9, "letterOf", "(I)I"⟩
abbrev cX9_page : ByteArray := prog_11_method_76_code
def yX9_page : MethodName := ⟨RX9, "page", "(IIII)I"⟩
abbrev cX9_sign : ByteArray := prog_11_method_77_code
def yX9_sign : MethodName := ⟨RX9, "sign", "(II)I"⟩
abbrev cX9_put : ByteArray := prog_11_method_78_code
def yX9_put : MethodName := ⟨RX9, "put", "(I)V"⟩
abbrev cX9_sum : ByteArray := prog_11_method_79_code
def yX9_sum : MethodName := ⟨RX9, "sum", "(II)I"⟩
abbrev cX9_book : ByteArray := prog_11_method_80_code
def yX9_book : MethodName := ⟨RX9, "book", "(II)I"⟩
abbrev cX9_load : ByteArray := prog_11_method_81_code
def yX9_load : MethodName := ⟨RX9, "load", "(II)I"⟩
abbrev cX9_byteAt : ByteArray := prog_11_method_82_code
def yX9_byteAt : MethodName := ⟨RX9, "byteAt", "(I)I"⟩
abbrev cX9_spoil : ByteArray := prog_11_method_83_code
def yX9_spoil : MethodName := ⟨RX9, "spoil", "(II)I"⟩
abbrev cX9_wipe : ByteArray := prog_11_method_84_code
def yX9_wipe : MethodName := ⟨RX9, "wipe", "()I"⟩
abbrev cX9_verify : ByteArray := prog_11_method_85_code
def yX9_verify : MethodName := ⟨RX9, "verify", "()I"⟩
abbrev cX9_undo : ByteArray := prog_11_method_86_code
def yX9_undo : MethodName := ⟨RX9, "undo", "()I"⟩
abbrev cX9_count : ByteArray := prog_11_method_87_code
def yX9_count : MethodName := ⟨RX9, "count", "(I)I"⟩
def RJx145de : String := "java/io/Serializable"
def TJx145de : u_T := fun k => match k with
  | _ => ("", "", "", false)
def tyJx145de : Nat → FieldType := fun k => match k with
  | _ => .int
theorem nmJx145de : ∀ a, a < 0 → ∀ b, b < 0 → a ≠ b → (TJx145de a).2.1 ≠ (TJx145de b).2.1 := by decide +kernel
theorem tyJx145de_ok : ∀ k, k < 0 → parseFieldDescriptor (TJx145de k).2.2.1 = some (tyJx145de k) := by decide +kernel
def RJx9f9b0 : String := "java/lang/CharSequence"
def TJx9f9b0 : u_T := fun k => match k with
  | _ => ("", "", "", false)
def tyJx9f9b0 : Nat → FieldType := fun k => match k with
  | _ => .int
theorem nmJx9f9b0 : ∀ a, a < 0 → ∀ b, b < 0 → a ≠ b → (TJx9f9b0 a).2.1 ≠ (TJx9f9b0 b).2.1 := by decide +kernel
theorem tyJx9f9b0_ok : ∀ k, k < 0 → parseFieldDescriptor (TJx9f9b0 k).2.2.1 = some (tyJx9f9b0 k) := by decide +kernel
def RJxb160c : String := "java/lang/Comparable"
def TJxb160c : u_T := fun k => match k with
  | _ => ("", "", "", false)
def tyJxb160c : Nat → FieldType := fun k => match k with
  | _ => .int
theorem nmJxb160c : ∀ a, a < 0 → ∀ b, b < 0 → a ≠ b → (TJxb160c a).2.1 ≠ (TJxb160c b).2.1 := by decide +kernel
theorem tyJxb160c_ok : ∀ k, k < 0 → parseFieldDescriptor (TJxb160c k).2.2.1 = some (tyJxb160c k) := by decide +kernel
def RJ6 : String := "java/lang/Integer"
def TJ6 : u_T := fun k => match k with
  | _ => ("", "", "", false)
def tyJ6 : Nat → FieldType := fun k => match k with
  | _ => .int
theorem nmJ6 : ∀ a, a < 0 → ∀ b, b < 0 → a ≠ b → (TJ6 a).2.1 ≠ (TJ6 b).2.1 := by decide +kernel
theorem tyJ6_ok : ∀ k, k < 0 → parseFieldDescriptor (TJ6 k).2.2.1 = some (tyJ6 k) := by decide +kernel
abbrev cJ6_rotateLeft_7cf53 : ByteArray := prog_12_method_50_code
def yJ6_rotateLeft_7cf53 : MethodName := ⟨RJ6, "rotateLeft", "(II)I"⟩
def RJ9 : String := "java/lang/Math"
def TJ9 : u_T := fun k => match k with
  | _ => ("", "", "", false)
def tyJ9 : Nat → FieldType := fun k => match k with
  | _ => .int
theorem nmJ9 : ∀ a, a < 0 → ∀ b, b < 0 → a ≠ b → (TJ9 a).2.1 ≠ (TJ9 b).2.1 := by decide +kernel
theorem tyJ9_ok : ∀ k, k < 0 → parseFieldDescriptor (TJ9 k).2.2.1 = some (tyJ9 k) := by decide +kernel
abbrev cJ9_floorMod_7cf53 : ByteArray := prog_13_method_50_code
def yJ9_floorMod_7cf53 : MethodName := ⟨RJ9, "floorMod", "(II)I"⟩
abbrev cJ9_floorMod_f86c9 : ByteArray := prog_13_method_52_code
def yJ9_floorMod_f86c9 : MethodName := ⟨RJ9, "floorMod", "(JJ)J"⟩
abbrev cJ9_max_7cf53 : ByteArray := prog_13_method_65_code
def yJ9_max_7cf53 : MethodName := ⟨RJ9, "max", "(II)I"⟩
abbrev cJ9_min_7cf53 : ByteArray := prog_13_method_69_code
def yJ9_min_7cf53 : MethodName := ⟨RJ9, "min", "(II)I"⟩
def RJ0 : String := "java/lang/String"
def TJ0 : u_T := fun k => match k with
  | _ => ("", "", "", false)
def tyJ0 : Nat → FieldType := fun k => match k with
  | _ => .int
theorem nmJ0 : ∀ a, a < 0 → ∀ b, b < 0 → a ≠ b → (TJ0 a).2.1 ≠ (TJ0 b).2.1 := by decide +kernel
theorem tyJ0_ok : ∀ k, k < 0 → parseFieldDescriptor (TJ0 k).2.2.1 = some (tyJ0 k) := by decide +kernel
abbrev cJ0_length_8abf5 : ByteArray := prog_14_method_54_code
def yJ0_length_8abf5 : MethodName := ⟨RJ0, "length", "()I"⟩
abbrev cJ0_charAt_5068e : ByteArray := prog_14_method_56_code
def yJ0_charAt_5068e : MethodName := ⟨RJ0, "charAt", "(I)C"⟩
abbrev cJ0_coder_7d493 : ByteArray := prog_14_method_152_code
def yJ0_coder_7d493 : MethodName := ⟨RJ0, "coder", "()B"⟩
abbrev cJ0_isLatin1_aae02 : ByteArray := prog_14_method_154_code
def yJ0_isLatin1_aae02 : MethodName := ⟨RJ0, "isLatin1", "()Z"⟩
abbrev cJ0_checkIndex_df160 : ByteArray := prog_14_method_155_code
def yJ0_checkIndex_df160 : MethodName := ⟨RJ0, "checkIndex", "(II)V"⟩
def RJ1 : String := "java/lang/StringLatin1"
def TJ1 : u_T := fun k => match k with
  | _ => ("", "", "", false)
def tyJ1 : Nat → FieldType := fun k => match k with
  | _ => .int
theorem nmJ1 : ∀ a, a < 0 → ∀ b, b < 0 → a ≠ b → (TJ1 a).2.1 ≠ (TJ1 b).2.1 := by decide +kernel
theorem tyJ1_ok : ∀ k, k < 0 → parseFieldDescriptor (TJ1 k).2.2.1 = some (tyJ1 k) := by decide +kernel
abbrev cJ1_charAt_3b067 : ByteArray := prog_15_method_2_code
def yJ1_charAt_3b067 : MethodName := ⟨RJ1, "charAt", "([BI)C"⟩
def RJ2 : String := "java/lang/StringUTF16"
def TJ2 : u_T := fun k => match k with
  | _ => ("", "", "", false)
def tyJ2 : Nat → FieldType := fun k => match k with
  | _ => .int
theorem nmJ2 : ∀ a, a < 0 → ∀ b, b < 0 → a ≠ b → (TJ2 a).2.1 ≠ (TJ2 b).2.1 := by decide +kernel
theorem tyJ2_ok : ∀ k, k < 0 → parseFieldDescriptor (TJ2 k).2.2.1 = some (tyJ2 k) := by decide +kernel
abbrev cJ2_getChar_3b067 : ByteArray := prog_16_method_5_code
def yJ2_getChar_3b067 : MethodName := ⟨RJ2, "getChar", "([BI)C"⟩
abbrev cJ2_length_9d52b : ByteArray := prog_16_method_6_code
def yJ2_length_9d52b : MethodName := ⟨RJ2, "length", "([B)I"⟩
abbrev cJ2_charAt_3b067 : ByteArray := prog_16_method_83_code
def yJ2_charAt_3b067 : MethodName := ⟨RJ2, "charAt", "([BI)C"⟩
abbrev cJ2_checkIndex_2214a : ByteArray := prog_16_method_91_code
def yJ2_checkIndex_2214a : MethodName := ⟨RJ2, "checkIndex", "(I[B)V"⟩
def RJxfd54e : String := "java/lang/constant/Constable"
def TJxfd54e : u_T := fun k => match k with
  | _ => ("", "", "", false)
def tyJxfd54e : Nat → FieldType := fun k => match k with
  | _ => .int
theorem nmJxfd54e : ∀ a, a < 0 → ∀ b, b < 0 → a ≠ b → (TJxfd54e a).2.1 ≠ (TJxfd54e b).2.1 := by decide +kernel
theorem tyJxfd54e_ok : ∀ k, k < 0 → parseFieldDescriptor (TJxfd54e k).2.2.1 = some (tyJxfd54e k) := by decide +kernel
def RJx3cf43 : String := "java/lang/constant/ConstantDesc"
def TJx3cf43 : u_T := fun k => match k with
  | _ => ("", "", "", false)
def tyJx3cf43 : Nat → FieldType := fun k => match k with
  | _ => .int
theorem nmJx3cf43 : ∀ a, a < 0 → ∀ b, b < 0 → a ≠ b → (TJx3cf43 a).2.1 ≠ (TJx3cf43 b).2.1 := by decide +kernel
theorem tyJx3cf43_ok : ∀ k, k < 0 → parseFieldDescriptor (TJx3cf43 k).2.2.1 = some (tyJx3cf43 k) := by decide +kernel
def RJ7 : String := "java/util/Arrays"
def TJ7 : u_T := fun k => match k with
  | _ => ("", "", "", false)
def tyJ7 : Nat → FieldType := fun k => match k with
  | _ => .int
theorem nmJ7 : ∀ a, a < 0 → ∀ b, b < 0 → a ≠ b → (TJ7 a).2.1 ≠ (TJ7 b).2.1 := by decide +kernel
theorem tyJ7_ok : ∀ k, k < 0 → parseFieldDescriptor (TJ7 k).2.2.1 = some (tyJ7 k) := by decide +kernel
abbrev cJ7_fill_53178 : ByteArray := prog_17_method_103_code
def yJ7_fill_53178 : MethodName := ⟨RJ7, "fill", "([II)V"⟩
def RJ3 : String := "jdk/internal/util/Preconditions"
def TJ3 : u_T := fun k => match k with
  | _ => ("", "", "", false)
def tyJ3 : Nat → FieldType := fun k => match k with
  | _ => .int
theorem nmJ3 : ∀ a, a < 0 → ∀ b, b < 0 → a ≠ b → (TJ3 a).2.1 ≠ (TJ3 b).2.1 := by decide +kernel
theorem tyJ3_ok : ∀ k, k < 0 → parseFieldDescriptor (TJ3 k).2.2.1 = some (tyJ3 k) := by decide +kernel
abbrev cJ3_checkIndex_8e157 : ByteArray := prog_18_method_11_code
def yJ3_checkIndex_8e157 : MethodName := ⟨RJ3, "checkIndex", "(IILjava/util/function/BiFunction;)I"⟩
def RL : String := "AlmanacHouseLaw"
abbrev cL_law : ByteArray := code
def yL_law : MethodName := ⟨RL, "law", "([I)Z"⟩
abbrev vwCl : List vw_C := [(RX0, TX0, 3), (RX1, TX1, 3), (RX2, TX2, 14), (RX4, TX4, 1), (RX5, TX5, 14), (RX6, TX6, 2), (RX7, TX7, 4), (RX8, TX8, 7), (RX9, TX9, 35)]
