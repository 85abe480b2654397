/-! the world of the house and of the reference: 56 cells; the numbers of the methods; facts out of the tables -/
def SHP : List Cs := [.inl (7, [some 1, some 2, some 3, some 4, some 5, some 6, some 7]), .inl (0, [some 8, some 9, none]), .inl (6, [some 10, some 11, some 12, none]), .inl (2, [some 1, some 13, some 14, some 15, some 16, some 17, none, some 18, some 19, some 20, some 21, none, some 22, none]), .inl (4, [some 1, some 3, some 23, some 24, none, some 25, some 26, some 27, some 28, none, some 29, none, none, none]), .inl (3, [some 30]), .inl (5, [some 31, none]), .inl (1, [some 32, none, none]), .inr (0, 5002), .inr (0, 501), .inr (3, 300), .inr (0, 300), .inr (0, 300), .inr (0, 60), .inr (0, 60), .inr (0, 60), .inr (0, 60), .inr (0, 60), .inr (0, 60), .inr (0, 8), .inr (0, 480), .inr (0, 480), .inr (0, 60), .inr (0, 8), .inr (2, 8), .inr (0, 48), .inr (0, 48), .inr (0, 48), .inr (0, 48), .inr (2, 802), .inr (0, 1120), .inr (0, 1200), .inr (0, 100), .inl (8, [none, some 34, some 35, none, none, none, none, some 36, none, some 37, some 38, some 39, none, some 40, some 41, some 42, some 43, some 44, some 45, some 46, some 47, none, none, none, some 48, some 49, none, some 50, some 51, some 52, some 53, some 54, none, some 55, none]), .inr (0, 500), .inr (0, 500), .inr (0, 100), .inr (0, 300), .inr (0, 300), .inr (3, 300), .inr (0, 60), .inr (0, 60), .inr (0, 60), .inr (0, 60), .inr (0, 60), .inr (0, 4), .inr (0, 240), .inr (0, 240), .inr (0, 8), .inr (2, 8), .inr (0, 48), .inr (0, 48), .inr (0, 48), .inr (0, 48), .inr (1, 1120), .inr (1, 1200)]
def sunM (i : Int) : Int := ([31, 28, 31, 30, 31, 30, 31, 31, 30, 31, 30, 31] : List Int).getD i.toNat 0
def WV (k : Nat × (Int → Int)) : Vw := (SHP, fun q => if q = 1000 then some k else if q = 1001 then some (12, sunM) else none)
theorem sh_0 (k : Nat × (Int → Int)) : (WV k).1[0]? = some (.inl (7, [some 1, some 2, some 3, some 4, some 5, some 6, some 7])) := rfl
theorem sh_1 (k : Nat × (Int → Int)) : (WV k).1[1]? = some (.inl (0, [some 8, some 9, none])) := rfl
theorem sh_2 (k : Nat × (Int → Int)) : (WV k).1[2]? = some (.inl (6, [some 10, some 11, some 12, none])) := rfl
theorem sh_3 (k : Nat × (Int → Int)) : (WV k).1[3]? = some (.inl (2, [some 1, some 13, some 14, some 15, some 16, some 17, none, some 18, some 19, some 20, some 21, none, some 22, none])) := rfl
theorem sh_4 (k : Nat × (Int → Int)) : (WV k).1[4]? = some (.inl (4, [some 1, some 3, some 23, some 24, none, some 25, some 26, some 27, some 28, none, some 29, none, none, none])) := rfl
theorem sh_5 (k : Nat × (Int → Int)) : (WV k).1[5]? = some (.inl (3, [some 30])) := rfl
theorem sh_6 (k : Nat × (Int → Int)) : (WV k).1[6]? = some (.inl (5, [some 31, none])) := rfl
theorem sh_7 (k : Nat × (Int → Int)) : (WV k).1[7]? = some (.inl (1, [some 32, none, none])) := rfl
theorem sh_8 (k : Nat × (Int → Int)) : (WV k).1[8]? = some (.inr (0, 5002)) := rfl
theorem al_8 (k : Nat × (Int → Int)) : jalen (WV k) 8 = some 5002 := rfl
theorem sh_9 (k : Nat × (Int → Int)) : (WV k).1[9]? = some (.inr (0, 501)) := rfl
theorem al_9 (k : Nat × (Int → Int)) : jalen (WV k) 9 = some 501 := rfl
theorem sh_10 (k : Nat × (Int → Int)) : (WV k).1[10]? = some (.inr (3, 300)) := rfl
theorem al_10 (k : Nat × (Int → Int)) : jalen (WV k) 10 = some 300 := rfl
theorem sh_11 (k : Nat × (Int → Int)) : (WV k).1[11]? = some (.inr (0, 300)) := rfl
theorem al_11 (k : Nat × (Int → Int)) : jalen (WV k) 11 = some 300 := rfl
theorem sh_12 (k : Nat × (Int → Int)) : (WV k).1[12]? = some (.inr (0, 300)) := rfl
theorem al_12 (k : Nat × (Int → Int)) : jalen (WV k) 12 = some 300 := rfl
theorem sh_13 (k : Nat × (Int → Int)) : (WV k).1[13]? = some (.inr (0, 60)) := rfl
theorem al_13 (k : Nat × (Int → Int)) : jalen (WV k) 13 = some 60 := rfl
theorem sh_14 (k : Nat × (Int → Int)) : (WV k).1[14]? = some (.inr (0, 60)) := rfl
theorem al_14 (k : Nat × (Int → Int)) : jalen (WV k) 14 = some 60 := rfl
theorem sh_15 (k : Nat × (Int → Int)) : (WV k).1[15]? = some (.inr (0, 60)) := rfl
theorem al_15 (k : Nat × (Int → Int)) : jalen (WV k) 15 = some 60 := rfl
theorem sh_16 (k : Nat × (Int → Int)) : (WV k).1[16]? = some (.inr (0, 60)) := rfl
theorem al_16 (k : Nat × (Int → Int)) : jalen (WV k) 16 = some 60 := rfl
theorem sh_17 (k : Nat × (Int → Int)) : (WV k).1[17]? = some (.inr (0, 60)) := rfl
theorem al_17 (k : Nat × (Int → Int)) : jalen (WV k) 17 = some 60 := rfl
theorem sh_18 (k : Nat × (Int → Int)) : (WV k).1[18]? = some (.inr (0, 60)) := rfl
theorem al_18 (k : Nat × (Int → Int)) : jalen (WV k) 18 = some 60 := rfl
theorem sh_19 (k : Nat × (Int → Int)) : (WV k).1[19]? = some (.inr (0, 8)) := rfl
theorem al_19 (k : Nat × (Int → Int)) : jalen (WV k) 19 = some 8 := rfl
theorem sh_20 (k : Nat × (Int → Int)) : (WV k).1[20]? = some (.inr (0, 480)) := rfl
theorem al_20 (k : Nat × (Int → Int)) : jalen (WV k) 20 = some 480 := rfl
theorem sh_21 (k : Nat × (Int → Int)) : (WV k).1[21]? = some (.inr (0, 480)) := rfl
theorem al_21 (k : Nat × (Int → Int)) : jalen (WV k) 21 = some 480 := rfl
theorem sh_22 (k : Nat × (Int → Int)) : (WV k).1[22]? = some (.inr (0, 60)) := rfl
theorem al_22 (k : Nat × (Int → Int)) : jalen (WV k) 22 = some 60 := rfl
theorem sh_23 (k : Nat × (Int → Int)) : (WV k).1[23]? = some (.inr (0, 8)) := rfl
theorem al_23 (k : Nat × (Int → Int)) : jalen (WV k) 23 = some 8 := rfl
theorem sh_24 (k : Nat × (Int → Int)) : (WV k).1[24]? = some (.inr (2, 8)) := rfl
theorem al_24 (k : Nat × (Int → Int)) : jalen (WV k) 24 = some 8 := rfl
theorem sh_25 (k : Nat × (Int → Int)) : (WV k).1[25]? = some (.inr (0, 48)) := rfl
theorem al_25 (k : Nat × (Int → Int)) : jalen (WV k) 25 = some 48 := rfl
theorem sh_26 (k : Nat × (Int → Int)) : (WV k).1[26]? = some (.inr (0, 48)) := rfl
theorem al_26 (k : Nat × (Int → Int)) : jalen (WV k) 26 = some 48 := rfl
theorem sh_27 (k : Nat × (Int → Int)) : (WV k).1[27]? = some (.inr (0, 48)) := rfl
theorem al_27 (k : Nat × (Int → Int)) : jalen (WV k) 27 = some 48 := rfl
theorem sh_28 (k : Nat × (Int → Int)) : (WV k).1[28]? = some (.inr (0, 48)) := rfl
theorem al_28 (k : Nat × (Int → Int)) : jalen (WV k) 28 = some 48 := rfl
theorem sh_29 (k : Nat × (Int → Int)) : (WV k).1[29]? = some (.inr (2, 802)) := rfl
theorem al_29 (k : Nat × (Int → Int)) : jalen (WV k) 29 = some 802 := rfl
theorem sh_30 (k : Nat × (Int → Int)) : (WV k).1[30]? = some (.inr (0, 1120)) := rfl
theorem al_30 (k : Nat × (Int → Int)) : jalen (WV k) 30 = some 1120 := rfl
theorem sh_31 (k : Nat × (Int → Int)) : (WV k).1[31]? = some (.inr (0, 1200)) := rfl
theorem al_31 (k : Nat × (Int → Int)) : jalen (WV k) 31 = some 1200 := rfl
theorem sh_32 (k : Nat × (Int → Int)) : (WV k).1[32]? = some (.inr (0, 100)) := rfl
theorem al_32 (k : Nat × (Int → Int)) : jalen (WV k) 32 = some 100 := rfl
theorem sh_33 (k : Nat × (Int → Int)) : (WV k).1[33]? = some (.inl (8, [none, some 34, some 35, none, none, none, none, some 36, none, some 37, some 38, some 39, none, some 40, some 41, some 42, some 43, some 44, some 45, some 46, some 47, none, none, none, some 48, some 49, none, some 50, some 51, some 52, some 53, some 54, none, some 55, none])) := rfl
theorem sh_34 (k : Nat × (Int → Int)) : (WV k).1[34]? = some (.inr (0, 500)) := rfl
theorem al_34 (k : Nat × (Int → Int)) : jalen (WV k) 34 = some 500 := rfl
theorem sh_35 (k : Nat × (Int → Int)) : (WV k).1[35]? = some (.inr (0, 500)) := rfl
theorem al_35 (k : Nat × (Int → Int)) : jalen (WV k) 35 = some 500 := rfl
theorem sh_36 (k : Nat × (Int → Int)) : (WV k).1[36]? = some (.inr (0, 100)) := rfl
theorem al_36 (k : Nat × (Int → Int)) : jalen (WV k) 36 = some 100 := rfl
theorem sh_37 (k : Nat × (Int → Int)) : (WV k).1[37]? = some (.inr (0, 300)) := rfl
theorem al_37 (k : Nat × (Int → Int)) : jalen (WV k) 37 = some 300 := rfl
theorem sh_38 (k : Nat × (Int → Int)) : (WV k).1[38]? = some (.inr (0, 300)) := rfl
theorem al_38 (k : Nat × (Int → Int)) : jalen (WV k) 38 = some 300 := rfl
theorem sh_39 (k : Nat × (Int → Int)) : (WV k).1[39]? = some (.inr (3, 300)) := rfl
theorem al_39 (k : Nat × (Int → Int)) : jalen (WV k) 39 = some 300 := rfl
theorem sh_40 (k : Nat × (Int → Int)) : (WV k).1[40]? = some (.inr (0, 60)) := rfl
theorem al_40 (k : Nat × (Int → Int)) : jalen (WV k) 40 = some 60 := rfl
theorem sh_41 (k : Nat × (Int → Int)) : (WV k).1[41]? = some (.inr (0, 60)) := rfl
theorem al_41 (k : Nat × (Int → Int)) : jalen (WV k) 41 = some 60 := rfl
theorem sh_42 (k : Nat × (Int → Int)) : (WV k).1[42]? = some (.inr (0, 60)) := rfl
theorem al_42 (k : Nat × (Int → Int)) : jalen (WV k) 42 = some 60 := rfl
theorem sh_43 (k : Nat × (Int → Int)) : (WV k).1[43]? = some (.inr (0, 60)) := rfl
theorem al_43 (k : Nat × (Int → Int)) : jalen (WV k) 43 = some 60 := rfl
theorem sh_44 (k : Nat × (Int → Int)) : (WV k).1[44]? = some (.inr (0, 60)) := rfl
theorem al_44 (k : Nat × (Int → Int)) : jalen (WV k) 44 = some 60 := rfl
theorem sh_45 (k : Nat × (Int → Int)) : (WV k).1[45]? = some (.inr (0, 4)) := rfl
theorem al_45 (k : Nat × (Int → Int)) : jalen (WV k) 45 = some 4 := rfl
theorem sh_46 (k : Nat × (Int → Int)) : (WV k).1[46]? = some (.inr (0, 240)) := rfl
theorem al_46 (k : Nat × (Int → Int)) : jalen (WV k) 46 = some 240 := rfl
theorem sh_47 (k : Nat × (Int → Int)) : (WV k).1[47]? = some (.inr (0, 240)) := rfl
theorem al_47 (k : Nat × (Int → Int)) : jalen (WV k) 47 = some 240 := rfl
theorem sh_48 (k : Nat × (Int → Int)) : (WV k).1[48]? = some (.inr (0, 8)) := rfl
theorem al_48 (k : Nat × (Int → Int)) : jalen (WV k) 48 = some 8 := rfl
theorem sh_49 (k : Nat × (Int → Int)) : (WV k).1[49]? = some (.inr (2, 8)) := rfl
theorem al_49 (k : Nat × (Int → Int)) : jalen (WV k) 49 = some 8 := rfl
theorem sh_50 (k : Nat × (Int → Int)) : (WV k).1[50]? = some (.inr (0, 48)) := rfl
theorem al_50 (k : Nat × (Int → Int)) : jalen (WV k) 50 = some 48 := rfl
theorem sh_51 (k : Nat × (Int → Int)) : (WV k).1[51]? = some (.inr (0, 48)) := rfl
theorem al_51 (k : Nat × (Int → Int)) : jalen (WV k) 51 = some 48 := rfl
theorem sh_52 (k : Nat × (Int → Int)) : (WV k).1[52]? = some (.inr (0, 48)) := rfl
theorem al_52 (k : Nat × (Int → Int)) : jalen (WV k) 52 = some 48 := rfl
theorem sh_53 (k : Nat × (Int → Int)) : (WV k).1[53]? = some (.inr (0, 48)) := rfl
theorem al_53 (k : Nat × (Int → Int)) : jalen (WV k) 53 = some 48 := rfl
theorem sh_54 (k : Nat × (Int → Int)) : (WV k).1[54]? = some (.inr (1, 1120)) := rfl
theorem al_54 (k : Nat × (Int → Int)) : jalen (WV k) 54 = some 1120 := rfl
theorem sh_55 (k : Nat × (Int → Int)) : (WV k).1[55]? = some (.inr (1, 1200)) := rfl
theorem al_55 (k : Nat × (Int → Int)) : jalen (WV k) 55 = some 1200 := rfl
theorem shn_1000 (k : Nat × (Int → Int)) : (WV k).1[1000]? = none := rfl
theorem shn_1001 (k : Nat × (Int → Int)) : (WV k).1[1001]? = none := rfl
theorem al_1000 (k : Nat × (Int → Int)) : jalen (WV k) 1000 = some k.1 := rfl
theorem al_1001 (k : Nat × (Int → Int)) : jalen (WV k) 1001 = some 12 := rfl
abbrev mX0_elapsedDays : Nat := 0
abbrev mX0_countedYearStart : Nat := 1
abbrev mX0_firstYear : Nat := 2
abbrev mX0_lastYear : Nat := 3
abbrev mX0_hasYear : Nat := 4
abbrev mX0_hasMonth : Nat := 5
abbrev mX0_hasDate : Nat := 6
abbrev mX0_yearStart : Nat := 7
abbrev mX0_daysInYear : Nat := 8
abbrev mX0_monthsIn : Nat := 9
abbrev mX0_monthsAhead : Nat := 10
abbrev mX0_monthsInAll : Nat := 11
abbrev mX0_daysInMonth : Nat := 12
abbrev mX0_monthDays : Nat := 13
abbrev mX0_sunMonthDays : Nat := 14
abbrev mX0_countedMonthDays : Nat := 15
abbrev mX0_evenMonthDays : Nat := 16
abbrev mX0_monthStart : Nat := 17
abbrev mX0_yearOf : Nat := 18
abbrev mX0_yearOfMonth : Nat := 19
abbrev mX0_monthOf : Nat := 20
abbrev mX0_dayOf : Nat := 21
abbrev mX0_weekdayOf : Nat := 22
abbrev mX0_monthIndex : Nat := 23
abbrev mX0_dayInMonth : Nat := 24
abbrev mX0_anniversary : Nat := 25
abbrev mX0_firstDayIn : Nat := 26
abbrev mX0_lastDayIn : Nat := 27
abbrev mX0_movableDay : Nat := 28
abbrev mX0_oldStyleShift : Nat := 29
abbrev mX0_newStyleShift : Nat := 30
abbrev mX0_startOfRow : Nat := 31
abbrev mX0_mayFollow : Nat := 32
abbrev mX0_addRow : Nat := 33
abbrev mX0_dropRow : Nat := 34
abbrev mX1_note : Nat := 35
abbrev mX1_takeBack : Nat := 36
abbrev mX2_has : Nat := 37
abbrev mX2_isRuleRight : Nat := 38
abbrev mX2_within : Nat := 39
abbrev mX2_add : Nat := 40
abbrev mX2_drop : Nat := 41
abbrev mX2_changed : Nat := 42
abbrev mX2_inOrder : Nat := 43
abbrev mX2_rankOf : Nat := 44
abbrev mX2_placedDay : Nat := 45
abbrev mX2_unmovedDay : Nat := 46
abbrev mX2_countOn : Nat := 47
abbrev mX2_place : Nat := 48
abbrev mX2_sortByRank : Nat := 49
abbrev mX2_settle : Nat := 50
abbrev mX2_ruleDay : Nat := 51
abbrev mX2_fixedDay : Nat := 52
abbrev mX2_weekdayDay : Nat := 53
abbrev mX3_ageOn : Nat := 54
abbrev mX3_dayOfNewMoon : Nat := 55
abbrev mX3_isNewOn : Nat := 56
abbrev mX3_floorOf : Nat := 57
abbrev mX3_wave : Nat := 58
abbrev mX3_estimatedAge : Nat := 59
abbrev mX3_lightOn : Nat := 60
abbrev mX4_lineOf : Nat := 61
abbrev mX4_begin : Nat := 62
abbrev mX4_put : Nat := 63
abbrev mX4_putNumber : Nat := 64
abbrev mX4_putTwoDigits : Nat := 65
abbrev mX5_has : Nat := 66
abbrev mX5_add : Nat := 67
abbrev mX5_drop : Nat := 68
abbrev mX5_addRule : Nat := 69
abbrev mX5_dropRule : Nat := 70
abbrev mX5_rulesOf : Nat := 71
abbrev mX5_lookAt : Nat := 72
abbrev mX5_markFeasts : Nat := 73
abbrev mX5_isFree : Nat := 74
abbrev mX5_rests : Nat := 75
abbrev mX6_append : Nat := 76
abbrev mX6_sumOf : Nat := 77
abbrev mX6_numberAt : Nat := 78
abbrev mX6_countBooks : Nat := 79
abbrev mX7_monthBy : Nat := 80
abbrev mX7_countFor : Nat := 81
abbrev mX7_add : Nat := 82
abbrev mX7_drop : Nat := 83
abbrev mX8_toDay : Nat := 84
abbrev mX8_fromDay : Nat := 85
abbrev mX8_monthLength : Nat := 86
abbrev mX8_yearLength : Nat := 87
abbrev mX8_months : Nat := 88
abbrev mX8_addMonths : Nat := 89
abbrev mX8_addYears : Nat := 90
abbrev mX8_difference : Nat := 91
abbrev mX8_birthday : Nat := 92
abbrev mX8_row : Nat := 93
abbrev mX8_name : Nat := 94
abbrev mX8_monthNamed : Nat := 95
abbrev mX8_spellings : Nat := 96
abbrev mX8_feast : Nat := 97
abbrev mX8_feastDay : Nat := 98
abbrev mX8_moved : Nat := 99
abbrev mX8_movable : Nat := 100
abbrev mX8_feastOn : Nat := 101
abbrev mX8_age : Nat := 102
abbrev mX8_newMoon : Nat := 103
abbrev mX8_estimate : Nat := 104
abbrev mX8_light : Nat := 105
abbrev mX8_parish : Nat := 106
abbrev mX8_rule : Nat := 107
abbrev mX8_isOff : Nat := 108
abbrev mX8_worked : Nat := 109
abbrev mX8_nextOff : Nat := 110
abbrev mX8_inRow : Nat := 111
abbrev mX8_page : Nat := 112
abbrev mX8_sign : Nat := 113
abbrev mX8_book : Nat := 114
abbrev mX8_load : Nat := 115
abbrev mX8_byteAt : Nat := 116
abbrev mX8_spoil : Nat := 117
abbrev mX8_wipe : Nat := 118
abbrev mX8_verify : Nat := 119
abbrev mX8_undo : Nat := 120
abbrev mX8_count : Nat := 121
abbrev mX8_isCalendar : Nat := 122
abbrev mX8_isDay : Nat := 123
abbrev mX8_dayOrOutside : Nat := 124
abbrev mX8_wholeYears : Nat := 125
abbrev mX8_wholeMonths : Nat := 126
abbrev mX8_writeDays : Nat := 127
abbrev mX8_writeFeasts : Nat := 128
abbrev mX9_in : Nat := 129
abbrev mX9_isDay : Nat := 130
abbrev mX9_rest : Nat := 131
abbrev mX9_firstYear : Nat := 132
abbrev mX9_isYear : Nat := 133
abbrev mX9_isLeap : Nat := 134
abbrev mX9_isMoonLeap : Nat := 135
abbrev mX9_moonLeaps : Nat := 136
abbrev mX9_isLong : Nat := 137
abbrev mX9_elapsed : Nat := 138
abbrev mX9_newYear : Nat := 139
abbrev mX9_start : Nat := 140
abbrev mX9_monthsIn : Nat := 141
abbrev mX9_lengthOf : Nat := 142
abbrev mX9_monthStart : Nat := 143
abbrev mX9_isMonth : Nat := 144
abbrev mX9_yearOf : Nat := 145
abbrev mX9_find : Nat := 146
abbrev mX9_isCalendar : Nat := 147
abbrev mX9_toDay : Nat := 148
abbrev mX9_fromDay : Nat := 149
abbrev mX9_monthLength : Nat := 150
abbrev mX9_yearLength : Nat := 151
abbrev mX9_months : Nat := 152
abbrev mX9_cut : Nat := 153
abbrev mX9_monthsOn : Nat := 154
abbrev mX9_added : Nat := 155
abbrev mX9_addMonths : Nat := 156
abbrev mX9_addYears : Nat := 157
abbrev mX9_difference : Nat := 158
abbrev mX9_birthday : Nat := 159
abbrev mX9_laid : Nat := 160
abbrev mX9_row : Nat := 161
abbrev mX9_namedBy : Nat := 162
abbrev mX9_name : Nat := 163
abbrev mX9_monthNamed : Nat := 164
abbrev mX9_spellings : Nat := 165
abbrev mX9_isFeast : Nat := 166
abbrev mX9_feast : Nat := 167
abbrev mX9_movableDay : Nat := 168
abbrev mX9_movable : Nat := 169
abbrev mX9_fixed : Nat := 170
abbrev mX9_weekday : Nat := 171
abbrev mX9_forget : Nat := 172
abbrev mX9_kept : Nat := 173
abbrev mX9_place : Nat := 174
abbrev mX9_isTaken : Nat := 175
abbrev mX9_feastDay : Nat := 176
abbrev mX9_moved : Nat := 177
abbrev mX9_feastAt : Nat := 178
abbrev mX9_feastOn : Nat := 179
abbrev mX9_ageOf : Nat := 180
abbrev mX9_age : Nat := 181
abbrev mX9_newMoon : Nat := 182
abbrev mX9_floor : Nat := 183
abbrev mX9_wave : Nat := 184
abbrev mX9_estimated : Nat := 185
abbrev mX9_estimate : Nat := 186
abbrev mX9_light : Nat := 187
abbrev mX9_isNew : Nat := 188
abbrev mX9_isParish : Nat := 189
abbrev mX9_parish : Nat := 190
abbrev mX9_rule : Nat := 191
abbrev mX9_isFree : Nat := 192
abbrev mX9_isOffDay : Nat := 193
abbrev mX9_isOff : Nat := 194
abbrev mX9_worked : Nat := 195
abbrev mX9_nextOff : Nat := 196
abbrev mX9_inRow : Nat := 197
abbrev mX9_write : Nat := 198
abbrev mX9_writeNumber : Nat := 199
abbrev mX9_writeDay : Nat := 200
abbrev mX9_letterOf : Nat := 201
abbrev mX9_page : Nat := 202
abbrev mX9_sign : Nat := 203
abbrev mX9_put : Nat := 204
abbrev mX9_sum : Nat := 205
abbrev mX9_book : Nat := 206
abbrev mX9_load : Nat := 207
abbrev mX9_byteAt : Nat := 208
abbrev mX9_spoil : Nat := 209
abbrev mX9_wipe : Nat := 210
abbrev mX9_verify : Nat := 211
abbrev mX9_undo : Nat := 212
abbrev mX9_count : Nat := 213
abbrev mJ6_rotateLeft_7cf53 : Nat := 214
abbrev mJ9_floorMod_7cf53 : Nat := 215
abbrev mJ9_floorMod_f86c9 : Nat := 216
abbrev mJ9_max_7cf53 : Nat := 217
abbrev mJ9_min_7cf53 : Nat := 218
abbrev mJ0_length_8abf5 : Nat := 219
abbrev mJ0_charAt_5068e : Nat := 220
abbrev mJ7_fill_53178 : Nat := 221
theorem jf_0_9 : jfOf 0 9 = some (0, 0, 3, 83) := by decide +kernel
theorem jf_0_15 : jfOf 0 15 = some (0, 1, 3, 84) := by decide +kernel
theorem jf_0_25 : jfOf 0 25 = some (0, 2, 1, 85) := by decide +kernel
theorem jf_8_140 : jfOf 8 140 = some (0, 2, 1, 86) := by decide +kernel
theorem jf_7_11 : jfOf 7 11 = some (6, 0, 3, 101) := by decide +kernel
theorem jf_7_15 : jfOf 7 15 = some (6, 1, 3, 102) := by decide +kernel
theorem jf_7_19 : jfOf 7 19 = some (6, 2, 3, 103) := by decide +kernel
theorem jf_7_22 : jfOf 7 22 = some (6, 3, 1, 104) := by decide +kernel
theorem jf_8_159 : jfOf 8 159 = some (6, 3, 1, 105) := by decide +kernel
theorem jf_2_42 : jfOf 2 42 = some (2, 0, 3, 125) := by decide +kernel
theorem jf_2_11 : jfOf 2 11 = some (2, 1, 3, 126) := by decide +kernel
theorem jf_2_15 : jfOf 2 15 = some (2, 2, 3, 127) := by decide +kernel
theorem jf_2_18 : jfOf 2 18 = some (2, 3, 3, 128) := by decide +kernel
theorem jf_2_21 : jfOf 2 21 = some (2, 4, 3, 129) := by decide +kernel
theorem jf_2_24 : jfOf 2 24 = some (2, 5, 3, 130) := by decide +kernel
theorem jf_2_52 : jfOf 2 52 = some (2, 6, 1, 131) := by decide +kernel
theorem jf_8_170 : jfOf 8 170 = some (2, 6, 1, 132) := by decide +kernel
theorem jf_2_27 : jfOf 2 27 = some (2, 7, 3, 133) := by decide +kernel
theorem jf_2_30 : jfOf 2 30 = some (2, 8, 3, 134) := by decide +kernel
theorem jf_2_33 : jfOf 2 33 = some (2, 9, 3, 135) := by decide +kernel
theorem jf_2_36 : jfOf 2 36 = some (2, 10, 3, 136) := by decide +kernel
theorem jf_2_70 : jfOf 2 70 = some (2, 11, 1, 137) := by decide +kernel
theorem jf_2_39 : jfOf 2 39 = some (2, 12, 3, 138) := by decide +kernel
theorem jf_2_85 : jfOf 2 85 = some (2, 13, 1, 139) := by decide +kernel
theorem jf_5_34 : jfOf 5 34 = some (4, 0, 3, 175) := by decide +kernel
theorem jf_5_38 : jfOf 5 38 = some (4, 1, 3, 176) := by decide +kernel
theorem jf_5_11 : jfOf 5 11 = some (4, 2, 3, 177) := by decide +kernel
theorem jf_5_15 : jfOf 5 15 = some (4, 3, 3, 178) := by decide +kernel
theorem jf_5_42 : jfOf 5 42 = some (4, 4, 1, 179) := by decide +kernel
theorem jf_8_212 : jfOf 8 212 = some (4, 4, 1, 180) := by decide +kernel
theorem jf_5_19 : jfOf 5 19 = some (4, 5, 3, 181) := by decide +kernel
theorem jf_5_22 : jfOf 5 22 = some (4, 6, 3, 182) := by decide +kernel
theorem jf_5_25 : jfOf 5 25 = some (4, 7, 3, 183) := by decide +kernel
theorem jf_5_28 : jfOf 5 28 = some (4, 8, 3, 184) := by decide +kernel
theorem jf_5_46 : jfOf 5 46 = some (4, 9, 1, 185) := by decide +kernel
theorem jf_8_217 : jfOf 8 217 = some (4, 9, 1, 186) := by decide +kernel
theorem jf_5_31 : jfOf 5 31 = some (4, 10, 3, 187) := by decide +kernel
theorem jf_5_63 : jfOf 5 63 = some (4, 11, 1, 188) := by decide +kernel
theorem jf_5_70 : jfOf 5 70 = some (4, 12, 1, 189) := by decide +kernel
theorem jf_5_53 : jfOf 5 53 = some (4, 13, 2, 190) := by decide +kernel
theorem jf_4_9 : jfOf 4 9 = some (3, 0, 3, 228) := by decide +kernel
theorem jf_8_257 : jfOf 8 257 = some (3, 0, 3, 229) := by decide +kernel
theorem jf_6_11 : jfOf 6 11 = some (5, 0, 3, 239) := by decide +kernel
theorem jf_8_276 : jfOf 8 276 = some (5, 0, 3, 240) := by decide +kernel
theorem jf_6_15 : jfOf 6 15 = some (5, 1, 1, 241) := by decide +kernel
theorem jf_8_264 : jfOf 8 264 = some (5, 1, 1, 242) := by decide +kernel
theorem jf_1_11 : jfOf 1 11 = some (1, 0, 3, 254) := by decide +kernel
theorem jf_1_15 : jfOf 1 15 = some (1, 1, 1, 255) := by decide +kernel
theorem jf_1_19 : jfOf 1 19 = some (1, 2, 1, 256) := by decide +kernel
theorem jf_8_297 : jfOf 8 297 = some (1, 2, 1, 257) := by decide +kernel
theorem jf_8_10 : jfOf 8 10 = some (7, 0, 3, 265) := by decide +kernel
theorem jf_8_19 : jfOf 8 19 = some (7, 1, 3, 266) := by decide +kernel
theorem jf_8_28 : jfOf 8 28 = some (7, 2, 3, 267) := by decide +kernel
theorem jf_8_37 : jfOf 8 37 = some (7, 3, 3, 268) := by decide +kernel
theorem jf_8_44 : jfOf 8 44 = some (7, 4, 3, 269) := by decide +kernel
theorem jf_8_51 : jfOf 8 51 = some (7, 5, 3, 270) := by decide +kernel
theorem jf_8_58 : jfOf 8 58 = some (7, 6, 3, 271) := by decide +kernel
theorem jf_9_85 : jfOf 9 85 = some (8, 0, 1, 926) := by decide +kernel
theorem jf_9_7 : jfOf 9 7 = some (8, 1, 3, 927) := by decide +kernel
theorem jf_9_13 : jfOf 9 13 = some (8, 2, 3, 928) := by decide +kernel
theorem jf_9_126 : jfOf 9 126 = some (8, 3, 1, 929) := by decide +kernel
theorem jf_9_129 : jfOf 9 129 = some (8, 4, 1, 930) := by decide +kernel
theorem jf_9_132 : jfOf 9 132 = some (8, 5, 1, 931) := by decide +kernel
theorem jf_9_170 : jfOf 9 170 = some (8, 6, 1, 932) := by decide +kernel
theorem jf_9_16 : jfOf 9 16 = some (8, 7, 3, 933) := by decide +kernel
theorem jf_9_177 : jfOf 9 177 = some (8, 8, 1, 934) := by decide +kernel
theorem jf_9_19 : jfOf 9 19 = some (8, 9, 3, 935) := by decide +kernel
theorem jf_9_22 : jfOf 9 22 = some (8, 10, 3, 936) := by decide +kernel
theorem jf_9_25 : jfOf 9 25 = some (8, 11, 3, 937) := by decide +kernel
theorem jf_9_184 : jfOf 9 184 = some (8, 12, 1, 938) := by decide +kernel
theorem jf_9_29 : jfOf 9 29 = some (8, 13, 3, 939) := by decide +kernel
theorem jf_9_32 : jfOf 9 32 = some (8, 14, 3, 940) := by decide +kernel
theorem jf_9_35 : jfOf 9 35 = some (8, 15, 3, 941) := by decide +kernel
theorem jf_9_38 : jfOf 9 38 = some (8, 16, 3, 942) := by decide +kernel
theorem jf_9_41 : jfOf 9 41 = some (8, 17, 3, 943) := by decide +kernel
theorem jf_9_44 : jfOf 9 44 = some (8, 18, 3, 944) := by decide +kernel
theorem jf_9_47 : jfOf 9 47 = some (8, 19, 3, 945) := by decide +kernel
theorem jf_9_50 : jfOf 9 50 = some (8, 20, 3, 946) := by decide +kernel
theorem jf_9_200 : jfOf 9 200 = some (8, 21, 1, 947) := by decide +kernel
theorem jf_9_196 : jfOf 9 196 = some (8, 22, 2, 948) := by decide +kernel
theorem jf_9_293 : jfOf 9 293 = some (8, 23, 1, 949) := by decide +kernel
theorem jf_9_53 : jfOf 9 53 = some (8, 24, 3, 950) := by decide +kernel
theorem jf_9_56 : jfOf 9 56 = some (8, 25, 3, 951) := by decide +kernel
theorem jf_9_299 : jfOf 9 299 = some (8, 26, 1, 952) := by decide +kernel
theorem jf_9_60 : jfOf 9 60 = some (8, 27, 3, 953) := by decide +kernel
theorem jf_9_63 : jfOf 9 63 = some (8, 28, 3, 954) := by decide +kernel
theorem jf_9_66 : jfOf 9 66 = some (8, 29, 3, 955) := by decide +kernel
theorem jf_9_69 : jfOf 9 69 = some (8, 30, 3, 956) := by decide +kernel
theorem jf_9_72 : jfOf 9 72 = some (8, 31, 3, 957) := by decide +kernel
theorem jf_9_315 : jfOf 9 315 = some (8, 32, 2, 958) := by decide +kernel
theorem jf_9_76 : jfOf 9 76 = some (8, 33, 3, 959) := by decide +kernel
theorem jf_9_330 : jfOf 9 330 = some (8, 34, 1, 960) := by decide +kernel
theorem jc_0_18 : jcOf 0 18 = some (1, 1, 1, 0, 0) := by decide +kernel
theorem jc_0_22 : jcOf 0 22 = some (0, 1, 1, 0, 0) := by decide +kernel
theorem jc_2_46 : jcOf 2 46 = some (221, 2, 0, 0, 0) := by decide +kernel
theorem jc_4_13 : jcOf 4 13 = some (221, 2, 0, 0, 0) := by decide +kernel
theorem jc_10_13 : jcOf 10 13 = some (84, 4, 1, 1, 7) := by decide +kernel
theorem jc_8_62 : jcOf 8 62 = some (122, 1, 1, 0, 0) := by decide +kernel
theorem jc_8_66 : jcOf 8 66 = some (5, 3, 1, 1, 0) := by decide +kernel
theorem jc_0_35 : jcOf 0 35 = some (4, 2, 1, 1, 0) := by decide +kernel
theorem jc_0_29 : jcOf 0 29 = some (2, 1, 1, 0, 0) := by decide +kernel
theorem jc_0_32 : jcOf 0 32 = some (3, 1, 1, 1, 0) := by decide +kernel
theorem jc_0_39 : jcOf 0 39 = some (9, 2, 1, 1, 0) := by decide +kernel
theorem jc_0_46 : jcOf 0 46 = some (7, 2, 1, 1, 0) := by decide +kernel
theorem jc_0_43 : jcOf 0 43 = some (31, 1, 1, 1, 0) := by decide +kernel
theorem jc_0_49 : jcOf 0 49 = some (218, 2, 1, 0, 0) := by decide +kernel
theorem jc_8_70 : jcOf 8 70 = some (12, 3, 1, 1, 0) := by decide +kernel
theorem jc_0_57 : jcOf 0 57 = some (13, 4, 1, 1, 0) := by decide +kernel
theorem jc_0_61 : jcOf 0 61 = some (14, 2, 1, 0, 0) := by decide +kernel
theorem jc_0_64 : jcOf 0 64 = some (15, 2, 1, 0, 0) := by decide +kernel
theorem jc_8_74 : jcOf 8 74 = some (17, 3, 1, 1, 0) := by decide +kernel
theorem jc_0_70 : jcOf 0 70 = some (16, 1, 1, 0, 0) := by decide +kernel
theorem jc_8_77 : jcOf 8 77 = some (124, 1, 1, 0, 0) := by decide +kernel
theorem jc_8_81 : jcOf 8 81 = some (123, 1, 1, 0, 0) := by decide +kernel
theorem jc_10_18 : jcOf 10 18 = some (85, 3, 1, 1, 7) := by decide +kernel
theorem jc_8_84 : jcOf 8 84 = some (6, 2, 1, 1, 0) := by decide +kernel
theorem jc_8_88 : jcOf 8 88 = some (18, 2, 1, 1, 0) := by decide +kernel
theorem jc_8_92 : jcOf 8 92 = some (20, 2, 1, 1, 0) := by decide +kernel
theorem jc_0_73 : jcOf 0 73 = some (18, 2, 1, 1, 0) := by decide +kernel
theorem jc_8_95 : jcOf 8 95 = some (21, 2, 1, 1, 0) := by decide +kernel
theorem jc_0_76 : jcOf 0 76 = some (20, 2, 1, 1, 0) := by decide +kernel
theorem jc_0_79 : jcOf 0 79 = some (17, 3, 1, 1, 0) := by decide +kernel
theorem jc_8_98 : jcOf 8 98 = some (22, 2, 1, 1, 0) := by decide +kernel
theorem jc_10_23 : jcOf 10 23 = some (86, 3, 1, 1, 7) := by decide +kernel
theorem jc_10_27 : jcOf 10 27 = some (87, 2, 1, 1, 7) := by decide +kernel
theorem jc_8_101 : jcOf 8 101 = some (4, 2, 1, 1, 0) := by decide +kernel
theorem jc_8_104 : jcOf 8 104 = some (8, 2, 1, 1, 0) := by decide +kernel
theorem jc_10_32 : jcOf 10 32 = some (88, 2, 1, 1, 7) := by decide +kernel
theorem jc_8_107 : jcOf 8 107 = some (9, 2, 1, 1, 0) := by decide +kernel
theorem jc_10_36 : jcOf 10 36 = some (89, 3, 1, 1, 7) := by decide +kernel
theorem jc_8_112 : jcOf 8 112 = some (23, 2, 1, 1, 0) := by decide +kernel
theorem jc_0_54 : jcOf 0 54 = some (10, 2, 1, 1, 0) := by decide +kernel
theorem jc_8_115 : jcOf 8 115 = some (11, 1, 1, 1, 0) := by decide +kernel
theorem jc_8_118 : jcOf 8 118 = some (24, 3, 1, 1, 0) := by decide +kernel
theorem jc_0_83 : jcOf 0 83 = some (19, 2, 1, 1, 0) := by decide +kernel
theorem jc_0_86 : jcOf 0 86 = some (12, 3, 1, 1, 0) := by decide +kernel
theorem jc_10_40 : jcOf 10 40 = some (90, 3, 1, 1, 7) := by decide +kernel
theorem jc_8_121 : jcOf 8 121 = some (25, 3, 1, 1, 0) := by decide +kernel
theorem jc_0_89 : jcOf 0 89 = some (21, 2, 1, 1, 0) := by decide +kernel
theorem jc_10_44 : jcOf 10 44 = some (91, 4, 1, 1, 7) := by decide +kernel
theorem jc_8_124 : jcOf 8 124 = some (125, 3, 1, 1, 7) := by decide +kernel
theorem jc_8_300 : jcOf 8 300 = some (3, 1, 1, 1, 0) := by decide +kernel
theorem jc_8_241 : jcOf 8 241 = some (217, 2, 1, 0, 0) := by decide +kernel
theorem jc_8_127 : jcOf 8 127 = some (126, 3, 1, 1, 7) := by decide +kernel
theorem jc_10_48 : jcOf 10 48 = some (92, 3, 1, 1, 7) := by decide +kernel
theorem jc_8_130 : jcOf 8 130 = some (26, 1, 1, 1, 0) := by decide +kernel
theorem jc_0_92 : jcOf 0 92 = some (217, 2, 1, 0, 0) := by decide +kernel
theorem jc_8_133 : jcOf 8 133 = some (27, 1, 1, 1, 0) := by decide +kernel
theorem jc_10_52 : jcOf 10 52 = some (93, 2, 1, 1, 7) := by decide +kernel
theorem jc_8_136 : jcOf 8 136 = some (32, 1, 1, 1, 0) := by decide +kernel
theorem jc_8_144 : jcOf 8 144 = some (33, 2, 0, 1, 0) := by decide +kernel
theorem jc_8_148 : jcOf 8 148 = some (35, 1, 0, 1, 1) := by decide +kernel
theorem jc_1_22 : jcOf 1 22 = some (218, 2, 1, 0, 0) := by decide +kernel
theorem jc_10_58 : jcOf 10 58 = some (94, 3, 1, 1, 7) := by decide +kernel
theorem jc_8_152 : jcOf 8 152 = some (80, 2, 1, 1, 6) := by decide +kernel
theorem jc_8_156 : jcOf 8 156 = some (81, 2, 1, 1, 6) := by decide +kernel
theorem jc_8_162 : jcOf 8 162 = some (82, 3, 0, 1, 6) := by decide +kernel
theorem jc_10_63 : jcOf 10 63 = some (95, 2, 1, 1, 7) := by decide +kernel
theorem jc_10_68 : jcOf 10 68 = some (96, 1, 1, 1, 7) := by decide +kernel
theorem jc_10_73 : jcOf 10 73 = some (97, 5, 1, 1, 7) := by decide +kernel
theorem jc_8_166 : jcOf 8 166 = some (38, 4, 1, 1, 2) := by decide +kernel
theorem jc_2_56 : jcOf 2 56 = some (39, 3, 1, 0, 0) := by decide +kernel
theorem jc_2_60 : jcOf 2 60 = some (37, 1, 1, 1, 2) := by decide +kernel
theorem jc_8_171 : jcOf 8 171 = some (40, 5, 0, 1, 2) := by decide +kernel
theorem jc_2_64 : jcOf 2 64 = some (42, 0, 0, 1, 2) := by decide +kernel
theorem jc_2_67 : jcOf 2 67 = some (49, 0, 0, 1, 2) := by decide +kernel
theorem jc_10_78 : jcOf 10 78 = some (98, 2, 1, 1, 7) := by decide +kernel
theorem jc_8_174 : jcOf 8 174 = some (37, 1, 1, 1, 2) := by decide +kernel
theorem jc_8_177 : jcOf 8 177 = some (48, 1, 0, 1, 2) := by decide +kernel
theorem jc_2_73 : jcOf 2 73 = some (215, 2, 1, 0, 0) := by decide +kernel
theorem jc_2_79 : jcOf 2 79 = some (51, 2, 1, 1, 2) := by decide +kernel
theorem jc_2_93 : jcOf 2 93 = some (52, 4, 1, 1, 2) := by decide +kernel
theorem jc_2_108 : jcOf 2 108 = some (26, 1, 1, 1, 0) := by decide +kernel
theorem jc_2_111 : jcOf 2 111 = some (27, 1, 1, 1, 0) := by decide +kernel
theorem jc_2_114 : jcOf 2 114 = some (18, 2, 1, 1, 0) := by decide +kernel
theorem jc_2_117 : jcOf 2 117 = some (9, 2, 1, 1, 0) := by decide +kernel
theorem jc_2_120 : jcOf 2 120 = some (12, 3, 1, 1, 0) := by decide +kernel
theorem jc_2_124 : jcOf 2 124 = some (17, 3, 1, 1, 0) := by decide +kernel
theorem jc_2_97 : jcOf 2 97 = some (53, 4, 1, 1, 2) := by decide +kernel
theorem jc_2_100 : jcOf 2 100 = some (28, 2, 1, 1, 0) := by decide +kernel
theorem jc_0_96 : jcOf 0 96 = some (29, 2, 1, 0, 0) := by decide +kernel
theorem jc_0_99 : jcOf 0 99 = some (30, 2, 1, 0, 0) := by decide +kernel
theorem jc_0_102 : jcOf 0 102 = some (215, 2, 1, 0, 0) := by decide +kernel
theorem jc_2_105 : jcOf 2 105 = some (46, 1, 1, 1, 2) := by decide +kernel
theorem jc_2_88 : jcOf 2 88 = some (50, 1, 1, 1, 2) := by decide +kernel
theorem jc_8_180 : jcOf 8 180 = some (45, 1, 1, 1, 2) := by decide +kernel
theorem jc_10_82 : jcOf 10 82 = some (99, 2, 1, 1, 7) := by decide +kernel
theorem jc_8_183 : jcOf 8 183 = some (46, 1, 1, 1, 2) := by decide +kernel
theorem jc_10_86 : jcOf 10 86 = some (100, 2, 1, 1, 7) := by decide +kernel
theorem jc_8_186 : jcOf 8 186 = some (28, 2, 1, 1, 0) := by decide +kernel
theorem jc_10_90 : jcOf 10 90 = some (101, 2, 1, 1, 7) := by decide +kernel
theorem jc_8_189 : jcOf 8 189 = some (43, 1, 1, 1, 2) := by decide +kernel
theorem jc_10_94 : jcOf 10 94 = some (102, 1, 1, 1, 7) := by decide +kernel
theorem jc_8_192 : jcOf 8 192 = some (54, 1, 1, 0, 0) := by decide +kernel
theorem jc_3_15 : jcOf 3 15 = some (216, 2, 2, 0, 0) := by decide +kernel
theorem jc_10_99 : jcOf 10 99 = some (103, 1, 1, 1, 7) := by decide +kernel
theorem jc_8_197 : jcOf 8 197 = some (55, 1, 2, 0, 0) := by decide +kernel
theorem jc_10_103 : jcOf 10 103 = some (104, 1, 3, 1, 7) := by decide +kernel
theorem jc_8_203 : jcOf 8 203 = some (59, 1, 3, 0, 0) := by decide +kernel
theorem jc_3_33 : jcOf 3 33 = some (54, 1, 1, 0, 0) := by decide +kernel
theorem jc_3_45 : jcOf 3 45 = some (58, 1, 3, 0, 0) := by decide +kernel
theorem jc_3_21 : jcOf 3 21 = some (57, 1, 3, 0, 0) := by decide +kernel
theorem jc_10_108 : jcOf 10 108 = some (105, 1, 1, 1, 7) := by decide +kernel
theorem jc_8_209 : jcOf 8 209 = some (60, 1, 1, 0, 0) := by decide +kernel
theorem jc_3_74 : jcOf 3 74 = some (59, 1, 3, 0, 0) := by decide +kernel
theorem jc_10_112 : jcOf 10 112 = some (106, 2, 1, 1, 7) := by decide +kernel
theorem jc_8_213 : jcOf 8 213 = some (67, 2, 0, 1, 4) := by decide +kernel
theorem jc_10_117 : jcOf 10 117 = some (107, 4, 1, 1, 7) := by decide +kernel
theorem jc_8_216 : jcOf 8 216 = some (66, 1, 1, 1, 4) := by decide +kernel
theorem jc_8_220 : jcOf 8 220 = some (69, 4, 0, 1, 4) := by decide +kernel
theorem jc_8_224 : jcOf 8 224 = some (71, 1, 1, 1, 4) := by decide +kernel
theorem jc_10_121 : jcOf 10 121 = some (108, 2, 1, 1, 7) := by decide +kernel
theorem jc_8_227 : jcOf 8 227 = some (72, 3, 0, 1, 4) := by decide +kernel
theorem jc_5_49 : jcOf 5 49 = some (66, 1, 1, 1, 4) := by decide +kernel
theorem jc_5_57 : jcOf 5 57 = some (217, 2, 1, 0, 0) := by decide +kernel
theorem jc_5_67 : jcOf 5 67 = some (218, 2, 1, 0, 0) := by decide +kernel
theorem jc_5_73 : jcOf 5 73 = some (71, 1, 1, 1, 4) := by decide +kernel
theorem jc_5_77 : jcOf 5 77 = some (18, 2, 1, 1, 0) := by decide +kernel
theorem jc_5_82 : jcOf 5 82 = some (48, 1, 0, 1, 2) := by decide +kernel
theorem jc_5_88 : jcOf 5 88 = some (73, 2, 0, 1, 4) := by decide +kernel
theorem jc_5_92 : jcOf 5 92 = some (26, 1, 1, 1, 0) := by decide +kernel
theorem jc_5_95 : jcOf 5 95 = some (27, 1, 1, 1, 0) := by decide +kernel
theorem jc_5_98 : jcOf 5 98 = some (45, 1, 1, 1, 2) := by decide +kernel
theorem jc_8_231 : jcOf 8 231 = some (75, 1, 1, 1, 4) := by decide +kernel
theorem jc_5_101 : jcOf 5 101 = some (74, 1, 1, 1, 4) := by decide +kernel
theorem jc_10_125 : jcOf 10 125 = some (109, 3, 1, 1, 7) := by decide +kernel
theorem jc_10_129 : jcOf 10 129 = some (110, 2, 1, 1, 7) := by decide +kernel
theorem jc_8_236 : jcOf 8 236 = some (218, 2, 1, 0, 0) := by decide +kernel
theorem jc_10_133 : jcOf 10 133 = some (111, 2, 1, 1, 7) := by decide +kernel
theorem jc_10_137 : jcOf 10 137 = some (112, 4, 1, 1, 7) := by decide +kernel
theorem jc_8_244 : jcOf 8 244 = some (62, 2, 0, 1, 3) := by decide +kernel
theorem jc_4_19 : jcOf 4 19 = some (64, 3, 1, 1, 3) := by decide +kernel
theorem jc_4_35 : jcOf 4 35 = some (63, 3, 0, 1, 3) := by decide +kernel
theorem jc_4_25 : jcOf 4 25 = some (219, 0, 1, 3, 0) := by decide +kernel
theorem jc_4_31 : jcOf 4 31 = some (220, 1, 1, 3, 0) := by decide +kernel
theorem jc_8_247 : jcOf 8 247 = some (61, 2, 1, 0, 0) := by decide +kernel
theorem jc_8_250 : jcOf 8 250 = some (127, 3, 0, 1, 7) := by decide +kernel
theorem jc_8_303 : jcOf 8 303 = some (65, 3, 0, 1, 3) := by decide +kernel
theorem jc_8_270 : jcOf 8 270 = some (47, 1, 1, 1, 2) := by decide +kernel
theorem jc_8_306 : jcOf 8 306 = some (63, 3, 0, 1, 3) := by decide +kernel
theorem jc_8_309 : jcOf 8 309 = some (56, 1, 1, 0, 0) := by decide +kernel
theorem jc_8_253 : jcOf 8 253 = some (128, 4, 1, 1, 7) := by decide +kernel
theorem jc_8_312 : jcOf 8 312 = some (64, 3, 1, 1, 3) := by decide +kernel
theorem jc_8_315 : jcOf 8 315 = some (44, 1, 1, 1, 2) := by decide +kernel
theorem jc_10_141 : jcOf 10 141 = some (113, 2, 1, 1, 7) := by decide +kernel
theorem jc_10_145 : jcOf 10 145 = some (114, 2, 1, 1, 7) := by decide +kernel
theorem jc_8_261 : jcOf 8 261 = some (7, 2, 1, 1, 0) := by decide +kernel
theorem jc_8_267 : jcOf 8 267 = some (76, 2, 0, 1, 5) := by decide +kernel
theorem jc_8_273 : jcOf 8 273 = some (77, 2, 1, 1, 5) := by decide +kernel
theorem jc_6_19 : jcOf 6 19 = some (217, 2, 1, 0, 0) := by decide +kernel
theorem jc_6_25 : jcOf 6 25 = some (214, 2, 1, 0, 0) := by decide +kernel
theorem jc_10_149 : jcOf 10 149 = some (115, 2, 1, 1, 7) := by decide +kernel
theorem jc_10_153 : jcOf 10 153 = some (116, 1, 1, 1, 7) := by decide +kernel
theorem jc_10_157 : jcOf 10 157 = some (117, 2, 1, 1, 7) := by decide +kernel
theorem jc_10_161 : jcOf 10 161 = some (118, 0, 1, 1, 7) := by decide +kernel
theorem jc_10_166 : jcOf 10 166 = some (119, 0, 1, 1, 7) := by decide +kernel
theorem jc_8_279 : jcOf 8 279 = some (79, 0, 1, 1, 5) := by decide +kernel
theorem jc_6_31 : jcOf 6 31 = some (78, 2, 1, 1, 5) := by decide +kernel
theorem jc_6_34 : jcOf 6 34 = some (77, 2, 1, 1, 5) := by decide +kernel
theorem jc_10_170 : jcOf 10 170 = some (120, 0, 1, 1, 7) := by decide +kernel
theorem jc_8_283 : jcOf 8 283 = some (36, 0, 1, 1, 1) := by decide +kernel
theorem jc_8_286 : jcOf 8 286 = some (34, 0, 0, 1, 0) := by decide +kernel
theorem jc_8_289 : jcOf 8 289 = some (83, 0, 0, 1, 6) := by decide +kernel
theorem jc_8_292 : jcOf 8 292 = some (41, 0, 0, 1, 2) := by decide +kernel
theorem jc_8_293 : jcOf 8 293 = some (68, 0, 0, 1, 4) := by decide +kernel
theorem jc_8_294 : jcOf 8 294 = some (70, 0, 0, 1, 4) := by decide +kernel
theorem jc_10_174 : jcOf 10 174 = some (121, 1, 1, 1, 7) := by decide +kernel
theorem jc_10_17 : jcOf 10 17 = some (148, 4, 1, 1, 8) := by decide +kernel
theorem jc_9_142 : jcOf 9 142 = some (147, 1, 1, 0, 0) := by decide +kernel
theorem jc_9_138 : jcOf 9 138 = some (129, 3, 1, 0, 0) := by decide +kernel
theorem jc_9_145 : jcOf 9 145 = some (144, 3, 1, 1, 8) := by decide +kernel
theorem jc_9_120 : jcOf 9 120 = some (133, 2, 1, 1, 8) := by decide +kernel
theorem jc_9_81 : jcOf 9 81 = some (132, 1, 1, 0, 0) := by decide +kernel
theorem jc_9_123 : jcOf 9 123 = some (141, 2, 1, 1, 8) := by decide +kernel
theorem jc_9_106 : jcOf 9 106 = some (137, 1, 1, 0, 0) := by decide +kernel
theorem jc_9_109 : jcOf 9 109 = some (140, 2, 1, 0, 0) := by decide +kernel
theorem jc_9_100 : jcOf 9 100 = some (136, 1, 1, 0, 0) := by decide +kernel
theorem jc_9_89 : jcOf 9 89 = some (135, 1, 1, 0, 0) := by decide +kernel
theorem jc_9_103 : jcOf 9 103 = some (139, 1, 1, 0, 0) := by decide +kernel
theorem jc_9_97 : jcOf 9 97 = some (138, 1, 1, 0, 0) := by decide +kernel
theorem jc_9_93 : jcOf 9 93 = some (131, 2, 1, 0, 0) := by decide +kernel
theorem jc_9_116 : jcOf 9 116 = some (142, 3, 1, 1, 8) := by decide +kernel
theorem jc_9_112 : jcOf 9 112 = some (134, 2, 1, 0, 0) := by decide +kernel
theorem jc_9_148 : jcOf 9 148 = some (143, 3, 1, 1, 8) := by decide +kernel
theorem jc_9_151 : jcOf 9 151 = some (130, 1, 1, 0, 0) := by decide +kernel
theorem jc_10_22 : jcOf 10 22 = some (149, 3, 1, 1, 8) := by decide +kernel
theorem jc_9_155 : jcOf 9 155 = some (146, 2, 1, 1, 8) := by decide +kernel
theorem jc_9_135 : jcOf 9 135 = some (145, 2, 1, 0, 0) := by decide +kernel
theorem jc_10_26 : jcOf 10 26 = some (150, 3, 1, 1, 8) := by decide +kernel
theorem jc_10_31 : jcOf 10 31 = some (151, 2, 1, 1, 8) := by decide +kernel
theorem jc_10_35 : jcOf 10 35 = some (152, 2, 1, 1, 8) := by decide +kernel
theorem jc_10_39 : jcOf 10 39 = some (156, 3, 1, 1, 8) := by decide +kernel
theorem jc_9_166 : jcOf 9 166 = some (155, 5, 1, 1, 8) := by decide +kernel
theorem jc_9_158 : jcOf 9 158 = some (153, 4, 1, 1, 8) := by decide +kernel
theorem jc_9_162 : jcOf 9 162 = some (154, 2, 1, 1, 8) := by decide +kernel
theorem jc_10_43 : jcOf 10 43 = some (157, 3, 1, 1, 8) := by decide +kernel
theorem jc_10_47 : jcOf 10 47 = some (158, 4, 1, 1, 8) := by decide +kernel
theorem jc_10_51 : jcOf 10 51 = some (159, 3, 1, 1, 8) := by decide +kernel
theorem jc_10_55 : jcOf 10 55 = some (161, 2, 1, 1, 8) := by decide +kernel
theorem jc_9_173 : jcOf 9 173 = some (160, 1, 0, 1, 8) := by decide +kernel
theorem jc_10_62 : jcOf 10 62 = some (163, 3, 1, 1, 8) := by decide +kernel
theorem jc_9_180 : jcOf 9 180 = some (162, 2, 1, 1, 8) := by decide +kernel
theorem jc_10_67 : jcOf 10 67 = some (164, 2, 1, 1, 8) := by decide +kernel
theorem jc_10_72 : jcOf 10 72 = some (165, 1, 1, 1, 8) := by decide +kernel
theorem jc_10_77 : jcOf 10 77 = some (167, 5, 1, 1, 8) := by decide +kernel
theorem jc_9_187 : jcOf 9 187 = some (166, 1, 1, 1, 8) := by decide +kernel
theorem jc_9_190 : jcOf 9 190 = some (172, 0, 0, 1, 8) := by decide +kernel
theorem jc_10_89 : jcOf 10 89 = some (169, 2, 1, 1, 8) := by decide +kernel
theorem jc_9_193 : jcOf 9 193 = some (168, 2, 1, 1, 8) := by decide +kernel
theorem jc_10_81 : jcOf 10 81 = some (176, 2, 1, 1, 8) := by decide +kernel
theorem jc_9_216 : jcOf 9 216 = some (173, 1, 1, 1, 8) := by decide +kernel
theorem jc_9_203 : jcOf 9 203 = some (174, 2, 0, 1, 8) := by decide +kernel
theorem jc_9_207 : jcOf 9 207 = some (170, 4, 1, 1, 8) := by decide +kernel
theorem jc_9_210 : jcOf 9 210 = some (171, 4, 1, 1, 8) := by decide +kernel
theorem jc_9_213 : jcOf 9 213 = some (175, 2, 1, 1, 8) := by decide +kernel
theorem jc_10_85 : jcOf 10 85 = some (177, 2, 1, 1, 8) := by decide +kernel
theorem jc_10_93 : jcOf 10 93 = some (179, 2, 1, 1, 8) := by decide +kernel
theorem jc_9_219 : jcOf 9 219 = some (178, 2, 1, 1, 8) := by decide +kernel
theorem jc_10_98 : jcOf 10 98 = some (181, 1, 1, 1, 8) := by decide +kernel
theorem jc_9_228 : jcOf 9 228 = some (180, 1, 2, 0, 0) := by decide +kernel
theorem jc_10_102 : jcOf 10 102 = some (182, 1, 1, 1, 8) := by decide +kernel
theorem jc_10_107 : jcOf 10 107 = some (186, 1, 3, 1, 8) := by decide +kernel
theorem jc_9_279 : jcOf 9 279 = some (185, 1, 3, 0, 0) := by decide +kernel
theorem jc_9_252 : jcOf 9 252 = some (184, 1, 3, 0, 0) := by decide +kernel
theorem jc_9_232 : jcOf 9 232 = some (183, 1, 3, 0, 0) := by decide +kernel
theorem jc_10_111 : jcOf 10 111 = some (187, 1, 1, 1, 8) := by decide +kernel
theorem jc_10_116 : jcOf 10 116 = some (190, 2, 1, 1, 8) := by decide +kernel
theorem jc_10_120 : jcOf 10 120 = some (191, 4, 1, 1, 8) := by decide +kernel
theorem jc_9_296 : jcOf 9 296 = some (189, 1, 1, 1, 8) := by decide +kernel
theorem jc_10_124 : jcOf 10 124 = some (194, 2, 1, 1, 8) := by decide +kernel
theorem jc_9_305 : jcOf 9 305 = some (193, 2, 1, 1, 8) := by decide +kernel
theorem jc_9_302 : jcOf 9 302 = some (192, 2, 1, 1, 8) := by decide +kernel
theorem jc_10_128 : jcOf 10 128 = some (195, 3, 1, 1, 8) := by decide +kernel
theorem jc_10_132 : jcOf 10 132 = some (196, 2, 1, 1, 8) := by decide +kernel
theorem jc_10_136 : jcOf 10 136 = some (197, 2, 1, 1, 8) := by decide +kernel
theorem jc_10_140 : jcOf 10 140 = some (202, 4, 1, 1, 8) := by decide +kernel
theorem jc_9_318 : jcOf 9 318 = some (199, 3, 1, 1, 8) := by decide +kernel
theorem jc_9_311 : jcOf 9 311 = some (198, 3, 0, 1, 8) := by decide +kernel
theorem jc_9_321 : jcOf 9 321 = some (201, 1, 1, 0, 0) := by decide +kernel
theorem jc_9_324 : jcOf 9 324 = some (200, 3, 0, 1, 8) := by decide +kernel
theorem jc_9_327 : jcOf 9 327 = some (188, 1, 1, 0, 0) := by decide +kernel
theorem jc_10_144 : jcOf 10 144 = some (203, 2, 1, 1, 8) := by decide +kernel
theorem jc_10_148 : jcOf 10 148 = some (206, 2, 1, 1, 8) := by decide +kernel
theorem jc_9_334 : jcOf 9 334 = some (204, 1, 0, 1, 8) := by decide +kernel
theorem jc_9_337 : jcOf 9 337 = some (205, 2, 1, 1, 8) := by decide +kernel
theorem jc_10_152 : jcOf 10 152 = some (207, 2, 1, 1, 8) := by decide +kernel
theorem jc_10_156 : jcOf 10 156 = some (208, 1, 1, 1, 8) := by decide +kernel
theorem jc_10_160 : jcOf 10 160 = some (209, 2, 1, 1, 8) := by decide +kernel
theorem jc_10_165 : jcOf 10 165 = some (210, 0, 1, 1, 8) := by decide +kernel
theorem jc_10_169 : jcOf 10 169 = some (211, 0, 1, 1, 8) := by decide +kernel
theorem jc_10_173 : jcOf 10 173 = some (212, 0, 1, 1, 8) := by decide +kernel
theorem jc_10_177 : jcOf 10 177 = some (213, 1, 1, 1, 8) := by decide +kernel
theorem jc_2_82 : jcOf 2 82 = some (123, 1, 1, 2, 0) := by decide +kernel
theorem ki_8_139 : jiOf 8 139 = some (vI 1500000) := by decide +kernel
theorem ki_8_110 : jiOf 8 110 = some (vI (-60000)) := by decide +kernel
theorem ki_8_111 : jiOf 8 111 = some (vI 60000) := by decide +kernel
theorem ki_0_95 : jiOf 0 95 = some (vI 1500000) := by decide +kernel
theorem ki_2_92 : jiOf 2 92 = some (vI 1500000) := by decide +kernel
theorem ki_5_66 : jiOf 5 66 = some (vI 1500001) := by decide +kernel
theorem ki_4_39 : jiOf 4 39 = some (vI 100000000) := by decide +kernel
theorem ki_6_30 : jiOf 6 30 = some (vI 16777619) := by decide +kernel
theorem ki_9_165 : jiOf 9 165 = some (vI 60000) := by decide +kernel
theorem ki_9_310 : jiOf 9 310 = some (vI 1500000) := by decide +kernel
theorem ki_9_333 : jiOf 9 333 = some (vI 16777619) := by decide +kernel
theorem kk_3_9 : jkOf 3 9 = some (vL 25920) := by decide +kernel
theorem kk_3_11 : jkOf 3 11 = some (vL 5604) := by decide +kernel
theorem kk_3_13 : jkOf 3 13 = some (vL 765433) := by decide +kernel
theorem kk_8_201 : jkOf 8 201 = some (vL 1500000) := by decide +kernel
theorem kk_8_234 : jkOf 8 234 = some (vL 800) := by decide +kernel
theorem kk_9_79 : jkOf 9 79 = some (vL 1500000) := by decide +kernel
theorem kk_9_222 : jkOf 9 222 = some (vL 25920) := by decide +kernel
theorem kk_9_224 : jkOf 9 224 = some (vL 5604) := by decide +kernel
theorem kk_9_226 : jkOf 9 226 = some (vL 765433) := by decide +kernel
theorem kk_9_308 : jkOf 9 308 = some (vL 800) := by decide +kernel
theorem kk_9_291 : jkOf 9 291 = some (vL 765432) := by decide +kernel
theorem kk_10_56 : jkOf 10 56 = some (vL 4294967295) := by decide +kernel
theorem kk_3_37 : jkOf 3 37 = some (vD 4672854049303822336) := by decide +kernel
theorem kk_3_39 : jkOf 3 39 = some (vD 4601057523306793533) := by decide +kernel
theorem kk_3_41 : jkOf 3 41 = some (vD 4585390991795368163) := by decide +kernel
theorem kk_3_43 : jkOf 3 43 = some (vD 4599075939470750515) := by decide +kernel
theorem kk_3_25 : jkOf 3 25 = some (vD 4611686018427387904) := by decide +kernel
theorem kk_3_27 : jkOf 3 27 = some (vD 4614254477589872640) := by decide +kernel
theorem kk_3_29 : jkOf 3 29 = some (vD 4611721202799476736) := by decide +kernel
theorem kk_3_31 : jkOf 3 31 = some (vD 4601834394242514944) := by decide +kernel
theorem kk_3_48 : jkOf 3 48 = some (vD 4595437030971835154) := by decide +kernel
theorem kk_3_50 : jkOf 3 50 = some (vD 4568459590101238621) := by decide +kernel
theorem kk_3_52 : jkOf 3 52 = some (vD 4587366580439587226) := by decide +kernel
theorem kk_3_54 : jkOf 3 54 = some (vD 4580845368179154747) := by decide +kernel
theorem kk_3_56 : jkOf 3 56 = some (vD 4589542719779532649) := by decide +kernel
theorem kk_3_58 : jkOf 3 58 = some (vD 4604480259023595110) := by decide +kernel
theorem kk_3_60 : jkOf 3 60 = some (vD 4577782920432542810) := by decide +kernel
theorem kk_3_62 : jkOf 3 62 = some (vD 4589953448065548839) := by decide +kernel
theorem kk_3_64 : jkOf 3 64 = some (vD 4592590756007337001) := by decide +kernel
theorem kk_3_66 : jkOf 3 66 = some (vD 13794749037177346825) := by decide +kernel
theorem kk_3_68 : jkOf 3 68 = some (vD 4584686037941376306) := by decide +kernel
theorem kk_3_70 : jkOf 3 70 = some (vD 4602678819172646912) := by decide +kernel
theorem kk_8_207 : jkOf 8 207 = some (vD 13830554455654793216) := by decide +kernel
theorem kk_3_72 : jkOf 3 72 = some (vD 4647503709213818880) := by decide +kernel
theorem kk_3_78 : jkOf 3 78 = some (vD 4629005340940530734) := by decide +kernel
theorem kk_3_80 : jkOf 3 80 = some (vD 4598175219545276416) := by decide +kernel
theorem kk_3_82 : jkOf 3 82 = some (vD 4652007308841189376) := by decide +kernel
theorem kk_9_244 : jkOf 9 244 = some (vD 4672854049303822336) := by decide +kernel
theorem kk_9_246 : jkOf 9 246 = some (vD 4601057523306793533) := by decide +kernel
theorem kk_9_248 : jkOf 9 248 = some (vD 4585390991795368163) := by decide +kernel
theorem kk_9_250 : jkOf 9 250 = some (vD 4599075939470750515) := by decide +kernel
theorem kk_9_236 : jkOf 9 236 = some (vD 4611686018427387904) := by decide +kernel
theorem kk_9_238 : jkOf 9 238 = some (vD 4614254477589872640) := by decide +kernel
theorem kk_9_240 : jkOf 9 240 = some (vD 4611721202799476736) := by decide +kernel
theorem kk_9_242 : jkOf 9 242 = some (vD 4601834394242514944) := by decide +kernel
theorem kk_9_255 : jkOf 9 255 = some (vD 4595437030971835154) := by decide +kernel
theorem kk_9_257 : jkOf 9 257 = some (vD 4568459590101238621) := by decide +kernel
theorem kk_9_259 : jkOf 9 259 = some (vD 4587366580439587226) := by decide +kernel
theorem kk_9_261 : jkOf 9 261 = some (vD 4580845368179154747) := by decide +kernel
theorem kk_9_263 : jkOf 9 263 = some (vD 4589542719779532649) := by decide +kernel
theorem kk_9_265 : jkOf 9 265 = some (vD 4604480259023595110) := by decide +kernel
theorem kk_9_267 : jkOf 9 267 = some (vD 4577782920432542810) := by decide +kernel
theorem kk_9_269 : jkOf 9 269 = some (vD 4589953448065548839) := by decide +kernel
theorem kk_9_271 : jkOf 9 271 = some (vD 4592590756007337001) := by decide +kernel
theorem kk_9_273 : jkOf 9 273 = some (vD 13794749037177346825) := by decide +kernel
theorem kk_9_275 : jkOf 9 275 = some (vD 4584686037941376306) := by decide +kernel
theorem kk_9_277 : jkOf 9 277 = some (vD 4602678819172646912) := by decide +kernel
theorem kk_9_283 : jkOf 9 283 = some (vD 13830554455654793216) := by decide +kernel
theorem kk_9_285 : jkOf 9 285 = some (vD 4647503709213818880) := by decide +kernel
theorem kk_9_287 : jkOf 9 287 = some (vD 4629005340940530734) := by decide +kernel
theorem kk_9_289 : jkOf 9 289 = some (vD 4598175219545276416) := by decide +kernel
/-- the two methods of java.lang.String on the week's letters -/
def jprim (d m : Nat) (as : List PV) (σ : St) : Option Rt := if m = mJ0_length_8abf5 then (match as with
    | [.inr (.inr (.inr (.inl q)))] => if q = 1002 ∧ 2 ≤ d then some (some (vI 7), σ) else none
    | _ => none)
  else if m = mJ0_charAt_5068e then (match as with
    | [.inr (.inr (.inr (.inl q))), .inl i] => if q = 1002 ∧ 3 ≤ d ∧ 0 ≤ w32 i ∧ w32 i < 7 then some (some (vI (([77, 84, 87, 84, 70, 83, 83] : List Int).getD (w32 i).toNat 0)), σ) else none
    | _ => none)
  else none
noncomputable def EV (k : Nat × (Int → Int)) (d : Nat) : Orc := ev (WV k) jprim d
theorem ev_at {k : Nat × (Int → Int)} {d m ml : Nat} {as ls : List PV} {σ : St} {y : MethodName} {M : MT} {ret : Option FieldType} (hp : jprim d m as σ = none) (ht : jmT[m]? = some (y, M, ml, ret)) (hl : (jent1 as).length ≤ ml) (he : jent as ml = ls) : EV k (d + 1) m as σ = out (WV k) (EV k d) M 0 ls [] σ := by
  subst he
  show ev (WV k) jprim (d + 1) m as σ = _
  unfold ev
  rw [hp]
  simp only
  rw [ht]
  simp only
  rw [if_pos hl]
  rfl
def fpB (x : UInt64) : Bool := decide (x &&& 0x7fffffffffffffff ≤ 0x7ff0000000000000)
section OUTD
variable {V : Vw} {E : Orc} {M : MT} {pc : Nat} {ls r : List PV} {σ : St}
theorem o_daddc {a b : UInt64} (h : decode M.1 pc = .ok (.dadd, 1)) : out V E M pc ls (vD b :: vD a :: r) σ = if fpB (FP.dadd a b) = true then out V E M (pc + 1) ls (vD (FP.dadd a b) :: r) σ else none := by
  by_cases hc : fpB (FP.dadd a b) = true
  · rw [if_pos hc]; exact o_dadd h (by simpa [fpB, fpN] using hc)
  · rw [if_neg hc]; exact o_no h rfl (if_neg (by simpa [fpB] using hc))
theorem o_dsubc {a b : UInt64} (h : decode M.1 pc = .ok (.dsub, 1)) : out V E M pc ls (vD b :: vD a :: r) σ = if fpB (FP.dsub a b) = true then out V E M (pc + 1) ls (vD (FP.dsub a b) :: r) σ else none := by
  by_cases hc : fpB (FP.dsub a b) = true
  · rw [if_pos hc]; exact o_dsub h (by simpa [fpB, fpN] using hc)
  · rw [if_neg hc]; exact o_no h rfl (if_neg (by simpa [fpB] using hc))
theorem o_dmulc {a b : UInt64} (h : decode M.1 pc = .ok (.dmul, 1)) : out V E M pc ls (vD b :: vD a :: r) σ = if fpB (FP.dmul a b) = true then out V E M (pc + 1) ls (vD (FP.dmul a b) :: r) σ else none := by
  by_cases hc : fpB (FP.dmul a b) = true
  · rw [if_pos hc]; exact o_dmul h (by simpa [fpB, fpN] using hc)
  · rw [if_neg hc]; exact o_no h rfl (if_neg (by simpa [fpB] using hc))
theorem o_ddivc {a b : UInt64} (h : decode M.1 pc = .ok (.ddiv, 1)) : out V E M pc ls (vD b :: vD a :: r) σ = if fpB (FP.ddiv a b) = true then out V E M (pc + 1) ls (vD (FP.ddiv a b) :: r) σ else none := by
  by_cases hc : fpB (FP.ddiv a b) = true
  · rw [if_pos hc]; exact o_ddiv h (by simpa [fpB, fpN] using hc)
  · rw [if_neg hc]; exact o_no h rfl (if_neg (by simpa [fpB] using hc))
end OUTD
