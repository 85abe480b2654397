def jcP : List (Nat × Nat × Nat × Nat × Nat) := [(18, 77, 78, 0, 47), (22, 80, 81, 0, 47), (8238, 122, 123, 0, 50), (16397, 227, 123, 0, 50), (40973, 287, 288, 289, 46), (32830, 291, 292, 0, 46), (32834, 294, 295, 296, 47), (35, 298, 299, 300, 47), (29, 302, 303, 0, 47), (32, 305, 306, 307, 47), (39, 309, 310, 311, 47), (46, 313, 314, 315, 47), (43, 317, 319, 0, 47), (49, 321, 322, 0, 56), (32838, 324, 325, 326, 47), (57, 328, 330, 1, 47), (61, 332, 333, 0, 47), (64, 337, 338, 0, 47), (32842, 340, 341, 342, 47), (70, 344, 345, 0, 47), (32845, 347, 348, 0, 46), (32849, 350, 351, 0, 46), (40978, 354, 355, 356, 46), (32852, 358, 359, 360, 47), (32856, 362, 363, 364, 47), (32860, 366, 367, 368, 47), (73, 370, 363, 364, 47), (32863, 371, 372, 373, 47), (76, 375, 367, 368, 47), (79, 376, 341, 342, 47), (32866, 377, 378, 379, 47), (40983, 381, 382, 383, 46), (40987, 385, 386, 387, 46), (32869, 389, 299, 300, 47), (32872, 390, 391, 392, 47), (40992, 394, 395, 396, 46), (32875, 398, 310, 311, 47), (40996, 399, 400, 401, 46), (32880, 405, 406, 407, 47), (54, 409, 411, 2, 47), (32883, 413, 414, 415, 47), (32886, 417, 418, 419, 47), (83, 421, 423, 3, 47), (86, 425, 325, 326, 47), (41000, 426, 427, 428, 46), (32889, 430, 431, 432, 47), (89, 434, 372, 373, 47), (41004, 435, 436, 437, 46), (32892, 439, 441, 4, 46), (33068, 443, 306, 307, 47), (33009, 444, 445, 0, 56), (32895, 447, 449, 5, 46), (41008, 451, 452, 453, 46), (32898, 455, 456, 457, 47), (92, 459, 445, 0, 56), (32901, 460, 461, 462, 47), (41012, 465, 466, 467, 46), (32904, 469, 470, 471, 47), (32912, 473, 474, 475, 47), (32916, 477, 478, 479, 54), (4118, 481, 322, 0, 56), (41018, 482, 483, 484, 46), (32920, 486, 487, 488, 48), (32924, 490, 491, 492, 48), (32930, 494, 495, 496, 48), (41023, 498, 499, 500, 46), (41028, 502, 503, 504, 46), (41033, 506, 507, 508, 46), (32934, 510, 511, 512, 49), (8248, 514, 515, 0, 49), (8252, 517, 518, 519, 49), (32939, 521, 522, 523, 49), (8256, 525, 527, 6, 49), (8259, 529, 531, 7, 49), (41038, 533, 534, 535, 46), (32942, 537, 518, 519, 49), (32945, 538, 539, 540, 49), (8265, 542, 543, 0, 56), (8271, 545, 547, 8, 49), (8285, 549, 551, 9, 49), (8300, 553, 456, 457, 47), (8303, 554, 461, 462, 47), (8306, 555, 363, 364, 47), (8309, 556, 310, 311, 47), (8312, 557, 325, 326, 47), (8316, 558, 341, 342, 47), (8289, 559, 561, 10, 49), (8292, 563, 564, 565, 47), (96, 567, 568, 0, 47), (99, 570, 571, 0, 47), (102, 573, 543, 0, 56), (8297, 574, 575, 576, 49), (8280, 579, 581, 11, 49), (32948, 584, 585, 586, 49), (41042, 588, 589, 590, 46), (32951, 592, 575, 576, 49), (41046, 593, 594, 595, 46), (32954, 597, 564, 565, 47), (41050, 598, 599, 600, 46), (32957, 602, 603, 604, 49), (41054, 606, 607, 608, 46), (32960, 610, 611, 0, 57), (12303, 616, 617, 0, 56), (41059, 619, 620, 621, 46), (32965, 623, 624, 0, 57), (41063, 627, 628, 629, 46), (32971, 631, 632, 0, 57), (12321, 634, 611, 0, 57), (12333, 639, 640, 0, 57), (12309, 642, 643, 0, 57), (41068, 662, 663, 664, 46), (32977, 666, 667, 0, 57), (12362, 670, 632, 0, 57), (41072, 674, 675, 676, 46), (32981, 678, 679, 680, 51), (41077, 682, 683, 684, 46), (32984, 686, 687, 688, 51), (32988, 690, 691, 692, 51), (32992, 694, 695, 696, 51), (41081, 698, 699, 700, 46), (32995, 702, 703, 704, 51), (20529, 706, 687, 688, 51), (20537, 707, 445, 0, 56), (20547, 709, 322, 0, 56), (20553, 710, 695, 696, 51), (20557, 711, 363, 364, 47), (20562, 712, 539, 540, 49), (20568, 713, 715, 12, 51), (20572, 717, 456, 457, 47), (20575, 718, 461, 462, 47), (20578, 719, 585, 586, 49), (32999, 720, 721, 722, 51), (20581, 724, 726, 13, 51), (41085, 728, 729, 730, 46), (41089, 733, 734, 735, 46), (33004, 737, 322, 0, 56), (41093, 738, 739, 740, 46), (41097, 742, 743, 744, 46), (33012, 746, 747, 748, 52), (16403, 750, 751, 752, 52), (16419, 755, 756, 757, 52), (16409, 760, 761, 762, 58), (16415, 770, 771, 772, 58), (33015, 808, 809, 0, 52), (33018, 811, 813, 14, 46), (33071, 815, 816, 817, 52), (33038, 819, 820, 821, 49), (33074, 823, 756, 757, 52), (33077, 824, 825, 0, 57), (33021, 827, 829, 15, 46), (33080, 831, 751, 752, 52), (33083, 832, 833, 834, 49), (41101, 837, 838, 839, 46), (41105, 841, 842, 843, 46), (33029, 845, 314, 315, 47), (33035, 846, 847, 848, 53), (33041, 850, 851, 852, 53), (24595, 854, 445, 0, 56), (24601, 855, 856, 0, 62), (41109, 859, 860, 861, 46), (41113, 863, 864, 865, 46), (41117, 867, 868, 869, 46), (41121, 871, 872, 873, 46), (41126, 875, 876, 877, 46), (33047, 879, 880, 881, 53), (24607, 883, 885, 16, 53), (24610, 887, 851, 852, 53), (41130, 888, 889, 890, 46), (33051, 892, 893, 894, 54), (33054, 896, 897, 898, 47), (33057, 900, 901, 902, 48), (33060, 904, 905, 906, 49), (33061, 908, 909, 910, 51), (33062, 912, 913, 914, 51), (41134, 916, 917, 918, 46), (40977, 1032, 1033, 1034, 55), (37006, 1036, 1037, 0, 55), (37002, 1039, 1040, 0, 55), (37009, 1042, 1044, 17, 55), (36984, 1046, 1048, 18, 55), (36945, 1050, 1051, 0, 55), (36987, 1053, 1055, 19, 55), (36970, 1057, 1058, 0, 55), (36973, 1060, 1061, 0, 55), (36964, 1063, 1064, 0, 55), (36953, 1066, 1067, 0, 55), (36967, 1069, 1070, 0, 55), (36961, 1072, 1073, 0, 55), (36957, 1075, 1076, 0, 55), (36980, 1078, 1080, 20, 55), (36976, 1082, 1083, 0, 55), (37012, 1085, 1087, 21, 55), (37015, 1089, 1090, 0, 55), (40982, 1093, 1094, 1095, 55), (37019, 1097, 1099, 22, 55), (36999, 1101, 1102, 0, 55), (40986, 1104, 1105, 1106, 55), (40991, 1108, 1109, 1110, 55), (40995, 1112, 1113, 1114, 55), (40999, 1116, 1117, 1118, 55), (37030, 1121, 1123, 23, 55), (37022, 1125, 1127, 24, 55), (37026, 1129, 1131, 25, 55), (41003, 1133, 1134, 1135, 55), (41007, 1137, 1138, 1139, 55), (41011, 1141, 1142, 1143, 55), (41015, 1145, 1146, 1147, 55), (37037, 1149, 1151, 26, 55), (41022, 1153, 1154, 1155, 55), (37044, 1157, 1159, 27, 55), (41027, 1161, 1162, 1163, 55), (41032, 1165, 1166, 1167, 55), (41037, 1169, 1170, 1171, 55), (37051, 1173, 1175, 28, 55), (37054, 1177, 1179, 29, 55), (41049, 1181, 1182, 1183, 55), (37057, 1185, 1187, 30, 55), (41041, 1189, 1190, 1191, 55), (37080, 1193, 1195, 31, 55), (37067, 1197, 1199, 32, 55), (37071, 1201, 1203, 33, 55), (37074, 1205, 1207, 34, 55), (37077, 1209, 1211, 35, 55), (41045, 1213, 1214, 1215, 55), (41053, 1217, 1218, 1219, 55), (37083, 1221, 1223, 36, 55), (41058, 1225, 1226, 1227, 55), (37092, 1229, 1230, 0, 55), (41062, 1235, 1236, 1237, 55), (41067, 1239, 1240, 1241, 55), (37143, 1243, 1244, 0, 55), (37116, 1250, 1251, 0, 55), (37096, 1253, 1254, 0, 55), (41071, 1273, 1274, 1275, 55), (41076, 1280, 1281, 1282, 55), (41080, 1284, 1285, 1286, 55), (37160, 1288, 1290, 37, 55), (41084, 1292, 1293, 1294, 55), (37169, 1296, 1298, 38, 55), (37166, 1300, 1302, 39, 55), (41088, 1304, 1305, 1306, 55), (41092, 1309, 1310, 1311, 55), (41096, 1314, 1315, 1316, 55), (41100, 1318, 1319, 1320, 55), (37182, 1322, 1324, 40, 55), (37175, 1326, 1328, 41, 55), (37185, 1330, 1331, 0, 55), (37188, 1333, 1335, 42, 55), (37191, 1337, 1338, 0, 55), (41104, 1341, 1342, 1343, 55), (41108, 1345, 1346, 1347, 55), (37198, 1349, 1351, 43, 55), (37201, 1353, 1355, 44, 55), (41112, 1358, 1359, 1360, 55), (41116, 1362, 1363, 1364, 55), (41120, 1366, 1367, 1368, 55), (41125, 1370, 1371, 1372, 55), (41129, 1374, 1375, 1376, 55), (41133, 1378, 1379, 1380, 55), (41137, 1382, 1383, 1384, 55), (8274, 578, 351, 0, 46)]
def jmP : List Nat := [82, 79, 304, 308, 301, 297, 361, 316, 393, 312, 412, 416, 327, 331, 334, 339, 346, 343, 365, 424, 369, 374, 380, 408, 420, 433, 458, 463, 566, 569, 572, 320, 472, 476, 899, 480, 895, 520, 513, 516, 524, 907, 528, 605, 835, 587, 577, 822, 541, 532, 582, 548, 552, 562, 612, 625, 826, 644, 641, 633, 668, 810, 749, 758, 753, 818, 689, 681, 911, 693, 915, 697, 705, 716, 727, 723, 849, 853, 886, 882, 489, 493, 497, 903, 290, 357, 384, 388, 397, 402, 429, 438, 454, 468, 485, 501, 505, 509, 536, 591, 596, 601, 609, 622, 630, 665, 677, 685, 701, 731, 736, 741, 745, 840, 844, 862, 866, 870, 874, 878, 891, 919, 293, 352, 349, 442, 450, 814, 830, 1041, 1091, 1077, 1052, 1049, 1084, 1068, 1065, 1059, 1074, 1071, 1062, 1056, 1081, 1088, 1045, 1103, 1100, 1038, 1035, 1096, 1107, 1111, 1115, 1128, 1132, 1124, 1119, 1136, 1140, 1144, 1152, 1148, 1160, 1156, 1164, 1168, 1176, 1172, 1188, 1184, 1204, 1208, 1180, 1196, 1200, 1212, 1192, 1216, 1224, 1220, 1231, 1228, 1238, 1255, 1252, 1245, 1242, 1276, 1339, 1291, 1283, 1287, 1303, 1299, 1295, 1307, 1312, 1317, 1329, 1325, 1336, 1332, 1321, 1344, 1352, 1356, 1348, 1361, 1365, 1369, 1373, 1377, 1381, 1385, 857, 544, 618, 446, 323, 763, 773, 124]
def jiP : List Nat := [353, 403, 404, 464, 583, 708, 754, 858, 1120, 1313, 1357]
def jlP : List Nat := [613, 614, 615, 626, 732, 1092, 1232, 1233, 1234, 1308, 1340, 1386]
def jdP : List Nat := [635, 636, 637, 638, 645, 646, 647, 648, 649, 650, 651, 652, 653, 654, 655, 656, 657, 658, 659, 660, 661, 669, 671, 672, 673, 1246, 1247, 1248, 1249, 1256, 1257, 1258, 1259, 1260, 1261, 1262, 1263, 1264, 1265, 1266, 1267, 1268, 1269, 1270, 1271, 1272, 1277, 1278, 1279]
def jmQ (e : MethodName × MT × Nat × Option FieldType) : Prop := Cond.code e.1 e.2.1.1 e.2.2.1 e.2.2.2 ∈ lw_tbl
def jmT_0 : List (MethodName × MT × Nat × Option FieldType) := [(yX0_elapsedDays, (cX0_elapsedDays, 0, 1), 3, some .int), (yX0_countedYearStart, (cX0_countedYearStart, 0, 1), 2, some .int), (yX0_firstYear, (cX0_firstYear, 0, 1), 1, some .int), (yX0_lastYear, (cX0_lastYear, 0, 1), 2, some .int), (yX0_hasYear, (cX0_hasYear, 0, 4), 3, some .boolean), (yX0_hasMonth, (cX0_hasMonth, 0, 4), 4, some .boolean), (yX0_hasDate, (cX0_hasDate, 0, 4), 3, some .boolean), (yX0_yearStart, (cX0_yearStart, 0, 1), 6, some .int), (yX0_daysInYear, (cX0_daysInYear, 0, 1), 3, some .int), (yX0_monthsIn, (cX0_monthsIn, 0, 1), 3, some .int), (yX0_monthsAhead, (cX0_monthsAhead, 0, 1), 3, some .int), (yX0_monthsInAll, (cX0_monthsInAll, 0, 1), 2, some .int), (yX0_daysInMonth, (cX0_daysInMonth, 0, 1), 5, some .int), (yX0_monthDays, (cX0_monthDays, 0, 1), 6, some .int), (yX0_sunMonthDays, (cX0_sunMonthDays, 0, 1), 2, some .int), (yX0_countedMonthDays, (cX0_countedMonthDays, 0, 1), 3, some .int), (yX0_evenMonthDays, (cX0_evenMonthDays, 0, 1), 1, some .int), (yX0_monthStart, (cX0_monthStart, 0, 1), 8, some .int), (yX0_yearOf, (cX0_yearOf, 0, 1), 7, some .int), (yX0_yearOfMonth, (cX0_yearOfMonth, 0, 1), 7, some .int)]
set_option maxRecDepth 100000 in
theorem jmQ_X0_elapsedDays : jmQ (yX0_elapsedDays, (cX0_elapsedDays, 0, 1), 3, some .int) := List.mem_of_getElem? (i := 82) rfl
set_option maxRecDepth 100000 in
theorem jmQ_X0_countedYearStart : jmQ (yX0_countedYearStart, (cX0_countedYearStart, 0, 1), 2, some .int) := List.mem_of_getElem? (i := 79) rfl
set_option maxRecDepth 100000 in
theorem jmQ_X0_firstYear : jmQ (yX0_firstYear, (cX0_firstYear, 0, 1), 1, some .int) := List.mem_of_getElem? (i := 304) rfl
set_option maxRecDepth 100000 in
theorem jmQ_X0_lastYear : jmQ (yX0_lastYear, (cX0_lastYear, 0, 1), 2, some .int) := List.mem_of_getElem? (i := 308) rfl
set_option maxRecDepth 100000 in
theorem jmQ_X0_hasYear : jmQ (yX0_hasYear, (cX0_hasYear, 0, 4), 3, some .boolean) := List.mem_of_getElem? (i := 301) rfl
set_option maxRecDepth 100000 in
theorem jmQ_X0_hasMonth : jmQ (yX0_hasMonth, (cX0_hasMonth, 0, 4), 4, some .boolean) := List.mem_of_getElem? (i := 297) rfl
set_option maxRecDepth 100000 in
theorem jmQ_X0_hasDate : jmQ (yX0_hasDate, (cX0_hasDate, 0, 4), 3, some .boolean) := List.mem_of_getElem? (i := 361) rfl
set_option maxRecDepth 100000 in
theorem jmQ_X0_yearStart : jmQ (yX0_yearStart, (cX0_yearStart, 0, 1), 6, some .int) := List.mem_of_getElem? (i := 316) rfl
set_option maxRecDepth 100000 in
theorem jmQ_X0_daysInYear : jmQ (yX0_daysInYear, (cX0_daysInYear, 0, 1), 3, some .int) := List.mem_of_getElem? (i := 393) rfl
set_option maxRecDepth 100000 in
theorem jmQ_X0_monthsIn : jmQ (yX0_monthsIn, (cX0_monthsIn, 0, 1), 3, some .int) := List.mem_of_getElem? (i := 312) rfl
set_option maxRecDepth 100000 in
theorem jmQ_X0_monthsAhead : jmQ (yX0_monthsAhead, (cX0_monthsAhead, 0, 1), 3, some .int) := List.mem_of_getElem? (i := 412) rfl
set_option maxRecDepth 100000 in
theorem jmQ_X0_monthsInAll : jmQ (yX0_monthsInAll, (cX0_monthsInAll, 0, 1), 2, some .int) := List.mem_of_getElem? (i := 416) rfl
set_option maxRecDepth 100000 in
theorem jmQ_X0_daysInMonth : jmQ (yX0_daysInMonth, (cX0_daysInMonth, 0, 1), 5, some .int) := List.mem_of_getElem? (i := 327) rfl
set_option maxRecDepth 100000 in
theorem jmQ_X0_monthDays : jmQ (yX0_monthDays, (cX0_monthDays, 0, 1), 6, some .int) := List.mem_of_getElem? (i := 331) rfl
set_option maxRecDepth 100000 in
theorem jmQ_X0_sunMonthDays : jmQ (yX0_sunMonthDays, (cX0_sunMonthDays, 0, 1), 2, some .int) := List.mem_of_getElem? (i := 334) rfl
set_option maxRecDepth 100000 in
theorem jmQ_X0_countedMonthDays : jmQ (yX0_countedMonthDays, (cX0_countedMonthDays, 0, 1), 3, some .int) := List.mem_of_getElem? (i := 339) rfl
set_option maxRecDepth 100000 in
theorem jmQ_X0_evenMonthDays : jmQ (yX0_evenMonthDays, (cX0_evenMonthDays, 0, 1), 1, some .int) := List.mem_of_getElem? (i := 346) rfl
set_option maxRecDepth 100000 in
theorem jmQ_X0_monthStart : jmQ (yX0_monthStart, (cX0_monthStart, 0, 1), 8, some .int) := List.mem_of_getElem? (i := 343) rfl
set_option maxRecDepth 100000 in
theorem jmQ_X0_yearOf : jmQ (yX0_yearOf, (cX0_yearOf, 0, 1), 7, some .int) := List.mem_of_getElem? (i := 365) rfl
set_option maxRecDepth 100000 in
theorem jmQ_X0_yearOfMonth : jmQ (yX0_yearOfMonth, (cX0_yearOfMonth, 0, 1), 7, some .int) := List.mem_of_getElem? (i := 424) rfl
theorem jmT_0_ok : ∀ e ∈ jmT_0, jmQ e := List.forall_mem_cons.mpr ⟨jmQ_X0_elapsedDays, List.forall_mem_cons.mpr ⟨jmQ_X0_countedYearStart, List.forall_mem_cons.mpr ⟨jmQ_X0_firstYear, List.forall_mem_cons.mpr ⟨jmQ_X0_lastYear, List.forall_mem_cons.mpr ⟨jmQ_X0_hasYear, List.forall_mem_cons.mpr ⟨jmQ_X0_hasMonth, List.forall_mem_cons.mpr ⟨jmQ_X0_hasDate, List.forall_mem_cons.mpr ⟨jmQ_X0_yearStart, List.forall_mem_cons.mpr ⟨jmQ_X0_daysInYear, List.forall_mem_cons.mpr ⟨jmQ_X0_monthsIn, List.forall_mem_cons.mpr ⟨jmQ_X0_monthsAhead, List.forall_mem_cons.mpr ⟨jmQ_X0_monthsInAll, List.forall_mem_cons.mpr ⟨jmQ_X0_daysInMonth, List.forall_mem_cons.mpr ⟨jmQ_X0_monthDays, List.forall_mem_cons.mpr ⟨jmQ_X0_sunMonthDays, List.forall_mem_cons.mpr ⟨jmQ_X0_countedMonthDays, List.forall_mem_cons.mpr ⟨jmQ_X0_evenMonthDays, List.forall_mem_cons.mpr ⟨jmQ_X0_monthStart, List.forall_mem_cons.mpr ⟨jmQ_X0_yearOf, List.forall_mem_cons.mpr ⟨jmQ_X0_yearOfMonth, fun _ h => absurd h List.not_mem_nil⟩⟩⟩⟩⟩⟩⟩⟩⟩⟩⟩⟩⟩⟩⟩⟩⟩⟩⟩⟩
def jmT_1 : List (MethodName × MT × Nat × Option FieldType) := [(yX0_monthOf, (cX0_monthOf, 0, 1), 10, some .int), (yX0_dayOf, (cX0_dayOf, 0, 1), 3, some .int), (yX0_weekdayOf, (cX0_weekdayOf, 0, 1), 3, some .int), (yX0_monthIndex, (cX0_monthIndex, 0, 1), 3, some .int), (yX0_dayInMonth, (cX0_dayInMonth, 0, 1), 7, some .int), (yX0_anniversary, (cX0_anniversary, 0, 1), 6, some .int), (yX0_firstDayIn, (cX0_firstDayIn, 0, 1), 2, some .int), (yX0_lastDayIn, (cX0_lastDayIn, 0, 1), 2, some .int), (yX0_movableDay, (cX0_movableDay, 0, 1), 7, some .int), (yX0_oldStyleShift, (cX0_oldStyleShift, 0, 1), 3, some .int), (yX0_newStyleShift, (cX0_newStyleShift, 0, 1), 5, some .int), (yX0_startOfRow, (cX0_startOfRow, 0, 1), 2, some .int), (yX0_mayFollow, (cX0_mayFollow, 0, 4), 2, some .boolean), (yX0_addRow, (cX0_addRow, 0, 0), 3, none), (yX0_dropRow, (cX0_dropRow, 0, 0), 1, none), (yX1_note, (cX1_note, 1, 0), 2, none), (yX1_takeBack, (cX1_takeBack, 1, 1), 1, some .int), (yX2_has, (cX2_has, 2, 4), 2, some .boolean), (yX2_isRuleRight, (cX2_isRuleRight, 2, 4), 5, some .boolean), (yX2_within, (cX2_within, 2, 4), 3, some .boolean)]
set_option maxRecDepth 100000 in
theorem jmQ_X0_monthOf : jmQ (yX0_monthOf, (cX0_monthOf, 0, 1), 10, some .int) := List.mem_of_getElem? (i := 369) rfl
set_option maxRecDepth 100000 in
theorem jmQ_X0_dayOf : jmQ (yX0_dayOf, (cX0_dayOf, 0, 1), 3, some .int) := List.mem_of_getElem? (i := 374) rfl
set_option maxRecDepth 100000 in
theorem jmQ_X0_weekdayOf : jmQ (yX0_weekdayOf, (cX0_weekdayOf, 0, 1), 3, some .int) := List.mem_of_getElem? (i := 380) rfl
set_option maxRecDepth 100000 in
theorem jmQ_X0_monthIndex : jmQ (yX0_monthIndex, (cX0_monthIndex, 0, 1), 3, some .int) := List.mem_of_getElem? (i := 408) rfl
set_option maxRecDepth 100000 in
theorem jmQ_X0_dayInMonth : jmQ (yX0_dayInMonth, (cX0_dayInMonth, 0, 1), 7, some .int) := List.mem_of_getElem? (i := 420) rfl
set_option maxRecDepth 100000 in
theorem jmQ_X0_anniversary : jmQ (yX0_anniversary, (cX0_anniversary, 0, 1), 6, some .int) := List.mem_of_getElem? (i := 433) rfl
set_option maxRecDepth 100000 in
theorem jmQ_X0_firstDayIn : jmQ (yX0_firstDayIn, (cX0_firstDayIn, 0, 1), 2, some .int) := List.mem_of_getElem? (i := 458) rfl
set_option maxRecDepth 100000 in
theorem jmQ_X0_lastDayIn : jmQ (yX0_lastDayIn, (cX0_lastDayIn, 0, 1), 2, some .int) := List.mem_of_getElem? (i := 463) rfl
set_option maxRecDepth 100000 in
theorem jmQ_X0_movableDay : jmQ (yX0_movableDay, (cX0_movableDay, 0, 1), 7, some .int) := List.mem_of_getElem? (i := 566) rfl
set_option maxRecDepth 100000 in
theorem jmQ_X0_oldStyleShift : jmQ (yX0_oldStyleShift, (cX0_oldStyleShift, 0, 1), 3, some .int) := List.mem_of_getElem? (i := 569) rfl
set_option maxRecDepth 100000 in
theorem jmQ_X0_newStyleShift : jmQ (yX0_newStyleShift, (cX0_newStyleShift, 0, 1), 5, some .int) := List.mem_of_getElem? (i := 572) rfl
set_option maxRecDepth 100000 in
theorem jmQ_X0_startOfRow : jmQ (yX0_startOfRow, (cX0_startOfRow, 0, 1), 2, some .int) := List.mem_of_getElem? (i := 320) rfl
set_option maxRecDepth 100000 in
theorem jmQ_X0_mayFollow : jmQ (yX0_mayFollow, (cX0_mayFollow, 0, 4), 2, some .boolean) := List.mem_of_getElem? (i := 472) rfl
set_option maxRecDepth 100000 in
theorem jmQ_X0_addRow : jmQ (yX0_addRow, (cX0_addRow, 0, 0), 3, none) := List.mem_of_getElem? (i := 476) rfl
set_option maxRecDepth 100000 in
theorem jmQ_X0_dropRow : jmQ (yX0_dropRow, (cX0_dropRow, 0, 0), 1, none) := List.mem_of_getElem? (i := 899) rfl
set_option maxRecDepth 100000 in
theorem jmQ_X1_note : jmQ (yX1_note, (cX1_note, 1, 0), 2, none) := List.mem_of_getElem? (i := 480) rfl
set_option maxRecDepth 100000 in
theorem jmQ_X1_takeBack : jmQ (yX1_takeBack, (cX1_takeBack, 1, 1), 1, some .int) := List.mem_of_getElem? (i := 895) rfl
set_option maxRecDepth 100000 in
theorem jmQ_X2_has : jmQ (yX2_has, (cX2_has, 2, 4), 2, some .boolean) := List.mem_of_getElem? (i := 520) rfl
set_option maxRecDepth 100000 in
theorem jmQ_X2_isRuleRight : jmQ (yX2_isRuleRight, (cX2_isRuleRight, 2, 4), 5, some .boolean) := List.mem_of_getElem? (i := 513) rfl
set_option maxRecDepth 100000 in
theorem jmQ_X2_within : jmQ (yX2_within, (cX2_within, 2, 4), 3, some .boolean) := List.mem_of_getElem? (i := 516) rfl
theorem jmT_1_ok : ∀ e ∈ jmT_1, jmQ e := List.forall_mem_cons.mpr ⟨jmQ_X0_monthOf, List.forall_mem_cons.mpr ⟨jmQ_X0_dayOf, List.forall_mem_cons.mpr ⟨jmQ_X0_weekdayOf, List.forall_mem_cons.mpr ⟨jmQ_X0_monthIndex, List.forall_mem_cons.mpr ⟨jmQ_X0_dayInMonth, List.forall_mem_cons.mpr ⟨jmQ_X0_anniversary, List.forall_mem_cons.mpr ⟨jmQ_X0_firstDayIn, List.forall_mem_cons.mpr ⟨jmQ_X0_lastDayIn, List.forall_mem_cons.mpr ⟨jmQ_X0_movableDay, List.forall_mem_cons.mpr ⟨jmQ_X0_oldStyleShift, List.forall_mem_cons.mpr ⟨jmQ_X0_newStyleShift, List.forall_mem_cons.mpr ⟨jmQ_X0_startOfRow, List.forall_mem_cons.mpr ⟨jmQ_X0_mayFollow, List.forall_mem_cons.mpr ⟨jmQ_X0_addRow, List.forall_mem_cons.mpr ⟨jmQ_X0_dropRow, List.forall_mem_cons.mpr ⟨jmQ_X1_note, List.forall_mem_cons.mpr ⟨jmQ_X1_takeBack, List.forall_mem_cons.mpr ⟨jmQ_X2_has, List.forall_mem_cons.mpr ⟨jmQ_X2_isRuleRight, List.forall_mem_cons.mpr ⟨jmQ_X2_within, fun _ h => absurd h List.not_mem_nil⟩⟩⟩⟩⟩⟩⟩⟩⟩⟩⟩⟩⟩⟩⟩⟩⟩⟩⟩⟩
def jmT_2 : List (MethodName × MT × Nat × Option FieldType) := [(yX2_add, (cX2_add, 2, 0), 6, none), (yX2_drop, (cX2_drop, 2, 0), 1, none), (yX2_changed, (cX2_changed, 2, 0), 1, none), (yX2_inOrder, (cX2_inOrder, 2, 1), 2, some .int), (yX2_rankOf, (cX2_rankOf, 2, 1), 2, some .int), (yX2_placedDay, (cX2_placedDay, 2, 1), 2, some .int), (yX2_unmovedDay, (cX2_unmovedDay, 2, 1), 2, some .int), (yX2_countOn, (cX2_countOn, 2, 1), 4, some .int), (yX2_place, (cX2_place, 2, 0), 6, none), (yX2_sortByRank, (cX2_sortByRank, 2, 0), 4, none), (yX2_settle, (cX2_settle, 2, 1), 5, some .int), (yX2_ruleDay, (cX2_ruleDay, 2, 1), 4, some .int), (yX2_fixedDay, (cX2_fixedDay, 2, 1), 10, some .int), (yX2_weekdayDay, (cX2_weekdayDay, 2, 1), 8, some .int), (yX3_ageOn, (cX3_ageOn, 3, 1), 1, some .int), (yX3_dayOfNewMoon, (cX3_dayOfNewMoon, 3, 2), 1, some .long), (yX3_isNewOn, (cX3_isNewOn, 3, 4), 1, some .boolean), (yX3_floorOf, (cX3_floorOf, 3, 3), 4, some .double), (yX3_wave, (cX3_wave, 3, 3), 8, some .double), (yX3_estimatedAge, (cX3_estimatedAge, 3, 3), 3, some .double)]
set_option maxRecDepth 100000 in
theorem jmQ_X2_add : jmQ (yX2_add, (cX2_add, 2, 0), 6, none) := List.mem_of_getElem? (i := 524) rfl
set_option maxRecDepth 100000 in
theorem jmQ_X2_drop : jmQ (yX2_drop, (cX2_drop, 2, 0), 1, none) := List.mem_of_getElem? (i := 907) rfl
set_option maxRecDepth 100000 in
theorem jmQ_X2_changed : jmQ (yX2_changed, (cX2_changed, 2, 0), 1, none) := List.mem_of_getElem? (i := 528) rfl
set_option maxRecDepth 100000 in
theorem jmQ_X2_inOrder : jmQ (yX2_inOrder, (cX2_inOrder, 2, 1), 2, some .int) := List.mem_of_getElem? (i := 605) rfl
set_option maxRecDepth 100000 in
theorem jmQ_X2_rankOf : jmQ (yX2_rankOf, (cX2_rankOf, 2, 1), 2, some .int) := List.mem_of_getElem? (i := 835) rfl
set_option maxRecDepth 100000 in
theorem jmQ_X2_placedDay : jmQ (yX2_placedDay, (cX2_placedDay, 2, 1), 2, some .int) := List.mem_of_getElem? (i := 587) rfl
set_option maxRecDepth 100000 in
theorem jmQ_X2_unmovedDay : jmQ (yX2_unmovedDay, (cX2_unmovedDay, 2, 1), 2, some .int) := List.mem_of_getElem? (i := 577) rfl
set_option maxRecDepth 100000 in
theorem jmQ_X2_countOn : jmQ (yX2_countOn, (cX2_countOn, 2, 1), 4, some .int) := List.mem_of_getElem? (i := 822) rfl
set_option maxRecDepth 100000 in
theorem jmQ_X2_place : jmQ (yX2_place, (cX2_place, 2, 0), 6, none) := List.mem_of_getElem? (i := 541) rfl
set_option maxRecDepth 100000 in
theorem jmQ_X2_sortByRank : jmQ (yX2_sortByRank, (cX2_sortByRank, 2, 0), 4, none) := List.mem_of_getElem? (i := 532) rfl
set_option maxRecDepth 100000 in
theorem jmQ_X2_settle : jmQ (yX2_settle, (cX2_settle, 2, 1), 5, some .int) := List.mem_of_getElem? (i := 582) rfl
set_option maxRecDepth 100000 in
theorem jmQ_X2_ruleDay : jmQ (yX2_ruleDay, (cX2_ruleDay, 2, 1), 4, some .int) := List.mem_of_getElem? (i := 548) rfl
set_option maxRecDepth 100000 in
theorem jmQ_X2_fixedDay : jmQ (yX2_fixedDay, (cX2_fixedDay, 2, 1), 10, some .int) := List.mem_of_getElem? (i := 552) rfl
set_option maxRecDepth 100000 in
theorem jmQ_X2_weekdayDay : jmQ (yX2_weekdayDay, (cX2_weekdayDay, 2, 1), 8, some .int) := List.mem_of_getElem? (i := 562) rfl
set_option maxRecDepth 100000 in
theorem jmQ_X3_ageOn : jmQ (yX3_ageOn, (cX3_ageOn, 3, 1), 1, some .int) := List.mem_of_getElem? (i := 612) rfl
set_option maxRecDepth 100000 in
theorem jmQ_X3_dayOfNewMoon : jmQ (yX3_dayOfNewMoon, (cX3_dayOfNewMoon, 3, 2), 1, some .long) := List.mem_of_getElem? (i := 625) rfl
set_option maxRecDepth 100000 in
theorem jmQ_X3_isNewOn : jmQ (yX3_isNewOn, (cX3_isNewOn, 3, 4), 1, some .boolean) := List.mem_of_getElem? (i := 826) rfl
set_option maxRecDepth 100000 in
theorem jmQ_X3_floorOf : jmQ (yX3_floorOf, (cX3_floorOf, 3, 3), 4, some .double) := List.mem_of_getElem? (i := 644) rfl
set_option maxRecDepth 100000 in
theorem jmQ_X3_wave : jmQ (yX3_wave, (cX3_wave, 3, 3), 8, some .double) := List.mem_of_getElem? (i := 641) rfl
set_option maxRecDepth 100000 in
theorem jmQ_X3_estimatedAge : jmQ (yX3_estimatedAge, (cX3_estimatedAge, 3, 3), 3, some .double) := List.mem_of_getElem? (i := 633) rfl
theorem jmT_2_ok : ∀ e ∈ jmT_2, jmQ e := List.forall_mem_cons.mpr ⟨jmQ_X2_add, List.forall_mem_cons.mpr ⟨jmQ_X2_drop, List.forall_mem_cons.mpr ⟨jmQ_X2_changed, List.forall_mem_cons.mpr ⟨jmQ_X2_inOrder, List.forall_mem_cons.mpr ⟨jmQ_X2_rankOf, List.forall_mem_cons.mpr ⟨jmQ_X2_placedDay, List.forall_mem_cons.mpr ⟨jmQ_X2_unmovedDay, List.forall_mem_cons.mpr ⟨jmQ_X2_countOn, List.forall_mem_cons.mpr ⟨jmQ_X2_place, List.forall_mem_cons.mpr ⟨jmQ_X2_sortByRank, List.forall_mem_cons.mpr ⟨jmQ_X2_settle, List.forall_mem_cons.mpr ⟨jmQ_X2_ruleDay, List.forall_mem_cons.mpr ⟨jmQ_X2_fixedDay, List.forall_mem_cons.mpr ⟨jmQ_X2_weekdayDay, List.forall_mem_cons.mpr ⟨jmQ_X3_ageOn, List.forall_mem_cons.mpr ⟨jmQ_X3_dayOfNewMoon, List.forall_mem_cons.mpr ⟨jmQ_X3_isNewOn, List.forall_mem_cons.mpr ⟨jmQ_X3_floorOf, List.forall_mem_cons.mpr ⟨jmQ_X3_wave, List.forall_mem_cons.mpr ⟨jmQ_X3_estimatedAge, fun _ h => absurd h List.not_mem_nil⟩⟩⟩⟩⟩⟩⟩⟩⟩⟩⟩⟩⟩⟩⟩⟩⟩⟩⟩⟩
def jmT_3 : List (MethodName × MT × Nat × Option FieldType) := [(yX3_lightOn, (cX3_lightOn, 3, 1), 7, some .int), (yX4_lineOf, (cX4_lineOf, 4, 1), 2, some .int), (yX4_begin, (cX4_begin, 4, 0), 5, none), (yX4_put, (cX4_put, 4, 0), 4, none), (yX4_putNumber, (cX4_putNumber, 4, 1), 7, some .int), (yX4_putTwoDigits, (cX4_putTwoDigits, 4, 0), 5, none), (yX5_has, (cX5_has, 5, 4), 2, some .boolean), (yX5_add, (cX5_add, 5, 0), 3, none), (yX5_drop, (cX5_drop, 5, 0), 1, none), (yX5_addRule, (cX5_addRule, 5, 0), 5, none), (yX5_dropRule, (cX5_dropRule, 5, 0), 1, none), (yX5_rulesOf, (cX5_rulesOf, 5, 1), 4, some .int), (yX5_lookAt, (cX5_lookAt, 5, 0), 7, none), (yX5_markFeasts, (cX5_markFeasts, 5, 0), 9, none), (yX5_isFree, (cX5_isFree, 5, 4), 2, some .boolean), (yX5_rests, (cX5_rests, 5, 4), 2, some .boolean), (yX6_append, (cX6_append, 6, 0), 4, none), (yX6_sumOf, (cX6_sumOf, 6, 1), 5, some .int), (yX6_numberAt, (cX6_numberAt, 6, 1), 5, some .int), (yX6_countBooks, (cX6_countBooks, 6, 1), 4, some .int)]
set_option maxRecDepth 100000 in
theorem jmQ_X3_lightOn : jmQ (yX3_lightOn, (cX3_lightOn, 3, 1), 7, some .int) := List.mem_of_getElem? (i := 668) rfl
set_option maxRecDepth 100000 in
theorem jmQ_X4_lineOf : jmQ (yX4_lineOf, (cX4_lineOf, 4, 1), 2, some .int) := List.mem_of_getElem? (i := 810) rfl
set_option maxRecDepth 100000 in
theorem jmQ_X4_begin : jmQ (yX4_begin, (cX4_begin, 4, 0), 5, none) := List.mem_of_getElem? (i := 749) rfl
set_option maxRecDepth 100000 in
theorem jmQ_X4_put : jmQ (yX4_put, (cX4_put, 4, 0), 4, none) := List.mem_of_getElem? (i := 758) rfl
set_option maxRecDepth 100000 in
theorem jmQ_X4_putNumber : jmQ (yX4_putNumber, (cX4_putNumber, 4, 1), 7, some .int) := List.mem_of_getElem? (i := 753) rfl
set_option maxRecDepth 100000 in
theorem jmQ_X4_putTwoDigits : jmQ (yX4_putTwoDigits, (cX4_putTwoDigits, 4, 0), 5, none) := List.mem_of_getElem? (i := 818) rfl
set_option maxRecDepth 100000 in
theorem jmQ_X5_has : jmQ (yX5_has, (cX5_has, 5, 4), 2, some .boolean) := List.mem_of_getElem? (i := 689) rfl
set_option maxRecDepth 100000 in
theorem jmQ_X5_add : jmQ (yX5_add, (cX5_add, 5, 0), 3, none) := List.mem_of_getElem? (i := 681) rfl
set_option maxRecDepth 100000 in
theorem jmQ_X5_drop : jmQ (yX5_drop, (cX5_drop, 5, 0), 1, none) := List.mem_of_getElem? (i := 911) rfl
set_option maxRecDepth 100000 in
theorem jmQ_X5_addRule : jmQ (yX5_addRule, (cX5_addRule, 5, 0), 5, none) := List.mem_of_getElem? (i := 693) rfl
set_option maxRecDepth 100000 in
theorem jmQ_X5_dropRule : jmQ (yX5_dropRule, (cX5_dropRule, 5, 0), 1, none) := List.mem_of_getElem? (i := 915) rfl
set_option maxRecDepth 100000 in
theorem jmQ_X5_rulesOf : jmQ (yX5_rulesOf, (cX5_rulesOf, 5, 1), 4, some .int) := List.mem_of_getElem? (i := 697) rfl
set_option maxRecDepth 100000 in
theorem jmQ_X5_lookAt : jmQ (yX5_lookAt, (cX5_lookAt, 5, 0), 7, none) := List.mem_of_getElem? (i := 705) rfl
set_option maxRecDepth 100000 in
theorem jmQ_X5_markFeasts : jmQ (yX5_markFeasts, (cX5_markFeasts, 5, 0), 9, none) := List.mem_of_getElem? (i := 716) rfl
set_option maxRecDepth 100000 in
theorem jmQ_X5_isFree : jmQ (yX5_isFree, (cX5_isFree, 5, 4), 2, some .boolean) := List.mem_of_getElem? (i := 727) rfl
set_option maxRecDepth 100000 in
theorem jmQ_X5_rests : jmQ (yX5_rests, (cX5_rests, 5, 4), 2, some .boolean) := List.mem_of_getElem? (i := 723) rfl
set_option maxRecDepth 100000 in
theorem jmQ_X6_append : jmQ (yX6_append, (cX6_append, 6, 0), 4, none) := List.mem_of_getElem? (i := 849) rfl
set_option maxRecDepth 100000 in
theorem jmQ_X6_sumOf : jmQ (yX6_sumOf, (cX6_sumOf, 6, 1), 5, some .int) := List.mem_of_getElem? (i := 853) rfl
set_option maxRecDepth 100000 in
theorem jmQ_X6_numberAt : jmQ (yX6_numberAt, (cX6_numberAt, 6, 1), 5, some .int) := List.mem_of_getElem? (i := 886) rfl
set_option maxRecDepth 100000 in
theorem jmQ_X6_countBooks : jmQ (yX6_countBooks, (cX6_countBooks, 6, 1), 4, some .int) := List.mem_of_getElem? (i := 882) rfl
theorem jmT_3_ok : ∀ e ∈ jmT_3, jmQ e := List.forall_mem_cons.mpr ⟨jmQ_X3_lightOn, List.forall_mem_cons.mpr ⟨jmQ_X4_lineOf, List.forall_mem_cons.mpr ⟨jmQ_X4_begin, List.forall_mem_cons.mpr ⟨jmQ_X4_put, List.forall_mem_cons.mpr ⟨jmQ_X4_putNumber, List.forall_mem_cons.mpr ⟨jmQ_X4_putTwoDigits, List.forall_mem_cons.mpr ⟨jmQ_X5_has, List.forall_mem_cons.mpr ⟨jmQ_X5_add, List.forall_mem_cons.mpr ⟨jmQ_X5_drop, List.forall_mem_cons.mpr ⟨jmQ_X5_addRule, List.forall_mem_cons.mpr ⟨jmQ_X5_dropRule, List.forall_mem_cons.mpr ⟨jmQ_X5_rulesOf, List.forall_mem_cons.mpr ⟨jmQ_X5_lookAt, List.forall_mem_cons.mpr ⟨jmQ_X5_markFeasts, List.forall_mem_cons.mpr ⟨jmQ_X5_isFree, List.forall_mem_cons.mpr ⟨jmQ_X5_rests, List.forall_mem_cons.mpr ⟨jmQ_X6_append, List.forall_mem_cons.mpr ⟨jmQ_X6_sumOf, List.forall_mem_cons.mpr ⟨jmQ_X6_numberAt, List.forall_mem_cons.mpr ⟨jmQ_X6_countBooks, fun _ h => absurd h List.not_mem_nil⟩⟩⟩⟩⟩⟩⟩⟩⟩⟩⟩⟩⟩⟩⟩⟩⟩⟩⟩⟩
def jmT_4 : List (MethodName × MT × Nat × Option FieldType) := [(yX7_monthBy, (cX7_monthBy, 7, 1), 5, some .int), (yX7_countFor, (cX7_countFor, 7, 1), 5, some .int), (yX7_add, (cX7_add, 7, 0), 5, none), (yX7_drop, (cX7_drop, 7, 0), 1, none), (yX8_toDay, (cX8_toDay, 8, 1), 5, some .int), (yX8_fromDay, (cX8_fromDay, 8, 1), 4, some .int), (yX8_monthLength, (cX8_monthLength, 8, 1), 4, some .int), (yX8_yearLength, (cX8_yearLength, 8, 1), 3, some .int), (yX8_months, (cX8_months, 8, 1), 3, some .int), (yX8_addMonths, (cX8_addMonths, 8, 1), 5, some .int), (yX8_addYears, (cX8_addYears, 8, 1), 5, some .int), (yX8_difference, (cX8_difference, 8, 1), 10, some .int), (yX8_birthday, (cX8_birthday, 8, 1), 9, some .int), (yX8_row, (cX8_row, 8, 1), 3, some .int), (yX8_name, (cX8_name, 8, 1), 6, some .int), (yX8_monthNamed, (cX8_monthNamed, 8, 1), 4, some .int), (yX8_spellings, (cX8_spellings, 8, 1), 5, some .int), (yX8_feast, (cX8_feast, 8, 1), 6, some .int), (yX8_feastDay, (cX8_feastDay, 8, 1), 3, some .int), (yX8_moved, (cX8_moved, 8, 1), 4, some .int)]
set_option maxRecDepth 100000 in
theorem jmQ_X7_monthBy : jmQ (yX7_monthBy, (cX7_monthBy, 7, 1), 5, some .int) := List.mem_of_getElem? (i := 489) rfl
set_option maxRecDepth 100000 in
theorem jmQ_X7_countFor : jmQ (yX7_countFor, (cX7_countFor, 7, 1), 5, some .int) := List.mem_of_getElem? (i := 493) rfl
set_option maxRecDepth 100000 in
theorem jmQ_X7_add : jmQ (yX7_add, (cX7_add, 7, 0), 5, none) := List.mem_of_getElem? (i := 497) rfl
set_option maxRecDepth 100000 in
theorem jmQ_X7_drop : jmQ (yX7_drop, (cX7_drop, 7, 0), 1, none) := List.mem_of_getElem? (i := 903) rfl
set_option maxRecDepth 100000 in
theorem jmQ_X8_toDay : jmQ (yX8_toDay, (cX8_toDay, 8, 1), 5, some .int) := List.mem_of_getElem? (i := 290) rfl
set_option maxRecDepth 100000 in
theorem jmQ_X8_fromDay : jmQ (yX8_fromDay, (cX8_fromDay, 8, 1), 4, some .int) := List.mem_of_getElem? (i := 357) rfl
set_option maxRecDepth 100000 in
theorem jmQ_X8_monthLength : jmQ (yX8_monthLength, (cX8_monthLength, 8, 1), 4, some .int) := List.mem_of_getElem? (i := 384) rfl
set_option maxRecDepth 100000 in
theorem jmQ_X8_yearLength : jmQ (yX8_yearLength, (cX8_yearLength, 8, 1), 3, some .int) := List.mem_of_getElem? (i := 388) rfl
set_option maxRecDepth 100000 in
theorem jmQ_X8_months : jmQ (yX8_months, (cX8_months, 8, 1), 3, some .int) := List.mem_of_getElem? (i := 397) rfl
set_option maxRecDepth 100000 in
theorem jmQ_X8_addMonths : jmQ (yX8_addMonths, (cX8_addMonths, 8, 1), 5, some .int) := List.mem_of_getElem? (i := 402) rfl
set_option maxRecDepth 100000 in
theorem jmQ_X8_addYears : jmQ (yX8_addYears, (cX8_addYears, 8, 1), 5, some .int) := List.mem_of_getElem? (i := 429) rfl
set_option maxRecDepth 100000 in
theorem jmQ_X8_difference : jmQ (yX8_difference, (cX8_difference, 8, 1), 10, some .int) := List.mem_of_getElem? (i := 438) rfl
set_option maxRecDepth 100000 in
theorem jmQ_X8_birthday : jmQ (yX8_birthday, (cX8_birthday, 8, 1), 9, some .int) := List.mem_of_getElem? (i := 454) rfl
set_option maxRecDepth 100000 in
theorem jmQ_X8_row : jmQ (yX8_row, (cX8_row, 8, 1), 3, some .int) := List.mem_of_getElem? (i := 468) rfl
set_option maxRecDepth 100000 in
theorem jmQ_X8_name : jmQ (yX8_name, (cX8_name, 8, 1), 6, some .int) := List.mem_of_getElem? (i := 485) rfl
set_option maxRecDepth 100000 in
theorem jmQ_X8_monthNamed : jmQ (yX8_monthNamed, (cX8_monthNamed, 8, 1), 4, some .int) := List.mem_of_getElem? (i := 501) rfl
set_option maxRecDepth 100000 in
theorem jmQ_X8_spellings : jmQ (yX8_spellings, (cX8_spellings, 8, 1), 5, some .int) := List.mem_of_getElem? (i := 505) rfl
set_option maxRecDepth 100000 in
theorem jmQ_X8_feast : jmQ (yX8_feast, (cX8_feast, 8, 1), 6, some .int) := List.mem_of_getElem? (i := 509) rfl
set_option maxRecDepth 100000 in
theorem jmQ_X8_feastDay : jmQ (yX8_feastDay, (cX8_feastDay, 8, 1), 3, some .int) := List.mem_of_getElem? (i := 536) rfl
set_option maxRecDepth 100000 in
theorem jmQ_X8_moved : jmQ (yX8_moved, (cX8_moved, 8, 1), 4, some .int) := List.mem_of_getElem? (i := 591) rfl
theorem jmT_4_ok : ∀ e ∈ jmT_4, jmQ e := List.forall_mem_cons.mpr ⟨jmQ_X7_monthBy, List.forall_mem_cons.mpr ⟨jmQ_X7_countFor, List.forall_mem_cons.mpr ⟨jmQ_X7_add, List.forall_mem_cons.mpr ⟨jmQ_X7_drop, List.forall_mem_cons.mpr ⟨jmQ_X8_toDay, List.forall_mem_cons.mpr ⟨jmQ_X8_fromDay, List.forall_mem_cons.mpr ⟨jmQ_X8_monthLength, List.forall_mem_cons.mpr ⟨jmQ_X8_yearLength, List.forall_mem_cons.mpr ⟨jmQ_X8_months, List.forall_mem_cons.mpr ⟨jmQ_X8_addMonths, List.forall_mem_cons.mpr ⟨jmQ_X8_addYears, List.forall_mem_cons.mpr ⟨jmQ_X8_difference, List.forall_mem_cons.mpr ⟨jmQ_X8_birthday, List.forall_mem_cons.mpr ⟨jmQ_X8_row, List.forall_mem_cons.mpr ⟨jmQ_X8_name, List.forall_mem_cons.mpr ⟨jmQ_X8_monthNamed, List.forall_mem_cons.mpr ⟨jmQ_X8_spellings, List.forall_mem_cons.mpr ⟨jmQ_X8_feast, List.forall_mem_cons.mpr ⟨jmQ_X8_feastDay, List.forall_mem_cons.mpr ⟨jmQ_X8_moved, fun _ h => absurd h List.not_mem_nil⟩⟩⟩⟩⟩⟩⟩⟩⟩⟩⟩⟩⟩⟩⟩⟩⟩⟩⟩⟩
def jmT_5 : List (MethodName × MT × Nat × Option FieldType) := [(yX8_movable, (cX8_movable, 8, 1), 3, some .int), (yX8_feastOn, (cX8_feastOn, 8, 1), 6, some .int), (yX8_age, (cX8_age, 8, 1), 2, some .int), (yX8_newMoon, (cX8_newMoon, 8, 1), 4, some .int), (yX8_estimate, (cX8_estimate, 8, 3), 2, some .double), (yX8_light, (cX8_light, 8, 1), 2, some .int), (yX8_parish, (cX8_parish, 8, 1), 3, some .int), (yX8_rule, (cX8_rule, 8, 1), 5, some .int), (yX8_isOff, (cX8_isOff, 8, 1), 3, some .int), (yX8_worked, (cX8_worked, 8, 1), 6, some .int), (yX8_nextOff, (cX8_nextOff, 8, 1), 5, some .int), (yX8_inRow, (cX8_inRow, 8, 1), 7, some .int), (yX8_page, (cX8_page, 8, 1), 12, some .int), (yX8_sign, (cX8_sign, 8, 1), 3, some .int), (yX8_book, (cX8_book, 8, 1), 8, some .int), (yX8_load, (cX8_load, 8, 1), 3, some .int), (yX8_byteAt, (cX8_byteAt, 8, 1), 2, some .int), (yX8_spoil, (cX8_spoil, 8, 1), 3, some .int), (yX8_wipe, (cX8_wipe, 8, 1), 2, some .int), (yX8_verify, (cX8_verify, 8, 1), 1, some .int)]
set_option maxRecDepth 100000 in
theorem jmQ_X8_movable : jmQ (yX8_movable, (cX8_movable, 8, 1), 3, some .int) := List.mem_of_getElem? (i := 596) rfl
set_option maxRecDepth 100000 in
theorem jmQ_X8_feastOn : jmQ (yX8_feastOn, (cX8_feastOn, 8, 1), 6, some .int) := List.mem_of_getElem? (i := 601) rfl
set_option maxRecDepth 100000 in
theorem jmQ_X8_age : jmQ (yX8_age, (cX8_age, 8, 1), 2, some .int) := List.mem_of_getElem? (i := 609) rfl
set_option maxRecDepth 100000 in
theorem jmQ_X8_newMoon : jmQ (yX8_newMoon, (cX8_newMoon, 8, 1), 4, some .int) := List.mem_of_getElem? (i := 622) rfl
set_option maxRecDepth 100000 in
theorem jmQ_X8_estimate : jmQ (yX8_estimate, (cX8_estimate, 8, 3), 2, some .double) := List.mem_of_getElem? (i := 630) rfl
set_option maxRecDepth 100000 in
theorem jmQ_X8_light : jmQ (yX8_light, (cX8_light, 8, 1), 2, some .int) := List.mem_of_getElem? (i := 665) rfl
set_option maxRecDepth 100000 in
theorem jmQ_X8_parish : jmQ (yX8_parish, (cX8_parish, 8, 1), 3, some .int) := List.mem_of_getElem? (i := 677) rfl
set_option maxRecDepth 100000 in
theorem jmQ_X8_rule : jmQ (yX8_rule, (cX8_rule, 8, 1), 5, some .int) := List.mem_of_getElem? (i := 685) rfl
set_option maxRecDepth 100000 in
theorem jmQ_X8_isOff : jmQ (yX8_isOff, (cX8_isOff, 8, 1), 3, some .int) := List.mem_of_getElem? (i := 701) rfl
set_option maxRecDepth 100000 in
theorem jmQ_X8_worked : jmQ (yX8_worked, (cX8_worked, 8, 1), 6, some .int) := List.mem_of_getElem? (i := 731) rfl
set_option maxRecDepth 100000 in
theorem jmQ_X8_nextOff : jmQ (yX8_nextOff, (cX8_nextOff, 8, 1), 5, some .int) := List.mem_of_getElem? (i := 736) rfl
set_option maxRecDepth 100000 in
theorem jmQ_X8_inRow : jmQ (yX8_inRow, (cX8_inRow, 8, 1), 7, some .int) := List.mem_of_getElem? (i := 741) rfl
set_option maxRecDepth 100000 in
theorem jmQ_X8_page : jmQ (yX8_page, (cX8_page, 8, 1), 12, some .int) := List.mem_of_getElem? (i := 745) rfl
set_option maxRecDepth 100000 in
theorem jmQ_X8_sign : jmQ (yX8_sign, (cX8_sign, 8, 1), 3, some .int) := List.mem_of_getElem? (i := 840) rfl
set_option maxRecDepth 100000 in
theorem jmQ_X8_book : jmQ (yX8_book, (cX8_book, 8, 1), 8, some .int) := List.mem_of_getElem? (i := 844) rfl
set_option maxRecDepth 100000 in
theorem jmQ_X8_load : jmQ (yX8_load, (cX8_load, 8, 1), 3, some .int) := List.mem_of_getElem? (i := 862) rfl
set_option maxRecDepth 100000 in
theorem jmQ_X8_byteAt : jmQ (yX8_byteAt, (cX8_byteAt, 8, 1), 2, some .int) := List.mem_of_getElem? (i := 866) rfl
set_option maxRecDepth 100000 in
theorem jmQ_X8_spoil : jmQ (yX8_spoil, (cX8_spoil, 8, 1), 3, some .int) := List.mem_of_getElem? (i := 870) rfl
set_option maxRecDepth 100000 in
theorem jmQ_X8_wipe : jmQ (yX8_wipe, (cX8_wipe, 8, 1), 2, some .int) := List.mem_of_getElem? (i := 874) rfl
set_option maxRecDepth 100000 in
theorem jmQ_X8_verify : jmQ (yX8_verify, (cX8_verify, 8, 1), 1, some .int) := List.mem_of_getElem? (i := 878) rfl
theorem jmT_5_ok : ∀ e ∈ jmT_5, jmQ e := List.forall_mem_cons.mpr ⟨jmQ_X8_movable, List.forall_mem_cons.mpr ⟨jmQ_X8_feastOn, List.forall_mem_cons.mpr ⟨jmQ_X8_age, List.forall_mem_cons.mpr ⟨jmQ_X8_newMoon, List.forall_mem_cons.mpr ⟨jmQ_X8_estimate, List.forall_mem_cons.mpr ⟨jmQ_X8_light, List.forall_mem_cons.mpr ⟨jmQ_X8_parish, List.forall_mem_cons.mpr ⟨jmQ_X8_rule, List.forall_mem_cons.mpr ⟨jmQ_X8_isOff, List.forall_mem_cons.mpr ⟨jmQ_X8_worked, List.forall_mem_cons.mpr ⟨jmQ_X8_nextOff, List.forall_mem_cons.mpr ⟨jmQ_X8_inRow, List.forall_mem_cons.mpr ⟨jmQ_X8_page, List.forall_mem_cons.mpr ⟨jmQ_X8_sign, List.forall_mem_cons.mpr ⟨jmQ_X8_book, List.forall_mem_cons.mpr ⟨jmQ_X8_load, List.forall_mem_cons.mpr ⟨jmQ_X8_byteAt, List.forall_mem_cons.mpr ⟨jmQ_X8_spoil, List.forall_mem_cons.mpr ⟨jmQ_X8_wipe, List.forall_mem_cons.mpr ⟨jmQ_X8_verify, fun _ h => absurd h List.not_mem_nil⟩⟩⟩⟩⟩⟩⟩⟩⟩⟩⟩⟩⟩⟩⟩⟩⟩⟩⟩⟩
def jmT_6 : List (MethodName × MT × Nat × Option FieldType) := [(yX8_undo, (cX8_undo, 8, 1), 1, some .int), (yX8_count, (cX8_count, 8, 1), 2, some .int), (yX8_isCalendar, (cX8_isCalendar, 8, 4), 1, some .boolean), (yX8_isDay, (cX8_isDay, 8, 4), 1, some .boolean), (yX8_dayOrOutside, (cX8_dayOrOutside, 8, 1), 1, some .int), (yX8_wholeYears, (cX8_wholeYears, 8, 1), 7, some .int), (yX8_wholeMonths, (cX8_wholeMonths, 8, 1), 8, some .int), (yX8_writeDays, (cX8_writeDays, 8, 0), 7, none), (yX8_writeFeasts, (cX8_writeFeasts, 8, 1), 10, some .int), (yX9_in, (cX9_in, 9, 4), 3, some .boolean), (yX9_isDay, (cX9_isDay, 9, 4), 2, some .boolean), (yX9_rest, (cX9_rest, 9, 1), 3, some .int), (yX9_firstYear, (cX9_firstYear, 9, 1), 1, some .int), (yX9_isYear, (cX9_isYear, 9, 4), 3, some .boolean), (yX9_isLeap, (cX9_isLeap, 9, 4), 2, some .boolean), (yX9_isMoonLeap, (cX9_isMoonLeap, 9, 4), 2, some .boolean), (yX9_moonLeaps, (cX9_moonLeaps, 9, 1), 3, some .int), (yX9_isLong, (cX9_isLong, 9, 4), 1, some .boolean), (yX9_elapsed, (cX9_elapsed, 9, 1), 3, some .int), (yX9_newYear, (cX9_newYear, 9, 1), 2, some .int)]
set_option maxRecDepth 100000 in
theorem jmQ_X8_undo : jmQ (yX8_undo, (cX8_undo, 8, 1), 1, some .int) := List.mem_of_getElem? (i := 891) rfl
set_option maxRecDepth 100000 in
theorem jmQ_X8_count : jmQ (yX8_count, (cX8_count, 8, 1), 2, some .int) := List.mem_of_getElem? (i := 919) rfl
set_option maxRecDepth 100000 in
theorem jmQ_X8_isCalendar : jmQ (yX8_isCalendar, (cX8_isCalendar, 8, 4), 1, some .boolean) := List.mem_of_getElem? (i := 293) rfl
set_option maxRecDepth 100000 in
theorem jmQ_X8_isDay : jmQ (yX8_isDay, (cX8_isDay, 8, 4), 1, some .boolean) := List.mem_of_getElem? (i := 352) rfl
set_option maxRecDepth 100000 in
theorem jmQ_X8_dayOrOutside : jmQ (yX8_dayOrOutside, (cX8_dayOrOutside, 8, 1), 1, some .int) := List.mem_of_getElem? (i := 349) rfl
set_option maxRecDepth 100000 in
theorem jmQ_X8_wholeYears : jmQ (yX8_wholeYears, (cX8_wholeYears, 8, 1), 7, some .int) := List.mem_of_getElem? (i := 442) rfl
set_option maxRecDepth 100000 in
theorem jmQ_X8_wholeMonths : jmQ (yX8_wholeMonths, (cX8_wholeMonths, 8, 1), 8, some .int) := List.mem_of_getElem? (i := 450) rfl
set_option maxRecDepth 100000 in
theorem jmQ_X8_writeDays : jmQ (yX8_writeDays, (cX8_writeDays, 8, 0), 7, none) := List.mem_of_getElem? (i := 814) rfl
set_option maxRecDepth 100000 in
theorem jmQ_X8_writeFeasts : jmQ (yX8_writeFeasts, (cX8_writeFeasts, 8, 1), 10, some .int) := List.mem_of_getElem? (i := 830) rfl
set_option maxRecDepth 100000 in
theorem jmQ_X9_in : jmQ (yX9_in, (cX9_in, 9, 4), 3, some .boolean) := List.mem_of_getElem? (i := 1041) rfl
set_option maxRecDepth 100000 in
theorem jmQ_X9_isDay : jmQ (yX9_isDay, (cX9_isDay, 9, 4), 2, some .boolean) := List.mem_of_getElem? (i := 1091) rfl
set_option maxRecDepth 100000 in
theorem jmQ_X9_rest : jmQ (yX9_rest, (cX9_rest, 9, 1), 3, some .int) := List.mem_of_getElem? (i := 1077) rfl
set_option maxRecDepth 100000 in
theorem jmQ_X9_firstYear : jmQ (yX9_firstYear, (cX9_firstYear, 9, 1), 1, some .int) := List.mem_of_getElem? (i := 1052) rfl
set_option maxRecDepth 100000 in
theorem jmQ_X9_isYear : jmQ (yX9_isYear, (cX9_isYear, 9, 4), 3, some .boolean) := List.mem_of_getElem? (i := 1049) rfl
set_option maxRecDepth 100000 in
theorem jmQ_X9_isLeap : jmQ (yX9_isLeap, (cX9_isLeap, 9, 4), 2, some .boolean) := List.mem_of_getElem? (i := 1084) rfl
set_option maxRecDepth 100000 in
theorem jmQ_X9_isMoonLeap : jmQ (yX9_isMoonLeap, (cX9_isMoonLeap, 9, 4), 2, some .boolean) := List.mem_of_getElem? (i := 1068) rfl
set_option maxRecDepth 100000 in
theorem jmQ_X9_moonLeaps : jmQ (yX9_moonLeaps, (cX9_moonLeaps, 9, 1), 3, some .int) := List.mem_of_getElem? (i := 1065) rfl
set_option maxRecDepth 100000 in
theorem jmQ_X9_isLong : jmQ (yX9_isLong, (cX9_isLong, 9, 4), 1, some .boolean) := List.mem_of_getElem? (i := 1059) rfl
set_option maxRecDepth 100000 in
theorem jmQ_X9_elapsed : jmQ (yX9_elapsed, (cX9_elapsed, 9, 1), 3, some .int) := List.mem_of_getElem? (i := 1074) rfl
set_option maxRecDepth 100000 in
theorem jmQ_X9_newYear : jmQ (yX9_newYear, (cX9_newYear, 9, 1), 2, some .int) := List.mem_of_getElem? (i := 1071) rfl
theorem jmT_6_ok : ∀ e ∈ jmT_6, jmQ e := List.forall_mem_cons.mpr ⟨jmQ_X8_undo, List.forall_mem_cons.mpr ⟨jmQ_X8_count, List.forall_mem_cons.mpr ⟨jmQ_X8_isCalendar, List.forall_mem_cons.mpr ⟨jmQ_X8_isDay, List.forall_mem_cons.mpr ⟨jmQ_X8_dayOrOutside, List.forall_mem_cons.mpr ⟨jmQ_X8_wholeYears, List.forall_mem_cons.mpr ⟨jmQ_X8_wholeMonths, List.forall_mem_cons.mpr ⟨jmQ_X8_writeDays, List.forall_mem_cons.mpr ⟨jmQ_X8_writeFeasts, List.forall_mem_cons.mpr ⟨jmQ_X9_in, List.forall_mem_cons.mpr ⟨jmQ_X9_isDay, List.forall_mem_cons.mpr ⟨jmQ_X9_rest, List.forall_mem_cons.mpr ⟨jmQ_X9_firstYear, List.forall_mem_cons.mpr ⟨jmQ_X9_isYear, List.forall_mem_cons.mpr ⟨jmQ_X9_isLeap, List.forall_mem_cons.mpr ⟨jmQ_X9_isMoonLeap, List.forall_mem_cons.mpr ⟨jmQ_X9_moonLeaps, List.forall_mem_cons.mpr ⟨jmQ_X9_isLong, List.forall_mem_cons.mpr ⟨jmQ_X9_elapsed, List.forall_mem_cons.mpr ⟨jmQ_X9_newYear, fun _ h => absurd h List.not_mem_nil⟩⟩⟩⟩⟩⟩⟩⟩⟩⟩⟩⟩⟩⟩⟩⟩⟩⟩⟩⟩
def jmT_7 : List (MethodName × MT × Nat × Option FieldType) := [(yX9_start, (cX9_start, 9, 1), 3, some .int), (yX9_monthsIn, (cX9_monthsIn, 9, 1), 3, some .int), (yX9_lengthOf, (cX9_lengthOf, 9, 1), 5, some .int), (yX9_monthStart, (cX9_monthStart, 9, 1), 6, some .int), (yX9_isMonth, (cX9_isMonth, 9, 4), 4, some .boolean), (yX9_yearOf, (cX9_yearOf, 9, 1), 5, some .int), (yX9_find, (cX9_find, 9, 4), 4, some .boolean), (yX9_isCalendar, (cX9_isCalendar, 9, 4), 1, some .boolean), (yX9_toDay, (cX9_toDay, 9, 1), 6, some .int), (yX9_fromDay, (cX9_fromDay, 9, 1), 4, some .int), (yX9_monthLength, (cX9_monthLength, 9, 1), 4, some .int), (yX9_yearLength, (cX9_yearLength, 9, 1), 5, some .int), (yX9_months, (cX9_months, 9, 1), 3, some .int), (yX9_cut, (cX9_cut, 9, 1), 8, some .int), (yX9_monthsOn, (cX9_monthsOn, 9, 1), 6, some .int), (yX9_added, (cX9_added, 9, 1), 6, some .int), (yX9_addMonths, (cX9_addMonths, 9, 1), 4, some .int), (yX9_addYears, (cX9_addYears, 9, 1), 4, some .int), (yX9_difference, (cX9_difference, 9, 1), 12, some .int), (yX9_birthday, (cX9_birthday, 9, 1), 10, some .int)]
set_option maxRecDepth 100000 in
theorem jmQ_X9_start : jmQ (yX9_start, (cX9_start, 9, 1), 3, some .int) := List.mem_of_getElem? (i := 1062) rfl
set_option maxRecDepth 100000 in
theorem jmQ_X9_monthsIn : jmQ (yX9_monthsIn, (cX9_monthsIn, 9, 1), 3, some .int) := List.mem_of_getElem? (i := 1056) rfl
set_option maxRecDepth 100000 in
theorem jmQ_X9_lengthOf : jmQ (yX9_lengthOf, (cX9_lengthOf, 9, 1), 5, some .int) := List.mem_of_getElem? (i := 1081) rfl
set_option maxRecDepth 100000 in
theorem jmQ_X9_monthStart : jmQ (yX9_monthStart, (cX9_monthStart, 9, 1), 6, some .int) := List.mem_of_getElem? (i := 1088) rfl
set_option maxRecDepth 100000 in
theorem jmQ_X9_isMonth : jmQ (yX9_isMonth, (cX9_isMonth, 9, 4), 4, some .boolean) := List.mem_of_getElem? (i := 1045) rfl
set_option maxRecDepth 100000 in
theorem jmQ_X9_yearOf : jmQ (yX9_yearOf, (cX9_yearOf, 9, 1), 5, some .int) := List.mem_of_getElem? (i := 1103) rfl
set_option maxRecDepth 100000 in
theorem jmQ_X9_find : jmQ (yX9_find, (cX9_find, 9, 4), 4, some .boolean) := List.mem_of_getElem? (i := 1100) rfl
set_option maxRecDepth 100000 in
theorem jmQ_X9_isCalendar : jmQ (yX9_isCalendar, (cX9_isCalendar, 9, 4), 1, some .boolean) := List.mem_of_getElem? (i := 1038) rfl
set_option maxRecDepth 100000 in
theorem jmQ_X9_toDay : jmQ (yX9_toDay, (cX9_toDay, 9, 1), 6, some .int) := List.mem_of_getElem? (i := 1035) rfl
set_option maxRecDepth 100000 in
theorem jmQ_X9_fromDay : jmQ (yX9_fromDay, (cX9_fromDay, 9, 1), 4, some .int) := List.mem_of_getElem? (i := 1096) rfl
set_option maxRecDepth 100000 in
theorem jmQ_X9_monthLength : jmQ (yX9_monthLength, (cX9_monthLength, 9, 1), 4, some .int) := List.mem_of_getElem? (i := 1107) rfl
set_option maxRecDepth 100000 in
theorem jmQ_X9_yearLength : jmQ (yX9_yearLength, (cX9_yearLength, 9, 1), 5, some .int) := List.mem_of_getElem? (i := 1111) rfl
set_option maxRecDepth 100000 in
theorem jmQ_X9_months : jmQ (yX9_months, (cX9_months, 9, 1), 3, some .int) := List.mem_of_getElem? (i := 1115) rfl
set_option maxRecDepth 100000 in
theorem jmQ_X9_cut : jmQ (yX9_cut, (cX9_cut, 9, 1), 8, some .int) := List.mem_of_getElem? (i := 1128) rfl
set_option maxRecDepth 100000 in
theorem jmQ_X9_monthsOn : jmQ (yX9_monthsOn, (cX9_monthsOn, 9, 1), 6, some .int) := List.mem_of_getElem? (i := 1132) rfl
set_option maxRecDepth 100000 in
theorem jmQ_X9_added : jmQ (yX9_added, (cX9_added, 9, 1), 6, some .int) := List.mem_of_getElem? (i := 1124) rfl
set_option maxRecDepth 100000 in
theorem jmQ_X9_addMonths : jmQ (yX9_addMonths, (cX9_addMonths, 9, 1), 4, some .int) := List.mem_of_getElem? (i := 1119) rfl
set_option maxRecDepth 100000 in
theorem jmQ_X9_addYears : jmQ (yX9_addYears, (cX9_addYears, 9, 1), 4, some .int) := List.mem_of_getElem? (i := 1136) rfl
set_option maxRecDepth 100000 in
theorem jmQ_X9_difference : jmQ (yX9_difference, (cX9_difference, 9, 1), 12, some .int) := List.mem_of_getElem? (i := 1140) rfl
set_option maxRecDepth 100000 in
theorem jmQ_X9_birthday : jmQ (yX9_birthday, (cX9_birthday, 9, 1), 10, some .int) := List.mem_of_getElem? (i := 1144) rfl
theorem jmT_7_ok : ∀ e ∈ jmT_7, jmQ e := List.forall_mem_cons.mpr ⟨jmQ_X9_start, List.forall_mem_cons.mpr ⟨jmQ_X9_monthsIn, List.forall_mem_cons.mpr ⟨jmQ_X9_lengthOf, List.forall_mem_cons.mpr ⟨jmQ_X9_monthStart, List.forall_mem_cons.mpr ⟨jmQ_X9_isMonth, List.forall_mem_cons.mpr ⟨jmQ_X9_yearOf, List.forall_mem_cons.mpr ⟨jmQ_X9_find, List.forall_mem_cons.mpr ⟨jmQ_X9_isCalendar, List.forall_mem_cons.mpr ⟨jmQ_X9_toDay, List.forall_mem_cons.mpr ⟨jmQ_X9_fromDay, List.forall_mem_cons.mpr ⟨jmQ_X9_monthLength, List.forall_mem_cons.mpr ⟨jmQ_X9_yearLength, List.forall_mem_cons.mpr ⟨jmQ_X9_months, List.forall_mem_cons.mpr ⟨jmQ_X9_cut, List.forall_mem_cons.mpr ⟨jmQ_X9_monthsOn, List.forall_mem_cons.mpr ⟨jmQ_X9_added, List.forall_mem_cons.mpr ⟨jmQ_X9_addMonths, List.forall_mem_cons.mpr ⟨jmQ_X9_addYears, List.forall_mem_cons.mpr ⟨jmQ_X9_difference, List.forall_mem_cons.mpr ⟨jmQ_X9_birthday, fun _ h => absurd h List.not_mem_nil⟩⟩⟩⟩⟩⟩⟩⟩⟩⟩⟩⟩⟩⟩⟩⟩⟩⟩⟩⟩
def jmT_8 : List (MethodName × MT × Nat × Option FieldType) := [(yX9_laid, (cX9_laid, 9, 0), 3, none), (yX9_row, (cX9_row, 9, 1), 3, some .int), (yX9_namedBy, (cX9_namedBy, 9, 1), 5, some .int), (yX9_name, (cX9_name, 9, 1), 7, some .int), (yX9_monthNamed, (cX9_monthNamed, 9, 1), 4, some .int), (yX9_spellings, (cX9_spellings, 9, 1), 5, some .int), (yX9_isFeast, (cX9_isFeast, 9, 4), 2, some .boolean), (yX9_feast, (cX9_feast, 9, 1), 7, some .int), (yX9_movableDay, (cX9_movableDay, 9, 1), 8, some .int), (yX9_movable, (cX9_movable, 9, 1), 4, some .int), (yX9_fixed, (cX9_fixed, 9, 1), 10, some .int), (yX9_weekday, (cX9_weekday, 9, 1), 9, some .int), (yX9_forget, (cX9_forget, 9, 0), 1, none), (yX9_kept, (cX9_kept, 9, 1), 3, some .int), (yX9_place, (cX9_place, 9, 0), 9, none), (yX9_isTaken, (cX9_isTaken, 9, 4), 5, some .boolean), (yX9_feastDay, (cX9_feastDay, 9, 1), 3, some .int), (yX9_moved, (cX9_moved, 9, 1), 4, some .int), (yX9_feastAt, (cX9_feastAt, 9, 1), 7, some .int), (yX9_feastOn, (cX9_feastOn, 9, 1), 3, some .int)]
set_option maxRecDepth 100000 in
theorem jmQ_X9_laid : jmQ (yX9_laid, (cX9_laid, 9, 0), 3, none) := List.mem_of_getElem? (i := 1152) rfl
set_option maxRecDepth 100000 in
theorem jmQ_X9_row : jmQ (yX9_row, (cX9_row, 9, 1), 3, some .int) := List.mem_of_getElem? (i := 1148) rfl
set_option maxRecDepth 100000 in
theorem jmQ_X9_namedBy : jmQ (yX9_namedBy, (cX9_namedBy, 9, 1), 5, some .int) := List.mem_of_getElem? (i := 1160) rfl
set_option maxRecDepth 100000 in
theorem jmQ_X9_name : jmQ (yX9_name, (cX9_name, 9, 1), 7, some .int) := List.mem_of_getElem? (i := 1156) rfl
set_option maxRecDepth 100000 in
theorem jmQ_X9_monthNamed : jmQ (yX9_monthNamed, (cX9_monthNamed, 9, 1), 4, some .int) := List.mem_of_getElem? (i := 1164) rfl
set_option maxRecDepth 100000 in
theorem jmQ_X9_spellings : jmQ (yX9_spellings, (cX9_spellings, 9, 1), 5, some .int) := List.mem_of_getElem? (i := 1168) rfl
set_option maxRecDepth 100000 in
theorem jmQ_X9_isFeast : jmQ (yX9_isFeast, (cX9_isFeast, 9, 4), 2, some .boolean) := List.mem_of_getElem? (i := 1176) rfl
set_option maxRecDepth 100000 in
theorem jmQ_X9_feast : jmQ (yX9_feast, (cX9_feast, 9, 1), 7, some .int) := List.mem_of_getElem? (i := 1172) rfl
set_option maxRecDepth 100000 in
theorem jmQ_X9_movableDay : jmQ (yX9_movableDay, (cX9_movableDay, 9, 1), 8, some .int) := List.mem_of_getElem? (i := 1188) rfl
set_option maxRecDepth 100000 in
theorem jmQ_X9_movable : jmQ (yX9_movable, (cX9_movable, 9, 1), 4, some .int) := List.mem_of_getElem? (i := 1184) rfl
set_option maxRecDepth 100000 in
theorem jmQ_X9_fixed : jmQ (yX9_fixed, (cX9_fixed, 9, 1), 10, some .int) := List.mem_of_getElem? (i := 1204) rfl
set_option maxRecDepth 100000 in
theorem jmQ_X9_weekday : jmQ (yX9_weekday, (cX9_weekday, 9, 1), 9, some .int) := List.mem_of_getElem? (i := 1208) rfl
set_option maxRecDepth 100000 in
theorem jmQ_X9_forget : jmQ (yX9_forget, (cX9_forget, 9, 0), 1, none) := List.mem_of_getElem? (i := 1180) rfl
set_option maxRecDepth 100000 in
theorem jmQ_X9_kept : jmQ (yX9_kept, (cX9_kept, 9, 1), 3, some .int) := List.mem_of_getElem? (i := 1196) rfl
set_option maxRecDepth 100000 in
theorem jmQ_X9_place : jmQ (yX9_place, (cX9_place, 9, 0), 9, none) := List.mem_of_getElem? (i := 1200) rfl
set_option maxRecDepth 100000 in
theorem jmQ_X9_isTaken : jmQ (yX9_isTaken, (cX9_isTaken, 9, 4), 5, some .boolean) := List.mem_of_getElem? (i := 1212) rfl
set_option maxRecDepth 100000 in
theorem jmQ_X9_feastDay : jmQ (yX9_feastDay, (cX9_feastDay, 9, 1), 3, some .int) := List.mem_of_getElem? (i := 1192) rfl
set_option maxRecDepth 100000 in
theorem jmQ_X9_moved : jmQ (yX9_moved, (cX9_moved, 9, 1), 4, some .int) := List.mem_of_getElem? (i := 1216) rfl
set_option maxRecDepth 100000 in
theorem jmQ_X9_feastAt : jmQ (yX9_feastAt, (cX9_feastAt, 9, 1), 7, some .int) := List.mem_of_getElem? (i := 1224) rfl
set_option maxRecDepth 100000 in
theorem jmQ_X9_feastOn : jmQ (yX9_feastOn, (cX9_feastOn, 9, 1), 3, some .int) := List.mem_of_getElem? (i := 1220) rfl
theorem jmT_8_ok : ∀ e ∈ jmT_8, jmQ e := List.forall_mem_cons.mpr ⟨jmQ_X9_laid, List.forall_mem_cons.mpr ⟨jmQ_X9_row, List.forall_mem_cons.mpr ⟨jmQ_X9_namedBy, List.forall_mem_cons.mpr ⟨jmQ_X9_name, List.forall_mem_cons.mpr ⟨jmQ_X9_monthNamed, List.forall_mem_cons.mpr ⟨jmQ_X9_spellings, List.forall_mem_cons.mpr ⟨jmQ_X9_isFeast, List.forall_mem_cons.mpr ⟨jmQ_X9_feast, List.forall_mem_cons.mpr ⟨jmQ_X9_movableDay, List.forall_mem_cons.mpr ⟨jmQ_X9_movable, List.forall_mem_cons.mpr ⟨jmQ_X9_fixed, List.forall_mem_cons.mpr ⟨jmQ_X9_weekday, List.forall_mem_cons.mpr ⟨jmQ_X9_forget, List.forall_mem_cons.mpr ⟨jmQ_X9_kept, List.forall_mem_cons.mpr ⟨jmQ_X9_place, List.forall_mem_cons.mpr ⟨jmQ_X9_isTaken, List.forall_mem_cons.mpr ⟨jmQ_X9_feastDay, List.forall_mem_cons.mpr ⟨jmQ_X9_moved, List.forall_mem_cons.mpr ⟨jmQ_X9_feastAt, List.forall_mem_cons.mpr ⟨jmQ_X9_feastOn, fun _ h => absurd h List.not_mem_nil⟩⟩⟩⟩⟩⟩⟩⟩⟩⟩⟩⟩⟩⟩⟩⟩⟩⟩⟩⟩
def jmT_9 : List (MethodName × MT × Nat × Option FieldType) := [(yX9_ageOf, (cX9_ageOf, 9, 2), 3, some .long), (yX9_age, (cX9_age, 9, 1), 2, some .int), (yX9_newMoon, (cX9_newMoon, 9, 1), 4, some .int), (yX9_floor, (cX9_floor, 9, 3), 4, some .double), (yX9_wave, (cX9_wave, 9, 3), 8, some .double), (yX9_estimated, (cX9_estimated, 9, 3), 3, some .double), (yX9_estimate, (cX9_estimate, 9, 3), 2, some .double), (yX9_light, (cX9_light, 9, 1), 8, some .int), (yX9_isNew, (cX9_isNew, 9, 4), 7, some .boolean), (yX9_isParish, (cX9_isParish, 9, 4), 2, some .boolean), (yX9_parish, (cX9_parish, 9, 1), 3, some .int), (yX9_rule, (cX9_rule, 9, 1), 7, some .int), (yX9_isFree, (cX9_isFree, 9, 4), 8, some .boolean), (yX9_isOffDay, (cX9_isOffDay, 9, 4), 3, some .boolean), (yX9_isOff, (cX9_isOff, 9, 1), 3, some .int), (yX9_worked, (cX9_worked, 9, 1), 6, some .int), (yX9_nextOff, (cX9_nextOff, 9, 1), 4, some .int), (yX9_inRow, (cX9_inRow, 9, 1), 5, some .int), (yX9_write, (cX9_write, 9, 0), 4, none), (yX9_writeNumber, (cX9_writeNumber, 9, 1), 6, some .int)]
set_option maxRecDepth 100000 in
theorem jmQ_X9_ageOf : jmQ (yX9_ageOf, (cX9_ageOf, 9, 2), 3, some .long) := List.mem_of_getElem? (i := 1231) rfl
set_option maxRecDepth 100000 in
theorem jmQ_X9_age : jmQ (yX9_age, (cX9_age, 9, 1), 2, some .int) := List.mem_of_getElem? (i := 1228) rfl
set_option maxRecDepth 100000 in
theorem jmQ_X9_newMoon : jmQ (yX9_newMoon, (cX9_newMoon, 9, 1), 4, some .int) := List.mem_of_getElem? (i := 1238) rfl
set_option maxRecDepth 100000 in
theorem jmQ_X9_floor : jmQ (yX9_floor, (cX9_floor, 9, 3), 4, some .double) := List.mem_of_getElem? (i := 1255) rfl
set_option maxRecDepth 100000 in
theorem jmQ_X9_wave : jmQ (yX9_wave, (cX9_wave, 9, 3), 8, some .double) := List.mem_of_getElem? (i := 1252) rfl
set_option maxRecDepth 100000 in
theorem jmQ_X9_estimated : jmQ (yX9_estimated, (cX9_estimated, 9, 3), 3, some .double) := List.mem_of_getElem? (i := 1245) rfl
set_option maxRecDepth 100000 in
theorem jmQ_X9_estimate : jmQ (yX9_estimate, (cX9_estimate, 9, 3), 2, some .double) := List.mem_of_getElem? (i := 1242) rfl
set_option maxRecDepth 100000 in
theorem jmQ_X9_light : jmQ (yX9_light, (cX9_light, 9, 1), 8, some .int) := List.mem_of_getElem? (i := 1276) rfl
set_option maxRecDepth 100000 in
theorem jmQ_X9_isNew : jmQ (yX9_isNew, (cX9_isNew, 9, 4), 7, some .boolean) := List.mem_of_getElem? (i := 1339) rfl
set_option maxRecDepth 100000 in
theorem jmQ_X9_isParish : jmQ (yX9_isParish, (cX9_isParish, 9, 4), 2, some .boolean) := List.mem_of_getElem? (i := 1291) rfl
set_option maxRecDepth 100000 in
theorem jmQ_X9_parish : jmQ (yX9_parish, (cX9_parish, 9, 1), 3, some .int) := List.mem_of_getElem? (i := 1283) rfl
set_option maxRecDepth 100000 in
theorem jmQ_X9_rule : jmQ (yX9_rule, (cX9_rule, 9, 1), 7, some .int) := List.mem_of_getElem? (i := 1287) rfl
set_option maxRecDepth 100000 in
theorem jmQ_X9_isFree : jmQ (yX9_isFree, (cX9_isFree, 9, 4), 8, some .boolean) := List.mem_of_getElem? (i := 1303) rfl
set_option maxRecDepth 100000 in
theorem jmQ_X9_isOffDay : jmQ (yX9_isOffDay, (cX9_isOffDay, 9, 4), 3, some .boolean) := List.mem_of_getElem? (i := 1299) rfl
set_option maxRecDepth 100000 in
theorem jmQ_X9_isOff : jmQ (yX9_isOff, (cX9_isOff, 9, 1), 3, some .int) := List.mem_of_getElem? (i := 1295) rfl
set_option maxRecDepth 100000 in
theorem jmQ_X9_worked : jmQ (yX9_worked, (cX9_worked, 9, 1), 6, some .int) := List.mem_of_getElem? (i := 1307) rfl
set_option maxRecDepth 100000 in
theorem jmQ_X9_nextOff : jmQ (yX9_nextOff, (cX9_nextOff, 9, 1), 4, some .int) := List.mem_of_getElem? (i := 1312) rfl
set_option maxRecDepth 100000 in
theorem jmQ_X9_inRow : jmQ (yX9_inRow, (cX9_inRow, 9, 1), 5, some .int) := List.mem_of_getElem? (i := 1317) rfl
set_option maxRecDepth 100000 in
theorem jmQ_X9_write : jmQ (yX9_write, (cX9_write, 9, 0), 4, none) := List.mem_of_getElem? (i := 1329) rfl
set_option maxRecDepth 100000 in
theorem jmQ_X9_writeNumber : jmQ (yX9_writeNumber, (cX9_writeNumber, 9, 1), 6, some .int) := List.mem_of_getElem? (i := 1325) rfl
theorem jmT_9_ok : ∀ e ∈ jmT_9, jmQ e := List.forall_mem_cons.mpr ⟨jmQ_X9_ageOf, List.forall_mem_cons.mpr ⟨jmQ_X9_age, List.forall_mem_cons.mpr ⟨jmQ_X9_newMoon, List.forall_mem_cons.mpr ⟨jmQ_X9_floor, List.forall_mem_cons.mpr ⟨jmQ_X9_wave, List.forall_mem_cons.mpr ⟨jmQ_X9_estimated, List.forall_mem_cons.mpr ⟨jmQ_X9_estimate, List.forall_mem_cons.mpr ⟨jmQ_X9_light, List.forall_mem_cons.mpr ⟨jmQ_X9_isNew, List.forall_mem_cons.mpr ⟨jmQ_X9_isParish, List.forall_mem_cons.mpr ⟨jmQ_X9_parish, List.forall_mem_cons.mpr ⟨jmQ_X9_rule, List.forall_mem_cons.mpr ⟨jmQ_X9_isFree, List.forall_mem_cons.mpr ⟨jmQ_X9_isOffDay, List.forall_mem_cons.mpr ⟨jmQ_X9_isOff, List.forall_mem_cons.mpr ⟨jmQ_X9_worked, List.forall_mem_cons.mpr ⟨jmQ_X9_nextOff, List.forall_mem_cons.mpr ⟨jmQ_X9_inRow, List.forall_mem_cons.mpr ⟨jmQ_X9_write, List.forall_mem_cons.mpr ⟨jmQ_X9_writeNumber, fun _ h => absurd h List.not_mem_nil⟩⟩⟩⟩⟩⟩⟩⟩⟩⟩⟩⟩⟩⟩⟩⟩⟩⟩⟩⟩
def jmT_10 : List (MethodName × MT × Nat × Option FieldType) := [(yX9_writeDay, (cX9_writeDay, 9, 0), 4, none), (yX9_letterOf, (cX9_letterOf, 9, 1), 1, some .int), (yX9_page, (cX9_page, 9, 1), 12, some .int), (yX9_sign, (cX9_sign, 9, 1), 3, some .int), (yX9_put, (cX9_put, 9, 0), 2, none), (yX9_sum, (cX9_sum, 9, 1), 5, some .int), (yX9_book, (cX9_book, 9, 1), 11, some .int), (yX9_load, (cX9_load, 9, 1), 4, some .int), (yX9_byteAt, (cX9_byteAt, 9, 1), 2, some .int), (yX9_spoil, (cX9_spoil, 9, 1), 3, some .int), (yX9_wipe, (cX9_wipe, 9, 1), 2, some .int), (yX9_verify, (cX9_verify, 9, 1), 6, some .int), (yX9_undo, (cX9_undo, 9, 1), 1, some .int), (yX9_count, (cX9_count, 9, 1), 2, some .int), (yJ6_rotateLeft_7cf53, (cJ6_rotateLeft_7cf53, 11, 1), 2, some .int), (yJ9_floorMod_7cf53, (cJ9_floorMod_7cf53, 12, 1), 3, some .int), (yJ9_floorMod_f86c9, (cJ9_floorMod_f86c9, 12, 2), 6, some .long), (yJ9_max_7cf53, (cJ9_max_7cf53, 12, 1), 2, some .int), (yJ9_min_7cf53, (cJ9_min_7cf53, 12, 1), 2, some .int), (yJ0_length_8abf5, (cJ0_length_8abf5, 14, 1), 1, some .int)]
set_option maxRecDepth 100000 in
theorem jmQ_X9_writeDay : jmQ (yX9_writeDay, (cX9_writeDay, 9, 0), 4, none) := List.mem_of_getElem? (i := 1336) rfl
set_option maxRecDepth 100000 in
theorem jmQ_X9_letterOf : jmQ (yX9_letterOf, (cX9_letterOf, 9, 1), 1, some .int) := List.mem_of_getElem? (i := 1332) rfl
set_option maxRecDepth 100000 in
theorem jmQ_X9_page : jmQ (yX9_page, (cX9_page, 9, 1), 12, some .int) := List.mem_of_getElem? (i := 1321) rfl
set_option maxRecDepth 100000 in
theorem jmQ_X9_sign : jmQ (yX9_sign, (cX9_sign, 9, 1), 3, some .int) := List.mem_of_getElem? (i := 1344) rfl
set_option maxRecDepth 100000 in
theorem jmQ_X9_put : jmQ (yX9_put, (cX9_put, 9, 0), 2, none) := List.mem_of_getElem? (i := 1352) rfl
set_option maxRecDepth 100000 in
theorem jmQ_X9_sum : jmQ (yX9_sum, (cX9_sum, 9, 1), 5, some .int) := List.mem_of_getElem? (i := 1356) rfl
set_option maxRecDepth 100000 in
theorem jmQ_X9_book : jmQ (yX9_book, (cX9_book, 9, 1), 11, some .int) := List.mem_of_getElem? (i := 1348) rfl
set_option maxRecDepth 100000 in
theorem jmQ_X9_load : jmQ (yX9_load, (cX9_load, 9, 1), 4, some .int) := List.mem_of_getElem? (i := 1361) rfl
set_option maxRecDepth 100000 in
theorem jmQ_X9_byteAt : jmQ (yX9_byteAt, (cX9_byteAt, 9, 1), 2, some .int) := List.mem_of_getElem? (i := 1365) rfl
set_option maxRecDepth 100000 in
theorem jmQ_X9_spoil : jmQ (yX9_spoil, (cX9_spoil, 9, 1), 3, some .int) := List.mem_of_getElem? (i := 1369) rfl
set_option maxRecDepth 100000 in
theorem jmQ_X9_wipe : jmQ (yX9_wipe, (cX9_wipe, 9, 1), 2, some .int) := List.mem_of_getElem? (i := 1373) rfl
set_option maxRecDepth 100000 in
theorem jmQ_X9_verify : jmQ (yX9_verify, (cX9_verify, 9, 1), 6, some .int) := List.mem_of_getElem? (i := 1377) rfl
set_option maxRecDepth 100000 in
theorem jmQ_X9_undo : jmQ (yX9_undo, (cX9_undo, 9, 1), 1, some .int) := List.mem_of_getElem? (i := 1381) rfl
set_option maxRecDepth 100000 in
theorem jmQ_X9_count : jmQ (yX9_count, (cX9_count, 9, 1), 2, some .int) := List.mem_of_getElem? (i := 1385) rfl
set_option maxRecDepth 100000 in
theorem jmQ_J6_rotateLeft_7cf53 : jmQ (yJ6_rotateLeft_7cf53, (cJ6_rotateLeft_7cf53, 11, 1), 2, some .int) := List.mem_of_getElem? (i := 857) rfl
set_option maxRecDepth 100000 in
theorem jmQ_J9_floorMod_7cf53 : jmQ (yJ9_floorMod_7cf53, (cJ9_floorMod_7cf53, 12, 1), 3, some .int) := List.mem_of_getElem? (i := 544) rfl
set_option maxRecDepth 100000 in
theorem jmQ_J9_floorMod_f86c9 : jmQ (yJ9_floorMod_f86c9, (cJ9_floorMod_f86c9, 12, 2), 6, some .long) := List.mem_of_getElem? (i := 618) rfl
set_option maxRecDepth 100000 in
theorem jmQ_J9_max_7cf53 : jmQ (yJ9_max_7cf53, (cJ9_max_7cf53, 12, 1), 2, some .int) := List.mem_of_getElem? (i := 446) rfl
set_option maxRecDepth 100000 in
theorem jmQ_J9_min_7cf53 : jmQ (yJ9_min_7cf53, (cJ9_min_7cf53, 12, 1), 2, some .int) := List.mem_of_getElem? (i := 323) rfl
set_option maxRecDepth 100000 in
theorem jmQ_J0_length_8abf5 : jmQ (yJ0_length_8abf5, (cJ0_length_8abf5, 14, 1), 1, some .int) := List.mem_of_getElem? (i := 763) rfl
theorem jmT_10_ok : ∀ e ∈ jmT_10, jmQ e := List.forall_mem_cons.mpr ⟨jmQ_X9_writeDay, List.forall_mem_cons.mpr ⟨jmQ_X9_letterOf, List.forall_mem_cons.mpr ⟨jmQ_X9_page, List.forall_mem_cons.mpr ⟨jmQ_X9_sign, List.forall_mem_cons.mpr ⟨jmQ_X9_put, List.forall_mem_cons.mpr ⟨jmQ_X9_sum, List.forall_mem_cons.mpr ⟨jmQ_X9_book, List.forall_mem_cons.mpr ⟨jmQ_X9_load, List.forall_mem_cons.mpr ⟨jmQ_X9_byteAt, List.forall_mem_cons.mpr ⟨jmQ_X9_spoil, List.forall_mem_cons.mpr ⟨jmQ_X9_wipe, List.forall_mem_cons.mpr ⟨jmQ_X9_verify, List.forall_mem_cons.mpr ⟨jmQ_X9_undo, List.forall_mem_cons.mpr ⟨jmQ_X9_count, List.forall_mem_cons.mpr ⟨jmQ_J6_rotateLeft_7cf53, List.forall_mem_cons.mpr ⟨jmQ_J9_floorMod_7cf53, List.forall_mem_cons.mpr ⟨jmQ_J9_floorMod_f86c9, List.forall_mem_cons.mpr ⟨jmQ_J9_max_7cf53, List.forall_mem_cons.mpr ⟨jmQ_J9_min_7cf53, List.forall_mem_cons.mpr ⟨jmQ_J0_length_8abf5, fun _ h => absurd h List.not_mem_nil⟩⟩⟩⟩⟩⟩⟩⟩⟩⟩⟩⟩⟩⟩⟩⟩⟩⟩⟩⟩
def jmT_11 : List (MethodName × MT × Nat × Option FieldType) := [(yJ0_charAt_5068e, (cJ0_charAt_5068e, 14, 5), 2, some .char), (yJ7_fill_53178, (cJ7_fill_53178, 13, 0), 4, none)]
set_option maxRecDepth 100000 in
theorem jmQ_J0_charAt_5068e : jmQ (yJ0_charAt_5068e, (cJ0_charAt_5068e, 14, 5), 2, some .char) := List.mem_of_getElem? (i := 773) rfl
set_option maxRecDepth 100000 in
theorem jmQ_J7_fill_53178 : jmQ (yJ7_fill_53178, (cJ7_fill_53178, 13, 0), 4, none) := List.mem_of_getElem? (i := 124) rfl
theorem jmT_11_ok : ∀ e ∈ jmT_11, jmQ e := List.forall_mem_cons.mpr ⟨jmQ_J0_charAt_5068e, List.forall_mem_cons.mpr ⟨jmQ_J7_fill_53178, fun _ h => absurd h List.not_mem_nil⟩⟩
set_option maxRecDepth 100000 in
theorem jmT_split : jmT = jmT_0 ++ (jmT_1 ++ (jmT_2 ++ (jmT_3 ++ (jmT_4 ++ (jmT_5 ++ (jmT_6 ++ (jmT_7 ++ (jmT_8 ++ (jmT_9 ++ (jmT_10 ++ (jmT_11))))))))))) := rfl
theorem jmc_ok : ∀ e ∈ jmT, jmQ e := by
  rw [jmT_split]
  exact List.forall_mem_append.mpr ⟨jmT_0_ok, List.forall_mem_append.mpr ⟨jmT_1_ok, List.forall_mem_append.mpr ⟨jmT_2_ok, List.forall_mem_append.mpr ⟨jmT_3_ok, List.forall_mem_append.mpr ⟨jmT_4_ok, List.forall_mem_append.mpr ⟨jmT_5_ok, List.forall_mem_append.mpr ⟨jmT_6_ok, List.forall_mem_append.mpr ⟨jmT_7_ok, List.forall_mem_append.mpr ⟨jmT_8_ok, List.forall_mem_append.mpr ⟨jmT_9_ok, List.forall_mem_append.mpr ⟨jmT_10_ok, jmT_11_ok⟩⟩⟩⟩⟩⟩⟩⟩⟩⟩⟩
