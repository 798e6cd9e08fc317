/-! Every word of wAll stands in the tables, by its place. Written by wip/whole/law/intab2.py. -/
section IT
set_option maxRecDepth 20000 in
theorem wA0_t : ∀ w ∈ wA0, w ∈ lw_tbl := fun w h => (goodIn_r wA0 [144, 141, 174, 179, 185, 157, 161, 170, 165, 147, 149, 148, 101, 142, 143, 100, 137, 130, 131, 206, 150, 138, 139, 140, 99, 136, 360, 361, 364, 133, 363, 135, 359, 657, 365, 621, 617, 618, 619, 620, 654, 656, 19, 107, 658, 615, 616, 653, 838, 217, 218, 219, 230, 231, 232, 234, 237, 254, 255, 256] (by decide +kernel) wA0_g w h).1
set_option maxRecDepth 20000 in
theorem wA1_t : ∀ w ∈ wA1, w ∈ lw_tbl := fun w h => (goodIn_r wA1 [258, 259, 260, 212, 213, 214, 103, 273, 275, 226, 227, 104, 277, 250, 251, 105, 279, 281, 283, 285, 216, 229, 253, 211, 629, 287, 288, 926, 573, 683, 684, 695, 691, 158, 166, 692, 693, 694, 688, 238, 184, 689, 690, 152, 187, 679, 571, 572, 680, 681, 682, 685, 686, 687, 678, 740, 744, 221, 745, 235] (by decide +kernel) wA1_g w h).1
set_option maxRecDepth 20000 in
theorem wA2_t : ∀ w ∈ wA2, w ∈ lw_tbl := fun w h => (goodIn_r wA2 [737, 738, 739, 741, 743, 24, 102, 736, 757, 753, 169, 758, 759, 119, 760, 754, 755, 756, 768, 764, 769, 770, 771, 765, 766, 767, 778, 163, 172, 772, 773, 774, 750, 752, 26, 761, 763, 27, 775, 777, 28, 749, 239, 733, 735, 23, 746, 748, 25, 732, 786, 790, 791, 792, 782, 783, 784, 785, 787, 788] (by decide +kernel) wA2_g w h).1
set_option maxRecDepth 20000 in
theorem wA3_t : ∀ w ∈ wA3, w ∈ lw_tbl := fun w h => (goodIn_r wA3 [789, 805, 180, 175, 153, 809, 261, 813, 220, 817, 801, 802, 804, 31, 806, 808, 32, 810, 812, 33, 814, 816, 34, 800, 257, 797, 798, 799, 796, 821, 728, 676, 677, 729, 731, 22, 779, 781, 29, 793, 795, 30, 818, 820, 35, 727, 863, 829, 825, 826, 827, 828, 859, 902, 903, 857, 858, 904, 846, 854] (by decide +kernel) wA3_g w h).1
set_option maxRecDepth 20000 in
theorem wA4_t : ∀ w ∈ wA4, w ∈ lw_tbl := fun w h => (goodIn_r wA4 [855, 844, 845, 938, 939, 852, 853, 1074, 1075, 670, 711, 712, 644, 703, 1028, 1024, 1025, 1027, 45, 402, 403, 404, 405, 1053, 151, 1056, 1054, 1055, 1061, 1057, 1062, 1050, 1052, 46, 109, 1058, 1060, 47, 1049, 1066, 416, 417, 1009, 1010, 181, 1011, 176, 154, 1015, 1016, 418, 420, 1006, 422, 1007, 1008, 110, 1012, 1014, 44] (by decide +kernel) wA4_g w h).1
set_option maxRecDepth 20000 in
theorem wA5_t : ∀ w ∈ wA5, w ∈ lw_tbl := fun w h => (goodIn_r wA5 [376, 377, 381, 382, 383, 384, 973, 380, 974, 978, 979, 980, 993, 989, 990, 991, 992, 108, 985, 986, 988, 43, 378, 970, 972, 40, 975, 977, 41, 981, 982, 984, 42, 969, 998, 890, 313, 314, 316, 318, 354, 319, 320, 325, 315, 312, 466, 322, 323, 327, 328, 479, 478, 483, 495, 509, 510, 1648, 505, 1647] (by decide +kernel) wA5_g w h).1
set_option maxRecDepth 20000 in
theorem wA6_t : ∀ w ∈ wA6, w ∈ lw_tbl := fun w h => (goodIn_r wA6 [506, 507, 508, 112, 519, 530, 525, 526, 528, 529, 114, 522, 523, 524, 539, 536, 537, 538, 115, 540, 543, 544, 546, 548, 533, 534, 535, 541, 542, 516, 517, 518, 520, 521, 113, 531, 532, 515, 502, 503, 504, 512, 513, 514, 501, 1646, 492, 494, 4, 106, 498, 500, 5, 491, 553, 554, 188, 1649, 559, 569] (by decide +kernel) wA6_g w h).1
set_option maxRecDepth 20000 in
theorem wA7_t : ∀ w ∈ wA7, w ∈ lw_tbl := fun w h => (goodIn_r wA7 [570, 556, 558, 7, 581, 330, 329, 480, 482, 1, 156, 578, 580, 11, 577, 566, 568, 9, 574, 576, 10, 565, 177, 182, 589, 173, 595, 601, 590, 596, 160, 602, 164, 604, 167, 606, 586, 588, 13, 592, 594, 14, 598, 600, 15, 585, 613, 560, 488, 490, 3, 550, 552, 6, 562, 564, 8, 582, 584, 12] (by decide +kernel) wA7_g w h).1
set_option maxRecDepth 20000 in
theorem wA8_t : ∀ w ∈ wA8, w ∈ lw_tbl := fun w h => (goodIn_r wA8 [610, 612, 16, 487, 475, 477, 0, 484, 486, 2, 474, 867, 1040, 1041, 129, 132, 431, 207, 208, 432, 308, 309, 433, 355, 356, 434, 435, 436, 372, 373, 437, 398, 399, 438, 412, 413, 439, 134, 210, 311, 357, 358, 375, 401, 415, 128, 462, 321, 463, 464, 465, 625, 379, 626, 627, 628, 324, 317, 366, 186] (by decide +kernel) wA8_g w h).1
set_option maxRecDepth 20000 in
theorem wA9_t : ∀ w ∈ wA9, w ∈ lw_tbl := fun w h => (goodIn_r wA9 [471, 472, 473, 614, 622, 624, 17, 98, 470, 633, 326, 640, 650, 651, 652, 649, 168, 638, 639, 641, 642, 643, 646, 648, 18, 637, 171, 662, 675, 674, 159, 278, 240, 667, 668, 669, 671, 673, 20, 666, 162, 700, 701, 702, 699, 715, 155, 708, 709, 710, 713, 714, 707, 724, 725, 726, 723, 286, 720, 722] (by decide +kernel) wA9_g w h).1
set_option maxRecDepth 20000 in
theorem wA10_t : ∀ w ∈ wA10, w ∈ lw_tbl := fun w h => (goodIn_r wA10 [21, 822, 823, 824, 830, 719, 835, 836, 837, 834, 1096, 123, 1095, 274, 222, 282, 284, 276, 843, 842, 233, 851, 856, 860, 861, 862, 864, 865, 866, 868, 850, 876, 873, 875, 36, 877, 872, 236, 881, 280, 886, 887, 888, 889, 885, 894, 899, 900, 901, 898, 908, 916, 923, 924, 925, 922, 917, 918, 913, 915] (by decide +kernel) wA10_g w h).1
set_option maxRecDepth 20000 in
theorem wA11_t : ∀ w ∈ wA11, w ∈ lw_tbl := fun w h => (goodIn_r wA11 [37, 919, 921, 38, 912, 930, 935, 936, 937, 934, 944, 943, 952, 949, 951, 39, 948, 956, 961, 960, 966, 967, 968, 994, 995, 996, 997, 965, 419, 421, 423, 1003, 1004, 1005, 1002, 1020, 1021, 1022, 1023, 1032, 1037, 1038, 1039, 1036, 406, 1046, 1047, 1048, 1063, 1064, 1065, 1045, 1071, 1072, 1073, 1070, 1079, 1087, 1083, 178] (by decide +kernel) wA11_g w h).1
set_option maxRecDepth 20000 in
theorem wA12_t : ∀ w ∈ wA12, w ∈ lw_tbl := fun w h => (goodIn_r wA12 [183, 1084, 1086, 48, 1165, 1180, 1265, 1175, 1176, 1171, 1177, 1178, 1161, 1181, 1186, 1190, 1191, 1192, 1193, 1194, 1195, 1196, 1198, 1199, 1200, 1201, 1172, 1174, 50, 111, 1170, 1258, 1182, 1269, 1184, 1183, 1293, 1185, 1280, 1281, 1282, 1263, 1264, 1304, 1305, 1306, 1286, 1278, 1279, 1266, 1268, 51, 1283, 1285, 54, 1288, 1289, 1277, 1301, 1189] (by decide +kernel) wA12_g w h).1
set_option maxRecDepth 20000 in
theorem wA13_t : ∀ w ∈ wA13, w ∈ lw_tbl := fun w h => (goodIn_r wA13 [1302, 1303, 1290, 1292, 55, 1315, 1311, 1298, 1300, 57, 1312, 1314, 59, 1310, 1188, 1319, 1323, 1307, 1309, 58, 1316, 1318, 60, 1320, 1322, 61, 1297, 1187, 1274, 1276, 53, 1294, 1296, 56, 1273, 1179, 1270, 1272, 52, 1262, 1327, 1360, 1396, 1341, 1338, 1347, 1336, 1337, 1342, 1343, 1339, 1340, 1331, 1332, 1333, 1335, 62, 1344, 1346, 63] (by decide +kernel) wA13_g w h).1
set_option maxRecDepth 20000 in
theorem wA14_t : ∀ w ∈ wA14, w ∈ lw_tbl := fun w h => (goodIn_r wA14 [1351, 1352, 1368, 1374, 1371, 1372, 1373, 1364, 1365, 1367, 66, 1369, 1370, 1378, 1357, 1359, 64, 1361, 1363, 65, 1375, 1377, 67, 1356, 1385, 1386, 1387, 1388, 1382, 1383, 1384, 118, 1393, 1395, 68, 1392, 1400, 1436, 1432, 1428, 1452, 1448, 1449, 1451, 80, 1444, 1429, 1431, 75, 1441, 1443, 78, 1445, 1447, 79, 1440, 1197, 1425, 1427, 74] (by decide +kernel) wA14_g w h).1
set_option maxRecDepth 20000 in
theorem wA15_t : ∀ w ∈ wA15, w ∈ lw_tbl := fun w h => (goodIn_r wA15 [1433, 1435, 76, 1437, 1439, 77, 1424, 1456, 1460, 1421, 1423, 73, 1453, 1455, 81, 1457, 1459, 82, 1420, 1468, 1464, 1465, 1467, 84, 1472, 1417, 1419, 72, 1461, 1463, 83, 1469, 1471, 85, 1416, 1413, 1415, 71, 1412, 1476, 1409, 1411, 70, 1473, 1475, 86, 1408, 1405, 1407, 69, 1404, 1485, 1493, 1489, 1481, 1482, 1484, 87, 1486, 1488] (by decide +kernel) wA15_g w h).1
set_option maxRecDepth 20000 in
theorem wA16_t : ∀ w ∈ wA16, w ∈ lw_tbl := fun w h => (goodIn_r wA16 [88, 1490, 1492, 89, 1480, 1497, 1501, 1510, 1511, 1506, 1507, 1509, 90, 1505, 1519, 1516, 1518, 91, 1515, 1523, 1531, 1528, 1529, 1530, 1527, 1538, 1536, 1537, 1535, 1542, 1546, 1550, 1554, 1558, 1562, 1566, 1570, 1578, 1575, 1577, 92, 1574, 1582, 1594, 1590, 1591, 1593, 94, 1587, 1589, 93, 1586, 1598, 1602, 1610, 1614, 1607, 1609, 95, 1611] (by decide +kernel) wA16_g w h).1
set_option maxRecDepth 20000 in
theorem wA17_t : ∀ w ∈ wA17, w ∈ lw_tbl := fun w h => (goodIn_r wA17 [1613, 96, 1606, 1618, 1622, 1626, 1627, 774, 760, 771, 1091, 1092, 1093, 1094, 1090, 124, 125, 1166, 1167, 1628, 126, 127, 1168, 1169, 459, 460, 461, 1255, 1256, 1257, 467, 468, 469, 1259, 1260, 1261, 630, 631, 632, 1324, 1325, 1326, 634, 635, 636, 1328, 1329, 1330, 659, 660, 661, 1348, 1349, 1350, 663, 664, 665, 1353, 1354, 1355] (by decide +kernel) wA17_g w h).1
set_option maxRecDepth 20000 in
theorem wA18_t : ∀ w ∈ wA18, w ∈ lw_tbl := fun w h => (goodIn_r wA18 [696, 697, 698, 1379, 1380, 1381, 704, 705, 706, 1389, 1390, 1391, 716, 717, 718, 1401, 1402, 1403, 831, 832, 833, 1397, 1398, 1399, 1088, 1089, 97, 1520, 1521, 1522, 1162, 1163, 1164, 839, 840, 841, 1524, 1525, 1526, 847, 848, 849, 1532, 1533, 1534, 869, 870, 871, 1539, 1540, 1541, 878, 879, 880, 1543, 1544, 1545, 882, 883, 884] (by decide +kernel) wA18_g w h).1
set_option maxRecDepth 20000 in
theorem wA19_t : ∀ w ∈ wA19, w ∈ lw_tbl := fun w h => (goodIn_r wA19 [1547, 1548, 1549, 891, 892, 893, 1551, 1552, 1553, 895, 896, 897, 1555, 1556, 1557, 905, 906, 907, 1559, 1560, 1561, 909, 910, 911, 1563, 1564, 1565, 927, 928, 929, 1567, 1568, 1569, 931, 932, 933, 1571, 1572, 1573, 940, 941, 942, 1579, 1580, 1581, 945, 946, 947, 1477, 1478, 1479, 953, 954, 955, 1494, 1495, 1496, 957, 958, 959] (by decide +kernel) wA19_g w h).1
set_option maxRecDepth 20000 in
theorem wA20_t : ∀ w ∈ wA20, w ∈ lw_tbl := fun w h => (goodIn_r wA20 [1498, 1499, 1500, 962, 963, 964, 1502, 1503, 1504, 999, 1000, 1001, 1512, 1513, 1514, 1017, 1018, 1019, 1583, 1584, 1585, 1029, 1030, 1031, 1595, 1596, 1597, 1033, 1034, 1035, 1599, 1600, 1601, 1042, 1043, 1044, 1603, 1604, 1605, 1067, 1068, 1069, 1615, 1616, 1617, 1076, 1077, 1078, 1619, 1620, 1621, 1080, 1081, 1082, 1623, 1624, 1625] (by decide +kernel) wA20_g w h).1
set_option maxRecDepth 20000 in
theorem wsX00_t : ∀ w ∈ wsX00, w ∈ lw_tbl := by decide +kernel
set_option maxRecDepth 20000 in
theorem wsX10_t : ∀ w ∈ wsX10, w ∈ lw_tbl := by decide +kernel
set_option maxRecDepth 20000 in
theorem wsX20_t : ∀ w ∈ wsX20, w ∈ lw_tbl := by decide +kernel
set_option maxRecDepth 20000 in
theorem wsX30_t : ∀ w ∈ wsX30, w ∈ lw_tbl := by decide +kernel
set_option maxRecDepth 20000 in
theorem wsX40_t : ∀ w ∈ wsX40, w ∈ lw_tbl := by decide +kernel
set_option maxRecDepth 20000 in
theorem wsX50_t : ∀ w ∈ wsX50, w ∈ lw_tbl := by decide +kernel
set_option maxRecDepth 20000 in
theorem wsX60_t : ∀ w ∈ wsX60, w ∈ lw_tbl := by decide +kernel
set_option maxRecDepth 20000 in
theorem wsX70_t : ∀ w ∈ wsX70, w ∈ lw_tbl := by decide +kernel
set_option maxRecDepth 20000 in
theorem wsX80_t : ∀ w ∈ wsX80, w ∈ lw_tbl := by decide +kernel
set_option maxRecDepth 20000 in
theorem wsX90_t : ∀ w ∈ wsX90, w ∈ lw_tbl := by decide +kernel
set_option maxRecDepth 20000 in
theorem wsX100_t : ∀ w ∈ wsX100, w ∈ lw_tbl := by decide +kernel
set_option maxRecDepth 20000 in
theorem wsX110_t : ∀ w ∈ wsX110, w ∈ lw_tbl := by decide +kernel
set_option maxRecDepth 20000 in
theorem wsX120_t : ∀ w ∈ wsX120, w ∈ lw_tbl := by decide +kernel
set_option maxRecDepth 20000 in
theorem wsJx145de0_t : ∀ w ∈ wsJx145de0, w ∈ lw_tbl := by decide +kernel
set_option maxRecDepth 20000 in
theorem wsJx9f9b00_t : ∀ w ∈ wsJx9f9b00, w ∈ lw_tbl := by decide +kernel
set_option maxRecDepth 20000 in
theorem wsJxb160c0_t : ∀ w ∈ wsJxb160c0, w ∈ lw_tbl := by decide +kernel
set_option maxRecDepth 20000 in
theorem wsJx29ce00_t : ∀ w ∈ wsJx29ce00, w ∈ lw_tbl := by decide +kernel
set_option maxRecDepth 20000 in
theorem wsJ60_t : ∀ w ∈ wsJ60, w ∈ lw_tbl := by decide +kernel
set_option maxRecDepth 20000 in
theorem wsJ90_t : ∀ w ∈ wsJ90, w ∈ lw_tbl := by decide +kernel
set_option maxRecDepth 20000 in
theorem wsJ00_t : ∀ w ∈ wsJ00, w ∈ lw_tbl := by decide +kernel
set_option maxRecDepth 20000 in
theorem wsJ10_t : ∀ w ∈ wsJ10, w ∈ lw_tbl := by decide +kernel
set_option maxRecDepth 20000 in
theorem wsJ20_t : ∀ w ∈ wsJ20, w ∈ lw_tbl := by decide +kernel
set_option maxRecDepth 20000 in
theorem wsJ100_t : ∀ w ∈ wsJ100, w ∈ lw_tbl := by decide +kernel
set_option maxRecDepth 20000 in
theorem wsJxfd54e0_t : ∀ w ∈ wsJxfd54e0, w ∈ lw_tbl := by decide +kernel
set_option maxRecDepth 20000 in
theorem wsJx3cf430_t : ∀ w ∈ wsJx3cf430, w ∈ lw_tbl := by decide +kernel
set_option maxRecDepth 20000 in
theorem wsJ70_t : ∀ w ∈ wsJ70, w ∈ lw_tbl := by decide +kernel
set_option maxRecDepth 20000 in
theorem wsJ30_t : ∀ w ∈ wsJ30, w ∈ lw_tbl := by decide +kernel
theorem app_t {a b : List Cond} (h1 : ∀ w ∈ a, w ∈ lw_tbl) (h2 : ∀ w ∈ b, w ∈ lw_tbl) : ∀ w ∈ a ++ b, w ∈ lw_tbl := fun w h => (List.mem_append.mp h).elim (h1 w) (h2 w)
theorem wAll_t : ∀ w ∈ wAll, w ∈ lw_tbl := app_t wA0_t (app_t wA1_t (app_t wA2_t (app_t wA3_t (app_t wA4_t (app_t wA5_t (app_t wA6_t (app_t wA7_t (app_t wA8_t (app_t wA9_t (app_t wA10_t (app_t wA11_t (app_t wA12_t (app_t wA13_t (app_t wA14_t (app_t wA15_t (app_t wA16_t (app_t wA17_t (app_t wA18_t (app_t wA19_t (app_t wA20_t (app_t wsX00_t (app_t wsX10_t (app_t wsX20_t (app_t wsX30_t (app_t wsX40_t (app_t wsX50_t (app_t wsX60_t (app_t wsX70_t (app_t wsX80_t (app_t wsX90_t (app_t wsX100_t (app_t wsX110_t (app_t wsX120_t (app_t wsJx145de0_t (app_t wsJx9f9b00_t (app_t wsJxb160c0_t (app_t wsJx29ce00_t (app_t wsJ60_t (app_t wsJ90_t (app_t wsJ00_t (app_t wsJ10_t (app_t wsJ20_t (app_t wsJ100_t (app_t wsJxfd54e0_t (app_t wsJx3cf430_t (app_t wsJ70_t (wsJ30_t)))))))))))))))))))))))))))))))))))))))))))))))
end IT
