/-! Every word of wAll stands in the tables. Written by wip/whole/law/intab.py. -/
section IT
set_option maxRecDepth 20000 in
theorem wA0_t : ∀ w ∈ wA0, w ∈ lw_tbl := fun w h => (goodIn_p wA0 [144, 141, 131, 136, 359, 657, 621, 617, 653, 838, 217, 230, 254] (by decide +kernel) (by decide +kernel) w h).1
set_option maxRecDepth 20000 in
theorem wA1_t : ∀ w ∈ wA1, w ∈ lw_tbl := fun w h => (goodIn_p wA1 [211, 629, 926, 573, 683, 695, 691, 688, 678, 740, 744] (by decide +kernel) (by decide +kernel) w h).1
set_option maxRecDepth 20000 in
theorem wA2_t : ∀ w ∈ wA2, w ∈ lw_tbl := fun w h => (goodIn_p wA2 [736, 757, 753, 760, 768, 764, 771, 778, 774, 749, 732, 786, 790, 782] (by decide +kernel) (by decide +kernel) w h).1
set_option maxRecDepth 20000 in
theorem wA3_t : ∀ w ∈ wA3, w ∈ lw_tbl := fun w h => (goodIn_p wA3 [805, 809, 813, 817, 800, 796, 821, 727, 863, 829, 825, 859, 902, 846, 854] (by decide +kernel) (by decide +kernel) w h).1
set_option maxRecDepth 20000 in
theorem wA4_t : ∀ w ∈ wA4, w ∈ lw_tbl := fun w h => (goodIn_p wA4 [938, 1074, 670, 711, 644, 703, 1028, 1024, 402, 1053, 1061, 1049, 1066, 416, 1009, 1015, 1006] (by decide +kernel) (by decide +kernel) w h).1
set_option maxRecDepth 20000 in
theorem wA5_t : ∀ w ∈ wA5, w ∈ lw_tbl := fun w h => (goodIn_p wA5 [376, 973, 978, 993, 989, 985, 969, 998, 890, 312, 466, 478, 483, 495, 509, 505] (by decide +kernel) (by decide +kernel) w h).1
set_option maxRecDepth 20000 in
theorem wA6_t : ∀ w ∈ wA6, w ∈ lw_tbl := fun w h => (goodIn_p wA6 [519, 530, 525, 522, 539, 536, 543, 533, 515, 501, 491, 553, 559, 569] (by decide +kernel) (by decide +kernel) w h).1
set_option maxRecDepth 20000 in
theorem wA7_t : ∀ w ∈ wA7, w ∈ lw_tbl := fun w h => (goodIn_p wA7 [581, 577, 565, 589, 595, 601, 585, 613] (by decide +kernel) (by decide +kernel) w h).1
set_option maxRecDepth 20000 in
theorem wA8_t : ∀ w ∈ wA8, w ∈ lw_tbl := fun w h => (goodIn_p wA8 [487, 474, 867, 1040, 128, 462, 625] (by decide +kernel) (by decide +kernel) w h).1
set_option maxRecDepth 20000 in
theorem wA9_t : ∀ w ∈ wA9, w ∈ lw_tbl := fun w h => (goodIn_p wA9 [470, 633, 640, 649, 637, 662, 674, 666, 699, 715, 707, 723] (by decide +kernel) (by decide +kernel) w h).1
set_option maxRecDepth 20000 in
theorem wA10_t : ∀ w ∈ wA10, w ∈ lw_tbl := fun w h => (goodIn_p wA10 [719, 834, 1095, 842, 850, 876, 872, 881, 885, 894, 898, 908, 916, 922] (by decide +kernel) (by decide +kernel) w h).1
set_option maxRecDepth 20000 in
theorem wA11_t : ∀ w ∈ wA11, w ∈ lw_tbl := fun w h => (goodIn_p wA11 [912, 930, 934, 943, 952, 948, 956, 960, 965, 1002, 1020, 1032, 1036, 1045, 1070, 1079, 1087, 1083] (by decide +kernel) (by decide +kernel) w h).1
set_option maxRecDepth 20000 in
theorem wA12_t : ∀ w ∈ wA12, w ∈ lw_tbl := fun w h => (goodIn_p wA12 [1165, 1265, 1175, 1170, 1258, 1269, 1293, 1280, 1304, 1286, 1277, 1301] (by decide +kernel) (by decide +kernel) w h).1
set_option maxRecDepth 20000 in
theorem wA13_t : ∀ w ∈ wA13, w ∈ lw_tbl := fun w h => (goodIn_p wA13 [1315, 1310, 1319, 1323, 1297, 1273, 1262, 1327, 1360, 1396, 1341, 1347, 1336, 1331] (by decide +kernel) (by decide +kernel) w h).1
set_option maxRecDepth 20000 in
theorem wA14_t : ∀ w ∈ wA14, w ∈ lw_tbl := fun w h => (goodIn_p wA14 [1351, 1368, 1374, 1371, 1364, 1378, 1356, 1385, 1382, 1392, 1400, 1436, 1432, 1428, 1452, 1448, 1444, 1440] (by decide +kernel) (by decide +kernel) w h).1
set_option maxRecDepth 20000 in
theorem wA15_t : ∀ w ∈ wA15, w ∈ lw_tbl := fun w h => (goodIn_p wA15 [1424, 1456, 1460, 1420, 1468, 1464, 1472, 1416, 1412, 1476, 1408, 1404, 1485, 1493, 1489] (by decide +kernel) (by decide +kernel) w h).1
set_option maxRecDepth 20000 in
theorem wA16_t : ∀ w ∈ wA16, w ∈ lw_tbl := fun w h => (goodIn_p wA16 [1480, 1497, 1501, 1510, 1505, 1519, 1515, 1523, 1531, 1527, 1538, 1535, 1542, 1546, 1550, 1554, 1558, 1562, 1566, 1570, 1578, 1574, 1582, 1594, 1590, 1586, 1598, 1602, 1610, 1614] (by decide +kernel) (by decide +kernel) w h).1
set_option maxRecDepth 20000 in
theorem wA17_t : ∀ w ∈ wA17, w ∈ lw_tbl := fun w h => (goodIn_p wA17 [1606, 1618, 1622, 1626, 774, 760, 771] (by decide +kernel) (by decide +kernel) w h).1
set_option maxRecDepth 20000 in
theorem wA18_t : ∀ w ∈ wA18, w ∈ lw_tbl := fun w h => (goodIn_p wA18 [] (by decide +kernel) (by decide +kernel) w h).1
set_option maxRecDepth 20000 in
theorem wA19_t : ∀ w ∈ wA19, w ∈ lw_tbl := fun w h => (goodIn_p wA19 [] (by decide +kernel) (by decide +kernel) w h).1
set_option maxRecDepth 20000 in
theorem wA20_t : ∀ w ∈ wA20, w ∈ lw_tbl := fun w h => (goodIn_p wA20 [] (by decide +kernel) (by decide +kernel) w h).1
set_option maxRecDepth 20000 in
theorem wsX00_t : ∀ w ∈ wsX00, w ∈ lw_tbl := fun w h => (goodIn_p wsX00 [] (by decide +kernel) (by decide +kernel) w h).1
set_option maxRecDepth 20000 in
theorem wsX10_t : ∀ w ∈ wsX10, w ∈ lw_tbl := fun w h => (goodIn_p wsX10 [] (by decide +kernel) (by decide +kernel) w h).1
set_option maxRecDepth 20000 in
theorem wsX20_t : ∀ w ∈ wsX20, w ∈ lw_tbl := fun w h => (goodIn_p wsX20 [] (by decide +kernel) (by decide +kernel) w h).1
set_option maxRecDepth 20000 in
theorem wsX30_t : ∀ w ∈ wsX30, w ∈ lw_tbl := fun w h => (goodIn_p wsX30 [] (by decide +kernel) (by decide +kernel) w h).1
set_option maxRecDepth 20000 in
theorem wsX40_t : ∀ w ∈ wsX40, w ∈ lw_tbl := fun w h => (goodIn_p wsX40 [] (by decide +kernel) (by decide +kernel) w h).1
set_option maxRecDepth 20000 in
theorem wsX50_t : ∀ w ∈ wsX50, w ∈ lw_tbl := fun w h => (goodIn_p wsX50 [] (by decide +kernel) (by decide +kernel) w h).1
set_option maxRecDepth 20000 in
theorem wsX60_t : ∀ w ∈ wsX60, w ∈ lw_tbl := fun w h => (goodIn_p wsX60 [] (by decide +kernel) (by decide +kernel) w h).1
set_option maxRecDepth 20000 in
theorem wsX70_t : ∀ w ∈ wsX70, w ∈ lw_tbl := fun w h => (goodIn_p wsX70 [] (by decide +kernel) (by decide +kernel) w h).1
set_option maxRecDepth 20000 in
theorem wsX80_t : ∀ w ∈ wsX80, w ∈ lw_tbl := fun w h => (goodIn_p wsX80 [] (by decide +kernel) (by decide +kernel) w h).1
set_option maxRecDepth 20000 in
theorem wsX90_t : ∀ w ∈ wsX90, w ∈ lw_tbl := fun w h => (goodIn_p wsX90 [] (by decide +kernel) (by decide +kernel) w h).1
set_option maxRecDepth 20000 in
theorem wsX100_t : ∀ w ∈ wsX100, w ∈ lw_tbl := fun w h => (goodIn_p wsX100 [] (by decide +kernel) (by decide +kernel) w h).1
set_option maxRecDepth 20000 in
theorem wsX110_t : ∀ w ∈ wsX110, w ∈ lw_tbl := fun w h => (goodIn_p wsX110 [] (by decide +kernel) (by decide +kernel) w h).1
set_option maxRecDepth 20000 in
theorem wsX120_t : ∀ w ∈ wsX120, w ∈ lw_tbl := fun w h => (goodIn_p wsX120 [] (by decide +kernel) (by decide +kernel) w h).1
set_option maxRecDepth 20000 in
theorem wsJx145de0_t : ∀ w ∈ wsJx145de0, w ∈ lw_tbl := fun w h => (goodIn_p wsJx145de0 [] (by decide +kernel) (by decide +kernel) w h).1
set_option maxRecDepth 20000 in
theorem wsJx9f9b00_t : ∀ w ∈ wsJx9f9b00, w ∈ lw_tbl := fun w h => (goodIn_p wsJx9f9b00 [] (by decide +kernel) (by decide +kernel) w h).1
set_option maxRecDepth 20000 in
theorem wsJxb160c0_t : ∀ w ∈ wsJxb160c0, w ∈ lw_tbl := fun w h => (goodIn_p wsJxb160c0 [] (by decide +kernel) (by decide +kernel) w h).1
set_option maxRecDepth 20000 in
theorem wsJx29ce00_t : ∀ w ∈ wsJx29ce00, w ∈ lw_tbl := fun w h => (goodIn_p wsJx29ce00 [] (by decide +kernel) (by decide +kernel) w h).1
set_option maxRecDepth 20000 in
theorem wsJ60_t : ∀ w ∈ wsJ60, w ∈ lw_tbl := fun w h => (goodIn_p wsJ60 [] (by decide +kernel) (by decide +kernel) w h).1
set_option maxRecDepth 20000 in
theorem wsJ90_t : ∀ w ∈ wsJ90, w ∈ lw_tbl := fun w h => (goodIn_p wsJ90 [] (by decide +kernel) (by decide +kernel) w h).1
set_option maxRecDepth 20000 in
theorem wsJ00_t : ∀ w ∈ wsJ00, w ∈ lw_tbl := fun w h => (goodIn_p wsJ00 [] (by decide +kernel) (by decide +kernel) w h).1
set_option maxRecDepth 20000 in
theorem wsJ10_t : ∀ w ∈ wsJ10, w ∈ lw_tbl := fun w h => (goodIn_p wsJ10 [] (by decide +kernel) (by decide +kernel) w h).1
set_option maxRecDepth 20000 in
theorem wsJ20_t : ∀ w ∈ wsJ20, w ∈ lw_tbl := fun w h => (goodIn_p wsJ20 [] (by decide +kernel) (by decide +kernel) w h).1
set_option maxRecDepth 20000 in
theorem wsJ100_t : ∀ w ∈ wsJ100, w ∈ lw_tbl := fun w h => (goodIn_p wsJ100 [] (by decide +kernel) (by decide +kernel) w h).1
set_option maxRecDepth 20000 in
theorem wsJxfd54e0_t : ∀ w ∈ wsJxfd54e0, w ∈ lw_tbl := fun w h => (goodIn_p wsJxfd54e0 [] (by decide +kernel) (by decide +kernel) w h).1
set_option maxRecDepth 20000 in
theorem wsJx3cf430_t : ∀ w ∈ wsJx3cf430, w ∈ lw_tbl := fun w h => (goodIn_p wsJx3cf430 [] (by decide +kernel) (by decide +kernel) w h).1
set_option maxRecDepth 20000 in
theorem wsJ70_t : ∀ w ∈ wsJ70, w ∈ lw_tbl := fun w h => (goodIn_p wsJ70 [] (by decide +kernel) (by decide +kernel) w h).1
set_option maxRecDepth 20000 in
theorem wsJ30_t : ∀ w ∈ wsJ30, w ∈ lw_tbl := fun w h => (goodIn_p wsJ30 [] (by decide +kernel) (by decide +kernel) w h).1
theorem app_t {a b : List Cond} (h1 : ∀ w ∈ a, w ∈ lw_tbl) (h2 : ∀ w ∈ b, w ∈ lw_tbl) : ∀ w ∈ a ++ b, w ∈ lw_tbl := fun w h => (List.mem_append.mp h).elim (h1 w) (h2 w)
theorem wAll_t : ∀ w ∈ wAll, w ∈ lw_tbl := app_t wA0_t (app_t wA1_t (app_t wA2_t (app_t wA3_t (app_t wA4_t (app_t wA5_t (app_t wA6_t (app_t wA7_t (app_t wA8_t (app_t wA9_t (app_t wA10_t (app_t wA11_t (app_t wA12_t (app_t wA13_t (app_t wA14_t (app_t wA15_t (app_t wA16_t (app_t wA17_t (app_t wA18_t (app_t wA19_t (app_t wA20_t (app_t wsX00_t (app_t wsX10_t (app_t wsX20_t (app_t wsX30_t (app_t wsX40_t (app_t wsX50_t (app_t wsX60_t (app_t wsX70_t (app_t wsX80_t (app_t wsX90_t (app_t wsX100_t (app_t wsX110_t (app_t wsX120_t (app_t wsJx145de0_t (app_t wsJx9f9b00_t (app_t wsJxb160c0_t (app_t wsJx29ce00_t (app_t wsJ60_t (app_t wsJ90_t (app_t wsJ00_t (app_t wsJ10_t (app_t wsJ20_t (app_t wsJ100_t (app_t wsJxfd54e0_t (app_t wsJx3cf430_t (app_t wsJ70_t (wsJ30_t)))))))))))))))))))))))))))))))))))))))))))))))
set_option maxRecDepth 20000 in
theorem wEx_t : ∀ w ∈ wEx, w ∈ lw_tbl := by decide +kernel
theorem vLaw_t : ∀ w ∈ vLaw, w ∈ lw_tbl := fun w h => (List.mem_cons.mp h).elim (fun e => by rw [e]; exact wAll_t _ q0) (fun h => (List.mem_append.mp h).elim (wAll_t w) (wEx_t w))
end IT
