/-! ===== the words are the tables' ===== -/
set_option maxRecDepth 20000 in
theorem inW_0 : ∀ w ∈ W0_0, w ∈ lw_tbl := fun w h => (goodIn_p W0_0 [311, 134, 367, 637, 640, 485, 459, 644, 632, 650, 654, 628, 145] rfl (by decide +kernel) w h).1
set_option maxRecDepth 20000 in
theorem inW_1 : ∀ w ∈ W0_1, w ∈ lw_tbl := fun w h => (goodIn_p W0_1 [220, 237, 214, 139, 364, 376, 371, 360, 944] rfl (by decide +kernel) w h).1
set_option maxRecDepth 20000 in
theorem inW_2 : ∀ w ∈ W0_2, w ∈ lw_tbl := fun w h => (goodIn_p W0_2 [952, 957, 948, 940, 426, 449, 463, 474, 470, 466, 456, 478, 481] rfl (by decide +kernel) w h).1
set_option maxRecDepth 20000 in
theorem inW_3 : ∀ w ∈ W0_3, w ∈ lw_tbl := fun w h => (goodIn_p W0_3 [445, 521, 513, 529, 738, 437, 658, 670, 509, 725, 707, 567, 332, 827, 823, 838, 835, 856, 852, 866, 877, 872, 869, 886, 883, 890] rfl (by decide +kernel) w h).1
set_option maxRecDepth 20000 in
theorem inW_4 : ∀ w ∈ W0_4, w ∈ lw_tbl := fun w h => (goodIn_p W0_4 [880, 862, 848, 842, 900, 907, 904, 911, 831, 818, 561, 619] rfl (by decide +kernel) w h).1
set_option maxRecDepth 20000 in
theorem inW_5 : ∀ w ∈ W0_5, w ∈ lw_tbl := fun w h => (goodIn_p W0_5 [581, 536, 577, 573, 598, 557, 131, 418, 429, 433] rfl (by decide +kernel) w h).1
set_option maxRecDepth 20000 in
theorem inW_6 : ∀ w ∈ W0_6, w ∈ lw_tbl := fun w h => (goodIn_p W0_6 [441, 422, 489, 497, 493, 501, 517, 533, 505, 548, 553, 593] rfl (by decide +kernel) w h).1
set_option maxRecDepth 20000 in
theorem inW_7 : ∀ w ∈ W0_7, w ∈ lw_tbl := fun w h => (goodIn_p W0_7 [589, 544, 540, 604, 609, 615, 624, 662, 970, 666, 674, 678, 682] rfl (by decide +kernel) w h).1
set_option maxRecDepth 20000 in
theorem inW_8 : ∀ w ∈ W0_8, w ∈ lw_tbl := fun w h => (goodIn_p W0_8 [690, 687, 694, 699, 703, 713, 721, 717, 729, 746, 742, 752, 756, 734, 761, 765, 774, 770, 778, 786, 790] rfl (by decide +kernel) w h).1
set_option maxRecDepth 20000 in
theorem inW_9 : ∀ w ∈ W0_9, w ∈ lw_tbl := fun w h => (goodIn_p W0_9 [798, 794, 802, 782, 810, 806, 924, 932, 915, 814] rfl (by decide +kernel) w h).1
set_option maxRecDepth 20000 in
theorem inW_10 : ∀ w ∈ W0_10, w ∈ lw_tbl := fun w h => (goodIn_p W0_10 [936, 962, 1046, 1041, 1123, 1120, 1135, 1178, 1174, 1213, 1190, 1166, 1162, 1170, 1159, 1155, 1194] rfl (by decide +kernel) w h).1
set_option maxRecDepth 20000 in
theorem inW_11 : ∀ w ∈ W0_11, w ∈ lw_tbl := fun w h => (goodIn_p W0_11 [1202, 1198, 1206, 1182, 1151, 1186, 1147, 1143, 1139, 1229, 1333, 1221, 1217, 1131, 1210, 1127] rfl (by decide +kernel) w h).1
set_option maxRecDepth 20000 in
theorem inW_12 : ∀ w ∈ W0_12, w ∈ lw_tbl := fun w h => (goodIn_p W0_12 [1225, 1233, 1237, 1261, 1265, 1253, 1269, 1257, 1245, 1249, 1241, 1273, 1277, 1285, 1281, 1289, 1313, 1309, 1305, 1321, 1317, 1301] rfl (by decide +kernel) w h).1
set_option maxRecDepth 20000 in
theorem inW_13 : ∀ w ∈ W0_13, w ∈ lw_tbl := fun w h => (goodIn_p W0_13 [1297, 1293, 1389, 1385, 1325, 1337, 1329, 1341, 1345, 1349, 1353, 1357, 1361, 1365, 1369, 1373, 1381, 1393, 1397, 1377, 1401, 1409, 1405, 1413, 1421, 1417, 1425, 1433, 1437] rfl (by decide +kernel) w h).1
set_option maxRecDepth 20000 in
theorem inW_14 : ∀ w ∈ W0_14, w ∈ lw_tbl := fun w h => (goodIn_p W0_14 [1429, 1449, 1445, 1441, 1460, 1468, 1464, 1476, 1500, 1496, 1492, 1488, 1484, 1508] rfl (by decide +kernel) w h).1
set_option maxRecDepth 20000 in
theorem inW_15 : ∀ w ∈ W0_15, w ∈ lw_tbl := fun w h => (goodIn_p W0_15 [1512, 1504, 1480, 1524, 1516, 1472, 1528, 1532, 1544, 1548, 1552, 1540, 1536, 466, 640] rfl (by decide +kernel) w h).1
set_option maxRecDepth 20000 in
theorem inW_16 : ∀ w ∈ W0_16, w ∈ lw_tbl := fun w h => (goodIn_p W0_16 [] rfl (by decide +kernel) w h).1
set_option maxRecDepth 20000 in
theorem inW_17 : ∀ w ∈ W0_17, w ∈ lw_tbl := fun w h => (goodIn_p W0_17 [] rfl (by decide +kernel) w h).1
set_option maxRecDepth 20000 in
theorem inW_18 : ∀ w ∈ W0_18, w ∈ lw_tbl := fun w h => (goodIn_p W0_18 [] rfl (by decide +kernel) w h).1
set_option maxRecDepth 20000 in
theorem inW_f : ∀ w ∈ W0_f, w ∈ lw_tbl := by decide +kernel
theorem inW : ∀ w ∈ W0, w ∈ lw_tbl := by
  unfold W0
  intro w h
  rcases List.mem_append.mp h with h | h
  · exact inW_0 w h
  rcases List.mem_append.mp h with h | h
  · exact inW_1 w h
  rcases List.mem_append.mp h with h | h
  · exact inW_2 w h
  rcases List.mem_append.mp h with h | h
  · exact inW_3 w h
  rcases List.mem_append.mp h with h | h
  · exact inW_4 w h
  rcases List.mem_append.mp h with h | h
  · exact inW_5 w h
  rcases List.mem_append.mp h with h | h
  · exact inW_6 w h
  rcases List.mem_append.mp h with h | h
  · exact inW_7 w h
  rcases List.mem_append.mp h with h | h
  · exact inW_8 w h
  rcases List.mem_append.mp h with h | h
  · exact inW_9 w h
  rcases List.mem_append.mp h with h | h
  · exact inW_10 w h
  rcases List.mem_append.mp h with h | h
  · exact inW_11 w h
  rcases List.mem_append.mp h with h | h
  · exact inW_12 w h
  rcases List.mem_append.mp h with h | h
  · exact inW_13 w h
  rcases List.mem_append.mp h with h | h
  · exact inW_14 w h
  rcases List.mem_append.mp h with h | h
  · exact inW_15 w h
  rcases List.mem_append.mp h with h | h
  · exact inW_16 w h
  rcases List.mem_append.mp h with h | h
  · exact inW_17 w h
  rcases List.mem_append.mp h with h | h
  · exact inW_18 w h
  exact inW_f w h

theorem inE : ∀ w ∈ exL.filter goodWord, w ∈ lw_tbl := by decide +kernel
theorem inWX : ∀ w ∈ WX, w ∈ lw_tbl := fun w h => (List.mem_append.mp h).elim (inW w) (inE w)
