def codeW (q : MTy) : Cond := .code q.1 q.2.1 q.2.2.1 q.2.2.2.1
set_option maxRecDepth 100000 in
theorem code_0 : mT0.map codeW = [232, 1086, 1341, 1049, 1355, 1272, 1423, 1427, 1387, 371, 1082, 983, 1005, 1032, 1037, 1045, 1061, 1065, 1077, 1040, 1069, 1024, 1020, 1028, 1016, 987, 994, 1001, 1010, 990, 997, 1275, 1519, 1566, 1284, 1287, 1290, 399, 1099, 1144].filterMap (fun i => lw_tb2[i]?) := rfl
set_option maxRecDepth 100000 in
theorem code_1 : mT1.map codeW = [488, 462, 241, 1053, 1073, 1090, 418, 1154, 1157, 1612, 1617, 272, 1360, 1095, 1166, 1293, 1301, 1177, 1527, 1160, 1278, 226, 927, 955, 959, 979, 1438, 1337, 1549, 1545, 1485, 1127, 1247, 1260, 1347, 1367, 1376, 1383, 1408, 1415].filterMap (fun i => lw_tb2[i]?) := rfl
set_option maxRecDepth 100000 in
theorem code_2 : mT2.map codeW = [1489, 1495, 1501, 1507, 1524, 1536, 1372, 1557, 1563, 1516, 1627, 1604, 1587, 1608, 1631, 1131, 1135, 1268, 1251, 1351, 1591, 1263, 1140, 1103, 1150, 1419, 1431, 1056, 1281, 1298, 1169, 1172, 81, 1214, 1217, 1207, 1211, 1203, 1324, 1332].filterMap (fun i => lw_tb2[i]?) := rfl
set_option maxRecDepth 100000 in
theorem code_3 : mT3.map codeW = [1512, 1198, 1320, 1316, 1312, 1183, 1595, 1600, 1622, 542, 89, 169, 165, 1107, 1122, 1114, 1243, 161, 157, 1400, 1391, 1395, 1404, 734, 739, 763, 772, 776, 693, 690, 1221, 1230, 1190, 1193, 1305, 1328, 547, 579, 709, 684].filterMap (fun i => lw_tb2[i]?) := rfl
set_option maxRecDepth 100000 in
theorem code_4 : mT4.map codeW = [847, 867, 852, 641, 912, 1474, 1448, 678, 855, 1459, 645, 916, 724, 623, 72, 76, 153, 150, 907, 221, 1110, 1363, 1379, 1411, 1434, 1481, 1530, 1541, 1553, 1580, 919, 715, 1453, 662, 727, 628, 1117, 550, 869, 590].filterMap (fun i => lw_tb2[i]?) := rfl
set_option maxRecDepth 100000 in
theorem code_5 : mT5.map codeW = [594, 582, 712, 687, 861, 611, 654, 650, 182, 207, 599, 879, 873, 876, 172, 1233, 92, 95].filterMap (fun i => lw_tb2[i]?) := rfl
theorem code_in {q : MTy} (h : q ∈ mT) : codeW q ∈ lw_tb2 := by
  have key : ∀ (l : List MTy) (ps : List Nat), l.map codeW = ps.filterMap (fun i => lw_tb2[i]?) → q ∈ l → codeW q ∈ lw_tb2 := by
    intro l ps e hq
    have h1 : codeW q ∈ l.map codeW := List.mem_map.mpr ⟨q, hq, rfl⟩
    rw [e] at h1
    obtain ⟨i, -, hi⟩ := List.mem_filterMap.mp h1
    exact List.mem_of_getElem? hi
  unfold mT at h
  simp only [List.mem_append] at h
  rcases h with ((((h | h) | h) | h) | h) | h
  · exact key _ _ code_0 h
  · exact key _ _ code_1 h
  · exact key _ _ code_2 h
  · exact key _ _ code_3 h
  · exact key _ _ code_4 h
  · exact key _ _ code_5 h
