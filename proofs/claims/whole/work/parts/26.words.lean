def mwL_0 : List (Nat × Nat × Nat × Nat) := [(0, 603, 689, 9), (1, 623, 709, 9), (2, 631, 1, 9), (3, 647, 733, 9), (4, 651, 737, 9), (5, 667, 753, 9), (6, 1101, 1187, 10), (7, 1106, 23, 10), (8, 1150, 1236, 10), (9, 1112, 1198, 10), (10, 1119, 24, 10), (11, 1127, 25, 10), (12, 1131, 26, 10), (13, 1135, 27, 10), (14, 1200, 1286, 10), (15, 599, 685, 8), (16, 639, 725, 8), (17, 644, 2, 8), (18, 661, 3, 8), (19, 588, 0, 3), (20, 852, 938, 3), (21, 857, 5, 3), (22, 861, 6, 3), (23, 940, 9, 3), (24, 869, 7, 3), (25, 944, 10, 3), (26, 949, 11, 3), (27, 969, 15, 3), (28, 973, 16, 3), (29, 977, 17, 3), (30, 985, 18, 3), (31, 992, 19, 3), (32, 963, 14, 3), (33, 1010, 0, 3), (34, 955, 12, 3), (35, 959, 13, 3), (36, 963, 14, 3), (37, 1213, 1299, 11), (38, 1219, 29, 11), (39, 1226, 30, 11)]
set_option maxRecDepth 100000 in
theorem mwL_0_ok : ∀ e ∈ mwL_0, tables_1[e.2.1]? = some (cond (stOf e.1) (Cond.static (yOf e.1)) (Cond.instanceMethod (yOf e.1))) ∧ (stOf e.1 = true ∨ lw_tbl[e.2.2.1]? = some (Cond.selects (yOf e.1).cls (yOf e.1) (yOf e.1))) ∧ tables_1[e.2.2.2]? = some (Cond.initialized (yOf e.1).cls) ∧ (yOf e.1).cls = on (owOf e.1) ∧ plainFor (yOf e.1) = true ∧ ((yOf e.1).cls ≠ "java/lang/invoke/MethodHandle" ∧ (yOf e.1).cls ≠ "java/lang/invoke/VarHandle") ∧ (parseMethodDescriptor (yOf e.1).desc).map (fun d => d.parameters.length) = some (naOf e.1) ∧ mlOf e.1 ≤ 40 := by decide +kernel
def mwL_1 : List (Nat × Nat × Nat × Nat) := [(40, 1235, 31, 11), (41, 1272, 1358, 12), (42, 1365, 1451, 12), (43, 521, 607, 2), (44, 864, 950, 2), (45, 882, 8, 5), (46, 876, 0, 5), (47, 537, 623, 6), (48, 803, 889, 6), (49, 814, 900, 6), (50, 1024, 1110, 6), (51, 1287, 1373, 6), (52, 552, 638, 6), (53, 570, 656, 6), (54, 584, 670, 6), (55, 1323, 1409, 13), (56, 1328, 1414, 13), (57, 1334, 32, 13), (58, 1344, 33, 13), (59, 1349, 34, 13), (60, 1354, 1440, 13), (61, 560, 646, 7), (62, 581, 0, 7), (63, 1337, 1423, 7), (64, 1261, 1347, 7), (65, 566, 652, 7), (66, 574, 660, 7), (67, 591, 677, 7), (68, 607, 693, 7), (69, 612, 698, 7), (70, 619, 705, 7), (71, 1230, 1316, 7), (72, 634, 720, 7), (73, 1070, 1156, 7), (74, 655, 741, 7), (75, 1158, 1244, 7), (76, 1162, 1248, 7), (77, 1166, 1252, 7), (78, 1154, 1240, 7), (79, 517, 603, 1)]
set_option maxRecDepth 100000 in
theorem mwL_1_ok : ∀ e ∈ mwL_1, tables_1[e.2.1]? = some (cond (stOf e.1) (Cond.static (yOf e.1)) (Cond.instanceMethod (yOf e.1))) ∧ (stOf e.1 = true ∨ lw_tbl[e.2.2.1]? = some (Cond.selects (yOf e.1).cls (yOf e.1) (yOf e.1))) ∧ tables_1[e.2.2.2]? = some (Cond.initialized (yOf e.1).cls) ∧ (yOf e.1).cls = on (owOf e.1) ∧ plainFor (yOf e.1) = true ∧ ((yOf e.1).cls ≠ "java/lang/invoke/MethodHandle" ∧ (yOf e.1).cls ≠ "java/lang/invoke/VarHandle") ∧ (parseMethodDescriptor (yOf e.1).desc).map (fun d => d.parameters.length) = some (naOf e.1) ∧ mlOf e.1 ≤ 40 := by decide +kernel
def mwL_2 : List (Nat × Nat × Nat × Nat) := [(80, 525, 611, 1), (81, 687, 773, 1), (82, 765, 851, 1), (83, 772, 858, 1), (84, 780, 866, 1), (85, 810, 896, 1), (86, 822, 908, 1), (87, 848, 934, 1), (88, 529, 615, 1), (89, 1031, 1117, 1), (90, 1283, 1369, 1), (91, 1294, 1380, 1), (92, 1394, 1480, 1), (93, 533, 619, 1), (94, 544, 630, 1), (95, 548, 634, 1), (96, 1042, 1128, 1), (97, 1058, 1144, 1), (98, 1066, 1152, 1), (99, 1077, 1163, 1), (100, 595, 681, 1), (101, 1257, 1343, 1), (102, 677, 763, 1), (103, 1097, 1183, 1), (104, 1379, 1465, 1), (105, 1141, 1227, 1), (106, 1175, 1261, 1), (107, 1182, 1268, 1), (108, 1196, 1282, 1), (109, 1209, 1295, 1), (110, 1243, 1329, 1), (111, 1250, 1336, 1), (112, 1268, 1354, 1), (113, 1361, 1447, 1), (114, 1372, 1458, 1), (115, 1387, 1473, 1), (116, 1303, 1389, 1), (117, 1036, 20, 1), (118, 1047, 21, 1), (119, 826, 0, 1)]
set_option maxRecDepth 100000 in
theorem mwL_2_ok : ∀ e ∈ mwL_2, tables_1[e.2.1]? = some (cond (stOf e.1) (Cond.static (yOf e.1)) (Cond.instanceMethod (yOf e.1))) ∧ (stOf e.1 = true ∨ lw_tbl[e.2.2.1]? = some (Cond.selects (yOf e.1).cls (yOf e.1) (yOf e.1))) ∧ tables_1[e.2.2.2]? = some (Cond.initialized (yOf e.1).cls) ∧ (yOf e.1).cls = on (owOf e.1) ∧ plainFor (yOf e.1) = true ∧ ((yOf e.1).cls ≠ "java/lang/invoke/MethodHandle" ∧ (yOf e.1).cls ≠ "java/lang/invoke/VarHandle") ∧ (parseMethodDescriptor (yOf e.1).desc).map (fun d => d.parameters.length) = some (naOf e.1) ∧ mlOf e.1 ≤ 40 := by decide +kernel
def mwL_3 : List (Nat × Nat × Nat × Nat) := [(120, 691, 0, 1), (121, 784, 0, 1), (122, 1051, 22, 1), (123, 557, 0, 1), (124, 1146, 28, 1), (125, 1085, 0, 1), (126, 1091, 0, 1), (127, 671, 0, 1), (128, 1186, 0, 1), (129, 1398, 1484, 14), (130, 1548, 35, 14), (131, 1544, 0, 14), (132, 1532, 1618, 14), (133, 1536, 1622, 14), (134, 1693, 56, 14), (135, 1564, 36, 14), (136, 1759, 69, 14), (137, 1689, 55, 14), (138, 1677, 53, 14), (139, 1681, 54, 14), (140, 1540, 1626, 14), (141, 1551, 1637, 14), (142, 1555, 1641, 14), (143, 1559, 1645, 14), (144, 1567, 1653, 14), (145, 1571, 1657, 14), (146, 1575, 1661, 14), (147, 1579, 1665, 14), (148, 1592, 37, 14), (149, 1604, 40, 14), (150, 1600, 39, 14), (151, 1612, 42, 14), (152, 1617, 43, 14), (153, 1634, 45, 14), (154, 1650, 49, 14), (155, 1629, 44, 14), (156, 1583, 1669, 14), (157, 1625, 0, 14), (158, 1622, 0, 14), (159, 1655, 50, 14)]
set_option maxRecDepth 100000 in
theorem mwL_3_ok : ∀ e ∈ mwL_3, tables_1[e.2.1]? = some (cond (stOf e.1) (Cond.static (yOf e.1)) (Cond.instanceMethod (yOf e.1))) ∧ (stOf e.1 = true ∨ lw_tbl[e.2.2.1]? = some (Cond.selects (yOf e.1).cls (yOf e.1) (yOf e.1))) ∧ tables_1[e.2.2.2]? = some (Cond.initialized (yOf e.1).cls) ∧ (yOf e.1).cls = on (owOf e.1) ∧ plainFor (yOf e.1) = true ∧ ((yOf e.1).cls ≠ "java/lang/invoke/MethodHandle" ∧ (yOf e.1).cls ≠ "java/lang/invoke/VarHandle") ∧ (parseMethodDescriptor (yOf e.1).desc).map (fun d => d.parameters.length) = some (naOf e.1) ∧ mlOf e.1 ≤ 40 := by decide +kernel
def mwL_4 : List (Nat × Nat × Nat × Nat) := [(160, 1664, 52, 14), (161, 1660, 51, 14), (162, 1646, 48, 14), (163, 1642, 47, 14), (164, 1638, 46, 14), (165, 1608, 41, 14), (166, 1596, 38, 14), (167, 1587, 1673, 14), (168, 1672, 1758, 14), (169, 1713, 61, 14), (170, 1709, 60, 14), (171, 1705, 59, 14), (172, 1727, 64, 14), (173, 1721, 63, 14), (174, 1717, 62, 14), (175, 1701, 58, 14), (176, 1697, 57, 14), (177, 1739, 65, 14), (178, 1684, 1770, 14), (179, 1730, 1816, 14), (180, 1734, 1820, 14), (181, 1780, 0, 14), (182, 1800, 0, 14), (183, 1777, 71, 14), (184, 1763, 70, 14), (185, 1755, 68, 14), (186, 1751, 67, 14), (187, 1797, 74, 14), (188, 1772, 0, 14), (189, 1747, 66, 14), (190, 1742, 1828, 14), (191, 1793, 73, 14), (192, 1789, 72, 14), (193, 1784, 1870, 14), (194, 1817, 77, 14), (195, 1825, 79, 14), (196, 1813, 76, 14), (197, 1821, 78, 14), (198, 1809, 75, 14), (199, 1804, 1890, 14)]
set_option maxRecDepth 100000 in
theorem mwL_4_ok : ∀ e ∈ mwL_4, tables_1[e.2.1]? = some (cond (stOf e.1) (Cond.static (yOf e.1)) (Cond.instanceMethod (yOf e.1))) ∧ (stOf e.1 = true ∨ lw_tbl[e.2.2.1]? = some (Cond.selects (yOf e.1).cls (yOf e.1) (yOf e.1))) ∧ tables_1[e.2.2.2]? = some (Cond.initialized (yOf e.1).cls) ∧ (yOf e.1).cls = on (owOf e.1) ∧ plainFor (yOf e.1) = true ∧ ((yOf e.1).cls ≠ "java/lang/invoke/MethodHandle" ∧ (yOf e.1).cls ≠ "java/lang/invoke/VarHandle") ∧ (parseMethodDescriptor (yOf e.1).desc).map (fun d => d.parameters.length) = some (naOf e.1) ∧ mlOf e.1 ≤ 40 := by decide +kernel
def mwL_5 : List (Nat × Nat × Nat × Nat) := [(200, 1828, 1914, 14), (201, 1832, 1918, 14), (202, 1836, 1922, 14), (203, 1844, 0, 14), (204, 1840, 1926, 14), (205, 1856, 81, 14), (206, 1860, 82, 14), (207, 1852, 80, 14), (208, 1847, 1933, 14), (209, 1863, 1949, 14), (210, 1867, 1953, 14), (211, 1871, 1957, 14), (212, 1875, 1961, 14), (213, 1879, 1965, 14), (214, 1888, 83, 14), (215, 1883, 1969, 14), (216, 1891, 1977, 14), (217, 1895, 1981, 14), (218, 1902, 1988, 14), (219, 1906, 1992, 14), (220, 1910, 1996, 14), (221, 1914, 2000, 14), (222, 1924, 84, 14), (223, 1918, 2004, 14), (224, 1927, 2013, 14), (225, 1766, 0, 28), (226, 674, 0, 27), (227, 1189, 0, 27), (228, 1899, 0, 27), (229, 1088, 0, 27), (230, 578, 0, 27), (231, 616, 0, 27), (232, 627, 0, 25), (233, 995, 0, 25), (234, 683, 0, 0), (235, 762, 0, 0), (236, 769, 0, 0), (237, 776, 0, 0), (238, 807, 0, 0), (239, 818, 0, 0)]
set_option maxRecDepth 100000 in
theorem mwL_5_ok : ∀ e ∈ mwL_5, tables_1[e.2.1]? = some (cond (stOf e.1) (Cond.static (yOf e.1)) (Cond.instanceMethod (yOf e.1))) ∧ (stOf e.1 = true ∨ lw_tbl[e.2.2.1]? = some (Cond.selects (yOf e.1).cls (yOf e.1) (yOf e.1))) ∧ tables_1[e.2.2.2]? = some (Cond.initialized (yOf e.1).cls) ∧ (yOf e.1).cls = on (owOf e.1) ∧ plainFor (yOf e.1) = true ∧ ((yOf e.1).cls ≠ "java/lang/invoke/MethodHandle" ∧ (yOf e.1).cls ≠ "java/lang/invoke/VarHandle") ∧ (parseMethodDescriptor (yOf e.1).desc).map (fun d => d.parameters.length) = some (naOf e.1) ∧ mlOf e.1 ≤ 40 := by decide +kernel
def mwL_6 : List (Nat × Nat × Nat × Nat) := [(240, 845, 0, 0), (241, 1028, 0, 0), (242, 1039, 0, 0), (243, 1055, 0, 0), (244, 1063, 0, 0), (245, 1074, 0, 0), (246, 1094, 0, 0), (247, 1138, 0, 0), (248, 1172, 0, 0), (249, 1179, 0, 0), (250, 1193, 0, 0), (251, 1206, 0, 0), (252, 1240, 0, 0), (253, 1247, 0, 0), (254, 1254, 0, 0), (255, 1265, 0, 0), (256, 1280, 0, 0), (257, 1291, 0, 0), (258, 1299, 0, 0), (259, 1358, 0, 0), (260, 1369, 0, 0), (261, 1376, 0, 0), (262, 1384, 0, 0), (263, 1391, 0, 0)]
set_option maxRecDepth 100000 in
theorem mwL_6_ok : ∀ e ∈ mwL_6, tables_1[e.2.1]? = some (cond (stOf e.1) (Cond.static (yOf e.1)) (Cond.instanceMethod (yOf e.1))) ∧ (stOf e.1 = true ∨ lw_tbl[e.2.2.1]? = some (Cond.selects (yOf e.1).cls (yOf e.1) (yOf e.1))) ∧ tables_1[e.2.2.2]? = some (Cond.initialized (yOf e.1).cls) ∧ (yOf e.1).cls = on (owOf e.1) ∧ plainFor (yOf e.1) = true ∧ ((yOf e.1).cls ≠ "java/lang/invoke/MethodHandle" ∧ (yOf e.1).cls ≠ "java/lang/invoke/VarHandle") ∧ (parseMethodDescriptor (yOf e.1).desc).map (fun d => d.parameters.length) = some (naOf e.1) ∧ mlOf e.1 ≤ 40 := by decide +kernel
def mwL : List (Nat × Nat × Nat × Nat) := mwL_0 ++ (mwL_1 ++ (mwL_2 ++ (mwL_3 ++ (mwL_4 ++ (mwL_5 ++ (mwL_6))))))
theorem mwL_ok : ∀ e ∈ mwL, tables_1[e.2.1]? = some (cond (stOf e.1) (Cond.static (yOf e.1)) (Cond.instanceMethod (yOf e.1))) ∧ (stOf e.1 = true ∨ lw_tbl[e.2.2.1]? = some (Cond.selects (yOf e.1).cls (yOf e.1) (yOf e.1))) ∧ tables_1[e.2.2.2]? = some (Cond.initialized (yOf e.1).cls) ∧ (yOf e.1).cls = on (owOf e.1) ∧ plainFor (yOf e.1) = true ∧ ((yOf e.1).cls ≠ "java/lang/invoke/MethodHandle" ∧ (yOf e.1).cls ≠ "java/lang/invoke/VarHandle") ∧ (parseMethodDescriptor (yOf e.1).desc).map (fun d => d.parameters.length) = some (naOf e.1) ∧ mlOf e.1 ≤ 40 := List.forall_mem_append.mpr ⟨mwL_0_ok, List.forall_mem_append.mpr ⟨mwL_1_ok, List.forall_mem_append.mpr ⟨mwL_2_ok, List.forall_mem_append.mpr ⟨mwL_3_ok, List.forall_mem_append.mpr ⟨mwL_4_ok, List.forall_mem_append.mpr ⟨mwL_5_ok, mwL_6_ok⟩⟩⟩⟩⟩⟩
theorem mw_all : ∀ n, n < 264 → ∃ e ∈ mwL, e.1 = n := by
  intro n h
  have h1 : (List.range 264).all (fun n => mwL.any (fun e => Nat.beq e.1 n)) = true := by decide +kernel
  have h2 := List.all_eq_true.mp h1 n (List.mem_range.mpr h)
  obtain ⟨e, he, h3⟩ := List.any_eq_true.mp h2
  exact ⟨e, he, Nat.eq_of_beq_eq_true h3⟩
def cdW (n : Nat) : Cond := match hhOf n with
  | [] => Cond.code (yOf n) (bOf n) (mlOf n) (rtOf n)
  | hh => Cond.codeWith (yOf n) (bOf n) (mlOf n) (rtOf n) hh
theorem tm_1 {w : Cond} (i : Nat) (h0 : tables_1_1[i]? = some w) : w ∈ tables_1 := by
  have h := List.mem_of_getElem? h0
  exact List.mem_append_left _ h
theorem tm_2 {w : Cond} (i : Nat) (h0 : tables_1_2[i]? = some w) : w ∈ tables_1 := by
  have h := List.mem_of_getElem? h0
  exact List.mem_append_right _ (List.mem_append_left _ h)
theorem tm_3 {w : Cond} (i : Nat) (h0 : tables_1_3[i]? = some w) : w ∈ tables_1 := by
  have h := List.mem_of_getElem? h0
  exact List.mem_append_right _ (List.mem_append_right _ (List.mem_append_left _ h))
theorem tm_4 {w : Cond} (i : Nat) (h0 : tables_1_4[i]? = some w) : w ∈ tables_1 := by
  have h := List.mem_of_getElem? h0
  exact List.mem_append_right _ (List.mem_append_right _ (List.mem_append_right _ (List.mem_append_left _ h)))
theorem tm_5 {w : Cond} (i : Nat) (h0 : tables_1_5[i]? = some w) : w ∈ tables_1 := by
  have h := List.mem_of_getElem? h0
  exact List.mem_append_right _ (List.mem_append_right _ (List.mem_append_right _ (List.mem_append_right _ (List.mem_append_left _ h))))
theorem tm_6 {w : Cond} (i : Nat) (h0 : tables_1_6[i]? = some w) : w ∈ tables_1 := by
  have h := List.mem_of_getElem? h0
  exact List.mem_append_right _ (List.mem_append_right _ (List.mem_append_right _ (List.mem_append_right _ (List.mem_append_right _ (List.mem_append_left _ h)))))
theorem tm_7 {w : Cond} (i : Nat) (h0 : tables_1_7[i]? = some w) : w ∈ tables_1 := by
  have h := List.mem_of_getElem? h0
  exact List.mem_append_right _ (List.mem_append_right _ (List.mem_append_right _ (List.mem_append_right _ (List.mem_append_right _ (List.mem_append_right _ (List.mem_append_left _ h))))))
theorem tm_8 {w : Cond} (i : Nat) (h0 : tables_1_8[i]? = some w) : w ∈ tables_1 := by
  have h := List.mem_of_getElem? h0
  exact List.mem_append_right _ (List.mem_append_right _ (List.mem_append_right _ (List.mem_append_right _ (List.mem_append_right _ (List.mem_append_right _ (List.mem_append_right _ (List.mem_append_left _ h)))))))
theorem tm_9 {w : Cond} (i : Nat) (h0 : tables_1_9[i]? = some w) : w ∈ tables_1 := by
  have h := List.mem_of_getElem? h0
  exact List.mem_append_right _ (List.mem_append_right _ (List.mem_append_right _ (List.mem_append_right _ (List.mem_append_right _ (List.mem_append_right _ (List.mem_append_right _ (List.mem_append_right _ (h))))))))
set_option maxRecDepth 100000 in
theorem mc_0 : cdW 0 ∈ tables_1 := tm_3 (w := Cond.code yX0_follow cX0_follow 4 none) 125 rfl
set_option maxRecDepth 100000 in
theorem mc_1 : cdW 1 ∈ tables_1 := tm_3 (w := Cond.code yX0_shape cX0_shape 6 none) 145 rfl
set_option maxRecDepth 100000 in
theorem mc_2 : cdW 2 ∈ tables_1 := tm_3 (w := Cond.code yX0_multiplyRow cX0_multiplyRow 6 none) 152 rfl
set_option maxRecDepth 100000 in
theorem mc_3 : cdW 3 ∈ tables_1 := tm_3 (w := Cond.code yX0_settle cX0_settle 8 none) 169 rfl
set_option maxRecDepth 100000 in
theorem mc_4 : cdW 4 ∈ tables_1 := tm_3 (w := Cond.code yX0_solve cX0_solve 8 none) 173 rfl
set_option maxRecDepth 100000 in
theorem mc_5 : cdW 5 ∈ tables_1 := tm_3 (w := Cond.code yX0_onceElse cX0_onceElse 4 (some .long)) 189 rfl
set_option maxRecDepth 100000 in
theorem mc_6 : cdW 6 ∈ tables_1 := tm_5 (w := Cond.code yX1_answerAt cX1_answerAt 3 (some .int)) 143 rfl
set_option maxRecDepth 100000 in
theorem mc_7 : cdW 7 ∈ tables_1 := tm_5 (w := Cond.code yX1_offerTo cX1_offerTo 4 none) 147 rfl
set_option maxRecDepth 100000 in
theorem mc_8 : cdW 8 ∈ tables_1 := tm_5 (w := Cond.code yX1_offerAll cX1_offerAll 5 none) 192 rfl
set_option maxRecDepth 100000 in
theorem mc_9 : cdW 9 ∈ tables_1 := tm_5 (w := Cond.code yX1_settle cX1_settle 3 none) 154 rfl
set_option maxRecDepth 100000 in
theorem mc_10 : cdW 10 ∈ tables_1 := tm_5 (w := Cond.code yX1_evaluate cX1_evaluate 3 none) 160 rfl
set_option maxRecDepth 100000 in
theorem mc_11 : cdW 11 ∈ tables_1 := tm_5 (w := Cond.code yX1_improve cX1_improve 8 (some .boolean)) 168 rfl
set_option maxRecDepth 100000 in
theorem mc_12 : cdW 12 ∈ tables_1 := tm_5 (w := Cond.code yX1_bestAt cX1_bestAt 10 (some .int)) 172 rfl
set_option maxRecDepth 100000 in
theorem mc_13 : cdW 13 ∈ tables_1 := tm_5 (w := Cond.code yX1_valueOf cX1_valueOf 5 (some .long)) 176 rfl
set_option maxRecDepth 100000 in
theorem mc_14 : cdW 14 ∈ tables_1 := tm_6 (w := Cond.code yX1_nearAt cX1_nearAt 10 (some .int)) 2 rfl
set_option maxRecDepth 100000 in
theorem mc_15 : cdW 15 ∈ tables_1 := tm_3 (w := Cond.code yX2_follow cX2_follow 1 none) 121 rfl
set_option maxRecDepth 100000 in
theorem mc_16 : cdW 16 ∈ tables_1 := tm_3 (w := Cond.code yX2_first cX2_first 6 (some .int)) 161 rfl
set_option maxRecDepth 100000 in
theorem mc_17 : cdW 17 ∈ tables_1 := tm_3 (w := Cond.code yX2_settle cX2_settle 5 none) 165 rfl
set_option maxRecDepth 100000 in
theorem mc_18 : cdW 18 ∈ tables_1 := tm_3 (w := Cond.code yX2_wouldElse cX2_wouldElse 12 (some .boolean)) 182 rfl
set_option maxRecDepth 100000 in
theorem mc_19 : cdW 19 ∈ tables_1 := tm_3 (w := Cond.code yX3_place cX3_place 3 (some .int)) 109 rfl
set_option maxRecDepth 100000 in
theorem mc_20 : cdW 20 ∈ tables_1 := tm_4 (w := Cond.code yX3_read cX3_read 1 (some .int)) 134 rfl
set_option maxRecDepth 100000 in
theorem mc_21 : cdW 21 ∈ tables_1 := tm_4 (w := Cond.code yX3_partText cX3_partText 5 none) 138 rfl
set_option maxRecDepth 100000 in
theorem mc_22 : cdW 22 ∈ tables_1 := tm_4 (w := Cond.code yX3_behindThing cX3_behindThing 3 (some .int)) 142 rfl
set_option maxRecDepth 100000 in
theorem mc_23 : cdW 23 ∈ tables_1 := tm_4 (w := Cond.code yX3_numberOf cX3_numberOf 5 (some .int)) 221 rfl
set_option maxRecDepth 100000 in
theorem mc_24 : cdW 24 ∈ tables_1 := tm_4 (w := Cond.code yX3_thingOf cX3_thingOf 3 (some (.object "WellPumps$Thing"))) 150 rfl
set_option maxRecDepth 100000 in
theorem mc_25 : cdW 25 ∈ tables_1 := tm_4 (w := Cond.code yX3_readLines cX3_readLines 6 none) 225 rfl
set_option maxRecDepth 100000 in
theorem mc_26 : cdW 26 ∈ tables_1 := tm_4 (w := Cond.code yX3_readLine cX3_readLine 7 (some .long)) 230 rfl
set_option maxRecDepth 100000 in
theorem mc_27 : cdW 27 ∈ tables_1 := tm_5 (w := Cond.code yX3_readCondition cX3_readCondition 5 (some .long)) 10 rfl
set_option maxRecDepth 100000 in
theorem mc_28 : cdW 28 ∈ tables_1 := tm_5 (w := Cond.code yX3_readAll cX3_readAll 5 (some .long)) 14 rfl
set_option maxRecDepth 100000 in
theorem mc_29 : cdW 29 ∈ tables_1 := tm_5 (w := Cond.code yX3_readAtom cX3_readAtom 5 (some .long)) 18 rfl
set_option maxRecDepth 100000 in
theorem mc_30 : cdW 30 ∈ tables_1 := tm_5 (w := Cond.code yX3_readTagOrSums cX3_readTagOrSums 2 (some .long)) 26 rfl
set_option maxRecDepth 100000 in
theorem mc_31 : cdW 31 ∈ tables_1 := tm_5 (w := Cond.code yX3_readSum cX3_readSum 4 none) 33 rfl
set_option maxRecDepth 100000 in
theorem mc_32 : cdW 32 ∈ tables_1 := tm_5 (w := Cond.code yX3_step2 cX3_step2 1 none) 4 rfl
set_option maxRecDepth 100000 in
theorem mc_33 : cdW 33 ∈ tables_1 := tm_5 (w := Cond.code yX3_whereLess cX3_whereLess 7 (some .long)) 51 rfl
set_option maxRecDepth 100000 in
theorem mc_34 : cdW 34 ∈ tables_1 := tm_4 (w := Cond.code yX3_take cX3_take 2 none) 236 rfl
set_option maxRecDepth 100000 in
theorem mc_35 : cdW 35 ∈ tables_1 := tm_5 (w := Cond.code yX3_refuse cX3_refuse 1 none) 0 rfl
set_option maxRecDepth 100000 in
theorem mc_36 : cdW 36 ∈ tables_1 := tm_5 (w := Cond.code yX3_step cX3_step 1 none) 4 rfl
set_option maxRecDepth 100000 in
theorem mc_37 : cdW 37 ∈ tables_1 := tm_6 (w := Cond.code yX4_work cX4_work 6 none) 15 rfl
set_option maxRecDepth 100000 in
theorem mc_38 : cdW 38 ∈ tables_1 := tm_6 (w := Cond.code yX4_workLevel cX4_workLevel 4 none) 20 rfl
set_option maxRecDepth 100000 in
theorem mc_39 : cdW 39 ∈ tables_1 := tm_6 (w := Cond.code yX4_value cX4_value 6 none) 27 rfl
set_option maxRecDepth 100000 in
theorem mc_40 : cdW 40 ∈ tables_1 := tm_6 (w := Cond.code yX4_isAtRest cX4_isAtRest 6 (some .boolean)) 36 rfl
set_option maxRecDepth 100000 in
theorem mc_41 : cdW 41 ∈ tables_1 := tm_6 (w := Cond.code yX5_runDry cX5_runDry 7 (some .long)) 74 rfl
set_option maxRecDepth 100000 in
theorem mc_42 : cdW 42 ∈ tables_1 := tm_6 (w := Cond.code yX5_buckets cX5_buckets 8 (some .long)) 167 rfl
set_option maxRecDepth 100000 in
theorem mc_43 : cdW 43 ∈ tables_1 := tm_3 (w := Cond.code yX6_put cX6_put 3 none) 43 rfl
set_option maxRecDepth 100000 in
theorem mc_44 : cdW 44 ∈ tables_1 := tm_4 (w := Cond.code yX6_isIn cX6_isIn 4 (some .boolean)) 146 rfl
set_option maxRecDepth 100000 in
theorem mc_45 : cdW 45 ∈ tables_1 := tm_4 (w := Cond.code yX7_isSpelled cX7_isSpelled 5 (some .boolean)) 164 rfl
set_option maxRecDepth 100000 in
theorem mc_46 : cdW 46 ∈ tables_1 := tm_4 (w := Cond.code yX7_spelledBy cX7_spelledBy 4 (some (.object "WellPumps$Thing"))) 157 rfl
set_option maxRecDepth 100000 in
theorem mc_47 : cdW 47 ∈ tables_1 := tm_3 (w := Cond.code yX8_become cX8_become 2 none) 59 rfl
set_option maxRecDepth 100000 in
theorem mc_48 : cdW 48 ∈ tables_1 := tm_4 (w := Cond.code yX8_addFarm cX8_addFarm 6 (some .int)) 85 rfl
set_option maxRecDepth 100000 in
theorem mc_49 : cdW 49 ∈ tables_1 := tm_4 (w := Cond.code yX8_addRule cX8_addRule 7 (some .int)) 96 rfl
set_option maxRecDepth 100000 in
theorem mc_50 : cdW 50 ∈ tables_1 := tm_5 (w := Cond.code yX8_addDraw cX8_addDraw 2 (some .int)) 66 rfl
set_option maxRecDepth 100000 in
theorem mc_51 : cdW 51 ∈ tables_1 := tm_6 (w := Cond.code yX8_addBreak cX8_addBreak 5 (some .int)) 89 rfl
set_option maxRecDepth 100000 in
theorem mc_52 : cdW 52 ∈ tables_1 := tm_3 (w := Cond.code yX8_allParts cX8_allParts 1 (some .int)) 74 rfl
set_option maxRecDepth 100000 in
theorem mc_53 : cdW 53 ∈ tables_1 := tm_3 (w := Cond.code yX8_ruleNumber cX8_ruleNumber 3 (some .int)) 92 rfl
set_option maxRecDepth 100000 in
theorem mc_54 : cdW 54 ∈ tables_1 := tm_3 (w := Cond.code yX8_numberBy cX8_numberBy 7 (some .int)) 106 rfl
set_option maxRecDepth 100000 in
theorem mc_55 : cdW 55 ∈ tables_1 := tm_6 (w := Cond.code yX9_begin cX9_begin 4 none) 125 rfl
set_option maxRecDepth 100000 in
theorem mc_56 : cdW 56 ∈ tables_1 := tm_6 (w := Cond.code yX9_pass cX9_pass 4 none) 130 rfl
set_option maxRecDepth 100000 in
theorem mc_57 : cdW 57 ∈ tables_1 := tm_6 (w := Cond.code yX9_breakBy cX9_breakBy 5 (some .boolean)) 135 rfl
set_option maxRecDepth 100000 in
theorem mc_58 : cdW 58 ∈ tables_1 := tm_6 (w := Cond.code yX9_passBeside cX9_passBeside 3 none) 145 rfl
set_option maxRecDepth 100000 in
theorem mc_59 : cdW 59 ∈ tables_1 := tm_6 (w := Cond.code yX9_rainOf cX9_rainOf 4 (some .int)) 150 rfl
set_option maxRecDepth 100000 in
theorem mc_60 : cdW 60 ∈ tables_1 := tm_6 (w := Cond.code yX9_tells cX9_tells 2 (some .int)) 156 rfl
set_option maxRecDepth 100000 in
theorem mc_61 : cdW 61 ∈ tables_1 := tm_3 (w := Cond.code yX10_open cX10_open 5 none) 82 rfl
set_option maxRecDepth 100000 in
theorem mc_62 : cdW 62 ∈ tables_1 := tm_3 (w := Cond.code yX10_wantedAt cX10_wantedAt 2 (some .int)) 102 rfl
set_option maxRecDepth 100000 in
theorem mc_63 : cdW 63 ∈ tables_1 := tm_6 (w := Cond.code yX10_wantedBy cX10_wantedBy 4 (some .int)) 139 rfl
set_option maxRecDepth 100000 in
theorem mc_64 : cdW 64 ∈ tables_1 := tm_6 (w := Cond.code yX10_promise cX10_promise 6 none) 63 rfl
set_option maxRecDepth 100000 in
theorem mc_65 : cdW 65 ∈ tables_1 := tm_3 (w := Cond.code yX10_ruleWith cX10_ruleWith 4 none) 88 rfl
set_option maxRecDepth 100000 in
theorem mc_66 : cdW 66 ∈ tables_1 := tm_3 (w := Cond.code yX10_priceWith cX10_priceWith 11 none) 96 rfl
set_option maxRecDepth 100000 in
theorem mc_67 : cdW 67 ∈ tables_1 := tm_3 (w := Cond.code yX10_wish cX10_wish 3 none) 113 rfl
set_option maxRecDepth 100000 in
theorem mc_68 : cdW 68 ∈ tables_1 := tm_3 (w := Cond.code yX10_pumpBy cX10_pumpBy 3 none) 129 rfl
set_option maxRecDepth 100000 in
theorem mc_69 : cdW 69 ∈ tables_1 := tm_3 (w := Cond.code yX10_pump cX10_pump 4 none) 134 rfl
set_option maxRecDepth 100000 in
theorem mc_70 : cdW 70 ∈ tables_1 := tm_3 (w := Cond.code yX10_had cX10_had 3 (some .int)) 141 rfl
set_option maxRecDepth 100000 in
theorem mc_71 : cdW 71 ∈ tables_1 := tm_6 (w := Cond.code yX10_hadPlain cX10_hadPlain 3 (some .int)) 32 rfl
set_option maxRecDepth 100000 in
theorem mc_72 : cdW 72 ∈ tables_1 := tm_3 (w := Cond.code yX10_risen cX10_risen 3 (some .int)) 156 rfl
set_option maxRecDepth 100000 in
theorem mc_73 : cdW 73 ∈ tables_1 := tm_5 (w := Cond.code yX10_partsTo cX10_partsTo 4 (some .int)) 112 rfl
set_option maxRecDepth 100000 in
theorem mc_74 : cdW 74 ∈ tables_1 := tm_3 (w := Cond.code yX10_awaited cX10_awaited 7 (some .long)) 177 rfl
set_option maxRecDepth 100000 in
theorem mc_75 : cdW 75 ∈ tables_1 := tm_5 (w := Cond.code yX10_unpack cX10_unpack 3 none) 200 rfl
set_option maxRecDepth 100000 in
theorem mc_76 : cdW 76 ∈ tables_1 := tm_5 (w := Cond.code yX10_numberIn cX10_numberIn 3 (some .int)) 204 rfl
set_option maxRecDepth 100000 in
theorem mc_77 : cdW 77 ∈ tables_1 := tm_5 (w := Cond.code yX10_shiftOf cX10_shiftOf 2 (some .int)) 208 rfl
set_option maxRecDepth 100000 in
theorem mc_78 : cdW 78 ∈ tables_1 := tm_5 (w := Cond.code yX10_ways cX10_ways 1 (some .int)) 196 rfl
set_option maxRecDepth 100000 in
theorem mc_79 : cdW 79 ∈ tables_1 := tm_3 (w := Cond.code yX11_feed cX11_feed 6 (some .int)) 39 rfl
set_option maxRecDepth 100000 in
theorem mc_80 : cdW 80 ∈ tables_1 := tm_3 (w := Cond.code yX11_end cX11_end 2 (some .boolean)) 47 rfl
set_option maxRecDepth 100000 in
theorem mc_81 : cdW 81 ∈ tables_1 := tm_3 (w := Cond.code yX11_well cX11_well 3 none) 209 rfl
set_option maxRecDepth 100000 in
theorem mc_82 : cdW 82 ∈ tables_1 := tm_4 (w := Cond.code yX11_rain cX11_rain 5 none) 47 rfl
set_option maxRecDepth 100000 in
theorem mc_83 : cdW 83 ∈ tables_1 := tm_4 (w := Cond.code yX11_years cX11_years 3 none) 54 rfl
set_option maxRecDepth 100000 in
theorem mc_84 : cdW 84 ∈ tables_1 := tm_4 (w := Cond.code yX11_farm cX11_farm 5 (some .int)) 62 rfl
set_option maxRecDepth 100000 in
theorem mc_85 : cdW 85 ∈ tables_1 := tm_4 (w := Cond.code yX11_rule cX11_rule 6 (some .int)) 92 rfl
set_option maxRecDepth 100000 in
theorem mc_86 : cdW 86 ∈ tables_1 := tm_4 (w := Cond.code yX11_force cX11_force 3 (some .boolean)) 104 rfl
set_option maxRecDepth 100000 in
theorem mc_87 : cdW 87 ∈ tables_1 := tm_4 (w := Cond.code yX11_draw cX11_draw 1 (some .int)) 130 rfl
set_option maxRecDepth 100000 in
theorem mc_88 : cdW 88 ∈ tables_1 := tm_3 (w := Cond.code yX11_fault cX11_fault 1 (some .int)) 51 rfl
set_option maxRecDepth 100000 in
theorem mc_89 : cdW 89 ∈ tables_1 := tm_5 (w := Cond.code yX11_by cX11_by 4 (some .boolean)) 73 rfl
set_option maxRecDepth 100000 in
theorem mc_90 : cdW 90 ∈ tables_1 := tm_6 (w := Cond.code yX11_broken cX11_broken 4 (some .int)) 85 rfl
set_option maxRecDepth 100000 in
theorem mc_91 : cdW 91 ∈ tables_1 := tm_6 (w := Cond.code yX11_row cX11_row 3 (some .int)) 96 rfl
set_option maxRecDepth 100000 in
theorem mc_92 : cdW 92 ∈ tables_1 := tm_6 (w := Cond.code yX11_beside cX11_beside 4 none) 196 rfl
set_option maxRecDepth 100000 in
theorem mc_93 : cdW 93 ∈ tables_1 := tm_3 (w := Cond.code yX11_image cX11_image 1 none) 55 rfl
set_option maxRecDepth 100000 in
theorem mc_94 : cdW 94 ∈ tables_1 := tm_3 (w := Cond.code yX11_back cX11_back 1 (some .boolean)) 66 rfl
set_option maxRecDepth 100000 in
theorem mc_95 : cdW 95 ∈ tables_1 := tm_3 (w := Cond.code yX11_count cX11_count 2 (some .int)) 70 rfl
set_option maxRecDepth 100000 in
theorem mc_96 : cdW 96 ∈ tables_1 := tm_5 (w := Cond.code yX11_wants cX11_wants 5 (some .int)) 84 rfl
set_option maxRecDepth 100000 in
theorem mc_97 : cdW 97 ∈ tables_1 := tm_5 (w := Cond.code yX11_gains cX11_gains 4 (some .int)) 100 rfl
set_option maxRecDepth 100000 in
theorem mc_98 : cdW 98 ∈ tables_1 := tm_5 (w := Cond.code yX11_next cX11_next 4 (some .int)) 108 rfl
set_option maxRecDepth 100000 in
theorem mc_99 : cdW 99 ∈ tables_1 := tm_5 (w := Cond.code yX11_worth cX11_worth 6 (some .long)) 119 rfl
set_option maxRecDepth 100000 in
theorem mc_100 : cdW 100 ∈ tables_1 := tm_3 (w := Cond.code yX11_judge cX11_judge 1 (some .int)) 117 rfl
set_option maxRecDepth 100000 in
theorem mc_101 : cdW 101 ∈ tables_1 := tm_6 (w := Cond.code yX11_pacts cX11_pacts 4 (some .int)) 59 rfl
set_option maxRecDepth 100000 in
theorem mc_102 : cdW 102 ∈ tables_1 := tm_3 (w := Cond.code yX11_weak cX11_weak 3 (some .int)) 199 rfl
set_option maxRecDepth 100000 in
theorem mc_103 : cdW 103 ∈ tables_1 := tm_5 (w := Cond.code yX11_answer cX11_answer 3 (some .int)) 139 rfl
set_option maxRecDepth 100000 in
theorem mc_104 : cdW 104 ∈ tables_1 := tm_6 (w := Cond.code yX11_edge cX11_edge 7 (some .int)) 181 rfl
set_option maxRecDepth 100000 in
theorem mc_105 : cdW 105 ∈ tables_1 := tm_5 (w := Cond.code yX11_owner cX11_owner 3 (some .int)) 183 rfl
set_option maxRecDepth 100000 in
theorem mc_106 : cdW 106 ∈ tables_1 := tm_5 (w := Cond.code yX11_owned cX11_owned 3 (some .long)) 217 rfl
set_option maxRecDepth 100000 in
theorem mc_107 : cdW 107 ∈ tables_1 := tm_5 (w := Cond.code yX11_lost cX11_lost 6 (some .long)) 224 rfl
set_option maxRecDepth 100000 in
theorem mc_108 : cdW 108 ∈ tables_1 := tm_5 (w := Cond.code yX11_near cX11_near 4 (some .int)) 238 rfl
set_option maxRecDepth 100000 in
theorem mc_109 : cdW 109 ∈ tables_1 := tm_6 (w := Cond.code yX11_rest cX11_rest 4 (some .int)) 11 rfl
set_option maxRecDepth 100000 in
theorem mc_110 : cdW 110 ∈ tables_1 := tm_6 (w := Cond.code yX11_restWorth cX11_restWorth 5 (some .long)) 45 rfl
set_option maxRecDepth 100000 in
theorem mc_111 : cdW 111 ∈ tables_1 := tm_6 (w := Cond.code yX11_nearest cX11_nearest 9 (some .int)) 52 rfl
set_option maxRecDepth 100000 in
theorem mc_112 : cdW 112 ∈ tables_1 := tm_6 (w := Cond.code yX11_dry cX11_dry 3 (some .long)) 70 rfl
set_option maxRecDepth 100000 in
theorem mc_113 : cdW 113 ∈ tables_1 := tm_6 (w := Cond.code yX11_part cX11_part 4 (some .long)) 163 rfl
set_option maxRecDepth 100000 in
theorem mc_114 : cdW 114 ∈ tables_1 := tm_6 (w := Cond.code yX11_most cX11_most 9 (some .int)) 174 rfl
set_option maxRecDepth 100000 in
theorem mc_115 : cdW 115 ∈ tables_1 := tm_6 (w := Cond.code yX11_lasts cX11_lasts 4 (some .int)) 189 rfl
set_option maxRecDepth 100000 in
theorem mc_116 : cdW 116 ∈ tables_1 := tm_6 (w := Cond.code yX11_run cX11_run 7 (some .int)) 105 rfl
set_option maxRecDepth 100000 in
theorem mc_117 : cdW 117 ∈ tables_1 := tm_5 (w := Cond.code yX11_needFarm cX11_needFarm 2 none) 77 rfl
set_option maxRecDepth 100000 in
theorem mc_118 : cdW 118 ∈ tables_1 := tm_5 (w := Cond.code yX11_needLevel cX11_needLevel 2 none) 88 rfl
set_option maxRecDepth 100000 in
theorem mc_119 : cdW 119 ∈ tables_1 := tm_4 (w := Cond.code yX11_needIndex cX11_needIndex 2 none) 107 rfl
set_option maxRecDepth 100000 in
theorem mc_120 : cdW 120 ∈ tables_1 := tm_3 (w := Cond.code yX11_needNumber cX11_needNumber 3 none) 212 rfl
set_option maxRecDepth 100000 in
theorem mc_121 : cdW 121 ∈ tables_1 := tm_4 (w := Cond.code yX11_needRoom cX11_needRoom 2 none) 65 rfl
set_option maxRecDepth 100000 in
theorem mc_122 : cdW 122 ∈ tables_1 := tm_5 (w := Cond.code yX11_pumpByDraws cX11_pumpByDraws 3 none) 92 rfl
set_option maxRecDepth 100000 in
theorem mc_123 : cdW 123 ∈ tables_1 := tm_3 (w := Cond.code yX11_levelsOfRest cX11_levelsOfRest 5 (some .int)) 78 rfl
set_option maxRecDepth 100000 in
theorem mc_124 : cdW 124 ∈ tables_1 := tm_5 (w := Cond.code yX11_ownAll cX11_ownAll 1 none) 187 rfl
set_option maxRecDepth 100000 in
theorem mc_125 : cdW 125 ∈ tables_1 := tm_5 (w := Cond.code yX11_half cX11_half 7 (some .long)) 126 rfl
set_option maxRecDepth 100000 in
theorem mc_126 : cdW 126 ∈ tables_1 := tm_5 (w := Cond.code yX11_commonPart cX11_commonPart 11 (some .long)) 132 rfl
set_option maxRecDepth 100000 in
theorem mc_127 : cdW 127 ∈ tables_1 := tm_3 (w := Cond.code yX11_isMore cX11_isMore 25 (some .boolean)) 192 rfl
set_option maxRecDepth 100000 in
theorem mc_128 : cdW 128 ∈ tables_1 := tm_5 (w := Cond.code yX11_wholeLess cX11_wholeLess 10 (some .long)) 227 rfl
set_option maxRecDepth 100000 in
theorem mc_129 : cdW 129 ∈ tables_1 := tm_6 (w := Cond.code yX12_thrown cX12_thrown 1 (some .int)) 200 rfl
set_option maxRecDepth 100000 in
theorem mc_130 : cdW 130 ∈ tables_1 := tm_7 (w := Cond.code yX12_throwsIf cX12_throwsIf 3 (some .boolean)) 109 rfl
set_option maxRecDepth 100000 in
theorem mc_131 : cdW 131 ∈ tables_1 := tm_7 (w := Cond.code yX12_in cX12_in 3 (some .boolean)) 105 rfl
set_option maxRecDepth 100000 in
theorem mc_132 : cdW 132 ∈ tables_1 := tm_7 (w := Cond.code yX12_image cX12_image 2 none) 94 rfl
set_option maxRecDepth 100000 in
theorem mc_133 : cdW 133 ∈ tables_1 := tm_7 (w := Cond.code yX12_back cX12_back 2 (some .boolean)) 98 rfl
set_option maxRecDepth 100000 in
theorem mc_134 : cdW 134 ∈ tables_1 := tm_8 (w := Cond.code yX12_topIs cX12_topIs 1 (some .int)) 14 rfl
set_option maxRecDepth 100000 in
theorem mc_135 : cdW 135 ∈ tables_1 := tm_7 (w := Cond.code yX12_farms cX12_farms 1 (some .int)) 125 rfl
set_option maxRecDepth 100000 in
theorem mc_136 : cdW 136 ∈ tables_1 := tm_8 (w := Cond.code yX12_parts cX12_parts 1 (some .int)) 80 rfl
set_option maxRecDepth 100000 in
theorem mc_137 : cdW 137 ∈ tables_1 := tm_8 (w := Cond.code yX12_noLevel cX12_noLevel 2 (some .boolean)) 10 rfl
set_option maxRecDepth 100000 in
theorem mc_138 : cdW 138 ∈ tables_1 := tm_7 (w := Cond.code yX12_noFarm cX12_noFarm 2 (some .boolean)) 238 rfl
set_option maxRecDepth 100000 in
theorem mc_139 : cdW 139 ∈ tables_1 := tm_8 (w := Cond.code yX12_noDraw cX12_noDraw 2 (some .boolean)) 2 rfl
set_option maxRecDepth 100000 in
theorem mc_140 : cdW 140 ∈ tables_1 := tm_7 (w := Cond.code yX12_well cX12_well 3 none) 102 rfl
set_option maxRecDepth 100000 in
theorem mc_141 : cdW 141 ∈ tables_1 := tm_7 (w := Cond.code yX12_rain cX12_rain 5 none) 113 rfl
set_option maxRecDepth 100000 in
theorem mc_142 : cdW 142 ∈ tables_1 := tm_7 (w := Cond.code yX12_years cX12_years 3 none) 117 rfl
set_option maxRecDepth 100000 in
theorem mc_143 : cdW 143 ∈ tables_1 := tm_7 (w := Cond.code yX12_farm cX12_farm 6 (some .int)) 121 rfl
set_option maxRecDepth 100000 in
theorem mc_144 : cdW 144 ∈ tables_1 := tm_7 (w := Cond.code yX12_rule cX12_rule 7 (some .int)) 129 rfl
set_option maxRecDepth 100000 in
theorem mc_145 : cdW 145 ∈ tables_1 := tm_7 (w := Cond.code yX12_force cX12_force 2 (some .boolean)) 133 rfl
set_option maxRecDepth 100000 in
theorem mc_146 : cdW 146 ∈ tables_1 := tm_7 (w := Cond.code yX12_feed cX12_feed 7 (some .int)) 137 rfl
set_option maxRecDepth 100000 in
theorem mc_147 : cdW 147 ∈ tables_1 := tm_7 (w := Cond.code yX12_end cX12_end 2 (some .boolean)) 141 rfl
set_option maxRecDepth 100000 in
theorem mc_148 : cdW 148 ∈ tables_1 := tm_7 (w := Cond.code yX12_uses cX12_uses 1 none) 153 rfl
set_option maxRecDepth 100000 in
theorem mc_149 : cdW 149 ∈ tables_1 := tm_7 (w := Cond.code yX12_isAt cX12_isAt 3 (some .boolean)) 165 rfl
set_option maxRecDepth 100000 in
theorem mc_150 : cdW 150 ∈ tables_1 := tm_7 (w := Cond.code yX12_blanks cX12_blanks 1 none) 161 rfl
set_option maxRecDepth 100000 in
theorem mc_151 : cdW 151 ∈ tables_1 := tm_7 (w := Cond.code yX12_letters cX12_letters 1 none) 173 rfl
set_option maxRecDepth 100000 in
theorem mc_152 : cdW 152 ∈ tables_1 := tm_7 (w := Cond.code yX12_isWord cX12_isWord 4 (some .boolean)) 178 rfl
set_option maxRecDepth 100000 in
theorem mc_153 : cdW 153 ∈ tables_1 := tm_7 (w := Cond.code yX12_passes cX12_passes 2 (some .boolean)) 195 rfl
set_option maxRecDepth 100000 in
theorem mc_154 : cdW 154 ∈ tables_1 := tm_7 (w := Cond.code yX12_sign cX12_sign 2 (some .boolean)) 211 rfl
set_option maxRecDepth 100000 in
theorem mc_155 : cdW 155 ∈ tables_1 := tm_7 (w := Cond.code yX12_number cX12_number 3 (some .int)) 190 rfl
set_option maxRecDepth 100000 in
theorem mc_156 : cdW 156 ∈ tables_1 := tm_7 (w := Cond.code yX12_fault cX12_fault 1 (some .int)) 145 rfl
set_option maxRecDepth 100000 in
theorem mc_157 : cdW 157 ∈ tables_1 := tm_7 (w := Cond.code yX12_drawAt cX12_drawAt 1 (some .int)) 186 rfl
set_option maxRecDepth 100000 in
theorem mc_158 : cdW 158 ∈ tables_1 := tm_7 (w := Cond.code yX12_lineAt cX12_lineAt 2 (some .int)) 183 rfl
set_option maxRecDepth 100000 in
theorem mc_159 : cdW 159 ∈ tables_1 := tm_7 (w := Cond.code yX12_emits cX12_emits 4 none) 216 rfl
set_option maxRecDepth 100000 in
theorem mc_160 : cdW 160 ∈ tables_1 := tm_7 (w := Cond.code yX12_readPart cX12_readPart 2 (some .boolean)) 225 rfl
set_option maxRecDepth 100000 in
theorem mc_161 : cdW 161 ∈ tables_1 := tm_7 (w := Cond.code yX12_readSum cX12_readSum 1 (some .boolean)) 221 rfl
set_option maxRecDepth 100000 in
theorem mc_162 : cdW 162 ∈ tables_1 := tm_7 (w := Cond.code yX12_readAtom cX12_readAtom 2 (some .boolean)) 207 rfl
set_option maxRecDepth 100000 in
theorem mc_163 : cdW 163 ∈ tables_1 := tm_7 (w := Cond.code yX12_readAllOf cX12_readAllOf 1 (some .boolean)) 203 rfl
set_option maxRecDepth 100000 in
theorem mc_164 : cdW 164 ∈ tables_1 := tm_7 (w := Cond.code yX12_readCond cX12_readCond 1 (some .boolean)) 199 rfl
set_option maxRecDepth 100000 in
theorem mc_165 : cdW 165 ∈ tables_1 := tm_7 (w := Cond.code yX12_readLine cX12_readLine 3 (some .boolean)) 169 rfl
set_option maxRecDepth 100000 in
theorem mc_166 : cdW 166 ∈ tables_1 := tm_7 (w := Cond.code yX12_readAll cX12_readAll 2 (some .int)) 157 rfl
set_option maxRecDepth 100000 in
theorem mc_167 : cdW 167 ∈ tables_1 := tm_7 (w := Cond.code yX12_draw cX12_draw 4 (some .int)) 149 rfl
set_option maxRecDepth 100000 in
theorem mc_168 : cdW 168 ∈ tables_1 := tm_7 (w := Cond.code yX12_by cX12_by 4 (some .boolean)) 234 rfl
set_option maxRecDepth 100000 in
theorem mc_169 : cdW 169 ∈ tables_1 := tm_8 (w := Cond.code yX12_holds cX12_holds 13 (some .boolean)) 34 rfl
set_option maxRecDepth 100000 in
theorem mc_170 : cdW 170 ∈ tables_1 := tm_8 (w := Cond.code yX12_drawn cX12_drawn 6 (some .int)) 30 rfl
set_option maxRecDepth 100000 in
theorem mc_171 : cdW 171 ∈ tables_1 := tm_8 (w := Cond.code yX12_wantOf cX12_wantOf 4 (some .int)) 26 rfl
set_option maxRecDepth 100000 in
theorem mc_172 : cdW 172 ∈ tables_1 := tm_8 (w := Cond.code yX12_gainOf cX12_gainOf 8 (some .int)) 48 rfl
set_option maxRecDepth 100000 in
theorem mc_173 : cdW 173 ∈ tables_1 := tm_8 (w := Cond.code yX12_year cX12_year 6 none) 42 rfl
set_option maxRecDepth 100000 in
theorem mc_174 : cdW 174 ∈ tables_1 := tm_8 (w := Cond.code yX12_ruleNow cX12_ruleNow 1 (some .int)) 38 rfl
set_option maxRecDepth 100000 in
theorem mc_175 : cdW 175 ∈ tables_1 := tm_8 (w := Cond.code yX12_wantNow cX12_wantNow 4 none) 22 rfl
set_option maxRecDepth 100000 in
theorem mc_176 : cdW 176 ∈ tables_1 := tm_8 (w := Cond.code yX12_yearNow cX12_yearNow 3 none) 18 rfl
set_option maxRecDepth 100000 in
theorem mc_177 : cdW 177 ∈ tables_1 := tm_8 (w := Cond.code yX12_rained cX12_rained 3 (some .int)) 60 rfl
set_option maxRecDepth 100000 in
theorem mc_178 : cdW 178 ∈ tables_1 := tm_8 (w := Cond.code yX12_wants cX12_wants 5 (some .int)) 6 rfl
set_option maxRecDepth 100000 in
theorem mc_179 : cdW 179 ∈ tables_1 := tm_8 (w := Cond.code yX12_gains cX12_gains 4 (some .int)) 52 rfl
set_option maxRecDepth 100000 in
theorem mc_180 : cdW 180 ∈ tables_1 := tm_8 (w := Cond.code yX12_next cX12_next 6 (some .int)) 56 rfl
set_option maxRecDepth 100000 in
theorem mc_181 : cdW 181 ∈ tables_1 := tm_8 (w := Cond.code yX12_common cX12_common 10 (some .long)) 101 rfl
set_option maxRecDepth 100000 in
theorem mc_182 : cdW 182 ∈ tables_1 := tm_8 (w := Cond.code yX12_compared cX12_compared 25 (some .int)) 121 rfl
set_option maxRecDepth 100000 in
theorem mc_183 : cdW 183 ∈ tables_1 := tm_8 (w := Cond.code yX12_tells cX12_tells 7 none) 98 rfl
set_option maxRecDepth 100000 in
theorem mc_184 : cdW 184 ∈ tables_1 := tm_8 (w := Cond.code yX12_numberWith cX12_numberWith 8 (some .long)) 84 rfl
set_option maxRecDepth 100000 in
theorem mc_185 : cdW 185 ∈ tables_1 := tm_8 (w := Cond.code yX12_squares cX12_squares 3 none) 76 rfl
set_option maxRecDepth 100000 in
theorem mc_186 : cdW 186 ∈ tables_1 := tm_8 (w := Cond.code yX12_solves cX12_solves 2 none) 72 rfl
set_option maxRecDepth 100000 in
theorem mc_187 : cdW 187 ∈ tables_1 := tm_8 (w := Cond.code yX12_awaited cX12_awaited 7 (some .long)) 118 rfl
set_option maxRecDepth 100000 in
theorem mc_188 : cdW 188 ∈ tables_1 := tm_8 (w := Cond.code yX12_at cX12_at 3 (some .int)) 93 rfl
set_option maxRecDepth 100000 in
theorem mc_189 : cdW 189 ∈ tables_1 := tm_8 (w := Cond.code yX12_worthsByDraws cX12_worthsByDraws 4 none) 68 rfl
set_option maxRecDepth 100000 in
theorem mc_190 : cdW 190 ∈ tables_1 := tm_8 (w := Cond.code yX12_worth cX12_worth 6 (some .long)) 64 rfl
set_option maxRecDepth 100000 in
theorem mc_191 : cdW 191 ∈ tables_1 := tm_8 (w := Cond.code yX12_gainsBy cX12_gainsBy 10 (some .boolean)) 114 rfl
set_option maxRecDepth 100000 in
theorem mc_192 : cdW 192 ∈ tables_1 := tm_8 (w := Cond.code yX12_judged cX12_judged 4 (some .int)) 110 rfl
set_option maxRecDepth 100000 in
theorem mc_193 : cdW 193 ∈ tables_1 := tm_8 (w := Cond.code yX12_judge cX12_judge 1 (some .int)) 106 rfl
set_option maxRecDepth 100000 in
theorem mc_194 : cdW 194 ∈ tables_1 := tm_8 (w := Cond.code yX12_wantsBy cX12_wantsBy 6 none) 138 rfl
set_option maxRecDepth 100000 in
theorem mc_195 : cdW 195 ∈ tables_1 := tm_8 (w := Cond.code yX12_codes cX12_codes 4 (some .int)) 146 rfl
set_option maxRecDepth 100000 in
theorem mc_196 : cdW 196 ∈ tables_1 := tm_8 (w := Cond.code yX12_yearBy cX12_yearBy 4 none) 134 rfl
set_option maxRecDepth 100000 in
theorem mc_197 : cdW 197 ∈ tables_1 := tm_8 (w := Cond.code yX12_gainBy cX12_gainBy 2 (some .int)) 142 rfl
set_option maxRecDepth 100000 in
theorem mc_198 : cdW 198 ∈ tables_1 := tm_8 (w := Cond.code yX12_betters cX12_betters 11 none) 130 rfl
set_option maxRecDepth 100000 in
theorem mc_199 : cdW 199 ∈ tables_1 := tm_8 (w := Cond.code yX12_answer cX12_answer 3 (some .int)) 126 rfl
set_option maxRecDepth 100000 in
theorem mc_200 : cdW 200 ∈ tables_1 := tm_8 (w := Cond.code yX12_owner cX12_owner 3 (some .int)) 150 rfl
set_option maxRecDepth 100000 in
theorem mc_201 : cdW 201 ∈ tables_1 := tm_8 (w := Cond.code yX12_owned cX12_owned 3 (some .long)) 154 rfl
set_option maxRecDepth 100000 in
theorem mc_202 : cdW 202 ∈ tables_1 := tm_8 (w := Cond.code yX12_lost cX12_lost 10 (some .long)) 158 rfl
set_option maxRecDepth 100000 in
theorem mc_203 : cdW 203 ∈ tables_1 := tm_8 (w := Cond.code yX12_noYears cX12_noYears 1 (some .boolean)) 165 rfl
set_option maxRecDepth 100000 in
theorem mc_204 : cdW 204 ∈ tables_1 := tm_8 (w := Cond.code yX12_near cX12_near 12 (some .int)) 162 rfl
set_option maxRecDepth 100000 in
theorem mc_205 : cdW 205 ∈ tables_1 := tm_8 (w := Cond.code yX12_isRest cX12_isRest 11 (some .boolean)) 177 rfl
set_option maxRecDepth 100000 in
theorem mc_206 : cdW 206 ∈ tables_1 := tm_8 (w := Cond.code yX12_plainOf cX12_plainOf 5 (some .int)) 181 rfl
set_option maxRecDepth 100000 in
theorem mc_207 : cdW 207 ∈ tables_1 := tm_8 (w := Cond.code yX12_rests cX12_rests 7 none) 173 rfl
set_option maxRecDepth 100000 in
theorem mc_208 : cdW 208 ∈ tables_1 := tm_8 (w := Cond.code yX12_rest cX12_rest 4 (some .int)) 169 rfl
set_option maxRecDepth 100000 in
theorem mc_209 : cdW 209 ∈ tables_1 := tm_8 (w := Cond.code yX12_restWorth cX12_restWorth 5 (some .long)) 185 rfl
set_option maxRecDepth 100000 in
theorem mc_210 : cdW 210 ∈ tables_1 := tm_8 (w := Cond.code yX12_nearest cX12_nearest 7 (some .int)) 189 rfl
set_option maxRecDepth 100000 in
theorem mc_211 : cdW 211 ∈ tables_1 := tm_8 (w := Cond.code yX12_pacts cX12_pacts 4 (some .int)) 193 rfl
set_option maxRecDepth 100000 in
theorem mc_212 : cdW 212 ∈ tables_1 := tm_8 (w := Cond.code yX12_weak cX12_weak 10 (some .int)) 197 rfl
set_option maxRecDepth 100000 in
theorem mc_213 : cdW 213 ∈ tables_1 := tm_8 (w := Cond.code yX12_dry cX12_dry 8 (some .long)) 201 rfl
set_option maxRecDepth 100000 in
theorem mc_214 : cdW 214 ∈ tables_1 := tm_8 (w := Cond.code yX12_partOfAll cX12_partOfAll 9 (some .long)) 209 rfl
set_option maxRecDepth 100000 in
theorem mc_215 : cdW 215 ∈ tables_1 := tm_8 (w := Cond.code yX12_part cX12_part 4 (some .long)) 205 rfl
set_option maxRecDepth 100000 in
theorem mc_216 : cdW 216 ∈ tables_1 := tm_8 (w := Cond.code yX12_most cX12_most 9 (some .int)) 213 rfl
set_option maxRecDepth 100000 in
theorem mc_217 : cdW 217 ∈ tables_1 := tm_8 (w := Cond.code yX12_edge cX12_edge 8 (some .int)) 217 rfl
set_option maxRecDepth 100000 in
theorem mc_218 : cdW 218 ∈ tables_1 := tm_8 (w := Cond.code yX12_lasts cX12_lasts 4 (some .int)) 224 rfl
set_option maxRecDepth 100000 in
theorem mc_219 : cdW 219 ∈ tables_1 := tm_8 (w := Cond.code yX12_beside cX12_beside 4 none) 228 rfl
set_option maxRecDepth 100000 in
theorem mc_220 : cdW 220 ∈ tables_1 := tm_8 (w := Cond.code yX12_broken cX12_broken 5 (some .int)) 232 rfl
set_option maxRecDepth 100000 in
theorem mc_221 : cdW 221 ∈ tables_1 := tm_8 (w := Cond.code yX12_row cX12_row 3 (some .int)) 236 rfl
set_option maxRecDepth 100000 in
theorem mc_222 : cdW 222 ∈ tables_1 := tm_9 (w := Cond.code yX12_partOf cX12_partOf 4 (some .int)) 5 rfl
set_option maxRecDepth 100000 in
theorem mc_223 : cdW 223 ∈ tables_1 := tm_9 (w := Cond.code yX12_run cX12_run 18 (some .int)) 0 rfl
set_option maxRecDepth 100000 in
theorem mc_224 : cdW 224 ∈ tables_1 := tm_9 (w := Cond.code yX12_count cX12_count 6 (some .int)) 9 rfl
set_option maxRecDepth 100000 in
theorem mc_225 : cdW 225 ∈ tables_1 := tm_8 (w := Cond.code yJ6_bitCount_0f7a4 cJ6_bitCount_0f7a4 1 (some .int)) 87 rfl
set_option maxRecDepth 100000 in
theorem mc_226 : cdW 226 ∈ tables_1 := tm_3 (w := Cond.code yJ9_floorDiv_f86c9 cJ9_floorDiv_f86c9 6 (some .long)) 195 rfl
set_option maxRecDepth 100000 in
theorem mc_227 : cdW 227 ∈ tables_1 := tm_5 (w := Cond.code yJ9_floorMod_f86c9 cJ9_floorMod_f86c9 6 (some .long)) 230 rfl
set_option maxRecDepth 100000 in
theorem mc_228 : cdW 228 ∈ tables_1 := tm_8 (w := Cond.code yJ9_abs_0f7a4 cJ9_abs_0f7a4 1 (some .int)) 220 rfl
set_option maxRecDepth 100000 in
theorem mc_229 : cdW 229 ∈ tables_1 := tm_5 (w := Cond.code yJ9_abs_067f4 cJ9_abs_067f4 2 (some .long)) 129 rfl
set_option maxRecDepth 100000 in
theorem mc_230 : cdW 230 ∈ tables_1 := tm_3 (w := Cond.code yJ9_max_7cf53 cJ9_max_7cf53 2 (some .int)) 99 rfl
set_option maxRecDepth 100000 in
theorem mc_231 : cdW 231 ∈ tables_1 := tm_3 (w := Cond.code yJ9_min_7cf53 cJ9_min_7cf53 2 (some .int)) 137 rfl
set_option maxRecDepth 100000 in
theorem mc_232 : cdW 232 ∈ tables_1 := tm_3 (w := Cond.code yJ7_fill_d0a16 cJ7_fill_d0a16 5 none) 148 rfl
set_option maxRecDepth 100000 in
theorem mc_233 : cdW 233 ∈ tables_1 := tm_5 (w := Cond.code yJ7_fill_53178 cJ7_fill_53178 4 none) 36 rfl
set_option maxRecDepth 100000 in
theorem mc_234 : cdW 234 ∈ tables_1 := tm_3 (w := Cond.codeWith yL_well cL_well 4 (some .int) [(0, 6, 9, 13)]) 204 rfl
set_option maxRecDepth 100000 in
theorem mc_235 : cdW 235 ∈ tables_1 := tm_4 (w := Cond.codeWith yL_rain cL_rain 6 (some .int) [(0, 9, 12, 13)]) 43 rfl
set_option maxRecDepth 100000 in
theorem mc_236 : cdW 236 ∈ tables_1 := tm_4 (w := Cond.codeWith yL_years cL_years 4 (some .int) [(0, 6, 9, 13)]) 50 rfl
set_option maxRecDepth 100000 in
theorem mc_237 : cdW 237 ∈ tables_1 := tm_4 (w := Cond.codeWith yL_farm cL_farm 7 (some .int) [(0, 14, 17, 13), (0, 14, 21, 26)]) 57 rfl
set_option maxRecDepth 100000 in
theorem mc_238 : cdW 238 ∈ tables_1 := tm_4 (w := Cond.codeWith yL_rule cL_rule 8 (some .int) [(0, 16, 19, 13), (0, 16, 23, 26)]) 88 rfl
set_option maxRecDepth 100000 in
theorem mc_239 : cdW 239 ∈ tables_1 := tm_4 (w := Cond.codeWith yL_force cL_force 4 (some .int) [(0, 16, 19, 36)]) 99 rfl
set_option maxRecDepth 100000 in
theorem mc_240 : cdW 240 ∈ tables_1 := tm_4 (w := Cond.codeWith yL_draw cL_draw 3 (some .int) [(0, 8, 11, 13), (0, 8, 14, 26)]) 126 rfl
set_option maxRecDepth 100000 in
theorem mc_241 : cdW 241 ∈ tables_1 := tm_5 (w := Cond.codeWith yL_by cL_by 5 (some .int) [(0, 17, 20, 36)]) 69 rfl
set_option maxRecDepth 100000 in
theorem mc_242 : cdW 242 ∈ tables_1 := tm_5 (w := Cond.codeWith yL_wants cL_wants 7 (some .int) [(0, 14, 17, 36)]) 80 rfl
set_option maxRecDepth 100000 in
theorem mc_243 : cdW 243 ∈ tables_1 := tm_5 (w := Cond.codeWith yL_gains cL_gains 6 (some .int) [(0, 12, 15, 36)]) 96 rfl
set_option maxRecDepth 100000 in
theorem mc_244 : cdW 244 ∈ tables_1 := tm_5 (w := Cond.codeWith yL_next cL_next 6 (some .int) [(0, 12, 15, 36)]) 104 rfl
set_option maxRecDepth 100000 in
theorem mc_245 : cdW 245 ∈ tables_1 := tm_5 (w := Cond.codeWith yL_worth cL_worth 7 (some .int) [(0, 13, 16, 36)]) 115 rfl
set_option maxRecDepth 100000 in
theorem mc_246 : cdW 246 ∈ tables_1 := tm_5 (w := Cond.codeWith yL_answer cL_answer 5 (some .int) [(0, 10, 13, 36)]) 135 rfl
set_option maxRecDepth 100000 in
theorem mc_247 : cdW 247 ∈ tables_1 := tm_5 (w := Cond.codeWith yL_owner cL_owner 5 (some .int) [(0, 10, 13, 36)]) 179 rfl
set_option maxRecDepth 100000 in
theorem mc_248 : cdW 248 ∈ tables_1 := tm_5 (w := Cond.codeWith yL_owned cL_owned 5 (some .int) [(0, 9, 12, 36)]) 213 rfl
set_option maxRecDepth 100000 in
theorem mc_249 : cdW 249 ∈ tables_1 := tm_5 (w := Cond.codeWith yL_lost cL_lost 4 (some .int) [(0, 8, 11, 36)]) 220 rfl
set_option maxRecDepth 100000 in
theorem mc_250 : cdW 250 ∈ tables_1 := tm_5 (w := Cond.codeWith yL_near cL_near 6 (some .int) [(0, 12, 15, 36), (0, 12, 19, 13)]) 234 rfl
set_option maxRecDepth 100000 in
theorem mc_251 : cdW 251 ∈ tables_1 := tm_6 (w := Cond.codeWith yL_rest cL_rest 6 (some .int) [(0, 12, 15, 36), (0, 12, 19, 13)]) 7 rfl
set_option maxRecDepth 100000 in
theorem mc_252 : cdW 252 ∈ tables_1 := tm_6 (w := Cond.codeWith yL_restWorth cL_restWorth 7 (some .int) [(0, 13, 16, 36), (0, 13, 20, 13)]) 41 rfl
set_option maxRecDepth 100000 in
theorem mc_253 : cdW 253 ∈ tables_1 := tm_6 (w := Cond.codeWith yL_nearest cL_nearest 5 (some .int) [(0, 10, 13, 36), (0, 10, 17, 13)]) 48 rfl
set_option maxRecDepth 100000 in
theorem mc_254 : cdW 254 ∈ tables_1 := tm_6 (w := Cond.codeWith yL_pacts cL_pacts 4 (some .int) [(0, 9, 12, 36)]) 55 rfl
set_option maxRecDepth 100000 in
theorem mc_255 : cdW 255 ∈ tables_1 := tm_6 (w := Cond.codeWith yL_dry cL_dry 5 (some .int) [(0, 9, 12, 36), (0, 9, 16, 13)]) 66 rfl
set_option maxRecDepth 100000 in
theorem mc_256 : cdW 256 ∈ tables_1 := tm_6 (w := Cond.codeWith yL_broken cL_broken 6 (some .int) [(0, 12, 15, 36), (0, 12, 19, 13)]) 81 rfl
set_option maxRecDepth 100000 in
theorem mc_257 : cdW 257 ∈ tables_1 := tm_6 (w := Cond.codeWith yL_row cL_row 3 (some .int) [(0, 8, 11, 13)]) 92 rfl
set_option maxRecDepth 100000 in
theorem mc_258 : cdW 258 ∈ tables_1 := tm_6 (w := Cond.codeWith yL_run cL_run 8 (some .int) [(0, 16, 19, 36), (0, 16, 23, 13), (0, 16, 27, 109)]) 100 rfl
set_option maxRecDepth 100000 in
theorem mc_259 : cdW 259 ∈ tables_1 := tm_6 (w := Cond.codeWith yL_part cL_part 6 (some .int) [(0, 11, 14, 36), (0, 11, 18, 13)]) 159 rfl
set_option maxRecDepth 100000 in
theorem mc_260 : cdW 260 ∈ tables_1 := tm_6 (w := Cond.codeWith yL_most cL_most 5 (some .int) [(0, 10, 13, 36), (0, 10, 17, 13)]) 170 rfl
set_option maxRecDepth 100000 in
theorem mc_261 : cdW 261 ∈ tables_1 := tm_6 (w := Cond.codeWith yL_edge cL_edge 5 (some .int) [(0, 10, 13, 36)]) 177 rfl
set_option maxRecDepth 100000 in
theorem mc_262 : cdW 262 ∈ tables_1 := tm_6 (w := Cond.codeWith yL_lasts cL_lasts 4 (some .int) [(0, 9, 12, 36)]) 185 rfl
set_option maxRecDepth 100000 in
theorem mc_263 : cdW 263 ∈ tables_1 := tm_6 (w := Cond.codeWith yL_beside cL_beside 5 (some .int) [(0, 7, 10, 13)]) 192 rfl
theorem mc_all : ∀ n, n < 264 → cdW n ∈ tables_1 := by
  have h0 : ∀ n, n < 0 → cdW n ∈ tables_1 := lt_0
  have h1 : ∀ n, n < 1 → cdW n ∈ tables_1 := lt_s h0 mc_0
  have h2 : ∀ n, n < 2 → cdW n ∈ tables_1 := lt_s h1 mc_1
  have h3 : ∀ n, n < 3 → cdW n ∈ tables_1 := lt_s h2 mc_2
  have h4 : ∀ n, n < 4 → cdW n ∈ tables_1 := lt_s h3 mc_3
  have h5 : ∀ n, n < 5 → cdW n ∈ tables_1 := lt_s h4 mc_4
  have h6 : ∀ n, n < 6 → cdW n ∈ tables_1 := lt_s h5 mc_5
  have h7 : ∀ n, n < 7 → cdW n ∈ tables_1 := lt_s h6 mc_6
  have h8 : ∀ n, n < 8 → cdW n ∈ tables_1 := lt_s h7 mc_7
  have h9 : ∀ n, n < 9 → cdW n ∈ tables_1 := lt_s h8 mc_8
  have h10 : ∀ n, n < 10 → cdW n ∈ tables_1 := lt_s h9 mc_9
  have h11 : ∀ n, n < 11 → cdW n ∈ tables_1 := lt_s h10 mc_10
  have h12 : ∀ n, n < 12 → cdW n ∈ tables_1 := lt_s h11 mc_11
  have h13 : ∀ n, n < 13 → cdW n ∈ tables_1 := lt_s h12 mc_12
  have h14 : ∀ n, n < 14 → cdW n ∈ tables_1 := lt_s h13 mc_13
  have h15 : ∀ n, n < 15 → cdW n ∈ tables_1 := lt_s h14 mc_14
  have h16 : ∀ n, n < 16 → cdW n ∈ tables_1 := lt_s h15 mc_15
  have h17 : ∀ n, n < 17 → cdW n ∈ tables_1 := lt_s h16 mc_16
  have h18 : ∀ n, n < 18 → cdW n ∈ tables_1 := lt_s h17 mc_17
  have h19 : ∀ n, n < 19 → cdW n ∈ tables_1 := lt_s h18 mc_18
  have h20 : ∀ n, n < 20 → cdW n ∈ tables_1 := lt_s h19 mc_19
  have h21 : ∀ n, n < 21 → cdW n ∈ tables_1 := lt_s h20 mc_20
  have h22 : ∀ n, n < 22 → cdW n ∈ tables_1 := lt_s h21 mc_21
  have h23 : ∀ n, n < 23 → cdW n ∈ tables_1 := lt_s h22 mc_22
  have h24 : ∀ n, n < 24 → cdW n ∈ tables_1 := lt_s h23 mc_23
  have h25 : ∀ n, n < 25 → cdW n ∈ tables_1 := lt_s h24 mc_24
  have h26 : ∀ n, n < 26 → cdW n ∈ tables_1 := lt_s h25 mc_25
  have h27 : ∀ n, n < 27 → cdW n ∈ tables_1 := lt_s h26 mc_26
  have h28 : ∀ n, n < 28 → cdW n ∈ tables_1 := lt_s h27 mc_27
  have h29 : ∀ n, n < 29 → cdW n ∈ tables_1 := lt_s h28 mc_28
  have h30 : ∀ n, n < 30 → cdW n ∈ tables_1 := lt_s h29 mc_29
  have h31 : ∀ n, n < 31 → cdW n ∈ tables_1 := lt_s h30 mc_30
  have h32 : ∀ n, n < 32 → cdW n ∈ tables_1 := lt_s h31 mc_31
  have h33 : ∀ n, n < 33 → cdW n ∈ tables_1 := lt_s h32 mc_32
  have h34 : ∀ n, n < 34 → cdW n ∈ tables_1 := lt_s h33 mc_33
  have h35 : ∀ n, n < 35 → cdW n ∈ tables_1 := lt_s h34 mc_34
  have h36 : ∀ n, n < 36 → cdW n ∈ tables_1 := lt_s h35 mc_35
  have h37 : ∀ n, n < 37 → cdW n ∈ tables_1 := lt_s h36 mc_36
  have h38 : ∀ n, n < 38 → cdW n ∈ tables_1 := lt_s h37 mc_37
  have h39 : ∀ n, n < 39 → cdW n ∈ tables_1 := lt_s h38 mc_38
  have h40 : ∀ n, n < 40 → cdW n ∈ tables_1 := lt_s h39 mc_39
  have h41 : ∀ n, n < 41 → cdW n ∈ tables_1 := lt_s h40 mc_40
  have h42 : ∀ n, n < 42 → cdW n ∈ tables_1 := lt_s h41 mc_41
  have h43 : ∀ n, n < 43 → cdW n ∈ tables_1 := lt_s h42 mc_42
  have h44 : ∀ n, n < 44 → cdW n ∈ tables_1 := lt_s h43 mc_43
  have h45 : ∀ n, n < 45 → cdW n ∈ tables_1 := lt_s h44 mc_44
  have h46 : ∀ n, n < 46 → cdW n ∈ tables_1 := lt_s h45 mc_45
  have h47 : ∀ n, n < 47 → cdW n ∈ tables_1 := lt_s h46 mc_46
  have h48 : ∀ n, n < 48 → cdW n ∈ tables_1 := lt_s h47 mc_47
  have h49 : ∀ n, n < 49 → cdW n ∈ tables_1 := lt_s h48 mc_48
  have h50 : ∀ n, n < 50 → cdW n ∈ tables_1 := lt_s h49 mc_49
  have h51 : ∀ n, n < 51 → cdW n ∈ tables_1 := lt_s h50 mc_50
  have h52 : ∀ n, n < 52 → cdW n ∈ tables_1 := lt_s h51 mc_51
  have h53 : ∀ n, n < 53 → cdW n ∈ tables_1 := lt_s h52 mc_52
  have h54 : ∀ n, n < 54 → cdW n ∈ tables_1 := lt_s h53 mc_53
  have h55 : ∀ n, n < 55 → cdW n ∈ tables_1 := lt_s h54 mc_54
  have h56 : ∀ n, n < 56 → cdW n ∈ tables_1 := lt_s h55 mc_55
  have h57 : ∀ n, n < 57 → cdW n ∈ tables_1 := lt_s h56 mc_56
  have h58 : ∀ n, n < 58 → cdW n ∈ tables_1 := lt_s h57 mc_57
  have h59 : ∀ n, n < 59 → cdW n ∈ tables_1 := lt_s h58 mc_58
  have h60 : ∀ n, n < 60 → cdW n ∈ tables_1 := lt_s h59 mc_59
  have h61 : ∀ n, n < 61 → cdW n ∈ tables_1 := lt_s h60 mc_60
  have h62 : ∀ n, n < 62 → cdW n ∈ tables_1 := lt_s h61 mc_61
  have h63 : ∀ n, n < 63 → cdW n ∈ tables_1 := lt_s h62 mc_62
  have h64 : ∀ n, n < 64 → cdW n ∈ tables_1 := lt_s h63 mc_63
  have h65 : ∀ n, n < 65 → cdW n ∈ tables_1 := lt_s h64 mc_64
  have h66 : ∀ n, n < 66 → cdW n ∈ tables_1 := lt_s h65 mc_65
  have h67 : ∀ n, n < 67 → cdW n ∈ tables_1 := lt_s h66 mc_66
  have h68 : ∀ n, n < 68 → cdW n ∈ tables_1 := lt_s h67 mc_67
  have h69 : ∀ n, n < 69 → cdW n ∈ tables_1 := lt_s h68 mc_68
  have h70 : ∀ n, n < 70 → cdW n ∈ tables_1 := lt_s h69 mc_69
  have h71 : ∀ n, n < 71 → cdW n ∈ tables_1 := lt_s h70 mc_70
  have h72 : ∀ n, n < 72 → cdW n ∈ tables_1 := lt_s h71 mc_71
  have h73 : ∀ n, n < 73 → cdW n ∈ tables_1 := lt_s h72 mc_72
  have h74 : ∀ n, n < 74 → cdW n ∈ tables_1 := lt_s h73 mc_73
  have h75 : ∀ n, n < 75 → cdW n ∈ tables_1 := lt_s h74 mc_74
  have h76 : ∀ n, n < 76 → cdW n ∈ tables_1 := lt_s h75 mc_75
  have h77 : ∀ n, n < 77 → cdW n ∈ tables_1 := lt_s h76 mc_76
  have h78 : ∀ n, n < 78 → cdW n ∈ tables_1 := lt_s h77 mc_77
  have h79 : ∀ n, n < 79 → cdW n ∈ tables_1 := lt_s h78 mc_78
  have h80 : ∀ n, n < 80 → cdW n ∈ tables_1 := lt_s h79 mc_79
  have h81 : ∀ n, n < 81 → cdW n ∈ tables_1 := lt_s h80 mc_80
  have h82 : ∀ n, n < 82 → cdW n ∈ tables_1 := lt_s h81 mc_81
  have h83 : ∀ n, n < 83 → cdW n ∈ tables_1 := lt_s h82 mc_82
  have h84 : ∀ n, n < 84 → cdW n ∈ tables_1 := lt_s h83 mc_83
  have h85 : ∀ n, n < 85 → cdW n ∈ tables_1 := lt_s h84 mc_84
  have h86 : ∀ n, n < 86 → cdW n ∈ tables_1 := lt_s h85 mc_85
  have h87 : ∀ n, n < 87 → cdW n ∈ tables_1 := lt_s h86 mc_86
  have h88 : ∀ n, n < 88 → cdW n ∈ tables_1 := lt_s h87 mc_87
  have h89 : ∀ n, n < 89 → cdW n ∈ tables_1 := lt_s h88 mc_88
  have h90 : ∀ n, n < 90 → cdW n ∈ tables_1 := lt_s h89 mc_89
  have h91 : ∀ n, n < 91 → cdW n ∈ tables_1 := lt_s h90 mc_90
  have h92 : ∀ n, n < 92 → cdW n ∈ tables_1 := lt_s h91 mc_91
  have h93 : ∀ n, n < 93 → cdW n ∈ tables_1 := lt_s h92 mc_92
  have h94 : ∀ n, n < 94 → cdW n ∈ tables_1 := lt_s h93 mc_93
  have h95 : ∀ n, n < 95 → cdW n ∈ tables_1 := lt_s h94 mc_94
  have h96 : ∀ n, n < 96 → cdW n ∈ tables_1 := lt_s h95 mc_95
  have h97 : ∀ n, n < 97 → cdW n ∈ tables_1 := lt_s h96 mc_96
  have h98 : ∀ n, n < 98 → cdW n ∈ tables_1 := lt_s h97 mc_97
  have h99 : ∀ n, n < 99 → cdW n ∈ tables_1 := lt_s h98 mc_98
  have h100 : ∀ n, n < 100 → cdW n ∈ tables_1 := lt_s h99 mc_99
  have h101 : ∀ n, n < 101 → cdW n ∈ tables_1 := lt_s h100 mc_100
  have h102 : ∀ n, n < 102 → cdW n ∈ tables_1 := lt_s h101 mc_101
  have h103 : ∀ n, n < 103 → cdW n ∈ tables_1 := lt_s h102 mc_102
  have h104 : ∀ n, n < 104 → cdW n ∈ tables_1 := lt_s h103 mc_103
  have h105 : ∀ n, n < 105 → cdW n ∈ tables_1 := lt_s h104 mc_104
  have h106 : ∀ n, n < 106 → cdW n ∈ tables_1 := lt_s h105 mc_105
  have h107 : ∀ n, n < 107 → cdW n ∈ tables_1 := lt_s h106 mc_106
  have h108 : ∀ n, n < 108 → cdW n ∈ tables_1 := lt_s h107 mc_107
  have h109 : ∀ n, n < 109 → cdW n ∈ tables_1 := lt_s h108 mc_108
  have h110 : ∀ n, n < 110 → cdW n ∈ tables_1 := lt_s h109 mc_109
  have h111 : ∀ n, n < 111 → cdW n ∈ tables_1 := lt_s h110 mc_110
  have h112 : ∀ n, n < 112 → cdW n ∈ tables_1 := lt_s h111 mc_111
  have h113 : ∀ n, n < 113 → cdW n ∈ tables_1 := lt_s h112 mc_112
  have h114 : ∀ n, n < 114 → cdW n ∈ tables_1 := lt_s h113 mc_113
  have h115 : ∀ n, n < 115 → cdW n ∈ tables_1 := lt_s h114 mc_114
  have h116 : ∀ n, n < 116 → cdW n ∈ tables_1 := lt_s h115 mc_115
  have h117 : ∀ n, n < 117 → cdW n ∈ tables_1 := lt_s h116 mc_116
  have h118 : ∀ n, n < 118 → cdW n ∈ tables_1 := lt_s h117 mc_117
  have h119 : ∀ n, n < 119 → cdW n ∈ tables_1 := lt_s h118 mc_118
  have h120 : ∀ n, n < 120 → cdW n ∈ tables_1 := lt_s h119 mc_119
  have h121 : ∀ n, n < 121 → cdW n ∈ tables_1 := lt_s h120 mc_120
  have h122 : ∀ n, n < 122 → cdW n ∈ tables_1 := lt_s h121 mc_121
  have h123 : ∀ n, n < 123 → cdW n ∈ tables_1 := lt_s h122 mc_122
  have h124 : ∀ n, n < 124 → cdW n ∈ tables_1 := lt_s h123 mc_123
  have h125 : ∀ n, n < 125 → cdW n ∈ tables_1 := lt_s h124 mc_124
  have h126 : ∀ n, n < 126 → cdW n ∈ tables_1 := lt_s h125 mc_125
  have h127 : ∀ n, n < 127 → cdW n ∈ tables_1 := lt_s h126 mc_126
  have h128 : ∀ n, n < 128 → cdW n ∈ tables_1 := lt_s h127 mc_127
  have h129 : ∀ n, n < 129 → cdW n ∈ tables_1 := lt_s h128 mc_128
  have h130 : ∀ n, n < 130 → cdW n ∈ tables_1 := lt_s h129 mc_129
  have h131 : ∀ n, n < 131 → cdW n ∈ tables_1 := lt_s h130 mc_130
  have h132 : ∀ n, n < 132 → cdW n ∈ tables_1 := lt_s h131 mc_131
  have h133 : ∀ n, n < 133 → cdW n ∈ tables_1 := lt_s h132 mc_132
  have h134 : ∀ n, n < 134 → cdW n ∈ tables_1 := lt_s h133 mc_133
  have h135 : ∀ n, n < 135 → cdW n ∈ tables_1 := lt_s h134 mc_134
  have h136 : ∀ n, n < 136 → cdW n ∈ tables_1 := lt_s h135 mc_135
  have h137 : ∀ n, n < 137 → cdW n ∈ tables_1 := lt_s h136 mc_136
  have h138 : ∀ n, n < 138 → cdW n ∈ tables_1 := lt_s h137 mc_137
  have h139 : ∀ n, n < 139 → cdW n ∈ tables_1 := lt_s h138 mc_138
  have h140 : ∀ n, n < 140 → cdW n ∈ tables_1 := lt_s h139 mc_139
  have h141 : ∀ n, n < 141 → cdW n ∈ tables_1 := lt_s h140 mc_140
  have h142 : ∀ n, n < 142 → cdW n ∈ tables_1 := lt_s h141 mc_141
  have h143 : ∀ n, n < 143 → cdW n ∈ tables_1 := lt_s h142 mc_142
  have h144 : ∀ n, n < 144 → cdW n ∈ tables_1 := lt_s h143 mc_143
  have h145 : ∀ n, n < 145 → cdW n ∈ tables_1 := lt_s h144 mc_144
  have h146 : ∀ n, n < 146 → cdW n ∈ tables_1 := lt_s h145 mc_145
  have h147 : ∀ n, n < 147 → cdW n ∈ tables_1 := lt_s h146 mc_146
  have h148 : ∀ n, n < 148 → cdW n ∈ tables_1 := lt_s h147 mc_147
  have h149 : ∀ n, n < 149 → cdW n ∈ tables_1 := lt_s h148 mc_148
  have h150 : ∀ n, n < 150 → cdW n ∈ tables_1 := lt_s h149 mc_149
  have h151 : ∀ n, n < 151 → cdW n ∈ tables_1 := lt_s h150 mc_150
  have h152 : ∀ n, n < 152 → cdW n ∈ tables_1 := lt_s h151 mc_151
  have h153 : ∀ n, n < 153 → cdW n ∈ tables_1 := lt_s h152 mc_152
  have h154 : ∀ n, n < 154 → cdW n ∈ tables_1 := lt_s h153 mc_153
  have h155 : ∀ n, n < 155 → cdW n ∈ tables_1 := lt_s h154 mc_154
  have h156 : ∀ n, n < 156 → cdW n ∈ tables_1 := lt_s h155 mc_155
  have h157 : ∀ n, n < 157 → cdW n ∈ tables_1 := lt_s h156 mc_156
  have h158 : ∀ n, n < 158 → cdW n ∈ tables_1 := lt_s h157 mc_157
  have h159 : ∀ n, n < 159 → cdW n ∈ tables_1 := lt_s h158 mc_158
  have h160 : ∀ n, n < 160 → cdW n ∈ tables_1 := lt_s h159 mc_159
  have h161 : ∀ n, n < 161 → cdW n ∈ tables_1 := lt_s h160 mc_160
  have h162 : ∀ n, n < 162 → cdW n ∈ tables_1 := lt_s h161 mc_161
  have h163 : ∀ n, n < 163 → cdW n ∈ tables_1 := lt_s h162 mc_162
  have h164 : ∀ n, n < 164 → cdW n ∈ tables_1 := lt_s h163 mc_163
  have h165 : ∀ n, n < 165 → cdW n ∈ tables_1 := lt_s h164 mc_164
  have h166 : ∀ n, n < 166 → cdW n ∈ tables_1 := lt_s h165 mc_165
  have h167 : ∀ n, n < 167 → cdW n ∈ tables_1 := lt_s h166 mc_166
  have h168 : ∀ n, n < 168 → cdW n ∈ tables_1 := lt_s h167 mc_167
  have h169 : ∀ n, n < 169 → cdW n ∈ tables_1 := lt_s h168 mc_168
  have h170 : ∀ n, n < 170 → cdW n ∈ tables_1 := lt_s h169 mc_169
  have h171 : ∀ n, n < 171 → cdW n ∈ tables_1 := lt_s h170 mc_170
  have h172 : ∀ n, n < 172 → cdW n ∈ tables_1 := lt_s h171 mc_171
  have h173 : ∀ n, n < 173 → cdW n ∈ tables_1 := lt_s h172 mc_172
  have h174 : ∀ n, n < 174 → cdW n ∈ tables_1 := lt_s h173 mc_173
  have h175 : ∀ n, n < 175 → cdW n ∈ tables_1 := lt_s h174 mc_174
  have h176 : ∀ n, n < 176 → cdW n ∈ tables_1 := lt_s h175 mc_175
  have h177 : ∀ n, n < 177 → cdW n ∈ tables_1 := lt_s h176 mc_176
  have h178 : ∀ n, n < 178 → cdW n ∈ tables_1 := lt_s h177 mc_177
  have h179 : ∀ n, n < 179 → cdW n ∈ tables_1 := lt_s h178 mc_178
  have h180 : ∀ n, n < 180 → cdW n ∈ tables_1 := lt_s h179 mc_179
  have h181 : ∀ n, n < 181 → cdW n ∈ tables_1 := lt_s h180 mc_180
  have h182 : ∀ n, n < 182 → cdW n ∈ tables_1 := lt_s h181 mc_181
  have h183 : ∀ n, n < 183 → cdW n ∈ tables_1 := lt_s h182 mc_182
  have h184 : ∀ n, n < 184 → cdW n ∈ tables_1 := lt_s h183 mc_183
  have h185 : ∀ n, n < 185 → cdW n ∈ tables_1 := lt_s h184 mc_184
  have h186 : ∀ n, n < 186 → cdW n ∈ tables_1 := lt_s h185 mc_185
  have h187 : ∀ n, n < 187 → cdW n ∈ tables_1 := lt_s h186 mc_186
  have h188 : ∀ n, n < 188 → cdW n ∈ tables_1 := lt_s h187 mc_187
  have h189 : ∀ n, n < 189 → cdW n ∈ tables_1 := lt_s h188 mc_188
  have h190 : ∀ n, n < 190 → cdW n ∈ tables_1 := lt_s h189 mc_189
  have h191 : ∀ n, n < 191 → cdW n ∈ tables_1 := lt_s h190 mc_190
  have h192 : ∀ n, n < 192 → cdW n ∈ tables_1 := lt_s h191 mc_191
  have h193 : ∀ n, n < 193 → cdW n ∈ tables_1 := lt_s h192 mc_192
  have h194 : ∀ n, n < 194 → cdW n ∈ tables_1 := lt_s h193 mc_193
  have h195 : ∀ n, n < 195 → cdW n ∈ tables_1 := lt_s h194 mc_194
  have h196 : ∀ n, n < 196 → cdW n ∈ tables_1 := lt_s h195 mc_195
  have h197 : ∀ n, n < 197 → cdW n ∈ tables_1 := lt_s h196 mc_196
  have h198 : ∀ n, n < 198 → cdW n ∈ tables_1 := lt_s h197 mc_197
  have h199 : ∀ n, n < 199 → cdW n ∈ tables_1 := lt_s h198 mc_198
  have h200 : ∀ n, n < 200 → cdW n ∈ tables_1 := lt_s h199 mc_199
  have h201 : ∀ n, n < 201 → cdW n ∈ tables_1 := lt_s h200 mc_200
  have h202 : ∀ n, n < 202 → cdW n ∈ tables_1 := lt_s h201 mc_201
  have h203 : ∀ n, n < 203 → cdW n ∈ tables_1 := lt_s h202 mc_202
  have h204 : ∀ n, n < 204 → cdW n ∈ tables_1 := lt_s h203 mc_203
  have h205 : ∀ n, n < 205 → cdW n ∈ tables_1 := lt_s h204 mc_204
  have h206 : ∀ n, n < 206 → cdW n ∈ tables_1 := lt_s h205 mc_205
  have h207 : ∀ n, n < 207 → cdW n ∈ tables_1 := lt_s h206 mc_206
  have h208 : ∀ n, n < 208 → cdW n ∈ tables_1 := lt_s h207 mc_207
  have h209 : ∀ n, n < 209 → cdW n ∈ tables_1 := lt_s h208 mc_208
  have h210 : ∀ n, n < 210 → cdW n ∈ tables_1 := lt_s h209 mc_209
  have h211 : ∀ n, n < 211 → cdW n ∈ tables_1 := lt_s h210 mc_210
  have h212 : ∀ n, n < 212 → cdW n ∈ tables_1 := lt_s h211 mc_211
  have h213 : ∀ n, n < 213 → cdW n ∈ tables_1 := lt_s h212 mc_212
  have h214 : ∀ n, n < 214 → cdW n ∈ tables_1 := lt_s h213 mc_213
  have h215 : ∀ n, n < 215 → cdW n ∈ tables_1 := lt_s h214 mc_214
  have h216 : ∀ n, n < 216 → cdW n ∈ tables_1 := lt_s h215 mc_215
  have h217 : ∀ n, n < 217 → cdW n ∈ tables_1 := lt_s h216 mc_216
  have h218 : ∀ n, n < 218 → cdW n ∈ tables_1 := lt_s h217 mc_217
  have h219 : ∀ n, n < 219 → cdW n ∈ tables_1 := lt_s h218 mc_218
  have h220 : ∀ n, n < 220 → cdW n ∈ tables_1 := lt_s h219 mc_219
  have h221 : ∀ n, n < 221 → cdW n ∈ tables_1 := lt_s h220 mc_220
  have h222 : ∀ n, n < 222 → cdW n ∈ tables_1 := lt_s h221 mc_221
  have h223 : ∀ n, n < 223 → cdW n ∈ tables_1 := lt_s h222 mc_222
  have h224 : ∀ n, n < 224 → cdW n ∈ tables_1 := lt_s h223 mc_223
  have h225 : ∀ n, n < 225 → cdW n ∈ tables_1 := lt_s h224 mc_224
  have h226 : ∀ n, n < 226 → cdW n ∈ tables_1 := lt_s h225 mc_225
  have h227 : ∀ n, n < 227 → cdW n ∈ tables_1 := lt_s h226 mc_226
  have h228 : ∀ n, n < 228 → cdW n ∈ tables_1 := lt_s h227 mc_227
  have h229 : ∀ n, n < 229 → cdW n ∈ tables_1 := lt_s h228 mc_228
  have h230 : ∀ n, n < 230 → cdW n ∈ tables_1 := lt_s h229 mc_229
  have h231 : ∀ n, n < 231 → cdW n ∈ tables_1 := lt_s h230 mc_230
  have h232 : ∀ n, n < 232 → cdW n ∈ tables_1 := lt_s h231 mc_231
  have h233 : ∀ n, n < 233 → cdW n ∈ tables_1 := lt_s h232 mc_232
  have h234 : ∀ n, n < 234 → cdW n ∈ tables_1 := lt_s h233 mc_233
  have h235 : ∀ n, n < 235 → cdW n ∈ tables_1 := lt_s h234 mc_234
  have h236 : ∀ n, n < 236 → cdW n ∈ tables_1 := lt_s h235 mc_235
  have h237 : ∀ n, n < 237 → cdW n ∈ tables_1 := lt_s h236 mc_236
  have h238 : ∀ n, n < 238 → cdW n ∈ tables_1 := lt_s h237 mc_237
  have h239 : ∀ n, n < 239 → cdW n ∈ tables_1 := lt_s h238 mc_238
  have h240 : ∀ n, n < 240 → cdW n ∈ tables_1 := lt_s h239 mc_239
  have h241 : ∀ n, n < 241 → cdW n ∈ tables_1 := lt_s h240 mc_240
  have h242 : ∀ n, n < 242 → cdW n ∈ tables_1 := lt_s h241 mc_241
  have h243 : ∀ n, n < 243 → cdW n ∈ tables_1 := lt_s h242 mc_242
  have h244 : ∀ n, n < 244 → cdW n ∈ tables_1 := lt_s h243 mc_243
  have h245 : ∀ n, n < 245 → cdW n ∈ tables_1 := lt_s h244 mc_244
  have h246 : ∀ n, n < 246 → cdW n ∈ tables_1 := lt_s h245 mc_245
  have h247 : ∀ n, n < 247 → cdW n ∈ tables_1 := lt_s h246 mc_246
  have h248 : ∀ n, n < 248 → cdW n ∈ tables_1 := lt_s h247 mc_247
  have h249 : ∀ n, n < 249 → cdW n ∈ tables_1 := lt_s h248 mc_248
  have h250 : ∀ n, n < 250 → cdW n ∈ tables_1 := lt_s h249 mc_249
  have h251 : ∀ n, n < 251 → cdW n ∈ tables_1 := lt_s h250 mc_250
  have h252 : ∀ n, n < 252 → cdW n ∈ tables_1 := lt_s h251 mc_251
  have h253 : ∀ n, n < 253 → cdW n ∈ tables_1 := lt_s h252 mc_252
  have h254 : ∀ n, n < 254 → cdW n ∈ tables_1 := lt_s h253 mc_253
  have h255 : ∀ n, n < 255 → cdW n ∈ tables_1 := lt_s h254 mc_254
  have h256 : ∀ n, n < 256 → cdW n ∈ tables_1 := lt_s h255 mc_255
  have h257 : ∀ n, n < 257 → cdW n ∈ tables_1 := lt_s h256 mc_256
  have h258 : ∀ n, n < 258 → cdW n ∈ tables_1 := lt_s h257 mc_257
  have h259 : ∀ n, n < 259 → cdW n ∈ tables_1 := lt_s h258 mc_258
  have h260 : ∀ n, n < 260 → cdW n ∈ tables_1 := lt_s h259 mc_259
  have h261 : ∀ n, n < 261 → cdW n ∈ tables_1 := lt_s h260 mc_260
  have h262 : ∀ n, n < 262 → cdW n ∈ tables_1 := lt_s h261 mc_261
  have h263 : ∀ n, n < 263 → cdW n ∈ tables_1 := lt_s h262 mc_262
  have h264 : ∀ n, n < 264 → cdW n ∈ tables_1 := lt_s h263 mc_263
  exact h264
