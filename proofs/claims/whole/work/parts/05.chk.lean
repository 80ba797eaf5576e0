/-! the checks of the tables -/
theorem am_gwI {ws : List Jvm.Cond} (ps : List Nat) (h1 : ws = ps.filterMap (fun i => lw_tbl[i]?)) (h2 : ws.all goodWord = true) : ∀ w ∈ ws, w ∈ am_gw := by
  intro w hw
  have h3 := List.all_eq_true.mp h2 w hw
  rw [h1] at hw
  obtain ⟨i, -, hi⟩ := List.mem_filterMap.mp hw
  exact List.mem_filter.mpr ⟨List.mem_of_getElem? hi, h3⟩
theorem am_nwI {ws : List Jvm.Cond} (ps : List Nat) (h1 : ws = ps.filterMap (fun i => lw_tbl[i]?)) (h2 : ws.all am_isN = true) : ∀ w ∈ ws, w ∈ am_nw := by
  intro w hw
  have h3 := List.all_eq_true.mp h2 w hw
  rw [h1] at hw
  obtain ⟨i, -, hi⟩ := List.mem_filterMap.mp hw
  exact List.mem_filter.mpr ⟨List.mem_of_getElem? hi, h3⟩
set_option maxRecDepth 100000
theorem am_u0 : ∀ w ∈ u_ws (am_cn 0) (am_Tt 0) (am_Nt 0), w ∈ am_gw := am_gwI [416, 418, 420, 422, 424, 426, 428, 430, 432, 434, 436, 438, 440, 442, 444] (by decide +kernel) (by decide +kernel)
theorem am_u1 : ∀ w ∈ u_ws (am_cn 1) (am_Tt 1) (am_Nt 1), w ∈ am_gw := am_gwI [134, 136, 138, 140, 142, 144, 146, 148, 150, 152, 154] (by decide +kernel) (by decide +kernel)
theorem am_u2 : ∀ w ∈ u_ws (am_cn 2) (am_Tt 2) (am_Nt 2), w ∈ am_gw := am_gwI [189, 191, 193, 195, 197, 199, 201, 203, 205, 207, 209, 211] (by decide +kernel) (by decide +kernel)
theorem am_u3 : ∀ w ∈ u_ws (am_cn 3) (am_Tt 3) (am_Nt 3), w ∈ am_gw := am_gwI [221] (by decide +kernel) (by decide +kernel)
theorem am_u4 : ∀ w ∈ u_ws (am_cn 4) (am_Tt 4) (am_Nt 4), w ∈ am_gw := am_gwI [262, 264, 266, 268] (by decide +kernel) (by decide +kernel)
theorem am_u5 : ∀ w ∈ u_ws (am_cn 5) (am_Tt 5) (am_Nt 5), w ∈ am_gw := am_gwI [247, 249, 251, 253] (by decide +kernel) (by decide +kernel)
theorem am_u6 : ∀ w ∈ u_ws (am_cn 6) (am_Tt 6) (am_Nt 6), w ∈ am_gw := am_gwI [284, 286, 288] (by decide +kernel) (by decide +kernel)
theorem am_u7 : ∀ w ∈ u_ws (am_cn 7) (am_Tt 7) (am_Nt 7), w ∈ am_gw := am_gwI [313, 315, 317, 319, 321, 323, 325, 327, 329, 331, 333, 335, 337, 339] (by decide +kernel) (by decide +kernel)
theorem am_u8 : ∀ w ∈ u_ws (am_cn 8) (am_Tt 8) (am_Nt 8), w ∈ am_gw := am_gwI [351, 353] (by decide +kernel) (by decide +kernel)
theorem am_u9 : ∀ w ∈ u_ws (am_cn 9) (am_Tt 9) (am_Nt 9), w ∈ am_gw := am_gwI [372, 374, 376, 378, 380] (by decide +kernel) (by decide +kernel)
theorem am_u10 : ∀ w ∈ u_ws (am_cn 10) (am_Tt 10) (am_Nt 10), w ∈ am_gw := am_gwI [396, 398] (by decide +kernel) (by decide +kernel)
theorem am_u11 : ∀ w ∈ u_ws (am_cn 11) (am_Tt 11) (am_Nt 11), w ∈ am_gw := am_gwI [1168, 1170, 1172, 1174, 1176, 1178, 1180, 1182, 1184, 1186, 1188, 1190, 1192, 1194, 1196, 1198, 1200, 1202, 1204, 1206, 1208, 1210, 1212, 1214, 1216, 1218, 1220, 1222, 1224, 1226, 1228, 1230, 1232, 1234, 1236, 1238, 1240, 1242, 1244, 1246, 1248, 1250, 1252, 1254, 1256, 1258, 1260, 1262, 1264] (by decide +kernel) (by decide +kernel)
theorem am_u_in : ∀ a, a < 12 → ∀ w ∈ u_ws (am_cn a) (am_Tt a) (am_Nt a), w ∈ am_gw
  | 0, _ => am_u0
  | 1, _ => am_u1
  | 2, _ => am_u2
  | 3, _ => am_u3
  | 4, _ => am_u4
  | 5, _ => am_u5
  | 6, _ => am_u6
  | 7, _ => am_u7
  | 8, _ => am_u8
  | 9, _ => am_u9
  | 10, _ => am_u10
  | 11, _ => am_u11
  | n + 12, h => absurd h (by omega)
theorem am_cls_at : ∀ a, a < 12 → am_cls[a]? = some (am_cn a, am_Tt a, am_Nt a)
  | 0, _ => rfl
  | 1, _ => rfl
  | 2, _ => rfl
  | 3, _ => rfl
  | 4, _ => rfl
  | 5, _ => rfl
  | 6, _ => rfl
  | 7, _ => rfl
  | 8, _ => rfl
  | 9, _ => rfl
  | 10, _ => rfl
  | 11, _ => rfl
  | n + 12, h => absurd h (by omega)
theorem am_parse : ∀ a, a < 12 → ∀ k, k < am_Nt a → parseFieldDescriptor (am_Tt a k).2.2.1 = some (am_Yt a k) := by decide +kernel
theorem am_nm : ∀ a, a < 12 → ∀ x, x < am_Nt a → ∀ y, y < am_Nt a → x ≠ y → (am_Tt a x).2.1 ≠ (am_Tt a y).2.1 := by decide +kernel
theorem am_Tc : ∀ a, a < 12 → ∀ k, k < am_Nt a → (am_Tt a k).1 = am_cn a := by decide +kernel
def am_tyok (c : Nat) (t : FieldType) : Bool := match c, t with
  | 0, .int => true
  | 1, .boolean => true
  | 2, .long => true
  | 3, .object _ => true
  | 3, .array _ => true
  | _, _ => false
theorem am_ft_ok : ∀ a, a < 12 → ∀ k, k < am_Nt a → am_tyok (am_ft a k) (am_Yt a k) = true := by decide +kernel
theorem am_lf_ok : ∀ w ∈ am_lf.map (fun q => Jvm.Cond.fieldLink (am_cn q.1) q.2.1 (am_Tt q.2.2.1 q.2.2.2).1 (am_Tt q.2.2.1 q.2.2.2).2.1 (am_Tt q.2.2.1 q.2.2.2).2.2.1), w ∈ am_gw := am_gwI [401, 402, 403, 404, 405, 406, 407, 408, 409, 410, 411, 412, 413, 394, 392, 415, 170, 281, 414, 175, 257, 240, 165, 246, 259, 238, 243, 167, 298, 349, 363, 365, 367, 369, 371, 179, 181, 183, 300, 1122, 1123, 1119, 1121, 1124, 1125, 1129, 1139, 1140, 1141, 1147, 1152, 1153, 1154, 1155, 1156, 1157, 1158, 1159, 1160, 1162, 1163, 1142, 1144, 1127, 1126, 1128, 1130, 1131, 1132, 1133, 1135, 1136, 1137, 1134, 1138, 1161, 1143, 1145, 1146, 1148, 1149, 1150, 1151, 1120, 1164, 1165, 1166, 1167, 350, 173, 348, 220, 171, 185, 299, 305, 306, 307, 308, 309, 310, 311, 312, 301, 304, 174, 302, 303, 169, 177, 297, 125, 127, 129, 131, 132, 116, 118, 120, 122, 124, 133, 256, 260, 261, 258, 237, 245, 242, 282, 283, 280, 241, 236, 239, 244, 395, 393, 391, 366, 370, 362, 368, 364, 178, 180, 182, 184, 115, 186, 117, 164, 119, 166, 121, 168, 123, 172, 187, 188, 176, 126, 128, 130] (by decide +kernel) (by decide +kernel)
theorem am_lc_ok : ∀ w ∈ am_lc.map (fun q => Jvm.Cond.classLink (am_cn q.1) q.2.1 (am_cn q.2.2)), w ∈ am_gw := am_gwI [107, 109, 158, 214, 224, 271, 274, 291, 342, 356, 230, 99, 1109] (by decide +kernel) (by decide +kernel)
def am_yy (v : Nat) : MethodName := bif Nat.beq v 1000 then ⟨"java/lang/Math", "max", "(II)I"⟩ else bif Nat.beq v 1001 then ⟨"java/lang/Math", "min", "(II)I"⟩ else bif Nat.beq v 1002 then ⟨"java/lang/System", "arraycopy", "(Ljava/lang/Object;ILjava/lang/Object;II)V"⟩ else bif Nat.beq v 1003 then ⟨"java/lang/Object", "<init>", "()V"⟩ else am_y v
theorem am_lm_ok : ∀ w ∈ am_lm.map (fun q => Jvm.Cond.methodLink (am_cn q.1) q.2.1 (am_yy q.2.2)), w ∈ am_gw := am_gwI [104, 384, 451, 455, 476, 484, 488, 492, 480, 458, 508, 512, 519, 536, 587, 624, 634, 654, 658, 662, 670, 674, 686, 687, 701, 709, 717, 681, 678, 730, 741, 765, 774, 778, 779, 795, 800, 854, 859, 869, 873, 881, 893, 897, 905, 910, 918, 923, 928, 939, 713, 948, 960, 965, 977, 985, 997, 1009, 1014, 1042, 1043, 1069, 1073, 1089, 1090, 1094, 1099, 1104, 462, 628, 952, 1114, 1115, 1276, 1283, 1287, 1272, 1279, 1294, 1298, 1322, 1346, 1342, 1350, 1358, 1361, 1338, 1354, 1334, 1369, 1414, 1422, 1410, 1418, 1406, 1437, 1377, 1381, 1385, 1393, 1398, 1426, 1429, 1445, 1449, 1469, 1465, 1477, 1493, 1522, 1526, 1514, 1518, 1530, 1534, 1538, 1542, 1546, 1554, 1610, 1606, 1602, 1622, 1626, 1667, 1668, 347, 1018, 1019, 1021, 1024, 1028, 1029, 1031, 1035, 1036, 219, 633, 296, 830, 827, 838, 804, 805, 834, 846, 810, 812, 833, 839, 843, 850, 816, 826, 824, 820, 825, 956, 863, 864, 877, 943, 969, 114, 540, 557, 565, 552, 548, 544, 553, 561, 569, 573, 576, 229, 638, 642, 646, 745, 769, 279, 1001, 235, 734, 735, 736, 749, 783, 784, 786, 1047, 1050, 387, 388, 466, 469, 523, 361, 885, 888, 163, 591, 599, 595, 620, 611, 603, 607, 615, 691, 909, 922, 101, 1111, 447, 1268, 472, 1290, 496, 1302, 500, 1306, 504, 1310, 515, 1314, 524, 1318, 528, 1326, 532, 1330, 583, 1365, 650, 1373, 666, 1389, 682, 1402, 697, 1433, 705, 1441, 718, 1453, 722, 1457, 726, 1461, 737, 1473, 753, 1481, 757, 1485, 761, 1489, 770, 1497, 787, 1501, 791, 1506, 796, 1510, 865, 1550, 889, 1558, 901, 1562, 914, 1566, 924, 1570, 935, 1574, 944, 1578, 961, 1582, 973, 1586, 981, 1590, 989, 1594, 993, 1598, 1005, 1614, 1010, 1618, 1037, 1630, 1053, 1638, 1057, 1642, 1061, 1646, 1065, 1650, 1076, 1654, 1080, 1658, 1084, 1662] (by decide +kernel) (by decide +kernel)
theorem am_ln_ok : ∀ w ∈ am_ln.map (fun q => Jvm.Cond.methodLinkNest (am_cn q.1) q.2.1 (am_y q.2.2) "OwnLight"), w ∈ am_nw := am_nwI [111, 160, 216, 226, 272, 276, 293, 344, 358, 1020, 632, 811, 932, 580, 232, 1098, 1103, 785, 1108, 619] (by decide +kernel) (by decide +kernel)
theorem am_lk_ok : ∀ w ∈ am_lk.map (fun q => Jvm.Cond.constant (am_cn q.1) q.2.1 q.2.2), w ∈ am_gw := am_gwI [858, 1041, 1030, 809, 694, 695, 696] (by decide +kernel) (by decide +kernel)
theorem am_lk2_ok : ∀ w ∈ am_lk2.map (fun q => Jvm.Cond.constantLong (am_cn q.1) q.2.1 q.2.2), w ∈ am_gw := am_gwI [1088, 1093, 1275, 1325, 1397, 1505, 1634, 1635, 1636, 1637, 1672, 1666, 1673, 1048, 1049] (by decide +kernel) (by decide +kernel)
theorem am_wi : ∀ w ∈ am_ids_i.map (fun m => Jvm.Cond.instanceMethod (am_y m)), w ∈ am_gw := am_gwI [102, 448, 473, 497, 501, 505, 516, 525, 529, 533, 584, 651, 667, 683, 698, 706, 719, 723, 727, 738, 754, 758, 762, 771, 788, 792, 797, 866, 890, 902, 915, 925, 936, 945, 962, 974, 982, 990, 994, 1006, 1011, 1038, 1054, 1058, 1062, 1066, 1077, 1081, 1085, 453, 482, 478, 656, 672, 711, 676, 626, 950, 1285, 1300, 1112, 1281, 1269, 1296, 1291, 1303, 1307, 1311, 1315, 1319, 1327, 1344, 1348, 1352, 1340, 1363, 1356, 1336, 1331, 1366, 1416, 1412, 1424, 1420, 1408, 1439, 1451, 1379, 1395, 1447, 1387, 1383, 1374, 1400, 1390, 1403, 1431, 1434, 1442, 1454, 1371, 1117, 1495, 1458, 1471, 1479, 1467, 1462, 1474, 1482, 1486, 1490, 1498, 1502, 1507, 1528, 1520, 1524, 1532, 1556, 1516, 1536, 1544, 1548, 1540, 1511, 1551, 1559, 1563, 1567, 1571, 1575, 1579, 1583, 1587, 1591, 1595, 1612, 1608, 1604, 1599, 1615, 1624, 1619, 1628, 1631, 1639, 1643, 1647, 1651, 1655, 1659, 1670, 1663, 345, 1015, 1026, 1033, 217, 629, 702, 294, 841, 801, 807, 836, 848, 852, 814, 818, 822, 953, 958, 855, 860, 870, 1002, 874, 879, 898, 894, 929, 940, 966, 971, 112, 537, 550, 546, 555, 542, 559, 563, 567, 571, 578, 227, 635, 643, 742, 766, 1095, 277, 986, 998, 1100, 233, 639, 647, 731, 746, 780, 1044, 385, 463, 485, 489, 509, 520, 775, 1105, 359, 493, 459, 882, 161, 588, 714, 600, 663, 659, 596, 1070, 621, 750, 612, 617, 609, 605, 593, 688, 911, 906, 919, 978] (by decide +kernel) (by decide +kernel)
theorem am_wst : ∀ w ∈ am_ids_s.map (fun m => Jvm.Cond.static (am_y m)), w ∈ am_gw := am_gwI [1091, 581, 679, 933, 456, 1074, 1277, 1427, 1288, 1273, 1323, 1359, 1022, 831, 828, 844, 574, 1051, 886, 692, 470] (by decide +kernel) (by decide +kernel)
theorem am_wv : ∀ w ∈ am_ids_v.map (fun m => Jvm.Cond.selects (am_y m).cls (am_y m) (am_y m)), w ∈ am_gw := am_gwI [449, 474, 498, 502, 506, 517, 526, 530, 534, 585, 652, 668, 684, 699, 707, 720, 724, 728, 739, 755, 759, 763, 772, 789, 793, 798, 867, 891, 903, 916, 926, 937, 946, 963, 975, 983, 991, 995, 1007, 1012, 1039, 1055, 1059, 1063, 1067, 1078, 1082, 1086, 0, 2, 1, 17, 18, 20, 19, 16, 30, 37, 39, 36, 1270, 38, 1292, 1304, 1308, 1312, 1316, 1320, 1328, 42, 43, 44, 41, 46, 45, 40, 1332, 1367, 55, 54, 57, 56, 53, 59, 61, 48, 51, 60, 50, 49, 1375, 52, 1391, 1404, 58, 1435, 1443, 1455, 47, 35, 65, 1459, 63, 64, 62, 1463, 1475, 1483, 1487, 1491, 1499, 1503, 1508, 69, 67, 68, 70, 75, 66, 71, 73, 74, 72, 1512, 1552, 1560, 1564, 1568, 1572, 1576, 1580, 1584, 1588, 1592, 1596, 78, 77, 76, 1600, 1616, 79, 1620, 80, 1632, 1640, 1644, 1648, 1652, 1656, 1660, 81, 1664, 1016, 33, 34, 630, 703, 26, 802, 21, 25, 27, 28, 22, 23, 24, 954, 31, 856, 861, 871, 1003, 875, 29, 899, 895, 930, 941, 967, 32, 538, 5, 4, 6, 3, 7, 8, 9, 10, 11, 636, 644, 743, 767, 1096, 987, 999, 1101, 640, 648, 732, 747, 781, 1045, 464, 486, 490, 510, 521, 776, 1106, 494, 460, 883, 589, 715, 601, 664, 660, 597, 1071, 622, 751, 613, 15, 14, 13, 12, 689, 912, 907, 920, 979] (by decide +kernel) (by decide +kernel)
theorem am_wini : ∀ w ∈ (List.range 15).map (fun c => Jvm.Cond.initialized (am_cn c)), w ∈ am_gw := am_gwI [83, 84, 85, 86, 87, 88, 89, 90, 91, 92, 93, 95, 82, 98, 96] (by decide +kernel) (by decide +kernel)
theorem am_winst : ∀ w ∈ (List.range 12).map (fun c => Jvm.Cond.instantiable (am_cn c) (am_Nt c)), w ∈ am_gw := am_gwI [100, 110, 159, 215, 225, 231, 275, 292, 343, 357, 383, 1110] (by decide +kernel) (by decide +kernel)
theorem am_warr : ∀ w ∈ [Jvm.Cond.arrayClass Jvm.ClassFile.FieldType.int, Jvm.Cond.arrayClass Jvm.ClassFile.FieldType.boolean], w ∈ am_gw := am_gwI [157, 1267] (by decide +kernel) (by decide +kernel)
theorem am_wodd : ∀ w ∈ [Jvm.Cond.static ⟨"java/lang/Math", "max", "(II)I"⟩, Jvm.Cond.static ⟨"java/lang/Math", "min", "(II)I"⟩, Jvm.Cond.static (am_yy 1002), Jvm.Cond.native (am_yy 1002), Jvm.Cond.initialized "java/lang/Math", Jvm.Cond.initialized "java/lang/System", Jvm.Cond.instanceMethod objectInit, Jvm.Cond.code objectInit ⟨#[0xb1]⟩ 1 none, Jvm.Cond.code Lib.Math.max.name Lib.Math.max.code 2 (some .int), Jvm.Cond.code Lib.Math.min.name Lib.Math.min.code 2 (some .int)], w ∈ am_gw := am_gwI [389, 467, 513, 514, 94, 97, 105, 106, 390, 468] (by decide +kernel) (by decide +kernel)
theorem am_own : ∀ m, m < 267 → (am_y m).cls = am_cn (am_ow m) ∧ plainName (am_y m).cls = true ∧ am_ow m < 15 ∧ ((am_y m).cls ≠ "java/lang/invoke/MethodHandle" ∧ (am_y m).cls ≠ "java/lang/invoke/VarHandle") := by decide +kernel
def am_chk1 (m pc : Nat) : Bool := match am_code m pc with
  | some e => am_chk m pc e
  | none => true
theorem am_none {n pc : Nat} {t : Option am_E} (h : n + 1 ≤ pc) : (bif Nat.ble pc n then t else none) = none := by
  have e : Nat.ble pc n = false := by
    cases hb : Nat.ble pc n with
    | false => rfl
    | true => exact absurd (Nat.le_of_ble_eq_true hb) (by omega)
  rw [e]; rfl
theorem am_okI {m n : Nat} (h : (List.range (n + 1)).all (am_chk1 m) = true) (h2 : ∀ pc, n + 1 ≤ pc → am_code m pc = none) : am_okM m := by
  intro pc e he
  by_cases hp : pc < n + 1
  · have h3 := List.all_eq_true.mp h pc (List.mem_range.mpr hp)
    unfold am_chk1 at h3
    rw [he] at h3
    exact h3
  · rw [h2 pc (by omega)] at he
    cases he
