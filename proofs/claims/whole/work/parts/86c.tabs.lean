/-! The words of GT are words of the tables -/
theorem inIdx {L T : List Cond} (is : List Nat) (h : is.map (fun i => T[i]?) = L.map some) : ∀ w ∈ L, w ∈ T := by
  intro w hw
  obtain ⟨k, hk, e⟩ := List.mem_iff_getElem.mp hw
  have h1 : (L.map some)[k]? = some (some w) := by rw [List.getElem?_map, List.getElem?_eq_getElem hk, e]; rfl
  rw [← h, List.getElem?_map] at h1
  cases hi : is[k]? with
  | none => rw [hi] at h1; cases h1
  | some i => rw [hi] at h1; exact List.mem_of_getElem? (Option.some.inj h1)
set_option maxRecDepth 100000 in
theorem tb_TB : ∀ w ∈ w_TB, w ∈ lw_tbl := inIdx [438, 440, 442, 444, 446, 448] rfl
set_option maxRecDepth 100000 in
theorem tb_Comparison : ∀ w ∈ w_Comparison, w ∈ lw_tbl := inIdx [351, 353, 355, 357, 359, 361, 363, 365, 367] rfl
set_option maxRecDepth 100000 in
theorem tb_GapFinder : ∀ w ∈ w_GapFinder, w ∈ lw_tbl := inIdx [665, 667, 669, 671, 673, 675, 677, 679, 681] rfl
set_option maxRecDepth 100000 in
theorem tb_LetterSet : ∀ w ∈ w_LetterSet, w ∈ lw_tbl := inIdx [135, 137, 139, 141, 143, 145] rfl
set_option maxRecDepth 100000 in
theorem tb_Machine : ∀ w ∈ w_Machine, w ∈ lw_tbl := inIdx [308, 310, 312, 314] rfl
set_option maxRecDepth 100000 in
theorem tb_MachineBuilder : ∀ w ∈ w_MachineBuilder, w ∈ lw_tbl := inIdx [205, 207, 209, 211, 213, 215, 217, 219, 221] rfl
set_option maxRecDepth 100000 in
theorem tb_Mode : ∀ w ∈ w_Mode, w ∈ lw_tbl := inIdx [235, 237, 239, 241, 243, 245] rfl
set_option maxRecDepth 100000 in
theorem tb_Piece : ∀ w ∈ w_Piece, w ∈ lw_tbl := inIdx [115, 117, 119] rfl
set_option maxRecDepth 100000 in
theorem tb_RuleBook : ∀ w ∈ w_RuleBook, w ∈ lw_tbl := inIdx [323, 325, 327, 329, 331, 333] rfl
set_option maxRecDepth 100000 in
theorem tb_RuleText : ∀ w ∈ w_RuleText, w ∈ lw_tbl := inIdx [159, 161, 163, 165, 167, 169, 171, 173, 175, 177] rfl
set_option maxRecDepth 100000 in
theorem tb_Stream : ∀ w ∈ w_Stream, w ∈ lw_tbl := inIdx [405, 407, 409, 411, 413, 415, 417, 419, 421, 423, 425, 427, 429] rfl
set_option maxRecDepth 100000 in
theorem tb_TokenQueue : ∀ w ∈ w_TokenQueue, w ∈ lw_tbl := inIdx [385, 387, 389] rfl
set_option maxRecDepth 100000 in
theorem tb_M : ∀ w ∈ w_M, w ∈ lw_tbl := inIdx [1055, 1057, 1059, 1061, 1063, 1065, 1067, 1069, 1071, 1073, 1075, 1077, 1079, 1081, 1083, 1085, 1087, 1089, 1091, 1093, 1095, 1097, 1099, 1101, 1103, 1105, 1107, 1109, 1111, 1113, 1115, 1117, 1119, 1121, 1123, 1125, 1127, 1129, 1131, 1133, 1135, 1137, 1139, 1141, 1143, 1145, 1147, 1149, 1151, 1153, 1155, 1157, 1159, 1161, 1163, 1165] rfl
set_option maxRecDepth 100000 in
theorem tbL0 : ∀ w ∈ GL0, w ∈ lw_tbl := inIdx [68, 69, 70, 71, 72, 73, 74, 75, 76, 77, 78, 79, 80, 81, 82, 83, 84, 90, 91, 92, 93, 94, 95, 96, 97, 98, 99, 101, 102, 103, 104, 105, 106, 107, 108, 109, 110, 112, 114, 122] rfl
set_option maxRecDepth 100000 in
theorem tbL1 : ∀ w ∈ GL1, w ∈ lw_tbl := inIdx [123, 124, 126, 127, 128, 129, 130, 131, 132, 133, 134, 149, 150, 151, 152, 153, 154, 155, 156, 157, 158, 180, 181, 182, 183, 184, 185, 186, 188, 190, 191, 193, 194, 195, 196, 197, 198, 199, 200, 201] rfl
set_option maxRecDepth 100000 in
theorem tbL2 : ∀ w ∈ GL2, w ∈ lw_tbl := inIdx [202, 203, 204, 224, 226, 227, 228, 229, 230, 231, 232, 233, 234, 248, 249, 250, 251, 252, 254, 255, 256, 257, 258, 259, 261, 262, 263, 264, 265, 266, 268, 269, 270, 271, 272, 273, 274, 275, 276, 277] rfl
set_option maxRecDepth 100000 in
theorem tbL3 : ∀ w ∈ GL3, w ∈ lw_tbl := inIdx [278, 280, 281, 282, 284, 285, 286, 288, 289, 290, 292, 293, 294, 296, 297, 298, 299, 300, 301, 302, 303, 304, 305, 306, 307, 317, 318, 319, 320, 321, 322, 336, 337, 339, 340, 341, 342, 343, 344, 345] rfl
set_option maxRecDepth 100000 in
theorem tbL4 : ∀ w ∈ GL4, w ∈ lw_tbl := inIdx [346, 347, 348, 349, 350, 370, 371, 373, 374, 375, 376, 377, 379, 380, 381, 382, 383, 384, 392, 393, 394, 395, 396, 397, 398, 399, 400, 401, 402, 403, 404, 432, 433, 434, 435, 436, 437, 451, 452, 453] rfl
set_option maxRecDepth 100000 in
theorem tbL5 : ∀ w ∈ GL5, w ∈ lw_tbl := inIdx [454, 455, 456, 457, 458, 459, 460, 461, 462, 463, 464, 465, 466, 467, 469, 470, 471, 472, 473, 474, 475, 477, 478, 479, 480, 481, 482, 483, 484, 485, 486, 487, 488, 489, 490, 491, 492, 493, 494, 495] rfl
set_option maxRecDepth 100000 in
theorem tbL6 : ∀ w ∈ GL6, w ∈ lw_tbl := inIdx [496, 498, 499, 500, 502, 503, 504, 506, 507, 508, 509, 510, 511, 512, 513, 514, 515, 516, 517, 518, 519, 520, 521, 523, 524, 525, 526, 527, 528, 529, 531, 532, 533, 535, 536, 537, 539, 540, 541, 542] rfl
set_option maxRecDepth 100000 in
theorem tbL7 : ∀ w ∈ GL7, w ∈ lw_tbl := inIdx [543, 544, 545, 547, 548, 549, 550, 551, 552, 553, 555, 556, 557, 558, 559, 560, 561, 562, 563, 564, 566, 567, 568, 569, 570, 571, 572, 573, 574, 575, 576, 577, 578, 579, 580, 581, 582, 583, 584, 585] rfl
set_option maxRecDepth 100000 in
theorem tbL8 : ∀ w ∈ GL8, w ∈ lw_tbl := inIdx [586, 587, 588, 589, 590, 591, 592, 593, 594, 595, 596, 597, 598, 599, 600, 601, 602, 603, 604, 605, 606, 607, 608, 609, 610, 611, 612, 613, 614, 615, 616, 617, 618, 619, 620, 621, 622, 623, 624, 625] rfl
set_option maxRecDepth 100000 in
theorem tbL9 : ∀ w ∈ GL9, w ∈ lw_tbl := inIdx [626, 627, 628, 629, 631, 632, 633, 634, 635, 636, 637, 638, 639, 640, 641, 642, 643, 644, 645, 646, 647, 648, 649, 650, 651, 652, 653, 654, 655, 656, 657, 658, 659, 660, 661, 662, 663, 664, 684, 685] rfl
set_option maxRecDepth 100000 in
theorem tbL10 : ∀ w ∈ GL10, w ∈ lw_tbl := inIdx [686, 687, 688, 689, 690, 691, 692, 693, 694, 696, 697, 698, 699, 701, 702, 703, 705, 706, 707, 709, 710, 711, 712, 713, 714, 715, 716, 717, 718, 719, 720, 721, 722, 723, 724, 725, 726, 727, 728, 729] rfl
set_option maxRecDepth 100000 in
theorem tbL11 : ∀ w ∈ GL11, w ∈ lw_tbl := inIdx [730, 731, 732, 733, 734, 736, 737, 738, 739, 740, 741, 742, 743, 744, 745, 746, 747, 748, 749, 750, 751, 752, 754, 755, 756, 758, 759, 760, 762, 763, 764, 766, 767, 768, 769, 770, 772, 773, 774, 775] rfl
set_option maxRecDepth 100000 in
theorem tbL12 : ∀ w ∈ GL12, w ∈ lw_tbl := inIdx [776, 777, 778, 779, 780, 781, 782, 783, 784, 785, 786, 787, 788, 789, 790, 791, 792, 793, 794, 795, 796, 797, 798, 799, 801, 802, 803, 804, 805, 806, 807, 808, 809, 810, 811, 812, 813, 814, 815, 817] rfl
set_option maxRecDepth 100000 in
theorem tbL13 : ∀ w ∈ GL13, w ∈ lw_tbl := inIdx [818, 819, 820, 822, 823, 824, 826, 827, 828, 829, 830, 831, 832, 833, 834, 835, 837, 838, 839, 840, 841, 842, 843, 844, 845, 846, 847, 848, 849, 850, 851, 853, 854, 855, 857, 858, 859, 861, 862, 863] rfl
set_option maxRecDepth 100000 in
theorem tbL14 : ∀ w ∈ GL14, w ∈ lw_tbl := inIdx [864, 865, 866, 867, 868, 869, 870, 871, 872, 873, 874, 875, 876, 877, 878, 879, 880, 881, 882, 883, 884, 885, 886, 887, 888, 889, 890, 891, 897, 898, 899, 900, 978, 979, 980, 981, 985, 986, 987, 988] rfl
set_option maxRecDepth 100000 in
theorem tbL15 : ∀ w ∈ GL15, w ∈ lw_tbl := inIdx [989, 990, 991, 992, 993, 994, 995, 996, 997, 998, 999, 1000, 1001, 1002, 1003, 1004, 1005, 1006, 1007, 1008, 1009, 1010, 1011, 1012, 1013, 1014, 1015, 1016, 1017, 1018, 1019, 1020, 1021, 1022, 1023, 1024, 1025, 1026, 1027, 1028] rfl
set_option maxRecDepth 100000 in
theorem tbL16 : ∀ w ∈ GL16, w ∈ lw_tbl := inIdx [1029, 1030, 1031, 1032, 1033, 1034, 1035, 1036, 1037, 1038, 1039, 1040, 1041, 1042, 1043, 1044, 1045, 1046, 1047, 1048, 1049, 1050, 1051, 1052, 1053, 1054, 1168, 1169, 1170, 1171, 1172, 1173, 1174, 1175, 1176, 1177, 1178, 1179, 1180, 1181] rfl
set_option maxRecDepth 100000 in
theorem tbL17 : ∀ w ∈ GL17, w ∈ lw_tbl := inIdx [1183, 1184, 1185, 1187, 1188, 1189, 1191, 1192, 1193, 1195, 1196, 1197, 1199, 1200, 1201, 1202, 1203, 1204, 1206, 1207, 1208, 1210, 1211, 1212, 1214, 1215, 1216, 1218, 1219, 1220, 1222, 1223, 1224, 1226, 1227, 1228, 1230, 1231, 1232, 1233] rfl
set_option maxRecDepth 100000 in
theorem tbL18 : ∀ w ∈ GL18, w ∈ lw_tbl := inIdx [1234, 1235, 1236, 1238, 1239, 1240, 1241, 1242, 1243, 1245, 1246, 1247, 1249, 1250, 1251, 1253, 1254, 1255, 1257, 1258, 1259, 1261, 1262, 1263, 1265, 1266, 1267, 1269, 1270, 1271, 1273, 1274, 1275, 1277, 1278, 1279, 1281, 1282, 1283, 1284] rfl
set_option maxRecDepth 100000 in
theorem tbL19 : ∀ w ∈ GL19, w ∈ lw_tbl := inIdx [1285, 1286, 1287, 1288, 1289, 1290, 1291, 1292, 1293, 1294, 1295, 1296, 1297, 1298, 1299, 1300, 1301, 1302, 1303, 1305, 1306, 1307, 1308, 1309, 1310, 1311, 1312, 1313, 1315, 1316, 1317, 1319, 1320, 1321, 1322, 1323, 1324, 1325, 1326, 1327] rfl
set_option maxRecDepth 100000 in
theorem tbL20 : ∀ w ∈ GL20, w ∈ lw_tbl := inIdx [1328, 1329, 1330, 1331, 1332, 1333, 1334, 1336, 1337, 1338, 1340, 1341, 1342, 1344, 1345, 1346, 1348, 1349, 1350, 1351, 1352, 1353, 1354, 1355, 1356, 1357, 1358, 1359, 1360, 1361, 1362, 1363, 1364, 1365, 1366, 1367, 1368, 1369, 1371, 23] rfl
set_option maxRecDepth 100000 in
theorem tbL21 : ∀ w ∈ GL21, w ∈ lw_tbl := inIdx [26, 27, 25, 28, 24, 20, 19, 22, 21, 18, 0, 4, 5, 3, 6, 1, 2, 10, 9, 12, 8, 14, 15, 11, 13, 7, 17, 16, 34, 33, 30, 36, 31, 35, 29, 32, 57, 40, 47, 67] rfl
set_option maxRecDepth 100000 in
theorem tbL22 : ∀ w ∈ GL22, w ∈ lw_tbl := inIdx [64, 49, 61, 54, 63, 59, 58, 42, 65, 50, 46, 51, 52, 60, 39, 38, 44, 62, 43, 53, 41, 48, 45, 56, 55, 66] rfl
theorem GT_tbl : ∀ w ∈ GT, w ∈ lw_tbl := by
  intro w h
  rcases List.mem_append.mp h with h | h
  · exact tb_TB w h
  rcases List.mem_append.mp h with h | h
  · exact tb_Comparison w h
  rcases List.mem_append.mp h with h | h
  · exact tb_GapFinder w h
  rcases List.mem_append.mp h with h | h
  · exact tb_LetterSet w h
  rcases List.mem_append.mp h with h | h
  · exact tb_Machine w h
  rcases List.mem_append.mp h with h | h
  · exact tb_MachineBuilder w h
  rcases List.mem_append.mp h with h | h
  · exact tb_Mode w h
  rcases List.mem_append.mp h with h | h
  · exact tb_Piece w h
  rcases List.mem_append.mp h with h | h
  · exact tb_RuleBook w h
  rcases List.mem_append.mp h with h | h
  · exact tb_RuleText w h
  rcases List.mem_append.mp h with h | h
  · exact tb_Stream w h
  rcases List.mem_append.mp h with h | h
  · exact tb_TokenQueue w h
  rcases List.mem_append.mp h with h | h
  · exact tb_M w h
  rcases List.mem_append.mp h with h | h
  · exact tbL0 w h
  rcases List.mem_append.mp h with h | h
  · exact tbL1 w h
  rcases List.mem_append.mp h with h | h
  · exact tbL2 w h
  rcases List.mem_append.mp h with h | h
  · exact tbL3 w h
  rcases List.mem_append.mp h with h | h
  · exact tbL4 w h
  rcases List.mem_append.mp h with h | h
  · exact tbL5 w h
  rcases List.mem_append.mp h with h | h
  · exact tbL6 w h
  rcases List.mem_append.mp h with h | h
  · exact tbL7 w h
  rcases List.mem_append.mp h with h | h
  · exact tbL8 w h
  rcases List.mem_append.mp h with h | h
  · exact tbL9 w h
  rcases List.mem_append.mp h with h | h
  · exact tbL10 w h
  rcases List.mem_append.mp h with h | h
  · exact tbL11 w h
  rcases List.mem_append.mp h with h | h
  · exact tbL12 w h
  rcases List.mem_append.mp h with h | h
  · exact tbL13 w h
  rcases List.mem_append.mp h with h | h
  · exact tbL14 w h
  rcases List.mem_append.mp h with h | h
  · exact tbL15 w h
  rcases List.mem_append.mp h with h | h
  · exact tbL16 w h
  rcases List.mem_append.mp h with h | h
  · exact tbL17 w h
  rcases List.mem_append.mp h with h | h
  · exact tbL18 w h
  rcases List.mem_append.mp h with h | h
  · exact tbL19 w h
  rcases List.mem_append.mp h with h | h
  · exact tbL20 w h
  rcases List.mem_append.mp h with h | h
  · exact tbL21 w h
  exact tbL22 w h
set_option maxRecDepth 100000 in
theorem NW_tbl : ∀ w ∈ NW, w ∈ lw_tbl := inIdx [100, 111, 113, 125, 192, 225, 260, 338, 372, 378, 565] rfl
