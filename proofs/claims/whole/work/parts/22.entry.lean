/-! what holds at the law's entry, in the words of the other parts (by wip/whole/start.py) -/
theorem lt0 : ∀ w ∈ TBc0, w ∈ lw_tbl := by
  have h : TBc0 = [89, 90, 91, 92, 93, 94, 95, 96, 97, 98, 99, 100, 101, 102, 103, 104, 105, 106, 107, 108, 109, 112, 113, 114, 115, 116, 121, 122, 123, 124].filterMap (fun i => lw_tbl[i]?) := by decide +kernel
  intro w hw
  rw [h] at hw
  obtain ⟨i, -, hi⟩ := List.mem_filterMap.mp hw
  exact List.mem_of_getElem? hi
theorem lt1 : ∀ w ∈ TBc1, w ∈ lw_tbl := by
  have h : TBc1 = [126, 127, 128, 129, 131, 133, 135, 138, 142, 143, 144, 145, 147, 150, 153, 156, 158, 160, 162, 168, 169, 170, 171, 173, 174, 175, 176, 177, 178, 179].filterMap (fun i => lw_tbl[i]?) := by decide +kernel
  intro w hw
  rw [h] at hw
  obtain ⟨i, -, hi⟩ := List.mem_filterMap.mp hw
  exact List.mem_of_getElem? hi
theorem lt2 : ∀ w ∈ TBc2, w ∈ lw_tbl := by
  have h : TBc2 = [181, 183, 185, 187, 189, 191, 197, 198, 199, 203, 204, 205, 206, 207, 208, 209, 210, 211, 215, 218, 220, 222, 224, 226, 228, 230, 233, 234, 236, 237].filterMap (fun i => lw_tbl[i]?) := by decide +kernel
  intro w hw
  rw [h] at hw
  obtain ⟨i, -, hi⟩ := List.mem_filterMap.mp hw
  exact List.mem_of_getElem? hi
theorem lt3 : ∀ w ∈ TBc3, w ∈ lw_tbl := by
  have h : TBc3 = [239, 241, 243, 245, 251, 252, 253, 254, 256, 258, 259, 260, 261, 263, 265, 267, 269, 272, 273, 277, 278, 279, 280, 281, 284, 286, 289, 290, 291, 292].filterMap (fun i => lw_tbl[i]?) := by decide +kernel
  intro w hw
  rw [h] at hw
  obtain ⟨i, -, hi⟩ := List.mem_filterMap.mp hw
  exact List.mem_of_getElem? hi
theorem lt4 : ∀ w ∈ TBc4, w ∈ lw_tbl := by
  have h : TBc4 = [293, 294, 295, 296, 297, 298, 300, 302, 304, 306, 308, 310, 312, 314, 317, 318, 319, 320, 321, 322, 323, 324, 325, 326, 327, 328, 329, 330, 331, 334].filterMap (fun i => lw_tbl[i]?) := by decide +kernel
  intro w hw
  rw [h] at hw
  obtain ⟨i, -, hi⟩ := List.mem_filterMap.mp hw
  exact List.mem_of_getElem? hi
theorem lt5 : ∀ w ∈ TBc5, w ∈ lw_tbl := by
  have h : TBc5 = [335, 337, 338, 339, 340, 341, 342, 343, 344, 348, 349, 350, 351, 377, 437, 438, 439, 440, 441, 442, 445, 446, 447, 448, 449, 451, 452, 454, 456, 457].filterMap (fun i => lw_tbl[i]?) := by decide +kernel
  intro w hw
  rw [h] at hw
  obtain ⟨i, -, hi⟩ := List.mem_filterMap.mp hw
  exact List.mem_of_getElem? hi
theorem lt6 : ∀ w ∈ TBc6, w ∈ lw_tbl := by
  have h : TBc6 = [458, 459, 460, 477, 479, 480, 485, 486, 490, 491, 494, 496, 497, 500, 501, 504, 505, 508, 509, 512, 513, 514, 515, 516, 520, 521, 522, 524, 525, 529].filterMap (fun i => lw_tbl[i]?) := by decide +kernel
  intro w hw
  rw [h] at hw
  obtain ⟨i, -, hi⟩ := List.mem_filterMap.mp hw
  exact List.mem_of_getElem? hi
theorem lt7 : ∀ w ∈ TBc7, w ∈ lw_tbl := by
  have h : TBc7 = [530, 532, 534, 535, 537, 539, 540, 542, 543, 544, 546, 547, 548, 550, 551, 554, 555, 559, 560, 561, 563, 564, 565, 567, 568, 569, 571, 572, 573, 575].filterMap (fun i => lw_tbl[i]?) := by decide +kernel
  intro w hw
  rw [h] at hw
  obtain ⟨i, -, hi⟩ := List.mem_filterMap.mp hw
  exact List.mem_of_getElem? hi
theorem lt8 : ∀ w ∈ TBc8, w ∈ lw_tbl := by
  have h : TBc8 = [576, 577, 578, 579, 580, 581, 583, 584, 587, 588, 591, 592, 596, 597, 598, 600, 601, 602, 603, 605, 606, 607, 608, 610, 611, 613, 614, 615, 616, 617].filterMap (fun i => lw_tbl[i]?) := by decide +kernel
  intro w hw
  rw [h] at hw
  obtain ⟨i, -, hi⟩ := List.mem_filterMap.mp hw
  exact List.mem_of_getElem? hi
theorem lt9 : ∀ w ∈ TBc9, w ∈ lw_tbl := by
  have h : TBc9 = [619, 620, 624, 625, 629, 630, 631, 632, 634, 635, 636, 637, 638, 639, 641, 642, 643, 644, 649, 650, 652, 653, 655, 656, 657, 658, 659, 661, 662, 664].filterMap (fun i => lw_tbl[i]?) := by decide +kernel
  intro w hw
  rw [h] at hw
  obtain ⟨i, -, hi⟩ := List.mem_filterMap.mp hw
  exact List.mem_of_getElem? hi
theorem lt10 : ∀ w ∈ TBc10, w ∈ lw_tbl := by
  have h : TBc10 = [665, 666, 667, 668, 669, 670, 671, 673, 674, 675, 676, 681, 682, 685, 686, 689, 690, 691, 694, 695, 698, 699, 700, 701, 702, 703, 704, 705, 706, 707].filterMap (fun i => lw_tbl[i]?) := by decide +kernel
  intro w hw
  rw [h] at hw
  obtain ⟨i, -, hi⟩ := List.mem_filterMap.mp hw
  exact List.mem_of_getElem? hi
theorem lt11 : ∀ w ∈ TBc11, w ∈ lw_tbl := by
  have h : TBc11 = [708, 710, 711, 712, 713, 716, 717, 718, 720, 721, 723, 724, 726, 727, 728, 729, 732, 733, 734, 735, 737, 738, 739, 740, 743, 744, 746, 747, 748, 750].filterMap (fun i => lw_tbl[i]?) := by decide +kernel
  intro w hw
  rw [h] at hw
  obtain ⟨i, -, hi⟩ := List.mem_filterMap.mp hw
  exact List.mem_of_getElem? hi
theorem lt12 : ∀ w ∈ TBc12, w ∈ lw_tbl := by
  have h : TBc12 = [751, 752, 753, 754, 755, 757, 758, 759, 760, 761, 763, 764, 766, 767, 769, 770, 771, 772, 773, 774, 776, 777, 778, 779, 780, 781, 784, 785, 786, 787].filterMap (fun i => lw_tbl[i]?) := by decide +kernel
  intro w hw
  rw [h] at hw
  obtain ⟨i, -, hi⟩ := List.mem_filterMap.mp hw
  exact List.mem_of_getElem? hi
theorem lt13 : ∀ w ∈ TBc13, w ∈ lw_tbl := by
  have h : TBc13 = [788, 790, 791, 793, 795, 796, 814, 815, 817, 818, 819, 820, 821, 822, 824, 825, 826, 827, 828, 829, 831, 832, 833, 834, 838, 839, 840, 841, 843, 844].filterMap (fun i => lw_tbl[i]?) := by decide +kernel
  intro w hw
  rw [h] at hw
  obtain ⟨i, -, hi⟩ := List.mem_filterMap.mp hw
  exact List.mem_of_getElem? hi
theorem lt14 : ∀ w ∈ TBc14, w ∈ lw_tbl := by
  have h : TBc14 = [845, 846, 848, 849, 851, 852, 853, 854, 858, 859, 861, 863, 864, 866, 868, 869, 870, 872, 873, 874, 875, 876, 880, 881, 883, 884, 886, 887, 888, 889].filterMap (fun i => lw_tbl[i]?) := by decide +kernel
  intro w hw
  rw [h] at hw
  obtain ⟨i, -, hi⟩ := List.mem_filterMap.mp hw
  exact List.mem_of_getElem? hi
theorem lt15 : ∀ w ∈ TBc15, w ∈ lw_tbl := by
  have h : TBc15 = [892, 893, 896, 897, 898, 899, 901, 902, 903, 904, 905, 907, 908, 913, 914, 916, 917, 919, 920, 921, 922, 926, 927, 928, 929, 931, 932, 933, 934, 937].filterMap (fun i => lw_tbl[i]?) := by decide +kernel
  intro w hw
  rw [h] at hw
  obtain ⟨i, -, hi⟩ := List.mem_filterMap.mp hw
  exact List.mem_of_getElem? hi
theorem lt16 : ∀ w ∈ TBc16, w ∈ lw_tbl := by
  have h : TBc16 = [938, 942, 943, 944, 945, 946, 947, 948, 949, 950, 951, 952, 953, 954, 955, 956, 957, 958, 959, 960, 961, 962, 963, 964, 965, 966, 967, 968, 969, 970].filterMap (fun i => lw_tbl[i]?) := by decide +kernel
  intro w hw
  rw [h] at hw
  obtain ⟨i, -, hi⟩ := List.mem_filterMap.mp hw
  exact List.mem_of_getElem? hi
theorem lt17 : ∀ w ∈ TBc17, w ∈ lw_tbl := by
  have h : TBc17 = [971, 972, 973, 974, 975, 976, 977, 978, 979, 980, 981, 982, 983, 985, 987, 989, 991, 993, 995, 997, 999, 1001, 1003, 1005, 1007, 1009, 1011, 1013, 1015, 1017].filterMap (fun i => lw_tbl[i]?) := by decide +kernel
  intro w hw
  rw [h] at hw
  obtain ⟨i, -, hi⟩ := List.mem_filterMap.mp hw
  exact List.mem_of_getElem? hi
theorem lt18 : ∀ w ∈ TBc18, w ∈ lw_tbl := by
  have h : TBc18 = [1019, 1021, 1023, 1025, 1027, 1029, 1031, 1033, 1035, 1037, 1039, 1041, 1043, 1045, 1047, 1049, 1051, 1053, 1055, 1058, 1059, 1060, 1061, 1062, 1063, 1064, 1065, 1066, 1067, 1068].filterMap (fun i => lw_tbl[i]?) := by decide +kernel
  intro w hw
  rw [h] at hw
  obtain ⟨i, -, hi⟩ := List.mem_filterMap.mp hw
  exact List.mem_of_getElem? hi
theorem lt19 : ∀ w ∈ TBc19, w ∈ lw_tbl := by
  have h : TBc19 = [1069, 1070, 1072, 1073, 1074, 1075, 1076, 1077, 1078, 1079, 1080, 1081, 1082, 1083, 1084, 1085, 1086, 1087, 1088, 1089, 1090, 1091, 1093, 1094, 1095, 1097, 1098, 1099, 1101, 1102].filterMap (fun i => lw_tbl[i]?) := by decide +kernel
  intro w hw
  rw [h] at hw
  obtain ⟨i, -, hi⟩ := List.mem_filterMap.mp hw
  exact List.mem_of_getElem? hi
theorem lt20 : ∀ w ∈ TBc20, w ∈ lw_tbl := by
  have h : TBc20 = [1103, 1104, 1105, 1106, 1108, 1109, 1110, 1112, 1113, 1114, 1115, 1116, 1117, 1119, 1120, 1121, 1123, 1124, 1125, 1127, 1128, 1129, 1131, 1132, 1133, 1135, 1136, 1137, 1139, 1140].filterMap (fun i => lw_tbl[i]?) := by decide +kernel
  intro w hw
  rw [h] at hw
  obtain ⟨i, -, hi⟩ := List.mem_filterMap.mp hw
  exact List.mem_of_getElem? hi
theorem lt21 : ∀ w ∈ TBc21, w ∈ lw_tbl := by
  have h : TBc21 = [1141, 1143, 1144, 1145, 1147, 1148, 1149, 1150, 1151, 1152, 1153, 1154, 1155, 1156, 1157, 1159, 1160, 1161, 1163, 1164, 1165, 1167, 1168, 1169, 1170, 1171, 1172, 1173, 1174, 1175].filterMap (fun i => lw_tbl[i]?) := by decide +kernel
  intro w hw
  rw [h] at hw
  obtain ⟨i, -, hi⟩ := List.mem_filterMap.mp hw
  exact List.mem_of_getElem? hi
theorem lt22 : ∀ w ∈ TBc22, w ∈ lw_tbl := by
  have h : TBc22 = [1176, 1177, 1178, 1179, 1180, 1181, 1183, 1184, 1185, 1186, 1187, 1188, 1189, 1190, 1191, 1192, 1194, 1195, 1196, 1198, 1199, 1200, 1201, 1202, 1203, 1204, 1206, 1207, 1208, 1209].filterMap (fun i => lw_tbl[i]?) := by decide +kernel
  intro w hw
  rw [h] at hw
  obtain ⟨i, -, hi⟩ := List.mem_filterMap.mp hw
  exact List.mem_of_getElem? hi
theorem lt23 : ∀ w ∈ TBc23, w ∈ lw_tbl := by
  have h : TBc23 = [1210, 1211, 1212, 1213, 1214, 1215, 1216, 1217, 1218, 1219, 1220, 1221, 1222, 1223, 1224, 1225, 1226, 1227, 1228, 1230, 1231, 1232, 1233, 1234, 1235, 1236, 1237, 1238, 1239, 1240].filterMap (fun i => lw_tbl[i]?) := by decide +kernel
  intro w hw
  rw [h] at hw
  obtain ⟨i, -, hi⟩ := List.mem_filterMap.mp hw
  exact List.mem_of_getElem? hi
theorem lt24 : ∀ w ∈ TBc24, w ∈ lw_tbl := by
  have h : TBc24 = [1241, 1242, 1243, 1244, 1246, 1247, 1248, 1249, 1250, 1251, 1252, 1253, 1254, 1255, 1256, 1257, 1258, 1259, 1260, 1261, 1262, 1263, 1264, 1265, 1266, 1267, 1268, 1269, 1270, 1271].filterMap (fun i => lw_tbl[i]?) := by decide +kernel
  intro w hw
  rw [h] at hw
  obtain ⟨i, -, hi⟩ := List.mem_filterMap.mp hw
  exact List.mem_of_getElem? hi
theorem lt25 : ∀ w ∈ TBc25, w ∈ lw_tbl := by
  have h : TBc25 = [1272, 1273, 1274, 1275, 1276, 1277, 1278, 1279, 1280, 1282, 1283, 1284, 1286, 1287, 1288, 1290, 1291, 1292, 1294, 1295, 1296, 1298, 1299, 1300, 1301, 1302, 1303, 1304, 1305, 1306].filterMap (fun i => lw_tbl[i]?) := by decide +kernel
  intro w hw
  rw [h] at hw
  obtain ⟨i, -, hi⟩ := List.mem_filterMap.mp hw
  exact List.mem_of_getElem? hi
theorem lt26 : ∀ w ∈ TBc26, w ∈ lw_tbl := by
  have h : TBc26 = [1308, 1309, 1310, 1311, 1312, 1313, 0, 2, 3, 4, 5, 6, 7, 8, 9, 10, 11, 12, 13, 14, 15, 16, 17, 18, 19, 20, 21, 22, 23, 24].filterMap (fun i => lw_tbl[i]?) := by decide +kernel
  intro w hw
  rw [h] at hw
  obtain ⟨i, -, hi⟩ := List.mem_filterMap.mp hw
  exact List.mem_of_getElem? hi
theorem lt27 : ∀ w ∈ TBc27, w ∈ lw_tbl := by
  have h : TBc27 = [25, 26, 27, 28, 29, 30, 31, 32, 33, 34, 35, 36, 37, 38, 39, 40, 41, 42, 43, 44, 45, 46, 47, 48, 49, 50, 51, 52, 53, 54].filterMap (fun i => lw_tbl[i]?) := by decide +kernel
  intro w hw
  rw [h] at hw
  obtain ⟨i, -, hi⟩ := List.mem_filterMap.mp hw
  exact List.mem_of_getElem? hi
theorem lt28 : ∀ w ∈ TBc28, w ∈ lw_tbl := by
  have h : TBc28 = [55, 56, 57, 58, 59, 60, 61, 62, 63, 64, 65, 66, 67, 68, 69, 70, 71, 72, 73, 74, 75, 76, 77, 78, 79, 80, 81, 82, 83, 84].filterMap (fun i => lw_tbl[i]?) := by decide +kernel
  intro w hw
  rw [h] at hw
  obtain ⟨i, -, hi⟩ := List.mem_filterMap.mp hw
  exact List.mem_of_getElem? hi
theorem lt29 : ∀ w ∈ TBc29, w ∈ lw_tbl := by
  have h : TBc29 = [85, 86, 87, 88].filterMap (fun i => lw_tbl[i]?) := by decide +kernel
  intro w hw
  rw [h] at hw
  obtain ⟨i, -, hi⟩ := List.mem_filterMap.mp hw
  exact List.mem_of_getElem? hi
theorem lt30 : ∀ w ∈ TBc30, w ∈ lw_tbl := by
  have h : TBc30 = [99, 100, 101, 102, 103, 104, 105, 106, 107, 108, 109, 110, 111, 115, 116, 117, 118, 119, 123, 137, 139, 140, 144, 164, 165, 166, 170, 193, 194, 195, 199, 200, 201, 205, 232, 247, 248, 249, 253, 271, 274, 275, 279, 288, 316, 345, 346, 347, 352, 353, 361, 362, 363, 364, 365, 366, 367, 368, 369, 370, 371, 372, 373, 374, 375, 376, 377, 378, 380, 382, 383, 384, 385, 386, 387, 388, 389, 391, 392, 393, 395, 396, 397, 398, 399, 400, 401, 402, 403, 404, 405, 406, 407, 408, 409, 410, 411, 416, 419, 421, 422, 424, 425, 426, 427, 428, 429, 431, 432, 433, 434, 435, 436, 443, 444, 461, 462, 464, 465, 466, 467, 468, 469, 471, 472, 473, 474, 475, 476, 514, 516, 577, 579, 604, 612, 633, 640, 654, 664, 666, 672, 701, 703, 709, 725, 736, 746, 749, 756, 768, 775, 782, 783, 797, 798, 800, 801, 802, 803, 804, 805, 807, 808, 809, 810, 811, 812, 816, 823, 830, 842, 850, 874, 876, 900, 918, 930, 940, 941, 945, 1057, 1314, 1].filterMap (fun i => lw_tbl[i]?) := by decide +kernel
  intro w hw
  rw [h] at hw
  obtain ⟨i, -, hi⟩ := List.mem_filterMap.mp hw
  exact List.mem_of_getElem? hi
theorem ln0 : ∀ w ∈ NFc0, w ∈ lw_tbl := by
  have h : NFc0 = [120, 125, 141, 146, 148, 149, 151, 152, 154, 155, 167, 172, 196, 202, 212, 213, 214, 216, 217, 235, 238, 250, 255, 257, 276, 282, 283, 332, 336, 483].filterMap (fun i => lw_tbl[i]?) := by decide +kernel
  intro w hw
  rw [h] at hw
  obtain ⟨i, -, hi⟩ := List.mem_filterMap.mp hw
  exact List.mem_of_getElem? hi
theorem ln1 : ∀ w ∈ NFc1, w ∈ lw_tbl := by
  have h : NFc1 = [487, 488, 492, 493, 498, 502, 506, 510, 517, 518, 526, 527, 531, 536, 541, 552, 556, 557, 585, 589, 594, 622, 626, 627, 647, 651, 677, 679, 683, 687].filterMap (fun i => lw_tbl[i]?) := by decide +kernel
  intro w hw
  rw [h] at hw
  obtain ⟨i, -, hi⟩ := List.mem_filterMap.mp hw
  exact List.mem_of_getElem? hi
theorem ln2 : ∀ w ∈ NFc2, w ∈ lw_tbl := by
  have h : NFc2 = [692, 696, 714, 730, 741, 745, 813, 836, 847, 856, 860, 865, 877, 878, 882, 890, 894, 911, 915, 924, 935, 939, 354, 355, 356, 357, 358, 359, 360, 423].filterMap (fun i => lw_tbl[i]?) := by decide +kernel
  intro w hw
  rw [h] at hw
  obtain ⟨i, -, hi⟩ := List.mem_filterMap.mp hw
  exact List.mem_of_getElem? hi
theorem ln3 : ∀ w ∈ NFc3, w ∈ lw_tbl := by
  have h : NFc3 = [463, 799, 1315, 1316, 1317, 1318, 1319, 1320, 1321, 1322, 1323, 1324, 1325, 1326, 1327, 1328, 1329].filterMap (fun i => lw_tbl[i]?) := by decide +kernel
  intro w hw
  rw [h] at hw
  obtain ⟨i, -, hi⟩ := List.mem_filterMap.mp hw
  exact List.mem_of_getElem? hi
theorem TB_lw : ∀ w ∈ TB, w ∈ lw_tbl := by
  intro w h
  unfold TB at h
  rcases List.mem_append.mp h with h | h
  · exact lt0 w h
  rcases List.mem_append.mp h with h | h
  · exact lt1 w h
  rcases List.mem_append.mp h with h | h
  · exact lt2 w h
  rcases List.mem_append.mp h with h | h
  · exact lt3 w h
  rcases List.mem_append.mp h with h | h
  · exact lt4 w h
  rcases List.mem_append.mp h with h | h
  · exact lt5 w h
  rcases List.mem_append.mp h with h | h
  · exact lt6 w h
  rcases List.mem_append.mp h with h | h
  · exact lt7 w h
  rcases List.mem_append.mp h with h | h
  · exact lt8 w h
  rcases List.mem_append.mp h with h | h
  · exact lt9 w h
  rcases List.mem_append.mp h with h | h
  · exact lt10 w h
  rcases List.mem_append.mp h with h | h
  · exact lt11 w h
  rcases List.mem_append.mp h with h | h
  · exact lt12 w h
  rcases List.mem_append.mp h with h | h
  · exact lt13 w h
  rcases List.mem_append.mp h with h | h
  · exact lt14 w h
  rcases List.mem_append.mp h with h | h
  · exact lt15 w h
  rcases List.mem_append.mp h with h | h
  · exact lt16 w h
  rcases List.mem_append.mp h with h | h
  · exact lt17 w h
  rcases List.mem_append.mp h with h | h
  · exact lt18 w h
  rcases List.mem_append.mp h with h | h
  · exact lt19 w h
  rcases List.mem_append.mp h with h | h
  · exact lt20 w h
  rcases List.mem_append.mp h with h | h
  · exact lt21 w h
  rcases List.mem_append.mp h with h | h
  · exact lt22 w h
  rcases List.mem_append.mp h with h | h
  · exact lt23 w h
  rcases List.mem_append.mp h with h | h
  · exact lt24 w h
  rcases List.mem_append.mp h with h | h
  · exact lt25 w h
  rcases List.mem_append.mp h with h | h
  · exact lt26 w h
  rcases List.mem_append.mp h with h | h
  · exact lt27 w h
  rcases List.mem_append.mp h with h | h
  · exact lt28 w h
  rcases List.mem_append.mp h with h | h
  · exact lt29 w h
  exact lt30 w h
theorem NF_lw : ∀ w ∈ NF, w ∈ lw_tbl := by
  intro w h
  unfold NF at h
  rcases List.mem_append.mp h with h | h
  · exact ln0 w h
  rcases List.mem_append.mp h with h | h
  · exact ln1 w h
  rcases List.mem_append.mp h with h | h
  · exact ln2 w h
  exact ln3 w h
abbrev lw_N : Jvm.Cond := Jvm.Cond.and given_1 narrow_1
theorem STR_lw : ∀ q ∈ STR, Cond.stringRef q.1 q.2.1 q.2.2 ∈ lw_tbl ∧ Cond.exactly (.string q.1 q.2.1) "java/lang/String" ∈ flatC lw_N := by decide +kernel
theorem NCS_lw : ∀ q ∈ NCS, Cond.not (.castable q.1 q.2) ∈ flatC lw_N := by decide +kernel
theorem sta_lw : Cond.laysStatic Bundle.tN "UNASSIGNED_STACK" Bundle.steD ∈ lw_tbl ∧ Cond.laysStatic Bundle.tN "SUPPRESSED_SENTINEL" Bundle.listD ∈ lw_tbl ∧ Cond.initialized Bundle.tN ∈ lw_tbl ∧ Cond.isRef (.static Bundle.tN "UNASSIGNED_STACK" Bundle.steD) ∈ flatC lw_N ∧ Cond.isRef (.static Bundle.tN "SUPPRESSED_SENTINEL" Bundle.listD) ∈ flatC lw_N := by decide +kernel
theorem NwA_at {args : Array Value} {s : State} (hts : ∀ w ∈ lw_tbl, w.before args s = true) (hgv : lw_N.before args s = true) : NwA s := by
  have hs := flat_of_before _ hgv
  refine ⟨fun w hw => va_Nw.of (List.all_eq_true.mp nf_tab w hw) (hts w (NF_lw w hw)), fun q hq => ?_, fun q hq => va_Nc.of (hs _ (NCS_lw q hq))⟩
  obtain ⟨h1, h2⟩ := STR_lw q hq
  obtain ⟨a, c, cell, k, h3, -⟩ := Cond.exactly_spec (hs _ h2)
  exact ⟨a, vk_R.of (hts _ h1) h3⟩
theorem Zq_at {args : Array Value} {s : State} (hts : ∀ w ∈ lw_tbl, w.before args s = true) (hgv : lw_N.before args s = true) {A : Nat → Prop} (hA : ∀ a : Nat, a < s.heap.size → ¬ A a) : vx_Zq Bundle.tN "UNASSIGNED_STACK" Bundle.steD A s s.heap ∧ vx_Zq Bundle.tN "SUPPRESSED_SENTINEL" Bundle.listD A s s.heap := by
  have hs := flat_of_before _ hgv
  obtain ⟨h1, h2, h3, h4, h5⟩ := sta_lw
  exact ⟨vx_Zqof (hts _ h1) (hts _ h3) (hs _ h4) hA, vx_Zqof (hts _ h2) (hts _ h3) (hs _ h5) hA⟩
theorem arr_at {args : Array Value} {s : State} {ty : FieldType} (h : (Cond.arrayClass ty).before args s = true) : ∃ cA : ClassId, ArrOfT s cA ty ∧ s.vm.findClass ("[" ++ ty.toString) = some cA := by
  obtain ⟨c, k, comp, h1, h2, h3⟩ := Cond.arrayClass_spec h
  exact ⟨c, fun n z => ⟨fun k h => (by cases h), k, h2, comp, h3⟩, h1⟩

theorem K_at {args : Array Value} {s : State} (hts : ∀ w ∈ lw_tbl, w.before args s = true) : ∃ (D : va_G) (cA : Nat → ClassId), va_K D vwCl (tyl cA) s := by
  have htb : ∀ w ∈ TB, w.before args s = true := fun w hw => hts w (TB_lw w hw)
  obtain ⟨c0, i0, h0⟩ := u_known (C := RX0) (T := TX0) (N := 7) (n := 7) htb lyX0 (htb _ (exin (mem_i 32 (by decide +kernel)) : Cond.instantiable RX0 7 ∈ TB))
  obtain ⟨c1, i1, h1⟩ := u_known (C := RX1) (T := TX1) (N := 2) (n := 2) htb lyX1 (htb _ (exin (mem_i 41 (by decide +kernel)) : Cond.instantiable RX1 2 ∈ TB))
  obtain ⟨c2, i2, h2⟩ := u_known (C := RX2) (T := TX2) (N := 5) (n := 5) htb lyX2 (htb _ (exin (mem_i 37 (by decide +kernel)) : Cond.instantiable RX2 5 ∈ TB))
  obtain ⟨c3, i3, h3⟩ := u_known (C := RX3) (T := TX3) (N := 4) (n := 4) htb lyX3 (htb _ (exin (mem_i 29 (by decide +kernel)) : Cond.instantiable RX3 4 ∈ TB))
  obtain ⟨c4, i4, h4⟩ := u_known (C := RX4) (T := TX4) (N := 4) (n := 4) htb lyX4 (htb _ (exin (mem_i 21 (by decide +kernel)) : Cond.instantiable RX4 4 ∈ TB))
  obtain ⟨c5, i5, h5⟩ := u_known (C := RX5) (T := TX5) (N := 4) (n := 4) htb lyX5 (htb _ (exin (mem_i 17 (by decide +kernel)) : Cond.instantiable RX5 4 ∈ TB))
  obtain ⟨c6, i6, h6⟩ := u_known (C := RX6) (T := TX6) (N := 7) (n := 7) htb lyX6 (htb _ (exin (mem_i 25 (by decide +kernel)) : Cond.instantiable RX6 7 ∈ TB))
  obtain ⟨c7, i7, h7⟩ := u_known (C := RX7) (T := TX7) (N := 9) (n := 9) htb lyX7 (htb _ (exin (mem_i 12 (by decide +kernel)) : Cond.instantiable RX7 9 ∈ TB))
  obtain ⟨c8, i8, h8⟩ := u_known (C := RX8) (T := TX8) (N := 37) (n := 37) htb lyX8 (htb _ (exin (mem_i 178 (by decide +kernel)) : Cond.instantiable RX8 37 ∈ TB))
  obtain ⟨a0, z0⟩ := arr_at (ty := .int) (htb _ (tb1 (mem_i 7 rfl)))
  obtain ⟨a1, z1⟩ := arr_at (ty := .long) (htb _ (tb3 (mem_i 17 rfl)))
  obtain ⟨a2, z2⟩ := arr_at (ty := .char) (htb _ (tb3 (mem_i 18 rfl)))
  obtain ⟨a3, z3⟩ := arr_at (ty := .boolean) (htb _ (tb18 (mem_i 19 rfl)))
  refine ⟨(fun k => if k = 0 then c0 else if k = 1 then c1 else if k = 2 then c2 else if k = 3 then c3 else if k = 4 then c4 else if k = 5 then c5 else if k = 6 then c6 else if k = 7 then c7 else  c8, fun k => if k = 0 then i0 else if k = 1 then i1 else if k = 2 then i2 else if k = 3 then i3 else if k = 4 then i4 else if k = 5 then i5 else if k = 6 then i6 else if k = 7 then i7 else  i8), fun t => if t = 0 then a0 else if t = 1 then a1 else if t = 2 then a2 else a3, ?_, ?_⟩
  · intro k q hq
    match k, hq with
    | 0, hq => cases hq; exact h0
    | 1, hq => cases hq; exact h1
    | 2, hq => cases hq; exact h2
    | 3, hq => cases hq; exact h3
    | 4, hq => cases hq; exact h4
    | 5, hq => cases hq; exact h5
    | 6, hq => cases hq; exact h6
    | 7, hq => cases hq; exact h7
    | 8, hq => cases hq; exact h8
    | k + 9, hq => simp [vwCl] at hq
  · intro k q hq
    match k, hq with
    | 0, hq => cases hq; exact ⟨z0.1, z0.2⟩
    | 1, hq => cases hq; exact ⟨z1.1, z1.2⟩
    | 2, hq => cases hq; exact ⟨z2.1, z2.2⟩
    | 3, hq => cases hq; exact ⟨z3.1, z3.2⟩
    | k + 4, hq => simp [tyl] at hq
