/-! the law's words are the tables' -/
theorem mem_app {T l1 l2 : List Cond} (h1 : ∀ w ∈ l1, w ∈ T) (h2 : ∀ w ∈ l2, w ∈ T) : ∀ w ∈ l1 ++ l2, w ∈ T := fun w h => (List.mem_append.mp h).elim (h1 w) (h2 w)
theorem mem_pl {T l : List Cond} (ps : List Nat) (hp : l = ps.filterMap (fun i => T[i]?)) : ∀ w ∈ l, w ∈ T := fun w hw => by
  rw [hp] at hw
  obtain ⟨i, -, hi⟩ := List.mem_filterMap.mp hw
  exact List.mem_of_getElem? hi
set_option maxRecDepth 20000 in
theorem in_r1 : ∀ w ∈ wsL_law0_r1, w ∈ lw_tbl := mem_pl [91, 92, 71, 839, 833, 79, 239, 93, 94, 95, 96, 97, 98, 136, 257, 258, 99, 100, 72, 259, 260, 168, 106, 73] (by decide +kernel)
set_option maxRecDepth 20000 in
theorem in_r2 : ∀ w ∈ wsL_law0_r2, w ∈ lw_tbl := mem_pl [261, 262, 170, 171, 74, 263, 264, 189, 190, 75, 265, 200, 201, 76, 266, 267, 268, 240, 241, 78, 269, 137, 270, 102] (by decide +kernel)
set_option maxRecDepth 20000 in
theorem in_r3 : ∀ w ∈ wsL_law0_r3, w ∈ lw_tbl := mem_pl [103, 104, 105, 138, 140, 141, 142, 143, 144, 145, 146, 147, 108, 109, 110, 111, 116, 118, 123, 173, 174, 175, 176, 178] (by decide +kernel)
set_option maxRecDepth 20000 in
theorem in_r4 : ∀ w ∈ wsL_law0_r4, w ∈ lw_tbl := mem_pl [179, 180, 192, 193, 194, 195, 202, 203, 204, 205, 212, 213, 214, 206, 215, 217, 219, 220, 208, 209, 77, 210, 211, 243] (by decide +kernel)
set_option maxRecDepth 20000 in
theorem in_r5 : ∀ w ∈ wsL_law0_r5, w ∈ lw_tbl := mem_pl [244, 245, 246, 247, 248, 840, 841, 842, 843, 845, 855, 856, 857, 858, 859, 860, 861, 938, 862, 864, 865, 866, 867, 871] (by decide +kernel)
set_option maxRecDepth 20000 in
theorem in_r6 : ∀ w ∈ wsL_law0_r6, w ∈ lw_tbl := mem_pl [872, 873, 300, 301, 302, 303, 304, 306, 0, 307, 826, 827, 828, 829, 844, 846, 830, 832, 33, 834, 308, 309, 310, 311] (by decide +kernel)
set_option maxRecDepth 20000 in
theorem in_r7 : ∀ w ∈ wsL_law0_r7, w ∈ lw_tbl := mem_pl [835, 836, 837, 838, 312, 313, 314, 315, 316, 317, 318, 319, 320, 321, 322, 323, 325, 324, 80, 326, 327, 328, 329, 330] (by decide +kernel)
set_option maxRecDepth 20000 in
theorem in_r8 : ∀ w ∈ wsL_law0_r8, w ∈ lw_tbl := mem_pl [331, 81, 332, 333, 335, 1, 336, 337, 339, 2, 340, 341, 343, 3, 344, 346, 348, 4, 349, 350, 351, 352, 82, 353] (by decide +kernel)
set_option maxRecDepth 20000 in
theorem in_r9 : ∀ w ∈ wsL_law0_r9, w ∈ lw_tbl := mem_pl [1227, 354, 355, 356, 357, 358, 1228, 360, 361, 362, 363, 364, 365, 366, 367, 368, 369, 83, 370, 371, 372, 373, 374, 376] (by decide +kernel)
set_option maxRecDepth 20000 in
theorem in_r10 : ∀ w ∈ wsL_law0_r10, w ∈ lw_tbl := mem_pl [377, 84, 378, 379, 380, 85, 381, 382, 383, 384, 385, 386, 387, 388, 389, 390, 391, 392, 394, 396, 398, 400, 5, 401] (by decide +kernel)
set_option maxRecDepth 20000 in
theorem in_r11 : ∀ w ∈ wsL_law0_r11, w ∈ lw_tbl := mem_pl [402, 404, 6, 405, 406, 408, 7, 409, 411, 413, 8, 414, 415, 416, 417, 418, 419, 420, 421, 422, 423, 424, 425, 426] (by decide +kernel)
set_option maxRecDepth 20000 in
theorem in_r12 : ∀ w ∈ wsL_law0_r12, w ∈ lw_tbl := mem_pl [428, 429, 430, 431, 432, 433, 434, 435, 86, 436, 437, 438, 439, 441, 443, 9, 444, 445, 446, 447, 448, 449, 450, 451] (by decide +kernel)
set_option maxRecDepth 20000 in
theorem in_r13 : ∀ w ∈ wsL_law0_r13, w ∈ lw_tbl := mem_pl [452, 453, 455, 457, 10, 458, 459, 460, 461, 462, 463, 465, 11, 466, 467, 469, 12, 470, 471, 472, 473, 474, 475, 939] (by decide +kernel)
set_option maxRecDepth 20000 in
theorem in_r14 : ∀ w ∈ wsL_law0_r14, w ∈ lw_tbl := mem_pl [940, 941, 942, 847, 852, 848, 850, 853, 863, 943, 945, 34, 946, 849, 854, 851, 957, 958, 947, 948, 949, 950, 951, 952] (by decide +kernel)
set_option maxRecDepth 20000 in
theorem in_r15 : ∀ w ∈ wsL_law0_r15, w ∈ lw_tbl := mem_pl [953, 955, 35, 956, 959, 961, 36, 962, 963, 965, 37, 966, 967, 968, 969, 970, 972, 38, 973, 974, 976, 39, 977, 978] (by decide +kernel)
set_option maxRecDepth 20000 in
theorem in_r16 : ∀ w ∈ wsL_law0_r16, w ∈ lw_tbl := mem_pl [980, 40, 981, 982, 984, 41, 985, 986, 987, 988, 989, 991, 42, 992, 993, 995, 43, 996, 997, 998, 999, 1000, 1001, 1002] (by decide +kernel)
set_option maxRecDepth 20000 in
theorem in_r17 : ∀ w ∈ wsL_law0_r17, w ∈ lw_tbl := mem_pl [1003, 1004, 1005, 1006, 1008, 44, 1009, 1010, 1012, 45, 1013, 1014, 1015, 1016, 1017, 1019, 46, 1020, 1021, 1022, 1023, 1024, 1026, 47] (by decide +kernel)
set_option maxRecDepth 20000 in
theorem in_r18 : ∀ w ∈ wsL_law0_r18, w ∈ lw_tbl := mem_pl [1027, 1028, 1029, 1030, 476, 477, 478, 479, 1031, 1032, 1033, 1034, 480, 481, 482, 483, 484, 485, 486, 487, 488, 489, 491, 13] (by decide +kernel)
set_option maxRecDepth 20000 in
theorem in_r19 : ∀ w ∈ wsL_law0_r19, w ∈ lw_tbl := mem_pl [492, 493, 494, 495, 496, 499, 498, 1035, 1036, 1037, 1038, 1039, 1041, 48, 1042, 1043, 1044, 1045, 500, 501, 502, 503, 504, 505] (by decide +kernel)
set_option maxRecDepth 20000 in
theorem in_r20 : ∀ w ∈ wsL_law0_r20, w ∈ lw_tbl := mem_pl [506, 507, 508, 509, 510, 511, 512, 513, 514, 515, 516, 517, 518, 1146, 1147, 1148, 1149, 1150, 1152, 62, 1153, 1054, 1056, 50] (by decide +kernel)
set_option maxRecDepth 20000 in
theorem in_r21 : ∀ w ∈ wsL_law0_r21, w ∈ lw_tbl := mem_pl [1057, 519, 520, 521, 522, 523, 1154, 1155, 1156, 1157, 524, 525, 526, 527, 528, 530, 14, 531, 532, 533, 534, 535, 536, 537] (by decide +kernel)
set_option maxRecDepth 20000 in
theorem in_r22 : ∀ w ∈ wsL_law0_r22, w ∈ lw_tbl := mem_pl [539, 15, 540, 541, 542, 544, 16, 545, 546, 547, 548, 549, 550, 551, 552, 554, 17, 555, 557, 559, 18, 560, 561, 562] (by decide +kernel)
set_option maxRecDepth 20000 in
theorem in_r23 : ∀ w ∈ wsL_law0_r23, w ∈ lw_tbl := mem_pl [564, 19, 565, 1046, 1047, 1048, 1049, 1050, 1052, 49, 1053, 868, 869, 870, 1058, 1060, 51, 1061, 1062, 1064, 52, 1065, 744, 745] (by decide +kernel)
set_option maxRecDepth 20000 in
theorem in_r24 : ∀ w ∈ wsL_law0_r24, w ∈ lw_tbl := mem_pl [70, 746, 747, 748, 749, 750, 751, 756, 90, 752, 753, 754, 755, 817, 818, 819, 820, 821, 598, 599, 600, 601, 602, 603] (by decide +kernel)
set_option maxRecDepth 20000 in
theorem in_r25 : ∀ w ∈ wsL_law0_r25, w ∈ lw_tbl := mem_pl [605, 22, 606, 607, 570, 571, 572, 573, 1066, 1067, 1068, 1069, 1070, 1072, 53, 1073, 1074, 1076, 54, 1077, 822, 823, 824, 825] (by decide +kernel)
set_option maxRecDepth 20000 in
theorem in_r26 : ∀ w ∈ wsL_law0_r26, w ∈ lw_tbl := mem_pl [566, 567, 568, 569, 1078, 1079, 1080, 1081, 574, 575, 576, 577, 578, 579, 580, 581, 1082, 1083, 1084, 1085, 1086, 1088, 55, 1089] (by decide +kernel)
set_option maxRecDepth 20000 in
theorem in_r27 : ∀ w ∈ wsL_law0_r27, w ∈ lw_tbl := mem_pl [582, 583, 584, 585, 586, 588, 20, 589, 590, 591, 592, 593, 594, 596, 21, 597, 1090, 1091, 1092, 1093, 1094, 1096, 56, 1097] (by decide +kernel)
set_option maxRecDepth 20000 in
theorem in_r28 : ∀ w ∈ wsL_law0_r28, w ∈ lw_tbl := mem_pl [608, 609, 610, 611, 1098, 1099, 1100, 1101, 612, 613, 614, 615, 616, 1102, 1103, 1104, 1105, 617, 618, 619, 620, 621, 622, 623] (by decide +kernel)
set_option maxRecDepth 20000 in
theorem in_r29 : ∀ w ∈ wsL_law0_r29, w ∈ lw_tbl := mem_pl [624, 1106, 1107, 1108, 1109, 625, 626, 627, 628, 629, 630, 631, 632, 633, 1110, 1111, 1112, 1113, 634, 635, 636, 637, 1114, 1115] (by decide +kernel)
set_option maxRecDepth 20000 in
theorem in_r30 : ∀ w ∈ wsL_law0_r30, w ∈ lw_tbl := mem_pl [1116, 1117, 638, 639, 640, 641, 642, 643, 644, 645, 646, 648, 23, 649, 650, 652, 24, 653, 654, 656, 25, 657, 658, 660] (by decide +kernel)
set_option maxRecDepth 20000 in
theorem in_r31 : ∀ w ∈ wsL_law0_r31, w ∈ lw_tbl := mem_pl [26, 661, 662, 664, 27, 665, 1118, 1119, 1120, 1121, 1122, 1124, 57, 1125, 1126, 1128, 58, 1129, 1130, 1132, 59, 1133, 1134, 1136] (by decide +kernel)
set_option maxRecDepth 20000 in
theorem in_r32 : ∀ w ∈ wsL_law0_r32, w ∈ lw_tbl := mem_pl [60, 1137, 666, 667, 668, 669, 670, 671, 672, 673, 674, 676, 28, 677, 678, 679, 681, 29, 682, 683, 684, 77, 685, 1138] (by decide +kernel)
set_option maxRecDepth 20000 in
theorem in_r33 : ∀ w ∈ wsL_law0_r33, w ∈ lw_tbl := mem_pl [1139, 1140, 1141, 1142, 1144, 61, 1145, 686, 687, 688, 689, 690, 1158, 1159, 1160, 1161, 1162, 1164, 63, 1165, 691, 692, 693, 694] (by decide +kernel)
set_option maxRecDepth 20000 in
theorem in_r34 : ∀ w ∈ wsL_law0_r34, w ∈ lw_tbl := mem_pl [695, 1166, 1167, 1168, 1169, 1170, 1172, 64, 1173, 1174, 1176, 65, 1177, 696, 697, 698, 699, 700, 1178, 1179, 1180, 1181, 701, 702] (by decide +kernel)
set_option maxRecDepth 20000 in
theorem in_r35 : ∀ w ∈ wsL_law0_r35, w ∈ lw_tbl := mem_pl [703, 704, 705, 706, 707, 708, 709, 711, 30, 712, 713, 714, 715, 716, 717, 718, 720, 31, 721, 722, 723, 724, 725, 726] (by decide +kernel)
set_option maxRecDepth 20000 in
theorem in_r36 : ∀ w ∈ wsL_law0_r36, w ∈ lw_tbl := mem_pl [727, 1182, 1183, 1184, 1185, 874, 1186, 1188, 66, 1189, 1190, 1192, 67, 1193, 1194, 1195, 1197, 68, 1198, 1199, 1201, 69, 1202, 728] (by decide +kernel)
set_option maxRecDepth 20000 in
theorem in_r37 : ∀ w ∈ wsL_law0_r37, w ∈ lw_tbl := mem_pl [729, 730, 731, 732, 733, 734, 735, 1203, 1204, 1205, 1206, 736, 737, 738, 739, 1207, 1208, 1209, 1210, 740, 741, 742, 743, 1211] (by decide +kernel)
set_option maxRecDepth 20000 in
theorem in_r38 : ∀ w ∈ wsL_law0_r38, w ∈ lw_tbl := mem_pl [1212, 1213, 1214] (by decide +kernel)
set_option maxRecDepth 20000 in
theorem in_x6 : ∀ w ∈ wsX60, w ∈ lw_tbl := mem_pl [271, 273, 275, 277, 279, 281, 283, 285, 287, 289, 291, 293, 295, 297] (by decide +kernel)
set_option maxRecDepth 20000 in
theorem in_x7 : ∀ w ∈ wsX70, w ∈ lw_tbl := mem_pl [875, 877, 879, 881, 883, 885, 887, 889, 891, 893, 895, 897, 899, 901, 903, 905, 907, 909, 911, 913, 915, 917, 919, 921, 923, 925, 927, 929, 931, 933, 935] (by decide +kernel)
set_option maxRecDepth 20000 in
theorem in_x5 : ∀ w ∈ wsX50, w ∈ lw_tbl := mem_pl [149, 151, 153, 155, 157, 159, 161, 163, 165] (by decide +kernel)
set_option maxRecDepth 20000 in
theorem in_x2 : ∀ w ∈ wsX20, w ∈ lw_tbl := mem_pl [127, 129, 131, 133] (by decide +kernel)
set_option maxRecDepth 20000 in
theorem in_x3 : ∀ w ∈ wsX30, w ∈ lw_tbl := mem_pl [182, 184, 186] (by decide +kernel)
set_option maxRecDepth 20000 in
theorem in_x0 : ∀ w ∈ wsX00, w ∈ lw_tbl := mem_pl [197] (by decide +kernel)
set_option maxRecDepth 20000 in
theorem in_x1 : ∀ w ∈ wsX10, w ∈ lw_tbl := mem_pl [222, 224, 226, 228, 230, 232, 234, 236] (by decide +kernel)
set_option maxRecDepth 20000 in
theorem in_x4 : ∀ w ∈ wsX40, w ∈ lw_tbl := mem_pl [250, 252, 254] (by decide +kernel)
theorem wsL_law_x0 : ∀ w ∈ (vx_at0 RX6 154 "java/util/NoSuchElementException" ["java/lang/RuntimeException", "java/lang/Exception"]).filter goodWord, w ∈ lw_tbl := by decide +kernel
theorem wsL_law_in : ∀ w ∈ wsL_law, w ∈ lw_tbl := mem_app (mem_app (mem_app (mem_app (mem_app (mem_app (mem_app (mem_app (mem_app (mem_app (mem_app in_r1 (mem_app in_r2 (mem_app in_r3 (mem_app in_r4 (mem_app in_r5 (mem_app in_r6 (mem_app in_r7 (mem_app in_r8 (mem_app in_r9 (mem_app in_r10 (mem_app in_r11 (mem_app in_r12 (mem_app in_r13 (mem_app in_r14 (mem_app in_r15 (mem_app in_r16 (mem_app in_r17 (mem_app in_r18 (mem_app in_r19 (mem_app in_r20 (mem_app in_r21 (mem_app in_r22 (mem_app in_r23 (mem_app in_r24 (mem_app in_r25 (mem_app in_r26 (mem_app in_r27 (mem_app in_r28 (mem_app in_r29 (mem_app in_r30 (mem_app in_r31 (mem_app in_r32 (mem_app in_r33 (mem_app in_r34 (mem_app in_r35 (mem_app in_r36 (mem_app in_r37 in_r38))))))))))))))))))))))))))))))))))))) in_x6) in_x7) in_x5) in_x2) in_x3) in_x0) in_x1) in_x4) (fun w h => absurd h List.not_mem_nil)) wsL_law_x0
