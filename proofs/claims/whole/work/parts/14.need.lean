/-! THE START: what the Statement gives of the cells that were there before -/
def ev_FL : List Jvm.Cond := flatC (Jvm.Cond.and given_1 narrow_1)
/-- words at their places among the premises -/
def ev_fm : List Nat → List Jvm.Cond → Bool
  | [], [] => true
  | p :: ps, w :: ws => decide (ev_FL[p]? = some w) && ev_fm ps ws
  | _, _ => false
theorem ev_fm_mem : ∀ (ps : List Nat) (ws : List Jvm.Cond), ev_fm ps ws = true → ∀ w ∈ ws, w ∈ ev_FL
  | [], [], _, w, hw => by cases hw
  | [], _ :: _, h, _, _ => by cases h
  | _ :: _, [], h, _, _ => by cases h
  | p :: ps, u :: ws, h, w, hw => by
    simp only [ev_fm, Bool.and_eq_true, decide_eq_true_eq] at h
    rcases List.mem_cons.mp hw with rfl | hw
    · exact List.mem_of_getElem? h.1
    · exact ev_fm_mem ps ws h.2 w hw
def ev_sT (i : Nat) : Term := match ev_strs[i]? with
  | some q => .string q.1 q.2.1
  | none => .arg 0
abbrev ev_sV (i : Nat) : Term := .field (ev_sT i) "java/lang/String" "value" "[B"
abbrev ev_eT (i : Nat) : Term := .static "StemRules$Ending" (ev_enames.getD i "") "LStemRules$Ending;"
abbrev ev_fT : Term := .static "StemRules$Keys" "FIGURES" "[C"
abbrev ev_gT : Term := .static "StemRules$Porter" "ENDINGS" "[LStemRules$Ending;"
def ev_sW (i : Nat) : List Jvm.Cond := [.exactly (ev_sT i) "java/lang/String", .eq (.field (ev_sT i) "java/lang/String" "coder" "B") (.int 0), .arrayOf (ev_sV i) .byte, .eq (.length (ev_sV i)) (.int (Int32.ofNat (ev_txs.getD i []).length))]
  ++ (List.range (ev_txs.getD i []).length).map fun j => .eq (.elem (ev_sV i) (.int (Int32.ofNat j))) (.int ((ev_txs.getD i []).getD j 0))
def ev_eW (i : Nat) : List Jvm.Cond := match ev_ens[i]? with
  | some q => [.exactly (ev_eT i) "StemRules$Ending", .eq (.field (ev_eT i) "java/lang/Enum" "ordinal" "I") (.int (Int32.ofNat i)), .eq (.field (ev_eT i) "StemRules$Ending" "stage" "I") (.int q.1), .eq (.field (ev_eT i) "StemRules$Ending" "need" "I") (.int q.2.1),
      .eq (.field (ev_eT i) "StemRules$Ending" "has" "Ljava/lang/String;") (ev_sT q.2.2.1), .eq (.field (ev_eT i) "StemRules$Ending" "becomes" "Ljava/lang/String;") (ev_sT q.2.2.2)]
  | none => []
def ev_fW : List Jvm.Cond := [.arrayOf ev_fT .char, .eq (.length ev_fT) (.int 26)] ++ (List.range 26).map fun j => .eq (.elem ev_fT (.int (Int32.ofNat j))) (.int (ev_figs.getD j 0))
def ev_gW : List Jvm.Cond := [.arrayOf ev_gT (.object "StemRules$Ending"), .eq (.length ev_gT) (.int 54)] ++ (List.range 54).map fun j => .eq (.elem ev_gT (.int (Int32.ofNat j))) (ev_eT j)
def ev_cW : List Jvm.Cond := [.eq (.static "java/lang/String" "COMPACT_STRINGS" "Z") (.int 1), .isRef (.static "jdk/internal/util/Preconditions" "SIOOBE_FORMATTER" "Ljava/util/function/BiFunction;")]
set_option maxRecDepth 100000 in
theorem ev_sP0 : ev_fm [421, 422, 423, 424, 425, 426, 427, 428, 429, 430, 431, 432, 433, 434, 435, 436, 437, 438, 439, 440, 441, 442, 443, 444, 445, 446, 447, 448, 449, 450, 451, 452, 453, 454, 455, 456, 457, 458, 459, 460, 461, 462, 463, 464, 465, 466, 467, 468, 469, 470, 471, 472, 473, 474, 475, 476, 477, 478, 479, 480, 481, 482, 483, 484, 485, 486, 487, 488, 489, 490, 491, 492, 493, 494, 495, 496, 497, 498, 499, 500, 501, 502, 503, 504, 505, 506, 507, 508, 509, 510, 511, 512, 513, 514, 515, 516, 517, 518, 519, 520, 521, 522, 523, 524, 525, 526, 527, 528, 529, 530, 531, 532, 533, 534, 535, 536, 537, 538, 539, 540, 541, 542, 543, 544, 545, 546, 547, 548, 549, 550, 551, 552, 553, 554, 555, 556, 557, 558, 559, 560, 561, 562, 563, 564, 565, 566, 567, 568, 569, 570, 571, 572, 573, 574, 575, 576, 577, 578, 579, 580, 581, 582, 583, 584, 585, 586, 587, 588, 589, 590, 591, 592, 593, 594] ((List.range 28).flatMap fun i => ev_sW (i + 0)) = true := by decide +kernel
set_option maxRecDepth 100000 in
theorem ev_sP28 : ev_fm [595, 596, 597, 598, 599, 600, 601, 602, 603, 604, 605, 606, 607, 608, 609, 610, 611, 612, 613, 614, 615, 616, 617, 618, 619, 620, 621, 622, 623, 624, 625, 627, 628, 629, 630, 631, 632, 633, 634, 635, 636, 637, 638, 639, 640, 641, 642, 643, 644, 645, 646, 647, 648, 649, 650, 651, 652, 653, 654, 655, 656, 657, 658, 659, 660, 661, 662, 663, 664, 665, 666, 667, 668, 669, 670, 671, 672, 673, 674, 675, 676, 677, 678, 679, 680, 681, 682, 683, 684, 685, 686, 687, 688, 689, 690, 691, 692, 693, 694, 695, 696, 697, 698, 699, 701, 702, 703, 704, 705, 706, 707, 708, 709, 710, 711, 712, 713, 714, 716, 717, 718, 719, 720, 721, 722, 723, 724, 725, 726, 727, 728, 729, 730, 731, 732, 733, 734, 735, 736, 739, 740, 741, 742, 743, 744, 745, 746, 747, 748, 749, 750, 751, 752, 753, 754, 755, 756, 757, 758, 759] ((List.range 28).flatMap fun i => ev_sW (i + 28)) = true := by decide +kernel
set_option maxRecDepth 100000 in
theorem ev_sP56 : ev_fm [761, 762, 763, 764, 765, 766, 767, 769, 770, 771, 772, 773, 774, 775, 776, 777, 778, 781, 782, 783, 784, 785, 786, 787, 788, 789, 790, 791, 792, 793, 795, 796, 797, 798, 799, 800, 801, 802, 803, 804, 805, 806, 807, 808, 809, 810, 811, 812, 814, 815, 816, 817, 818, 819, 820, 821, 822, 823, 824, 825, 826, 827, 828, 829, 830, 831, 832, 833, 834, 835, 836, 837, 838, 839, 840, 841, 842, 843, 844, 845, 846, 847, 848, 849, 850, 851, 852, 853, 854, 855, 856, 857, 858, 859, 860, 861, 862, 863, 864, 865, 866, 867, 868, 869, 870, 871, 872, 873, 874, 875, 876, 877, 878, 880, 881, 882, 883, 884, 885, 886, 887, 888, 889, 890, 891, 892, 893, 894, 895, 896, 897, 898, 899, 900, 901, 902, 903, 904, 905, 906, 907, 908, 909, 910, 911, 912, 913, 914, 915, 916, 917, 918, 919, 920, 921, 922, 923, 924, 925, 926, 927, 928, 929, 930, 931, 932, 933, 934, 935, 936, 937, 939, 940, 941, 942, 943, 944, 945, 946, 947, 948, 949, 950, 951, 952, 953, 954, 955, 956, 957, 958, 959, 960, 961, 962, 963, 964, 965, 966, 967, 968, 969, 970, 971, 972, 973, 974, 975, 976, 977, 978, 979, 980, 981, 982] ((List.range 28).flatMap fun i => ev_sW (i + 56)) = true := by decide +kernel
set_option maxRecDepth 100000 in
theorem ev_sP84 : ev_fm [983, 984, 985, 986, 987, 988, 989, 990, 991, 992, 993, 994, 995, 996, 997, 998, 999, 1000, 1001, 1002, 1003, 1004, 1005, 1006, 1007, 1008, 1009, 1010, 1011, 1012, 1013, 1014, 1015, 1016, 1017, 1018, 1019, 1020, 1021, 1022, 1023, 1024, 1025, 1026, 1027, 1028, 1029, 1030, 1031, 1032, 1033, 1034, 1035, 1036, 1037, 1038, 1039, 1040, 1041, 1042, 1043, 1044, 1045, 1046, 1047, 1048, 1049, 1050, 1051, 1052, 1053, 1054, 1055, 1056, 1057, 1058, 1059, 1060, 1061, 1062, 1063, 1064, 1065, 1066, 1067, 1068, 1069, 1070, 1071, 1072, 1073, 1075, 1076, 1077, 1078, 1079, 1080, 1081, 1082, 1083, 1084, 1085, 1086, 1087, 1088, 1089, 1090, 1091, 1092, 1093, 1094, 1095, 1096, 1097, 1098, 1099, 1100, 1101, 1102, 1103, 1104, 1105, 1106, 1107, 1108, 1109, 1110, 1111, 1112, 1113, 1114, 1115, 1116, 1117, 1118, 1119, 1120, 1121, 1122, 1123, 1124, 1125, 1126, 1127, 1128, 1129, 1130, 1131, 1132, 1133, 1134, 1135, 1136, 1137, 1138, 1139, 1140, 1141, 1142, 1143, 1144, 1145, 1146, 1147, 1148, 1149, 1150, 1151, 1152, 1153, 1154, 1155, 1156, 1157, 1158, 1159, 1160, 1161, 1162, 1163, 1164, 1165, 1166, 1167, 1168, 1169, 1170, 1171, 1172, 1173, 1174, 1175, 1176, 1177, 1178, 1179, 1180, 1181, 1182, 1183, 1184, 1185, 1186, 1187, 1188, 1189, 1190, 1191, 1192, 1193, 1194, 1195, 1196, 1197] ((List.range 26).flatMap fun i => ev_sW (i + 84)) = true := by decide +kernel
set_option maxRecDepth 100000 in
theorem ev_eP0 : ev_fm [109, 110, 111, 112, 113, 114, 115, 116, 117, 118, 119, 120, 121, 122, 123, 124, 125, 126, 127, 128, 129, 130, 131, 132, 133, 134, 135, 136, 137, 138, 68, 69, 70, 71, 72, 73, 74, 75, 76, 77, 78, 79, 139, 140, 141, 142, 143, 144, 145, 146, 147, 148, 149, 150, 151, 152, 153, 154, 155, 156, 157, 158, 159, 160, 161, 162, 163, 164, 165, 166, 167, 168, 169, 170, 171, 172, 173, 174, 175, 176, 177, 178, 179, 180, 181, 182, 183, 184, 185, 186, 187, 188, 189, 190, 191, 192, 193, 194, 195, 196, 197, 198, 199, 200, 201, 202, 203, 204, 205, 206, 207, 208, 209, 210, 211, 212, 213, 214, 215, 216, 217, 218, 219, 220, 221, 222, 223, 224, 225, 226, 227, 228, 229, 230, 231, 232, 233, 234, 235, 236, 237, 238, 239, 240, 241, 242, 243, 244, 245, 246, 247, 248, 249, 250, 251, 252, 253, 254, 255, 256, 257, 258, 259, 260, 261, 262, 263, 264] ((List.range 28).flatMap fun i => ev_eW (i + 0)) = true := by decide +kernel
set_option maxRecDepth 100000 in
theorem ev_eP28 : ev_fm [265, 266, 267, 268, 269, 270, 271, 272, 273, 274, 275, 276, 277, 278, 279, 280, 281, 282, 283, 284, 285, 286, 287, 288, 289, 290, 291, 292, 293, 294, 295, 296, 297, 298, 299, 300, 301, 302, 303, 304, 305, 306, 307, 308, 309, 310, 311, 312, 313, 314, 315, 316, 317, 318, 319, 320, 321, 322, 323, 324, 325, 326, 327, 328, 329, 330, 331, 332, 333, 334, 335, 336, 337, 338, 339, 340, 341, 342, 343, 344, 345, 346, 347, 348, 349, 350, 351, 352, 353, 354, 355, 356, 357, 358, 359, 360, 361, 362, 363, 364, 365, 366, 367, 368, 369, 370, 371, 372, 373, 374, 375, 376, 377, 378, 379, 380, 381, 382, 383, 384, 385, 386, 387, 388, 389, 390, 391, 392, 393, 394, 395, 396, 397, 398, 399, 400, 401, 402, 403, 404, 405, 406, 407, 408, 409, 410, 411, 412, 413, 414, 415, 416, 417, 418, 419, 420] ((List.range 26).flatMap fun i => ev_eW (i + 28)) = true := by decide +kernel
set_option maxRecDepth 100000 in
theorem ev_fP : ev_fm [81, 82, 83, 84, 85, 86, 87, 88, 89, 90, 91, 92, 93, 94, 95, 96, 97, 98, 99, 100, 101, 102, 103, 104, 105, 106, 107, 108, 11, 12, 14, 15, 16, 17, 18, 19, 20, 21, 22, 23, 24, 25, 26, 27, 28, 29, 30, 31, 32, 33, 34, 35, 36, 37, 38, 39, 40, 41, 42, 43, 44, 45, 46, 47, 48, 49, 50, 51, 52, 53, 54, 55, 56, 57, 58, 59, 60, 61, 62, 63, 64, 65, 66, 67, 4, 5] (ev_fW ++ ev_gW ++ ev_cW) = true := by decide +kernel
theorem ev_sM {i : Nat} (hi : i < 110) : ∀ w ∈ ev_sW i, w ∈ ev_FL := by
  intro w hw
  rcases Nat.lt_or_ge i 28 with h0 | h0
  · exact ev_fm_mem _ _ ev_sP0 w (List.mem_flatMap.mpr ⟨i - 0, List.mem_range.mpr (by omega), by rw [show i - 0 + 0 = i by omega]; exact hw⟩)
  rcases Nat.lt_or_ge i 56 with h28 | h28
  · exact ev_fm_mem _ _ ev_sP28 w (List.mem_flatMap.mpr ⟨i - 28, List.mem_range.mpr (by omega), by rw [show i - 28 + 28 = i by omega]; exact hw⟩)
  rcases Nat.lt_or_ge i 84 with h56 | h56
  · exact ev_fm_mem _ _ ev_sP56 w (List.mem_flatMap.mpr ⟨i - 56, List.mem_range.mpr (by omega), by rw [show i - 56 + 56 = i by omega]; exact hw⟩)
  rcases Nat.lt_or_ge i 110 with h84 | h84
  · exact ev_fm_mem _ _ ev_sP84 w (List.mem_flatMap.mpr ⟨i - 84, List.mem_range.mpr (by omega), by rw [show i - 84 + 84 = i by omega]; exact hw⟩)
  exact absurd hi (by omega)
theorem ev_eM {i : Nat} (hi : i < 54) : ∀ w ∈ ev_eW i, w ∈ ev_FL := by
  intro w hw
  rcases Nat.lt_or_ge i 28 with h0 | h0
  · exact ev_fm_mem _ _ ev_eP0 w (List.mem_flatMap.mpr ⟨i - 0, List.mem_range.mpr (by omega), by rw [show i - 0 + 0 = i by omega]; exact hw⟩)
  rcases Nat.lt_or_ge i 54 with h28 | h28
  · exact ev_fm_mem _ _ ev_eP28 w (List.mem_flatMap.mpr ⟨i - 28, List.mem_range.mpr (by omega), by rw [show i - 28 + 28 = i by omega]; exact hw⟩)
  exact absurd hi (by omega)
theorem ev_lyFIGURES : Jvm.Cond.laysStatic "StemRules$Keys" "FIGURES" "[C" ∈ lw_tbl := List.mem_of_getElem? (i := 689) (by decide +kernel)
theorem ev_lyENDINGS : Jvm.Cond.laysStatic "StemRules$Porter" "ENDINGS" "[LStemRules$Ending;" ∈ lw_tbl := List.mem_of_getElem? (i := 496) (by decide +kernel)
theorem ev_lyCOMPACT : Jvm.Cond.laysStatic "java/lang/String" "COMPACT_STRINGS" "Z" ∈ lw_tbl := List.mem_of_getElem? (i := 391) (by decide +kernel)
theorem ev_lySIOOBE : Jvm.Cond.laysStatic "jdk/internal/util/Preconditions" "SIOOBE_FORMATTER" "Ljava/util/function/BiFunction;" ∈ lw_tbl := List.mem_of_getElem? (i := 411) (by decide +kernel)
theorem ev_lyED : Jvm.Cond.laysStatic "StemRules$Ending" "ED" "LStemRules$Ending;" ∈ lw_tbl := List.mem_of_getElem? (i := 506) (by decide +kernel)
theorem ev_lyING : Jvm.Cond.laysStatic "StemRules$Ending" "ING" "LStemRules$Ending;" ∈ lw_tbl := List.mem_of_getElem? (i := 508) (by decide +kernel)
theorem ev_inK : Jvm.Cond.initialized "StemRules$Keys" ∈ lw_tbl := List.mem_of_getElem? (i := 60) (by decide +kernel)
theorem ev_inO : Jvm.Cond.initialized "StemRules$Porter" ∈ lw_tbl := List.mem_of_getElem? (i := 56) (by decide +kernel)
theorem ev_inS : Jvm.Cond.initialized "java/lang/String" ∈ lw_tbl := List.mem_of_getElem? (i := 52) (by decide +kernel)
theorem ev_inP : Jvm.Cond.initialized "jdk/internal/util/Preconditions" ∈ lw_tbl := List.mem_of_getElem? (i := 54) (by decide +kernel)
theorem ev_inE : Jvm.Cond.initialized "StemRules$Ending" ∈ lw_tbl := List.mem_of_getElem? (i := 59) (by decide +kernel)
theorem ev_ar_int : Jvm.Cond.arrayClass .int ∈ lw_tbl := List.mem_of_getElem? (i := 106) (by decide +kernel)
theorem ev_ar_char : Jvm.Cond.arrayClass .char ∈ lw_tbl := List.mem_of_getElem? (i := 83) (by decide +kernel)
theorem ev_ar_boolean : Jvm.Cond.arrayClass .boolean ∈ lw_tbl := List.mem_of_getElem? (i := 107) (by decide +kernel)
theorem ev_it0 : Jvm.Cond.instantiable RX0 6 ∈ lw_tbl := List.mem_of_getElem? (i := 147) (by decide +kernel)
theorem ev_it1 : Jvm.Cond.instantiable RX1 6 ∈ lw_tbl := List.mem_of_getElem? (i := 191) (by decide +kernel)
theorem ev_it2 : Jvm.Cond.instantiable RX3 6 ∈ lw_tbl := List.mem_of_getElem? (i := 122) (by decide +kernel)
theorem ev_it3 : Jvm.Cond.instantiable RX5 2 ∈ lw_tbl := List.mem_of_getElem? (i := 109) (by decide +kernel)
theorem ev_it4 : Jvm.Cond.instantiable RX6 4 ∈ lw_tbl := List.mem_of_getElem? (i := 172) (by decide +kernel)
theorem ev_it5 : Jvm.Cond.instantiable RX8 2 ∈ lw_tbl := List.mem_of_getElem? (i := 71) (by decide +kernel)
theorem ev_it6 : Jvm.Cond.instantiable RX9 6 ∈ lw_tbl := List.mem_of_getElem? (i := 218) (by decide +kernel)
theorem ev_it7 : Jvm.Cond.instantiable RX10 5 ∈ lw_tbl := List.mem_of_getElem? (i := 85) (by decide +kernel)
theorem ev_it8 : Jvm.Cond.instantiable RX11 9 ∈ lw_tbl := List.mem_of_getElem? (i := 63) (by decide +kernel)
theorem ev_it9 : Jvm.Cond.instantiable RX12 33 ∈ lw_tbl := List.mem_of_getElem? (i := 851) (by decide +kernel)
theorem ev_strWords : ∀ q ∈ ev_strs, Jvm.Cond.stringRef q.1 q.2.1 q.2.2 ∈ lw_tbl := by
  have h : (ev_strs.zip [377, 434, 435, 436, 444, 445, 446, 447, 448, 449, 450, 451, 452, 480, 512, 513, 514, 515, 516, 517, 697, 698, 704, 705, 706, 707, 708, 709, 710, 711, 712, 716, 717, 719, 720, 721, 722, 723, 724, 725, 729, 730, 736, 737, 738, 739, 740, 741, 745, 746, 747, 1346, 1347, 1348, 1349, 1350, 1351, 1352, 1353, 1354, 1355, 1356, 1357, 1358, 1359, 1360, 1361, 1362, 1363, 1364, 1365, 1366, 1367, 1368, 1369, 1370, 1371, 1372, 1373, 1374, 1375, 1376, 1377, 1378, 1379, 1380, 1381, 1382, 1383, 1384, 1385, 1386, 1387, 1388, 1389, 1390, 1391, 1392, 1393, 1394, 1395, 1396, 1397, 1398, 1399, 1400, 1401, 1402, 1403, 1404]).all (fun z => decide (lw_tbl[z.2]? = some (Jvm.Cond.stringRef z.1.1 z.1.2.1 z.1.2.2))) = true := by decide +kernel
  intro q hq
  obtain ⟨i, hi⟩ := List.getElem?_of_mem hq
  have hl : i < ev_strs.length := (List.getElem?_eq_some_iff.mp hi).1
  obtain ⟨p, hp⟩ : ∃ p, ([377, 434, 435, 436, 444, 445, 446, 447, 448, 449, 450, 451, 452, 480, 512, 513, 514, 515, 516, 517, 697, 698, 704, 705, 706, 707, 708, 709, 710, 711, 712, 716, 717, 719, 720, 721, 722, 723, 724, 725, 729, 730, 736, 737, 738, 739, 740, 741, 745, 746, 747, 1346, 1347, 1348, 1349, 1350, 1351, 1352, 1353, 1354, 1355, 1356, 1357, 1358, 1359, 1360, 1361, 1362, 1363, 1364, 1365, 1366, 1367, 1368, 1369, 1370, 1371, 1372, 1373, 1374, 1375, 1376, 1377, 1378, 1379, 1380, 1381, 1382, 1383, 1384, 1385, 1386, 1387, 1388, 1389, 1390, 1391, 1392, 1393, 1394, 1395, 1396, 1397, 1398, 1399, 1400, 1401, 1402, 1403, 1404] : List Nat)[i]? = some p := ⟨_, List.getElem?_eq_getElem (by rw [show ([377, 434, 435, 436, 444, 445, 446, 447, 448, 449, 450, 451, 452, 480, 512, 513, 514, 515, 516, 517, 697, 698, 704, 705, 706, 707, 708, 709, 710, 711, 712, 716, 717, 719, 720, 721, 722, 723, 724, 725, 729, 730, 736, 737, 738, 739, 740, 741, 745, 746, 747, 1346, 1347, 1348, 1349, 1350, 1351, 1352, 1353, 1354, 1355, 1356, 1357, 1358, 1359, 1360, 1361, 1362, 1363, 1364, 1365, 1366, 1367, 1368, 1369, 1370, 1371, 1372, 1373, 1374, 1375, 1376, 1377, 1378, 1379, 1380, 1381, 1382, 1383, 1384, 1385, 1386, 1387, 1388, 1389, 1390, 1391, 1392, 1393, 1394, 1395, 1396, 1397, 1398, 1399, 1400, 1401, 1402, 1403, 1404] : List Nat).length = ev_strs.length from by decide +kernel]; exact hl)⟩
  have h1 := List.all_eq_true.mp h (q, p) (List.mem_of_getElem? (i := i) (List.getElem?_zip_eq_some.mpr ⟨hi, hp⟩))
  exact List.mem_of_getElem? (of_decide_eq_true h1)
