set_option maxRecDepth 100000 in
theorem ev_k144 : ev_okm yX12_fourth cX12_fourth ev_c144 := ev_okm_one (pls := [[], [], [1115], [], [1109], [], [1107], [], [1147], [], [1138], [], [1113], [], [1148], [], [1149], [], [1150], [], [1151], [], [1117], [], [1152], [], [1153], [], [1154], [], [1103], [], [1155], [], [1120], [], [1126], [], [1111], [], [], []]) (by decide +kernel)
theorem ev_j144 : ev_ckM (yX12_fourth, cX12_fourth, (Option.some Jvm.ClassFile.FieldType.long)) (1, 1, 5, 9) [1146, 51] = true := by decide +kernel
set_option maxRecDepth 100000 in
theorem ev_k145 : ev_okm yX12_ending cX12_ending ev_c145 := ev_okm_one (pls := [[], [], [], [], [1099, 1100, 51, 1101], [], [], [], [], [], [1134, 1135, 51, 1136], [], [], [1144, 1145, 51, 1146], []]) (by decide +kernel)
theorem ev_j145 : ev_ckM (yX12_ending, cX12_ending, (Option.some Jvm.ClassFile.FieldType.long)) (2, 2, 5, 9) [1098, 51] = true := by decide +kernel
set_option maxRecDepth 100000 in
theorem ev_k146 : ev_okm yX12_longest cX12_longest ev_c146 := ev_okm_one (pls := [[], [], [], [], [], [], [], [], [], [], [], [], [], [], [], [1096, 1097, 51, 1098], [], [], [], [], [], [1096, 1097, 51, 1098], [], [], [], [1016, 1018, 16, 51, 1019], [], [], [1020, 1021, 51, 1022], [], [], [], [], [], [1020, 1021, 51, 1022], [], [], [], [], [], [], [], []]) (by decide +kernel)
theorem ev_j146 : ev_ckM (yX12_longest, cX12_longest, (Option.some Jvm.ClassFile.FieldType.int)) (8, 1, 1, 9) [1095, 51] = true := by decide +kernel
set_option maxRecDepth 100000 in
theorem ev_k147 : ev_okm yX12_replace cX12_replace ev_c147 := ev_okm_one (pls := [[], [], [1092, 1094, 28, 51, 1095], [], [], [], [], [], [], [], [1096, 1097, 51, 1098], [1020, 1021, 51, 1022], [], [], [], [], [], [877], [], [], [1059, 1061, 22, 51, 1062], [], [], [], [], [], [], [], [1096, 1097, 51, 1098], [1034, 1036, 18, 51, 1037], []]) (by decide +kernel)
theorem ev_j147 : ev_ckM (yX12_replace, cX12_replace, (Option.none : Option Jvm.ClassFile.FieldType)) (4, 1, 0, 9) [1091, 51] = true := by decide +kernel
set_option maxRecDepth 100000 in
theorem ev_k148_0 : ev_ckA yX12_do1b cX12_do1b 0 ((ev_c148.drop 0).take 100) [[], [1058], [1016, 1018, 16, 51, 1019], [], [], [], [877], [], [], [1059, 1061, 22, 51, 1062], [], [], [], [877], [], [], [877], [], [], [1070], [1016, 1018, 16, 51, 1019], [], [], [], [], [1071], [1016, 1018, 16, 51, 1019], [], [], [], [], [], [], [], [], [], [877], [], [], [1072, 1074, 24, 51, 1075], [], [], [], [], [877], [], [], [877], [], [1076], [1016, 1018, 16, 51, 1019], []] = true := by decide +kernel
set_option maxRecDepth 100000 in
theorem ev_k148_100 : ev_ckA yX12_do1b cX12_do1b 100 ((ev_c148.drop 100).take 100) [[], [1077], [1016, 1018, 16, 51, 1019], [], [], [1078], [1016, 1018, 16, 51, 1019], [], [], [], [1079], [1034, 1036, 18, 51, 1037], [], [], [877], [], [], [], [876], [], [877], [], [], [], [], [876], [], [877], [], [], [], [], [], [], [877], [], [], [1063, 1065, 23, 51, 1066], [], [], [], [877], [], [], [1063, 1065, 23, 51, 1066], [], [], [876], [], [877]] = true := by decide +kernel
set_option maxRecDepth 100000 in
theorem ev_k148_200 : ev_ckA yX12_do1b cX12_do1b 200 ((ev_c148.drop 200).take 100) [[], [], [], [], [], [], [877], [], [], [], [], [], [], [], [], [], [], [], [], [], [877], [], [], [], [], [], [], [], [], [], [], [1080, 1082, 25, 51, 1083], [], [], [1080, 1082, 25, 51, 1083], []] = true := by decide +kernel
set_option maxRecDepth 100000 in
theorem ev_n148 : ev_c148.length = 266 := by decide +kernel
theorem ev_k148 : ev_okm yX12_do1b cX12_do1b ev_c148 := fun j e hj => if h0 : j < 100 then ev_okm_cut 0 100 ev_k148_0 j e (by omega) (by omega) hj else if h100 : j < 200 then ev_okm_cut 100 100 ev_k148_100 j e (by omega) (by omega) hj else (have hl : j < 266 := by have hl := (List.getElem?_eq_some_iff.mp hj).1; rw [ev_n148] at hl; exact hl
    ev_okm_cut 200 100 ev_k148_200 j e (by omega) (by omega) hj)
theorem ev_j148 : ev_ckM (yX12_do1b, cX12_do1b, (Option.none : Option Jvm.ClassFile.FieldType)) (3, 0, 0, 9) [1057, 51] = true := by decide +kernel
set_option maxRecDepth 100000 in
theorem ev_k149 : ev_okm yX12_shortE cX12_shortE ev_c149 := ev_okm_one (pls := [[], [], [877], [1059, 1061, 22, 51, 1062], [], [], [], [], [877], [1084, 1086, 26, 51, 1087], [], [], [], [1079], [1034, 1036, 18, 51, 1037], []]) (by decide +kernel)
theorem ev_j149 : ev_ckM (yX12_shortE, cX12_shortE, (Option.none : Option Jvm.ClassFile.FieldType)) (1, 0, 0, 9) [1083, 51] = true := by decide +kernel
set_option maxRecDepth 100000 in
theorem ev_k150_0 : ev_ckA yX12_porterStep cX12_porterStep 0 ((ev_c150.drop 0).take 100) [[], [], [], [1053], [1016, 1018, 16, 51, 1019], [], [], [1015], [1016, 1018, 16, 51, 1019], [], [], [], [877], [], [], [877], [], [], [1042], [1016, 1018, 16, 51, 1019], [], [], [1044], [1016, 1018, 16, 51, 1019], [], [], [], [877]] = true := by decide +kernel
set_option maxRecDepth 100000 in
theorem ev_k150_100 : ev_ckA yX12_porterStep cX12_porterStep 100 ((ev_c150.drop 100).take 100) [[], [], [877], [], [], [1054, 1056, 21, 51, 1057], [], [], [1033], [1016, 1018, 16, 51, 1019], [], [], [], [877], [], [], [1072, 1074, 24, 51, 1075], [], [], [876], [], [877], [], [], [], [], [], [], [], [1088, 1090, 27, 51, 1091], [], [], [], [1088, 1090, 27, 51, 1091], [], [], [], [1092, 1094, 28, 51, 1095], [], [], [], [], [877], [], [1144, 1145, 51, 1146], [1020, 1021, 51, 1022], [], [], [], [], [1059, 1061, 22, 51, 1062]] = true := by decide +kernel
set_option maxRecDepth 100000 in
theorem ev_k150_200 : ev_ckA yX12_porterStep cX12_porterStep 200 ((ev_c150.drop 200).take 100) [[], [], [], [], [], [], [], [], [876], [], [], [], [], [], [], [], [876], [], [], [], [], [], [], [], [], [], [], [], [], [], [], [], [], [877], [877], [], [], [1079], [1016, 1018, 16, 51, 1019], [], [], [], [877], [], [], [1059, 1061, 22, 51, 1062], [], [], [], [877], [], [], [], [], []] = true := by decide +kernel
set_option maxRecDepth 100000 in
theorem ev_k150_300 : ev_ckA yX12_porterStep cX12_porterStep 300 ((ev_c150.drop 300).take 100) [[], [], [], [877], [], [], [1084, 1086, 26, 51, 1087], [], [], [], [], [], [877], [], [], [1156], [1016, 1018, 16, 51, 1019], [], [], [], [877], [1059, 1061, 22, 51, 1062], [], [], [], [], [877], [], [], [877], []] = true := by decide +kernel
set_option maxRecDepth 100000 in
theorem ev_n150 : ev_c150.length = 361 := by decide +kernel
theorem ev_k150 : ev_okm yX12_porterStep cX12_porterStep ev_c150 := fun j e hj => if h0 : j < 100 then ev_okm_cut 0 100 ev_k150_0 j e (by omega) (by omega) hj else if h100 : j < 200 then ev_okm_cut 100 100 ev_k150_100 j e (by omega) (by omega) hj else if h200 : j < 300 then ev_okm_cut 200 100 ev_k150_200 j e (by omega) (by omega) hj else (have hl : j < 361 := by have hl := (List.getElem?_eq_some_iff.mp hj).1; rw [ev_n150] at hl; exact hl
    ev_okm_cut 300 100 ev_k150_300 j e (by omega) (by omega) hj)
theorem ev_j150 : ev_ckM (yX12_porterStep, cX12_porterStep, (Option.none : Option Jvm.ClassFile.FieldType)) (5, 1, 0, 9) [1052, 51] = true := by decide +kernel
set_option maxRecDepth 100000 in
theorem ev_k151 : ev_okm yX12_porter cX12_porter ev_c151 := ev_okm_one (pls := [[], [877], [], [], [], [], [], [], [], [], [], [1049, 1051, 20, 51, 1052], [], [], []]) (by decide +kernel)
theorem ev_j151 : ev_ckM (yX12_porter, cX12_porter, (Option.none : Option Jvm.ClassFile.FieldType)) (3, 1, 0, 9) [1048, 51] = true := by decide +kernel
set_option maxRecDepth 100000 in
theorem ev_k152 : ev_okm yX12_endsWith cX12_endsWith ev_c152 := ev_okm_one (pls := [[], [861], [], [], [], [877], [], [], [], [], [], [], [], [], [], [], [], [861], [], [], [], [], [876], [], [877], [], [861], [], [], [], [], [], [], [], [860], [], [], [], [], [], [], [], [], [], [], [], [], [], [], []]) (by decide +kernel)
theorem ev_j152 : ev_ckM (yX12_endsWith, cX12_endsWith, (Option.some Jvm.ClassFile.FieldType.boolean)) (4, 1, 2, 9) [1164, 51] = true := by decide +kernel
set_option maxRecDepth 100000 in
theorem ev_k153 : ev_okm yX12_isGood cX12_isGood ev_c153 := ev_okm_one (pls := [[], [], [], [], [], [], [], [], [], [], [], [876], [], [], [1067, 1068, 51, 1069], [], [], [], [], [], [], [], [], [], [], [], [], [], [], [], [], [], [876], [], [], [1067, 1068, 51, 1069], [], [], [876], [], [], [], [], [], [], [], [], [], [], [], [], [], [], [], [], [], [], [], []]) (by decide +kernel)
theorem ev_j153 : ev_ckM (yX12_isGood, cX12_isGood, (Option.some Jvm.ClassFile.FieldType.boolean)) (5, 2, 2, 9) [1168, 51] = true := by decide +kernel
set_option maxRecDepth 100000 in
theorem ev_k154_0 : ev_ckA yX12_husk cX12_husk 0 ((ev_c154.drop 0).take 100) [[], [], [], [], [], [], [], [], [], [], [], [870], [], [], [], [865], [], [], [1161, 1163, 30, 51, 1164], [], [], [], [], [866], [], [], [], [], [], [877], [], [867], [], [], [], [], [868], [], [], [], [], [], [], [], [861], [], [868], [], [], [], [1165, 1167, 31, 51, 1168], [], [], [], [], [], [870]] = true := by decide +kernel
set_option maxRecDepth 100000 in
theorem ev_k154_100 : ev_ckA yX12_husk cX12_husk 100 ((ev_c154.drop 100).take 100) [[], [], [], [], [877], [], [867], [], [], [], [877], [], [868], [], [], [], [], [], [], [], [], [], [], [861], [], [], [], [], [876], [], [877], [], [860], [], [], [], [], [], [], [], [], [], [877], [], [], [877], [], [], [], [], [], [869], [], [], [], []] = true := by decide +kernel
set_option maxRecDepth 100000 in
theorem ev_k154_200 : ev_ckA yX12_husk cX12_husk 200 ((ev_c154.drop 200).take 100) [[], [], []] = true := by decide +kernel
set_option maxRecDepth 100000 in
theorem ev_n154 : ev_c154.length = 207 := by decide +kernel
theorem ev_k154 : ev_okm yX12_husk cX12_husk ev_c154 := fun j e hj => if h0 : j < 100 then ev_okm_cut 0 100 ev_k154_0 j e (by omega) (by omega) hj else if h100 : j < 200 then ev_okm_cut 100 100 ev_k154_100 j e (by omega) (by omega) hj else (have hl : j < 207 := by have hl := (List.getElem?_eq_some_iff.mp hj).1; rw [ev_n154] at hl; exact hl
    ev_okm_cut 200 100 ev_k154_200 j e (by omega) (by omega) hj)
theorem ev_j154 : ev_ckM (yX12_husk, cX12_husk, (Option.none : Option Jvm.ClassFile.FieldType)) (6, 0, 0, 9) [1160, 51] = true := by decide +kernel
set_option maxRecDepth 100000 in
theorem ev_k155 : ev_okm yX12_stemOf cX12_stemOf ev_c155 := ev_okm_one (pls := [[], [], [], [], [], [863], [], [], [], [], [], [], [], [], [], [864], [], [], [], [], [], [], [864], [], [], [995, 997, 12, 51, 998], [], [], [], [], [], [1011, 1013, 15, 51, 1014], [], [], [], [], [], [], [1045, 1047, 19, 51, 1048], [], [], [1157, 1159, 29, 51, 1160], []]) (by decide +kernel)
theorem ev_j155 : ev_ckM (yX12_stemOf, cX12_stemOf, (Option.none : Option Jvm.ClassFile.FieldType)) (3, 2, 0, 9) [1010, 51] = true := by decide +kernel
set_option maxRecDepth 100000 in
theorem ev_k156 : ev_okm yX12_stem cX12_stem ev_c156 := ev_okm_one (pls := [[], [], [991, 993, 11, 51, 994], [], [], [], [], [], [], [968, 969, 51, 970], [], [], [], [], [], [995, 997, 12, 51, 998], [], [], [], [1007, 1009, 14, 51, 1010], [], [999, 1001, 13, 51, 1002], []]) (by decide +kernel)
theorem ev_j156 : ev_ckM (yX12_stem, cX12_stem, (Option.some Jvm.ClassFile.FieldType.int)) (3, 2, 1, 9) [1006, 51] = true := by decide +kernel
set_option maxRecDepth 100000 in
theorem ev_k157 : ev_okm yX12_step cX12_step ev_c157 := ev_okm_one (pls := [[], [], [991, 993, 11, 51, 994], [], [], [], [], [], [], [968, 969, 51, 970], [], [], [], [], [], [995, 997, 12, 51, 998], [], [], [1045, 1047, 19, 51, 1048], [], [999, 1001, 13, 51, 1002], []]) (by decide +kernel)
theorem ev_j157 : ev_ckM (yX12_step, cX12_step, (Option.some Jvm.ClassFile.FieldType.int)) (3, 2, 1, 9) [1172, 51] = true := by decide +kernel
set_option maxRecDepth 100000 in
theorem ev_k158 : ev_okm yX12_measure cX12_measure ev_c158 := ev_okm_one (pls := [[], [], [991, 993, 11, 51, 994], [], [], [], [], [], [995, 997, 12, 51, 998], [], [], [877], [1059, 1061, 22, 51, 1062], []]) (by decide +kernel)
theorem ev_j158 : ev_ckM (yX12_measure, cX12_measure, (Option.some Jvm.ClassFile.FieldType.int)) (2, 1, 1, 9) [1176, 51] = true := by decide +kernel
set_option maxRecDepth 100000 in
theorem ev_k159 : ev_okm yX12_mark cX12_mark ev_c159 := ev_okm_one (pls := [[], [], [991, 993, 11, 51, 994], [], [], [], [], [], [], [968, 969, 51, 970], [], [], [], [], [], [], [], [], [863], [], [], [], [], [], [], [], [], [], [], [863], [], [], [], [], [863], [], [], [], [], [], [], [863], [], [], [], [], [], [], [], [], [], [], [], [], [], []]) (by decide +kernel)
theorem ev_j159 : ev_ckM (yX12_mark, cX12_mark, (Option.some Jvm.ClassFile.FieldType.int)) (6, 3, 1, 9) [1180, 51] = true := by decide +kernel
