set_option maxRecDepth 100000 in
theorem ev_k128 : ev_okm yX12_find cX12_find ev_c128 := ev_okm_one (pls := [[], [], [], [], [862], [], [], [861], [], [], [], [], [], [], [], [], [], [], [], [], [], [], [], [], [860], [], [], [], [], [], [], [], [876], [], [], [], [], [], [], [], [], [], [], [], [], [], [], [], [], [], [], []]) (by decide +kernel)
theorem ev_j128 : ev_ckM (yX12_find, cX12_find, (Option.some Jvm.ClassFile.FieldType.int)) (6, 2, 1, 9) [986, 51] = true := by decide +kernel
set_option maxRecDepth 100000 in
theorem ev_k129 : ev_okm yX12_learn cX12_learn ev_c129 := ev_okm_one (pls := [[], [], [], [877], [983, 985, 10, 51, 986], [], [], [], [], [862], [], [], [], [], [], [], [877], [], [], [860], [], [], [862], [], [], [], [], [876], [], [], [], [], [], [], [861], [], [862], [], [877], [], [], [863], [], [862], [], [], [], [864], [], [862], [], [], [], [862], [], [], [], [862], [], [], [862], [], []]) (by decide +kernel)
theorem ev_j129 : ev_ckM (yX12_learn, cX12_learn, (Option.some Jvm.ClassFile.FieldType.int)) (3, 0, 1, 9) [982, 51] = true := by decide +kernel
set_option maxRecDepth 100000 in
theorem ev_k130 : ev_okm yX12_word cX12_word ev_c130 := ev_okm_one (pls := [[], [857], [], [], [], [857], [], [], [], [968, 969, 51, 970], [], [], [], [], [], [], [], [], [], [], [], [], [], [856], [], [], [], [], [968, 969, 51, 970], [], [], [], [], [], [], [876], [], [], [856], [], [], [], [], [], [], [], [], [], [], [], [877], [], [979, 981, 9, 51, 982], [], [], [], [], [], [], []]) (by decide +kernel)
theorem ev_j130 : ev_ckM (yX12_word, cX12_word, (Option.some Jvm.ClassFile.FieldType.int)) (4, 0, 1, 9) [978, 51] = true := by decide +kernel
set_option maxRecDepth 100000 in
theorem ev_k131 : ev_okm yX12_spell cX12_spell ev_c131 := ev_okm_one (pls := [[], [], [991, 993, 11, 51, 994], [], [], [], [], [], [995, 997, 12, 51, 998], [], [999, 1001, 13, 51, 1002], []]) (by decide +kernel)
theorem ev_j131 : ev_ckM (yX12_spell, cX12_spell, (Option.some Jvm.ClassFile.FieldType.int)) (2, 1, 1, 9) [990, 51] = true := by decide +kernel
set_option maxRecDepth 100000 in
theorem ev_k132 : ev_okm yX12_isVowel cX12_isVowel ev_c132 := ev_okm_one (pls := [[], [], [], [], [], [], [], [], [], [], [], [], [], [], [], [], [], [], []]) (by decide +kernel)
theorem ev_j132 : ev_ckM (yX12_isVowel, cX12_isVowel, (Option.some Jvm.ClassFile.FieldType.boolean)) (1, 1, 2, 9) [1069, 51] = true := by decide +kernel
set_option maxRecDepth 100000 in
theorem ev_k133 : ev_okm yX12_isC cX12_isC ev_c133 := ev_okm_one (pls := [[], [], [], [], [], [], [], [], [876], [], [], [], [], [], [], [], [], [], [], [], [], [], [876], [], [], [1067, 1068, 51, 1069], [], [], [], [], [], [], [], [], []]) (by decide +kernel)
theorem ev_j133 : ev_ckM (yX12_isC, cX12_isC, (Option.some Jvm.ClassFile.FieldType.boolean)) (4, 1, 2, 9) [1066, 51] = true := by decide +kernel
set_option maxRecDepth 100000 in
theorem ev_k134 : ev_okm yX12_measure0 cX12_measure0 ev_c134 := ev_okm_one (pls := [[], [], [], [], [], [], [], [], [], [], [1063, 1065, 23, 51, 1066], [], [], [], [], [], [1063, 1065, 23, 51, 1066], [], [], [], [], [], [], [], [], [], []]) (by decide +kernel)
theorem ev_j134 : ev_ckM (yX12_measure0, cX12_measure0, (Option.some Jvm.ClassFile.FieldType.int)) (4, 1, 1, 9) [1062, 51] = true := by decide +kernel
set_option maxRecDepth 100000 in
theorem ev_k135 : ev_okm yX12_hasV cX12_hasV ev_c135 := ev_okm_one (pls := [[], [], [], [], [], [], [], [1063, 1065, 23, 51, 1066], [], [], [], [], [], [], []]) (by decide +kernel)
theorem ev_j135 : ev_ckM (yX12_hasV, cX12_hasV, (Option.some Jvm.ClassFile.FieldType.boolean)) (3, 1, 2, 9) [1075, 51] = true := by decide +kernel
set_option maxRecDepth 100000 in
theorem ev_k136 : ev_okm yX12_lettersOf cX12_lettersOf ev_c136 := ev_okm_one (pls := [[], [], [], [], [], [], [], [], [], [], [], [], [], [], [], []]) (by decide +kernel)
theorem ev_j136 : ev_ckM (yX12_lettersOf, cX12_lettersOf, (Option.some Jvm.ClassFile.FieldType.int)) (5, 1, 1, 9) [1022, 51] = true := by decide +kernel
set_option maxRecDepth 100000 in
theorem ev_k137 : ev_okm yX12_letterOf cX12_letterOf ev_c137 := ev_okm_one (pls := [[], [], [], [], [], [], [1030], [], [], [], []]) (by decide +kernel)
theorem ev_j137 : ev_ckM (yX12_letterOf, cX12_letterOf, (Option.some Jvm.ClassFile.FieldType.int)) (3, 2, 1, 9) [1029, 51] = true := by decide +kernel
set_option maxRecDepth 100000 in
theorem ev_k138 : ev_okm yX12_ends cX12_ends ev_c138 := ev_okm_one (pls := [[], [1020, 1021, 51, 1022], [], [], [], [877], [], [], [], [877], [], [], [], [1023, 1025, 17, 51, 1026], [], [], [], [], []]) (by decide +kernel)
theorem ev_j138 : ev_ckM (yX12_ends, cX12_ends, (Option.some Jvm.ClassFile.FieldType.boolean)) (4, 1, 2, 9) [1019, 51] = true := by decide +kernel
set_option maxRecDepth 100000 in
theorem ev_k139 : ev_okm yX12_turn cX12_turn ev_c139 := ev_okm_one (pls := [[], [], [877], [], [], [877], [], [1020, 1021, 51, 1022], [], [], [], [], [], [], [], [876], [], [877], [], [], [1027, 1028, 51, 1029], [], [], [], [877], [], [], [877], [], [], []]) (by decide +kernel)
theorem ev_j139 : ev_ckM (yX12_turn, cX12_turn, (Option.none : Option Jvm.ClassFile.FieldType)) (6, 2, 0, 9) [1037, 51] = true := by decide +kernel
set_option maxRecDepth 100000 in
theorem ev_k140 : ev_okm yX12_isO cX12_isO ev_c140 := ev_okm_one (pls := [[], [], [], [], [], [], [], [1063, 1065, 23, 51, 1066], [], [], [], [], [], [1063, 1065, 23, 51, 1066], [], [], [], [], [], [1063, 1065, 23, 51, 1066], [], [], [], [], [876], [], [], [], [], [], [], [], [], [], [], [], [], [], [], [], [], [], []]) (by decide +kernel)
theorem ev_j140 : ev_ckM (yX12_isO, cX12_isO, (Option.some Jvm.ClassFile.FieldType.boolean)) (3, 1, 2, 9) [1087, 51] = true := by decide +kernel
set_option maxRecDepth 100000 in
theorem ev_k141 : ev_okm yX12_plural cX12_plural ev_c141 := ev_okm_one (pls := [[], [877], [], [], [], [], [1015], [1016, 1018, 16, 51, 1019], [], [], [1031], [1016, 1018, 16, 51, 1019], [], [], [1032], [1016, 1018, 16, 51, 1019], [], [], [], [1033], [1034, 1036, 18, 51, 1037], [], [], [1038], [1016, 1018, 16, 51, 1019], [], [], [1039], [1016, 1018, 16, 51, 1019], [], [], [1040], [1016, 1018, 16, 51, 1019], [], [], [1041], [1016, 1018, 16, 51, 1019], [], [], [1042], [1016, 1018, 16, 51, 1019], [], [], [1043], [1016, 1018, 16, 51, 1019], [], [], [1044], [1016, 1018, 16, 51, 1019], [], [], [], [877], [], [], [877], []]) (by decide +kernel)
theorem ev_j141 : ev_ckM (yX12_plural, cX12_plural, (Option.none : Option Jvm.ClassFile.FieldType)) (1, 0, 0, 9) [1014, 51] = true := by decide +kernel
set_option maxRecDepth 100000 in
theorem ev_k142_0 : ev_ckA yX12_second cX12_second 0 ((ev_c142.drop 0).take 100) [[], []] = true := by decide +kernel
set_option maxRecDepth 100000 in
theorem ev_k142_100 : ev_ckA yX12_second cX12_second 100 ((ev_c142.drop 100).take 100) [[1102], [], [1103], [], [1104], [], [1105], [], [1106], [], [1107], []] = true := by decide +kernel
set_option maxRecDepth 100000 in
theorem ev_k142_200 : ev_ckA yX12_second cX12_second 200 ((ev_c142.drop 200).take 100) [[1108], [], [1109], [], [1110], [], [1111], [], [1112], [], [1113], [], [1114], [], [1115], [], [1116], [], [1117], [], [1118], [], [1079], [], [1119], [], [1120], [], [1121], [], [1111], [], [1122], [], [1103], [], [1123], [], [1103], [], [1124], [], [1115], [], [1125], [], [1126], [], [1127], []] = true := by decide +kernel
set_option maxRecDepth 100000 in
theorem ev_k142_300 : ev_ckA yX12_second cX12_second 300 ((ev_c142.drop 300).take 100) [[1128], [], [1129], [], [1120], [], [1130], [], [1115], [], [1131], [], [1126], [], [1132], [], [1133], [], [], []] = true := by decide +kernel
set_option maxRecDepth 100000 in
theorem ev_n142 : ev_c142.length = 338 := by decide +kernel
theorem ev_k142 : ev_okm yX12_second cX12_second ev_c142 := fun j e hj => if h0 : j < 100 then ev_okm_cut 0 100 ev_k142_0 j e (by omega) (by omega) hj else if h100 : j < 200 then ev_okm_cut 100 100 ev_k142_100 j e (by omega) (by omega) hj else if h200 : j < 300 then ev_okm_cut 200 100 ev_k142_200 j e (by omega) (by omega) hj else (have hl : j < 338 := by have hl := (List.getElem?_eq_some_iff.mp hj).1; rw [ev_n142] at hl; exact hl
    ev_okm_cut 300 100 ev_k142_300 j e (by omega) (by omega) hj)
theorem ev_j142 : ev_ckM (yX12_second, cX12_second, (Option.some Jvm.ClassFile.FieldType.long)) (1, 1, 5, 9) [1101, 51] = true := by decide +kernel
set_option maxRecDepth 100000 in
theorem ev_k143 : ev_okm yX12_third cX12_third ev_c143 := ev_okm_one (pls := [[], [], [1137], [], [1138], [], [1139], [], [], [], [1140], [], [1115], [], [1141], [], [1138], [], [1142], [], [1138], [], [1128], [], [], [], [1143], [], [], [], [], []]) (by decide +kernel)
theorem ev_j143 : ev_ckM (yX12_third, cX12_third, (Option.some Jvm.ClassFile.FieldType.long)) (1, 1, 5, 9) [1136, 51] = true := by decide +kernel
