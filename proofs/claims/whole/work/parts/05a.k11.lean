set_option maxRecDepth 100000 in
theorem ev_k176 : ev_okm yX12_key cX12_key ev_c176 := ev_okm_one (pls := [[], [], [991, 993, 11, 51, 994], [], [], [], [], [], [], [968, 969, 51, 970], [], [], [], [], [], [995, 997, 12, 51, 998], [], [], [], [1225, 1227, 35, 51, 1228], [], [], [1232, 1234, 36, 51, 1235], []]) (by decide +kernel)
theorem ev_j176 : ev_ckM (yX12_key, cX12_key, (Option.some Jvm.ClassFile.FieldType.int)) (3, 2, 1, 9) [1224, 51] = true := by decide +kernel
set_option maxRecDepth 100000 in
theorem ev_k177 : ev_okm yX12_letterAt cX12_letterAt ev_c177 := ev_okm_one (pls := [[], [], [], [], [], [], [], [], [856], [], [], [], [], [], [856], [], [], [], [], [], [856], [], [], [], [], [], [], [856], [], [], [], [], [], [], [968, 969, 51, 970], [], [], [], [], []]) (by decide +kernel)
theorem ev_j177 : ev_ckM (yX12_letterAt, cX12_letterAt, (Option.some Jvm.ClassFile.FieldType.int)) (4, 2, 1, 9) [1275, 51] = true := by decide +kernel
set_option maxRecDepth 100000 in
theorem ev_k178_0 : ev_ckA yX12_text cX12_text 0 ((ev_c178.drop 0).take 100) [[], [857], [], [], [], [857], [], [], [], [968, 969, 51, 970], [], [], [], [], [862], [], [], [], [885], [], [], [], [], [], [], [], [], [885], [], [], [], [], [], [1272, 1274, 39, 51, 1275], [], [], [], [], [], [], [], [], [1272, 1274, 39, 51, 1275], [], [], [], [], [], [856], [], [], [], []] = true := by decide +kernel
set_option maxRecDepth 100000 in
theorem ev_k178_100 : ev_ckA yX12_text cX12_text 100 ((ev_c178.drop 100).take 100) [[], [], [], [], [], [1272, 1274, 39, 51, 1275], [], [], [], [], [], [], [1272, 1274, 39, 51, 1275], [], [], [887], [], [], [], [], [1272, 1274, 39, 51, 1275], [], [], [888], [], [], [], [], [], [], [], [], [], [], [887], [], [], [], [], [], [], [], [887], [], [], [], [], [], [], [], [], [], [], [], []] = true := by decide +kernel
set_option maxRecDepth 100000 in
theorem ev_k178_200 : ev_ckA yX12_text cX12_text 200 ((ev_c178.drop 200).take 100) [[], [], [887], [], [], [], [], [887], [], [], [887], [], [], [], [], [888], [], [], [888], [], [], [], [], [], [], [], [], [], [], [], [], [885], [], [], [], [], [], [], [], [1265, 1266, 51, 1267], [877], [], [], [], [], [877], [], [], [876]] = true := by decide +kernel
set_option maxRecDepth 100000 in
theorem ev_k178_300 : ev_ckA yX12_text cX12_text 300 ((ev_c178.drop 300).take 100) [[], [], [887], [], [], [], [], [], [], [], [], [], [877], [], [], [], [], [888], [], [], [877], [], [], [], [], [], [], [], [], [877], [983, 985, 10, 51, 986], [], [], [], [], [863], [], [], [], [], [], [], [], [], [], [888], [], [], [], [], [888], [], [], [], [1276, 1278, 40, 51, 1279]] = true := by decide +kernel
set_option maxRecDepth 100000 in
theorem ev_k178_400 : ev_ckA yX12_text cX12_text 400 ((ev_c178.drop 400).take 100) [[], [], [], [862], [], [], [], [], [], [], [], [], [885], [883], [], [], [], [], [], [883], [], [], [], [882], [], [], [884], [], [], [], [], [], [], [], [886], [], [883], []] = true := by decide +kernel
set_option maxRecDepth 100000 in
theorem ev_n178 : ev_c178.length = 478 := by decide +kernel
theorem ev_k178 : ev_okm yX12_text cX12_text ev_c178 := fun j e hj => if h0 : j < 100 then ev_okm_cut 0 100 ev_k178_0 j e (by omega) (by omega) hj else if h100 : j < 200 then ev_okm_cut 100 100 ev_k178_100 j e (by omega) (by omega) hj else if h200 : j < 300 then ev_okm_cut 200 100 ev_k178_200 j e (by omega) (by omega) hj else if h300 : j < 400 then ev_okm_cut 300 100 ev_k178_300 j e (by omega) (by omega) hj else (have hl : j < 478 := by have hl := (List.getElem?_eq_some_iff.mp hj).1; rw [ev_n178] at hl; exact hl
    ev_okm_cut 400 100 ev_k178_400 j e (by omega) (by omega) hj)
theorem ev_j178 : ev_ckM (yX12_text, cX12_text, (Option.some Jvm.ClassFile.FieldType.int)) (11, 1, 1, 9) [1271, 51] = true := by decide +kernel
set_option maxRecDepth 100000 in
theorem ev_k179 : ev_okm yX12_lay cX12_lay ev_c179 := ev_okm_one (pls := [[], [979, 981, 9, 51, 982], [], [], [], [], [], [], [], [], [1007, 1009, 14, 51, 1010], [], [979, 981, 9, 51, 982], [], [], [], [885], [], [], [], [884], [], [], [], [], [884], [], [], [], [], [], [], [884], [], [], [], [], [], [], [884], [], [], [], [], [], [], [884], [], [], [], [], [], [], [], [885], [], [], [885], [], [], [], [], [], []]) (by decide +kernel)
theorem ev_j179 : ev_ckM (yX12_lay, cX12_lay, (Option.some Jvm.ClassFile.FieldType.boolean)) (8, 4, 2, 9) [1279, 51] = true := by decide +kernel
set_option maxRecDepth 100000 in
theorem ev_k180 : ev_okm yX12_token cX12_token ev_c180 := ev_okm_one (pls := [[], [], [], [968, 969, 51, 970], [], [], [], [], [], [], [883], [], [], [968, 969, 51, 970], [], [], [], [], [882], [], [], [], [], [], [], []]) (by decide +kernel)
theorem ev_j180 : ev_ckM (yX12_token, cX12_token, (Option.some Jvm.ClassFile.FieldType.int)) (3, 2, 1, 9) [1283, 51] = true := by decide +kernel
set_option maxRecDepth 100000 in
theorem ev_k181 : ev_okm yX12_told cX12_told ev_c181 := ev_okm_one (pls := [[], [], [], [862], [], [], [883], [], [], [870], [], [], [874], [], [], [886], [], [], [857], [], [], []]) (by decide +kernel)
theorem ev_j181 : ev_ckM (yX12_told, cX12_told, (Option.some Jvm.ClassFile.FieldType.int)) (2, 1, 1, 9) [1287, 51] = true := by decide +kernel
set_option maxRecDepth 100000 in
theorem ev_k182 : ev_okm yJ6_bitCount_0f7a4 cJ6_bitCount_0f7a4 ev_c182 := ev_okm_one (pls := [[], [], [], [], [488], [], [], [], [], [489], [], [], [], [], [489], [], [], [], [], [], [], [], [], [490], [], [], [], [], [], [], [], [], [], [], [], [], [], [], [], [], [], []]) (by decide +kernel)
theorem ev_j182 : ev_ckM (yJ6_bitCount_0f7a4, cJ6_bitCount_0f7a4, (Option.some Jvm.ClassFile.FieldType.int)) (1, 1, 1, 98) [487, 57] = true := by decide +kernel
set_option maxRecDepth 100000 in
theorem ev_k183 : ev_okm yJ0_length_8abf5 cJ0_length_8abf5 ev_c183 := ev_okm_one (pls := [[], [1288], [], [], [386, 387, 388, 52, 389], [], []]) (by decide +kernel)
theorem ev_j183 : ev_ckM (yJ0_length_8abf5, cJ0_length_8abf5, (Option.some Jvm.ClassFile.FieldType.int)) (1, 0, 1, 99) [385, 52] = true := by decide +kernel
set_option maxRecDepth 100000 in
theorem ev_k184 : ev_okm yJ0_charAt_5068e cJ0_charAt_5068e ev_c184 := ev_okm_one (pls := [[], [400, 401, 402, 52, 403], [], [], [1288], [], [404, 405, 53, 406], [], [], [1288], [], []]) (by decide +kernel)
theorem ev_j184 : ev_ckM (yJ0_charAt_5068e, cJ0_charAt_5068e, (Option.some Jvm.ClassFile.FieldType.char)) (2, 1, 3, 99) [399, 52] = true := by decide +kernel
set_option maxRecDepth 100000 in
theorem ev_k185 : ev_okm yJ0_coder_7d493 cJ0_coder_7d493 ev_c185 := ev_okm_one (pls := [[390], [], [], [1289], [], [], []]) (by decide +kernel)
theorem ev_j185 : ev_ckM (yJ0_coder_7d493, cJ0_coder_7d493, (Option.some Jvm.ClassFile.FieldType.byte)) (1, 0, 6, 99) [389, 52] = true := by decide +kernel
set_option maxRecDepth 100000 in
theorem ev_k186 : ev_okm yJ0_isLatin1_aae02 cJ0_isLatin1_aae02 ev_c186 := ev_okm_one (pls := [[390], [], [], [1289], [], [], [], [], []]) (by decide +kernel)
theorem ev_j186 : ev_ckM (yJ0_isLatin1_aae02, cJ0_isLatin1_aae02, (Option.some Jvm.ClassFile.FieldType.boolean)) (1, 0, 2, 99) [403, 52] = true := by decide +kernel
set_option maxRecDepth 100000 in
theorem ev_k187 : ev_okm yJ0_checkIndex_df160 cJ0_checkIndex_df160 ev_c187 := ev_okm_one (pls := [[], [], [410], [412, 413, 54, 414], [], []]) (by decide +kernel)
theorem ev_j187 : ev_ckM (yJ0_checkIndex_df160, cJ0_checkIndex_df160, (Option.none : Option Jvm.ClassFile.FieldType)) (2, 2, 0, 99) [409, 52] = true := by decide +kernel
set_option maxRecDepth 100000 in
theorem ev_k188 : ev_okm yJ1_charAt_3b067 cJ1_charAt_3b067 ev_c188 := ev_okm_one (pls := [[], [], [], [407, 408, 52, 409], [], [], [], [], [], [], []]) (by decide +kernel)
theorem ev_j188 : ev_ckM (yJ1_charAt_3b067, cJ1_charAt_3b067, (Option.some Jvm.ClassFile.FieldType.char)) (2, 2, 3, 98) [406, 53] = true := by decide +kernel
set_option maxRecDepth 100000 in
theorem ev_k189 : ev_okm yJ3_checkIndex_8e157 cJ3_checkIndex_8e157 ev_c189 := ev_okm_one (pls := [[], [], [], [], [], [], [], [], [], []]) (by decide +kernel)
theorem ev_j189 : ev_ckM (yJ3_checkIndex_8e157, cJ3_checkIndex_8e157, (Option.some Jvm.ClassFile.FieldType.int)) (3, 3, 1, 98) [414, 54] = true := by decide +kernel
set_option maxRecDepth 100000 in
theorem ev_k190_0 : ev_ckA x cL_law 0 ((ev_c190.drop 0).take 100) [[62, 63, 42], [], [64, 65, 42, 66], [], [850, 851, 51], [], [852, 853, 51, 854], [], [], [], [], [], [], [], [], [], [], [], [], [], [], []] = true := by decide +kernel
set_option maxRecDepth 100000 in
theorem ev_k190_100 : ev_ckA x cL_law 100 ((ev_c190.drop 100).take 100) [[], [], [], [], [], [], [], [], [], [], [], [], [], [], [], [], [], [], [], [], [], [], [], [], [], [], [270, 271, 272, 42, 273], [], [], [], [], [], [], [], [], [], [], [], [], [], [], [], [], [], [], [], [], [], [], [], [], [], [], [956, 957, 958, 51, 959], [], [], [], [], [], [], [], [], [], [286, 287, 288, 42, 289]] = true := by decide +kernel
set_option maxRecDepth 100000 in
theorem ev_k190_200 : ev_ckA x cL_law 200 ((ev_c190.drop 200).take 100) [[], [], [], [], [], [], [964, 965, 966, 51, 967], [], [], [], [], [], [], [], [], [], [294, 295, 296, 42, 297], [], [], [], [], [], [], [971, 972, 973, 51, 974], [], [], [], [], [306, 307, 308, 42, 309], [], [975, 976, 977, 51, 978], [], [], [], [], [], [], [], [], [], [340, 341, 342, 42, 343], [], [], [], [], [], [], [987, 988, 989, 51, 990], [], [], [], [], [], [], [], [], [], [], [], [], [], [], [355, 356, 357, 42, 358], [], [], [], [], [], [], [], [], [], [], [], [1003, 1004, 1005, 51, 1006]] = true := by decide +kernel
set_option maxRecDepth 100000 in
theorem ev_k190_300 : ev_ckA x cL_law 300 ((ev_c190.drop 300).take 100) [[], [], [], [], [], [], [], [], [], [], [], [], [], [], [548, 549, 550, 42, 551], [], [], [], [], [], [], [], [], [], [], [], [1169, 1170, 1171, 51, 1172], [], [], [], [], [], [], [], [], [], [552, 553, 554, 42, 555], [], [], [], [], [], [], [1173, 1174, 1175, 51, 1176], [], [], [], [], [], [], [], [], [], [], [], [], [], [], [], [], [], [], [], [], [], [], [], [558, 559, 560, 42, 561], [], [], [], [], [], [], [], [], [], [], []] = true := by decide +kernel
set_option maxRecDepth 100000 in
theorem ev_k190_400 : ev_ckA x cL_law 400 ((ev_c190.drop 400).take 100) [[], [], [], [], [], [], [], [], [], [1177, 1178, 1179, 51, 1180], [], [], [], [], [], [], [], [], [], [], [], [], [], [], [566, 567, 568, 42, 569], [], [], [], [], [], [], [], [], [], [], [], [1181, 1182, 1183, 51, 1184], [], [], [], [], [], [], [], [], [], [], [], [], [], [], [], [], [], [], [], [], [], [], [], [], [], [], [], [], [], [], [], [], [], [], [], [], [], [578, 579, 580, 42, 581], []] = true := by decide +kernel
set_option maxRecDepth 100000 in
theorem ev_k190_500 : ev_ckA x cL_law 500 ((ev_c190.drop 500).take 100) [[], [], [], [], [], [], [], [], [], [], [], [], [], [], [], [], [], [], [], [], [], [], [], [], [], [], [], [], [], [], [], [], [], [1185, 1186, 1187, 51, 1188], [], [], [], [], [587, 588, 589, 42, 590], [], [1189, 1190, 1191, 51, 1192], [], [], [], [], [], [], [], [], [], [], [], [], [], [], [], [], [], [], [], [], [], [], [], [599, 600, 601, 42, 602], [], [], [], [], [], [], [], [], []] = true := by decide +kernel
set_option maxRecDepth 100000 in
theorem ev_k190_600 : ev_ckA x cL_law 600 ((ev_c190.drop 600).take 100) [[], [], [], [], [], [], [], [], [], [], [], [1193, 1194, 1195, 51, 1196], [], [], [], [], [], [], [], [], [], [], [], [], [], [], [607, 608, 609, 42, 610], [], [], [], [], [], [], [], [], [], [], [], [1197, 1198, 1199, 51, 1200], [], [], [], [], [], [], [], [], [], [635, 636, 637, 42, 638], [], [], [], [], [], [], [1213, 1214, 1215, 51, 1216], [], [], [], [], [], [], [], [], [], [], [], [], [], [], [643, 644, 645, 42, 646], [], [], [], [], [], [], [], [], []] = true := by decide +kernel
set_option maxRecDepth 100000 in
theorem ev_k190_700 : ev_ckA x cL_law 700 ((ev_c190.drop 700).take 100) [[], [], [1217, 1218, 1219, 51, 1220], [], [], [], [], [], [], [], [], [], [], [], [], [], [], [675, 676, 677, 42, 678], [], [], [], [], [], [], [], [], [], [], [], [1221, 1222, 1223, 51, 1224], [], [], [], [], [], [], [], [], [], [748, 749, 750, 42, 751], [], [], [], [], [], [], [1268, 1269, 1270, 51, 1271], [], [], [], [], [], [], [], [], [], [], [], [], [], [], [830, 831, 832, 42, 833], [], [], [], [], [], [], [], [], [], [], [], [1280, 1281, 1282, 51, 1283], [], [], [], []] = true := by decide +kernel
set_option maxRecDepth 100000 in
theorem ev_k190_800 : ev_ckA x cL_law 800 ((ev_c190.drop 800).take 100) [[], [], [], [], [], [838, 839, 840, 42, 841], [], [], [], [], [], [], [1284, 1285, 1286, 51, 1287], [], [], [], [], [], [], []] = true := by decide +kernel
set_option maxRecDepth 100000 in
theorem ev_n190 : ev_c190.length = 830 := by decide +kernel
theorem ev_k190 : ev_okm x cL_law ev_c190 := fun j e hj => if h0 : j < 100 then ev_okm_cut 0 100 ev_k190_0 j e (by omega) (by omega) hj else if h100 : j < 200 then ev_okm_cut 100 100 ev_k190_100 j e (by omega) (by omega) hj else if h200 : j < 300 then ev_okm_cut 200 100 ev_k190_200 j e (by omega) (by omega) hj else if h300 : j < 400 then ev_okm_cut 300 100 ev_k190_300 j e (by omega) (by omega) hj else if h400 : j < 500 then ev_okm_cut 400 100 ev_k190_400 j e (by omega) (by omega) hj else if h500 : j < 600 then ev_okm_cut 500 100 ev_k190_500 j e (by omega) (by omega) hj else if h600 : j < 700 then ev_okm_cut 600 100 ev_k190_600 j e (by omega) (by omega) hj else if h700 : j < 800 then ev_okm_cut 700 100 ev_k190_700 j e (by omega) (by omega) hj else (have hl : j < 830 := by have hl := (List.getElem?_eq_some_iff.mp hj).1; rw [ev_n190] at hl; exact hl
    ev_okm_cut 800 100 ev_k190_800 j e (by omega) (by omega) hj)
