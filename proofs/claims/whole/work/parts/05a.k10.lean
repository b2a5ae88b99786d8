set_option maxRecDepth 100000 in
theorem ev_k160 : ev_okm yX12_pair cX12_pair ev_c160 := ev_okm_one (pls := [[], [], [991, 993, 11, 51, 994], [], [], [], [], [], [], [991, 993, 11, 51, 994], [], [], [], [], [864], [], [], [], [], [864], [], [], [], [], []]) (by decide +kernel)
theorem ev_j160 : ev_ckM (yX12_pair, cX12_pair, (Option.some Jvm.ClassFile.FieldType.int)) (4, 2, 1, 9) [1184, 51] = true := by decide +kernel
set_option maxRecDepth 100000 in
theorem ev_k161 : ev_okm yX12_row cX12_row ev_c161 := ev_okm_one (pls := [[], [], [991, 993, 11, 51, 994], [], [], [], [], [], [], [991, 993, 11, 51, 994], [], [], [], [], [861], [], [], [], [], [], [], [], [], [861], [], [], [], [], [], [], [], [968, 969, 51, 970], [], [], [], [], [870], [], [], [], [], [], [865], [], [870], [], [], [], [866], [], [870], [], [], [], [867], [], [870], [], [], [], [868], [], [870], [], [], [], [869], [], [870], [], [], [], [], [870], [], [], [870], [], [870], [], [], []]) (by decide +kernel)
theorem ev_j161 : ev_ckM (yX12_row, cX12_row, (Option.some Jvm.ClassFile.FieldType.int)) (6, 5, 1, 9) [1188, 51] = true := by decide +kernel
set_option maxRecDepth 100000 in
theorem ev_k162 : ev_okm yX12_rowless cX12_rowless ev_c162 := ev_okm_one (pls := [[], [870], [], [], [], [870], [], []]) (by decide +kernel)
theorem ev_j162 : ev_ckM (yX12_rowless, cX12_rowless, (Option.some Jvm.ClassFile.FieldType.int)) (2, 0, 1, 9) [1192, 51] = true := by decide +kernel
set_option maxRecDepth 100000 in
theorem ev_k163 : ev_okm yX12_affix cX12_affix ev_c163 := ev_okm_one (pls := [[], [], [991, 993, 11, 51, 994], [], [], [], [], [], [], [991, 993, 11, 51, 994], [], [], [], [], [861], [], [], [], [], [], [], [], [], [861], [], [], [], [], [], [], [], [874], [], [], [], [], [], [871], [], [874], [], [], [], [872], [], [874], [], [], [], [873], [], [874], [], [], [], [], [874], [], [], [874], [], [874], [], [], []]) (by decide +kernel)
theorem ev_j163 : ev_ckM (yX12_affix, cX12_affix, (Option.some Jvm.ClassFile.FieldType.int)) (4, 3, 1, 9) [1196, 51] = true := by decide +kernel
set_option maxRecDepth 100000 in
theorem ev_k164 : ev_okm yX12_isMember cX12_isMember ev_c164 := ev_okm_one (pls := [[], [], [], [863], [], [], [], [], [], [], [], [], []]) (by decide +kernel)
theorem ev_j164 : ev_ckM (yX12_isMember, cX12_isMember, (Option.some Jvm.ClassFile.FieldType.boolean)) (2, 1, 2, 9) [1204, 51] = true := by decide +kernel
set_option maxRecDepth 100000 in
theorem ev_k165_0 : ev_ckA yX12_byAffix cX12_byAffix 0 ((ev_c165.drop 0).take 100) [[], [861], [], [872], [], [], [], [], [], [], [872], [], [], [], [], [], [861], [], [], [], [], [], [], [], [], [], [871], [], [], [], [], [], [], [], [], [], [], [], [], [], [], [], [860], [], [], [], [], [], [], [], [], [], [860], [], [], [], [], [], [], [], []] = true := by decide +kernel
set_option maxRecDepth 100000 in
theorem ev_k165_100 : ev_ckA yX12_byAffix cX12_byAffix 100 ((ev_c165.drop 100).take 100) [[], [], [], [877], [], [871], [], [], [], [], [], [], [], [], [], [1209, 1211, 34, 51, 1212], [], [], [873], [], [], [], [], [1209, 1211, 34, 51, 1212], [], [], [], [873], [], [], [], [], [1209, 1211, 34, 51, 1212], [], [], [], [], [1209, 1211, 34, 51, 1212], [], [877], [], [], [], [], [], [], [], [877], [983, 985, 10, 51, 986], [], [], [], [1201, 1203, 32, 51, 1204], [], [], []] = true := by decide +kernel
set_option maxRecDepth 100000 in
theorem ev_k165_200 : ev_ckA yX12_byAffix cX12_byAffix 200 ((ev_c165.drop 200).take 100) [[], []] = true := by decide +kernel
set_option maxRecDepth 100000 in
theorem ev_n165 : ev_c165.length = 204 := by decide +kernel
theorem ev_k165 : ev_okm yX12_byAffix cX12_byAffix ev_c165 := fun j e hj => if h0 : j < 100 then ev_okm_cut 0 100 ev_k165_0 j e (by omega) (by omega) hj else if h100 : j < 200 then ev_okm_cut 100 100 ev_k165_100 j e (by omega) (by omega) hj else (have hl : j < 204 := by have hl := (List.getElem?_eq_some_iff.mp hj).1; rw [ev_n165] at hl; exact hl
    ev_okm_cut 200 100 ev_k165_200 j e (by omega) (by omega) hj)
theorem ev_j165 : ev_ckM (yX12_byAffix, cX12_byAffix, (Option.some Jvm.ClassFile.FieldType.int)) (8, 2, 1, 9) [1208, 51] = true := by decide +kernel
set_option maxRecDepth 100000 in
theorem ev_k166 : ev_okm yX12_add cX12_add ev_c166 := ev_okm_one (pls := [[], [], [], [], [], [], [], [], [], [], [861], [], [], [], [], [876], [], [877], [], [860], [], [], [], [], [], [], [], [], [], [877], [], [], [877], [], [], []]) (by decide +kernel)
theorem ev_j166 : ev_ckM (yX12_add, cX12_add, (Option.none : Option Jvm.ClassFile.FieldType)) (5, 3, 0, 9) [1212, 51] = true := by decide +kernel
set_option maxRecDepth 100000 in
theorem ev_k167 : ev_okm yX12_base cX12_base ev_c167 := ev_okm_one (pls := [[], [], [991, 993, 11, 51, 994], [], [], [], [], [], [], [], [1201, 1203, 32, 51, 1204], [], [], [878], [], [], [], [], [], [], [], [], [874], [], [], [], [], [1205, 1207, 33, 51, 1208], [], [], [], [], [], [], [], [], [], [], [], [], [], [], [878], [], [], [], [], [], [], [], [], [], [], [], [], [], [], [878], [], [], [], [], [], [], [], [], [], [], [], [968, 969, 51, 970], [], [], [], [], [878], [], [], []]) (by decide +kernel)
theorem ev_j167 : ev_ckM (yX12_base, cX12_base, (Option.some Jvm.ClassFile.FieldType.int)) (8, 2, 1, 9) [1200, 51] = true := by decide +kernel
set_option maxRecDepth 100000 in
theorem ev_k168 : ev_okm yX12_least cX12_least ev_c168 := ev_okm_one (pls := [[], [], [], [968, 969, 51, 970], [], [], [], [], [875], [], [], [], [875], [], []]) (by decide +kernel)
theorem ev_j168 : ev_ckM (yX12_least, cX12_least, (Option.some Jvm.ClassFile.FieldType.int)) (3, 1, 1, 9) [1216, 51] = true := by decide +kernel
set_option maxRecDepth 100000 in
theorem ev_k169_0 : ev_ckA yX12_part cX12_part 0 ((ev_c169.drop 0).take 100) [[], [], [991, 993, 11, 51, 994], [], [], [], [], [], [995, 997, 12, 51, 998], [], [879], [], [877], [], [], [], [877], [], [], [], [], [], [], [879], [], [], [], [], [875], [], [], [], [], [], [877], [], [], [], [], [], [877], [], [], [], [], [], [], [], [], [879], [], [], [], [], [], []] = true := by decide +kernel
set_option maxRecDepth 100000 in
theorem ev_k169_100 : ev_ckA yX12_part cX12_part 100 ((ev_c169.drop 100).take 100) [[], [], [], [], [], [983, 985, 10, 51, 986], [], [], [], [1201, 1203, 32, 51, 1204], [], [], [879], [], [], [], [], [], [], [], [879], [], [], [], [], [879], [], [], [879], [], [], [], [], [], [], [], [], [880], [], [], [], [], [881], [], [], [], [], [], [], [], [], [879], [], [], [], [], [], []] = true := by decide +kernel
set_option maxRecDepth 100000 in
theorem ev_k169_200 : ev_ckA yX12_part cX12_part 200 ((ev_c169.drop 200).take 100) [[], [879], [], [], [], [], [], [], [], [], [], [], [], [], [], [968, 969, 51, 970], [], [], [], [], [], [], [], [], [], [], [], [], [880], [], [], [], [], [], [], [], [881], [], [], []] = true := by decide +kernel
set_option maxRecDepth 100000 in
theorem ev_n169 : ev_c169.length = 268 := by decide +kernel
theorem ev_k169 : ev_okm yX12_part cX12_part ev_c169 := fun j e hj => if h0 : j < 100 then ev_okm_cut 0 100 ev_k169_0 j e (by omega) (by omega) hj else if h100 : j < 200 then ev_okm_cut 100 100 ev_k169_100 j e (by omega) (by omega) hj else (have hl : j < 268 := by have hl := (List.getElem?_eq_some_iff.mp hj).1; rw [ev_n169] at hl; exact hl
    ev_okm_cut 200 100 ev_k169_200 j e (by omega) (by omega) hj)
theorem ev_j169 : ev_ckM (yX12_part, cX12_part, (Option.some Jvm.ClassFile.FieldType.int)) (7, 2, 1, 9) [1220, 51] = true := by decide +kernel
set_option maxRecDepth 100000 in
theorem ev_k170 : ev_okm yX12_figure cX12_figure ev_c170 := ev_okm_one (pls := [[], [], [], [], [], [], [], [], [], [], [], [], [], [], [], []]) (by decide +kernel)
theorem ev_j170 : ev_ckM (yX12_figure, cX12_figure, (Option.some Jvm.ClassFile.FieldType.int)) (1, 1, 1, 9) [1231, 51] = true := by decide +kernel
set_option maxRecDepth 100000 in
theorem ev_k171 : ev_okm yX12_keyByFigures cX12_keyByFigures ev_c171 := ev_okm_one (pls := [[], [858], [], [], [876], [], [], [], [], [], [859], [], [], [], [], [877], [], [], [859], [], [], [], [], [], [], [], [], [], [876], [], [], [], [], [], [876], [], [], [], [], [], [], [], [876], [], [], [1229, 1230, 51, 1231], [], [], [], [], [], [876], [], [], [1229, 1230, 51, 1231], [], [], [858], [], [859], [], [], [], [], [859], [], [], [859], [], [], [], [859], [], [], [], [858], [], [859], [], [], [], [], [859], [], [], [859], [], [], [859], []]) (by decide +kernel)
theorem ev_j171 : ev_ckM (yX12_keyByFigures, cX12_keyByFigures, (Option.some Jvm.ClassFile.FieldType.int)) (4, 0, 1, 9) [1228, 51] = true := by decide +kernel
set_option maxRecDepth 100000 in
theorem ev_k172 : ev_okm yX12_stands cX12_stands ev_c172 := ev_okm_one (pls := [[], [1020, 1021, 51, 1022], [], [], [], [], [], [877], [], [], [], [], [], [], [], [], [], [], [], [], [], [876], [], [], [], [], [], [], [1027, 1028, 51, 1029], [], [], [], [], [], [], [], [], []]) (by decide +kernel)
theorem ev_j172 : ev_ckM (yX12_stands, cX12_stands, (Option.some Jvm.ClassFile.FieldType.boolean)) (7, 2, 2, 9) [1026, 51] = true := by decide +kernel
set_option maxRecDepth 100000 in
theorem ev_k173 : ev_okm yX12_becomes cX12_becomes ev_c173 := ev_okm_one (pls := [[], [], [], [1023, 1025, 17, 51, 1026], [], [], [1020, 1021, 51, 1022], [], [], [], [], [], [], [], [], [], [876], [], [], [], [], [], [1027, 1028, 51, 1029], [], [], [], [], []]) (by decide +kernel)
theorem ev_j173 : ev_ckM (yX12_becomes, cX12_becomes, (Option.some Jvm.ClassFile.FieldType.boolean)) (9, 3, 2, 9) [1241, 51] = true := by decide +kernel
set_option maxRecDepth 100000 in
theorem ev_k174_0 : ev_ckA yX12_keyBySounds cX12_keyBySounds 0 ((ev_c174.drop 0).take 100) [[], [], [1236], [1237], [1238, 1240, 37, 51, 1241], [], [], [], [1242], [1243], [1238, 1240, 37, 51, 1241], [], [], [], [1244], [1245], [1238, 1240, 37, 51, 1241], [], [], [], [1246], [1247], [1238, 1240, 37, 51, 1241], [], [], [], [1248], [1247], [1238, 1240, 37, 51, 1241], [], [], [], [1249], [1250], [1238, 1240, 37, 51, 1241], [], [], [], [], [], [], [877], [], [], [], [1251]] = true := by decide +kernel
set_option maxRecDepth 100000 in
theorem ev_k174_100 : ev_ckA yX12_keyBySounds cX12_keyBySounds 100 ((ev_c174.drop 100).take 100) [[1016, 1018, 16, 51, 1019], [], [], [1252], [1016, 1018, 16, 51, 1019], [], [], [], [1033], [1034, 1036, 18, 51, 1037], [], [], [1253], [1016, 1018, 16, 51, 1019], [], [], [1254], [1016, 1018, 16, 51, 1019], [], [], [1255], [1016, 1018, 16, 51, 1019], [], [], [1256], [1016, 1018, 16, 51, 1019], [], [], [1257], [1016, 1018, 16, 51, 1019], [], [], [], [1258], [1034, 1036, 18, 51, 1037], [], [858], [], [], [876], [], [], [], []] = true := by decide +kernel
set_option maxRecDepth 100000 in
theorem ev_k174_200 : ev_ckA yX12_keyBySounds cX12_keyBySounds 200 ((ev_c174.drop 200).take 100) [[], [859], [], [], [], [], [877], [], [], [], [1259, 1261, 38, 51, 1262], [], [876], [], [], [], [858], [], [859], [], [], [], [], [], [858], [], [859], [], [876], [], [], [], [], [], [859], [], [], [859], [], [], [], [859], [], [], [], [858], [], [859], [], [], [], [], [], [], [], [859], []] = true := by decide +kernel
set_option maxRecDepth 100000 in
theorem ev_k174_300 : ev_ckA yX12_keyBySounds cX12_keyBySounds 300 ((ev_c174.drop 300).take 100) [[], [859], [], [859], [], [], [], [858], [], [859], [], [], [], [], [], [], [858], [], [859], [], [], [], [], [], [], [], [859], [], [], [859], [], [858], [], [859], [], [], [], [], [], [859], [], [], [], [858], [], [859], [], [], [], [], [], [], [], [859], [], [], [859]] = true := by decide +kernel
set_option maxRecDepth 100000 in
theorem ev_k174_400 : ev_ckA yX12_keyBySounds cX12_keyBySounds 400 ((ev_c174.drop 400).take 100) [[], [], [859], [], [1265, 1266, 51, 1267], [859], [], [859], []] = true := by decide +kernel
set_option maxRecDepth 100000 in
theorem ev_n174 : ev_c174.length = 419 := by decide +kernel
theorem ev_k174 : ev_okm yX12_keyBySounds cX12_keyBySounds ev_c174 := fun j e hj => if h0 : j < 100 then ev_okm_cut 0 100 ev_k174_0 j e (by omega) (by omega) hj else if h100 : j < 200 then ev_okm_cut 100 100 ev_k174_100 j e (by omega) (by omega) hj else if h200 : j < 300 then ev_okm_cut 200 100 ev_k174_200 j e (by omega) (by omega) hj else if h300 : j < 400 then ev_okm_cut 300 100 ev_k174_300 j e (by omega) (by omega) hj else (have hl : j < 419 := by have hl := (List.getElem?_eq_some_iff.mp hj).1; rw [ev_n174] at hl; exact hl
    ev_okm_cut 400 100 ev_k174_400 j e (by omega) (by omega) hj)
theorem ev_j174 : ev_ckM (yX12_keyBySounds, cX12_keyBySounds, (Option.some Jvm.ClassFile.FieldType.int)) (3, 0, 1, 9) [1235, 51] = true := by decide +kernel
set_option maxRecDepth 100000 in
theorem ev_k175_0 : ev_ckA yX12_sound cX12_sound 0 ((ev_c175.drop 0).take 100) [[], [], [1263], [1264], [1238, 1240, 37, 51, 1241], [], [], [], [876], [], [], [], [], [1067, 1068, 51, 1069], [], [], [876], [], [], [], [], [], [], [], [], [876], [], [], [], [], [], [], [], [], [876], [], [], [], [], [], [], [], [], [876], [], [], [], [], [], [], [], [], [876]] = true := by decide +kernel
set_option maxRecDepth 100000 in
theorem ev_k175_100 : ev_ckA yX12_sound cX12_sound 100 ((ev_c175.drop 100).take 100) [[], [], [], [1242], [1023, 1025, 17, 51, 1026], [], [], [], [], [], [], [], [], [1249], [1250], [1238, 1240, 37, 51, 1241], [], [], [], [1246], [1247], [1238, 1240, 37, 51, 1241], [], [], [], [], [], [876], [], [], [], [], [1067, 1068, 51, 1069], [], [], [], [], [], [877], [], [], [876], [], [], [], [], [1067, 1068, 51, 1069], [], [], []] = true := by decide +kernel
set_option maxRecDepth 100000 in
theorem ev_k175_200 : ev_ckA yX12_sound cX12_sound 200 ((ev_c175.drop 200).take 100) [[], [], [], [], [], [], [], [], [876], [], [], [], [], [1067, 1068, 51, 1069], [], [], [876], [], [], [876], [], [], [], [], [], []] = true := by decide +kernel
set_option maxRecDepth 100000 in
theorem ev_n175 : ev_c175.length = 241 := by decide +kernel
theorem ev_k175 : ev_okm yX12_sound cX12_sound ev_c175 := fun j e hj => if h0 : j < 100 then ev_okm_cut 0 100 ev_k175_0 j e (by omega) (by omega) hj else if h100 : j < 200 then ev_okm_cut 100 100 ev_k175_100 j e (by omega) (by omega) hj else (have hl : j < 241 := by have hl := (List.getElem?_eq_some_iff.mp hj).1; rw [ev_n175] at hl; exact hl
    ev_okm_cut 200 100 ev_k175_200 j e (by omega) (by omega) hj)
theorem ev_j175 : ev_ckM (yX12_sound, cX12_sound, (Option.none : Option Jvm.ClassFile.FieldType)) (4, 1, 0, 9) [1262, 51] = true := by decide +kernel
