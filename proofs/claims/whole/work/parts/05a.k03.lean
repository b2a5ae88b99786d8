set_option maxRecDepth 100000 in
theorem ev_k48 : ev_okm yX7_measureOf cX7_measureOf ev_c48 := ev_okm_one (pls := [[], [], [], [], [], [], [], [], [470, 471, 56, 472], [], [485, 486, 57, 487], []]) (by decide +kernel)
theorem ev_j48 : ev_ckM (yX7_measureOf, cX7_measureOf, (Option.some Jvm.ClassFile.FieldType.int)) (2, 2, 1, 98) [484, 56] = true := by decide +kernel
set_option maxRecDepth 100000 in
theorem ev_k49 : ev_okm yX7_lowest cX7_lowest ev_c49 := ev_okm_one (pls := [[], [], [], [], [], [], [], [], [], [], [], [], []]) (by decide +kernel)
theorem ev_j49 : ev_ckM (yX7_lowest, cX7_lowest, (Option.some Jvm.ClassFile.FieldType.int)) (1, 1, 1, 98) [472, 56] = true := by decide +kernel
set_option maxRecDepth 100000 in
theorem ev_k50 : ev_okm yX7_hasV cX7_hasV ev_c50 := ev_okm_one (pls := [[], [], [], [], [470, 471, 56, 472], [], [], [], [], [], []]) (by decide +kernel)
theorem ev_j50 : ev_ckM (yX7_hasV, cX7_hasV, (Option.some Jvm.ClassFile.FieldType.boolean)) (2, 2, 2, 98) [469, 56] = true := by decide +kernel
set_option maxRecDepth 100000 in
theorem ev_k51 : ev_okm yX7_endsDouble cX7_endsDouble ev_c51 := ev_okm_one (pls := [[], [], [], [], [], [], [], [460, 303, 304, 45, 305], [], [], [], [], [460, 303, 304, 45, 305], [], [], [], [], [], [], [], [], [], [], [], [], [], []]) (by decide +kernel)
theorem ev_j51 : ev_ckM (yX7_endsDouble, cX7_endsDouble, (Option.some Jvm.ClassFile.FieldType.boolean)) (3, 3, 2, 98) [520, 56] = true := by decide +kernel
set_option maxRecDepth 100000 in
theorem ev_k52 : ev_okm yX7_endsShort cX7_endsShort ev_c52 := ev_okm_one (pls := [[], [], [], [], [], [], [], [], [], [], [], [], [], [], [], [], [], [], [460, 303, 304, 45, 305], [], [], [], [], [], [], [], [], [], [], [], [], [], []]) (by decide +kernel)
theorem ev_j52 : ev_ckM (yX7_endsShort, cX7_endsShort, (Option.some Jvm.ClassFile.FieldType.boolean)) (4, 3, 2, 98) [503, 56] = true := by decide +kernel
set_option maxRecDepth 100000 in
theorem ev_k53 : ev_okm yX7_changeEnding cX7_changeEnding ev_c53 := ev_okm_one (pls := [[], [], [], [], [], [495], [], [], [495], [], [], [], [], [1290], [], [], [], [], [1291], [481, 379, 380, 45, 381], [], [], [], [], [1291], [497, 383, 384, 52, 385], [], [1291], [497, 383, 384, 52, 385], [], [], [], [], [], [], [], [], [1292], [], [], [456, 299, 300, 45, 301], [], [1291], [497, 383, 384, 52, 385], [], [], [498, 499, 56, 500], [], [], [], [], [], [1291], [], [1293], [504, 438, 439, 45, 440], [], [], []]) (by decide +kernel)
theorem ev_j53 : ev_ckM (yX7_changeEnding, cX7_changeEnding, (Option.some (Jvm.ClassFile.FieldType.object "StemRules$Ending"))) (6, 3, 4, 98) [494, 56] = true := by decide +kernel
set_option maxRecDepth 100000 in
theorem ev_k54 : ev_okm yX7_holds cX7_holds ev_c54 := ev_okm_one (pls := [[], [], [482, 483, 56, 484], [], [], [], [], [], [], [], [], [], [], [], [], [], [], [], [], [], [], [467, 468, 56, 469], [], [], [], [], [], [], [], [], [460, 303, 304, 45, 305], [], [], [], [], [], [], [460, 303, 304, 45, 305], [], [], [], [], [], [], [], [], [], [], [], [], [], [], [], [501, 502, 56, 503], [], [], [], [], [], [], []]) (by decide +kernel)
theorem ev_j54 : ev_ckM (yX7_holds, cX7_holds, (Option.some Jvm.ClassFile.FieldType.boolean)) (5, 4, 2, 98) [500, 56] = true := by decide +kernel
set_option maxRecDepth 100000 in
theorem ev_k55 : ev_okm yX7_mend cX7_mend ev_c55 := ev_okm_one (pls := [[], [456, 299, 300, 45, 301], [], [], [], [], [504, 438, 439, 45, 440], [], [], [], [], [504, 438, 439, 45, 440], [], [], [], [], [504, 438, 439, 45, 440], [], [], [], [], [], [], [460, 303, 304, 45, 305], [], [], [], [], [518, 519, 56, 520], [], [], [], [], [], [], [], [], [], [], [], [], [], [], [491, 315, 316, 45, 317], [], [], [], [482, 483, 56, 484], [], [], [], [], [], [501, 502, 56, 503], [], [], [], [521, 319, 320, 45, 321], []]) (by decide +kernel)
theorem ev_j55 : ev_ckM (yX7_mend, cX7_mend, (Option.none : Option Jvm.ClassFile.FieldType)) (4, 2, 0, 98) [511, 56] = true := by decide +kernel
set_option maxRecDepth 100000 in
theorem ev_k56 : ev_okm yX7_changeY cX7_changeY ev_c56 := ev_okm_one (pls := [[], [456, 299, 300, 45, 301], [], [], [], [], [], [460, 303, 304, 45, 305], [], [], [], [], [467, 468, 56, 469], [], [], [], [], [473, 474, 475, 45, 476], []]) (by decide +kernel)
theorem ev_j56 : ev_ckM (yX7_changeY, cX7_changeY, (Option.none : Option Jvm.ClassFile.FieldType)) (3, 2, 0, 98) [466, 56] = true := by decide +kernel
set_option maxRecDepth 100000 in
theorem ev_k57 : ev_okm yX7_dropL cX7_dropL ev_c57 := ev_okm_one (pls := [[], [], [481, 379, 380, 45, 381], [], [], [], [456, 299, 300, 45, 301], [482, 483, 56, 484], [], [], [], [], [456, 299, 300, 45, 301], [], [], [491, 315, 316, 45, 317], []]) (by decide +kernel)
theorem ev_j57 : ev_ckM (yX7_dropL, cX7_dropL, (Option.none : Option Jvm.ClassFile.FieldType)) (2, 2, 0, 98) [479, 56] = true := by decide +kernel
set_option maxRecDepth 100000 in
theorem ev_k58 : ev_okm yX8_init cX8_init ev_c58 := ev_okm_one (pls := [[], [75, 68, 69], [], [], [83], [76], []]) (by decide +kernel)
theorem ev_j58 : ev_ckM (yX8_init, cX8_init, (Option.none : Option Jvm.ClassFile.FieldType)) (1, 0, 0, 5) [74, 43] = true := by decide +kernel
set_option maxRecDepth 100000 in
theorem ev_k59 : ev_okm yX8_size cX8_size ev_c59 := ev_okm_one (pls := [[], [77], []]) (by decide +kernel)
theorem ev_j59 : ev_ckM (yX8_size, cX8_size, (Option.some Jvm.ClassFile.FieldType.int)) (1, 0, 1, 5) [285, 43] = true := by decide +kernel
set_option maxRecDepth 100000 in
theorem ev_k60 : ev_okm yX8_hasRoomForFive cX8_hasRoomForFive ev_c60 := ev_okm_one (pls := [[], [77], [], [], [], [], [], [], [], []]) (by decide +kernel)
theorem ev_j60 : ev_ckM (yX8_hasRoomForFive, cX8_hasRoomForFive, (Option.some Jvm.ClassFile.FieldType.boolean)) (1, 0, 2, 5) [277, 43] = true := by decide +kernel
set_option maxRecDepth 100000 in
theorem ev_k61 : ev_okm yX8_addNumber cX8_addNumber ev_c61 := ev_okm_one (pls := [[], [], [], [], [], [77], [], [], [], [76], [], [77], [], [], [], [], [], [], [], [], [], [77], [], [], [77], [], [], []]) (by decide +kernel)
theorem ev_j61 : ev_ckM (yX8_addNumber, cX8_addNumber, (Option.none : Option Jvm.ClassFile.FieldType)) (3, 1, 0, 5) [281, 43] = true := by decide +kernel
set_option maxRecDepth 100000 in
theorem ev_k62 : ev_okm yX8_keep cX8_keep ev_c62 := ev_okm_one (pls := [[], [], [], [], [77], [], [], [], [77], []]) (by decide +kernel)
theorem ev_j62 : ev_ckM (yX8_keep, cX8_keep, (Option.none : Option Jvm.ClassFile.FieldType)) (2, 1, 0, 5) [293, 43] = true := by decide +kernel
set_option maxRecDepth 100000 in
theorem ev_k63 : ev_okm yX8_byteAt cX8_byteAt ev_c63 := ev_okm_one (pls := [[], [], [], [], [77], [], [], [76], [], [], [], [], []]) (by decide +kernel)
theorem ev_j63 : ev_ckM (yX8_byteAt, cX8_byteAt, (Option.some Jvm.ClassFile.FieldType.char)) (2, 1, 3, 5) [781, 43] = true := by decide +kernel
