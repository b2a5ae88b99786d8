set_option maxRecDepth 100000 in
theorem ev_k64 : ev_okm yX8_letterAt cX8_letterAt ev_c64 := ev_okm_one (pls := [[], [], [778, 779, 780, 43, 781], [], [], [], [], [], [], [], [], [], [], [], [], [], [], [], [], [], [], [], [], [], [], [], []]) (by decide +kernel)
theorem ev_j64 : ev_ckM (yX8_letterAt, cX8_letterAt, (Option.some Jvm.ClassFile.FieldType.char)) (3, 1, 3, 5) [777, 43] = true := by decide +kernel
set_option maxRecDepth 100000 in
theorem ev_k65 : ev_okm yX8_joinsAt cX8_joinsAt ev_c65 := ev_okm_one (pls := [[], [], [778, 779, 780, 43, 781], [], [], [], [], [], [], [786, 775, 776, 43, 777], [], [], [], [], [], [786, 775, 776, 43, 777], [], [], [], [], []]) (by decide +kernel)
theorem ev_j65 : ev_ckM (yX8_joinsAt, cX8_joinsAt, (Option.some Jvm.ClassFile.FieldType.boolean)) (2, 1, 2, 5) [785, 43] = true := by decide +kernel
set_option maxRecDepth 100000 in
theorem ev_k66 : ev_okm yX8_copyAsWord cX8_copyAsWord ev_c66 := ev_okm_one (pls := [[], [], [314, 315, 316, 45, 317], [], [77], [], [], [], [77], [], [], [], [], [], [], [], [], [77], [], [], [76], [], [], [], [], [], [], [], [], [], [], [], [], [], [318, 319, 320, 45, 321], [], [], [], []]) (by decide +kernel)
theorem ev_j66 : ev_ckM (yX8_copyAsWord, cX8_copyAsWord, (Option.some Jvm.ClassFile.FieldType.boolean)) (4, 1, 2, 5) [313, 43] = true := by decide +kernel
set_option maxRecDepth 100000 in
theorem ev_k67 : ev_okm yX9_init cX9_init ev_c67 := ev_okm_one (pls := [[], [222, 68, 69], [], [], [106], [223], [], [], [106], [226], []]) (by decide +kernel)
theorem ev_j67 : ev_ckM (yX9_init, cX9_init, (Option.none : Option Jvm.ClassFile.FieldType)) (1, 0, 0, 6) [221, 50] = true := by decide +kernel
set_option maxRecDepth 100000 in
theorem ev_k68 : ev_okm yX9_count cX9_count ev_c68 := ev_okm_one (pls := [[], [224], []]) (by decide +kernel)
theorem ev_j68 : ev_ckM (yX9_count, cX9_count, (Option.some Jvm.ClassFile.FieldType.int)) (1, 0, 1, 6) [829, 50] = true := by decide +kernel
set_option maxRecDepth 100000 in
theorem ev_k69 : ev_okm yX9_positions cX9_positions ev_c69 := ev_okm_one (pls := [[], [225], []]) (by decide +kernel)
theorem ev_j69 : ev_ckM (yX9_positions, cX9_positions, (Option.some Jvm.ClassFile.FieldType.int)) (1, 0, 1, 6) [849, 50] = true := by decide +kernel
set_option maxRecDepth 100000 in
theorem ev_k70 : ev_okm yX9_get cX9_get ev_c70 := ev_okm_one (pls := [[], [], [], [], [224], [], [], [], [], [], [], [], [], [], [], [], [], [], [223], [], [], [], [], [], [], [], [], []]) (by decide +kernel)
theorem ev_j70 : ev_ckM (yX9_get, cX9_get, (Option.some Jvm.ClassFile.FieldType.int)) (4, 2, 1, 6) [837, 50] = true := by decide +kernel
set_option maxRecDepth 100000 in
theorem ev_k71 : ev_okm yX9_begin cX9_begin ev_c71 := ev_okm_one (pls := [[], [], [227], [], [], [228], []]) (by decide +kernel)
theorem ev_j71 : ev_ckM (yX9_begin, cX9_begin, (Option.none : Option Jvm.ClassFile.FieldType)) (1, 0, 0, 6) [760, 50] = true := by decide +kernel
set_option maxRecDepth 100000 in
theorem ev_k72 : ev_okm yX9_haveRoom cX9_haveRoom ev_c72 := ev_okm_one (pls := [[], [227], [], [], [], [], [], []]) (by decide +kernel)
theorem ev_j72 : ev_ckM (yX9_haveRoom, cX9_haveRoom, (Option.some Jvm.ClassFile.FieldType.boolean)) (1, 0, 2, 6) [764, 50] = true := by decide +kernel
set_option maxRecDepth 100000 in
theorem ev_k73 : ev_okm yX9_nextPosition cX9_nextPosition ev_c73 := ev_okm_one (pls := [[], [], [228], [], [], [228], [], [228], [], [], []]) (by decide +kernel)
theorem ev_j73 : ev_ckM (yX9_nextPosition, cX9_nextPosition, (Option.some Jvm.ClassFile.FieldType.int)) (1, 0, 1, 6) [797, 50] = true := by decide +kernel
set_option maxRecDepth 100000 in
theorem ev_k74 : ev_okm yX9_add cX9_add ev_c74 := ev_okm_one (pls := [[], [814, 762, 763, 50, 764], [], [], [], [227], [], [], [], [], [226], [], [], [], [], [226], [], [], [], [], [], [], [226], [], [], [], [], [], [], [226], [], [], [], [], [], [], [226], [], [], [], [], [], [], [], [227], [], [], [227], []]) (by decide +kernel)
theorem ev_j74 : ev_ckM (yX9_add, cX9_add, (Option.none : Option Jvm.ClassFile.FieldType)) (7, 5, 0, 6) [813, 50] = true := by decide +kernel
set_option maxRecDepth 100000 in
theorem ev_k75 : ev_okm yX9_keep cX9_keep ev_c75 := ev_okm_one (pls := [[], [226], [], [], [223], [], [], [227], [], [], [823, 825, 824, 61], [], [], [227], [224], [], [], [228], [225], []]) (by decide +kernel)
theorem ev_j75 : ev_ckM (yX9_keep, cX9_keep, (Option.none : Option Jvm.ClassFile.FieldType)) (1, 0, 0, 6) [822, 50] = true := by decide +kernel
set_option maxRecDepth 100000 in
theorem ev_k76 : ev_okm yX10_init cX10_init ev_c76 := ev_okm_one (pls := [[], [89, 68, 69], [], [], [83], [90], [], [], [106], [91], [], [], [106], [92], [], [], [107], [93], []]) (by decide +kernel)
theorem ev_j76 : ev_ckM (yX10_init, cX10_init, (Option.none : Option Jvm.ClassFile.FieldType)) (1, 0, 0, 7) [88, 44] = true := by decide +kernel
set_option maxRecDepth 100000 in
theorem ev_k77 : ev_okm yX10_count cX10_count ev_c77 := ev_okm_one (pls := [[], [94], []]) (by decide +kernel)
theorem ev_j77 : ev_ckM (yX10_count, cX10_count, (Option.some Jvm.ClassFile.FieldType.int)) (1, 0, 1, 7) [654, 44] = true := by decide +kernel
set_option maxRecDepth 100000 in
theorem ev_k78 : ev_okm yX10_knows cX10_knows ev_c78 := ev_okm_one (pls := [[], [], [], [], [94], [], [], [], [], []]) (by decide +kernel)
theorem ev_j78 : ev_ckM (yX10_knows, cX10_knows, (Option.some Jvm.ClassFile.FieldType.boolean)) (2, 1, 2, 7) [338, 44] = true := by decide +kernel
set_option maxRecDepth 100000 in
theorem ev_k79 : ev_okm yX10_knowsOrNone cX10_knowsOrNone ev_c79 := ev_okm_one (pls := [[], [], [], [], [], [335, 336, 337, 44, 338], [], [], [], [], []]) (by decide +kernel)
theorem ev_j79 : ev_ckM (yX10_knowsOrNone, cX10_knowsOrNone, (Option.some Jvm.ClassFile.FieldType.boolean)) (2, 1, 2, 7) [573, 44] = true := by decide +kernel
