set_option maxRecDepth 100000 in
theorem ev_k32 : ev_okm yX5_put cX5_put ev_c32 := ev_okm_one (pls := [[], [], [], [], [115], [], [], [114], [], [], [], []]) (by decide +kernel)
theorem ev_j32 : ev_ckM (yX5_put, cX5_put, (Option.none : Option Jvm.ClassFile.FieldType)) (3, 2, 0, 3) [476, 45] = true := by decide +kernel
set_option maxRecDepth 100000 in
theorem ev_k33 : ev_okm yX5_add cX5_add ev_c33 := ev_okm_one (pls := [[], [115], [], [], [], [114], [], [115], [], [], [], [], [115], [], [], [115], []]) (by decide +kernel)
theorem ev_j33 : ev_ckM (yX5_add, cX5_add, (Option.none : Option Jvm.ClassFile.FieldType)) (2, 1, 0, 3) [321, 45] = true := by decide +kernel
set_option maxRecDepth 100000 in
theorem ev_k34 : ev_okm yX5_shorten cX5_shorten ev_c34 := ev_okm_one (pls := [[], [], [], [], [115], [], [], [], [115], []]) (by decide +kernel)
theorem ev_j34 : ev_ckM (yX5_shorten, cX5_shorten, (Option.none : Option Jvm.ClassFile.FieldType)) (2, 1, 0, 3) [317, 45] = true := by decide +kernel
set_option maxRecDepth 100000 in
theorem ev_k35 : ev_okm yX5_hasAt cX5_hasAt ev_c35 := ev_okm_one (pls := [[], [], [], [], [382, 383, 384, 52, 385], [], [], [115], [], [], [], [], [], [], [], [382, 383, 384, 52, 385], [], [], [114], [], [], [], [], [], [], [396, 397, 398, 52, 399], [], [], [], [], [], [], []]) (by decide +kernel)
theorem ev_j35 : ev_ckM (yX5_hasAt, cX5_hasAt, (Option.some Jvm.ClassFile.FieldType.boolean)) (4, 2, 2, 3) [395, 45] = true := by decide +kernel
set_option maxRecDepth 100000 in
theorem ev_k36 : ev_okm yX5_ends cX5_ends ev_c36 := ev_okm_one (pls := [[], [], [115], [], [382, 383, 384, 52, 385], [], [], [392, 393, 394, 45, 395], []]) (by decide +kernel)
theorem ev_j36 : ev_ckM (yX5_ends, cX5_ends, (Option.some Jvm.ClassFile.FieldType.boolean)) (2, 1, 2, 3) [381, 45] = true := by decide +kernel
set_option maxRecDepth 100000 in
theorem ev_k37 : ev_okm yX5_changeAt cX5_changeAt ev_c37 := ev_okm_one (pls := [[], [], [], [392, 393, 394, 45, 395], [], [], [], [], [], [], [], [382, 383, 384, 52, 385], [], [], [], [], [], [], [], [396, 397, 398, 52, 399], [703, 474, 475, 45, 476], [], [], [], []]) (by decide +kernel)
theorem ev_j37 : ev_ckM (yX5_changeAt, cX5_changeAt, (Option.some Jvm.ClassFile.FieldType.boolean)) (5, 3, 2, 3) [702, 45] = true := by decide +kernel
set_option maxRecDepth 100000 in
theorem ev_k38 : ev_okm yX5_changeEnd cX5_changeEnd ev_c38 := ev_okm_one (pls := [[], [], [441, 379, 380, 45, 381], [], [], [], [], [], [115], [], [382, 383, 384, 52, 385], [], [442, 315, 316, 45, 317], [], [], [], [], [382, 383, 384, 52, 385], [], [], [], [], [396, 397, 398, 52, 399], [443, 319, 320, 45, 321], [], [], [], []]) (by decide +kernel)
theorem ev_j38 : ev_ckM (yX5_changeEnd, cX5_changeEnd, (Option.some Jvm.ClassFile.FieldType.boolean)) (4, 2, 2, 3) [440, 45] = true := by decide +kernel
set_option maxRecDepth 100000 in
theorem ev_k39 : ev_okm yX6_init cX6_init ev_c39 := ev_okm_one (pls := [[], [176, 68, 69], [], [], [177], [], [], [106], [178], [], [], [106], [179], [], [], [106], [180], []]) (by decide +kernel)
theorem ev_j39 : ev_ckM (yX6_init, cX6_init, (Option.none : Option Jvm.ClassFile.FieldType)) (1, 0, 0, 4) [175, 48] = true := by decide +kernel
set_option maxRecDepth 100000 in
theorem ev_k40 : ev_okm yX6_setLeast cX6_setLeast ev_c40 := ev_okm_one (pls := [[], [177], [], [], [], [177], [], []]) (by decide +kernel)
theorem ev_j40 : ev_ckM (yX6_setLeast, cX6_setLeast, (Option.some Jvm.ClassFile.FieldType.int)) (3, 1, 1, 4) [642, 48] = true := by decide +kernel
set_option maxRecDepth 100000 in
theorem ev_k41 : ev_okm yX6_lay cX6_lay ev_c41 := ev_okm_one (pls := [[], [], [], [], [], [178], [], [], [], [], [179], [], [], [], [], [180], [], [], [], [], [], [], [], [651, 652, 653, 44, 654], [], [], [], [], [], [], [655, 657, 4, 48, 658], [], [], [], [], [], [], [], [659, 535, 536, 44, 537], [], [], [660, 299, 300, 45, 301], [663, 665, 5, 48, 666], [], [], [], [], []]) (by decide +kernel)
theorem ev_j41 : ev_ckM (yX6_lay, cX6_lay, (Option.none : Option Jvm.ClassFile.FieldType)) (5, 2, 0, 4) [650, 48] = true := by decide +kernel
set_option maxRecDepth 100000 in
theorem ev_k42 : ev_okm yX6_count cX6_count ev_c42 := ev_okm_one (pls := [[], [178], [], [], []]) (by decide +kernel)
theorem ev_j42 : ev_ckM (yX6_count, cX6_count, (Option.some Jvm.ClassFile.FieldType.int)) (1, 0, 1, 4) [670, 48] = true := by decide +kernel
set_option maxRecDepth 100000 in
theorem ev_k43 : ev_okm yX6_numberOf cX6_numberOf ev_c43 := ev_okm_one (pls := [[], [], [], [], [178], [], [], [], [], [], [], [], [], [], [], [], [], [], [], [], [], [180], [], [], [], [], [], [], [], [], [], [179], [], [], [], [], []]) (by decide +kernel)
theorem ev_j43 : ev_ckM (yX6_numberOf, cX6_numberOf, (Option.some Jvm.ClassFile.FieldType.int)) (4, 1, 1, 4) [674, 48] = true := by decide +kernel
set_option maxRecDepth 100000 in
theorem ev_k44 : ev_okm yX6_mayStand cX6_mayStand ev_c44 := ev_okm_one (pls := [[], [], [659, 535, 536, 44, 537], [], [], [], [177], [], [], [], [660, 299, 300, 45, 301], [], [], [], [], [661, 367, 368, 44, 369], [], [], [], [], [], [662, 332, 333, 44, 334], [], [], [], [], []]) (by decide +kernel)
theorem ev_j44 : ev_ckM (yX6_mayStand, cX6_mayStand, (Option.some Jvm.ClassFile.FieldType.boolean)) (6, 4, 2, 4) [658, 48] = true := by decide +kernel
set_option maxRecDepth 100000 in
theorem ev_k45 : ev_okm yX6_noteFirst cX6_noteFirst ev_c45 := ev_okm_one (pls := [[], [], [], [], [], [], [], [], [], [], [], [], [], [], [], [], [178], [], [], [], [], [], [178], [], [], [], [], [], [], [178], [], [], [], [], [], [178], [], [], [], [], [], [], [], [], [], [], [], [178], [], [], [], [], [], [180], [], [], [], [], [178], [], [], [], [], [179], [], [], [], [], [180], [], [], [], []]) (by decide +kernel)
theorem ev_j45 : ev_ckM (yX6_noteFirst, cX6_noteFirst, (Option.none : Option Jvm.ClassFile.FieldType)) (7, 4, 0, 4) [666, 48] = true := by decide +kernel
set_option maxRecDepth 100000 in
theorem ev_k46 : ev_okm yX7_run cX7_run ev_c46 := ev_okm_one (pls := [[], [456, 299, 300, 45, 301], [], [], [], [], [], [], [], [], [], [], [], [], [457, 458, 56, 459], [], [], [], [], [], [], [464, 465, 56, 466], [], [], [], [], [], [], [477, 478, 56, 479], [], [], [], [], [492, 493, 56, 494], [], [], [505], [], [], [507], [], [], [], [509, 510, 56, 511], [], [], []]) (by decide +kernel)
theorem ev_j46 : ev_ckM (yX7_run, cX7_run, (Option.none : Option Jvm.ClassFile.FieldType)) (5, 2, 0, 98) [455, 56] = true := by decide +kernel
set_option maxRecDepth 100000 in
theorem ev_k47 : ev_okm yX7_consonantsOf cX7_consonantsOf ev_c47 := ev_okm_one (pls := [[], [], [], [], [], [], [], [], [456, 299, 300, 45, 301], [], [], [], [], [], [], [460, 303, 304, 45, 305], [], [], [], [], [], [], [], [], [], [], [], [461, 462, 42, 463], [], [], [], [], [], [], [], [], [], [], [], [], [], [], [], [], []]) (by decide +kernel)
theorem ev_j47 : ev_ckM (yX7_consonantsOf, cX7_consonantsOf, (Option.some Jvm.ClassFile.FieldType.int)) (5, 1, 1, 98) [459, 56] = true := by decide +kernel
