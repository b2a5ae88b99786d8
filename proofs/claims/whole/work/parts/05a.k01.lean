set_option maxRecDepth 100000 in
theorem ev_k16 : ev_okm yX3_dropRows cX3_dropRows ev_c16 := ev_okm_one (pls := [[], [], [132], []]) (by decide +kernel)
theorem ev_j16 : ev_ckM (yX3_dropRows, cX3_dropRows, (Option.none : Option Jvm.ClassFile.FieldType)) (1, 0, 0, 2) [598, 46] = true := by decide +kernel
set_option maxRecDepth 100000 in
theorem ev_k17 : ev_okm yX3_addRow cX3_addRow ev_c17 := ev_okm_one (pls := [[], [132], [], [], [], [], [], [127], [], [132], [], [], [], [128], [], [132], [], [], [], [129], [], [132], [], [], [], [130], [], [132], [], [], [], [131], [], [132], [], [], [], [], [132], [], [], [132], [], [132], [], [], []]) (by decide +kernel)
theorem ev_j17 : ev_ckM (yX3_addRow, cX3_addRow, (Option.some Jvm.ClassFile.FieldType.int)) (6, 5, 1, 2) [586, 46] = true := by decide +kernel
set_option maxRecDepth 100000 in
theorem ev_k18 : ev_okm yX3_run cX3_run ev_c18 := ev_okm_one (pls := [[], [], [], [], [], [], [], [], [], [], [], [], [], [526, 528, 1, 46, 529], [], [], [], [], [], [132], [], [], [], [], [538, 299, 300, 45, 301], [], [129], [], [], [], [545, 315, 316, 45, 317], [], [], [130], [], [], [], [], [546, 351, 352, 44, 353], [], [131], [], [], [], [], [], [], []]) (by decide +kernel)
theorem ev_j18 : ev_ckM (yX3_run, cX3_run, (Option.none : Option Jvm.ClassFile.FieldType)) (5, 2, 0, 2) [525, 46] = true := by decide +kernel
set_option maxRecDepth 100000 in
theorem ev_k19 : ev_okm yX3_findRow cX3_findRow ev_c19 := ev_okm_one (pls := [[], [], [], [], [132], [], [], [], [], [128], [], [], [], [], [], [127], [], [], [], [530, 531, 532, 44, 533], [], [], [], [538, 299, 300, 45, 301], [], [129], [], [], [], [], [], [130], [], [], [539, 535, 536, 44, 537], [540, 541, 46, 542], [], [], [], [], [], [], []]) (by decide +kernel)
theorem ev_j19 : ev_ckM (yX3_findRow, cX3_findRow, (Option.some Jvm.ClassFile.FieldType.int)) (5, 3, 1, 2) [529, 46] = true := by decide +kernel
set_option maxRecDepth 100000 in
theorem ev_k20 : ev_okm yX3_isGood cX3_isGood ev_c20 := ev_okm_one (pls := [[], [], [], [], [], [], [], [], [], [], [], [], [543, 303, 304, 45, 305], [544, 462, 42, 463], [], [], [], [], [], [], [], [], [], [], [], [], [], [543, 303, 304, 45, 305], [544, 462, 42, 463], [], [], [], [543, 303, 304, 45, 305], [], [], [], [], [], [], [], []]) (by decide +kernel)
theorem ev_j20 : ev_ckM (yX3_isGood, cX3_isGood, (Option.some Jvm.ClassFile.FieldType.boolean)) (4, 3, 2, 2) [542, 46] = true := by decide +kernel
set_option maxRecDepth 100000 in
theorem ev_k21 : ev_okm yX4_layFigures cX4_layFigures ev_c21 := ev_okm_one (pls := [[], [], [682, 315, 316, 45, 317], [], [], [], [683, 303, 304, 45, 305], [684, 319, 320, 45, 321], [], [], [683, 303, 304, 45, 305], [685, 686, 60, 687], [], [], [], [], [], [690, 299, 300, 45, 301], [], [], [], [683, 303, 304, 45, 305], [], [], [], [], [], [], [], [], [685, 686, 60, 687], [], [], [], [], [], [], [], [], [], [684, 319, 320, 45, 321], [], [], [], [], [], [], [682, 315, 316, 45, 317], [], [690, 299, 300, 45, 301], [], [], [], [], [], [], [684, 319, 320, 45, 321], [], [], []]) (by decide +kernel)
theorem ev_j21 : ev_ckM (yX4_layFigures, cX4_layFigures, (Option.none : Option Jvm.ClassFile.FieldType)) (6, 2, 0, 98) [681, 60] = true := by decide +kernel
set_option maxRecDepth 100000 in
theorem ev_k22 : ev_okm yX4_laySounds cX4_laySounds ev_c22 := ev_okm_one (pls := [[], [694, 695, 60, 696], [], [], [690, 299, 300, 45, 301], [], [], [], [713, 714, 60, 715], [], [], [], [682, 315, 316, 45, 317], [], [], [], [683, 303, 304, 45, 305], [684, 319, 320, 45, 321], [], [], [], [], [690, 299, 300, 45, 301], [], [], [], [726, 727, 60, 728], [], [], [683, 303, 304, 45, 305], [], [], [690, 299, 300, 45, 301], [], [], [683, 303, 304, 45, 305], [], [], [], [], [683, 303, 304, 45, 305], [684, 319, 320, 45, 321], [], [], [], [742, 743, 60, 744], [], [], [682, 315, 316, 45, 317], []]) (by decide +kernel)
theorem ev_j22 : ev_ckM (yX4_laySounds, cX4_laySounds, (Option.none : Option Jvm.ClassFile.FieldType)) (3, 2, 0, 98) [693, 60] = true := by decide +kernel
set_option maxRecDepth 100000 in
theorem ev_k23 : ev_okm yX4_figureOf cX4_figureOf ev_c23 := ev_okm_one (pls := [[], [], [], [], [], [], [688], [], [], [], [], [], [], []]) (by decide +kernel)
theorem ev_j23 : ev_ckM (yX4_figureOf, cX4_figureOf, (Option.some Jvm.ClassFile.FieldType.char)) (1, 1, 3, 98) [687, 60] = true := by decide +kernel
set_option maxRecDepth 100000 in
theorem ev_k24 : ev_okm yX4_changeBeginning cX4_changeBeginning ev_c24 := ev_okm_one (pls := [[], [], [], [], [699, 700, 701, 45, 702], [], [], [], [], [], [699, 700, 701, 45, 702], [], [], [], [], [], [699, 700, 701, 45, 702], [], [], [], [], [], [699, 700, 701, 45, 702], [], [], [], [], [], [699, 700, 701, 45, 702], [], [], [], [], [], [699, 700, 701, 45, 702], [], [], [], [], []]) (by decide +kernel)
theorem ev_j24 : ev_ckM (yX4_changeBeginning, cX4_changeBeginning, (Option.some Jvm.ClassFile.FieldType.boolean)) (1, 1, 2, 98) [696, 60] = true := by decide +kernel
set_option maxRecDepth 100000 in
theorem ev_k25 : ev_okm yX4_changeEnding cX4_changeEnding ev_c25 := ev_okm_one (pls := [[], [], [], [718, 438, 439, 45, 440], [], [], [], [], [718, 438, 439, 45, 440], [], [], [], [], [718, 438, 439, 45, 440], [], [], [], [], [718, 438, 439, 45, 440], [], [], [], [], [718, 438, 439, 45, 440], [], [], [], [], [718, 438, 439, 45, 440], [], [], [], [], [718, 438, 439, 45, 440], [], [], [], [], []]) (by decide +kernel)
theorem ev_j25 : ev_ckM (yX4_changeEnding, cX4_changeEnding, (Option.some Jvm.ClassFile.FieldType.boolean)) (1, 1, 2, 98) [715, 60] = true := by decide +kernel
set_option maxRecDepth 100000 in
theorem ev_k26 : ev_okm yX4_changeLetter cX4_changeLetter ev_c26 := ev_okm_one (pls := [[], [], [], [], [699, 700, 701, 45, 702], [], [], [], [], [683, 303, 304, 45, 305], [], [], [], [], [], [683, 303, 304, 45, 305], [], [], [731, 462, 42, 463], [], [], [], [], [732, 474, 475, 45, 476], [], [], [], [], [], [731, 462, 42, 463], [], [], [], [], [], [683, 303, 304, 45, 305], [731, 462, 42, 463], [], [], [], [], [732, 474, 475, 45, 476], [], [], [], [], [], [731, 462, 42, 463], [], [], [], [], [732, 474, 475, 45, 476], [], [], [], [733, 734, 60, 735], [], []]) (by decide +kernel)
theorem ev_j26 : ev_ckM (yX4_changeLetter, cX4_changeLetter, (Option.none : Option Jvm.ClassFile.FieldType)) (4, 2, 0, 98) [728, 60] = true := by decide +kernel
set_option maxRecDepth 100000 in
theorem ev_k27 : ev_okm yX4_changeConsonant cX4_changeConsonant ev_c27 := ev_okm_one (pls := [[], [], [], [], [699, 700, 701, 45, 702], [], [], [], [], [], [699, 700, 701, 45, 702], [], [], [], [], [], [699, 700, 701, 45, 702], [], [], [], [], [], [699, 700, 701, 45, 702], [], [], [], [], [], [699, 700, 701, 45, 702], [], [], [], [], [], [699, 700, 701, 45, 702], [], [], [], [], [], [699, 700, 701, 45, 702], [], [], [], [], []]) (by decide +kernel)
theorem ev_j27 : ev_ckM (yX4_changeConsonant, cX4_changeConsonant, (Option.some Jvm.ClassFile.FieldType.boolean)) (2, 2, 2, 98) [735, 60] = true := by decide +kernel
set_option maxRecDepth 100000 in
theorem ev_k28 : ev_okm yX4_trimEnd cX4_trimEnd ev_c28 := ev_okm_one (pls := [[], [690, 299, 300, 45, 301], [], [], [], [], [], [718, 438, 439, 45, 440], [], [], [690, 299, 300, 45, 301], [], [], [], [], [], [718, 438, 439, 45, 440], [], [], [690, 299, 300, 45, 301], [], [], [], [], [], [718, 438, 439, 45, 440], [], []]) (by decide +kernel)
theorem ev_j28 : ev_ckM (yX4_trimEnd, cX4_trimEnd, (Option.none : Option Jvm.ClassFile.FieldType)) (1, 1, 0, 98) [744, 60] = true := by decide +kernel
set_option maxRecDepth 100000 in
theorem ev_k29 : ev_okm yX5_init cX5_init ev_c29 := ev_okm_one (pls := [[], [113, 68, 69], [], [], [83], [114], []]) (by decide +kernel)
theorem ev_j29 : ev_ckM (yX5_init, cX5_init, (Option.none : Option Jvm.ClassFile.FieldType)) (1, 0, 0, 3) [112, 45] = true := by decide +kernel
set_option maxRecDepth 100000 in
theorem ev_k30 : ev_okm yX5_size cX5_size ev_c30 := ev_okm_one (pls := [[], [115], []]) (by decide +kernel)
theorem ev_j30 : ev_ckM (yX5_size, cX5_size, (Option.some Jvm.ClassFile.FieldType.int)) (1, 0, 1, 3) [301, 45] = true := by decide +kernel
set_option maxRecDepth 100000 in
theorem ev_k31 : ev_okm yX5_at cX5_at ev_c31 := ev_okm_one (pls := [[], [], [], [], [115], [], [], [114], [], [], [], [], []]) (by decide +kernel)
theorem ev_j31 : ev_ckM (yX5_at, cX5_at, (Option.some Jvm.ClassFile.FieldType.char)) (2, 1, 3, 3) [305, 45] = true := by decide +kernel
