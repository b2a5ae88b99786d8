set_option maxRecDepth 100000 in
theorem ev_k0 : ev_okm yX0_init cX0_init ev_c0 := ev_okm_one (pls := [[], [151, 68, 69], [], [], [107], [152], [], [], [106], [153], [], [], [106], [154], [], [], [106], [156], []]) (by decide +kernel)
theorem ev_j0 : ev_ckM (yX0_init, cX0_init, (Option.none : Option Jvm.ClassFile.FieldType)) (1, 0, 0, 0) [150, 47] = true := by decide +kernel
set_option maxRecDepth 100000 in
theorem ev_k1 : ev_okm yX0_count cX0_count ev_c1 := ev_okm_one (pls := [[], [155], []]) (by decide +kernel)
theorem ev_j1 : ev_ckM (yX0_count, cX0_count, (Option.some Jvm.ClassFile.FieldType.int)) (1, 0, 1, 0) [845, 47] = true := by decide +kernel
set_option maxRecDepth 100000 in
theorem ev_k2 : ev_okm yX0_addAffix cX0_addAffix ev_c2 := ev_okm_one (pls := [[], [155], [], [], [], [], [], [152], [], [155], [], [], [], [153], [], [155], [], [], [], [154], [], [155], [], [], [], [], [155], [], [], [155], [], [155], [], [], []]) (by decide +kernel)
theorem ev_j2 : ev_ckM (yX0_addAffix, cX0_addAffix, (Option.some Jvm.ClassFile.FieldType.int)) (4, 3, 1, 0) [606, 47] = true := by decide +kernel
set_option maxRecDepth 100000 in
theorem ev_k3 : ev_okm yX0_collect cX0_collect ev_c3 := ev_okm_one (pls := [[], [], [157], [], [], [], [615, 617, 2, 47, 618], [], [], [], [], [155], [], [], [], [], [], [], [620, 622, 3, 47, 623], [], [], [], [], [630, 327, 328, 44, 329], [], [615, 617, 2, 47, 618], [], [], []]) (by decide +kernel)
theorem ev_j3 : ev_ckM (yX0_collect, cX0_collect, (Option.none : Option Jvm.ClassFile.FieldType)) (5, 3, 0, 0) [614, 47] = true := by decide +kernel
set_option maxRecDepth 100000 in
theorem ev_k4 : ev_okm yX0_found cX0_found ev_c4 := ev_okm_one (pls := [[], [], [], [], [157], [], [], [156], [], [], [], [], []]) (by decide +kernel)
theorem ev_j4 : ev_ckM (yX0_found, cX0_found, (Option.some Jvm.ClassFile.FieldType.int)) (2, 1, 1, 0) [634, 47] = true := by decide +kernel
set_option maxRecDepth 100000 in
theorem ev_k5 : ev_okm yX0_note cX0_note ev_c5 := ev_okm_one (pls := [[], [], [], [619, 367, 368, 44, 369], [], [], [], [], [], [], [157], [], [], [156], [], [], [], [], [], [], [], [], [157], [], [156], [], [], [], [156], [], [157], [], [], [], [], [157], [], [], [157], []]) (by decide +kernel)
theorem ev_j5 : ev_ckM (yX0_note, cX0_note, (Option.none : Option Jvm.ClassFile.FieldType)) (4, 2, 0, 0) [618, 47] = true := by decide +kernel
set_option maxRecDepth 100000 in
theorem ev_k6 : ev_okm yX0_change cX0_change ev_c6 := ev_okm_one (pls := [[], [], [], [], [155], [], [], [], [], [], [], [624, 346, 347, 44, 348], [], [625, 299, 300, 45, 301], [], [], [153], [], [], [626, 535, 536, 44, 537], [], [], [], [], [], [], [], [], [154], [], [], [626, 535, 536, 44, 537], [], [], [], [], [], [], [], [153], [], [], [], [], [152], [], [], [], [], [], [], [627, 332, 333, 44, 334], [], [], [], [], [152], [], [], [], [], [], [628, 315, 316, 45, 317], [], [], [154], [], [], [], [], [629, 351, 352, 44, 353], [], [], [], [154], [], [], [], [624, 346, 347, 44, 348], [], [], [], [], [153], [], [], [626, 535, 536, 44, 537], [], [629, 351, 352, 44, 353], [], []]) (by decide +kernel)
theorem ev_j6 : ev_ckM (yX0_change, cX0_change, (Option.some Jvm.ClassFile.FieldType.boolean)) (6, 4, 2, 0) [623, 47] = true := by decide +kernel
set_option maxRecDepth 100000 in
theorem ev_k7 : ev_okm yX1_init cX1_init ev_c7 := ev_okm_one (pls := [[], [195, 68, 69], [], [196, 109, 45], [], [197, 111, 45, 112], [198], []]) (by decide +kernel)
theorem ev_j7 : ev_ckM (yX1_init, cX1_init, (Option.none : Option Jvm.ClassFile.FieldType)) (1, 0, 0, 1) [194, 49] = true := by decide +kernel
set_option maxRecDepth 100000 in
theorem ev_k8 : ev_okm yX1_piece cX1_piece ev_c8 := ev_okm_one (pls := [[], [198], []]) (by decide +kernel)
theorem ev_j8 : ev_ckM (yX1_piece, cX1_piece, (Option.some (Jvm.ClassFile.FieldType.object "StemRules$Letters"))) (1, 0, 4, 1) [801, 49] = true := by decide +kernel
set_option maxRecDepth 100000 in
theorem ev_k9 : ev_okm yX1_place cX1_place ev_c9 := ev_okm_one (pls := [[], [199], []]) (by decide +kernel)
theorem ev_j9 : ev_ckM (yX1_place, cX1_place, (Option.some Jvm.ClassFile.FieldType.int)) (1, 0, 1, 1) [805, 49] = true := by decide +kernel
set_option maxRecDepth 100000 in
theorem ev_k10 : ev_okm yX1_bytes cX1_bytes ev_c10 := ev_okm_one (pls := [[], [200], []]) (by decide +kernel)
theorem ev_j10 : ev_ckM (yX1_bytes, cX1_bytes, (Option.some Jvm.ClassFile.FieldType.int)) (1, 0, 1, 1) [809, 49] = true := by decide +kernel
set_option maxRecDepth 100000 in
theorem ev_k11 : ev_okm yX1_begin cX1_begin ev_c11 := ev_okm_one (pls := [[], [], [201], [], [], [202], [], [], [203], []]) (by decide +kernel)
theorem ev_j11 : ev_ckM (yX1_begin, cX1_begin, (Option.none : Option Jvm.ClassFile.FieldType)) (1, 0, 0, 1) [756, 49] = true := by decide +kernel
set_option maxRecDepth 100000 in
theorem ev_k12 : ev_okm yX1_findPiece cX1_findPiece ev_c12 := ev_okm_one (pls := [[], [201], [], [202], [], [], [], [769, 771, 6, 49, 772], [], [], [], [], [], [201], [199], [], [198], [], [787, 315, 316, 45, 317], [], [201], [], [202], [], [], [198], [788, 299, 300, 45, 301], [], [], [], [], [201], [774, 775, 776, 43, 777], [], [], [], [201], [774, 775, 776, 43, 777], [], [], [198], [], [], [201], [774, 775, 776, 43, 777], [789, 319, 320, 45, 321], [], [], [201], [], [], [201], [], [], [], [201], [], [202], [], [], [201], [], [], [203], [], [199], [], [200], [], []]) (by decide +kernel)
theorem ev_j12 : ev_ckM (yX1_findPiece, cX1_findPiece, (Option.some Jvm.ClassFile.FieldType.boolean)) (2, 1, 2, 1) [768, 49] = true := by decide +kernel
set_option maxRecDepth 100000 in
theorem ev_k13 : ev_okm yX1_findLetters cX1_findLetters ev_c13 := ev_okm_one (pls := [[], [], [203], [201], [], [201], [], [773, 283, 284, 43, 285], [], [], [], [201], [774, 775, 776, 43, 777], [], [], [], [201], [], [], [201], [], [], [], [201], [203], [], [203], [], [773, 283, 284, 43, 285], [], [], [], [203], [774, 775, 776, 43, 777], [], [], [], [203], [782, 783, 784, 43, 785], [], [], [], [203], [], [], [203], [], [], [203], [], [], [], [201], [], [], [], [203], [], [], [782, 783, 784, 43, 785], [], [], [], [203], [], [], [774, 775, 776, 43, 777], [], [], [], [], [], [], [], [], [], [], [203], [], [], [], [], [203], [202], [], [201], [], [203], [], [], [], [], []]) (by decide +kernel)
theorem ev_j13 : ev_ckM (yX1_findLetters, cX1_findLetters, (Option.some Jvm.ClassFile.FieldType.boolean)) (3, 1, 2, 1) [772, 49] = true := by decide +kernel
set_option maxRecDepth 100000 in
theorem ev_k14 : ev_okm yX3_init cX3_init ev_c14 := ev_okm_one (pls := [[], [126, 68, 69], [], [], [106], [127], [], [], [107], [128], [], [], [106], [129], [], [], [106], [130], [], [], [107], [131], []]) (by decide +kernel)
theorem ev_j14 : ev_ckM (yX3_init, cX3_init, (Option.none : Option Jvm.ClassFile.FieldType)) (1, 0, 0, 2) [125, 46] = true := by decide +kernel
set_option maxRecDepth 100000 in
theorem ev_k15 : ev_okm yX3_count cX3_count ev_c15 := ev_okm_one (pls := [[], [132], []]) (by decide +kernel)
theorem ev_j15 : ev_ckM (yX3_count, cX3_count, (Option.some Jvm.ClassFile.FieldType.int)) (1, 0, 1, 2) [594, 46] = true := by decide +kernel
