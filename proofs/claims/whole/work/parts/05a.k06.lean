set_option maxRecDepth 100000 in
theorem ev_k96 : ev_okm yX11_word cX11_word ev_c96 := ev_okm_one (pls := [[], [242], [], [245], [310, 311, 312, 43, 313], [], [], [242], [], [290, 291, 292, 43, 293], [], [], [], [243], [], [245], [322, 323, 324, 44, 325], [], [], []]) (by decide +kernel)
theorem ev_j96 : ev_ckM (yX11_word, cX11_word, (Option.some Jvm.ClassFile.FieldType.int)) (2, 0, 1, 8) [309, 42] = true := by decide +kernel
set_option maxRecDepth 100000 in
theorem ev_k97 : ev_okm yX11_spell cX11_spell ev_c97 := ev_okm_one (pls := [[], [243], [], [344, 336, 337, 44, 338], [], [], [], [], [243], [], [], [244], [345, 346, 347, 44, 348], [], [244], [298, 299, 300, 45, 301], []]) (by decide +kernel)
theorem ev_j97 : ev_ckM (yX11_spell, cX11_spell, (Option.some Jvm.ClassFile.FieldType.int)) (2, 1, 1, 8) [343, 42] = true := by decide +kernel
set_option maxRecDepth 100000 in
theorem ev_k98 : ev_okm yX11_stem cX11_stem ev_c98 := ev_okm_one (pls := [[], [243], [], [344, 336, 337, 44, 338], [], [], [], [], [359, 360, 42, 361], [], [], [], [], [], [], [], [244], [362, 364, 0, 42, 365], [], [244], [298, 299, 300, 45, 301], []]) (by decide +kernel)
theorem ev_j98 : ev_ckM (yX11_stem, cX11_stem, (Option.some Jvm.ClassFile.FieldType.int)) (3, 2, 1, 8) [358, 42] = true := by decide +kernel
set_option maxRecDepth 100000 in
theorem ev_k99 : ev_okm yX11_step cX11_step ev_c99 := ev_okm_one (pls := [[], [243], [], [344, 336, 337, 44, 338], [], [], [], [], [], [], [], [], [], [], [], [243], [], [], [244], [345, 346, 347, 44, 348], [], [244], [], [453, 454, 56, 455], [], [244], [298, 299, 300, 45, 301], []]) (by decide +kernel)
theorem ev_j99 : ev_ckM (yX11_step, cX11_step, (Option.some Jvm.ClassFile.FieldType.int)) (3, 2, 1, 8) [551, 42] = true := by decide +kernel
set_option maxRecDepth 100000 in
theorem ev_k100 : ev_okm yX11_measure cX11_measure ev_c100 := ev_okm_one (pls := [[], [243], [], [344, 336, 337, 44, 338], [], [], [], [], [243], [], [], [245], [345, 346, 347, 44, 348], [], [245], [556, 458, 56, 459], [], [245], [298, 299, 300, 45, 301], [557, 483, 56, 484], []]) (by decide +kernel)
theorem ev_j100 : ev_ckM (yX11_measure, cX11_measure, (Option.some Jvm.ClassFile.FieldType.int)) (2, 1, 1, 8) [555, 42] = true := by decide +kernel
set_option maxRecDepth 100000 in
theorem ev_k101 : ev_okm yX11_mark cX11_mark ev_c101 := ev_okm_one (pls := [[], [243], [], [344, 336, 337, 44, 338], [], [], [], [], [], [], [], [], [], [], [], [243], [], [], [366, 367, 368, 44, 369], [], [], [], [], [], [243], [], [], [], [562, 563, 564, 44, 565], [], []]) (by decide +kernel)
theorem ev_j101 : ev_ckM (yX11_mark, cX11_mark, (Option.some Jvm.ClassFile.FieldType.int)) (4, 3, 1, 8) [561, 42] = true := by decide +kernel
set_option maxRecDepth 100000 in
theorem ev_k102 : ev_okm yX11_pair cX11_pair ev_c102 := ev_okm_one (pls := [[], [243], [], [344, 336, 337, 44, 338], [], [], [243], [], [570, 571, 572, 44, 573], [], [], [], [], [243], [], [370, 371, 372, 44, 373], [], [], [243], [], [], [574, 575, 576, 44, 577], [], []]) (by decide +kernel)
theorem ev_j102 : ev_ckM (yX11_pair, cX11_pair, (Option.some Jvm.ClassFile.FieldType.int)) (4, 2, 1, 8) [569, 42] = true := by decide +kernel
set_option maxRecDepth 100000 in
theorem ev_k103 : ev_okm yX11_row cX11_row ev_c103 := ev_okm_one (pls := [[], [243], [], [344, 336, 337, 44, 338], [], [], [243], [], [570, 571, 572, 44, 573], [], [], [], [], [243], [], [582, 535, 536, 44, 537], [], [], [], [243], [], [582, 535, 536, 44, 537], [], [], [], [], [], [], [], [], [], [], [246], [], [], [], [], [], [583, 584, 585, 46, 586], []]) (by decide +kernel)
theorem ev_j103 : ev_ckM (yX11_row, cX11_row, (Option.some Jvm.ClassFile.FieldType.int)) (6, 5, 1, 8) [581, 42] = true := by decide +kernel
set_option maxRecDepth 100000 in
theorem ev_k104 : ev_okm yX11_rowless cX11_rowless ev_c104 := ev_okm_one (pls := [[], [246], [591, 592, 593, 46, 594], [], [], [246], [595, 596, 597, 46, 598], [], []]) (by decide +kernel)
theorem ev_j104 : ev_ckM (yX11_rowless, cX11_rowless, (Option.some Jvm.ClassFile.FieldType.int)) (2, 0, 1, 8) [590, 42] = true := by decide +kernel
set_option maxRecDepth 100000 in
theorem ev_k105 : ev_okm yX11_affix cX11_affix ev_c105 := ev_okm_one (pls := [[], [243], [], [344, 336, 337, 44, 338], [], [], [243], [], [570, 571, 572, 44, 573], [], [], [], [], [243], [], [582, 535, 536, 44, 537], [], [], [], [243], [], [582, 535, 536, 44, 537], [], [], [], [], [], [247], [], [], [], [603, 604, 605, 47, 606], []]) (by decide +kernel)
theorem ev_j105 : ev_ckM (yX11_affix, cX11_affix, (Option.some Jvm.ClassFile.FieldType.int)) (4, 3, 1, 8) [602, 42] = true := by decide +kernel
set_option maxRecDepth 100000 in
theorem ev_k106 : ev_okm yX11_base cX11_base ev_c106 := ev_okm_one (pls := [[], [243], [], [344, 336, 337, 44, 338], [], [], [], [], [247], [], [], [243], [], [245], [611, 612, 613, 47, 614], [], [247], [], [631, 632, 633, 47, 634], []]) (by decide +kernel)
theorem ev_j106 : ev_ckM (yX11_base, cX11_base, (Option.some Jvm.ClassFile.FieldType.int)) (3, 2, 1, 8) [610, 42] = true := by decide +kernel
set_option maxRecDepth 100000 in
theorem ev_k107 : ev_okm yX11_least cX11_least ev_c107 := ev_okm_one (pls := [[], [], [], [], [], [], [], [], [], [248], [], [639, 640, 641, 48, 642], []]) (by decide +kernel)
theorem ev_j107 : ev_ckM (yX11_least, cX11_least, (Option.some Jvm.ClassFile.FieldType.int)) (2, 1, 1, 8) [638, 42] = true := by decide +kernel
set_option maxRecDepth 100000 in
theorem ev_k108 : ev_okm yX11_part cX11_part ev_c108 := ev_okm_one (pls := [[], [243], [], [344, 336, 337, 44, 338], [], [], [], [], [243], [], [], [245], [345, 346, 347, 44, 348], [], [248], [], [245], [], [243], [647, 648, 649, 48, 650], [], [], [], [], [248], [667, 668, 669, 48, 670], [], [], [248], [], [671, 672, 673, 48, 674], []]) (by decide +kernel)
theorem ev_j108 : ev_ckM (yX11_part, cX11_part, (Option.some Jvm.ClassFile.FieldType.int)) (3, 2, 1, 8) [646, 42] = true := by decide +kernel
set_option maxRecDepth 100000 in
theorem ev_k109 : ev_okm yX11_key cX11_key ev_c109 := ev_okm_one (pls := [[], [243], [], [344, 336, 337, 44, 338], [], [], [], [], [], [], [], [], [], [], [], [243], [], [], [245], [345, 346, 347, 44, 348], [], [], [], [245], [], [244], [679, 680, 60, 681], [], [], [245], [], [244], [691, 692, 60, 693], [], [244], [298, 299, 300, 45, 301], []]) (by decide +kernel)
theorem ev_j109 : ev_ckM (yX11_key, cX11_key, (Option.some Jvm.ClassFile.FieldType.int)) (3, 2, 1, 8) [678, 42] = true := by decide +kernel
set_option maxRecDepth 100000 in
theorem ev_k110 : ev_okm yX11_text cX11_text ev_c110 := ev_okm_one (pls := [[], [359, 360, 42, 361], [], [], [242], [], [290, 291, 292, 43, 293], [], [], [], [243], [752, 652, 653, 44, 654], [], [], [], [], [249], [753, 754, 755, 49, 756], [], [250], [757, 758, 759, 50, 760], [], [], [], [], [], [], [], [], [250], [761, 762, 763, 50, 764], [], [], [249], [], [242], [765, 766, 767, 49, 768], [], [], [], [790, 792, 7, 42, 793], [], [], [], [], [242], [], [290, 291, 292, 43, 293], [], [], [], [243], [], [815, 816, 817, 44, 818], [], [], [], [250], [819, 820, 821, 50, 822], [], [250], [826, 827, 828, 50, 829], []]) (by decide +kernel)
theorem ev_j110 : ev_ckM (yX11_text, cX11_text, (Option.some Jvm.ClassFile.FieldType.int)) (5, 1, 1, 8) [751, 42] = true := by decide +kernel
set_option maxRecDepth 100000 in
theorem ev_k111 : ev_okm yX11_token cX11_token ev_c111 := ev_okm_one (pls := [[], [], [], [], [], [], [], [], [250], [], [], [834, 835, 836, 50, 837], []]) (by decide +kernel)
theorem ev_j111 : ev_ckM (yX11_token, cX11_token, (Option.some Jvm.ClassFile.FieldType.int)) (3, 2, 1, 8) [833, 42] = true := by decide +kernel
