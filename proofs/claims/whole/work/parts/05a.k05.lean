set_option maxRecDepth 100000 in
theorem ev_k80 : ev_okm yX10_sizeOf cX10_sizeOf ev_c80 := ev_okm_one (pls := [[], [], [335, 336, 337, 44, 338], [], [], [91], [], [], [], [], []]) (by decide +kernel)
theorem ev_j80 : ev_ckM (yX10_sizeOf, cX10_sizeOf, (Option.some Jvm.ClassFile.FieldType.int)) (2, 1, 1, 7) [537, 44] = true := by decide +kernel
set_option maxRecDepth 100000 in
theorem ev_k81 : ev_okm yX10_copyTo cX10_copyTo ev_c81 := ev_okm_one (pls := [[], [], [349, 315, 316, 45, 317], [], [], [], [], [350, 351, 352, 44, 353], []]) (by decide +kernel)
theorem ev_j81 : ev_ckM (yX10_copyTo, cX10_copyTo, (Option.none : Option Jvm.ClassFile.FieldType)) (3, 2, 0, 7) [348, 44] = true := by decide +kernel
set_option maxRecDepth 100000 in
theorem ev_k82 : ev_okm yX10_addTo cX10_addTo ev_c82 := ev_okm_one (pls := [[], [], [335, 336, 337, 44, 338], [], [], [], [], [], [], [], [], [91], [], [], [], [], [], [90], [], [], [], [], [], [], [354, 319, 320, 45, 321], [], [], []]) (by decide +kernel)
theorem ev_j82 : ev_ckM (yX10_addTo, cX10_addTo, (Option.none : Option Jvm.ClassFile.FieldType)) (5, 3, 0, 7) [353, 44] = true := by decide +kernel
set_option maxRecDepth 100000 in
theorem ev_k83 : ev_okm yX10_standsAt cX10_standsAt ev_c83 := ev_okm_one (pls := [[], [], [335, 336, 337, 44, 338], [], [], [], [], [], [91], [], [], [], [], [330, 299, 300, 45, 301], [], [], [], [], [], [], [], [91], [], [], [], [], [90], [], [], [], [], [], [], [], [], [], [], [339, 303, 304, 45, 305], [], [], [], [], [], [], []]) (by decide +kernel)
theorem ev_j83 : ev_ckM (yX10_standsAt, cX10_standsAt, (Option.some Jvm.ClassFile.FieldType.boolean)) (5, 3, 2, 7) [334, 44] = true := by decide +kernel
set_option maxRecDepth 100000 in
theorem ev_k84 : ev_okm yX10_standsBehind cX10_standsBehind ev_c84 := ev_okm_one (pls := [[], [], [], [], [330, 299, 300, 45, 301], [], [], [534, 535, 536, 44, 537], [], [331, 332, 333, 44, 334], []]) (by decide +kernel)
theorem ev_j84 : ev_ckM (yX10_standsBehind, cX10_standsBehind, (Option.some Jvm.ClassFile.FieldType.boolean)) (3, 2, 2, 7) [533, 44] = true := by decide +kernel
set_option maxRecDepth 100000 in
theorem ev_k85 : ev_okm yX10_find cX10_find ev_c85 := ev_okm_one (pls := [[], [], [], [], [94], [], [], [91], [], [], [], [330, 299, 300, 45, 301], [], [], [], [], [], [331, 332, 333, 44, 334], [], [], [], [], [], [], []]) (by decide +kernel)
theorem ev_j85 : ev_ckM (yX10_find, cX10_find, (Option.some Jvm.ClassFile.FieldType.int)) (3, 1, 1, 7) [329, 44] = true := by decide +kernel
set_option maxRecDepth 100000 in
theorem ev_k86 : ev_okm yX10_learn cX10_learn ev_c86 := ev_okm_one (pls := [[], [], [326, 327, 328, 44, 329], [], [], [], [], [], [], [], [94], [], [], [], [], [], [94], [], [], [], [94], [], [], [94], [], [91], [], [], [330, 299, 300, 45, 301], [], [], [], [], [], [330, 299, 300, 45, 301], [], [], [90], [], [], [], [], [], [], [], [339, 303, 304, 45, 305], [], [], [], [], [92], [], [], [], [], []]) (by decide +kernel)
theorem ev_j86 : ev_ckM (yX10_learn, cX10_learn, (Option.some Jvm.ClassFile.FieldType.int)) (4, 1, 1, 7) [325, 44] = true := by decide +kernel
set_option maxRecDepth 100000 in
theorem ev_k87 : ev_okm yX10_forgetFrom cX10_forgetFrom ev_c87 := ev_okm_one (pls := [[], [], [], [], [94], [], [], [], [94], []]) (by decide +kernel)
theorem ev_j87 : ev_ckM (yX10_forgetFrom, cX10_forgetFrom, (Option.none : Option Jvm.ClassFile.FieldType)) (2, 1, 0, 7) [818, 44] = true := by decide +kernel
set_option maxRecDepth 100000 in
theorem ev_k88 : ev_okm yX10_isMarked cX10_isMarked ev_c88 := ev_okm_one (pls := [[], [], [], [], [], [], [], [335, 336, 337, 44, 338], [], [], [93], [], [], [], [], [], [], [], [], [], [], []]) (by decide +kernel)
theorem ev_j88 : ev_ckM (yX10_isMarked, cX10_isMarked, (Option.some Jvm.ClassFile.FieldType.boolean)) (3, 2, 2, 7) [369, 44] = true := by decide +kernel
set_option maxRecDepth 100000 in
theorem ev_k89 : ev_okm yX10_setMark cX10_setMark ev_c89 := ev_okm_one (pls := [[], [], [], [], [], [], [], [335, 336, 337, 44, 338], [], [], [93], [], [], [], [], [], [], [], []]) (by decide +kernel)
theorem ev_j89 : ev_ckM (yX10_setMark, cX10_setMark, (Option.none : Option Jvm.ClassFile.FieldType)) (4, 3, 0, 7) [565, 44] = true := by decide +kernel
set_option maxRecDepth 100000 in
theorem ev_k90 : ev_okm yX10_pairOf cX10_pairOf ev_c90 := ev_okm_one (pls := [[], [], [335, 336, 337, 44, 338], [], [], [92], [], [], [], [], []]) (by decide +kernel)
theorem ev_j90 : ev_ckM (yX10_pairOf, cX10_pairOf, (Option.some Jvm.ClassFile.FieldType.int)) (2, 1, 1, 7) [373, 44] = true := by decide +kernel
set_option maxRecDepth 100000 in
theorem ev_k91 : ev_okm yX10_setPair cX10_setPair ev_c91 := ev_okm_one (pls := [[], [], [335, 336, 337, 44, 338], [], [], [92], [], [], [], []]) (by decide +kernel)
theorem ev_j91 : ev_ckM (yX10_setPair, cX10_setPair, (Option.none : Option Jvm.ClassFile.FieldType)) (3, 2, 0, 7) [577, 44] = true := by decide +kernel
set_option maxRecDepth 100000 in
theorem ev_k92 : ev_okm yX11_init cX11_init ev_c92 := ev_okm_one (pls := [[], [67, 68, 69], [], [70, 71, 43], [], [72, 73, 43, 74], [242], [], [84, 85, 44], [], [86, 87, 44, 88], [243], [], [108, 109, 45], [], [110, 111, 45, 112], [244], [], [108, 109, 45], [], [110, 111, 45, 112], [245], [], [121, 122, 46], [], [123, 124, 46, 125], [246], [], [146, 147, 47], [], [148, 149, 47, 150], [247], [], [171, 172, 48], [], [173, 174, 48, 175], [248], [], [190, 191, 49], [], [192, 193, 49, 194], [249], [], [217, 218, 50], [], [219, 220, 50, 221], [250], []]) (by decide +kernel)
theorem ev_j92 : ev_ckM (yX11_init, cX11_init, (Option.none : Option Jvm.ClassFile.FieldType)) (1, 0, 0, 8) [66, 42] = true := by decide +kernel
set_option maxRecDepth 100000 in
theorem ev_k93 : ev_okm yX11_feed cX11_feed ev_c93 := ev_okm_one (pls := [[], [242], [274, 275, 276, 43, 277], [], [], [], [], [242], [], [278, 279, 280, 43, 281], [], [242], [], [278, 279, 280, 43, 281], [], [242], [], [278, 279, 280, 43, 281], [], [242], [], [278, 279, 280, 43, 281], [], [242], [], [278, 279, 280, 43, 281], [], [242], [282, 283, 284, 43, 285], []]) (by decide +kernel)
theorem ev_j93 : ev_ckM (yX11_feed, cX11_feed, (Option.some Jvm.ClassFile.FieldType.int)) (6, 5, 1, 8) [273, 42] = true := by decide +kernel
set_option maxRecDepth 100000 in
theorem ev_k94 : ev_okm yX11_cut cX11_cut ev_c94 := ev_okm_one (pls := [[], [242], [282, 283, 284, 43, 285], [], [], [], [], [], [], [], [], [], [242], [], [290, 291, 292, 43, 293], [], [], [], []]) (by decide +kernel)
theorem ev_j94 : ev_ckM (yX11_cut, cX11_cut, (Option.some Jvm.ClassFile.FieldType.int)) (3, 1, 1, 8) [289, 42] = true := by decide +kernel
set_option maxRecDepth 100000 in
theorem ev_k95 : ev_okm yX11_out cX11_out ev_c95 := ev_okm_one (pls := [[], [], [], [], [244], [298, 299, 300, 45, 301], [], [], [], [], [], [244], [298, 299, 300, 45, 301], [], [], [244], [], [302, 303, 304, 45, 305], [], [], []]) (by decide +kernel)
theorem ev_j95 : ev_ckM (yX11_out, cX11_out, (Option.some Jvm.ClassFile.FieldType.int)) (2, 1, 1, 8) [297, 42] = true := by decide +kernel
