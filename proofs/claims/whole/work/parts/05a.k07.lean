set_option maxRecDepth 100000 in
theorem ev_k112 : ev_okm yX11_told cX11_told ev_c112 := ev_okm_one (pls := [[], [], [], [243], [752, 652, 653, 44, 654], [], [], [250], [826, 827, 828, 50, 829], [], [], [246], [591, 592, 593, 46, 594], [], [], [247], [842, 843, 844, 47, 845], [], [], [250], [846, 847, 848, 50, 849], [], [], [242], [282, 283, 284, 43, 285], [], [], []]) (by decide +kernel)
theorem ev_j112 : ev_ckM (yX11_told, cX11_told, (Option.some Jvm.ClassFile.FieldType.int)) (2, 1, 1, 8) [841, 42] = true := by decide +kernel
set_option maxRecDepth 100000 in
theorem ev_k113 : ev_okm yX11_isStemmer cX11_isStemmer ev_c113 := ev_okm_one (pls := [[], [], [], [], [], [], [], [], []]) (by decide +kernel)
theorem ev_j113 : ev_ckM (yX11_isStemmer, cX11_isStemmer, (Option.some Jvm.ClassFile.FieldType.boolean)) (1, 1, 2, 8) [361, 42] = true := by decide +kernel
set_option maxRecDepth 100000 in
theorem ev_k114 : ev_okm yX11_layStem cX11_layStem ev_c114 := ev_okm_one (pls := [[], [243], [], [], [345, 346, 347, 44, 348], [], [], [], [243], [], [], [366, 367, 368, 44, 369], [], [], [], [243], [], [370, 371, 372, 44, 373], [], [], [], [], [], [243], [], [], [345, 346, 347, 44, 348], [], [], [], [], [], [374, 375, 42, 376], [], [], [], [], [], [], [453, 454, 56, 455], [], [], [246], [], [], [243], [522, 523, 524, 46, 525], []]) (by decide +kernel)
theorem ev_j114 : ev_ckM (yX11_layStem, cX11_layStem, (Option.none : Option Jvm.ClassFile.FieldType)) (5, 3, 0, 8) [365, 42] = true := by decide +kernel
set_option maxRecDepth 100000 in
theorem ev_k115 : ev_okm yX11_dropPlural cX11_dropPlural ev_c115 := ev_okm_one (pls := [[], [298, 299, 300, 45, 301], [], [], [], [], [], [378, 379, 380, 45, 381], [], [], [], [378, 379, 380, 45, 381], [], [], [], [378, 379, 380, 45, 381], [], [], [], [], [437, 438, 439, 45, 440], [], [], [], [], [378, 379, 380, 45, 381], [], [], [], [378, 379, 380, 45, 381], [], [], [], [378, 379, 380, 45, 381], [], [], [], [378, 379, 380, 45, 381], [], [], [], [], [437, 438, 439, 45, 440], [], [], [], [], [378, 379, 380, 45, 381], [], [], [], [378, 379, 380, 45, 381], [], [], [], [378, 379, 380, 45, 381], [], [], [], [], [437, 438, 439, 45, 440], [], []]) (by decide +kernel)
theorem ev_j115 : ev_ckM (yX11_dropPlural, cX11_dropPlural, (Option.none : Option Jvm.ClassFile.FieldType)) (1, 1, 0, 8) [376, 42] = true := by decide +kernel
set_option maxRecDepth 100000 in
theorem ev_k116 : ev_okm yX11_takePiece cX11_takePiece ev_c116 := ev_okm_one (pls := [[], [250], [794, 795, 796, 50, 797], [], [], [243], [], [249], [798, 799, 800, 49, 801], [322, 323, 324, 44, 325], [], [], [], [], [], [], [], [243], [], [], [366, 367, 368, 44, 369], [], [], [], [], [], [], [], [245], [362, 364, 0, 42, 365], [], [243], [], [245], [322, 323, 324, 44, 325], [], [], [], [], [], [], [], [250], [], [], [249], [802, 803, 804, 49, 805], [], [249], [806, 807, 808, 49, 809], [], [], [810, 811, 812, 50, 813], [], []]) (by decide +kernel)
theorem ev_j116 : ev_ckM (yX11_takePiece, cX11_takePiece, (Option.some Jvm.ClassFile.FieldType.boolean)) (5, 1, 2, 8) [793, 42] = true := by decide +kernel
set_option maxRecDepth 100000 in
theorem ev_k117 : ev_okm yX11_isVowel cX11_isVowel ev_c117 := ev_okm_one (pls := [[], [], [], [], [], [], [], [], [], [], [], [], [], [], [], [], [], [], []]) (by decide +kernel)
theorem ev_j117 : ev_ckM (yX11_isVowel, cX11_isVowel, (Option.some Jvm.ClassFile.FieldType.boolean)) (1, 1, 2, 8) [463, 42] = true := by decide +kernel
set_option maxRecDepth 100000 in
theorem ev_k118_0 : ev_ckA yX12_init cX12_init 0 ((ev_c118.drop 0).take 100) [[], [855, 68, 69], [], [], [106], [856], [], [], [106], [858], [], [], [106], [860], [], [], [106], [861], [], [], [106], [863], [], [], [106], [864], [], [], [106], [865], [], [], [107], [866], [], [], [106], [867], [], [], [106], [868], [], [], [107], [869], [], []] = true := by decide +kernel
set_option maxRecDepth 100000 in
theorem ev_k118_100 : ev_ckA yX12_init cX12_init 100 ((ev_c118.drop 100).take 100) [[107], [871], [], [], [106], [872], [], [], [106], [873], [], [], [875], [], [], [106], [876], [], [], [106], [878], [], [], [106], [879], [], [], [106], [880], [], [], [106], [881], [], [], [106], [882], [], [], [106], [884], [], [], [106], [887], [], [], [106], [888]] = true := by decide +kernel
set_option maxRecDepth 100000 in
theorem ev_k118_200 : ev_ckA yX12_init cX12_init 200 ((ev_c118.drop 200).take 100) [[]] = true := by decide +kernel
set_option maxRecDepth 100000 in
theorem ev_n118 : ev_c118.length = 203 := by decide +kernel
theorem ev_k118 : ev_okm yX12_init cX12_init ev_c118 := fun j e hj => if h0 : j < 100 then ev_okm_cut 0 100 ev_k118_0 j e (by omega) (by omega) hj else if h100 : j < 200 then ev_okm_cut 100 100 ev_k118_100 j e (by omega) (by omega) hj else (have hl : j < 203 := by have hl := (List.getElem?_eq_some_iff.mp hj).1; rw [ev_n118] at hl; exact hl
    ev_okm_cut 200 100 ev_k118_200 j e (by omega) (by omega) hj)
theorem ev_j118 : ev_ckM (yX12_init, cX12_init, (Option.none : Option Jvm.ClassFile.FieldType)) (1, 0, 0, 9) [854, 51] = true := by decide +kernel
set_option maxRecDepth 100000 in
theorem ev_k119 : ev_okm yX12_small cX12_small ev_c119 := ev_okm_one (pls := [[], [], [], [], [], [], []]) (by decide +kernel)
theorem ev_j119 : ev_ckM (yX12_small, cX12_small, (Option.some Jvm.ClassFile.FieldType.int)) (2, 2, 1, 9) [1267, 51] = true := by decide +kernel
set_option maxRecDepth 100000 in
theorem ev_k120 : ev_okm yX12_beyond cX12_beyond ev_c120 := ev_okm_one (pls := [[], [], [], [], [], [], [], [], [], []]) (by decide +kernel)
theorem ev_j120 : ev_ckM (yX12_beyond, cX12_beyond, (Option.some Jvm.ClassFile.FieldType.boolean)) (3, 3, 2, 9) [970, 51] = true := by decide +kernel
set_option maxRecDepth 100000 in
theorem ev_k121 : ev_okm yX12_strange cX12_strange ev_c121 := ev_okm_one (pls := [[], [], [], [862], [], [], [968, 969, 51, 970], []]) (by decide +kernel)
theorem ev_j121 : ev_ckM (yX12_strange, cX12_strange, (Option.some Jvm.ClassFile.FieldType.boolean)) (2, 1, 2, 9) [994, 51] = true := by decide +kernel
set_option maxRecDepth 100000 in
theorem ev_k122 : ev_okm yX12_feed cX12_feed ev_c122 := ev_okm_one (pls := [[], [857], [], [], [], [], [], [], [], [], [960, 962, 8, 51, 963], [], [], [960, 962, 8, 51, 963], [], [], [960, 962, 8, 51, 963], [], [], [960, 962, 8, 51, 963], [], [], [960, 962, 8, 51, 963], [], [857], []]) (by decide +kernel)
theorem ev_j122 : ev_ckM (yX12_feed, cX12_feed, (Option.some Jvm.ClassFile.FieldType.int)) (6, 5, 1, 9) [959, 51] = true := by decide +kernel
set_option maxRecDepth 100000 in
theorem ev_k123 : ev_okm yX12_four cX12_four ev_c123 := ev_okm_one (pls := [[], [], [], [], [], [856], [], [857], [], [], [], [], [], [], [], [], [857], [], [], [857], [], [], []]) (by decide +kernel)
theorem ev_j123 : ev_ckM (yX12_four, cX12_four, (Option.none : Option Jvm.ClassFile.FieldType)) (3, 1, 0, 9) [963, 51] = true := by decide +kernel
set_option maxRecDepth 100000 in
theorem ev_k124 : ev_okm yX12_cut cX12_cut ev_c124 := ev_okm_one (pls := [[], [], [], [857], [968, 969, 51, 970], [], [], [], [], [857], [], [], [], [], [], [857], [], []]) (by decide +kernel)
theorem ev_j124 : ev_ckM (yX12_cut, cX12_cut, (Option.some Jvm.ClassFile.FieldType.int)) (3, 1, 1, 9) [967, 51] = true := by decide +kernel
set_option maxRecDepth 100000 in
theorem ev_k125 : ev_okm yX12_out cX12_out ev_c125 := ev_okm_one (pls := [[], [], [], [], [859], [], [], [], [], [859], [], [], [968, 969, 51, 970], [], [], [], [], [858], [], [], []]) (by decide +kernel)
theorem ev_j125 : ev_ckM (yX12_out, cX12_out, (Option.some Jvm.ClassFile.FieldType.int)) (2, 1, 1, 9) [974, 51] = true := by decide +kernel
set_option maxRecDepth 100000 in
theorem ev_k126 : ev_okm yX12_show cX12_show ev_c126 := ev_okm_one (pls := [[], [], [], [], [877], [], [], [858], [], [], [876], [], [], [], [], [], [], [], [877], [859], [], [877], []]) (by decide +kernel)
theorem ev_j126 : ev_ckM (yX12_show, cX12_show, (Option.some Jvm.ClassFile.FieldType.int)) (2, 0, 1, 9) [1002, 51] = true := by decide +kernel
set_option maxRecDepth 100000 in
theorem ev_k127 : ev_okm yX12_take cX12_take ev_c127 := ev_okm_one (pls := [[], [], [861], [], [], [877], [], [], [], [], [877], [], [], [876], [], [], [860], [], [], [], [], [], [], [], [], [], []]) (by decide +kernel)
theorem ev_j127 : ev_ckM (yX12_take, cX12_take, (Option.none : Option Jvm.ClassFile.FieldType)) (3, 1, 0, 9) [998, 51] = true := by decide +kernel
