-- ===== PART A: goes FIRST, ahead of the names: the tables' words, and 'selects' of the private methods out of them =====
/-- a private method of a class that the tables say can be made, by its rows of tables_1 -/
def lw_okq (q : MethodName × Nat) : Prop := (q.1.cls ≠ "java/lang/invoke/MethodHandle" ∧ q.1.cls ≠ "java/lang/invoke/VarHandle") ∧ Cond.instantiable q.1.cls q.2 ∈ tables_1 ∧ Cond.privateMethod q.1 ∈ tables_1 ∧ Cond.instanceMethod q.1 ∈ tables_1
theorem lw_p0 : lw_okq (⟨"StemRules", "layStem", "(IILStemRules$Letters;)V"⟩, 9) := ⟨⟨by decide +kernel, by decide +kernel⟩, List.mem_of_getElem? (i := 22) (by decide +kernel), List.mem_of_getElem? (i := 322) (by decide +kernel), List.mem_of_getElem? (i := 323) (by decide +kernel)⟩
theorem lw_p1 : lw_okq (⟨"StemRules$Husk", "findRow", "(LStemRules$Letters;ZLStemRules$Words;)I"⟩, 6) := ⟨⟨by decide +kernel, by decide +kernel⟩, List.mem_of_getElem? (i := 81) (by decide +kernel), List.mem_of_getElem? (i := 486) (by decide +kernel), List.mem_of_getElem? (i := 487) (by decide +kernel)⟩
theorem lw_p2 : lw_okq (⟨"StemRules$Bases", "note", "(ILStemRules$Words;)V"⟩, 6) := ⟨⟨by decide +kernel, by decide +kernel⟩, List.mem_of_getElem? (i := 106) (by decide +kernel), List.mem_of_getElem? (i := 575) (by decide +kernel), List.mem_of_getElem? (i := 576) (by decide +kernel)⟩
theorem lw_p3 : lw_okq (⟨"StemRules$Bases", "change", "(IILStemRules$Words;LStemRules$Letters;)Z"⟩, 6) := ⟨⟨by decide +kernel, by decide +kernel⟩, List.mem_of_getElem? (i := 106) (by decide +kernel), List.mem_of_getElem? (i := 580) (by decide +kernel), List.mem_of_getElem? (i := 581) (by decide +kernel)⟩
theorem lw_p4 : lw_okq (⟨"StemRules$Parts", "mayStand", "(ILStemRules$Letters;ILStemRules$Words;)Z"⟩, 4) := ⟨⟨by decide +kernel, by decide +kernel⟩, List.mem_of_getElem? (i := 131) (by decide +kernel), List.mem_of_getElem? (i := 615) (by decide +kernel), List.mem_of_getElem? (i := 616) (by decide +kernel)⟩
theorem lw_p5 : lw_okq (⟨"StemRules$Parts", "noteFirst", "(IIII)V"⟩, 4) := ⟨⟨by decide +kernel, by decide +kernel⟩, List.mem_of_getElem? (i := 131) (by decide +kernel), List.mem_of_getElem? (i := 623) (by decide +kernel), List.mem_of_getElem? (i := 624) (by decide +kernel)⟩
theorem lw_p6 : lw_okq (⟨"StemRules$Cutter", "findLetters", "(LStemRules$Tape;)Z"⟩, 6) := ⟨⟨by decide +kernel, by decide +kernel⟩, List.mem_of_getElem? (i := 150) (by decide +kernel), List.mem_of_getElem? (i := 729) (by decide +kernel), List.mem_of_getElem? (i := 730) (by decide +kernel)⟩
theorem lw_p7 : lw_okq (⟨"StemRules", "takePiece", "(I)Z"⟩, 9) := ⟨⟨by decide +kernel, by decide +kernel⟩, List.mem_of_getElem? (i := 22) (by decide +kernel), List.mem_of_getElem? (i := 750) (by decide +kernel), List.mem_of_getElem? (i := 751) (by decide +kernel)⟩
theorem lw_p8 : lw_okq (⟨"StemRulesModel", "four", "(I)V"⟩, 33) := ⟨⟨by decide +kernel, by decide +kernel⟩, List.mem_of_getElem? (i := 810) (by decide +kernel), List.mem_of_getElem? (i := 920) (by decide +kernel), List.mem_of_getElem? (i := 921) (by decide +kernel)⟩
theorem lw_p9 : lw_okq (⟨"StemRulesModel", "learn", "()I"⟩, 33) := ⟨⟨by decide +kernel, by decide +kernel⟩, List.mem_of_getElem? (i := 810) (by decide +kernel), List.mem_of_getElem? (i := 939) (by decide +kernel), List.mem_of_getElem? (i := 940) (by decide +kernel)⟩
theorem lw_p10 : lw_okq (⟨"StemRulesModel", "find", "(II)I"⟩, 33) := ⟨⟨by decide +kernel, by decide +kernel⟩, List.mem_of_getElem? (i := 810) (by decide +kernel), List.mem_of_getElem? (i := 943) (by decide +kernel), List.mem_of_getElem? (i := 944) (by decide +kernel)⟩
theorem lw_p11 : lw_okq (⟨"StemRulesModel", "strange", "(I)Z"⟩, 33) := ⟨⟨by decide +kernel, by decide +kernel⟩, List.mem_of_getElem? (i := 810) (by decide +kernel), List.mem_of_getElem? (i := 951) (by decide +kernel), List.mem_of_getElem? (i := 952) (by decide +kernel)⟩
theorem lw_p12 : lw_okq (⟨"StemRulesModel", "take", "(I)V"⟩, 33) := ⟨⟨by decide +kernel, by decide +kernel⟩, List.mem_of_getElem? (i := 810) (by decide +kernel), List.mem_of_getElem? (i := 955) (by decide +kernel), List.mem_of_getElem? (i := 956) (by decide +kernel)⟩
theorem lw_p13 : lw_okq (⟨"StemRulesModel", "show", "()I"⟩, 33) := ⟨⟨by decide +kernel, by decide +kernel⟩, List.mem_of_getElem? (i := 810) (by decide +kernel), List.mem_of_getElem? (i := 959) (by decide +kernel), List.mem_of_getElem? (i := 960) (by decide +kernel)⟩
theorem lw_p14 : lw_okq (⟨"StemRulesModel", "stemOf", "(II)V"⟩, 33) := ⟨⟨by decide +kernel, by decide +kernel⟩, List.mem_of_getElem? (i := 810) (by decide +kernel), List.mem_of_getElem? (i := 967) (by decide +kernel), List.mem_of_getElem? (i := 968) (by decide +kernel)⟩
theorem lw_p15 : lw_okq (⟨"StemRulesModel", "plural", "()V"⟩, 33) := ⟨⟨by decide +kernel, by decide +kernel⟩, List.mem_of_getElem? (i := 810) (by decide +kernel), List.mem_of_getElem? (i := 971) (by decide +kernel), List.mem_of_getElem? (i := 972) (by decide +kernel)⟩
def lw_privs_1 : List (MethodName × Nat) := [(⟨"StemRules", "layStem", "(IILStemRules$Letters;)V"⟩, 9), (⟨"StemRules$Husk", "findRow", "(LStemRules$Letters;ZLStemRules$Words;)I"⟩, 6), (⟨"StemRules$Bases", "note", "(ILStemRules$Words;)V"⟩, 6), (⟨"StemRules$Bases", "change", "(IILStemRules$Words;LStemRules$Letters;)Z"⟩, 6), (⟨"StemRules$Parts", "mayStand", "(ILStemRules$Letters;ILStemRules$Words;)Z"⟩, 4), (⟨"StemRules$Parts", "noteFirst", "(IIII)V"⟩, 4), (⟨"StemRules$Cutter", "findLetters", "(LStemRules$Tape;)Z"⟩, 6), (⟨"StemRules", "takePiece", "(I)Z"⟩, 9), (⟨"StemRulesModel", "four", "(I)V"⟩, 33), (⟨"StemRulesModel", "learn", "()I"⟩, 33), (⟨"StemRulesModel", "find", "(II)I"⟩, 33), (⟨"StemRulesModel", "strange", "(I)Z"⟩, 33), (⟨"StemRulesModel", "take", "(I)V"⟩, 33), (⟨"StemRulesModel", "show", "()I"⟩, 33), (⟨"StemRulesModel", "stemOf", "(II)V"⟩, 33), (⟨"StemRulesModel", "plural", "()V"⟩, 33)]
theorem lw_r1 : ∀ q ∈ lw_privs_1, lw_okq q := List.forall_mem_cons.mpr ⟨lw_p0, List.forall_mem_cons.mpr ⟨lw_p1, List.forall_mem_cons.mpr ⟨lw_p2, List.forall_mem_cons.mpr ⟨lw_p3, List.forall_mem_cons.mpr ⟨lw_p4, List.forall_mem_cons.mpr ⟨lw_p5, List.forall_mem_cons.mpr ⟨lw_p6, List.forall_mem_cons.mpr ⟨lw_p7, List.forall_mem_cons.mpr ⟨lw_p8, List.forall_mem_cons.mpr ⟨lw_p9, List.forall_mem_cons.mpr ⟨lw_p10, List.forall_mem_cons.mpr ⟨lw_p11, List.forall_mem_cons.mpr ⟨lw_p12, List.forall_mem_cons.mpr ⟨lw_p13, List.forall_mem_cons.mpr ⟨lw_p14, List.forall_mem_cons.mpr ⟨lw_p15, fun _ h => absurd h List.not_mem_nil⟩⟩⟩⟩⟩⟩⟩⟩⟩⟩⟩⟩⟩⟩⟩⟩
theorem lw_p16 : lw_okq (⟨"StemRulesModel", "ends", "(J)Z"⟩, 33) := ⟨⟨by decide +kernel, by decide +kernel⟩, List.mem_of_getElem? (i := 810) (by decide +kernel), List.mem_of_getElem? (i := 976) (by decide +kernel), List.mem_of_getElem? (i := 977) (by decide +kernel)⟩
theorem lw_p17 : lw_okq (⟨"StemRulesModel", "stands", "(IJ)Z"⟩, 33) := ⟨⟨by decide +kernel, by decide +kernel⟩, List.mem_of_getElem? (i := 810) (by decide +kernel), List.mem_of_getElem? (i := 983) (by decide +kernel), List.mem_of_getElem? (i := 984) (by decide +kernel)⟩
theorem lw_p18 : lw_okq (⟨"StemRulesModel", "turn", "(IJ)V"⟩, 33) := ⟨⟨by decide +kernel, by decide +kernel⟩, List.mem_of_getElem? (i := 810) (by decide +kernel), List.mem_of_getElem? (i := 994) (by decide +kernel), List.mem_of_getElem? (i := 995) (by decide +kernel)⟩
theorem lw_p19 : lw_okq (⟨"StemRulesModel", "porter", "(I)V"⟩, 33) := ⟨⟨by decide +kernel, by decide +kernel⟩, List.mem_of_getElem? (i := 810) (by decide +kernel), List.mem_of_getElem? (i := 1005) (by decide +kernel), List.mem_of_getElem? (i := 1006) (by decide +kernel)⟩
theorem lw_p20 : lw_okq (⟨"StemRulesModel", "porterStep", "(I)V"⟩, 33) := ⟨⟨by decide +kernel, by decide +kernel⟩, List.mem_of_getElem? (i := 810) (by decide +kernel), List.mem_of_getElem? (i := 1009) (by decide +kernel), List.mem_of_getElem? (i := 1010) (by decide +kernel)⟩
theorem lw_p21 : lw_okq (⟨"StemRulesModel", "do1b", "()V"⟩, 33) := ⟨⟨by decide +kernel, by decide +kernel⟩, List.mem_of_getElem? (i := 810) (by decide +kernel), List.mem_of_getElem? (i := 1014) (by decide +kernel), List.mem_of_getElem? (i := 1015) (by decide +kernel)⟩
theorem lw_p22 : lw_okq (⟨"StemRulesModel", "measure0", "(I)I"⟩, 33) := ⟨⟨by decide +kernel, by decide +kernel⟩, List.mem_of_getElem? (i := 810) (by decide +kernel), List.mem_of_getElem? (i := 1019) (by decide +kernel), List.mem_of_getElem? (i := 1020) (by decide +kernel)⟩
theorem lw_p23 : lw_okq (⟨"StemRulesModel", "isC", "(I)Z"⟩, 33) := ⟨⟨by decide +kernel, by decide +kernel⟩, List.mem_of_getElem? (i := 810) (by decide +kernel), List.mem_of_getElem? (i := 1023) (by decide +kernel), List.mem_of_getElem? (i := 1024) (by decide +kernel)⟩
theorem lw_p24 : lw_okq (⟨"StemRulesModel", "hasV", "(I)Z"⟩, 33) := ⟨⟨by decide +kernel, by decide +kernel⟩, List.mem_of_getElem? (i := 810) (by decide +kernel), List.mem_of_getElem? (i := 1032) (by decide +kernel), List.mem_of_getElem? (i := 1033) (by decide +kernel)⟩
theorem lw_p25 : lw_okq (⟨"StemRulesModel", "shortE", "()V"⟩, 33) := ⟨⟨by decide +kernel, by decide +kernel⟩, List.mem_of_getElem? (i := 810) (by decide +kernel), List.mem_of_getElem? (i := 1040) (by decide +kernel), List.mem_of_getElem? (i := 1041) (by decide +kernel)⟩
theorem lw_p26 : lw_okq (⟨"StemRulesModel", "isO", "(I)Z"⟩, 33) := ⟨⟨by decide +kernel, by decide +kernel⟩, List.mem_of_getElem? (i := 810) (by decide +kernel), List.mem_of_getElem? (i := 1044) (by decide +kernel), List.mem_of_getElem? (i := 1045) (by decide +kernel)⟩
theorem lw_p27 : lw_okq (⟨"StemRulesModel", "replace", "(I)V"⟩, 33) := ⟨⟨by decide +kernel, by decide +kernel⟩, List.mem_of_getElem? (i := 810) (by decide +kernel), List.mem_of_getElem? (i := 1048) (by decide +kernel), List.mem_of_getElem? (i := 1049) (by decide +kernel)⟩
theorem lw_p28 : lw_okq (⟨"StemRulesModel", "longest", "(I)I"⟩, 33) := ⟨⟨by decide +kernel, by decide +kernel⟩, List.mem_of_getElem? (i := 810) (by decide +kernel), List.mem_of_getElem? (i := 1052) (by decide +kernel), List.mem_of_getElem? (i := 1053) (by decide +kernel)⟩
theorem lw_p29 : lw_okq (⟨"StemRulesModel", "husk", "()V"⟩, 33) := ⟨⟨by decide +kernel, by decide +kernel⟩, List.mem_of_getElem? (i := 810) (by decide +kernel), List.mem_of_getElem? (i := 1117) (by decide +kernel), List.mem_of_getElem? (i := 1118) (by decide +kernel)⟩
theorem lw_p30 : lw_okq (⟨"StemRulesModel", "endsWith", "(I)Z"⟩, 33) := ⟨⟨by decide +kernel, by decide +kernel⟩, List.mem_of_getElem? (i := 810) (by decide +kernel), List.mem_of_getElem? (i := 1121) (by decide +kernel), List.mem_of_getElem? (i := 1122) (by decide +kernel)⟩
theorem lw_p31 : lw_okq (⟨"StemRulesModel", "isGood", "(II)Z"⟩, 33) := ⟨⟨by decide +kernel, by decide +kernel⟩, List.mem_of_getElem? (i := 810) (by decide +kernel), List.mem_of_getElem? (i := 1125) (by decide +kernel), List.mem_of_getElem? (i := 1126) (by decide +kernel)⟩
def lw_privs_2 : List (MethodName × Nat) := [(⟨"StemRulesModel", "ends", "(J)Z"⟩, 33), (⟨"StemRulesModel", "stands", "(IJ)Z"⟩, 33), (⟨"StemRulesModel", "turn", "(IJ)V"⟩, 33), (⟨"StemRulesModel", "porter", "(I)V"⟩, 33), (⟨"StemRulesModel", "porterStep", "(I)V"⟩, 33), (⟨"StemRulesModel", "do1b", "()V"⟩, 33), (⟨"StemRulesModel", "measure0", "(I)I"⟩, 33), (⟨"StemRulesModel", "isC", "(I)Z"⟩, 33), (⟨"StemRulesModel", "hasV", "(I)Z"⟩, 33), (⟨"StemRulesModel", "shortE", "()V"⟩, 33), (⟨"StemRulesModel", "isO", "(I)Z"⟩, 33), (⟨"StemRulesModel", "replace", "(I)V"⟩, 33), (⟨"StemRulesModel", "longest", "(I)I"⟩, 33), (⟨"StemRulesModel", "husk", "()V"⟩, 33), (⟨"StemRulesModel", "endsWith", "(I)Z"⟩, 33), (⟨"StemRulesModel", "isGood", "(II)Z"⟩, 33)]
theorem lw_r2 : ∀ q ∈ lw_privs_2, lw_okq q := List.forall_mem_cons.mpr ⟨lw_p16, List.forall_mem_cons.mpr ⟨lw_p17, List.forall_mem_cons.mpr ⟨lw_p18, List.forall_mem_cons.mpr ⟨lw_p19, List.forall_mem_cons.mpr ⟨lw_p20, List.forall_mem_cons.mpr ⟨lw_p21, List.forall_mem_cons.mpr ⟨lw_p22, List.forall_mem_cons.mpr ⟨lw_p23, List.forall_mem_cons.mpr ⟨lw_p24, List.forall_mem_cons.mpr ⟨lw_p25, List.forall_mem_cons.mpr ⟨lw_p26, List.forall_mem_cons.mpr ⟨lw_p27, List.forall_mem_cons.mpr ⟨lw_p28, List.forall_mem_cons.mpr ⟨lw_p29, List.forall_mem_cons.mpr ⟨lw_p30, List.forall_mem_cons.mpr ⟨lw_p31, fun _ h => absurd h List.not_mem_nil⟩⟩⟩⟩⟩⟩⟩⟩⟩⟩⟩⟩⟩⟩⟩⟩
theorem lw_p32 : lw_okq (⟨"StemRulesModel", "isMember", "(I)Z"⟩, 33) := ⟨⟨by decide +kernel, by decide +kernel⟩, List.mem_of_getElem? (i := 810) (by decide +kernel), List.mem_of_getElem? (i := 1161) (by decide +kernel), List.mem_of_getElem? (i := 1162) (by decide +kernel)⟩
theorem lw_p33 : lw_okq (⟨"StemRulesModel", "byAffix", "(II)I"⟩, 33) := ⟨⟨by decide +kernel, by decide +kernel⟩, List.mem_of_getElem? (i := 810) (by decide +kernel), List.mem_of_getElem? (i := 1165) (by decide +kernel), List.mem_of_getElem? (i := 1166) (by decide +kernel)⟩
theorem lw_p34 : lw_okq (⟨"StemRulesModel", "add", "(III)V"⟩, 33) := ⟨⟨by decide +kernel, by decide +kernel⟩, List.mem_of_getElem? (i := 810) (by decide +kernel), List.mem_of_getElem? (i := 1169) (by decide +kernel), List.mem_of_getElem? (i := 1170) (by decide +kernel)⟩
theorem lw_p35 : lw_okq (⟨"StemRulesModel", "keyByFigures", "()I"⟩, 33) := ⟨⟨by decide +kernel, by decide +kernel⟩, List.mem_of_getElem? (i := 810) (by decide +kernel), List.mem_of_getElem? (i := 1185) (by decide +kernel), List.mem_of_getElem? (i := 1186) (by decide +kernel)⟩
theorem lw_p36 : lw_okq (⟨"StemRulesModel", "keyBySounds", "()I"⟩, 33) := ⟨⟨by decide +kernel, by decide +kernel⟩, List.mem_of_getElem? (i := 810) (by decide +kernel), List.mem_of_getElem? (i := 1192) (by decide +kernel), List.mem_of_getElem? (i := 1193) (by decide +kernel)⟩
theorem lw_p37 : lw_okq (⟨"StemRulesModel", "becomes", "(IJJ)Z"⟩, 33) := ⟨⟨by decide +kernel, by decide +kernel⟩, List.mem_of_getElem? (i := 810) (by decide +kernel), List.mem_of_getElem? (i := 1198) (by decide +kernel), List.mem_of_getElem? (i := 1199) (by decide +kernel)⟩
theorem lw_p38 : lw_okq (⟨"StemRulesModel", "sound", "(I)V"⟩, 33) := ⟨⟨by decide +kernel, by decide +kernel⟩, List.mem_of_getElem? (i := 810) (by decide +kernel), List.mem_of_getElem? (i := 1219) (by decide +kernel), List.mem_of_getElem? (i := 1220) (by decide +kernel)⟩
theorem lw_p39 : lw_okq (⟨"StemRulesModel", "letterAt", "(II)I"⟩, 33) := ⟨⟨by decide +kernel, by decide +kernel⟩, List.mem_of_getElem? (i := 810) (by decide +kernel), List.mem_of_getElem? (i := 1232) (by decide +kernel), List.mem_of_getElem? (i := 1233) (by decide +kernel)⟩
theorem lw_p40 : lw_okq (⟨"StemRulesModel", "lay", "(IIII)Z"⟩, 33) := ⟨⟨by decide +kernel, by decide +kernel⟩, List.mem_of_getElem? (i := 810) (by decide +kernel), List.mem_of_getElem? (i := 1236) (by decide +kernel), List.mem_of_getElem? (i := 1237) (by decide +kernel)⟩
def lw_privs_3 : List (MethodName × Nat) := [(⟨"StemRulesModel", "isMember", "(I)Z"⟩, 33), (⟨"StemRulesModel", "byAffix", "(II)I"⟩, 33), (⟨"StemRulesModel", "add", "(III)V"⟩, 33), (⟨"StemRulesModel", "keyByFigures", "()I"⟩, 33), (⟨"StemRulesModel", "keyBySounds", "()I"⟩, 33), (⟨"StemRulesModel", "becomes", "(IJJ)Z"⟩, 33), (⟨"StemRulesModel", "sound", "(I)V"⟩, 33), (⟨"StemRulesModel", "letterAt", "(II)I"⟩, 33), (⟨"StemRulesModel", "lay", "(IIII)Z"⟩, 33)]
theorem lw_r3 : ∀ q ∈ lw_privs_3, lw_okq q := List.forall_mem_cons.mpr ⟨lw_p32, List.forall_mem_cons.mpr ⟨lw_p33, List.forall_mem_cons.mpr ⟨lw_p34, List.forall_mem_cons.mpr ⟨lw_p35, List.forall_mem_cons.mpr ⟨lw_p36, List.forall_mem_cons.mpr ⟨lw_p37, List.forall_mem_cons.mpr ⟨lw_p38, List.forall_mem_cons.mpr ⟨lw_p39, List.forall_mem_cons.mpr ⟨lw_p40, fun _ h => absurd h List.not_mem_nil⟩⟩⟩⟩⟩⟩⟩⟩⟩
def lw_privs : List (MethodName × Nat) := lw_privs_1 ++ (lw_privs_2 ++ (lw_privs_3))
def lw_tbl : List Cond := k2_sels lw_privs ++ tables_1
theorem lw_privs_ok : ∀ q ∈ lw_privs, lw_okq q := by
  show ∀ q ∈ lw_privs_1 ++ (lw_privs_2 ++ (lw_privs_3)), lw_okq q
  exact List.forall_mem_append.mpr ⟨lw_r1, List.forall_mem_append.mpr ⟨lw_r2, lw_r3⟩⟩
def RX0 : String := "StemRules$Bases"
def TX0 : u_T := fun k => match k with
  | 0 => ("StemRules$Bases", "behinds", "[Z", true)
  | 1 => ("StemRules$Bases", "forms", "[I", true)
  | 2 => ("StemRules$Bases", "insteads", "[I", true)
  | 3 => ("StemRules$Bases", "count", "I", false)
  | 4 => ("StemRules$Bases", "found", "[I", true)
  | _ => ("StemRules$Bases", "foundCount", "I", false)
def tyX0 : Nat → FieldType := fun k => match k with
  | 0 => .array .boolean
  | 1 => .array .int
  | 2 => .array .int
  | 3 => .int
  | 4 => .array .int
  | _ => .int
abbrev wsX00 : List Cond := u_ws RX0 TX0 6
theorem nmX0 : ∀ a, a < 6 → ∀ b, b < 6 → a ≠ b → (TX0 a).2.1 ≠ (TX0 b).2.1 := by decide +kernel
theorem tyX0_ok : ∀ k, k < 6 → parseFieldDescriptor (TX0 k).2.2.1 = some (tyX0 k) := by decide +kernel
abbrev cX0_init : ByteArray := prog_2_method_1_code
def yX0_init : MethodName := ⟨RX0, "<init>", "()V"⟩
abbrev cX0_count : ByteArray := prog_2_method_2_code
def yX0_count : MethodName := ⟨RX0, "count", "()I"⟩
abbrev cX0_addAffix : ByteArray := prog_2_method_3_code
def yX0_addAffix : MethodName := ⟨RX0, "addAffix", "(ZII)I"⟩
abbrev cX0_collect : ByteArray := prog_2_method_4_code
def yX0_collect : MethodName := ⟨RX0, "collect", "(ILStemRules$Words;LStemRules$Letters;)V"⟩
abbrev cX0_found : ByteArray := prog_2_method_5_code
def yX0_found : MethodName := ⟨RX0, "found", "(I)I"⟩
abbrev cX0_note : ByteArray := prog_2_method_6_code
def yX0_note : MethodName := ⟨RX0, "note", "(ILStemRules$Words;)V"⟩
abbrev cX0_change : ByteArray := prog_2_method_7_code
def yX0_change : MethodName := ⟨RX0, "change", "(IILStemRules$Words;LStemRules$Letters;)Z"⟩
def RX1 : String := "StemRules$Cutter"
def TX1 : u_T := fun k => match k with
  | 0 => ("StemRules$Cutter", "piece", "LStemRules$Letters;", true)
  | 1 => ("StemRules$Cutter", "place", "I", false)
  | 2 => ("StemRules$Cutter", "bytes", "I", false)
  | 3 => ("StemRules$Cutter", "next", "I", false)
  | 4 => ("StemRules$Cutter", "lettersEnd", "I", false)
  | _ => ("StemRules$Cutter", "rowEnd", "I", false)
def tyX1 : Nat → FieldType := fun k => match k with
  | 0 => .object "StemRules$Letters"
  | 1 => .int
  | 2 => .int
  | 3 => .int
  | 4 => .int
  | _ => .int
abbrev wsX10 : List Cond := u_ws RX1 TX1 6
theorem nmX1 : ∀ a, a < 6 → ∀ b, b < 6 → a ≠ b → (TX1 a).2.1 ≠ (TX1 b).2.1 := by decide +kernel
theorem tyX1_ok : ∀ k, k < 6 → parseFieldDescriptor (TX1 k).2.2.1 = some (tyX1 k) := by decide +kernel
abbrev cX1_init : ByteArray := prog_3_method_1_code
def yX1_init : MethodName := ⟨RX1, "<init>", "()V"⟩
abbrev cX1_piece : ByteArray := prog_3_method_2_code
def yX1_piece : MethodName := ⟨RX1, "piece", "()LStemRules$Letters;"⟩
abbrev cX1_place : ByteArray := prog_3_method_3_code
def yX1_place : MethodName := ⟨RX1, "place", "()I"⟩
abbrev cX1_bytes : ByteArray := prog_3_method_4_code
def yX1_bytes : MethodName := ⟨RX1, "bytes", "()I"⟩
abbrev cX1_begin : ByteArray := prog_3_method_5_code
def yX1_begin : MethodName := ⟨RX1, "begin", "()V"⟩
abbrev cX1_findPiece : ByteArray := prog_3_method_6_code
def yX1_findPiece : MethodName := ⟨RX1, "findPiece", "(LStemRules$Tape;)Z"⟩
abbrev cX1_findLetters : ByteArray := prog_3_method_7_code
def yX1_findLetters : MethodName := ⟨RX1, "findLetters", "(LStemRules$Tape;)Z"⟩
def RX2 : String := "StemRules$Ending"
def TX2 : u_T := fun k => match k with
  | _ => ("", "", "", false)
def tyX2 : Nat → FieldType := fun k => match k with
  | _ => .int
abbrev wsX20 : List Cond := u_ws RX2 TX2 0
theorem nmX2 : ∀ a, a < 0 → ∀ b, b < 0 → a ≠ b → (TX2 a).2.1 ≠ (TX2 b).2.1 := by decide +kernel
theorem tyX2_ok : ∀ k, k < 0 → parseFieldDescriptor (TX2 k).2.2.1 = some (tyX2 k) := by decide +kernel
def RX3 : String := "StemRules$Husk"
def TX3 : u_T := fun k => match k with
  | 0 => ("StemRules$Husk", "endings", "[I", true)
  | 1 => ("StemRules$Husk", "wholes", "[Z", true)
  | 2 => ("StemRules$Husk", "goes", "[I", true)
  | 3 => ("StemRules$Husk", "comes", "[I", true)
  | 4 => ("StemRules$Husk", "ons", "[Z", true)
  | _ => ("StemRules$Husk", "count", "I", false)
def tyX3 : Nat → FieldType := fun k => match k with
  | 0 => .array .int
  | 1 => .array .boolean
  | 2 => .array .int
  | 3 => .array .int
  | 4 => .array .boolean
  | _ => .int
abbrev wsX30 : List Cond := u_ws RX3 TX3 6
theorem nmX3 : ∀ a, a < 6 → ∀ b, b < 6 → a ≠ b → (TX3 a).2.1 ≠ (TX3 b).2.1 := by decide +kernel
theorem tyX3_ok : ∀ k, k < 6 → parseFieldDescriptor (TX3 k).2.2.1 = some (tyX3 k) := by decide +kernel
abbrev cX3_init : ByteArray := prog_5_method_1_code
def yX3_init : MethodName := ⟨RX3, "<init>", "()V"⟩
abbrev cX3_count : ByteArray := prog_5_method_2_code
def yX3_count : MethodName := ⟨RX3, "count", "()I"⟩
abbrev cX3_dropRows : ByteArray := prog_5_method_3_code
def yX3_dropRows : MethodName := ⟨RX3, "dropRows", "()V"⟩
abbrev cX3_addRow : ByteArray := prog_5_method_4_code
def yX3_addRow : MethodName := ⟨RX3, "addRow", "(IZIIZ)I"⟩
abbrev cX3_run : ByteArray := prog_5_method_5_code
def yX3_run : MethodName := ⟨RX3, "run", "(LStemRules$Letters;LStemRules$Words;)V"⟩
abbrev cX3_findRow : ByteArray := prog_5_method_6_code
def yX3_findRow : MethodName := ⟨RX3, "findRow", "(LStemRules$Letters;ZLStemRules$Words;)I"⟩
abbrev cX3_isGood : ByteArray := prog_5_method_7_code
def yX3_isGood : MethodName := ⟨RX3, "isGood", "(LStemRules$Letters;II)Z"⟩
def RX4 : String := "StemRules$Keys"
def TX4 : u_T := fun k => match k with
  | _ => ("", "", "", false)
def tyX4 : Nat → FieldType := fun k => match k with
  | _ => .int
abbrev wsX40 : List Cond := u_ws RX4 TX4 0
theorem nmX4 : ∀ a, a < 0 → ∀ b, b < 0 → a ≠ b → (TX4 a).2.1 ≠ (TX4 b).2.1 := by decide +kernel
theorem tyX4_ok : ∀ k, k < 0 → parseFieldDescriptor (TX4 k).2.2.1 = some (tyX4 k) := by decide +kernel
abbrev cX4_layFigures : ByteArray := prog_6_method_2_code
def yX4_layFigures : MethodName := ⟨RX4, "layFigures", "(LStemRules$Letters;LStemRules$Letters;)V"⟩
abbrev cX4_laySounds : ByteArray := prog_6_method_3_code
def yX4_laySounds : MethodName := ⟨RX4, "laySounds", "(LStemRules$Letters;LStemRules$Letters;)V"⟩
abbrev cX4_figureOf : ByteArray := prog_6_method_4_code
def yX4_figureOf : MethodName := ⟨RX4, "figureOf", "(C)C"⟩
abbrev cX4_changeBeginning : ByteArray := prog_6_method_5_code
def yX4_changeBeginning : MethodName := ⟨RX4, "changeBeginning", "(LStemRules$Letters;)Z"⟩
abbrev cX4_changeEnding : ByteArray := prog_6_method_6_code
def yX4_changeEnding : MethodName := ⟨RX4, "changeEnding", "(LStemRules$Letters;)Z"⟩
abbrev cX4_changeLetter : ByteArray := prog_6_method_7_code
def yX4_changeLetter : MethodName := ⟨RX4, "changeLetter", "(LStemRules$Letters;I)V"⟩
abbrev cX4_changeConsonant : ByteArray := prog_6_method_8_code
def yX4_changeConsonant : MethodName := ⟨RX4, "changeConsonant", "(LStemRules$Letters;I)Z"⟩
abbrev cX4_trimEnd : ByteArray := prog_6_method_9_code
def yX4_trimEnd : MethodName := ⟨RX4, "trimEnd", "(LStemRules$Letters;)V"⟩
def RX5 : String := "StemRules$Letters"
def TX5 : u_T := fun k => match k with
  | 0 => ("StemRules$Letters", "letters", "[C", true)
  | _ => ("StemRules$Letters", "size", "I", false)
def tyX5 : Nat → FieldType := fun k => match k with
  | 0 => .array .char
  | _ => .int
abbrev wsX50 : List Cond := u_ws RX5 TX5 2
theorem nmX5 : ∀ a, a < 2 → ∀ b, b < 2 → a ≠ b → (TX5 a).2.1 ≠ (TX5 b).2.1 := by decide +kernel
theorem tyX5_ok : ∀ k, k < 2 → parseFieldDescriptor (TX5 k).2.2.1 = some (tyX5 k) := by decide +kernel
abbrev cX5_init : ByteArray := prog_7_method_1_code
def yX5_init : MethodName := ⟨RX5, "<init>", "()V"⟩
abbrev cX5_size : ByteArray := prog_7_method_2_code
def yX5_size : MethodName := ⟨RX5, "size", "()I"⟩
abbrev cX5_at : ByteArray := prog_7_method_3_code
def yX5_at : MethodName := ⟨RX5, "at", "(I)C"⟩
abbrev cX5_put : ByteArray := prog_7_method_4_code
def yX5_put : MethodName := ⟨RX5, "put", "(IC)V"⟩
abbrev cX5_add : ByteArray := prog_7_method_5_code
def yX5_add : MethodName := ⟨RX5, "add", "(C)V"⟩
abbrev cX5_shorten : ByteArray := prog_7_method_6_code
def yX5_shorten : MethodName := ⟨RX5, "shorten", "(I)V"⟩
abbrev cX5_hasAt : ByteArray := prog_7_method_7_code
def yX5_hasAt : MethodName := ⟨RX5, "hasAt", "(ILjava/lang/String;)Z"⟩
abbrev cX5_ends : ByteArray := prog_7_method_8_code
def yX5_ends : MethodName := ⟨RX5, "ends", "(Ljava/lang/String;)Z"⟩
abbrev cX5_changeAt : ByteArray := prog_7_method_9_code
def yX5_changeAt : MethodName := ⟨RX5, "changeAt", "(ILjava/lang/String;Ljava/lang/String;)Z"⟩
abbrev cX5_changeEnd : ByteArray := prog_7_method_10_code
def yX5_changeEnd : MethodName := ⟨RX5, "changeEnd", "(Ljava/lang/String;Ljava/lang/String;)Z"⟩
def RX6 : String := "StemRules$Parts"
def TX6 : u_T := fun k => match k with
  | 0 => ("StemRules$Parts", "leastLetters", "I", false)
  | 1 => ("StemRules$Parts", "counts", "[I", true)
  | 2 => ("StemRules$Parts", "firsts", "[I", true)
  | _ => ("StemRules$Parts", "nexts", "[I", true)
def tyX6 : Nat → FieldType := fun k => match k with
  | 0 => .int
  | 1 => .array .int
  | 2 => .array .int
  | _ => .array .int
abbrev wsX60 : List Cond := u_ws RX6 TX6 4
theorem nmX6 : ∀ a, a < 4 → ∀ b, b < 4 → a ≠ b → (TX6 a).2.1 ≠ (TX6 b).2.1 := by decide +kernel
theorem tyX6_ok : ∀ k, k < 4 → parseFieldDescriptor (TX6 k).2.2.1 = some (tyX6 k) := by decide +kernel
abbrev cX6_init : ByteArray := prog_8_method_1_code
def yX6_init : MethodName := ⟨RX6, "<init>", "()V"⟩
abbrev cX6_setLeast : ByteArray := prog_8_method_2_code
def yX6_setLeast : MethodName := ⟨RX6, "setLeast", "(I)I"⟩
abbrev cX6_lay : ByteArray := prog_8_method_3_code
def yX6_lay : MethodName := ⟨RX6, "lay", "(LStemRules$Letters;LStemRules$Words;)V"⟩
abbrev cX6_count : ByteArray := prog_8_method_4_code
def yX6_count : MethodName := ⟨RX6, "count", "()I"⟩
abbrev cX6_numberOf : ByteArray := prog_8_method_5_code
def yX6_numberOf : MethodName := ⟨RX6, "numberOf", "(I)I"⟩
abbrev cX6_mayStand : ByteArray := prog_8_method_6_code
def yX6_mayStand : MethodName := ⟨RX6, "mayStand", "(ILStemRules$Letters;ILStemRules$Words;)Z"⟩
abbrev cX6_noteFirst : ByteArray := prog_8_method_7_code
def yX6_noteFirst : MethodName := ⟨RX6, "noteFirst", "(IIII)V"⟩
def RX7 : String := "StemRules$Porter"
def TX7 : u_T := fun k => match k with
  | _ => ("", "", "", false)
def tyX7 : Nat → FieldType := fun k => match k with
  | _ => .int
abbrev wsX70 : List Cond := u_ws RX7 TX7 0
theorem nmX7 : ∀ a, a < 0 → ∀ b, b < 0 → a ≠ b → (TX7 a).2.1 ≠ (TX7 b).2.1 := by decide +kernel
theorem tyX7_ok : ∀ k, k < 0 → parseFieldDescriptor (TX7 k).2.2.1 = some (tyX7 k) := by decide +kernel
abbrev cX7_run : ByteArray := prog_9_method_2_code
def yX7_run : MethodName := ⟨RX7, "run", "(LStemRules$Letters;I)V"⟩
abbrev cX7_consonantsOf : ByteArray := prog_9_method_3_code
def yX7_consonantsOf : MethodName := ⟨RX7, "consonantsOf", "(LStemRules$Letters;)I"⟩
abbrev cX7_measureOf : ByteArray := prog_9_method_4_code
def yX7_measureOf : MethodName := ⟨RX7, "measureOf", "(II)I"⟩
abbrev cX7_lowest : ByteArray := prog_9_method_5_code
def yX7_lowest : MethodName := ⟨RX7, "lowest", "(I)I"⟩
abbrev cX7_hasV : ByteArray := prog_9_method_6_code
def yX7_hasV : MethodName := ⟨RX7, "hasV", "(II)Z"⟩
abbrev cX7_endsDouble : ByteArray := prog_9_method_7_code
def yX7_endsDouble : MethodName := ⟨RX7, "endsDouble", "(LStemRules$Letters;II)Z"⟩
abbrev cX7_endsShort : ByteArray := prog_9_method_8_code
def yX7_endsShort : MethodName := ⟨RX7, "endsShort", "(LStemRules$Letters;II)Z"⟩
abbrev cX7_changeEnding : ByteArray := prog_9_method_9_code
def yX7_changeEnding : MethodName := ⟨RX7, "changeEnding", "(LStemRules$Letters;II)LStemRules$Ending;"⟩
abbrev cX7_holds : ByteArray := prog_9_method_10_code
def yX7_holds : MethodName := ⟨RX7, "holds", "(ILStemRules$Letters;II)Z"⟩
abbrev cX7_mend : ByteArray := prog_9_method_11_code
def yX7_mend : MethodName := ⟨RX7, "mend", "(LStemRules$Letters;I)V"⟩
abbrev cX7_changeY : ByteArray := prog_9_method_12_code
def yX7_changeY : MethodName := ⟨RX7, "changeY", "(LStemRules$Letters;I)V"⟩
abbrev cX7_dropL : ByteArray := prog_9_method_13_code
def yX7_dropL : MethodName := ⟨RX7, "dropL", "(LStemRules$Letters;I)V"⟩
def RX8 : String := "StemRules$Tape"
def TX8 : u_T := fun k => match k with
  | 0 => ("StemRules$Tape", "bytes", "[C", true)
  | _ => ("StemRules$Tape", "size", "I", false)
def tyX8 : Nat → FieldType := fun k => match k with
  | 0 => .array .char
  | _ => .int
abbrev wsX80 : List Cond := u_ws RX8 TX8 2
theorem nmX8 : ∀ a, a < 2 → ∀ b, b < 2 → a ≠ b → (TX8 a).2.1 ≠ (TX8 b).2.1 := by decide +kernel
theorem tyX8_ok : ∀ k, k < 2 → parseFieldDescriptor (TX8 k).2.2.1 = some (tyX8 k) := by decide +kernel
abbrev cX8_init : ByteArray := prog_10_method_1_code
def yX8_init : MethodName := ⟨RX8, "<init>", "()V"⟩
abbrev cX8_size : ByteArray := prog_10_method_2_code
def yX8_size : MethodName := ⟨RX8, "size", "()I"⟩
abbrev cX8_hasRoomForFive : ByteArray := prog_10_method_3_code
def yX8_hasRoomForFive : MethodName := ⟨RX8, "hasRoomForFive", "()Z"⟩
abbrev cX8_addNumber : ByteArray := prog_10_method_4_code
def yX8_addNumber : MethodName := ⟨RX8, "addNumber", "(I)V"⟩
abbrev cX8_keep : ByteArray := prog_10_method_5_code
def yX8_keep : MethodName := ⟨RX8, "keep", "(I)V"⟩
abbrev cX8_byteAt : ByteArray := prog_10_method_6_code
def yX8_byteAt : MethodName := ⟨RX8, "byteAt", "(I)C"⟩
abbrev cX8_letterAt : ByteArray := prog_10_method_7_code
def yX8_letterAt : MethodName := ⟨RX8, "letterAt", "(I)C"⟩
abbrev cX8_joinsAt : ByteArray := prog_10_method_8_code
def yX8_joinsAt : MethodName := ⟨RX8, "joinsAt", "(I)Z"⟩
abbrev cX8_copyAsWord : ByteArray := prog_10_method_9_code
def yX8_copyAsWord : MethodName := ⟨RX8, "copyAsWord", "(LStemRules$Letters;)Z"⟩
def RX9 : String := "StemRules$Tokens"
def TX9 : u_T := fun k => match k with
  | 0 => ("StemRules$Tokens", "kept", "[I", true)
  | 1 => ("StemRules$Tokens", "keptCount", "I", false)
  | 2 => ("StemRules$Tokens", "keptPositions", "I", false)
  | 3 => ("StemRules$Tokens", "fresh", "[I", true)
  | 4 => ("StemRules$Tokens", "freshCount", "I", false)
  | _ => ("StemRules$Tokens", "freshPositions", "I", false)
def tyX9 : Nat → FieldType := fun k => match k with
  | 0 => .array .int
  | 1 => .int
  | 2 => .int
  | 3 => .array .int
  | 4 => .int
  | _ => .int
abbrev wsX90 : List Cond := u_ws RX9 TX9 6
theorem nmX9 : ∀ a, a < 6 → ∀ b, b < 6 → a ≠ b → (TX9 a).2.1 ≠ (TX9 b).2.1 := by decide +kernel
theorem tyX9_ok : ∀ k, k < 6 → parseFieldDescriptor (TX9 k).2.2.1 = some (tyX9 k) := by decide +kernel
abbrev cX9_init : ByteArray := prog_11_method_1_code
def yX9_init : MethodName := ⟨RX9, "<init>", "()V"⟩
abbrev cX9_count : ByteArray := prog_11_method_2_code
def yX9_count : MethodName := ⟨RX9, "count", "()I"⟩
abbrev cX9_positions : ByteArray := prog_11_method_3_code
def yX9_positions : MethodName := ⟨RX9, "positions", "()I"⟩
abbrev cX9_get : ByteArray := prog_11_method_4_code
def yX9_get : MethodName := ⟨RX9, "get", "(II)I"⟩
abbrev cX9_begin : ByteArray := prog_11_method_5_code
def yX9_begin : MethodName := ⟨RX9, "begin", "()V"⟩
abbrev cX9_haveRoom : ByteArray := prog_11_method_6_code
def yX9_haveRoom : MethodName := ⟨RX9, "haveRoom", "()Z"⟩
abbrev cX9_nextPosition : ByteArray := prog_11_method_7_code
def yX9_nextPosition : MethodName := ⟨RX9, "nextPosition", "()I"⟩
abbrev cX9_add : ByteArray := prog_11_method_8_code
def yX9_add : MethodName := ⟨RX9, "add", "(IIIII)V"⟩
abbrev cX9_keep : ByteArray := prog_11_method_9_code
def yX9_keep : MethodName := ⟨RX9, "keep", "()V"⟩
def RX10 : String := "StemRules$Words"
def TX10 : u_T := fun k => match k with
  | 0 => ("StemRules$Words", "letters", "[C", true)
  | 1 => ("StemRules$Words", "sizes", "[I", true)
  | 2 => ("StemRules$Words", "pairs", "[I", true)
  | 3 => ("StemRules$Words", "marks", "[Z", true)
  | _ => ("StemRules$Words", "count", "I", false)
def tyX10 : Nat → FieldType := fun k => match k with
  | 0 => .array .char
  | 1 => .array .int
  | 2 => .array .int
  | 3 => .array .boolean
  | _ => .int
abbrev wsX100 : List Cond := u_ws RX10 TX10 5
theorem nmX10 : ∀ a, a < 5 → ∀ b, b < 5 → a ≠ b → (TX10 a).2.1 ≠ (TX10 b).2.1 := by decide +kernel
theorem tyX10_ok : ∀ k, k < 5 → parseFieldDescriptor (TX10 k).2.2.1 = some (tyX10 k) := by decide +kernel
abbrev cX10_init : ByteArray := prog_12_method_1_code
def yX10_init : MethodName := ⟨RX10, "<init>", "()V"⟩
abbrev cX10_count : ByteArray := prog_12_method_2_code
def yX10_count : MethodName := ⟨RX10, "count", "()I"⟩
abbrev cX10_knows : ByteArray := prog_12_method_3_code
def yX10_knows : MethodName := ⟨RX10, "knows", "(I)Z"⟩
abbrev cX10_knowsOrNone : ByteArray := prog_12_method_4_code
def yX10_knowsOrNone : MethodName := ⟨RX10, "knowsOrNone", "(I)Z"⟩
abbrev cX10_sizeOf : ByteArray := prog_12_method_5_code
def yX10_sizeOf : MethodName := ⟨RX10, "sizeOf", "(I)I"⟩
abbrev cX10_copyTo : ByteArray := prog_12_method_6_code
def yX10_copyTo : MethodName := ⟨RX10, "copyTo", "(ILStemRules$Letters;)V"⟩
abbrev cX10_addTo : ByteArray := prog_12_method_7_code
def yX10_addTo : MethodName := ⟨RX10, "addTo", "(IILStemRules$Letters;)V"⟩
abbrev cX10_standsAt : ByteArray := prog_12_method_8_code
def yX10_standsAt : MethodName := ⟨RX10, "standsAt", "(ILStemRules$Letters;I)Z"⟩
abbrev cX10_standsBehind : ByteArray := prog_12_method_9_code
def yX10_standsBehind : MethodName := ⟨RX10, "standsBehind", "(ILStemRules$Letters;)Z"⟩
abbrev cX10_find : ByteArray := prog_12_method_10_code
def yX10_find : MethodName := ⟨RX10, "find", "(LStemRules$Letters;)I"⟩
abbrev cX10_learn : ByteArray := prog_12_method_11_code
def yX10_learn : MethodName := ⟨RX10, "learn", "(LStemRules$Letters;)I"⟩
abbrev cX10_forgetFrom : ByteArray := prog_12_method_12_code
def yX10_forgetFrom : MethodName := ⟨RX10, "forgetFrom", "(I)V"⟩
abbrev cX10_isMarked : ByteArray := prog_12_method_13_code
def yX10_isMarked : MethodName := ⟨RX10, "isMarked", "(II)Z"⟩
abbrev cX10_setMark : ByteArray := prog_12_method_14_code
def yX10_setMark : MethodName := ⟨RX10, "setMark", "(IIZ)V"⟩
abbrev cX10_pairOf : ByteArray := prog_12_method_15_code
def yX10_pairOf : MethodName := ⟨RX10, "pairOf", "(I)I"⟩
abbrev cX10_setPair : ByteArray := prog_12_method_16_code
def yX10_setPair : MethodName := ⟨RX10, "setPair", "(II)V"⟩
def RX11 : String := "StemRules"
def TX11 : u_T := fun k => match k with
  | 0 => ("StemRules", "tape", "LStemRules$Tape;", true)
  | 1 => ("StemRules", "words", "LStemRules$Words;", true)
  | 2 => ("StemRules", "shown", "LStemRules$Letters;", true)
  | 3 => ("StemRules", "work", "LStemRules$Letters;", true)
  | 4 => ("StemRules", "husk", "LStemRules$Husk;", true)
  | 5 => ("StemRules", "bases", "LStemRules$Bases;", true)
  | 6 => ("StemRules", "parts", "LStemRules$Parts;", true)
  | 7 => ("StemRules", "cutter", "LStemRules$Cutter;", true)
  | _ => ("StemRules", "tokens", "LStemRules$Tokens;", true)
def tyX11 : Nat → FieldType := fun k => match k with
  | 0 => .object "StemRules$Tape"
  | 1 => .object "StemRules$Words"
  | 2 => .object "StemRules$Letters"
  | 3 => .object "StemRules$Letters"
  | 4 => .object "StemRules$Husk"
  | 5 => .object "StemRules$Bases"
  | 6 => .object "StemRules$Parts"
  | 7 => .object "StemRules$Cutter"
  | _ => .object "StemRules$Tokens"
abbrev wsX110 : List Cond := u_ws RX11 TX11 9
theorem nmX11 : ∀ a, a < 9 → ∀ b, b < 9 → a ≠ b → (TX11 a).2.1 ≠ (TX11 b).2.1 := by decide +kernel
theorem tyX11_ok : ∀ k, k < 9 → parseFieldDescriptor (TX11 k).2.2.1 = some (tyX11 k) := by decide +kernel
abbrev cX11_init : ByteArray := prog_1_method_1_code
def yX11_init : MethodName := ⟨RX11, "<init>", "()V"⟩
abbrev cX11_feed : ByteArray := prog_1_method_2_code
def yX11_feed : MethodName := ⟨RX11, "feed", "(IIIII)I"⟩
abbrev cX11_cut : ByteArray := prog_1_method_3_code
def yX11_cut : MethodName := ⟨RX11, "cut", "(I)I"⟩
abbrev cX11_out : ByteArray := prog_1_method_4_code
def yX11_out : MethodName := ⟨RX11, "out", "(I)I"⟩
abbrev cX11_word : ByteArray := prog_1_method_5_code
def yX11_word : MethodName := ⟨RX11, "word", "()I"⟩
abbrev cX11_spell : ByteArray := prog_1_method_6_code
def yX11_spell : MethodName := ⟨RX11, "spell", "(I)I"⟩
abbrev cX11_stem : ByteArray := prog_1_method_7_code
def yX11_stem : MethodName := ⟨RX11, "stem", "(II)I"⟩
abbrev cX11_step : ByteArray := prog_1_method_8_code
def yX11_step : MethodName := ⟨RX11, "step", "(II)I"⟩
abbrev cX11_measure : ByteArray := prog_1_method_9_code
def yX11_measure : MethodName := ⟨RX11, "measure", "(I)I"⟩
abbrev cX11_mark : ByteArray := prog_1_method_10_code
def yX11_mark : MethodName := ⟨RX11, "mark", "(IIZ)I"⟩
abbrev cX11_pair : ByteArray := prog_1_method_11_code
def yX11_pair : MethodName := ⟨RX11, "pair", "(II)I"⟩
abbrev cX11_row : ByteArray := prog_1_method_12_code
def yX11_row : MethodName := ⟨RX11, "row", "(IZIIZ)I"⟩
abbrev cX11_rowless : ByteArray := prog_1_method_13_code
def yX11_rowless : MethodName := ⟨RX11, "rowless", "()I"⟩
abbrev cX11_affix : ByteArray := prog_1_method_14_code
def yX11_affix : MethodName := ⟨RX11, "affix", "(ZII)I"⟩
abbrev cX11_base : ByteArray := prog_1_method_15_code
def yX11_base : MethodName := ⟨RX11, "base", "(II)I"⟩
abbrev cX11_least : ByteArray := prog_1_method_16_code
def yX11_least : MethodName := ⟨RX11, "least", "(I)I"⟩
abbrev cX11_part : ByteArray := prog_1_method_17_code
def yX11_part : MethodName := ⟨RX11, "part", "(II)I"⟩
abbrev cX11_key : ByteArray := prog_1_method_18_code
def yX11_key : MethodName := ⟨RX11, "key", "(II)I"⟩
abbrev cX11_text : ByteArray := prog_1_method_19_code
def yX11_text : MethodName := ⟨RX11, "text", "(I)I"⟩
abbrev cX11_token : ByteArray := prog_1_method_20_code
def yX11_token : MethodName := ⟨RX11, "token", "(II)I"⟩
abbrev cX11_told : ByteArray := prog_1_method_21_code
def yX11_told : MethodName := ⟨RX11, "told", "(I)I"⟩
abbrev cX11_isStemmer : ByteArray := prog_1_method_22_code
def yX11_isStemmer : MethodName := ⟨RX11, "isStemmer", "(I)Z"⟩
abbrev cX11_layStem : ByteArray := prog_1_method_23_code
def yX11_layStem : MethodName := ⟨RX11, "layStem", "(IILStemRules$Letters;)V"⟩
abbrev cX11_dropPlural : ByteArray := prog_1_method_24_code
def yX11_dropPlural : MethodName := ⟨RX11, "dropPlural", "(LStemRules$Letters;)V"⟩
abbrev cX11_takePiece : ByteArray := prog_1_method_25_code
def yX11_takePiece : MethodName := ⟨RX11, "takePiece", "(I)Z"⟩
abbrev cX11_isVowel : ByteArray := prog_1_method_26_code
def yX11_isVowel : MethodName := ⟨RX11, "isVowel", "(C)Z"⟩
def RX12 : String := "StemRulesModel"
def TX12 : u_T := fun k => match k with
  | 0 => ("StemRulesModel", "tape", "[I", true)
  | 1 => ("StemRulesModel", "tapeSize", "I", false)
  | 2 => ("StemRulesModel", "out", "[I", true)
  | 3 => ("StemRulesModel", "outSize", "I", false)
  | 4 => ("StemRulesModel", "letters", "[I", true)
  | 5 => ("StemRulesModel", "sizes", "[I", true)
  | 6 => ("StemRulesModel", "known", "I", false)
  | 7 => ("StemRulesModel", "marks", "[I", true)
  | 8 => ("StemRulesModel", "pairs", "[I", true)
  | 9 => ("StemRulesModel", "rowEnding", "[I", true)
  | 10 => ("StemRulesModel", "rowWhole", "[Z", true)
  | 11 => ("StemRulesModel", "rowGo", "[I", true)
  | 12 => ("StemRulesModel", "rowCome", "[I", true)
  | 13 => ("StemRulesModel", "rowOn", "[Z", true)
  | 14 => ("StemRulesModel", "rows", "I", false)
  | 15 => ("StemRulesModel", "affixBehind", "[Z", true)
  | 16 => ("StemRulesModel", "affixHas", "[I", true)
  | 17 => ("StemRulesModel", "affixInstead", "[I", true)
  | 18 => ("StemRulesModel", "affixes", "I", false)
  | 19 => ("StemRulesModel", "least", "I", false)
  | 20 => ("StemRulesModel", "w", "[I", true)
  | 21 => ("StemRulesModel", "n", "I", false)
  | 22 => ("StemRulesModel", "bases", "[I", true)
  | 23 => ("StemRulesModel", "fewest", "[I", true)
  | 24 => ("StemRulesModel", "partSize", "[I", true)
  | 25 => ("StemRulesModel", "partIs", "[I", true)
  | 26 => ("StemRulesModel", "tokens", "[I", true)
  | 27 => ("StemRulesModel", "tokenMany", "I", false)
  | 28 => ("StemRulesModel", "fresh", "[I", true)
  | 29 => ("StemRulesModel", "freshMany", "I", false)
  | 30 => ("StemRulesModel", "positions", "I", false)
  | 31 => ("StemRulesModel", "run", "[I", true)
  | _ => ("StemRulesModel", "runAt", "[I", true)
def tyX12 : Nat → FieldType := fun k => match k with
  | 0 => .array .int
  | 1 => .int
  | 2 => .array .int
  | 3 => .int
  | 4 => .array .int
  | 5 => .array .int
  | 6 => .int
  | 7 => .array .int
  | 8 => .array .int
  | 9 => .array .int
  | 10 => .array .boolean
  | 11 => .array .int
  | 12 => .array .int
  | 13 => .array .boolean
  | 14 => .int
  | 15 => .array .boolean
  | 16 => .array .int
  | 17 => .array .int
  | 18 => .int
  | 19 => .int
  | 20 => .array .int
  | 21 => .int
  | 22 => .array .int
  | 23 => .array .int
  | 24 => .array .int
  | 25 => .array .int
  | 26 => .array .int
  | 27 => .int
  | 28 => .array .int
  | 29 => .int
  | 30 => .int
  | 31 => .array .int
  | _ => .array .int
abbrev wsX120 : List Cond := u_ws RX12 TX12 33
theorem nmX12 : ∀ a, a < 33 → ∀ b, b < 33 → a ≠ b → (TX12 a).2.1 ≠ (TX12 b).2.1 := by decide +kernel
theorem tyX12_ok : ∀ k, k < 33 → parseFieldDescriptor (TX12 k).2.2.1 = some (tyX12 k) := by decide +kernel
abbrev cX12_init : ByteArray := prog_14_method_1_code
def yX12_init : MethodName := ⟨RX12, "<init>", "()V"⟩
abbrev cX12_small : ByteArray := prog_14_method_2_code
def yX12_small : MethodName := ⟨RX12, "small", "(II)I"⟩
abbrev cX12_beyond : ByteArray := prog_14_method_3_code
def yX12_beyond : MethodName := ⟨RX12, "beyond", "(III)Z"⟩
abbrev cX12_strange : ByteArray := prog_14_method_4_code
def yX12_strange : MethodName := ⟨RX12, "strange", "(I)Z"⟩
abbrev cX12_feed : ByteArray := prog_14_method_5_code
def yX12_feed : MethodName := ⟨RX12, "feed", "(IIIII)I"⟩
abbrev cX12_four : ByteArray := prog_14_method_6_code
def yX12_four : MethodName := ⟨RX12, "four", "(I)V"⟩
abbrev cX12_cut : ByteArray := prog_14_method_7_code
def yX12_cut : MethodName := ⟨RX12, "cut", "(I)I"⟩
abbrev cX12_out : ByteArray := prog_14_method_8_code
def yX12_out : MethodName := ⟨RX12, "out", "(I)I"⟩
abbrev cX12_show : ByteArray := prog_14_method_9_code
def yX12_show : MethodName := ⟨RX12, "show", "()I"⟩
abbrev cX12_take : ByteArray := prog_14_method_10_code
def yX12_take : MethodName := ⟨RX12, "take", "(I)V"⟩
abbrev cX12_find : ByteArray := prog_14_method_11_code
def yX12_find : MethodName := ⟨RX12, "find", "(II)I"⟩
abbrev cX12_learn : ByteArray := prog_14_method_12_code
def yX12_learn : MethodName := ⟨RX12, "learn", "()I"⟩
abbrev cX12_word : ByteArray := prog_14_method_13_code
def yX12_word : MethodName := ⟨RX12, "word", "()I"⟩
abbrev cX12_spell : ByteArray := prog_14_method_14_code
def yX12_spell : MethodName := ⟨RX12, "spell", "(I)I"⟩
abbrev cX12_isVowel : ByteArray := prog_14_method_15_code
def yX12_isVowel : MethodName := ⟨RX12, "isVowel", "(I)Z"⟩
abbrev cX12_isC : ByteArray := prog_14_method_16_code
def yX12_isC : MethodName := ⟨RX12, "isC", "(I)Z"⟩
abbrev cX12_measure0 : ByteArray := prog_14_method_17_code
def yX12_measure0 : MethodName := ⟨RX12, "measure0", "(I)I"⟩
abbrev cX12_hasV : ByteArray := prog_14_method_18_code
def yX12_hasV : MethodName := ⟨RX12, "hasV", "(I)Z"⟩
abbrev cX12_lettersOf : ByteArray := prog_14_method_19_code
def yX12_lettersOf : MethodName := ⟨RX12, "lettersOf", "(J)I"⟩
abbrev cX12_letterOf : ByteArray := prog_14_method_20_code
def yX12_letterOf : MethodName := ⟨RX12, "letterOf", "(JI)I"⟩
abbrev cX12_ends : ByteArray := prog_14_method_21_code
def yX12_ends : MethodName := ⟨RX12, "ends", "(J)Z"⟩
abbrev cX12_turn : ByteArray := prog_14_method_22_code
def yX12_turn : MethodName := ⟨RX12, "turn", "(IJ)V"⟩
abbrev cX12_isO : ByteArray := prog_14_method_23_code
def yX12_isO : MethodName := ⟨RX12, "isO", "(I)Z"⟩
abbrev cX12_plural : ByteArray := prog_14_method_24_code
def yX12_plural : MethodName := ⟨RX12, "plural", "()V"⟩
abbrev cX12_second : ByteArray := prog_14_method_25_code
def yX12_second : MethodName := ⟨RX12, "second", "(I)J"⟩
abbrev cX12_third : ByteArray := prog_14_method_26_code
def yX12_third : MethodName := ⟨RX12, "third", "(I)J"⟩
abbrev cX12_fourth : ByteArray := prog_14_method_27_code
def yX12_fourth : MethodName := ⟨RX12, "fourth", "(I)J"⟩
abbrev cX12_ending : ByteArray := prog_14_method_28_code
def yX12_ending : MethodName := ⟨RX12, "ending", "(II)J"⟩
abbrev cX12_longest : ByteArray := prog_14_method_29_code
def yX12_longest : MethodName := ⟨RX12, "longest", "(I)I"⟩
abbrev cX12_replace : ByteArray := prog_14_method_30_code
def yX12_replace : MethodName := ⟨RX12, "replace", "(I)V"⟩
abbrev cX12_do1b : ByteArray := prog_14_method_31_code
def yX12_do1b : MethodName := ⟨RX12, "do1b", "()V"⟩
abbrev cX12_shortE : ByteArray := prog_14_method_32_code
def yX12_shortE : MethodName := ⟨RX12, "shortE", "()V"⟩
abbrev cX12_porterStep : ByteArray := prog_14_method_33_code
def yX12_porterStep : MethodName := ⟨RX12, "porterStep", "(I)V"⟩
abbrev cX12_porter : ByteArray := prog_14_method_34_code
def yX12_porter : MethodName := ⟨RX12, "porter", "(I)V"⟩
abbrev cX12_endsWith : ByteArray := prog_14_method_35_code
def yX12_endsWith : MethodName := ⟨RX12, "endsWith", "(I)Z"⟩
abbrev cX12_isGood : ByteArray := prog_14_method_36_code
def yX12_isGood : MethodName := ⟨RX12, "isGood", "(II)Z"⟩
abbrev cX12_husk : ByteArray := prog_14_method_37_code
def yX12_husk : MethodName := ⟨RX12, "husk", "()V"⟩
abbrev cX12_stemOf : ByteArray := prog_14_method_38_code
def yX12_stemOf : MethodName := ⟨RX12, "stemOf", "(II)V"⟩
abbrev cX12_stem : ByteArray := prog_14_method_39_code
def yX12_stem : MethodName := ⟨RX12, "stem", "(II)I"⟩
abbrev cX12_step : ByteArray := prog_14_method_40_code
def yX12_step : MethodName := ⟨RX12, "step", "(II)I"⟩
abbrev cX12_measure : ByteArray := prog_14_method_41_code
def yX12_measure : MethodName := ⟨RX12, "measure", "(I)I"⟩
abbrev cX12_mark : ByteArray := prog_14_method_42_code
def yX12_mark : MethodName := ⟨RX12, "mark", "(IIZ)I"⟩
abbrev cX12_pair : ByteArray := prog_14_method_43_code
def yX12_pair : MethodName := ⟨RX12, "pair", "(II)I"⟩
abbrev cX12_row : ByteArray := prog_14_method_44_code
def yX12_row : MethodName := ⟨RX12, "row", "(IZIIZ)I"⟩
abbrev cX12_rowless : ByteArray := prog_14_method_45_code
def yX12_rowless : MethodName := ⟨RX12, "rowless", "()I"⟩
abbrev cX12_affix : ByteArray := prog_14_method_46_code
def yX12_affix : MethodName := ⟨RX12, "affix", "(ZII)I"⟩
abbrev cX12_isMember : ByteArray := prog_14_method_47_code
def yX12_isMember : MethodName := ⟨RX12, "isMember", "(I)Z"⟩
abbrev cX12_byAffix : ByteArray := prog_14_method_48_code
def yX12_byAffix : MethodName := ⟨RX12, "byAffix", "(II)I"⟩
abbrev cX12_add : ByteArray := prog_14_method_49_code
def yX12_add : MethodName := ⟨RX12, "add", "(III)V"⟩
abbrev cX12_base : ByteArray := prog_14_method_50_code
def yX12_base : MethodName := ⟨RX12, "base", "(II)I"⟩
abbrev cX12_least : ByteArray := prog_14_method_51_code
def yX12_least : MethodName := ⟨RX12, "least", "(I)I"⟩
abbrev cX12_part : ByteArray := prog_14_method_52_code
def yX12_part : MethodName := ⟨RX12, "part", "(II)I"⟩
abbrev cX12_figure : ByteArray := prog_14_method_53_code
def yX12_figure : MethodName := ⟨RX12, "figure", "(I)I"⟩
abbrev cX12_keyByFigures : ByteArray := prog_14_method_54_code
def yX12_keyByFigures : MethodName := ⟨RX12, "keyByFigures", "()I"⟩
abbrev cX12_stands : ByteArray := prog_14_method_55_code
def yX12_stands : MethodName := ⟨RX12, "stands", "(IJ)Z"⟩
abbrev cX12_becomes : ByteArray := prog_14_method_56_code
def yX12_becomes : MethodName := ⟨RX12, "becomes", "(IJJ)Z"⟩
abbrev cX12_keyBySounds : ByteArray := prog_14_method_57_code
def yX12_keyBySounds : MethodName := ⟨RX12, "keyBySounds", "()I"⟩
abbrev cX12_sound : ByteArray := prog_14_method_58_code
def yX12_sound : MethodName := ⟨RX12, "sound", "(I)V"⟩
abbrev cX12_key : ByteArray := prog_14_method_59_code
def yX12_key : MethodName := ⟨RX12, "key", "(II)I"⟩
abbrev cX12_letterAt : ByteArray := prog_14_method_60_code
def yX12_letterAt : MethodName := ⟨RX12, "letterAt", "(II)I"⟩
abbrev cX12_text : ByteArray := prog_14_method_61_code
def yX12_text : MethodName := ⟨RX12, "text", "(I)I"⟩
abbrev cX12_lay : ByteArray := prog_14_method_62_code
def yX12_lay : MethodName := ⟨RX12, "lay", "(IIII)Z"⟩
abbrev cX12_token : ByteArray := prog_14_method_63_code
def yX12_token : MethodName := ⟨RX12, "token", "(II)I"⟩
abbrev cX12_told : ByteArray := prog_14_method_64_code
def yX12_told : MethodName := ⟨RX12, "told", "(I)I"⟩
def RJx29ce0 : String := "java/lang/Enum"
def TJx29ce0 : u_T := fun k => match k with
  | _ => ("", "", "", false)
def tyJx29ce0 : Nat → FieldType := fun k => match k with
  | _ => .int
abbrev wsJx29ce00 : List Cond := u_ws RJx29ce0 TJx29ce0 0
theorem nmJx29ce0 : ∀ a, a < 0 → ∀ b, b < 0 → a ≠ b → (TJx29ce0 a).2.1 ≠ (TJx29ce0 b).2.1 := by decide +kernel
theorem tyJx29ce0_ok : ∀ k, k < 0 → parseFieldDescriptor (TJx29ce0 k).2.2.1 = some (tyJx29ce0 k) := by decide +kernel
def RJ6 : String := "java/lang/Integer"
def TJ6 : u_T := fun k => match k with
  | _ => ("", "", "", false)
def tyJ6 : Nat → FieldType := fun k => match k with
  | _ => .int
abbrev wsJ60 : List Cond := u_ws RJ6 TJ6 0
theorem nmJ6 : ∀ a, a < 0 → ∀ b, b < 0 → a ≠ b → (TJ6 a).2.1 ≠ (TJ6 b).2.1 := by decide +kernel
theorem tyJ6_ok : ∀ k, k < 0 → parseFieldDescriptor (TJ6 k).2.2.1 = some (tyJ6 k) := by decide +kernel
abbrev cJ6_bitCount_0f7a4 : ByteArray := prog_16_method_49_code
def yJ6_bitCount_0f7a4 : MethodName := ⟨RJ6, "bitCount", "(I)I"⟩
def RJ0 : String := "java/lang/String"
def TJ0 : u_T := fun k => match k with
  | _ => ("", "", "", false)
def tyJ0 : Nat → FieldType := fun k => match k with
  | _ => .int
abbrev wsJ00 : List Cond := u_ws RJ0 TJ0 0
theorem nmJ0 : ∀ a, a < 0 → ∀ b, b < 0 → a ≠ b → (TJ0 a).2.1 ≠ (TJ0 b).2.1 := by decide +kernel
theorem tyJ0_ok : ∀ k, k < 0 → parseFieldDescriptor (TJ0 k).2.2.1 = some (tyJ0 k) := by decide +kernel
abbrev cJ0_length_8abf5 : ByteArray := prog_17_method_54_code
def yJ0_length_8abf5 : MethodName := ⟨RJ0, "length", "()I"⟩
abbrev cJ0_charAt_5068e : ByteArray := prog_17_method_56_code
def yJ0_charAt_5068e : MethodName := ⟨RJ0, "charAt", "(I)C"⟩
abbrev cJ0_coder_7d493 : ByteArray := prog_17_method_152_code
def yJ0_coder_7d493 : MethodName := ⟨RJ0, "coder", "()B"⟩
abbrev cJ0_isLatin1_aae02 : ByteArray := prog_17_method_154_code
def yJ0_isLatin1_aae02 : MethodName := ⟨RJ0, "isLatin1", "()Z"⟩
abbrev cJ0_checkIndex_df160 : ByteArray := prog_17_method_155_code
def yJ0_checkIndex_df160 : MethodName := ⟨RJ0, "checkIndex", "(II)V"⟩
def RJ1 : String := "java/lang/StringLatin1"
def TJ1 : u_T := fun k => match k with
  | _ => ("", "", "", false)
def tyJ1 : Nat → FieldType := fun k => match k with
  | _ => .int
abbrev wsJ10 : List Cond := u_ws RJ1 TJ1 0
theorem nmJ1 : ∀ a, a < 0 → ∀ b, b < 0 → a ≠ b → (TJ1 a).2.1 ≠ (TJ1 b).2.1 := by decide +kernel
theorem tyJ1_ok : ∀ k, k < 0 → parseFieldDescriptor (TJ1 k).2.2.1 = some (tyJ1 k) := by decide +kernel
abbrev cJ1_charAt_3b067 : ByteArray := prog_18_method_2_code
def yJ1_charAt_3b067 : MethodName := ⟨RJ1, "charAt", "([BI)C"⟩
def RJ2 : String := "java/lang/StringUTF16"
def TJ2 : u_T := fun k => match k with
  | _ => ("", "", "", false)
def tyJ2 : Nat → FieldType := fun k => match k with
  | _ => .int
abbrev wsJ20 : List Cond := u_ws RJ2 TJ2 0
theorem nmJ2 : ∀ a, a < 0 → ∀ b, b < 0 → a ≠ b → (TJ2 a).2.1 ≠ (TJ2 b).2.1 := by decide +kernel
theorem tyJ2_ok : ∀ k, k < 0 → parseFieldDescriptor (TJ2 k).2.2.1 = some (tyJ2 k) := by decide +kernel
abbrev cJ2_getChar_3b067 : ByteArray := prog_19_method_5_code
def yJ2_getChar_3b067 : MethodName := ⟨RJ2, "getChar", "([BI)C"⟩
abbrev cJ2_length_9d52b : ByteArray := prog_19_method_6_code
def yJ2_length_9d52b : MethodName := ⟨RJ2, "length", "([B)I"⟩
abbrev cJ2_charAt_3b067 : ByteArray := prog_19_method_83_code
def yJ2_charAt_3b067 : MethodName := ⟨RJ2, "charAt", "([BI)C"⟩
abbrev cJ2_checkIndex_2214a : ByteArray := prog_19_method_91_code
def yJ2_checkIndex_2214a : MethodName := ⟨RJ2, "checkIndex", "(I[B)V"⟩
def RJ10 : String := "java/lang/System"
def TJ10 : u_T := fun k => match k with
  | _ => ("", "", "", false)
def tyJ10 : Nat → FieldType := fun k => match k with
  | _ => .int
abbrev wsJ100 : List Cond := u_ws RJ10 TJ10 0
theorem nmJ10 : ∀ a, a < 0 → ∀ b, b < 0 → a ≠ b → (TJ10 a).2.1 ≠ (TJ10 b).2.1 := by decide +kernel
theorem tyJ10_ok : ∀ k, k < 0 → parseFieldDescriptor (TJ10 k).2.2.1 = some (tyJ10 k) := by decide +kernel
def RJ3 : String := "jdk/internal/util/Preconditions"
def TJ3 : u_T := fun k => match k with
  | _ => ("", "", "", false)
def tyJ3 : Nat → FieldType := fun k => match k with
  | _ => .int
abbrev wsJ30 : List Cond := u_ws RJ3 TJ3 0
theorem nmJ3 : ∀ a, a < 0 → ∀ b, b < 0 → a ≠ b → (TJ3 a).2.1 ≠ (TJ3 b).2.1 := by decide +kernel
theorem tyJ3_ok : ∀ k, k < 0 → parseFieldDescriptor (TJ3 k).2.2.1 = some (tyJ3 k) := by decide +kernel
abbrev cJ3_checkIndex_8e157 : ByteArray := prog_21_method_11_code
def yJ3_checkIndex_8e157 : MethodName := ⟨RJ3, "checkIndex", "(IILjava/util/function/BiFunction;)I"⟩
def RL : String := "StemRulesLaw"
abbrev cL_law : ByteArray := code
abbrev vwCl : List vw_C := [(RX0, TX0, 6), (RX1, TX1, 6), (RX3, TX3, 6), (RX5, TX5, 2), (RX6, TX6, 4), (RX8, TX8, 2), (RX9, TX9, 6), (RX10, TX10, 5), (RX11, TX11, 9), (RX12, TX12, 33)]
