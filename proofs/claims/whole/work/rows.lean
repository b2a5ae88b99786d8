section
-- ===== PART A: goes FIRST, ahead of the names: the tables' words, and 'selects' of the private methods out of them =====
/-- a private method of a class that the tables say can be made, by its rows of tables_1 -/
def lw_okq (q : MethodName × Nat) : Prop := (q.1.cls ≠ "java/lang/invoke/MethodHandle" ∧ q.1.cls ≠ "java/lang/invoke/VarHandle") ∧ Cond.instantiable q.1.cls q.2 ∈ tables_1 ∧ Cond.privateMethod q.1 ∈ tables_1 ∧ Cond.instanceMethod q.1 ∈ tables_1
theorem lw_p0 : lw_okq (⟨"StemRules", "layStem", "(IILStemRules$Letters;)V"⟩, 9) := ⟨⟨by decide +kernel, by decide +kernel⟩, List.mem_of_getElem? (i := 22) (by decide +kernel), List.mem_of_getElem? (i := 322) (by decide +kernel), List.mem_of_getElem? (i := 323) (by decide +kernel)⟩
theorem lw_p1 : lw_okq (⟨"StemRules$Husk", "findRow", "(LStemRules$Letters;ZLStemRules$Words;)I"⟩, 6) := ⟨⟨by decide +kernel, by decide +kernel⟩, List.mem_of_getElem? (i := 81) (by decide +kernel), List.mem_of_getElem? (i := 486) (by decide +kernel), List.mem_of_getElem? (i := 487) (by decide +kernel)⟩
theorem lw_p2 : lw_okq (⟨"StemRules$Bases", "note", "(ILStemRules$Words;)V"⟩, 6) := ⟨⟨by decide +kernel, by decide +kernel⟩, List.mem_of_getElem? (i := 106) (by decide +kernel), List.mem_of_getElem? (i := 575) (by decide +kernel), List.mem_of_getElem? (i := 576) (by decide +kernel)⟩
theorem lw_p3 : lw_okq (⟨"StemRules$Bases", "change", "(IILStemRules$Words;LStemRules$Letters;)Z"⟩, 6) := ⟨⟨by decide +kernel, by decide +kernel⟩, List.mem_of_getElem? (i := 106) (by decide +kernel), List.mem_of_getElem? (i := 580) (by decide +kernel), List.mem_of_getElem? (i := 581) (by decide +kernel)⟩
theorem lw_p4 : lw_okq (⟨"StemRules$Parts", "mayStand", "(ILStemRules$Letters;ILStemRules$Words;)Z"⟩, 4) := ⟨⟨by decide +kernel, by decide +kernel⟩, List.mem_of_getElem? (i := 131) (by decide +kernel), List.mem_of_getElem? (i := 615) (by decide +kernel), List.mem_of_getElem? (i := 616) (by decide +kernel)⟩
theorem lw_p5 : lw_okq (⟨"StemRules$Parts", "noteFirst", "(IIII)V"⟩, 4) := ⟨⟨by decide +kernel, by decide +kernel⟩, List.mem_of_getElem? (i := 131) (by decide +kernel), List.mem_of_getElem? (i := 623) (by decide +kernel), List.mem_of_getElem? (i := 624) (by decide +kernel)⟩
theorem lw_p6 : lw_okq (⟨"StemRules$Cutter", "findLetters", "(LStemRules$Tape;)Z"⟩, 6) := ⟨⟨by decide +kernel, by decide +kernel⟩, List.mem_of_getElem? (i := 150) (by decide +kernel), List.mem_of_getElem? (i := 729) (by decide +kernel), List.mem_of_getElem? (i := 730) (by decide +kernel)⟩
theorem lw_p7 : lw_okq (⟨"StemRules", "takePiece", "(I)Z"⟩, 9) := ⟨⟨by decide +kernel, by decide +kernel⟩, List.mem_of_getElem? (i := 22) (by decide +kernel), List.mem_of_getElem? (i := 750) (by decide +kernel), List.mem_of_getElem? (i := 751) (by decide +kernel)⟩
theorem lw_p8 : lw_okq (⟨"StemRulesModel", "four", "(I)V"⟩, 33) := ⟨⟨by decide +kernel, by decide +kernel⟩, List.mem_of_getElem? (i := 810) (by decide +kernel), List.mem_of_getElem? (i := 920) (by decide +kernel), List.mem_of_getElem? (i := 921) (by decide +kernel)⟩
theorem lw_p9 : lw_okq (⟨"StemRulesModel", "learn", "()I"⟩, 33) := ⟨⟨by decide +kernel, by decide +kernel⟩, List.mem_of_getElem? (i := 810) (by decide +kernel), List.mem_of_getElem? (i := 939) (by decide +kernel), List.mem_of_getElem? (i := 940) (by decide +kernel)⟩
theorem lw_p10 : lw_okq (⟨"StemRulesModel", "find", "(II)I"⟩, 33) := ⟨⟨by decide +kernel, by decide +kernel⟩, List.mem_of_getElem? (i := 810) (by decide +kernel), List.mem_of_getElem? (i := 943) (by decide +kernel), List.mem_of_getElem? (i := 944) (by decide +kernel)⟩
theorem lw_p11 : lw_okq (⟨"StemRulesModel", "strange", "(I)Z"⟩, 33) := ⟨⟨by decide +kernel, by decide +kernel⟩, List.mem_of_getElem? (i := 810) (by decide +kernel), List.mem_of_getElem? (i := 951) (by decide +kernel), List.mem_of_getElem? (i := 952) (by decide +kernel)⟩
theorem lw_p12 : lw_okq (⟨"StemRulesModel", "take", "(I)V"⟩, 33) := ⟨⟨by decide +kernel, by decide +kernel⟩, List.mem_of_getElem? (i := 810) (by decide +kernel), List.mem_of_getElem? (i := 955) (by decide +kernel), List.mem_of_getElem? (i := 956) (by decide +kernel)⟩
theorem lw_p13 : lw_okq (⟨"StemRulesModel", "show", "()I"⟩, 33) := ⟨⟨by decide +kernel, by decide +kernel⟩, List.mem_of_getElem? (i := 810) (by decide +kernel), List.mem_of_getElem? (i := 959) (by decide +kernel), List.mem_of_getElem? (i := 960) (by decide +kernel)⟩
theorem lw_p14 : lw_okq (⟨"StemRulesModel", "stemOf", "(II)V"⟩, 33) := ⟨⟨by decide +kernel, by decide +kernel⟩, List.mem_of_getElem? (i := 810) (by decide +kernel), List.mem_of_getElem? (i := 967) (by decide +kernel), List.mem_of_getElem? (i := 968) (by decide +kernel)⟩
theorem lw_p15 : lw_okq (⟨"StemRulesModel", "plural", "()V"⟩, 33) := ⟨⟨by decide +kernel, by decide +kernel⟩, List.mem_of_getElem? (i := 810) (by decide +kernel), List.mem_of_getElem? (i := 971) (by decide +kernel), List.mem_of_getElem? (i := 972) (by decide +kernel)⟩
def lw_privs_1 : List (MethodName × Nat) := [(⟨"StemRules", "layStem", "(IILStemRules$Letters;)V"⟩, 9), (⟨"StemRules$Husk", "findRow", "(LStemRules$Letters;ZLStemRules$Words;)I"⟩, 6), (⟨"StemRules$Bases", "note", "(ILStemRules$Words;)V"⟩, 6), (⟨"StemRules$Bases", "change", "(IILStemRules$Words;LStemRules$Letters;)Z"⟩, 6), (⟨"StemRules$Parts", "mayStand", "(ILStemRules$Letters;ILStemRules$Words;)Z"⟩, 4), (⟨"StemRules$Parts", "noteFirst", "(IIII)V"⟩, 4), (⟨"StemRules$Cutter", "findLetters", "(LStemRules$Tape;)Z"⟩, 6), (⟨"StemRules", "takePiece", "(I)Z"⟩, 9), (⟨"StemRulesModel", "four", "(I)V"⟩, 33), (⟨"StemRulesModel", "learn", "()I"⟩, 33), (⟨"StemRulesModel", "find", "(II)I"⟩, 33), (⟨"StemRulesModel", "strange", "(I)Z"⟩, 33), (⟨"StemRulesModel", "take", "(I)V"⟩, 33), (⟨"StemRulesModel", "show", "()I"⟩, 33), (⟨"StemRulesModel", "stemOf", "(II)V"⟩, 33), (⟨"StemRulesModel", "plural", "()V"⟩, 33)]
theorem lw_r1 : ∀ q ∈ lw_privs_1, lw_okq q := List.forall_mem_cons.mpr ⟨lw_p0, List.forall_mem_cons.mpr ⟨lw_p1, List.forall_mem_cons.mpr ⟨lw_p2, List.forall_mem_cons.mpr ⟨lw_p3, List.forall_mem_cons.mpr ⟨lw_p4, List.forall_mem_cons.mpr ⟨lw_p5, List.forall_mem_cons.mpr ⟨lw_p6, List.forall_mem_cons.mpr ⟨lw_p7, List.forall_mem_cons.mpr ⟨lw_p8, List.forall_mem_cons.mpr ⟨lw_p9, List.forall_mem_cons.mpr ⟨lw_p10, List.forall_mem_cons.mpr ⟨lw_p11, List.forall_mem_cons.mpr ⟨lw_p12, List.forall_mem_cons.mpr ⟨lw_p13, List.forall_mem_cons.mpr ⟨lw_p14, List.forall_mem_cons.mpr ⟨lw_p15, fun _ h => absurd h List.not_mem_nil⟩⟩⟩⟩⟩⟩⟩⟩⟩⟩⟩⟩⟩⟩⟩⟩
theorem lw_p16 : lw_okq (⟨"StemRulesModel", "ends", "(J)Z"⟩, 33) := ⟨⟨by decide +kernel, by decide +kernel⟩, List.mem_of_getElem? (i := 810) (by decide +kernel), List.mem_of_getElem? (i := 976) (by decide +kernel), List.mem_of_getElem? (i := 977) (by decide +kernel)⟩
theorem lw_p17 : lw_okq (⟨"StemRulesModel", "stands", "(IJ)Z"⟩, 33) := ⟨⟨by decide +kernel, by decide +kernel⟩, List.mem_of_getElem? (i := 810) (by decide +kernel), List.mem_of_getElem? (i := 983) (by decide +kernel), List.mem_of_getElem? (i := 984) (by decide +kernel)⟩
theorem lw_p18 : lw_okq (⟨"StemRulesModel", "turn", "(IJ)V"⟩, 33) := ⟨⟨by decide +kernel, by decide +kernel⟩, List.mem_of_getElem? (i := 810) (by decide +kernel), List.mem_of_getElem? (i := 994) (by decide +kernel), List.mem_of_getElem? (i := 995) (by decide +kernel)⟩
theorem lw_p19 : lw_okq (⟨"StemRulesModel", "porter", "(I)V"⟩, 33) := ⟨⟨by decide +kernel, by decide +kernel⟩, List.mem_of_getElem? (i := 810) (by decide +kernel), List.mem_of_getElem? (i := 1005) (by decide +kernel), List.mem_of_getElem? (i := 1006) (by decide +kernel)⟩
theorem lw_p20 : lw_okq (⟨"StemRulesModel", "porterStep", "(I)V"⟩, 33) := ⟨⟨by decide +kernel, by decide +kernel⟩, List.mem_of_getElem? (i := 810) (by decide +kernel), List.mem_of_getElem? (i := 1009) (by decide +kernel), List.mem_of_getElem? (i := 1010) (by decide +kernel)⟩
theorem lw_p21 : lw_okq (⟨"StemRulesModel", "do1b", "()V"⟩, 33) := ⟨⟨by decide +kernel, by decide +kernel⟩, List.mem_of_getElem? (i := 810) (by decide +kernel), List.mem_of_getElem? (i := 1014) (by decide +kernel), List.mem_of_getElem? (i := 1015) (by decide +kernel)⟩
theorem lw_p22 : lw_okq (⟨"StemRulesModel", "measure0", "(I)I"⟩, 33) := ⟨⟨by decide +kernel, by decide +kernel⟩, List.mem_of_getElem? (i := 810) (by decide +kernel), List.mem_of_getElem? (i := 1019) (by decide +kernel), List.mem_of_getElem? (i := 1020) (by decide +kernel)⟩
theorem lw_p23 : lw_okq (⟨"StemRulesModel", "isC", "(I)Z"⟩, 33) := ⟨⟨by decide +kernel, by decide +kernel⟩, List.mem_of_getElem? (i := 810) (by decide +kernel), List.mem_of_getElem? (i := 1023) (by decide +kernel), List.mem_of_getElem? (i := 1024) (by decide +kernel)⟩
theorem lw_p24 : lw_okq (⟨"StemRulesModel", "hasV", "(I)Z"⟩, 33) := ⟨⟨by decide +kernel, by decide +kernel⟩, List.mem_of_getElem? (i := 810) (by decide +kernel), List.mem_of_getElem? (i := 1032) (by decide +kernel), List.mem_of_getElem? (i := 1033) (by decide +kernel)⟩
theorem lw_p25 : lw_okq (⟨"StemRulesModel", "shortE", "()V"⟩, 33) := ⟨⟨by decide +kernel, by decide +kernel⟩, List.mem_of_getElem? (i := 810) (by decide +kernel), List.mem_of_getElem? (i := 1040) (by decide +kernel), List.mem_of_getElem? (i := 1041) (by decide +kernel)⟩
theorem lw_p26 : lw_okq (⟨"StemRulesModel", "isO", "(I)Z"⟩, 33) := ⟨⟨by decide +kernel, by decide +kernel⟩, List.mem_of_getElem? (i := 810) (by decide +kernel), List.mem_of_getElem? (i := 1044) (by decide +kernel), List.mem_of_getElem? (i := 1045) (by decide +kernel)⟩
theorem lw_p27 : lw_okq (⟨"StemRulesModel", "replace", "(I)V"⟩, 33) := ⟨⟨by decide +kernel, by decide +kernel⟩, List.mem_of_getElem? (i := 810) (by decide +kernel), List.mem_of_getElem? (i := 1048) (by decide +kernel), List.mem_of_getElem? (i := 1049) (by decide +kernel)⟩
theorem lw_p28 : lw_okq (⟨"StemRulesModel", "longest", "(I)I"⟩, 33) := ⟨⟨by decide +kernel, by decide +kernel⟩, List.mem_of_getElem? (i := 810) (by decide +kernel), List.mem_of_getElem? (i := 1052) (by decide +kernel), List.mem_of_getElem? (i := 1053) (by decide +kernel)⟩
theorem lw_p29 : lw_okq (⟨"StemRulesModel", "husk", "()V"⟩, 33) := ⟨⟨by decide +kernel, by decide +kernel⟩, List.mem_of_getElem? (i := 810) (by decide +kernel), List.mem_of_getElem? (i := 1117) (by decide +kernel), List.mem_of_getElem? (i := 1118) (by decide +kernel)⟩
theorem lw_p30 : lw_okq (⟨"StemRulesModel", "endsWith", "(I)Z"⟩, 33) := ⟨⟨by decide +kernel, by decide +kernel⟩, List.mem_of_getElem? (i := 810) (by decide +kernel), List.mem_of_getElem? (i := 1121) (by decide +kernel), List.mem_of_getElem? (i := 1122) (by decide +kernel)⟩
theorem lw_p31 : lw_okq (⟨"StemRulesModel", "isGood", "(II)Z"⟩, 33) := ⟨⟨by decide +kernel, by decide +kernel⟩, List.mem_of_getElem? (i := 810) (by decide +kernel), List.mem_of_getElem? (i := 1125) (by decide +kernel), List.mem_of_getElem? (i := 1126) (by decide +kernel)⟩
def lw_privs_2 : List (MethodName × Nat) := [(⟨"StemRulesModel", "ends", "(J)Z"⟩, 33), (⟨"StemRulesModel", "stands", "(IJ)Z"⟩, 33), (⟨"StemRulesModel", "turn", "(IJ)V"⟩, 33), (⟨"StemRulesModel", "porter", "(I)V"⟩, 33), (⟨"StemRulesModel", "porterStep", "(I)V"⟩, 33), (⟨"StemRulesModel", "do1b", "()V"⟩, 33), (⟨"StemRulesModel", "measure0", "(I)I"⟩, 33), (⟨"StemRulesModel", "isC", "(I)Z"⟩, 33), (⟨"StemRulesModel", "hasV", "(I)Z"⟩, 33), (⟨"StemRulesModel", "shortE", "()V"⟩, 33), (⟨"StemRulesModel", "isO", "(I)Z"⟩, 33), (⟨"StemRulesModel", "replace", "(I)V"⟩, 33), (⟨"StemRulesModel", "longest", "(I)I"⟩, 33), (⟨"StemRulesModel", "husk", "()V"⟩, 33), (⟨"StemRulesModel", "endsWith", "(I)Z"⟩, 33), (⟨"StemRulesModel", "isGood", "(II)Z"⟩, 33)]
theorem lw_r2 : ∀ q ∈ lw_privs_2, lw_okq q := List.forall_mem_cons.mpr ⟨lw_p16, List.forall_mem_cons.mpr ⟨lw_p17, List.forall_mem_cons.mpr ⟨lw_p18, List.forall_mem_cons.mpr ⟨lw_p19, List.forall_mem_cons.mpr ⟨lw_p20, List.forall_mem_cons.mpr ⟨lw_p21, List.forall_mem_cons.mpr ⟨lw_p22, List.forall_mem_cons.mpr ⟨lw_p23, List.forall_mem_cons.mpr ⟨lw_p24, List.forall_mem_cons.mpr ⟨lw_p25, List.forall_mem_cons.mpr ⟨lw_p26, List.forall_mem_cons.mpr ⟨lw_p27, List.forall_mem_cons.mpr ⟨lw_p28, List.forall_mem_cons.mpr ⟨lw_p29, List.forall_mem_cons.mpr ⟨lw_p30, List.forall_mem_cons.mpr ⟨lw_p31, fun _ h => absurd h List.not_mem_nil⟩⟩⟩⟩⟩⟩⟩⟩⟩⟩⟩⟩⟩⟩⟩⟩
theorem lw_p32 : lw_okq (⟨"StemRulesModel", "isMember", "(I)Z"⟩, 33) := ⟨⟨by decide +kernel, by decide +kernel⟩, List.mem_of_getElem? (i := 810) (by decide +kernel), List.mem_of_getElem? (i := 1161) (by decide +kernel), List.mem_of_getElem? (i := 1162) (by decide +kernel)⟩
theorem lw_p33 : lw_okq (⟨"StemRulesModel", "byAffix", "(II)I"⟩, 33) := ⟨⟨by decide +kernel, by decide +kernel⟩, List.mem_of_getElem? (i := 810) (by decide +kernel), List.mem_of_getElem? (i := 1165) (by decide +kernel), List.mem_of_getElem? (i := 1166) (by decide +kernel)⟩
theorem lw_p34 : lw_okq (⟨"StemRulesModel", "add", "(III)V"⟩, 33) := ⟨⟨by decide +kernel, by decide +kernel⟩, List.mem_of_getElem? (i := 810) (by decide +kernel), List.mem_of_getElem? (i := 1169) (by decide +kernel), List.mem_of_getElem? (i := 1170) (by decide +kernel)⟩
theorem lw_p35 : lw_okq (⟨"StemRulesModel", "keyByFigures", "()I"⟩, 33) := ⟨⟨by decide +kernel, by decide +kernel⟩, List.mem_of_getElem? (i := 810) (by decide +kernel), List.mem_of_getElem? (i := 1185) (by decide +kernel), List.mem_of_getElem? (i := 1186) (by decide +kernel)⟩
theorem lw_p36 : lw_okq (⟨"StemRulesModel", "keyBySounds", "()I"⟩, 33) := ⟨⟨by decide +kernel, by decide +kernel⟩, List.mem_of_getElem? (i := 810) (by decide +kernel), List.mem_of_getElem? (i := 1192) (by decide +kernel), List.mem_of_getElem? (i := 1193) (by decide +kernel)⟩
theorem lw_p37 : lw_okq (⟨"StemRulesModel", "becomes", "(IJJ)Z"⟩, 33) := ⟨⟨by decide +kernel, by decide +kernel⟩, List.mem_of_getElem? (i := 810) (by decide +kernel), List.mem_of_getElem? (i := 1198) (by decide +kernel), List.mem_of_getElem? (i := 1199) (by decide +kernel)⟩
theorem lw_p38 : lw_okq (⟨"StemRulesModel", "sound", "(I)V"⟩, 33) := ⟨⟨by decide +kernel, by decide +kernel⟩, List.mem_of_getElem? (i := 810) (by decide +kernel), List.mem_of_getElem? (i := 1219) (by decide +kernel), List.mem_of_getElem? (i := 1220) (by decide +kernel)⟩
theorem lw_p39 : lw_okq (⟨"StemRulesModel", "letterAt", "(II)I"⟩, 33) := ⟨⟨by decide +kernel, by decide +kernel⟩, List.mem_of_getElem? (i := 810) (by decide +kernel), List.mem_of_getElem? (i := 1232) (by decide +kernel), List.mem_of_getElem? (i := 1233) (by decide +kernel)⟩
theorem lw_p40 : lw_okq (⟨"StemRulesModel", "lay", "(IIII)Z"⟩, 33) := ⟨⟨by decide +kernel, by decide +kernel⟩, List.mem_of_getElem? (i := 810) (by decide +kernel), List.mem_of_getElem? (i := 1236) (by decide +kernel), List.mem_of_getElem? (i := 1237) (by decide +kernel)⟩
def lw_privs_3 : List (MethodName × Nat) := [(⟨"StemRulesModel", "isMember", "(I)Z"⟩, 33), (⟨"StemRulesModel", "byAffix", "(II)I"⟩, 33), (⟨"StemRulesModel", "add", "(III)V"⟩, 33), (⟨"StemRulesModel", "keyByFigures", "()I"⟩, 33), (⟨"StemRulesModel", "keyBySounds", "()I"⟩, 33), (⟨"StemRulesModel", "becomes", "(IJJ)Z"⟩, 33), (⟨"StemRulesModel", "sound", "(I)V"⟩, 33), (⟨"StemRulesModel", "letterAt", "(II)I"⟩, 33), (⟨"StemRulesModel", "lay", "(IIII)Z"⟩, 33)]
theorem lw_r3 : ∀ q ∈ lw_privs_3, lw_okq q := List.forall_mem_cons.mpr ⟨lw_p32, List.forall_mem_cons.mpr ⟨lw_p33, List.forall_mem_cons.mpr ⟨lw_p34, List.forall_mem_cons.mpr ⟨lw_p35, List.forall_mem_cons.mpr ⟨lw_p36, List.forall_mem_cons.mpr ⟨lw_p37, List.forall_mem_cons.mpr ⟨lw_p38, List.forall_mem_cons.mpr ⟨lw_p39, List.forall_mem_cons.mpr ⟨lw_p40, fun _ h => absurd h List.not_mem_nil⟩⟩⟩⟩⟩⟩⟩⟩⟩
def lw_privs : List (MethodName × Nat) := lw_privs_1 ++ (lw_privs_2 ++ (lw_privs_3))
def lw_tbl : List Cond := k2_sels lw_privs ++ tables_1
theorem lw_privs_ok : ∀ q ∈ lw_privs, lw_okq q := by
  show ∀ q ∈ lw_privs_1 ++ (lw_privs_2 ++ (lw_privs_3)), lw_okq q
  exact List.forall_mem_append.mpr ⟨lw_r1, List.forall_mem_append.mpr ⟨lw_r2, lw_r3⟩⟩
def RX0 : String := "StemRules$Bases"
def TX0 : u_T := fun k => match k with
  | 0 => ("StemRules$Bases", "behinds", "[Z", true)
  | 1 => ("StemRules$Bases", "forms", "[I", true)
  | 2 => ("StemRules$Bases", "insteads", "[I", true)
  | 3 => ("StemRules$Bases", "count", "I", false)
  | 4 => ("StemRules$Bases", "found", "[I", true)
  | _ => ("StemRules$Bases", "foundCount", "I", false)
def tyX0 : Nat → FieldType := fun k => match k with
  | 0 => .array .boolean
  | 1 => .array .int
  | 2 => .array .int
  | 3 => .int
  | 4 => .array .int
  | _ => .int
abbrev wsX00 : List Cond := u_ws RX0 TX0 6
theorem nmX0 : ∀ a, a < 6 → ∀ b, b < 6 → a ≠ b → (TX0 a).2.1 ≠ (TX0 b).2.1 := by decide +kernel
theorem tyX0_ok : ∀ k, k < 6 → parseFieldDescriptor (TX0 k).2.2.1 = some (tyX0 k) := by decide +kernel
abbrev cX0_init : ByteArray := prog_2_method_1_code
def yX0_init : MethodName := ⟨RX0, "<init>", "()V"⟩
abbrev cX0_count : ByteArray := prog_2_method_2_code
def yX0_count : MethodName := ⟨RX0, "count", "()I"⟩
abbrev cX0_addAffix : ByteArray := prog_2_method_3_code
def yX0_addAffix : MethodName := ⟨RX0, "addAffix", "(ZII)I"⟩
abbrev cX0_collect : ByteArray := prog_2_method_4_code
def yX0_collect : MethodName := ⟨RX0, "collect", "(ILStemRules$Words;LStemRules$Letters;)V"⟩
abbrev cX0_found : ByteArray := prog_2_method_5_code
def yX0_found : MethodName := ⟨RX0, "found", "(I)I"⟩
abbrev cX0_note : ByteArray := prog_2_method_6_code
def yX0_note : MethodName := ⟨RX0, "note", "(ILStemRules$Words;)V"⟩
abbrev cX0_change : ByteArray := prog_2_method_7_code
def yX0_change : MethodName := ⟨RX0, "change", "(IILStemRules$Words;LStemRules$Letters;)Z"⟩
def RX1 : String := "StemRules$Cutter"
def TX1 : u_T := fun k => match k with
  | 0 => ("StemRules$Cutter", "piece", "LStemRules$Letters;", true)
  | 1 => ("StemRules$Cutter", "place", "I", false)
  | 2 => ("StemRules$Cutter", "bytes", "I", false)
  | 3 => ("StemRules$Cutter", "next", "I", false)
  | 4 => ("StemRules$Cutter", "lettersEnd", "I", false)
  | _ => ("StemRules$Cutter", "rowEnd", "I", false)
def tyX1 : Nat → FieldType := fun k => match k with
  | 0 => .object "StemRules$Letters"
  | 1 => .int
  | 2 => .int
  | 3 => .int
  | 4 => .int
  | _ => .int
abbrev wsX10 : List Cond := u_ws RX1 TX1 6
theorem nmX1 : ∀ a, a < 6 → ∀ b, b < 6 → a ≠ b → (TX1 a).2.1 ≠ (TX1 b).2.1 := by decide +kernel
theorem tyX1_ok : ∀ k, k < 6 → parseFieldDescriptor (TX1 k).2.2.1 = some (tyX1 k) := by decide +kernel
abbrev cX1_init : ByteArray := prog_3_method_1_code
def yX1_init : MethodName := ⟨RX1, "<init>", "()V"⟩
abbrev cX1_piece : ByteArray := prog_3_method_2_code
def yX1_piece : MethodName := ⟨RX1, "piece", "()LStemRules$Letters;"⟩
abbrev cX1_place : ByteArray := prog_3_method_3_code
def yX1_place : MethodName := ⟨RX1, "place", "()I"⟩
abbrev cX1_bytes : ByteArray := prog_3_method_4_code
def yX1_bytes : MethodName := ⟨RX1, "bytes", "()I"⟩
abbrev cX1_begin : ByteArray := prog_3_method_5_code
def yX1_begin : MethodName := ⟨RX1, "begin", "()V"⟩
abbrev cX1_findPiece : ByteArray := prog_3_method_6_code
def yX1_findPiece : MethodName := ⟨RX1, "findPiece", "(LStemRules$Tape;)Z"⟩
abbrev cX1_findLetters : ByteArray := prog_3_method_7_code
def yX1_findLetters : MethodName := ⟨RX1, "findLetters", "(LStemRules$Tape;)Z"⟩
def RX2 : String := "StemRules$Ending"
def TX2 : u_T := fun k => match k with
  | _ => ("", "", "", false)
def tyX2 : Nat → FieldType := fun k => match k with
  | _ => .int
abbrev wsX20 : List Cond := u_ws RX2 TX2 0
theorem nmX2 : ∀ a, a < 0 → ∀ b, b < 0 → a ≠ b → (TX2 a).2.1 ≠ (TX2 b).2.1 := by decide +kernel
theorem tyX2_ok : ∀ k, k < 0 → parseFieldDescriptor (TX2 k).2.2.1 = some (tyX2 k) := by decide +kernel
def RX3 : String := "StemRules$Husk"
def TX3 : u_T := fun k => match k with
  | 0 => ("StemRules$Husk", "endings", "[I", true)
  | 1 => ("StemRules$Husk", "wholes", "[Z", true)
  | 2 => ("StemRules$Husk", "goes", "[I", true)
  | 3 => ("StemRules$Husk", "comes", "[I", true)
  | 4 => ("StemRules$Husk", "ons", "[Z", true)
  | _ => ("StemRules$Husk", "count", "I", false)
def tyX3 : Nat → FieldType := fun k => match k with
  | 0 => .array .int
  | 1 => .array .boolean
  | 2 => .array .int
  | 3 => .array .int
  | 4 => .array .boolean
  | _ => .int
abbrev wsX30 : List Cond := u_ws RX3 TX3 6
theorem nmX3 : ∀ a, a < 6 → ∀ b, b < 6 → a ≠ b → (TX3 a).2.1 ≠ (TX3 b).2.1 := by decide +kernel
theorem tyX3_ok : ∀ k, k < 6 → parseFieldDescriptor (TX3 k).2.2.1 = some (tyX3 k) := by decide +kernel
abbrev cX3_init : ByteArray := prog_5_method_1_code
def yX3_init : MethodName := ⟨RX3, "<init>", "()V"⟩
abbrev cX3_count : ByteArray := prog_5_method_2_code
def yX3_count : MethodName := ⟨RX3, "count", "()I"⟩
abbrev cX3_dropRows : ByteArray := prog_5_method_3_code
def yX3_dropRows : MethodName := ⟨RX3, "dropRows", "()V"⟩
abbrev cX3_addRow : ByteArray := prog_5_method_4_code
def yX3_addRow : MethodName := ⟨RX3, "addRow", "(IZIIZ)I"⟩
abbrev cX3_run : ByteArray := prog_5_method_5_code
def yX3_run : MethodName := ⟨RX3, "run", "(LStemRules$Letters;LStemRules$Words;)V"⟩
abbrev cX3_findRow : ByteArray := prog_5_method_6_code
def yX3_findRow : MethodName := ⟨RX3, "findRow", "(LStemRules$Letters;ZLStemRules$Words;)I"⟩
abbrev cX3_isGood : ByteArray := prog_5_method_7_code
def yX3_isGood : MethodName := ⟨RX3, "isGood", "(LStemRules$Letters;II)Z"⟩
def RX4 : String := "StemRules$Keys"
def TX4 : u_T := fun k => match k with
  | _ => ("", "", "", false)
def tyX4 : Nat → FieldType := fun k => match k with
  | _ => .int
abbrev wsX40 : List Cond := u_ws RX4 TX4 0
theorem nmX4 : ∀ a, a < 0 → ∀ b, b < 0 → a ≠ b → (TX4 a).2.1 ≠ (TX4 b).2.1 := by decide +kernel
theorem tyX4_ok : ∀ k, k < 0 → parseFieldDescriptor (TX4 k).2.2.1 = some (tyX4 k) := by decide +kernel
abbrev cX4_layFigures : ByteArray := prog_6_method_2_code
def yX4_layFigures : MethodName := ⟨RX4, "layFigures", "(LStemRules$Letters;LStemRules$Letters;)V"⟩
abbrev cX4_laySounds : ByteArray := prog_6_method_3_code
def yX4_laySounds : MethodName := ⟨RX4, "laySounds", "(LStemRules$Letters;LStemRules$Letters;)V"⟩
abbrev cX4_figureOf : ByteArray := prog_6_method_4_code
def yX4_figureOf : MethodName := ⟨RX4, "figureOf", "(C)C"⟩
abbrev cX4_changeBeginning : ByteArray := prog_6_method_5_code
def yX4_changeBeginning : MethodName := ⟨RX4, "changeBeginning", "(LStemRules$Letters;)Z"⟩
abbrev cX4_changeEnding : ByteArray := prog_6_method_6_code
def yX4_changeEnding : MethodName := ⟨RX4, "changeEnding", "(LStemRules$Letters;)Z"⟩
abbrev cX4_changeLetter : ByteArray := prog_6_method_7_code
def yX4_changeLetter : MethodName := ⟨RX4, "changeLetter", "(LStemRules$Letters;I)V"⟩
abbrev cX4_changeConsonant : ByteArray := prog_6_method_8_code
def yX4_changeConsonant : MethodName := ⟨RX4, "changeConsonant", "(LStemRules$Letters;I)Z"⟩
abbrev cX4_trimEnd : ByteArray := prog_6_method_9_code
def yX4_trimEnd : MethodName := ⟨RX4, "trimEnd", "(LStemRules$Letters;)V"⟩
def RX5 : String := "StemRules$Letters"
def TX5 : u_T := fun k => match k with
  | 0 => ("StemRules$Letters", "letters", "[C", true)
  | _ => ("StemRules$Letters", "size", "I", false)
def tyX5 : Nat → FieldType := fun k => match k with
  | 0 => .array .char
  | _ => .int
abbrev wsX50 : List Cond := u_ws RX5 TX5 2
theorem nmX5 : ∀ a, a < 2 → ∀ b, b < 2 → a ≠ b → (TX5 a).2.1 ≠ (TX5 b).2.1 := by decide +kernel
theorem tyX5_ok : ∀ k, k < 2 → parseFieldDescriptor (TX5 k).2.2.1 = some (tyX5 k) := by decide +kernel
abbrev cX5_init : ByteArray := prog_7_method_1_code
def yX5_init : MethodName := ⟨RX5, "<init>", "()V"⟩
abbrev cX5_size : ByteArray := prog_7_method_2_code
def yX5_size : MethodName := ⟨RX5, "size", "()I"⟩
abbrev cX5_at : ByteArray := prog_7_method_3_code
def yX5_at : MethodName := ⟨RX5, "at", "(I)C"⟩
abbrev cX5_put : ByteArray := prog_7_method_4_code
def yX5_put : MethodName := ⟨RX5, "put", "(IC)V"⟩
abbrev cX5_add : ByteArray := prog_7_method_5_code
def yX5_add : MethodName := ⟨RX5, "add", "(C)V"⟩
abbrev cX5_shorten : ByteArray := prog_7_method_6_code
def yX5_shorten : MethodName := ⟨RX5, "shorten", "(I)V"⟩
abbrev cX5_hasAt : ByteArray := prog_7_method_7_code
def yX5_hasAt : MethodName := ⟨RX5, "hasAt", "(ILjava/lang/String;)Z"⟩
abbrev cX5_ends : ByteArray := prog_7_method_8_code
def yX5_ends : MethodName := ⟨RX5, "ends", "(Ljava/lang/String;)Z"⟩
abbrev cX5_changeAt : ByteArray := prog_7_method_9_code
def yX5_changeAt : MethodName := ⟨RX5, "changeAt", "(ILjava/lang/String;Ljava/lang/String;)Z"⟩
abbrev cX5_changeEnd : ByteArray := prog_7_method_10_code
def yX5_changeEnd : MethodName := ⟨RX5, "changeEnd", "(Ljava/lang/String;Ljava/lang/String;)Z"⟩
def RX6 : String := "StemRules$Parts"
def TX6 : u_T := fun k => match k with
  | 0 => ("StemRules$Parts", "leastLetters", "I", false)
  | 1 => ("StemRules$Parts", "counts", "[I", true)
  | 2 => ("StemRules$Parts", "firsts", "[I", true)
  | _ => ("StemRules$Parts", "nexts", "[I", true)
def tyX6 : Nat → FieldType := fun k => match k with
  | 0 => .int
  | 1 => .array .int
  | 2 => .array .int
  | _ => .array .int
abbrev wsX60 : List Cond := u_ws RX6 TX6 4
theorem nmX6 : ∀ a, a < 4 → ∀ b, b < 4 → a ≠ b → (TX6 a).2.1 ≠ (TX6 b).2.1 := by decide +kernel
theorem tyX6_ok : ∀ k, k < 4 → parseFieldDescriptor (TX6 k).2.2.1 = some (tyX6 k) := by decide +kernel
abbrev cX6_init : ByteArray := prog_8_method_1_code
def yX6_init : MethodName := ⟨RX6, "<init>", "()V"⟩
abbrev cX6_setLeast : ByteArray := prog_8_method_2_code
def yX6_setLeast : MethodName := ⟨RX6, "setLeast", "(I)I"⟩
abbrev cX6_lay : ByteArray := prog_8_method_3_code
def yX6_lay : MethodName := ⟨RX6, "lay", "(LStemRules$Letters;LStemRules$Words;)V"⟩
abbrev cX6_count : ByteArray := prog_8_method_4_code
def yX6_count : MethodName := ⟨RX6, "count", "()I"⟩
abbrev cX6_numberOf : ByteArray := prog_8_method_5_code
def yX6_numberOf : MethodName := ⟨RX6, "numberOf", "(I)I"⟩
abbrev cX6_mayStand : ByteArray := prog_8_method_6_code
def yX6_mayStand : MethodName := ⟨RX6, "mayStand", "(ILStemRules$Letters;ILStemRules$Words;)Z"⟩
abbrev cX6_noteFirst : ByteArray := prog_8_method_7_code
def yX6_noteFirst : MethodName := ⟨RX6, "noteFirst", "(IIII)V"⟩
def RX7 : String := "StemRules$Porter"
def TX7 : u_T := fun k => match k with
  | _ => ("", "", "", false)
def tyX7 : Nat → FieldType := fun k => match k with
  | _ => .int
abbrev wsX70 : List Cond := u_ws RX7 TX7 0
theorem nmX7 : ∀ a, a < 0 → ∀ b, b < 0 → a ≠ b → (TX7 a).2.1 ≠ (TX7 b).2.1 := by decide +kernel
theorem tyX7_ok : ∀ k, k < 0 → parseFieldDescriptor (TX7 k).2.2.1 = some (tyX7 k) := by decide +kernel
abbrev cX7_run : ByteArray := prog_9_method_2_code
def yX7_run : MethodName := ⟨RX7, "run", "(LStemRules$Letters;I)V"⟩
abbrev cX7_consonantsOf : ByteArray := prog_9_method_3_code
def yX7_consonantsOf : MethodName := ⟨RX7, "consonantsOf", "(LStemRules$Letters;)I"⟩
abbrev cX7_measureOf : ByteArray := prog_9_method_4_code
def yX7_measureOf : MethodName := ⟨RX7, "measureOf", "(II)I"⟩
abbrev cX7_lowest : ByteArray := prog_9_method_5_code
def yX7_lowest : MethodName := ⟨RX7, "lowest", "(I)I"⟩
abbrev cX7_hasV : ByteArray := prog_9_method_6_code
def yX7_hasV : MethodName := ⟨RX7, "hasV", "(II)Z"⟩
abbrev cX7_endsDouble : ByteArray := prog_9_method_7_code
def yX7_endsDouble : MethodName := ⟨RX7, "endsDouble", "(LStemRules$Letters;II)Z"⟩
abbrev cX7_endsShort : ByteArray := prog_9_method_8_code
def yX7_endsShort : MethodName := ⟨RX7, "endsShort", "(LStemRules$Letters;II)Z"⟩
abbrev cX7_changeEnding : ByteArray := prog_9_method_9_code
def yX7_changeEnding : MethodName := ⟨RX7, "changeEnding", "(LStemRules$Letters;II)LStemRules$Ending;"⟩
abbrev cX7_holds : ByteArray := prog_9_method_10_code
def yX7_holds : MethodName := ⟨RX7, "holds", "(ILStemRules$Letters;II)Z"⟩
abbrev cX7_mend : ByteArray := prog_9_method_11_code
def yX7_mend : MethodName := ⟨RX7, "mend", "(LStemRules$Letters;I)V"⟩
abbrev cX7_changeY : ByteArray := prog_9_method_12_code
def yX7_changeY : MethodName := ⟨RX7, "changeY", "(LStemRules$Letters;I)V"⟩
abbrev cX7_dropL : ByteArray := prog_9_method_13_code
def yX7_dropL : MethodName := ⟨RX7, "dropL", "(LStemRules$Letters;I)V"⟩
def RX8 : String := "StemRules$Tape"
def TX8 : u_T := fun k => match k with
  | 0 => ("StemRules$Tape", "bytes", "[C", true)
  | _ => ("StemRules$Tape", "size", "I", false)
def tyX8 : Nat → FieldType := fun k => match k with
  | 0 => .array .char
  | _ => .int
abbrev wsX80 : List Cond := u_ws RX8 TX8 2
theorem nmX8 : ∀ a, a < 2 → ∀ b, b < 2 → a ≠ b → (TX8 a).2.1 ≠ (TX8 b).2.1 := by decide +kernel
theorem tyX8_ok : ∀ k, k < 2 → parseFieldDescriptor (TX8 k).2.2.1 = some (tyX8 k) := by decide +kernel
abbrev cX8_init : ByteArray := prog_10_method_1_code
def yX8_init : MethodName := ⟨RX8, "<init>", "()V"⟩
abbrev cX8_size : ByteArray := prog_10_method_2_code
def yX8_size : MethodName := ⟨RX8, "size", "()I"⟩
abbrev cX8_hasRoomForFive : ByteArray := prog_10_method_3_code
def yX8_hasRoomForFive : MethodName := ⟨RX8, "hasRoomForFive", "()Z"⟩
abbrev cX8_addNumber : ByteArray := prog_10_method_4_code
def yX8_addNumber : MethodName := ⟨RX8, "addNumber", "(I)V"⟩
abbrev cX8_keep : ByteArray := prog_10_method_5_code
def yX8_keep : MethodName := ⟨RX8, "keep", "(I)V"⟩
abbrev cX8_byteAt : ByteArray := prog_10_method_6_code
def yX8_byteAt : MethodName := ⟨RX8, "byteAt", "(I)C"⟩
abbrev cX8_letterAt : ByteArray := prog_10_method_7_code
def yX8_letterAt : MethodName := ⟨RX8, "letterAt", "(I)C"⟩
abbrev cX8_joinsAt : ByteArray := prog_10_method_8_code
def yX8_joinsAt : MethodName := ⟨RX8, "joinsAt", "(I)Z"⟩
abbrev cX8_copyAsWord : ByteArray := prog_10_method_9_code
def yX8_copyAsWord : MethodName := ⟨RX8, "copyAsWord", "(LStemRules$Letters;)Z"⟩
def RX9 : String := "StemRules$Tokens"
def TX9 : u_T := fun k => match k with
  | 0 => ("StemRules$Tokens", "kept", "[I", true)
  | 1 => ("StemRules$Tokens", "keptCount", "I", false)
  | 2 => ("StemRules$Tokens", "keptPositions", "I", false)
  | 3 => ("StemRules$Tokens", "fresh", "[I", true)
  | 4 => ("StemRules$Tokens", "freshCount", "I", false)
  | _ => ("StemRules$Tokens", "freshPositions", "I", false)
def tyX9 : Nat → FieldType := fun k => match k with
  | 0 => .array .int
  | 1 => .int
  | 2 => .int
  | 3 => .array .int
  | 4 => .int
  | _ => .int
abbrev wsX90 : List Cond := u_ws RX9 TX9 6
theorem nmX9 : ∀ a, a < 6 → ∀ b, b < 6 → a ≠ b → (TX9 a).2.1 ≠ (TX9 b).2.1 := by decide +kernel
theorem tyX9_ok : ∀ k, k < 6 → parseFieldDescriptor (TX9 k).2.2.1 = some (tyX9 k) := by decide +kernel
abbrev cX9_init : ByteArray := prog_11_method_1_code
def yX9_init : MethodName := ⟨RX9, "<init>", "()V"⟩
abbrev cX9_count : ByteArray := prog_11_method_2_code
def yX9_count : MethodName := ⟨RX9, "count", "()I"⟩
abbrev cX9_positions : ByteArray := prog_11_method_3_code
def yX9_positions : MethodName := ⟨RX9, "positions", "()I"⟩
abbrev cX9_get : ByteArray := prog_11_method_4_code
def yX9_get : MethodName := ⟨RX9, "get", "(II)I"⟩
abbrev cX9_begin : ByteArray := prog_11_method_5_code
def yX9_begin : MethodName := ⟨RX9, "begin", "()V"⟩
abbrev cX9_haveRoom : ByteArray := prog_11_method_6_code
def yX9_haveRoom : MethodName := ⟨RX9, "haveRoom", "()Z"⟩
abbrev cX9_nextPosition : ByteArray := prog_11_method_7_code
def yX9_nextPosition : MethodName := ⟨RX9, "nextPosition", "()I"⟩
abbrev cX9_add : ByteArray := prog_11_method_8_code
def yX9_add : MethodName := ⟨RX9, "add", "(IIIII)V"⟩
abbrev cX9_keep : ByteArray := prog_11_method_9_code
def yX9_keep : MethodName := ⟨RX9, "keep", "()V"⟩
def RX10 : String := "StemRules$Words"
def TX10 : u_T := fun k => match k with
  | 0 => ("StemRules$Words", "letters", "[C", true)
  | 1 => ("StemRules$Words", "sizes", "[I", true)
  | 2 => ("StemRules$Words", "pairs", "[I", true)
  | 3 => ("StemRules$Words", "marks", "[Z", true)
  | _ => ("StemRules$Words", "count", "I", false)
def tyX10 : Nat → FieldType := fun k => match k with
  | 0 => .array .char
  | 1 => .array .int
  | 2 => .array .int
  | 3 => .array .boolean
  | _ => .int
abbrev wsX100 : List Cond := u_ws RX10 TX10 5
theorem nmX10 : ∀ a, a < 5 → ∀ b, b < 5 → a ≠ b → (TX10 a).2.1 ≠ (TX10 b).2.1 := by decide +kernel
theorem tyX10_ok : ∀ k, k < 5 → parseFieldDescriptor (TX10 k).2.2.1 = some (tyX10 k) := by decide +kernel
abbrev cX10_init : ByteArray := prog_12_method_1_code
def yX10_init : MethodName := ⟨RX10, "<init>", "()V"⟩
abbrev cX10_count : ByteArray := prog_12_method_2_code
def yX10_count : MethodName := ⟨RX10, "count", "()I"⟩
abbrev cX10_knows : ByteArray := prog_12_method_3_code
def yX10_knows : MethodName := ⟨RX10, "knows", "(I)Z"⟩
abbrev cX10_knowsOrNone : ByteArray := prog_12_method_4_code
def yX10_knowsOrNone : MethodName := ⟨RX10, "knowsOrNone", "(I)Z"⟩
abbrev cX10_sizeOf : ByteArray := prog_12_method_5_code
def yX10_sizeOf : MethodName := ⟨RX10, "sizeOf", "(I)I"⟩
abbrev cX10_copyTo : ByteArray := prog_12_method_6_code
def yX10_copyTo : MethodName := ⟨RX10, "copyTo", "(ILStemRules$Letters;)V"⟩
abbrev cX10_addTo : ByteArray := prog_12_method_7_code
def yX10_addTo : MethodName := ⟨RX10, "addTo", "(IILStemRules$Letters;)V"⟩
abbrev cX10_standsAt : ByteArray := prog_12_method_8_code
def yX10_standsAt : MethodName := ⟨RX10, "standsAt", "(ILStemRules$Letters;I)Z"⟩
abbrev cX10_standsBehind : ByteArray := prog_12_method_9_code
def yX10_standsBehind : MethodName := ⟨RX10, "standsBehind", "(ILStemRules$Letters;)Z"⟩
abbrev cX10_find : ByteArray := prog_12_method_10_code
def yX10_find : MethodName := ⟨RX10, "find", "(LStemRules$Letters;)I"⟩
abbrev cX10_learn : ByteArray := prog_12_method_11_code
def yX10_learn : MethodName := ⟨RX10, "learn", "(LStemRules$Letters;)I"⟩
abbrev cX10_forgetFrom : ByteArray := prog_12_method_12_code
def yX10_forgetFrom : MethodName := ⟨RX10, "forgetFrom", "(I)V"⟩
abbrev cX10_isMarked : ByteArray := prog_12_method_13_code
def yX10_isMarked : MethodName := ⟨RX10, "isMarked", "(II)Z"⟩
abbrev cX10_setMark : ByteArray := prog_12_method_14_code
def yX10_setMark : MethodName := ⟨RX10, "setMark", "(IIZ)V"⟩
abbrev cX10_pairOf : ByteArray := prog_12_method_15_code
def yX10_pairOf : MethodName := ⟨RX10, "pairOf", "(I)I"⟩
abbrev cX10_setPair : ByteArray := prog_12_method_16_code
def yX10_setPair : MethodName := ⟨RX10, "setPair", "(II)V"⟩
def RX11 : String := "StemRules"
def TX11 : u_T := fun k => match k with
  | 0 => ("StemRules", "tape", "LStemRules$Tape;", true)
  | 1 => ("StemRules", "words", "LStemRules$Words;", true)
  | 2 => ("StemRules", "shown", "LStemRules$Letters;", true)
  | 3 => ("StemRules", "work", "LStemRules$Letters;", true)
  | 4 => ("StemRules", "husk", "LStemRules$Husk;", true)
  | 5 => ("StemRules", "bases", "LStemRules$Bases;", true)
  | 6 => ("StemRules", "parts", "LStemRules$Parts;", true)
  | 7 => ("StemRules", "cutter", "LStemRules$Cutter;", true)
  | _ => ("StemRules", "tokens", "LStemRules$Tokens;", true)
def tyX11 : Nat → FieldType := fun k => match k with
  | 0 => .object "StemRules$Tape"
  | 1 => .object "StemRules$Words"
  | 2 => .object "StemRules$Letters"
  | 3 => .object "StemRules$Letters"
  | 4 => .object "StemRules$Husk"
  | 5 => .object "StemRules$Bases"
  | 6 => .object "StemRules$Parts"
  | 7 => .object "StemRules$Cutter"
  | _ => .object "StemRules$Tokens"
abbrev wsX110 : List Cond := u_ws RX11 TX11 9
theorem nmX11 : ∀ a, a < 9 → ∀ b, b < 9 → a ≠ b → (TX11 a).2.1 ≠ (TX11 b).2.1 := by decide +kernel
theorem tyX11_ok : ∀ k, k < 9 → parseFieldDescriptor (TX11 k).2.2.1 = some (tyX11 k) := by decide +kernel
abbrev cX11_init : ByteArray := prog_1_method_1_code
def yX11_init : MethodName := ⟨RX11, "<init>", "()V"⟩
abbrev cX11_feed : ByteArray := prog_1_method_2_code
def yX11_feed : MethodName := ⟨RX11, "feed", "(IIIII)I"⟩
abbrev cX11_cut : ByteArray := prog_1_method_3_code
def yX11_cut : MethodName := ⟨RX11, "cut", "(I)I"⟩
abbrev cX11_out : ByteArray := prog_1_method_4_code
def yX11_out : MethodName := ⟨RX11, "out", "(I)I"⟩
abbrev cX11_word : ByteArray := prog_1_method_5_code
def yX11_word : MethodName := ⟨RX11, "word", "()I"⟩
abbrev cX11_spell : ByteArray := prog_1_method_6_code
def yX11_spell : MethodName := ⟨RX11, "spell", "(I)I"⟩
abbrev cX11_stem : ByteArray := prog_1_method_7_code
def yX11_stem : MethodName := ⟨RX11, "stem", "(II)I"⟩
abbrev cX11_step : ByteArray := prog_1_method_8_code
def yX11_step : MethodName := ⟨RX11, "step", "(II)I"⟩
abbrev cX11_measure : ByteArray := prog_1_method_9_code
def yX11_measure : MethodName := ⟨RX11, "measure", "(I)I"⟩
abbrev cX11_mark : ByteArray := prog_1_method_10_code
def yX11_mark : MethodName := ⟨RX11, "mark", "(IIZ)I"⟩
abbrev cX11_pair : ByteArray := prog_1_method_11_code
def yX11_pair : MethodName := ⟨RX11, "pair", "(II)I"⟩
abbrev cX11_row : ByteArray := prog_1_method_12_code
def yX11_row : MethodName := ⟨RX11, "row", "(IZIIZ)I"⟩
abbrev cX11_rowless : ByteArray := prog_1_method_13_code
def yX11_rowless : MethodName := ⟨RX11, "rowless", "()I"⟩
abbrev cX11_affix : ByteArray := prog_1_method_14_code
def yX11_affix : MethodName := ⟨RX11, "affix", "(ZII)I"⟩
abbrev cX11_base : ByteArray := prog_1_method_15_code
def yX11_base : MethodName := ⟨RX11, "base", "(II)I"⟩
abbrev cX11_least : ByteArray := prog_1_method_16_code
def yX11_least : MethodName := ⟨RX11, "least", "(I)I"⟩
abbrev cX11_part : ByteArray := prog_1_method_17_code
def yX11_part : MethodName := ⟨RX11, "part", "(II)I"⟩
abbrev cX11_key : ByteArray := prog_1_method_18_code
def yX11_key : MethodName := ⟨RX11, "key", "(II)I"⟩
abbrev cX11_text : ByteArray := prog_1_method_19_code
def yX11_text : MethodName := ⟨RX11, "text", "(I)I"⟩
abbrev cX11_token : ByteArray := prog_1_method_20_code
def yX11_token : MethodName := ⟨RX11, "token", "(II)I"⟩
abbrev cX11_told : ByteArray := prog_1_method_21_code
def yX11_told : MethodName := ⟨RX11, "told", "(I)I"⟩
abbrev cX11_isStemmer : ByteArray := prog_1_method_22_code
def yX11_isStemmer : MethodName := ⟨RX11, "isStemmer", "(I)Z"⟩
abbrev cX11_layStem : ByteArray := prog_1_method_23_code
def yX11_layStem : MethodName := ⟨RX11, "layStem", "(IILStemRules$Letters;)V"⟩
abbrev cX11_dropPlural : ByteArray := prog_1_method_24_code
def yX11_dropPlural : MethodName := ⟨RX11, "dropPlural", "(LStemRules$Letters;)V"⟩
abbrev cX11_takePiece : ByteArray := prog_1_method_25_code
def yX11_takePiece : MethodName := ⟨RX11, "takePiece", "(I)Z"⟩
abbrev cX11_isVowel : ByteArray := prog_1_method_26_code
def yX11_isVowel : MethodName := ⟨RX11, "isVowel", "(C)Z"⟩
def RX12 : String := "StemRulesModel"
def TX12 : u_T := fun k => match k with
  | 0 => ("StemRulesModel", "tape", "[I", true)
  | 1 => ("StemRulesModel", "tapeSize", "I", false)
  | 2 => ("StemRulesModel", "out", "[I", true)
  | 3 => ("StemRulesModel", "outSize", "I", false)
  | 4 => ("StemRulesModel", "letters", "[I", true)
  | 5 => ("StemRulesModel", "sizes", "[I", true)
  | 6 => ("StemRulesModel", "known", "I", false)
  | 7 => ("StemRulesModel", "marks", "[I", true)
  | 8 => ("StemRulesModel", "pairs", "[I", true)
  | 9 => ("StemRulesModel", "rowEnding", "[I", true)
  | 10 => ("StemRulesModel", "rowWhole", "[Z", true)
  | 11 => ("StemRulesModel", "rowGo", "[I", true)
  | 12 => ("StemRulesModel", "rowCome", "[I", true)
  | 13 => ("StemRulesModel", "rowOn", "[Z", true)
  | 14 => ("StemRulesModel", "rows", "I", false)
  | 15 => ("StemRulesModel", "affixBehind", "[Z", true)
  | 16 => ("StemRulesModel", "affixHas", "[I", true)
  | 17 => ("StemRulesModel", "affixInstead", "[I", true)
  | 18 => ("StemRulesModel", "affixes", "I", false)
  | 19 => ("StemRulesModel", "least", "I", false)
  | 20 => ("StemRulesModel", "w", "[I", true)
  | 21 => ("StemRulesModel", "n", "I", false)
  | 22 => ("StemRulesModel", "bases", "[I", true)
  | 23 => ("StemRulesModel", "fewest", "[I", true)
  | 24 => ("StemRulesModel", "partSize", "[I", true)
  | 25 => ("StemRulesModel", "partIs", "[I", true)
  | 26 => ("StemRulesModel", "tokens", "[I", true)
  | 27 => ("StemRulesModel", "tokenMany", "I", false)
  | 28 => ("StemRulesModel", "fresh", "[I", true)
  | 29 => ("StemRulesModel", "freshMany", "I", false)
  | 30 => ("StemRulesModel", "positions", "I", false)
  | 31 => ("StemRulesModel", "run", "[I", true)
  | _ => ("StemRulesModel", "runAt", "[I", true)
def tyX12 : Nat → FieldType := fun k => match k with
  | 0 => .array .int
  | 1 => .int
  | 2 => .array .int
  | 3 => .int
  | 4 => .array .int
  | 5 => .array .int
  | 6 => .int
  | 7 => .array .int
  | 8 => .array .int
  | 9 => .array .int
  | 10 => .array .boolean
  | 11 => .array .int
  | 12 => .array .int
  | 13 => .array .boolean
  | 14 => .int
  | 15 => .array .boolean
  | 16 => .array .int
  | 17 => .array .int
  | 18 => .int
  | 19 => .int
  | 20 => .array .int
  | 21 => .int
  | 22 => .array .int
  | 23 => .array .int
  | 24 => .array .int
  | 25 => .array .int
  | 26 => .array .int
  | 27 => .int
  | 28 => .array .int
  | 29 => .int
  | 30 => .int
  | 31 => .array .int
  | _ => .array .int
abbrev wsX120 : List Cond := u_ws RX12 TX12 33
theorem nmX12 : ∀ a, a < 33 → ∀ b, b < 33 → a ≠ b → (TX12 a).2.1 ≠ (TX12 b).2.1 := by decide +kernel
theorem tyX12_ok : ∀ k, k < 33 → parseFieldDescriptor (TX12 k).2.2.1 = some (tyX12 k) := by decide +kernel
abbrev cX12_init : ByteArray := prog_14_method_1_code
def yX12_init : MethodName := ⟨RX12, "<init>", "()V"⟩
abbrev cX12_small : ByteArray := prog_14_method_2_code
def yX12_small : MethodName := ⟨RX12, "small", "(II)I"⟩
abbrev cX12_beyond : ByteArray := prog_14_method_3_code
def yX12_beyond : MethodName := ⟨RX12, "beyond", "(III)Z"⟩
abbrev cX12_strange : ByteArray := prog_14_method_4_code
def yX12_strange : MethodName := ⟨RX12, "strange", "(I)Z"⟩
abbrev cX12_feed : ByteArray := prog_14_method_5_code
def yX12_feed : MethodName := ⟨RX12, "feed", "(IIIII)I"⟩
abbrev cX12_four : ByteArray := prog_14_method_6_code
def yX12_four : MethodName := ⟨RX12, "four", "(I)V"⟩
abbrev cX12_cut : ByteArray := prog_14_method_7_code
def yX12_cut : MethodName := ⟨RX12, "cut", "(I)I"⟩
abbrev cX12_out : ByteArray := prog_14_method_8_code
def yX12_out : MethodName := ⟨RX12, "out", "(I)I"⟩
abbrev cX12_show : ByteArray := prog_14_method_9_code
def yX12_show : MethodName := ⟨RX12, "show", "()I"⟩
abbrev cX12_take : ByteArray := prog_14_method_10_code
def yX12_take : MethodName := ⟨RX12, "take", "(I)V"⟩
abbrev cX12_find : ByteArray := prog_14_method_11_code
def yX12_find : MethodName := ⟨RX12, "find", "(II)I"⟩
abbrev cX12_learn : ByteArray := prog_14_method_12_code
def yX12_learn : MethodName := ⟨RX12, "learn", "()I"⟩
abbrev cX12_word : ByteArray := prog_14_method_13_code
def yX12_word : MethodName := ⟨RX12, "word", "()I"⟩
abbrev cX12_spell : ByteArray := prog_14_method_14_code
def yX12_spell : MethodName := ⟨RX12, "spell", "(I)I"⟩
abbrev cX12_isVowel : ByteArray := prog_14_method_15_code
def yX12_isVowel : MethodName := ⟨RX12, "isVowel", "(I)Z"⟩
abbrev cX12_isC : ByteArray := prog_14_method_16_code
def yX12_isC : MethodName := ⟨RX12, "isC", "(I)Z"⟩
abbrev cX12_measure0 : ByteArray := prog_14_method_17_code
def yX12_measure0 : MethodName := ⟨RX12, "measure0", "(I)I"⟩
abbrev cX12_hasV : ByteArray := prog_14_method_18_code
def yX12_hasV : MethodName := ⟨RX12, "hasV", "(I)Z"⟩
abbrev cX12_lettersOf : ByteArray := prog_14_method_19_code
def yX12_lettersOf : MethodName := ⟨RX12, "lettersOf", "(J)I"⟩
abbrev cX12_letterOf : ByteArray := prog_14_method_20_code
def yX12_letterOf : MethodName := ⟨RX12, "letterOf", "(JI)I"⟩
abbrev cX12_ends : ByteArray := prog_14_method_21_code
def yX12_ends : MethodName := ⟨RX12, "ends", "(J)Z"⟩
abbrev cX12_turn : ByteArray := prog_14_method_22_code
def yX12_turn : MethodName := ⟨RX12, "turn", "(IJ)V"⟩
abbrev cX12_isO : ByteArray := prog_14_method_23_code
def yX12_isO : MethodName := ⟨RX12, "isO", "(I)Z"⟩
abbrev cX12_plural : ByteArray := prog_14_method_24_code
def yX12_plural : MethodName := ⟨RX12, "plural", "()V"⟩
abbrev cX12_second : ByteArray := prog_14_method_25_code
def yX12_second : MethodName := ⟨RX12, "second", "(I)J"⟩
abbrev cX12_third : ByteArray := prog_14_method_26_code
def yX12_third : MethodName := ⟨RX12, "third", "(I)J"⟩
abbrev cX12_fourth : ByteArray := prog_14_method_27_code
def yX12_fourth : MethodName := ⟨RX12, "fourth", "(I)J"⟩
abbrev cX12_ending : ByteArray := prog_14_method_28_code
def yX12_ending : MethodName := ⟨RX12, "ending", "(II)J"⟩
abbrev cX12_longest : ByteArray := prog_14_method_29_code
def yX12_longest : MethodName := ⟨RX12, "longest", "(I)I"⟩
abbrev cX12_replace : ByteArray := prog_14_method_30_code
def yX12_replace : MethodName := ⟨RX12, "replace", "(I)V"⟩
abbrev cX12_do1b : ByteArray := prog_14_method_31_code
def yX12_do1b : MethodName := ⟨RX12, "do1b", "()V"⟩
abbrev cX12_shortE : ByteArray := prog_14_method_32_code
def yX12_shortE : MethodName := ⟨RX12, "shortE", "()V"⟩
abbrev cX12_porterStep : ByteArray := prog_14_method_33_code
def yX12_porterStep : MethodName := ⟨RX12, "porterStep", "(I)V"⟩
abbrev cX12_porter : ByteArray := prog_14_method_34_code
def yX12_porter : MethodName := ⟨RX12, "porter", "(I)V"⟩
abbrev cX12_endsWith : ByteArray := prog_14_method_35_code
def yX12_endsWith : MethodName := ⟨RX12, "endsWith", "(I)Z"⟩
abbrev cX12_isGood : ByteArray := prog_14_method_36_code
def yX12_isGood : MethodName := ⟨RX12, "isGood", "(II)Z"⟩
abbrev cX12_husk : ByteArray := prog_14_method_37_code
def yX12_husk : MethodName := ⟨RX12, "husk", "()V"⟩
abbrev cX12_stemOf : ByteArray := prog_14_method_38_code
def yX12_stemOf : MethodName := ⟨RX12, "stemOf", "(II)V"⟩
abbrev cX12_stem : ByteArray := prog_14_method_39_code
def yX12_stem : MethodName := ⟨RX12, "stem", "(II)I"⟩
abbrev cX12_step : ByteArray := prog_14_method_40_code
def yX12_step : MethodName := ⟨RX12, "step", "(II)I"⟩
abbrev cX12_measure : ByteArray := prog_14_method_41_code
def yX12_measure : MethodName := ⟨RX12, "measure", "(I)I"⟩
abbrev cX12_mark : ByteArray := prog_14_method_42_code
def yX12_mark : MethodName := ⟨RX12, "mark", "(IIZ)I"⟩
abbrev cX12_pair : ByteArray := prog_14_method_43_code
def yX12_pair : MethodName := ⟨RX12, "pair", "(II)I"⟩
abbrev cX12_row : ByteArray := prog_14_method_44_code
def yX12_row : MethodName := ⟨RX12, "row", "(IZIIZ)I"⟩
abbrev cX12_rowless : ByteArray := prog_14_method_45_code
def yX12_rowless : MethodName := ⟨RX12, "rowless", "()I"⟩
abbrev cX12_affix : ByteArray := prog_14_method_46_code
def yX12_affix : MethodName := ⟨RX12, "affix", "(ZII)I"⟩
abbrev cX12_isMember : ByteArray := prog_14_method_47_code
def yX12_isMember : MethodName := ⟨RX12, "isMember", "(I)Z"⟩
abbrev cX12_byAffix : ByteArray := prog_14_method_48_code
def yX12_byAffix : MethodName := ⟨RX12, "byAffix", "(II)I"⟩
abbrev cX12_add : ByteArray := prog_14_method_49_code
def yX12_add : MethodName := ⟨RX12, "add", "(III)V"⟩
abbrev cX12_base : ByteArray := prog_14_method_50_code
def yX12_base : MethodName := ⟨RX12, "base", "(II)I"⟩
abbrev cX12_least : ByteArray := prog_14_method_51_code
def yX12_least : MethodName := ⟨RX12, "least", "(I)I"⟩
abbrev cX12_part : ByteArray := prog_14_method_52_code
def yX12_part : MethodName := ⟨RX12, "part", "(II)I"⟩
abbrev cX12_figure : ByteArray := prog_14_method_53_code
def yX12_figure : MethodName := ⟨RX12, "figure", "(I)I"⟩
abbrev cX12_keyByFigures : ByteArray := prog_14_method_54_code
def yX12_keyByFigures : MethodName := ⟨RX12, "keyByFigures", "()I"⟩
abbrev cX12_stands : ByteArray := prog_14_method_55_code
def yX12_stands : MethodName := ⟨RX12, "stands", "(IJ)Z"⟩
abbrev cX12_becomes : ByteArray := prog_14_method_56_code
def yX12_becomes : MethodName := ⟨RX12, "becomes", "(IJJ)Z"⟩
abbrev cX12_keyBySounds : ByteArray := prog_14_method_57_code
def yX12_keyBySounds : MethodName := ⟨RX12, "keyBySounds", "()I"⟩
abbrev cX12_sound : ByteArray := prog_14_method_58_code
def yX12_sound : MethodName := ⟨RX12, "sound", "(I)V"⟩
abbrev cX12_key : ByteArray := prog_14_method_59_code
def yX12_key : MethodName := ⟨RX12, "key", "(II)I"⟩
abbrev cX12_letterAt : ByteArray := prog_14_method_60_code
def yX12_letterAt : MethodName := ⟨RX12, "letterAt", "(II)I"⟩
abbrev cX12_text : ByteArray := prog_14_method_61_code
def yX12_text : MethodName := ⟨RX12, "text", "(I)I"⟩
abbrev cX12_lay : ByteArray := prog_14_method_62_code
def yX12_lay : MethodName := ⟨RX12, "lay", "(IIII)Z"⟩
abbrev cX12_token : ByteArray := prog_14_method_63_code
def yX12_token : MethodName := ⟨RX12, "token", "(II)I"⟩
abbrev cX12_told : ByteArray := prog_14_method_64_code
def yX12_told : MethodName := ⟨RX12, "told", "(I)I"⟩
def RJx29ce0 : String := "java/lang/Enum"
def TJx29ce0 : u_T := fun k => match k with
  | _ => ("", "", "", false)
def tyJx29ce0 : Nat → FieldType := fun k => match k with
  | _ => .int
abbrev wsJx29ce00 : List Cond := u_ws RJx29ce0 TJx29ce0 0
theorem nmJx29ce0 : ∀ a, a < 0 → ∀ b, b < 0 → a ≠ b → (TJx29ce0 a).2.1 ≠ (TJx29ce0 b).2.1 := by decide +kernel
theorem tyJx29ce0_ok : ∀ k, k < 0 → parseFieldDescriptor (TJx29ce0 k).2.2.1 = some (tyJx29ce0 k) := by decide +kernel
def RJ6 : String := "java/lang/Integer"
def TJ6 : u_T := fun k => match k with
  | _ => ("", "", "", false)
def tyJ6 : Nat → FieldType := fun k => match k with
  | _ => .int
abbrev wsJ60 : List Cond := u_ws RJ6 TJ6 0
theorem nmJ6 : ∀ a, a < 0 → ∀ b, b < 0 → a ≠ b → (TJ6 a).2.1 ≠ (TJ6 b).2.1 := by decide +kernel
theorem tyJ6_ok : ∀ k, k < 0 → parseFieldDescriptor (TJ6 k).2.2.1 = some (tyJ6 k) := by decide +kernel
abbrev cJ6_bitCount_0f7a4 : ByteArray := prog_16_method_49_code
def yJ6_bitCount_0f7a4 : MethodName := ⟨RJ6, "bitCount", "(I)I"⟩
def RJ0 : String := "java/lang/String"
def TJ0 : u_T := fun k => match k with
  | _ => ("", "", "", false)
def tyJ0 : Nat → FieldType := fun k => match k with
  | _ => .int
abbrev wsJ00 : List Cond := u_ws RJ0 TJ0 0
theorem nmJ0 : ∀ a, a < 0 → ∀ b, b < 0 → a ≠ b → (TJ0 a).2.1 ≠ (TJ0 b).2.1 := by decide +kernel
theorem tyJ0_ok : ∀ k, k < 0 → parseFieldDescriptor (TJ0 k).2.2.1 = some (tyJ0 k) := by decide +kernel
abbrev cJ0_length_8abf5 : ByteArray := prog_17_method_54_code
def yJ0_length_8abf5 : MethodName := ⟨RJ0, "length", "()I"⟩
abbrev cJ0_charAt_5068e : ByteArray := prog_17_method_56_code
def yJ0_charAt_5068e : MethodName := ⟨RJ0, "charAt", "(I)C"⟩
abbrev cJ0_coder_7d493 : ByteArray := prog_17_method_152_code
def yJ0_coder_7d493 : MethodName := ⟨RJ0, "coder", "()B"⟩
abbrev cJ0_isLatin1_aae02 : ByteArray := prog_17_method_154_code
def yJ0_isLatin1_aae02 : MethodName := ⟨RJ0, "isLatin1", "()Z"⟩
abbrev cJ0_checkIndex_df160 : ByteArray := prog_17_method_155_code
def yJ0_checkIndex_df160 : MethodName := ⟨RJ0, "checkIndex", "(II)V"⟩
def RJ1 : String := "java/lang/StringLatin1"
def TJ1 : u_T := fun k => match k with
  | _ => ("", "", "", false)
def tyJ1 : Nat → FieldType := fun k => match k with
  | _ => .int
abbrev wsJ10 : List Cond := u_ws RJ1 TJ1 0
theorem nmJ1 : ∀ a, a < 0 → ∀ b, b < 0 → a ≠ b → (TJ1 a).2.1 ≠ (TJ1 b).2.1 := by decide +kernel
theorem tyJ1_ok : ∀ k, k < 0 → parseFieldDescriptor (TJ1 k).2.2.1 = some (tyJ1 k) := by decide +kernel
abbrev cJ1_charAt_3b067 : ByteArray := prog_18_method_2_code
def yJ1_charAt_3b067 : MethodName := ⟨RJ1, "charAt", "([BI)C"⟩
def RJ2 : String := "java/lang/StringUTF16"
def TJ2 : u_T := fun k => match k with
  | _ => ("", "", "", false)
def tyJ2 : Nat → FieldType := fun k => match k with
  | _ => .int
abbrev wsJ20 : List Cond := u_ws RJ2 TJ2 0
theorem nmJ2 : ∀ a, a < 0 → ∀ b, b < 0 → a ≠ b → (TJ2 a).2.1 ≠ (TJ2 b).2.1 := by decide +kernel
theorem tyJ2_ok : ∀ k, k < 0 → parseFieldDescriptor (TJ2 k).2.2.1 = some (tyJ2 k) := by decide +kernel
abbrev cJ2_getChar_3b067 : ByteArray := prog_19_method_5_code
def yJ2_getChar_3b067 : MethodName := ⟨RJ2, "getChar", "([BI)C"⟩
abbrev cJ2_length_9d52b : ByteArray := prog_19_method_6_code
def yJ2_length_9d52b : MethodName := ⟨RJ2, "length", "([B)I"⟩
abbrev cJ2_charAt_3b067 : ByteArray := prog_19_method_83_code
def yJ2_charAt_3b067 : MethodName := ⟨RJ2, "charAt", "([BI)C"⟩
abbrev cJ2_checkIndex_2214a : ByteArray := prog_19_method_91_code
def yJ2_checkIndex_2214a : MethodName := ⟨RJ2, "checkIndex", "(I[B)V"⟩
def RJ10 : String := "java/lang/System"
def TJ10 : u_T := fun k => match k with
  | _ => ("", "", "", false)
def tyJ10 : Nat → FieldType := fun k => match k with
  | _ => .int
abbrev wsJ100 : List Cond := u_ws RJ10 TJ10 0
theorem nmJ10 : ∀ a, a < 0 → ∀ b, b < 0 → a ≠ b → (TJ10 a).2.1 ≠ (TJ10 b).2.1 := by decide +kernel
theorem tyJ10_ok : ∀ k, k < 0 → parseFieldDescriptor (TJ10 k).2.2.1 = some (tyJ10 k) := by decide +kernel
def RJ3 : String := "jdk/internal/util/Preconditions"
def TJ3 : u_T := fun k => match k with
  | _ => ("", "", "", false)
def tyJ3 : Nat → FieldType := fun k => match k with
  | _ => .int
abbrev wsJ30 : List Cond := u_ws RJ3 TJ3 0
theorem nmJ3 : ∀ a, a < 0 → ∀ b, b < 0 → a ≠ b → (TJ3 a).2.1 ≠ (TJ3 b).2.1 := by decide +kernel
theorem tyJ3_ok : ∀ k, k < 0 → parseFieldDescriptor (TJ3 k).2.2.1 = some (tyJ3 k) := by decide +kernel
abbrev cJ3_checkIndex_8e157 : ByteArray := prog_21_method_11_code
def yJ3_checkIndex_8e157 : MethodName := ⟨RJ3, "checkIndex", "(IILjava/util/function/BiFunction;)I"⟩
def RL : String := "StemRulesLaw"
abbrev cL_law : ByteArray := code
abbrev vwCl : List vw_C := [(RX0, TX0, 6), (RX1, TX1, 6), (RX3, TX3, 6), (RX5, TX5, 2), (RX6, TX6, 4), (RX8, TX8, 2), (RX9, TX9, 6), (RX10, TX10, 5), (RX11, TX11, 9), (RX12, TX12, 33)]
end
section
def ev_shs : List ((Nat × List (Option Nat)) ⊕ (Nat × Nat)) := [
  .inl (8, [some 1001, some 1003, some 1008, some 1010, some 1012, some 1018, some 1023, some 1027, some 1030]),
  .inl (5, [some 1002, none]),
  .inr (1, 400),
  .inl (7, [some 1004, some 1005, some 1006, some 1007, none]),
  .inr (1, 3600),
  .inr (0, 150),
  .inr (0, 150),
  .inr (2, 450),
  .inl (3, [some 1009, none]),
  .inr (1, 24),
  .inl (3, [some 1011, none]),
  .inr (1, 24),
  .inl (2, [some 1013, some 1014, some 1015, some 1016, some 1017, none]),
  .inr (0, 40),
  .inr (2, 40),
  .inr (0, 40),
  .inr (0, 40),
  .inr (2, 40),
  .inl (0, [some 1019, some 1020, some 1021, none, some 1022, none]),
  .inr (2, 20),
  .inr (0, 20),
  .inr (0, 20),
  .inr (0, 21),
  .inl (4, [none, some 1024, some 1025, some 1026]),
  .inr (0, 25),
  .inr (0, 25),
  .inr (0, 25),
  .inl (1, [some 1028, none, none, none, none, none]),
  .inl (3, [some 1029, none]),
  .inr (1, 24),
  .inl (6, [some 1031, none, none, some 1032, none, none]),
  .inr (0, 300),
  .inr (0, 300),
  .inl (9, [some 1034, none, some 1035, none, some 1036, some 1037, none, some 1038, some 1039, some 1040, some 1041, some 1042, some 1043, some 1044, none, some 1045, some 1046, some 1047, none, none, some 1048, none, some 1049, some 1050, some 1051, some 1052, some 1053, none, some 1054, none, none, some 1055, some 1056]),
  .inr (0, 400),
  .inr (0, 64),
  .inr (0, 3600),
  .inr (0, 150),
  .inr (0, 150),
  .inr (0, 150),
  .inr (0, 40),
  .inr (2, 40),
  .inr (0, 40),
  .inr (0, 40),
  .inr (2, 40),
  .inr (2, 20),
  .inr (0, 20),
  .inr (0, 20),
  .inr (0, 80),
  .inr (0, 24),
  .inr (0, 25),
  .inr (0, 25),
  .inr (0, 25),
  .inr (0, 300),
  .inr (0, 300),
  .inr (0, 400),
  .inr (0, 400)]
/-- the fields that hold references, in the order in which the constructors lay them -/
def ev_refs : List (Nat × Nat) := [(1001, 0), (1000, 0), (1003, 0), (1003, 1), (1003, 2), (1003, 3), (1000, 1), (1008, 0), (1000, 2), (1010, 0), (1000, 3), (1012, 0), (1012, 1), (1012, 2), (1012, 3), (1012, 4), (1000, 4), (1018, 0), (1018, 1), (1018, 2), (1018, 4), (1000, 5), (1023, 1), (1023, 2), (1023, 3), (1000, 6), (1028, 0), (1027, 0), (1000, 7), (1030, 0), (1030, 3), (1000, 8), (1033, 0), (1033, 2), (1033, 4), (1033, 5), (1033, 7), (1033, 8), (1033, 9), (1033, 10), (1033, 11), (1033, 12), (1033, 13), (1033, 15), (1033, 16), (1033, 17), (1033, 20), (1033, 22), (1033, 23), (1033, 24), (1033, 25), (1033, 26), (1033, 28), (1033, 31), (1033, 32)]
def ev_nr : Nat := 55
def ev_txs : List (List Int32) := [
  [105, 101, 115],
  [101, 105, 101, 115],
  [97, 105, 101, 115],
  [121],
  [101, 115],
  [97, 101, 115],
  [101, 101, 115],
  [111, 101, 115],
  [101],
  [115],
  [117, 115],
  [115, 115],
  [],
  [108, 108],
  [97, 116],
  [97, 116, 101],
  [98, 108],
  [98, 108, 101],
  [105, 122],
  [105, 122, 101],
  [109, 97, 99],
  [109, 99, 99],
  [107, 110],
  [110, 110],
  [107],
  [99],
  [112, 104],
  [102, 102],
  [112, 102],
  [115, 99, 104],
  [115, 115, 115],
  [101, 101],
  [121],
  [105, 101],
  [100, 116],
  [100],
  [114, 116],
  [114, 100],
  [110, 116],
  [110, 100],
  [101, 118],
  [97, 102],
  [113],
  [103],
  [122],
  [115],
  [109],
  [110],
  [],
  [97, 121],
  [97],
  [101, 100],
  [],
  [105, 110, 103],
  [115, 115, 101, 115],
  [115, 115],
  [105, 101, 115],
  [105],
  [115],
  [101, 101, 100],
  [101, 101],
  [97, 116, 105, 111, 110, 97, 108],
  [97, 116, 101],
  [116, 105, 111, 110, 97, 108],
  [116, 105, 111, 110],
  [101, 110, 99, 105],
  [101, 110, 99, 101],
  [97, 110, 99, 105],
  [97, 110, 99, 101],
  [105, 122, 101, 114],
  [105, 122, 101],
  [97, 98, 108, 105],
  [97, 98, 108, 101],
  [97, 108, 108, 105],
  [97, 108],
  [101, 110, 116, 108, 105],
  [101, 110, 116],
  [101, 108, 105],
  [101],
  [111, 117, 115, 108, 105],
  [111, 117, 115],
  [105, 122, 97, 116, 105, 111, 110],
  [97, 116, 105, 111, 110],
  [97, 116, 111, 114],
  [97, 108, 105, 115, 109],
  [105, 118, 101, 110, 101, 115, 115],
  [105, 118, 101],
  [102, 117, 108, 110, 101, 115, 115],
  [102, 117, 108],
  [111, 117, 115, 110, 101, 115, 115],
  [97, 108, 105, 116, 105],
  [105, 118, 105, 116, 105],
  [98, 105, 108, 105, 116, 105],
  [98, 108, 101],
  [105, 99, 97, 116, 101],
  [105, 99],
  [97, 116, 105, 118, 101],
  [97, 108, 105, 122, 101],
  [105, 99, 105, 116, 105],
  [105, 99, 97, 108],
  [110, 101, 115, 115],
  [101, 114],
  [105, 98, 108, 101],
  [97, 110, 116],
  [101, 109, 101, 110, 116],
  [109, 101, 110, 116],
  [105, 111, 110],
  [111, 117],
  [105, 115, 109],
  [105, 116, 105]]
def ev_strs : List (String × Nat × String) := [
  ("StemRules", 221, "ies"),
  ("StemRules", 227, "eies"),
  ("StemRules", 229, "aies"),
  ("StemRules", 231, "y"),
  ("StemRules", 237, "es"),
  ("StemRules", 239, "aes"),
  ("StemRules", 241, "ees"),
  ("StemRules", 243, "oes"),
  ("StemRules", 245, "e"),
  ("StemRules", 247, "s"),
  ("StemRules", 249, "us"),
  ("StemRules", 251, "ss"),
  ("StemRules", 253, ""),
  ("StemRules$Porter", 134, "ll"),
  ("StemRules$Porter", 108, "at"),
  ("StemRules$Porter", 109, "ate"),
  ("StemRules$Porter", 111, "bl"),
  ("StemRules$Porter", 113, "ble"),
  ("StemRules$Porter", 115, "iz"),
  ("StemRules$Porter", 117, "ize"),
  ("StemRules$Keys", 50, "mac"),
  ("StemRules$Keys", 52, "mcc"),
  ("StemRules$Keys", 58, "kn"),
  ("StemRules$Keys", 60, "nn"),
  ("StemRules$Keys", 62, "k"),
  ("StemRules$Keys", 64, "c"),
  ("StemRules$Keys", 66, "ph"),
  ("StemRules$Keys", 68, "ff"),
  ("StemRules$Keys", 70, "pf"),
  ("StemRules$Keys", 72, "sch"),
  ("StemRules$Keys", 74, "sss"),
  ("StemRules$Keys", 76, "ee"),
  ("StemRules$Keys", 78, "y"),
  ("StemRules$Keys", 84, "ie"),
  ("StemRules$Keys", 86, "dt"),
  ("StemRules$Keys", 88, "d"),
  ("StemRules$Keys", 90, "rt"),
  ("StemRules$Keys", 92, "rd"),
  ("StemRules$Keys", 94, "nt"),
  ("StemRules$Keys", 96, "nd"),
  ("StemRules$Keys", 98, "ev"),
  ("StemRules$Keys", 100, "af"),
  ("StemRules$Keys", 116, "q"),
  ("StemRules$Keys", 118, "g"),
  ("StemRules$Keys", 120, "z"),
  ("StemRules$Keys", 122, "s"),
  ("StemRules$Keys", 124, "m"),
  ("StemRules$Keys", 126, "n"),
  ("StemRules$Keys", 128, ""),
  ("StemRules$Keys", 130, "ay"),
  ("StemRules$Keys", 132, "a"),
  ("StemRules$Ending", 226, "ed"),
  ("StemRules$Ending", 218, ""),
  ("StemRules$Ending", 229, "ing"),
  ("StemRules$Ending", 202, "sses"),
  ("StemRules$Ending", 204, "ss"),
  ("StemRules$Ending", 210, "ies"),
  ("StemRules$Ending", 212, "i"),
  ("StemRules$Ending", 216, "s"),
  ("StemRules$Ending", 221, "eed"),
  ("StemRules$Ending", 223, "ee"),
  ("StemRules$Ending", 232, "ational"),
  ("StemRules$Ending", 234, "ate"),
  ("StemRules$Ending", 237, "tional"),
  ("StemRules$Ending", 239, "tion"),
  ("StemRules$Ending", 242, "enci"),
  ("StemRules$Ending", 244, "ence"),
  ("StemRules$Ending", 247, "anci"),
  ("StemRules$Ending", 249, "ance"),
  ("StemRules$Ending", 252, "izer"),
  ("StemRules$Ending", 254, "ize"),
  ("StemRules$Ending", 257, "abli"),
  ("StemRules$Ending", 259, "able"),
  ("StemRules$Ending", 262, "alli"),
  ("StemRules$Ending", 264, "al"),
  ("StemRules$Ending", 267, "entli"),
  ("StemRules$Ending", 269, "ent"),
  ("StemRules$Ending", 272, "eli"),
  ("StemRules$Ending", 274, "e"),
  ("StemRules$Ending", 277, "ousli"),
  ("StemRules$Ending", 279, "ous"),
  ("StemRules$Ending", 282, "ization"),
  ("StemRules$Ending", 285, "ation"),
  ("StemRules$Ending", 288, "ator"),
  ("StemRules$Ending", 291, "alism"),
  ("StemRules$Ending", 294, "iveness"),
  ("StemRules$Ending", 296, "ive"),
  ("StemRules$Ending", 299, "fulness"),
  ("StemRules$Ending", 301, "ful"),
  ("StemRules$Ending", 304, "ousness"),
  ("StemRules$Ending", 307, "aliti"),
  ("StemRules$Ending", 310, "iviti"),
  ("StemRules$Ending", 313, "biliti"),
  ("StemRules$Ending", 315, "ble"),
  ("StemRules$Ending", 318, "icate"),
  ("StemRules$Ending", 320, "ic"),
  ("StemRules$Ending", 323, "ative"),
  ("StemRules$Ending", 326, "alize"),
  ("StemRules$Ending", 329, "iciti"),
  ("StemRules$Ending", 332, "ical"),
  ("StemRules$Ending", 336, "ness"),
  ("StemRules$Ending", 342, "er"),
  ("StemRules$Ending", 347, "ible"),
  ("StemRules$Ending", 350, "ant"),
  ("StemRules$Ending", 353, "ement"),
  ("StemRules$Ending", 356, "ment"),
  ("StemRules$Ending", 360, "ion"),
  ("StemRules$Ending", 363, "ou"),
  ("StemRules$Ending", 366, "ism"),
  ("StemRules$Ending", 370, "iti")]
/-- the constants of Ending: stage, need, the texts has and becomes by their numbers -/
def ev_ens : List (Int32 × Int32 × Nat × Nat) := [
  (0, 0, 54, 55),
  (0, 0, 56, 57),
  (0, 0, 55, 55),
  (0, 0, 58, 52),
  (1, 1, 59, 60),
  (1, 3, 51, 52),
  (1, 3, 53, 52),
  (3, 1, 61, 62),
  (3, 1, 63, 64),
  (3, 1, 65, 66),
  (3, 1, 67, 68),
  (3, 1, 69, 70),
  (3, 1, 71, 72),
  (3, 1, 73, 74),
  (3, 1, 75, 76),
  (3, 1, 77, 78),
  (3, 1, 79, 80),
  (3, 1, 81, 70),
  (3, 1, 82, 62),
  (3, 1, 83, 62),
  (3, 1, 84, 74),
  (3, 1, 85, 86),
  (3, 1, 87, 88),
  (3, 1, 89, 80),
  (3, 1, 90, 74),
  (3, 1, 91, 86),
  (3, 1, 92, 93),
  (4, 1, 94, 95),
  (4, 1, 96, 52),
  (4, 1, 97, 74),
  (4, 1, 98, 95),
  (4, 1, 99, 95),
  (4, 1, 88, 52),
  (4, 1, 100, 52),
  (5, 2, 74, 52),
  (5, 2, 68, 52),
  (5, 2, 66, 52),
  (5, 2, 101, 52),
  (5, 2, 95, 52),
  (5, 2, 72, 52),
  (5, 2, 102, 52),
  (5, 2, 103, 52),
  (5, 2, 104, 52),
  (5, 2, 105, 52),
  (5, 2, 76, 52),
  (5, 4, 106, 52),
  (5, 2, 107, 52),
  (5, 2, 108, 52),
  (5, 2, 62, 52),
  (5, 2, 109, 52),
  (5, 2, 80, 52),
  (5, 2, 86, 52),
  (5, 2, 70, 52),
  (6, 5, 78, 52)]
def ev_enames : List String := ["SSES", "IES", "SS", "S", "EED", "ED", "ING", "ATIONAL", "TIONAL", "ENCI", "ANCI", "IZER", "ABLI", "ALLI", "ENTLI", "ELI", "OUSLI", "IZATION", "ATION", "ATOR", "ALISM", "IVENESS", "FULNESS", "OUSNESS", "ALITI", "IVITI", "BILITI", "ICATE", "ATIVE", "ALIZE", "ICITI", "ICAL", "FUL", "NESS", "AL", "ANCE", "ENCE", "ER", "IC", "ABLE", "IBLE", "ANT", "EMENT", "MENT", "ENT", "ION", "OU", "ISM", "ATE", "ITI", "OUS", "IVE", "IZE", "E"]
def ev_figs : List Int32 := [48, 49, 50, 51, 48, 49, 50, 48, 48, 50, 50, 52, 53, 53, 48, 49, 50, 54, 50, 51, 48, 49, 48, 50, 48, 50]
/-- statics: class, name, descriptor, what it holds -/
def ev_sts : List (String × String × String × Value) := [
  ("StemRules$Keys", "FIGURES", "[C", .ref 500),
  ("StemRules$Ending", "ED", "LStemRules$Ending;", .ref 405),
  ("StemRules$Ending", "ING", "LStemRules$Ending;", .ref 406),
  ("StemRules$Porter", "ENDINGS", "[LStemRules$Ending;", .ref 501),
  ("java/lang/String", "COMPACT_STRINGS", "Z", .int 1),
  ("jdk/internal/util/Preconditions", "SIOOBE_FORMATTER", "Ljava/util/function/BiFunction;", .ref 503)]
/-- 0: StemRules$Bases.<init>()V -/
def ev_c0 : List (Option (Instr × Nat × Value)) := [some (.aload_n 0, 1, .null), some (.invokespecial 3, 3, .null), none, none, some (.aload_n 0, 1, .null), some (.bipush 20, 2, .null), none, some (.newarray .boolean, 2, .null), none, some (.putfield 9, 3, .ref 0), none, none, some (.aload_n 0, 1, .null), some (.bipush 20, 2, .null), none, some (.newarray .int, 2, .null), none, some (.putfield 15, 3, .ref 1), none, none, some (.aload_n 0, 1, .null), some (.bipush 20, 2, .null), none, some (.newarray .int, 2, .null), none, some (.putfield 19, 3, .ref 2), none, none, some (.aload_n 0, 1, .null), some (.bipush 21, 2, .null), none, some (.newarray .int, 2, .null), none, some (.putfield 22, 3, .ref 4), none, none, some (.return_, 1, .null)]
/-- 1: StemRules$Bases.count()I -/
def ev_c1 : List (Option (Instr × Nat × Value)) := [some (.aload_n 0, 1, .null), some (.getfield 25, 3, .ref 3), none, none, some (.ireturn, 1, .null)]
/-- 2: StemRules$Bases.addAffix(ZII)I -/
def ev_c2 : List (Option (Instr × Nat × Value)) := [some (.aload_n 0, 1, .null), some (.getfield 25, 3, .ref 3), none, none, some (.bipush 20, 2, .null), none, some (.if_icmp .lt 6, 3, .ref 12), none, none, some (.bipush (-4), 2, .null), none, some (.ireturn, 1, .null), some (.aload_n 0, 1, .null), some (.getfield 9, 3, .ref 0), none, none, some (.aload_n 0, 1, .null), some (.getfield 25, 3, .ref 3), none, none, some (.iload_n 1, 1, .null), some (.bastore, 1, .null), some (.aload_n 0, 1, .null), some (.getfield 15, 3, .ref 1), none, none, some (.aload_n 0, 1, .null), some (.getfield 25, 3, .ref 3), none, none, some (.iload_n 2, 1, .null), some (.iastore, 1, .null), some (.aload_n 0, 1, .null), some (.getfield 19, 3, .ref 2), none, none, some (.aload_n 0, 1, .null), some (.getfield 25, 3, .ref 3), none, none, some (.iload_n 3, 1, .null), some (.iastore, 1, .null), some (.aload_n 0, 1, .null), some (.dup, 1, .null), some (.getfield 25, 3, .ref 3), none, none, some (.iconst 1, 1, .null), some (.iadd, 1, .null), some (.putfield 25, 3, .ref 3), none, none, some (.aload_n 0, 1, .null), some (.getfield 25, 3, .ref 3), none, none, some (.iconst 1, 1, .null), some (.isub, 1, .null), some (.ireturn, 1, .null)]
/-- 3: StemRules$Bases.collect(ILStemRules$Words;LStemRules$Letters;)V -/
def ev_c3 : List (Option (Instr × Nat × Value)) := [some (.aload_n 0, 1, .null), some (.iconst 0, 1, .null), some (.putfield 29, 3, .ref 5), none, none, some (.aload_n 0, 1, .null), some (.iload_n 1, 1, .null), some (.aload_n 2, 1, .null), some (.invokevirtual 32, 3, .ref 5), none, none, some (.iconst 0, 1, .null), some (.istore 4, 2, .null), none, some (.iload 4, 2, .null), none, some (.aload_n 0, 1, .null), some (.getfield 25, 3, .ref 3), none, none, some (.if_icmp .ge 31, 3, .ref 51), none, none, some (.aload_n 0, 1, .null), some (.iload 4, 2, .null), none, some (.iload_n 1, 1, .null), some (.aload_n 2, 1, .null), some (.aload_n 3, 1, .null), some (.invokevirtual 36, 3, .ref 6), none, none, some (.ifCond .eq 13, 3, .ref 45), none, none, some (.aload_n 0, 1, .null), some (.aload_n 2, 1, .null), some (.aload_n 3, 1, .null), some (.invokevirtual 40, 3, .ref 85), none, none, some (.aload_n 2, 1, .null), some (.invokevirtual 32, 3, .ref 5), none, none, some (.iinc 4 1, 3, .null), none, none, some (.goto (-34), 3, .ref 14), none, none, some (.return_, 1, .null)]
/-- 4: StemRules$Bases.found(I)I -/
def ev_c4 : List (Option (Instr × Nat × Value)) := [some (.iload_n 1, 1, .null), some (.ifCond .lt 20, 3, .ref 21), none, none, some (.iload_n 1, 1, .null), some (.aload_n 0, 1, .null), some (.getfield 29, 3, .ref 5), none, none, some (.if_icmp .ge 12, 3, .ref 21), none, none, some (.aload_n 0, 1, .null), some (.getfield 22, 3, .ref 4), none, none, some (.iload_n 1, 1, .null), some (.iaload, 1, .null), some (.goto 5, 3, .ref 23), none, none, some (.bipush (-5), 2, .null), none, some (.ireturn, 1, .null)]
/-- 5: StemRules$Bases.note(ILStemRules$Words;)V -/
def ev_c5 : List (Option (Instr × Nat × Value)) := [some (.aload_n 2, 1, .null), some (.iconst 2, 1, .null), some (.iload_n 1, 1, .null), some (.invokevirtual 46, 3, .ref 88), none, none, some (.ifCond .ne 4, 3, .ref 10), none, none, some (.return_, 1, .null), some (.iconst 0, 1, .null), some (.istore_n 3, 1, .null), some (.iload_n 3, 1, .null), some (.aload_n 0, 1, .null), some (.getfield 29, 3, .ref 5), none, none, some (.if_icmp .ge 20, 3, .ref 37), none, none, some (.aload_n 0, 1, .null), some (.getfield 22, 3, .ref 4), none, none, some (.iload_n 3, 1, .null), some (.iaload, 1, .null), some (.iload_n 1, 1, .null), some (.if_icmp .ne 4, 3, .ref 31), none, none, some (.return_, 1, .null), some (.iinc 3 1, 3, .null), none, none, some (.goto (-22), 3, .ref 12), none, none, some (.aload_n 0, 1, .null), some (.getfield 29, 3, .ref 5), none, none, some (.aload_n 0, 1, .null), some (.getfield 22, 3, .ref 4), none, none, some (.arraylength, 1, .null), some (.if_icmp .ge 23, 3, .ref 69), none, none, some (.aload_n 0, 1, .null), some (.getfield 22, 3, .ref 4), none, none, some (.aload_n 0, 1, .null), some (.getfield 29, 3, .ref 5), none, none, some (.iload_n 1, 1, .null), some (.iastore, 1, .null), some (.aload_n 0, 1, .null), some (.dup, 1, .null), some (.getfield 29, 3, .ref 5), none, none, some (.iconst 1, 1, .null), some (.iadd, 1, .null), some (.putfield 29, 3, .ref 5), none, none, some (.return_, 1, .null)]
/-- 6: StemRules$Bases.change(IILStemRules$Words;LStemRules$Letters;)Z -/
def ev_c6 : List (Option (Instr × Nat × Value)) := [some (.iload_n 1, 1, .null), some (.ifCond .lt 11, 3, .ref 12), none, none, some (.iload_n 1, 1, .null), some (.aload_n 0, 1, .null), some (.getfield 25, 3, .ref 3), none, none, some (.if_icmp .lt 5, 3, .ref 14), none, none, some (.iconst 0, 1, .null), some (.ireturn, 1, .null), some (.aload_n 3, 1, .null), some (.iload_n 2, 1, .null), some (.aload 4, 2, .null), none, some (.invokevirtual 50, 3, .ref 81), none, none, some (.aload 4, 2, .null), none, some (.invokevirtual 54, 3, .ref 30), none, none, some (.aload_n 3, 1, .null), some (.aload_n 0, 1, .null), some (.getfield 15, 3, .ref 1), none, none, some (.iload_n 1, 1, .null), some (.iaload, 1, .null), some (.invokevirtual 60, 3, .ref 80), none, none, some (.isub, 1, .null), some (.istore 5, 2, .null), none, some (.iload 5, 2, .null), none, some (.iconst 1, 1, .null), some (.if_icmp .lt 21, 3, .ref 63), none, none, some (.iload 5, 2, .null), none, some (.aload_n 3, 1, .null), some (.aload_n 0, 1, .null), some (.getfield 19, 3, .ref 2), none, none, some (.iload_n 1, 1, .null), some (.iaload, 1, .null), some (.invokevirtual 60, 3, .ref 80), none, none, some (.iadd, 1, .null), some (.bipush 24, 2, .null), none, some (.if_icmp .le 5, 3, .ref 65), none, none, some (.iconst 0, 1, .null), some (.ireturn, 1, .null), some (.aload_n 3, 1, .null), some (.aload_n 0, 1, .null), some (.getfield 15, 3, .ref 1), none, none, some (.iload_n 1, 1, .null), some (.iaload, 1, .null), some (.aload 4, 2, .null), none, some (.aload_n 0, 1, .null), some (.getfield 9, 3, .ref 0), none, none, some (.iload_n 1, 1, .null), some (.baload, 1, .null), some (.ifCond .eq 8, 3, .ref 88), none, none, some (.iload 5, 2, .null), none, some (.goto 4, 3, .ref 89), none, none, some (.iconst 0, 1, .null), some (.invokevirtual 64, 3, .ref 83), none, none, some (.ifCond .ne 5, 3, .ref 97), none, none, some (.iconst 0, 1, .null), some (.ireturn, 1, .null), some (.aload_n 0, 1, .null), some (.getfield 9, 3, .ref 0), none, none, some (.iload_n 1, 1, .null), some (.baload, 1, .null), some (.ifCond .eq 26, 3, .ref 129), none, none, some (.aload 4, 2, .null), none, some (.iload 5, 2, .null), none, some (.invokevirtual 68, 3, .ref 34), none, none, some (.aload_n 3, 1, .null), some (.aload_n 0, 1, .null), some (.getfield 19, 3, .ref 2), none, none, some (.iload_n 1, 1, .null), some (.iaload, 1, .null), some (.iconst 0, 1, .null), some (.aload 4, 2, .null), none, some (.invokevirtual 72, 3, .ref 82), none, none, some (.goto 32, 3, .ref 158), none, none, some (.aload_n 3, 1, .null), some (.aload_n 0, 1, .null), some (.getfield 19, 3, .ref 2), none, none, some (.iload_n 1, 1, .null), some (.iaload, 1, .null), some (.aload 4, 2, .null), none, some (.invokevirtual 50, 3, .ref 81), none, none, some (.aload_n 3, 1, .null), some (.iload_n 2, 1, .null), some (.aload_n 3, 1, .null), some (.aload_n 0, 1, .null), some (.getfield 15, 3, .ref 1), none, none, some (.iload_n 1, 1, .null), some (.iaload, 1, .null), some (.invokevirtual 60, 3, .ref 80), none, none, some (.aload 4, 2, .null), none, some (.invokevirtual 72, 3, .ref 82), none, none, some (.iconst 1, 1, .null), some (.ireturn, 1, .null)]
/-- 7: StemRules$Cutter.<init>()V -/
def ev_c7 : List (Option (Instr × Nat × Value)) := [some (.aload_n 0, 1, .null), some (.invokespecial 3, 3, .null), none, none, some (.aload_n 0, 1, .null), some (.new 9, 3, .ref 3), none, none, some (.dup, 1, .null), some (.invokespecial 11, 3, .ref 100029), none, none, some (.putfield 12, 3, .ref 64), none, none, some (.return_, 1, .null)]
/-- 8: StemRules$Cutter.piece()LStemRules$Letters; -/
def ev_c8 : List (Option (Instr × Nat × Value)) := [some (.aload_n 0, 1, .null), some (.getfield 12, 3, .ref 64), none, none, some (.areturn, 1, .null)]
/-- 9: StemRules$Cutter.place()I -/
def ev_c9 : List (Option (Instr × Nat × Value)) := [some (.aload_n 0, 1, .null), some (.getfield 18, 3, .ref 65), none, none, some (.ireturn, 1, .null)]
/-- 10: StemRules$Cutter.bytes()I -/
def ev_c10 : List (Option (Instr × Nat × Value)) := [some (.aload_n 0, 1, .null), some (.getfield 22, 3, .ref 66), none, none, some (.ireturn, 1, .null)]
/-- 11: StemRules$Cutter.begin()V -/
def ev_c11 : List (Option (Instr × Nat × Value)) := [some (.aload_n 0, 1, .null), some (.iconst 0, 1, .null), some (.putfield 25, 3, .ref 67), none, none, some (.aload_n 0, 1, .null), some (.iconst 0, 1, .null), some (.putfield 28, 3, .ref 68), none, none, some (.aload_n 0, 1, .null), some (.iconst 0, 1, .null), some (.putfield 31, 3, .ref 69), none, none, some (.return_, 1, .null)]
/-- 12: StemRules$Cutter.findPiece(LStemRules$Tape;)Z -/
def ev_c12 : List (Option (Instr × Nat × Value)) := [some (.aload_n 0, 1, .null), some (.getfield 25, 3, .ref 67), none, none, some (.aload_n 0, 1, .null), some (.getfield 28, 3, .ref 68), none, none, some (.if_icmp .lt 13, 3, .ref 21), none, none, some (.aload_n 0, 1, .null), some (.aload_n 1, 1, .null), some (.invokevirtual 34, 3, .ref 13), none, none, some (.ifCond .ne 5, 3, .ref 21), none, none, some (.iconst 0, 1, .null), some (.ireturn, 1, .null), some (.aload_n 0, 1, .null), some (.aload_n 0, 1, .null), some (.getfield 25, 3, .ref 67), none, none, some (.putfield 18, 3, .ref 65), none, none, some (.aload_n 0, 1, .null), some (.getfield 12, 3, .ref 64), none, none, some (.iconst 0, 1, .null), some (.invokevirtual 38, 3, .ref 34), none, none, some (.aload_n 0, 1, .null), some (.getfield 25, 3, .ref 67), none, none, some (.aload_n 0, 1, .null), some (.getfield 28, 3, .ref 68), none, none, some (.if_icmp .ge 65, 3, .ref 110), none, none, some (.aload_n 0, 1, .null), some (.getfield 12, 3, .ref 64), none, none, some (.invokevirtual 42, 3, .ref 30), none, none, some (.bipush 24, 2, .null), none, some (.if_icmp .lt 14, 3, .ref 71), none, none, some (.aload_n 1, 1, .null), some (.aload_n 0, 1, .null), some (.getfield 25, 3, .ref 67), none, none, some (.invokevirtual 46, 3, .ref 64), none, none, some (.ifCond .ne 42, 3, .ref 110), none, none, some (.aload_n 1, 1, .null), some (.aload_n 0, 1, .null), some (.getfield 25, 3, .ref 67), none, none, some (.invokevirtual 46, 3, .ref 64), none, none, some (.ifCond .eq 18, 3, .ref 97), none, none, some (.aload_n 0, 1, .null), some (.getfield 12, 3, .ref 64), none, none, some (.aload_n 1, 1, .null), some (.aload_n 0, 1, .null), some (.getfield 25, 3, .ref 67), none, none, some (.invokevirtual 46, 3, .ref 64), none, none, some (.invokevirtual 52, 3, .ref 33), none, none, some (.aload_n 0, 1, .null), some (.dup, 1, .null), some (.getfield 25, 3, .ref 67), none, none, some (.iconst 1, 1, .null), some (.iadd, 1, .null), some (.putfield 25, 3, .ref 67), none, none, some (.goto (-70), 3, .ref 37), none, none, some (.aload_n 0, 1, .null), some (.aload_n 0, 1, .null), some (.getfield 25, 3, .ref 67), none, none, some (.aload_n 0, 1, .null), some (.getfield 28, 3, .ref 68), none, none, some (.if_icmp .ge 10, 3, .ref 129), none, none, some (.aload_n 0, 1, .null), some (.getfield 25, 3, .ref 67), none, none, some (.goto 7, 3, .ref 133), none, none, some (.aload_n 0, 1, .null), some (.getfield 31, 3, .ref 69), none, none, some (.aload_n 0, 1, .null), some (.getfield 18, 3, .ref 65), none, none, some (.isub, 1, .null), some (.putfield 22, 3, .ref 66), none, none, some (.iconst 1, 1, .null), some (.ireturn, 1, .null)]
/-- 13: StemRules$Cutter.findLetters(LStemRules$Tape;)Z -/
def ev_c13 : List (Option (Instr × Nat × Value)) := [some (.aload_n 0, 1, .null), some (.aload_n 0, 1, .null), some (.getfield 31, 3, .ref 69), none, none, some (.putfield 25, 3, .ref 67), none, none, some (.aload_n 0, 1, .null), some (.getfield 25, 3, .ref 67), none, none, some (.aload_n 1, 1, .null), some (.invokevirtual 56, 3, .ref 59), none, none, some (.if_icmp .ge 27, 3, .ref 43), none, none, some (.aload_n 1, 1, .null), some (.aload_n 0, 1, .null), some (.getfield 25, 3, .ref 67), none, none, some (.invokevirtual 46, 3, .ref 64), none, none, some (.ifCond .ne 16, 3, .ref 43), none, none, some (.aload_n 0, 1, .null), some (.dup, 1, .null), some (.getfield 25, 3, .ref 67), none, none, some (.iconst 1, 1, .null), some (.iadd, 1, .null), some (.putfield 25, 3, .ref 67), none, none, some (.goto (-32), 3, .ref 8), none, none, some (.aload_n 0, 1, .null), some (.aload_n 0, 1, .null), some (.getfield 25, 3, .ref 67), none, none, some (.putfield 31, 3, .ref 69), none, none, some (.aload_n 0, 1, .null), some (.getfield 31, 3, .ref 69), none, none, some (.aload_n 1, 1, .null), some (.invokevirtual 56, 3, .ref 59), none, none, some (.if_icmp .ge 38, 3, .ref 97), none, none, some (.aload_n 1, 1, .null), some (.aload_n 0, 1, .null), some (.getfield 31, 3, .ref 69), none, none, some (.invokevirtual 46, 3, .ref 64), none, none, some (.ifCond .ne 14, 3, .ref 84), none, none, some (.aload_n 1, 1, .null), some (.aload_n 0, 1, .null), some (.getfield 31, 3, .ref 69), none, none, some (.invokevirtual 57, 3, .ref 65), none, none, some (.ifCond .eq 16, 3, .ref 97), none, none, some (.aload_n 0, 1, .null), some (.dup, 1, .null), some (.getfield 31, 3, .ref 69), none, none, some (.iconst 1, 1, .null), some (.iadd, 1, .null), some (.putfield 31, 3, .ref 69), none, none, some (.goto (-43), 3, .ref 51), none, none, some (.aload_n 0, 1, .null), some (.getfield 31, 3, .ref 69), none, none, some (.iconst 2, 1, .null), some (.isub, 1, .null), some (.aload_n 0, 1, .null), some (.getfield 25, 3, .ref 67), none, none, some (.if_icmp .le 35, 3, .ref 142), none, none, some (.aload_n 1, 1, .null), some (.aload_n 0, 1, .null), some (.getfield 31, 3, .ref 69), none, none, some (.iconst 2, 1, .null), some (.isub, 1, .null), some (.invokevirtual 57, 3, .ref 65), none, none, some (.ifCond .eq 22, 3, .ref 142), none, none, some (.aload_n 1, 1, .null), some (.aload_n 0, 1, .null), some (.getfield 31, 3, .ref 69), none, none, some (.iconst 1, 1, .null), some (.isub, 1, .null), some (.invokevirtual 46, 3, .ref 64), none, none, some (.bipush 115, 2, .null), none, some (.if_icmp .ne 7, 3, .ref 142), none, none, some (.iconst 1, 1, .null), some (.goto 4, 3, .ref 143), none, none, some (.iconst 0, 1, .null), some (.istore_n 2, 1, .null), some (.aload_n 0, 1, .null), some (.iload_n 2, 1, .null), some (.ifCond .eq 12, 3, .ref 158), none, none, some (.aload_n 0, 1, .null), some (.getfield 31, 3, .ref 69), none, none, some (.iconst 2, 1, .null), some (.isub, 1, .null), some (.goto 7, 3, .ref 162), none, none, some (.aload_n 0, 1, .null), some (.getfield 31, 3, .ref 69), none, none, some (.putfield 28, 3, .ref 68), none, none, some (.aload_n 0, 1, .null), some (.getfield 25, 3, .ref 67), none, none, some (.aload_n 0, 1, .null), some (.getfield 31, 3, .ref 69), none, none, some (.if_icmp .ge 7, 3, .ref 180), none, none, some (.iconst 1, 1, .null), some (.goto 4, 3, .ref 181), none, none, some (.iconst 0, 1, .null), some (.ireturn, 1, .null)]
/-- 14: StemRules$Husk.<init>()V -/
def ev_c14 : List (Option (Instr × Nat × Value)) := [some (.aload_n 0, 1, .null), some (.invokespecial 3, 3, .null), none, none, some (.aload_n 0, 1, .null), some (.bipush 40, 2, .null), none, some (.newarray .int, 2, .null), none, some (.putfield 9, 3, .ref 128), none, none, some (.aload_n 0, 1, .null), some (.bipush 40, 2, .null), none, some (.newarray .boolean, 2, .null), none, some (.putfield 15, 3, .ref 129), none, none, some (.aload_n 0, 1, .null), some (.bipush 40, 2, .null), none, some (.newarray .int, 2, .null), none, some (.putfield 19, 3, .ref 130), none, none, some (.aload_n 0, 1, .null), some (.bipush 40, 2, .null), none, some (.newarray .int, 2, .null), none, some (.putfield 22, 3, .ref 131), none, none, some (.aload_n 0, 1, .null), some (.bipush 40, 2, .null), none, some (.newarray .boolean, 2, .null), none, some (.putfield 25, 3, .ref 132), none, none, some (.return_, 1, .null)]
/-- 15: StemRules$Husk.count()I -/
def ev_c15 : List (Option (Instr × Nat × Value)) := [some (.aload_n 0, 1, .null), some (.getfield 28, 3, .ref 133), none, none, some (.ireturn, 1, .null)]
/-- 16: StemRules$Husk.dropRows()V -/
def ev_c16 : List (Option (Instr × Nat × Value)) := [some (.aload_n 0, 1, .null), some (.iconst 0, 1, .null), some (.putfield 28, 3, .ref 133), none, none, some (.return_, 1, .null)]
/-- 17: StemRules$Husk.addRow(IZIIZ)I -/
def ev_c17 : List (Option (Instr × Nat × Value)) := [some (.aload_n 0, 1, .null), some (.getfield 28, 3, .ref 133), none, none, some (.bipush 40, 2, .null), none, some (.if_icmp .lt 6, 3, .ref 12), none, none, some (.bipush (-4), 2, .null), none, some (.ireturn, 1, .null), some (.aload_n 0, 1, .null), some (.getfield 9, 3, .ref 128), none, none, some (.aload_n 0, 1, .null), some (.getfield 28, 3, .ref 133), none, none, some (.iload_n 1, 1, .null), some (.iastore, 1, .null), some (.aload_n 0, 1, .null), some (.getfield 15, 3, .ref 129), none, none, some (.aload_n 0, 1, .null), some (.getfield 28, 3, .ref 133), none, none, some (.iload_n 2, 1, .null), some (.bastore, 1, .null), some (.aload_n 0, 1, .null), some (.getfield 19, 3, .ref 130), none, none, some (.aload_n 0, 1, .null), some (.getfield 28, 3, .ref 133), none, none, some (.iload_n 3, 1, .null), some (.iastore, 1, .null), some (.aload_n 0, 1, .null), some (.getfield 22, 3, .ref 131), none, none, some (.aload_n 0, 1, .null), some (.getfield 28, 3, .ref 133), none, none, some (.iload 4, 2, .null), none, some (.iastore, 1, .null), some (.aload_n 0, 1, .null), some (.getfield 25, 3, .ref 132), none, none, some (.aload_n 0, 1, .null), some (.getfield 28, 3, .ref 133), none, none, some (.iload 5, 2, .null), none, some (.bastore, 1, .null), some (.aload_n 0, 1, .null), some (.dup, 1, .null), some (.getfield 28, 3, .ref 133), none, none, some (.iconst 1, 1, .null), some (.iadd, 1, .null), some (.putfield 28, 3, .ref 133), none, none, some (.aload_n 0, 1, .null), some (.getfield 28, 3, .ref 133), none, none, some (.iconst 1, 1, .null), some (.isub, 1, .null), some (.ireturn, 1, .null)]
/-- 18: StemRules$Husk.run(LStemRules$Letters;LStemRules$Words;)V -/
def ev_c18 : List (Option (Instr × Nat × Value)) := [some (.iconst 0, 1, .null), some (.istore_n 3, 1, .null), some (.iload_n 3, 1, .null), some (.bipush 16, 2, .null), none, some (.if_icmp .ge 81, 3, .ref 86), none, none, some (.aload_n 0, 1, .null), some (.aload_n 1, 1, .null), some (.iload_n 3, 1, .null), some (.ifCond .ne 7, 3, .ref 18), none, none, some (.iconst 1, 1, .null), some (.goto 4, 3, .ref 19), none, none, some (.iconst 0, 1, .null), some (.aload_n 2, 1, .null), some (.invokevirtual 32, 3, .ref 19), none, none, some (.istore 4, 2, .null), none, some (.iload 4, 2, .null), none, some (.ifCond .lt 12, 3, .ref 39), none, none, some (.iload 4, 2, .null), none, some (.aload_n 0, 1, .null), some (.getfield 28, 3, .ref 133), none, none, some (.if_icmp .lt 4, 3, .ref 40), none, none, some (.return_, 1, .null), some (.aload_n 1, 1, .null), some (.aload_n 1, 1, .null), some (.invokevirtual 36, 3, .ref 30), none, none, some (.aload_n 0, 1, .null), some (.getfield 19, 3, .ref 130), none, none, some (.iload 4, 2, .null), none, some (.iaload, 1, .null), some (.isub, 1, .null), some (.invokevirtual 42, 3, .ref 34), none, none, some (.aload_n 2, 1, .null), some (.aload_n 0, 1, .null), some (.getfield 22, 3, .ref 131), none, none, some (.iload 4, 2, .null), none, some (.iaload, 1, .null), some (.iconst 0, 1, .null), some (.aload_n 1, 1, .null), some (.invokevirtual 46, 3, .ref 82), none, none, some (.aload_n 0, 1, .null), some (.getfield 25, 3, .ref 132), none, none, some (.iload 4, 2, .null), none, some (.baload, 1, .null), some (.ifCond .ne 4, 3, .ref 80), none, none, some (.return_, 1, .null), some (.iinc 3 1, 3, .null), none, none, some (.goto (-81), 3, .ref 2), none, none, some (.return_, 1, .null)]
/-- 19: StemRules$Husk.findRow(LStemRules$Letters;ZLStemRules$Words;)I -/
def ev_c19 : List (Option (Instr × Nat × Value)) := [some (.iconst 0, 1, .null), some (.istore 4, 2, .null), none, some (.iload 4, 2, .null), none, some (.aload_n 0, 1, .null), some (.getfield 28, 3, .ref 133), none, none, some (.if_icmp .ge 71, 3, .ref 80), none, none, some (.iload_n 2, 1, .null), some (.ifCond .ne 13, 3, .ref 26), none, none, some (.aload_n 0, 1, .null), some (.getfield 15, 3, .ref 129), none, none, some (.iload 4, 2, .null), none, some (.baload, 1, .null), some (.ifCond .ne 51, 3, .ref 74), none, none, some (.aload_n 3, 1, .null), some (.aload_n 0, 1, .null), some (.getfield 9, 3, .ref 128), none, none, some (.iload 4, 2, .null), none, some (.iaload, 1, .null), some (.aload_n 1, 1, .null), some (.invokevirtual 52, 3, .ref 84), none, none, some (.ifCond .eq 36, 3, .ref 74), none, none, some (.aload_n 1, 1, .null), some (.aload_n 1, 1, .null), some (.invokevirtual 36, 3, .ref 30), none, none, some (.aload_n 0, 1, .null), some (.getfield 19, 3, .ref 130), none, none, some (.iload 4, 2, .null), none, some (.iaload, 1, .null), some (.isub, 1, .null), some (.aload_n 3, 1, .null), some (.aload_n 0, 1, .null), some (.getfield 22, 3, .ref 131), none, none, some (.iload 4, 2, .null), none, some (.iaload, 1, .null), some (.invokevirtual 56, 3, .ref 80), none, none, some (.invokestatic 60, 3, .ref 20), none, none, some (.ifCond .eq 6, 3, .ref 74), none, none, some (.iload 4, 2, .null), none, some (.ireturn, 1, .null), some (.iinc 4 1, 3, .null), none, none, some (.goto (-74), 3, .ref 3), none, none, some (.bipush (-5), 2, .null), none, some (.ireturn, 1, .null)]
/-- 20: StemRules$Husk.isGood(LStemRules$Letters;II)Z -/
def ev_c20 : List (Option (Instr × Nat × Value)) := [some (.iload_n 1, 1, .null), some (.iconst 2, 1, .null), some (.if_icmp .lt 11, 3, .ref 13), none, none, some (.iload_n 1, 1, .null), some (.iload_n 2, 1, .null), some (.iadd, 1, .null), some (.bipush 24, 2, .null), none, some (.if_icmp .le 5, 3, .ref 15), none, none, some (.iconst 0, 1, .null), some (.ireturn, 1, .null), some (.aload_n 0, 1, .null), some (.iconst 0, 1, .null), some (.invokevirtual 64, 3, .ref 31), none, none, some (.invokestatic 68, 3, .ref 100117), none, none, some (.ifCond .eq 5, 3, .ref 28), none, none, some (.iconst 1, 1, .null), some (.ireturn, 1, .null), some (.iconst 1, 1, .null), some (.istore_n 3, 1, .null), some (.iload_n 3, 1, .null), some (.iload_n 1, 1, .null), some (.if_icmp .ge 37, 3, .ref 69), none, none, some (.iload_n 1, 1, .null), some (.iconst 3, 1, .null), some (.if_icmp .lt 26, 3, .ref 63), none, none, some (.aload_n 0, 1, .null), some (.iload_n 3, 1, .null), some (.invokevirtual 64, 3, .ref 31), none, none, some (.invokestatic 68, 3, .ref 100117), none, none, some (.ifCond .ne 13, 3, .ref 61), none, none, some (.aload_n 0, 1, .null), some (.iload_n 3, 1, .null), some (.invokevirtual 64, 3, .ref 31), none, none, some (.bipush 121, 2, .null), none, some (.if_icmp .ne 5, 3, .ref 63), none, none, some (.iconst 1, 1, .null), some (.ireturn, 1, .null), some (.iinc 3 1, 3, .null), none, none, some (.goto (-36), 3, .ref 30), none, none, some (.iconst 0, 1, .null), some (.ireturn, 1, .null)]
/-- 21: StemRules$Keys.layFigures(LStemRules$Letters;LStemRules$Letters;)V -/
def ev_c21 : List (Option (Instr × Nat × Value)) := [some (.aload_n 1, 1, .null), some (.iconst 0, 1, .null), some (.invokevirtual 7, 3, .ref 34), none, none, some (.aload_n 1, 1, .null), some (.aload_n 0, 1, .null), some (.iconst 0, 1, .null), some (.invokevirtual 13, 3, .ref 31), none, none, some (.invokevirtual 17, 3, .ref 33), none, none, some (.aload_n 0, 1, .null), some (.iconst 0, 1, .null), some (.invokevirtual 13, 3, .ref 31), none, none, some (.invokestatic 21, 3, .ref 23), none, none, some (.istore_n 2, 1, .null), some (.iconst 1, 1, .null), some (.istore_n 3, 1, .null), some (.iload_n 3, 1, .null), some (.aload_n 0, 1, .null), some (.invokevirtual 27, 3, .ref 30), none, none, some (.if_icmp .ge 59, 3, .ref 89), none, none, some (.aload_n 0, 1, .null), some (.iload_n 3, 1, .null), some (.invokevirtual 13, 3, .ref 31), none, none, some (.istore 4, 2, .null), none, some (.iload 4, 2, .null), none, some (.bipush 104, 2, .null), none, some (.if_icmp .eq 39, 3, .ref 83), none, none, some (.iload 4, 2, .null), none, some (.bipush 119, 2, .null), none, some (.if_icmp .eq 32, 3, .ref 83), none, none, some (.iload 4, 2, .null), none, some (.invokestatic 21, 3, .ref 23), none, none, some (.istore 5, 2, .null), none, some (.iload 5, 2, .null), none, some (.bipush 48, 2, .null), none, some (.if_icmp .eq 15, 3, .ref 80), none, none, some (.iload 5, 2, .null), none, some (.iload_n 2, 1, .null), some (.if_icmp .eq 9, 3, .ref 80), none, none, some (.aload_n 1, 1, .null), some (.iload 5, 2, .null), none, some (.invokevirtual 17, 3, .ref 33), none, none, some (.iload 5, 2, .null), none, some (.istore_n 2, 1, .null), some (.iinc 3 1, 3, .null), none, none, some (.goto (-61), 3, .ref 25), none, none, some (.aload_n 1, 1, .null), some (.iconst 4, 1, .null), some (.invokevirtual 7, 3, .ref 34), none, none, some (.aload_n 1, 1, .null), some (.invokevirtual 27, 3, .ref 30), none, none, some (.istore_n 3, 1, .null), some (.iload_n 3, 1, .null), some (.iconst 4, 1, .null), some (.if_icmp .ge 15, 3, .ref 116), none, none, some (.aload_n 1, 1, .null), some (.bipush 48, 2, .null), none, some (.invokevirtual 17, 3, .ref 33), none, none, some (.iinc 3 1, 3, .null), none, none, some (.goto (-14), 3, .ref 99), none, none, some (.return_, 1, .null)]
/-- 22: StemRules$Keys.laySounds(LStemRules$Letters;LStemRules$Letters;)V -/
def ev_c22 : List (Option (Instr × Nat × Value)) := [some (.aload_n 0, 1, .null), some (.invokestatic 31, 3, .ref 24), none, none, some (.pop, 1, .null), some (.aload_n 0, 1, .null), some (.invokevirtual 27, 3, .ref 30), none, none, some (.iconst 3, 1, .null), some (.if_icmp .lt 8, 3, .ref 18), none, none, some (.aload_n 0, 1, .null), some (.invokestatic 35, 3, .ref 25), none, none, some (.pop, 1, .null), some (.aload_n 1, 1, .null), some (.iconst 0, 1, .null), some (.invokevirtual 7, 3, .ref 34), none, none, some (.aload_n 1, 1, .null), some (.aload_n 0, 1, .null), some (.iconst 0, 1, .null), some (.invokevirtual 13, 3, .ref 31), none, none, some (.invokevirtual 17, 3, .ref 33), none, none, some (.iconst 1, 1, .null), some (.istore_n 2, 1, .null), some (.iload_n 2, 1, .null), some (.aload_n 0, 1, .null), some (.invokevirtual 27, 3, .ref 30), none, none, some (.if_icmp .ge 41, 3, .ref 80), none, none, some (.aload_n 0, 1, .null), some (.iload_n 2, 1, .null), some (.invokestatic 38, 3, .ref 26), none, none, some (.aload_n 0, 1, .null), some (.iload_n 2, 1, .null), some (.invokevirtual 13, 3, .ref 31), none, none, some (.aload_n 1, 1, .null), some (.aload_n 1, 1, .null), some (.invokevirtual 27, 3, .ref 30), none, none, some (.iconst 1, 1, .null), some (.isub, 1, .null), some (.invokevirtual 13, 3, .ref 31), none, none, some (.if_icmp .eq 12, 3, .ref 74), none, none, some (.aload_n 1, 1, .null), some (.aload_n 0, 1, .null), some (.iload_n 2, 1, .null), some (.invokevirtual 13, 3, .ref 31), none, none, some (.invokevirtual 17, 3, .ref 33), none, none, some (.iinc 2 1, 3, .null), none, none, some (.goto (-43), 3, .ref 34), none, none, some (.aload_n 1, 1, .null), some (.invokestatic 42, 3, .ref 28), none, none, some (.aload_n 1, 1, .null), some (.bipush 6, 2, .null), none, some (.invokevirtual 7, 3, .ref 34), none, none, some (.return_, 1, .null)]
/-- 23: StemRules$Keys.figureOf(C)C -/
def ev_c23 : List (Option (Instr × Nat × Value)) := [some (.iload_n 0, 1, .null), some (.bipush 97, 2, .null), none, some (.if_icmp .lt 20, 3, .ref 23), none, none, some (.iload_n 0, 1, .null), some (.bipush 122, 2, .null), none, some (.if_icmp .gt 14, 3, .ref 23), none, none, some (.getstatic 46, 3, .ref 500), none, none, some (.iload_n 0, 1, .null), some (.bipush 97, 2, .null), none, some (.isub, 1, .null), some (.caload, 1, .null), some (.goto 5, 3, .ref 25), none, none, some (.bipush 48, 2, .null), none, some (.ireturn, 1, .null)]
/-- 24: StemRules$Keys.changeBeginning(LStemRules$Letters;)Z -/
def ev_c24 : List (Option (Instr × Nat × Value)) := [some (.aload_n 0, 1, .null), some (.iconst 0, 1, .null), some (.ldc 50, 2, .ref 20), none, some (.ldc 52, 2, .ref 21), none, some (.invokevirtual 54, 3, .ref 37), none, none, some (.ifCond .ne 63, 3, .ref 72), none, none, some (.aload_n 0, 1, .null), some (.iconst 0, 1, .null), some (.ldc 58, 2, .ref 22), none, some (.ldc 60, 2, .ref 23), none, some (.invokevirtual 54, 3, .ref 37), none, none, some (.ifCond .ne 51, 3, .ref 72), none, none, some (.aload_n 0, 1, .null), some (.iconst 0, 1, .null), some (.ldc 62, 2, .ref 24), none, some (.ldc 64, 2, .ref 25), none, some (.invokevirtual 54, 3, .ref 37), none, none, some (.ifCond .ne 39, 3, .ref 72), none, none, some (.aload_n 0, 1, .null), some (.iconst 0, 1, .null), some (.ldc 66, 2, .ref 26), none, some (.ldc 68, 2, .ref 27), none, some (.invokevirtual 54, 3, .ref 37), none, none, some (.ifCond .ne 27, 3, .ref 72), none, none, some (.aload_n 0, 1, .null), some (.iconst 0, 1, .null), some (.ldc 70, 2, .ref 28), none, some (.ldc 68, 2, .ref 27), none, some (.invokevirtual 54, 3, .ref 37), none, none, some (.ifCond .ne 15, 3, .ref 72), none, none, some (.aload_n 0, 1, .null), some (.iconst 0, 1, .null), some (.ldc 72, 2, .ref 29), none, some (.ldc 74, 2, .ref 30), none, some (.invokevirtual 54, 3, .ref 37), none, none, some (.ifCond .eq 7, 3, .ref 76), none, none, some (.iconst 1, 1, .null), some (.goto 4, 3, .ref 77), none, none, some (.iconst 0, 1, .null), some (.ireturn, 1, .null)]
/-- 25: StemRules$Keys.changeEnding(LStemRules$Letters;)Z -/
def ev_c25 : List (Option (Instr × Nat × Value)) := [some (.aload_n 0, 1, .null), some (.ldc 76, 2, .ref 31), none, some (.ldc 78, 2, .ref 32), none, some (.invokevirtual 80, 3, .ref 38), none, none, some (.ifCond .ne 69, 3, .ref 77), none, none, some (.aload_n 0, 1, .null), some (.ldc 84, 2, .ref 33), none, some (.ldc 78, 2, .ref 32), none, some (.invokevirtual 80, 3, .ref 38), none, none, some (.ifCond .ne 58, 3, .ref 77), none, none, some (.aload_n 0, 1, .null), some (.ldc 86, 2, .ref 34), none, some (.ldc 88, 2, .ref 35), none, some (.invokevirtual 80, 3, .ref 38), none, none, some (.ifCond .ne 47, 3, .ref 77), none, none, some (.aload_n 0, 1, .null), some (.ldc 90, 2, .ref 36), none, some (.ldc 88, 2, .ref 35), none, some (.invokevirtual 80, 3, .ref 38), none, none, some (.ifCond .ne 36, 3, .ref 77), none, none, some (.aload_n 0, 1, .null), some (.ldc 92, 2, .ref 37), none, some (.ldc 88, 2, .ref 35), none, some (.invokevirtual 80, 3, .ref 38), none, none, some (.ifCond .ne 25, 3, .ref 77), none, none, some (.aload_n 0, 1, .null), some (.ldc 94, 2, .ref 38), none, some (.ldc 88, 2, .ref 35), none, some (.invokevirtual 80, 3, .ref 38), none, none, some (.ifCond .ne 14, 3, .ref 77), none, none, some (.aload_n 0, 1, .null), some (.ldc 96, 2, .ref 39), none, some (.ldc 88, 2, .ref 35), none, some (.invokevirtual 80, 3, .ref 38), none, none, some (.ifCond .eq 7, 3, .ref 81), none, none, some (.iconst 1, 1, .null), some (.goto 4, 3, .ref 82), none, none, some (.iconst 0, 1, .null), some (.ireturn, 1, .null)]
/-- 26: StemRules$Keys.changeLetter(LStemRules$Letters;I)V -/
def ev_c26 : List (Option (Instr × Nat × Value)) := [some (.aload_n 0, 1, .null), some (.iload_n 1, 1, .null), some (.ldc 98, 2, .ref 40), none, some (.ldc 100, 2, .ref 41), none, some (.invokevirtual 54, 3, .ref 37), none, none, some (.ifCond .eq 4, 3, .ref 13), none, none, some (.return_, 1, .null), some (.aload_n 0, 1, .null), some (.iload_n 1, 1, .null), some (.invokevirtual 13, 3, .ref 31), none, none, some (.istore_n 2, 1, .null), some (.aload_n 0, 1, .null), some (.iload_n 1, 1, .null), some (.iconst 1, 1, .null), some (.isub, 1, .null), some (.invokevirtual 13, 3, .ref 31), none, none, some (.istore_n 3, 1, .null), some (.iload_n 2, 1, .null), some (.invokestatic 102, 3, .ref 100117), none, none, some (.ifCond .eq 13, 3, .ref 44), none, none, some (.aload_n 0, 1, .null), some (.iload_n 1, 1, .null), some (.bipush 97, 2, .null), none, some (.invokevirtual 108, 3, .ref 32), none, none, some (.goto 66, 3, .ref 107), none, none, some (.iload_n 2, 1, .null), some (.bipush 104, 2, .null), none, some (.if_icmp .ne 32, 3, .ref 79), none, none, some (.iload_n 3, 1, .null), some (.invokestatic 102, 3, .ref 100117), none, none, some (.ifCond .eq 16, 3, .ref 70), none, none, some (.aload_n 0, 1, .null), some (.iload_n 1, 1, .null), some (.iconst 1, 1, .null), some (.iadd, 1, .null), some (.invokevirtual 13, 3, .ref 31), none, none, some (.invokestatic 102, 3, .ref 100117), none, none, some (.ifCond .ne 12, 3, .ref 79), none, none, some (.aload_n 0, 1, .null), some (.iload_n 1, 1, .null), some (.iload_n 3, 1, .null), some (.invokevirtual 108, 3, .ref 32), none, none, some (.goto 31, 3, .ref 107), none, none, some (.iload_n 2, 1, .null), some (.bipush 119, 2, .null), none, some (.if_icmp .ne 19, 3, .ref 101), none, none, some (.iload_n 3, 1, .null), some (.invokestatic 102, 3, .ref 100117), none, none, some (.ifCond .eq 12, 3, .ref 101), none, none, some (.aload_n 0, 1, .null), some (.iload_n 1, 1, .null), some (.iload_n 3, 1, .null), some (.invokevirtual 108, 3, .ref 32), none, none, some (.goto 9, 3, .ref 107), none, none, some (.aload_n 0, 1, .null), some (.iload_n 1, 1, .null), some (.invokestatic 112, 3, .ref 27), none, none, some (.pop, 1, .null), some (.return_, 1, .null)]
/-- 27: StemRules$Keys.changeConsonant(LStemRules$Letters;I)Z -/
def ev_c27 : List (Option (Instr × Nat × Value)) := [some (.aload_n 0, 1, .null), some (.iload_n 1, 1, .null), some (.ldc 116, 2, .ref 42), none, some (.ldc 118, 2, .ref 43), none, some (.invokevirtual 54, 3, .ref 37), none, none, some (.ifCond .ne 75, 3, .ref 84), none, none, some (.aload_n 0, 1, .null), some (.iload_n 1, 1, .null), some (.ldc 120, 2, .ref 44), none, some (.ldc 122, 2, .ref 45), none, some (.invokevirtual 54, 3, .ref 37), none, none, some (.ifCond .ne 63, 3, .ref 84), none, none, some (.aload_n 0, 1, .null), some (.iload_n 1, 1, .null), some (.ldc 124, 2, .ref 46), none, some (.ldc 126, 2, .ref 47), none, some (.invokevirtual 54, 3, .ref 37), none, none, some (.ifCond .ne 51, 3, .ref 84), none, none, some (.aload_n 0, 1, .null), some (.iload_n 1, 1, .null), some (.ldc 58, 2, .ref 22), none, some (.ldc 60, 2, .ref 23), none, some (.invokevirtual 54, 3, .ref 37), none, none, some (.ifCond .ne 39, 3, .ref 84), none, none, some (.aload_n 0, 1, .null), some (.iload_n 1, 1, .null), some (.ldc 62, 2, .ref 24), none, some (.ldc 64, 2, .ref 25), none, some (.invokevirtual 54, 3, .ref 37), none, none, some (.ifCond .ne 27, 3, .ref 84), none, none, some (.aload_n 0, 1, .null), some (.iload_n 1, 1, .null), some (.ldc 72, 2, .ref 29), none, some (.ldc 74, 2, .ref 30), none, some (.invokevirtual 54, 3, .ref 37), none, none, some (.ifCond .ne 15, 3, .ref 84), none, none, some (.aload_n 0, 1, .null), some (.iload_n 1, 1, .null), some (.ldc 66, 2, .ref 26), none, some (.ldc 68, 2, .ref 27), none, some (.invokevirtual 54, 3, .ref 37), none, none, some (.ifCond .eq 7, 3, .ref 88), none, none, some (.iconst 1, 1, .null), some (.goto 4, 3, .ref 89), none, none, some (.iconst 0, 1, .null), some (.ireturn, 1, .null)]
/-- 28: StemRules$Keys.trimEnd(LStemRules$Letters;)V -/
def ev_c28 : List (Option (Instr × Nat × Value)) := [some (.aload_n 0, 1, .null), some (.invokevirtual 27, 3, .ref 30), none, none, some (.iconst 1, 1, .null), some (.if_icmp .le 12, 3, .ref 17), none, none, some (.aload_n 0, 1, .null), some (.ldc 122, 2, .ref 45), none, some (.ldc 128, 2, .ref 48), none, some (.invokevirtual 80, 3, .ref 38), none, none, some (.pop, 1, .null), some (.aload_n 0, 1, .null), some (.invokevirtual 27, 3, .ref 30), none, none, some (.iconst 1, 1, .null), some (.if_icmp .le 12, 3, .ref 34), none, none, some (.aload_n 0, 1, .null), some (.ldc 130, 2, .ref 49), none, some (.ldc 78, 2, .ref 32), none, some (.invokevirtual 80, 3, .ref 38), none, none, some (.pop, 1, .null), some (.aload_n 0, 1, .null), some (.invokevirtual 27, 3, .ref 30), none, none, some (.iconst 1, 1, .null), some (.if_icmp .le 12, 3, .ref 51), none, none, some (.aload_n 0, 1, .null), some (.ldc 132, 2, .ref 50), none, some (.ldc 128, 2, .ref 48), none, some (.invokevirtual 80, 3, .ref 38), none, none, some (.pop, 1, .null), some (.return_, 1, .null)]
/-- 29: StemRules$Letters.<init>()V -/
def ev_c29 : List (Option (Instr × Nat × Value)) := [some (.aload_n 0, 1, .null), some (.invokespecial 3, 3, .null), none, none, some (.aload_n 0, 1, .null), some (.bipush 24, 2, .null), none, some (.newarray .char, 2, .null), none, some (.putfield 9, 3, .ref 192), none, none, some (.return_, 1, .null)]
/-- 30: StemRules$Letters.size()I -/
def ev_c30 : List (Option (Instr × Nat × Value)) := [some (.aload_n 0, 1, .null), some (.getfield 15, 3, .ref 193), none, none, some (.ireturn, 1, .null)]
/-- 31: StemRules$Letters.at(I)C -/
def ev_c31 : List (Option (Instr × Nat × Value)) := [some (.iload_n 1, 1, .null), some (.ifCond .lt 20, 3, .ref 21), none, none, some (.iload_n 1, 1, .null), some (.aload_n 0, 1, .null), some (.getfield 15, 3, .ref 193), none, none, some (.if_icmp .ge 12, 3, .ref 21), none, none, some (.aload_n 0, 1, .null), some (.getfield 9, 3, .ref 192), none, none, some (.iload_n 1, 1, .null), some (.caload, 1, .null), some (.goto 4, 3, .ref 22), none, none, some (.iconst 0, 1, .null), some (.ireturn, 1, .null)]
/-- 32: StemRules$Letters.put(IC)V -/
def ev_c32 : List (Option (Instr × Nat × Value)) := [some (.iload_n 1, 1, .null), some (.ifCond .lt 18, 3, .ref 19), none, none, some (.iload_n 1, 1, .null), some (.aload_n 0, 1, .null), some (.getfield 15, 3, .ref 193), none, none, some (.if_icmp .ge 10, 3, .ref 19), none, none, some (.aload_n 0, 1, .null), some (.getfield 9, 3, .ref 192), none, none, some (.iload_n 1, 1, .null), some (.iload_n 2, 1, .null), some (.castore, 1, .null), some (.return_, 1, .null)]
/-- 33: StemRules$Letters.add(C)V -/
def ev_c33 : List (Option (Instr × Nat × Value)) := [some (.aload_n 0, 1, .null), some (.getfield 15, 3, .ref 193), none, none, some (.bipush 24, 2, .null), none, some (.if_icmp .ge 23, 3, .ref 29), none, none, some (.aload_n 0, 1, .null), some (.getfield 9, 3, .ref 192), none, none, some (.aload_n 0, 1, .null), some (.getfield 15, 3, .ref 193), none, none, some (.iload_n 1, 1, .null), some (.castore, 1, .null), some (.aload_n 0, 1, .null), some (.dup, 1, .null), some (.getfield 15, 3, .ref 193), none, none, some (.iconst 1, 1, .null), some (.iadd, 1, .null), some (.putfield 15, 3, .ref 193), none, none, some (.return_, 1, .null)]
/-- 34: StemRules$Letters.shorten(I)V -/
def ev_c34 : List (Option (Instr × Nat × Value)) := [some (.iload_n 1, 1, .null), some (.ifCond .lt 16, 3, .ref 17), none, none, some (.iload_n 1, 1, .null), some (.aload_n 0, 1, .null), some (.getfield 15, 3, .ref 193), none, none, some (.if_icmp .ge 8, 3, .ref 17), none, none, some (.aload_n 0, 1, .null), some (.iload_n 1, 1, .null), some (.putfield 15, 3, .ref 193), none, none, some (.return_, 1, .null)]
/-- 35: StemRules$Letters.hasAt(ILjava/lang/String;)Z -/
def ev_c35 : List (Option (Instr × Nat × Value)) := [some (.iload_n 1, 1, .null), some (.ifCond .lt 16, 3, .ref 17), none, none, some (.iload_n 1, 1, .null), some (.aload_n 2, 1, .null), some (.invokevirtual 19, 3, .ref 183), none, none, some (.iadd, 1, .null), some (.aload_n 0, 1, .null), some (.getfield 15, 3, .ref 193), none, none, some (.if_icmp .le 5, 3, .ref 19), none, none, some (.iconst 0, 1, .null), some (.ireturn, 1, .null), some (.iconst 0, 1, .null), some (.istore_n 3, 1, .null), some (.iload_n 3, 1, .null), some (.aload_n 2, 1, .null), some (.invokevirtual 19, 3, .ref 183), none, none, some (.if_icmp .ge 27, 3, .ref 53), none, none, some (.aload_n 0, 1, .null), some (.getfield 9, 3, .ref 192), none, none, some (.iload_n 1, 1, .null), some (.iload_n 3, 1, .null), some (.iadd, 1, .null), some (.caload, 1, .null), some (.aload_n 2, 1, .null), some (.iload_n 3, 1, .null), some (.invokevirtual 25, 3, .ref 184), none, none, some (.if_icmp .eq 5, 3, .ref 47), none, none, some (.iconst 0, 1, .null), some (.ireturn, 1, .null), some (.iinc 3 1, 3, .null), none, none, some (.goto (-29), 3, .ref 21), none, none, some (.iconst 1, 1, .null), some (.ireturn, 1, .null)]
/-- 36: StemRules$Letters.ends(Ljava/lang/String;)Z -/
def ev_c36 : List (Option (Instr × Nat × Value)) := [some (.aload_n 0, 1, .null), some (.aload_n 0, 1, .null), some (.getfield 15, 3, .ref 193), none, none, some (.aload_n 1, 1, .null), some (.invokevirtual 19, 3, .ref 183), none, none, some (.isub, 1, .null), some (.aload_n 1, 1, .null), some (.invokevirtual 29, 3, .ref 35), none, none, some (.ireturn, 1, .null)]
/-- 37: StemRules$Letters.changeAt(ILjava/lang/String;Ljava/lang/String;)Z -/
def ev_c37 : List (Option (Instr × Nat × Value)) := [some (.aload_n 0, 1, .null), some (.iload_n 1, 1, .null), some (.aload_n 2, 1, .null), some (.invokevirtual 29, 3, .ref 35), none, none, some (.ifCond .ne 5, 3, .ref 11), none, none, some (.iconst 0, 1, .null), some (.ireturn, 1, .null), some (.iconst 0, 1, .null), some (.istore 4, 2, .null), none, some (.iload 4, 2, .null), none, some (.aload_n 3, 1, .null), some (.invokevirtual 19, 3, .ref 183), none, none, some (.if_icmp .ge 23, 3, .ref 43), none, none, some (.aload_n 0, 1, .null), some (.iload_n 1, 1, .null), some (.iload 4, 2, .null), none, some (.iadd, 1, .null), some (.aload_n 3, 1, .null), some (.iload 4, 2, .null), none, some (.invokevirtual 25, 3, .ref 184), none, none, some (.invokevirtual 33, 3, .ref 32), none, none, some (.iinc 4 1, 3, .null), none, none, some (.goto (-26), 3, .ref 14), none, none, some (.iconst 1, 1, .null), some (.ireturn, 1, .null)]
/-- 38: StemRules$Letters.changeEnd(Ljava/lang/String;Ljava/lang/String;)Z -/
def ev_c38 : List (Option (Instr × Nat × Value)) := [some (.aload_n 0, 1, .null), some (.aload_n 1, 1, .null), some (.invokevirtual 37, 3, .ref 36), none, none, some (.ifCond .ne 5, 3, .ref 10), none, none, some (.iconst 0, 1, .null), some (.ireturn, 1, .null), some (.aload_n 0, 1, .null), some (.aload_n 0, 1, .null), some (.getfield 15, 3, .ref 193), none, none, some (.aload_n 1, 1, .null), some (.invokevirtual 19, 3, .ref 183), none, none, some (.isub, 1, .null), some (.invokevirtual 41, 3, .ref 34), none, none, some (.iconst 0, 1, .null), some (.istore_n 3, 1, .null), some (.iload_n 3, 1, .null), some (.aload_n 2, 1, .null), some (.invokevirtual 19, 3, .ref 183), none, none, some (.if_icmp .ge 18, 3, .ref 48), none, none, some (.aload_n 0, 1, .null), some (.aload_n 2, 1, .null), some (.iload_n 3, 1, .null), some (.invokevirtual 25, 3, .ref 184), none, none, some (.invokevirtual 45, 3, .ref 33), none, none, some (.iinc 3 1, 3, .null), none, none, some (.goto (-20), 3, .ref 25), none, none, some (.iconst 1, 1, .null), some (.ireturn, 1, .null)]
/-- 39: StemRules$Parts.<init>()V -/
def ev_c39 : List (Option (Instr × Nat × Value)) := [some (.aload_n 0, 1, .null), some (.invokespecial 3, 3, .null), none, none, some (.aload_n 0, 1, .null), some (.iconst 3, 1, .null), some (.putfield 9, 3, .ref 256), none, none, some (.aload_n 0, 1, .null), some (.bipush 25, 2, .null), none, some (.newarray .int, 2, .null), none, some (.putfield 15, 3, .ref 257), none, none, some (.aload_n 0, 1, .null), some (.bipush 25, 2, .null), none, some (.newarray .int, 2, .null), none, some (.putfield 19, 3, .ref 258), none, none, some (.aload_n 0, 1, .null), some (.bipush 25, 2, .null), none, some (.newarray .int, 2, .null), none, some (.putfield 22, 3, .ref 259), none, none, some (.return_, 1, .null)]
/-- 40: StemRules$Parts.setLeast(I)I -/
def ev_c40 : List (Option (Instr × Nat × Value)) := [some (.aload_n 0, 1, .null), some (.getfield 9, 3, .ref 256), none, none, some (.istore_n 2, 1, .null), some (.aload_n 0, 1, .null), some (.iload_n 1, 1, .null), some (.putfield 9, 3, .ref 256), none, none, some (.iload_n 2, 1, .null), some (.ireturn, 1, .null)]
/-- 41: StemRules$Parts.lay(LStemRules$Letters;LStemRules$Words;)V -/
def ev_c41 : List (Option (Instr × Nat × Value)) := [some (.bipush 24, 2, .null), none, some (.istore_n 3, 1, .null), some (.iload_n 3, 1, .null), some (.ifCond .lt 80, 3, .ref 84), none, none, some (.aload_n 0, 1, .null), some (.getfield 15, 3, .ref 257), none, none, some (.iload_n 3, 1, .null), some (.iconst 0, 1, .null), some (.iastore, 1, .null), some (.aload_n 0, 1, .null), some (.getfield 19, 3, .ref 258), none, none, some (.iload_n 3, 1, .null), some (.bipush (-5), 2, .null), none, some (.iastore, 1, .null), some (.aload_n 0, 1, .null), some (.getfield 22, 3, .ref 259), none, none, some (.iload_n 3, 1, .null), some (.iconst 0, 1, .null), some (.iastore, 1, .null), some (.iconst 0, 1, .null), some (.istore 4, 2, .null), none, some (.iload 4, 2, .null), none, some (.aload_n 2, 1, .null), some (.invokevirtual 25, 3, .ref 77), none, none, some (.if_icmp .ge 40, 3, .ref 78), none, none, some (.aload_n 0, 1, .null), some (.iload 4, 2, .null), none, some (.aload_n 1, 1, .null), some (.iload_n 3, 1, .null), some (.aload_n 2, 1, .null), some (.invokevirtual 31, 3, .ref 44), none, none, some (.ifCond .eq 22, 3, .ref 72), none, none, some (.aload_n 0, 1, .null), some (.iload 4, 2, .null), none, some (.iload_n 3, 1, .null), some (.iload_n 3, 1, .null), some (.aload_n 2, 1, .null), some (.iload 4, 2, .null), none, some (.invokevirtual 35, 3, .ref 80), none, none, some (.iadd, 1, .null), some (.aload_n 1, 1, .null), some (.invokevirtual 39, 3, .ref 30), none, none, some (.invokevirtual 44, 3, .ref 45), none, none, some (.iinc 4 1, 3, .null), none, none, some (.goto (-43), 3, .ref 32), none, none, some (.iinc 3 (-1), 3, .null), none, none, some (.goto (-78), 3, .ref 3), none, none, some (.return_, 1, .null)]
/-- 42: StemRules$Parts.count()I -/
def ev_c42 : List (Option (Instr × Nat × Value)) := [some (.aload_n 0, 1, .null), some (.getfield 15, 3, .ref 257), none, none, some (.iconst 0, 1, .null), some (.iaload, 1, .null), some (.ireturn, 1, .null)]
/-- 43: StemRules$Parts.numberOf(I)I -/
def ev_c43 : List (Option (Instr × Nat × Value)) := [some (.iload_n 1, 1, .null), some (.ifCond .lt 13, 3, .ref 14), none, none, some (.iload_n 1, 1, .null), some (.aload_n 0, 1, .null), some (.getfield 15, 3, .ref 257), none, none, some (.iconst 0, 1, .null), some (.iaload, 1, .null), some (.if_icmp .lt 6, 3, .ref 17), none, none, some (.bipush (-5), 2, .null), none, some (.ireturn, 1, .null), some (.iconst 0, 1, .null), some (.istore_n 2, 1, .null), some (.iconst 0, 1, .null), some (.istore_n 3, 1, .null), some (.iload_n 3, 1, .null), some (.iload_n 1, 1, .null), some (.if_icmp .ge 22, 3, .ref 45), none, none, some (.iload_n 2, 1, .null), some (.bipush 24, 2, .null), none, some (.if_icmp .gt 16, 3, .ref 45), none, none, some (.aload_n 0, 1, .null), some (.getfield 22, 3, .ref 259), none, none, some (.iload_n 2, 1, .null), some (.iaload, 1, .null), some (.istore_n 2, 1, .null), some (.iinc 3 1, 3, .null), none, none, some (.goto (-21), 3, .ref 21), none, none, some (.iload_n 2, 1, .null), some (.bipush 24, 2, .null), none, some (.if_icmp .gt 12, 3, .ref 60), none, none, some (.aload_n 0, 1, .null), some (.getfield 19, 3, .ref 258), none, none, some (.iload_n 2, 1, .null), some (.iaload, 1, .null), some (.goto 5, 3, .ref 62), none, none, some (.bipush (-5), 2, .null), none, some (.ireturn, 1, .null)]
/-- 44: StemRules$Parts.mayStand(ILStemRules$Letters;ILStemRules$Words;)Z -/
def ev_c44 : List (Option (Instr × Nat × Value)) := [some (.aload 4, 2, .null), none, some (.iload_n 1, 1, .null), some (.invokevirtual 35, 3, .ref 80), none, none, some (.istore 5, 2, .null), none, some (.iload 5, 2, .null), none, some (.aload_n 0, 1, .null), some (.getfield 9, 3, .ref 256), none, none, some (.if_icmp .lt 37, 3, .ref 51), none, none, some (.iload 5, 2, .null), none, some (.aload_n 2, 1, .null), some (.invokevirtual 39, 3, .ref 30), none, none, some (.if_icmp .ge 28, 3, .ref 51), none, none, some (.aload 4, 2, .null), none, some (.iconst 2, 1, .null), some (.iload_n 1, 1, .null), some (.invokevirtual 48, 3, .ref 88), none, none, some (.ifCond .eq 18, 3, .ref 51), none, none, some (.aload 4, 2, .null), none, some (.iload_n 1, 1, .null), some (.aload_n 2, 1, .null), some (.iload_n 3, 1, .null), some (.invokevirtual 52, 3, .ref 83), none, none, some (.ifCond .eq 7, 3, .ref 51), none, none, some (.iconst 1, 1, .null), some (.goto 4, 3, .ref 52), none, none, some (.iconst 0, 1, .null), some (.ireturn, 1, .null)]
/-- 45: StemRules$Parts.noteFirst(IIII)V -/
def ev_c45 : List (Option (Instr × Nat × Value)) := [some (.iload_n 2, 1, .null), some (.ifCond .lt 21, 3, .ref 22), none, none, some (.iload_n 2, 1, .null), some (.iload_n 3, 1, .null), some (.if_icmp .ge 16, 3, .ref 22), none, none, some (.iload_n 3, 1, .null), some (.iload 4, 2, .null), none, some (.if_icmp .gt 10, 3, .ref 22), none, none, some (.iload 4, 2, .null), none, some (.bipush 24, 2, .null), none, some (.if_icmp .le 4, 3, .ref 23), none, none, some (.return_, 1, .null), some (.iload_n 3, 1, .null), some (.iload 4, 2, .null), none, some (.if_icmp .ge 13, 3, .ref 39), none, none, some (.aload_n 0, 1, .null), some (.getfield 15, 3, .ref 257), none, none, some (.iload_n 3, 1, .null), some (.iaload, 1, .null), some (.ifCond .ne 4, 3, .ref 39), none, none, some (.return_, 1, .null), some (.aload_n 0, 1, .null), some (.getfield 15, 3, .ref 257), none, none, some (.iload_n 3, 1, .null), some (.iaload, 1, .null), some (.iconst 1, 1, .null), some (.iadd, 1, .null), some (.istore 5, 2, .null), none, some (.aload_n 0, 1, .null), some (.getfield 15, 3, .ref 257), none, none, some (.iload_n 2, 1, .null), some (.iaload, 1, .null), some (.ifCond .eq 14, 3, .ref 69), none, none, some (.iload 5, 2, .null), none, some (.aload_n 0, 1, .null), some (.getfield 15, 3, .ref 257), none, none, some (.iload_n 2, 1, .null), some (.iaload, 1, .null), some (.if_icmp .ge 7, 3, .ref 73), none, none, some (.iconst 1, 1, .null), some (.goto 4, 3, .ref 74), none, none, some (.iconst 0, 1, .null), some (.istore 6, 2, .null), none, some (.iload 6, 2, .null), none, some (.ifCond .ne 24, 3, .ref 102), none, none, some (.iload 5, 2, .null), none, some (.aload_n 0, 1, .null), some (.getfield 15, 3, .ref 257), none, none, some (.iload_n 2, 1, .null), some (.iaload, 1, .null), some (.if_icmp .ne 35, 3, .ref 124), none, none, some (.iload_n 3, 1, .null), some (.aload_n 0, 1, .null), some (.getfield 22, 3, .ref 259), none, none, some (.iload_n 2, 1, .null), some (.iaload, 1, .null), some (.if_icmp .le 25, 3, .ref 124), none, none, some (.aload_n 0, 1, .null), some (.getfield 15, 3, .ref 257), none, none, some (.iload_n 2, 1, .null), some (.iload 5, 2, .null), none, some (.iastore, 1, .null), some (.aload_n 0, 1, .null), some (.getfield 19, 3, .ref 258), none, none, some (.iload_n 2, 1, .null), some (.iload_n 1, 1, .null), some (.iastore, 1, .null), some (.aload_n 0, 1, .null), some (.getfield 22, 3, .ref 259), none, none, some (.iload_n 2, 1, .null), some (.iload_n 3, 1, .null), some (.iastore, 1, .null), some (.return_, 1, .null)]
/-- 46: StemRules$Porter.run(LStemRules$Letters;I)V -/
def ev_c46 : List (Option (Instr × Nat × Value)) := [some (.aload_n 0, 1, .null), some (.invokevirtual 9, 3, .ref 30), none, none, some (.iconst 2, 1, .null), some (.if_icmp .gt 4, 3, .ref 9), none, none, some (.return_, 1, .null), some (.iconst 0, 1, .null), some (.istore_n 2, 1, .null), some (.iload_n 2, 1, .null), some (.iload_n 1, 1, .null), some (.if_icmp .gt 76, 3, .ref 89), none, none, some (.iload_n 2, 1, .null), some (.bipush 7, 2, .null), none, some (.if_icmp .gt 70, 3, .ref 89), none, none, some (.aload_n 0, 1, .null), some (.invokestatic 15, 3, .ref 47), none, none, some (.istore_n 3, 1, .null), some (.iload_n 2, 1, .null), some (.iconst 2, 1, .null), some (.if_icmp .ne 11, 3, .ref 40), none, none, some (.aload_n 0, 1, .null), some (.iload_n 3, 1, .null), some (.invokestatic 21, 3, .ref 56), none, none, some (.goto 46, 3, .ref 83), none, none, some (.iload_n 2, 1, .null), some (.bipush 7, 2, .null), none, some (.if_icmp .ne 11, 3, .ref 54), none, none, some (.aload_n 0, 1, .null), some (.iload_n 3, 1, .null), some (.invokestatic 25, 3, .ref 57), none, none, some (.goto 32, 3, .ref 83), none, none, some (.aload_n 0, 1, .null), some (.iload_n 2, 1, .null), some (.iload_n 3, 1, .null), some (.invokestatic 28, 3, .ref 53), none, none, some (.astore 4, 2, .null), none, some (.aload 4, 2, .null), none, some (.getstatic 32, 3, .ref 405), none, none, some (.if_acmp .eq 11, 3, .ref 78), none, none, some (.aload 4, 2, .null), none, some (.getstatic 38, 3, .ref 406), none, none, some (.if_acmp .ne 8, 3, .ref 83), none, none, some (.aload_n 0, 1, .null), some (.iload_n 3, 1, .null), some (.invokestatic 41, 3, .ref 55), none, none, some (.iinc 2 1, 3, .null), none, none, some (.goto (-75), 3, .ref 11), none, none, some (.return_, 1, .null)]
/-- 47: StemRules$Porter.consonantsOf(LStemRules$Letters;)I -/
def ev_c47 : List (Option (Instr × Nat × Value)) := [some (.iconst 0, 1, .null), some (.istore_n 1, 1, .null), some (.iconst 0, 1, .null), some (.istore_n 2, 1, .null), some (.iconst 0, 1, .null), some (.istore_n 3, 1, .null), some (.iload_n 3, 1, .null), some (.aload_n 0, 1, .null), some (.invokevirtual 9, 3, .ref 30), none, none, some (.if_icmp .ge 65, 3, .ref 76), none, none, some (.iload_n 3, 1, .null), some (.bipush 24, 2, .null), none, some (.if_icmp .ge 59, 3, .ref 76), none, none, some (.aload_n 0, 1, .null), some (.iload_n 3, 1, .null), some (.invokevirtual 44, 3, .ref 31), none, none, some (.istore 4, 2, .null), none, some (.iload 4, 2, .null), none, some (.bipush 121, 2, .null), none, some (.if_icmp .ne 15, 3, .ref 46), none, none, some (.iload_n 2, 1, .null), some (.ifCond .ne 7, 3, .ref 42), none, none, some (.iconst 1, 1, .null), some (.goto 20, 3, .ref 59), none, none, some (.iconst 0, 1, .null), some (.goto 16, 3, .ref 59), none, none, some (.iload 4, 2, .null), none, some (.invokestatic 48, 3, .ref 100117), none, none, some (.ifCond .ne 7, 3, .ref 58), none, none, some (.iconst 1, 1, .null), some (.goto 4, 3, .ref 59), none, none, some (.iconst 0, 1, .null), some (.istore_n 2, 1, .null), some (.iload_n 2, 1, .null), some (.ifCond .eq 9, 3, .ref 70), none, none, some (.iload_n 1, 1, .null), some (.iconst 1, 1, .null), some (.iload_n 3, 1, .null), some (.ishl, 1, .null), some (.ior, 1, .null), some (.istore_n 1, 1, .null), some (.iinc 3 1, 3, .null), none, none, some (.goto (-67), 3, .ref 6), none, none, some (.iload_n 1, 1, .null), some (.ireturn, 1, .null)]
/-- 48: StemRules$Porter.measureOf(II)I -/
def ev_c48 : List (Option (Instr × Nat × Value)) := [some (.iload_n 0, 1, .null), some (.iload_n 0, 1, .null), some (.iconst (-1), 1, .null), some (.ixor, 1, .null), some (.iconst 1, 1, .null), some (.ishl, 1, .null), some (.iand, 1, .null), some (.iload_n 1, 1, .null), some (.invokestatic 52, 3, .ref 49), none, none, some (.iand, 1, .null), some (.invokestatic 56, 3, .ref 182), none, none, some (.ireturn, 1, .null)]
/-- 49: StemRules$Porter.lowest(I)I -/
def ev_c49 : List (Option (Instr × Nat × Value)) := [some (.iload_n 0, 1, .null), some (.ifCond .le 17, 3, .ref 18), none, none, some (.iload_n 0, 1, .null), some (.bipush 24, 2, .null), none, some (.if_icmp .gt 11, 3, .ref 18), none, none, some (.iconst 1, 1, .null), some (.iload_n 0, 1, .null), some (.ishl, 1, .null), some (.iconst 1, 1, .null), some (.isub, 1, .null), some (.goto 4, 3, .ref 19), none, none, some (.iconst 0, 1, .null), some (.ireturn, 1, .null)]
/-- 50: StemRules$Porter.hasV(II)Z -/
def ev_c50 : List (Option (Instr × Nat × Value)) := [some (.iload_n 0, 1, .null), some (.iconst (-1), 1, .null), some (.ixor, 1, .null), some (.iload_n 1, 1, .null), some (.invokestatic 52, 3, .ref 49), none, none, some (.iand, 1, .null), some (.ifCond .eq 7, 3, .ref 15), none, none, some (.iconst 1, 1, .null), some (.goto 4, 3, .ref 16), none, none, some (.iconst 0, 1, .null), some (.ireturn, 1, .null)]
/-- 51: StemRules$Porter.endsDouble(LStemRules$Letters;II)Z -/
def ev_c51 : List (Option (Instr × Nat × Value)) := [some (.iload_n 2, 1, .null), some (.iconst 2, 1, .null), some (.if_icmp .lt 35, 3, .ref 37), none, none, some (.aload_n 0, 1, .null), some (.iload_n 2, 1, .null), some (.iconst 1, 1, .null), some (.isub, 1, .null), some (.invokevirtual 44, 3, .ref 31), none, none, some (.aload_n 0, 1, .null), some (.iload_n 2, 1, .null), some (.iconst 2, 1, .null), some (.isub, 1, .null), some (.invokevirtual 44, 3, .ref 31), none, none, some (.if_icmp .ne 18, 3, .ref 37), none, none, some (.iload_n 1, 1, .null), some (.iload_n 2, 1, .null), some (.iconst 2, 1, .null), some (.isub, 1, .null), some (.iushr, 1, .null), some (.iconst 3, 1, .null), some (.iand, 1, .null), some (.iconst 3, 1, .null), some (.if_icmp .ne 7, 3, .ref 37), none, none, some (.iconst 1, 1, .null), some (.goto 4, 3, .ref 38), none, none, some (.iconst 0, 1, .null), some (.ireturn, 1, .null)]
/-- 52: StemRules$Porter.endsShort(LStemRules$Letters;II)Z -/
def ev_c52 : List (Option (Instr × Nat × Value)) := [some (.iload_n 2, 1, .null), some (.iconst 3, 1, .null), some (.if_icmp .lt 15, 3, .ref 17), none, none, some (.iload_n 1, 1, .null), some (.iload_n 2, 1, .null), some (.iconst 3, 1, .null), some (.isub, 1, .null), some (.iushr, 1, .null), some (.bipush 7, 2, .null), none, some (.iand, 1, .null), some (.iconst 5, 1, .null), some (.if_icmp .eq 5, 3, .ref 19), none, none, some (.iconst 0, 1, .null), some (.ireturn, 1, .null), some (.aload_n 0, 1, .null), some (.iload_n 2, 1, .null), some (.iconst 1, 1, .null), some (.isub, 1, .null), some (.invokevirtual 44, 3, .ref 31), none, none, some (.istore_n 3, 1, .null), some (.iload_n 3, 1, .null), some (.bipush 119, 2, .null), none, some (.if_icmp .eq 19, 3, .ref 49), none, none, some (.iload_n 3, 1, .null), some (.bipush 120, 2, .null), none, some (.if_icmp .eq 13, 3, .ref 49), none, none, some (.iload_n 3, 1, .null), some (.bipush 121, 2, .null), none, some (.if_icmp .eq 7, 3, .ref 49), none, none, some (.iconst 1, 1, .null), some (.goto 4, 3, .ref 50), none, none, some (.iconst 0, 1, .null), some (.ireturn, 1, .null)]
/-- 53: StemRules$Porter.changeEnding(LStemRules$Letters;II)LStemRules$Ending; -/
def ev_c53 : List (Option (Instr × Nat × Value)) := [some (.aconst_null, 1, .null), some (.astore_n 3, 1, .null), some (.iconst 0, 1, .null), some (.istore 4, 2, .null), none, some (.iload 4, 2, .null), none, some (.getstatic 61, 3, .ref 501), none, none, some (.arraylength, 1, .null), some (.if_icmp .ge 63, 3, .ref 74), none, none, some (.getstatic 61, 3, .ref 501), none, none, some (.iload 4, 2, .null), none, some (.aaload, 1, .null), some (.astore 5, 2, .null), none, some (.aload 5, 2, .null), none, some (.getfield 65, 3, .ref 101344), none, none, some (.iload_n 1, 1, .null), some (.if_icmp .ne 40, 3, .ref 68), none, none, some (.aload_n 0, 1, .null), some (.aload 5, 2, .null), none, some (.getfield 69, 3, .ref 101346), none, none, some (.invokevirtual 73, 3, .ref 36), none, none, some (.ifCond .eq 28, 3, .ref 68), none, none, some (.aload_n 3, 1, .null), some (.ifnull 21, 3, .ref 65), none, none, some (.aload 5, 2, .null), none, some (.getfield 69, 3, .ref 101346), none, none, some (.invokevirtual 77, 3, .ref 183), none, none, some (.aload_n 3, 1, .null), some (.getfield 69, 3, .ref 101346), none, none, some (.invokevirtual 77, 3, .ref 183), none, none, some (.if_icmp .le 6, 3, .ref 68), none, none, some (.aload 5, 2, .null), none, some (.astore_n 3, 1, .null), some (.iinc 4 1, 3, .null), none, none, some (.goto (-66), 3, .ref 5), none, none, some (.aload_n 3, 1, .null), some (.ifnull 27, 3, .ref 102), none, none, some (.aload_n 3, 1, .null), some (.getfield 82, 3, .ref 101345), none, none, some (.aload_n 0, 1, .null), some (.aload_n 0, 1, .null), some (.invokevirtual 9, 3, .ref 30), none, none, some (.aload_n 3, 1, .null), some (.getfield 69, 3, .ref 101346), none, none, some (.invokevirtual 77, 3, .ref 183), none, none, some (.isub, 1, .null), some (.iload_n 2, 1, .null), some (.invokestatic 85, 3, .ref 54), none, none, some (.ifCond .ne 5, 3, .ref 104), none, none, some (.aconst_null, 1, .null), some (.areturn, 1, .null), some (.aload_n 0, 1, .null), some (.aload_n 3, 1, .null), some (.getfield 69, 3, .ref 101346), none, none, some (.aload_n 3, 1, .null), some (.getfield 89, 3, .ref 101347), none, none, some (.invokevirtual 92, 3, .ref 38), none, none, some (.pop, 1, .null), some (.aload_n 3, 1, .null), some (.areturn, 1, .null)]
/-- 54: StemRules$Porter.holds(ILStemRules$Letters;II)Z -/
def ev_c54 : List (Option (Instr × Nat × Value)) := [some (.iload_n 3, 1, .null), some (.iload_n 2, 1, .null), some (.invokestatic 96, 3, .ref 48), none, none, some (.istore 4, 2, .null), none, some (.iload_n 0, 1, .null), some (.tableswitch 128 1 5 #[36, 47, 59, 65, 101], 36, .null), none, none, none, none, none, none, none, none, none, none, none, none, none, none, none, none, none, none, none, none, none, none, none, none, none, none, none, none, none, none, none, none, none, none, none, some (.iload 4, 2, .null), none, some (.ifCond .le 7, 3, .ref 53), none, none, some (.iconst 1, 1, .null), some (.goto 4, 3, .ref 54), none, none, some (.iconst 0, 1, .null), some (.ireturn, 1, .null), some (.iload 4, 2, .null), none, some (.iconst 1, 1, .null), some (.if_icmp .le 7, 3, .ref 65), none, none, some (.iconst 1, 1, .null), some (.goto 4, 3, .ref 66), none, none, some (.iconst 0, 1, .null), some (.ireturn, 1, .null), some (.iload_n 3, 1, .null), some (.iload_n 2, 1, .null), some (.invokestatic 100, 3, .ref 50), none, none, some (.ireturn, 1, .null), some (.iload 4, 2, .null), none, some (.iconst 1, 1, .null), some (.if_icmp .le 31, 3, .ref 107), none, none, some (.aload_n 1, 1, .null), some (.iload_n 2, 1, .null), some (.iconst 1, 1, .null), some (.isub, 1, .null), some (.invokevirtual 44, 3, .ref 31), none, none, some (.bipush 115, 2, .null), none, some (.if_icmp .eq 15, 3, .ref 103), none, none, some (.aload_n 1, 1, .null), some (.iload_n 2, 1, .null), some (.iconst 1, 1, .null), some (.isub, 1, .null), some (.invokevirtual 44, 3, .ref 31), none, none, some (.bipush 116, 2, .null), none, some (.if_icmp .ne 7, 3, .ref 107), none, none, some (.iconst 1, 1, .null), some (.goto 4, 3, .ref 108), none, none, some (.iconst 0, 1, .null), some (.ireturn, 1, .null), some (.iload 4, 2, .null), none, some (.iconst 1, 1, .null), some (.if_icmp .gt 18, 3, .ref 130), none, none, some (.iload 4, 2, .null), none, some (.iconst 1, 1, .null), some (.if_icmp .ne 16, 3, .ref 134), none, none, some (.aload_n 1, 1, .null), some (.iload_n 3, 1, .null), some (.iload_n 2, 1, .null), some (.invokestatic 104, 3, .ref 52), none, none, some (.ifCond .ne 7, 3, .ref 134), none, none, some (.iconst 1, 1, .null), some (.goto 4, 3, .ref 135), none, none, some (.iconst 0, 1, .null), some (.ireturn, 1, .null), some (.iconst 1, 1, .null), some (.ireturn, 1, .null)]
/-- 55: StemRules$Porter.mend(LStemRules$Letters;I)V -/
def ev_c55 : List (Option (Instr × Nat × Value)) := [some (.aload_n 0, 1, .null), some (.invokevirtual 9, 3, .ref 30), none, none, some (.istore_n 2, 1, .null), some (.aload_n 0, 1, .null), some (.ldc 108, 2, .ref 14), none, some (.ldc 109, 2, .ref 15), none, some (.invokevirtual 92, 3, .ref 38), none, none, some (.ifCond .ne 25, 3, .ref 38), none, none, some (.aload_n 0, 1, .null), some (.ldc 111, 2, .ref 16), none, some (.ldc 113, 2, .ref 17), none, some (.invokevirtual 92, 3, .ref 38), none, none, some (.ifCond .ne 14, 3, .ref 38), none, none, some (.aload_n 0, 1, .null), some (.ldc 115, 2, .ref 18), none, some (.ldc 117, 2, .ref 19), none, some (.invokevirtual 92, 3, .ref 38), none, none, some (.ifCond .eq 4, 3, .ref 39), none, none, some (.return_, 1, .null), some (.aload_n 0, 1, .null), some (.iload_n 2, 1, .null), some (.iconst 1, 1, .null), some (.isub, 1, .null), some (.invokevirtual 44, 3, .ref 31), none, none, some (.istore_n 3, 1, .null), some (.aload_n 0, 1, .null), some (.iload_n 1, 1, .null), some (.iload_n 2, 1, .null), some (.invokestatic 119, 3, .ref 51), none, none, some (.ifCond .eq 31, 3, .ref 84), none, none, some (.iload_n 3, 1, .null), some (.bipush 108, 2, .null), none, some (.if_icmp .eq 25, 3, .ref 84), none, none, some (.iload_n 3, 1, .null), some (.bipush 115, 2, .null), none, some (.if_icmp .eq 19, 3, .ref 84), none, none, some (.iload_n 3, 1, .null), some (.bipush 122, 2, .null), none, some (.if_icmp .eq 13, 3, .ref 84), none, none, some (.aload_n 0, 1, .null), some (.iload_n 2, 1, .null), some (.iconst 1, 1, .null), some (.isub, 1, .null), some (.invokevirtual 122, 3, .ref 34), none, none, some (.goto 27, 3, .ref 108), none, none, some (.iload_n 1, 1, .null), some (.iload_n 2, 1, .null), some (.invokestatic 96, 3, .ref 48), none, none, some (.iconst 1, 1, .null), some (.if_icmp .ne 18, 3, .ref 108), none, none, some (.aload_n 0, 1, .null), some (.iload_n 1, 1, .null), some (.iload_n 2, 1, .null), some (.invokestatic 104, 3, .ref 52), none, none, some (.ifCond .eq 9, 3, .ref 108), none, none, some (.aload_n 0, 1, .null), some (.bipush 101, 2, .null), none, some (.invokevirtual 126, 3, .ref 33), none, none, some (.return_, 1, .null)]
/-- 56: StemRules$Porter.changeY(LStemRules$Letters;I)V -/
def ev_c56 : List (Option (Instr × Nat × Value)) := [some (.aload_n 0, 1, .null), some (.invokevirtual 9, 3, .ref 30), none, none, some (.iconst 1, 1, .null), some (.isub, 1, .null), some (.istore_n 2, 1, .null), some (.aload_n 0, 1, .null), some (.iload_n 2, 1, .null), some (.invokevirtual 44, 3, .ref 31), none, none, some (.bipush 121, 2, .null), none, some (.if_icmp .ne 18, 3, .ref 32), none, none, some (.iload_n 1, 1, .null), some (.iload_n 2, 1, .null), some (.invokestatic 100, 3, .ref 50), none, none, some (.ifCond .eq 10, 3, .ref 32), none, none, some (.aload_n 0, 1, .null), some (.iload_n 2, 1, .null), some (.bipush 105, 2, .null), none, some (.invokevirtual 130, 3, .ref 32), none, none, some (.return_, 1, .null)]
/-- 57: StemRules$Porter.dropL(LStemRules$Letters;I)V -/
def ev_c57 : List (Option (Instr × Nat × Value)) := [some (.aload_n 0, 1, .null), some (.ldc 134, 2, .ref 13), none, some (.invokevirtual 73, 3, .ref 36), none, none, some (.ifCond .eq 25, 3, .ref 31), none, none, some (.iload_n 1, 1, .null), some (.aload_n 0, 1, .null), some (.invokevirtual 9, 3, .ref 30), none, none, some (.invokestatic 96, 3, .ref 48), none, none, some (.iconst 1, 1, .null), some (.if_icmp .le 13, 3, .ref 31), none, none, some (.aload_n 0, 1, .null), some (.aload_n 0, 1, .null), some (.invokevirtual 9, 3, .ref 30), none, none, some (.iconst 1, 1, .null), some (.isub, 1, .null), some (.invokevirtual 122, 3, .ref 34), none, none, some (.return_, 1, .null)]
/-- 58: StemRules$Tape.<init>()V -/
def ev_c58 : List (Option (Instr × Nat × Value)) := [some (.aload_n 0, 1, .null), some (.invokespecial 3, 3, .null), none, none, some (.aload_n 0, 1, .null), some (.sipush 400, 3, .null), none, none, some (.newarray .char, 2, .null), none, some (.putfield 9, 3, .ref 320), none, none, some (.return_, 1, .null)]
/-- 59: StemRules$Tape.size()I -/
def ev_c59 : List (Option (Instr × Nat × Value)) := [some (.aload_n 0, 1, .null), some (.getfield 15, 3, .ref 321), none, none, some (.ireturn, 1, .null)]
/-- 60: StemRules$Tape.hasRoomForFive()Z -/
def ev_c60 : List (Option (Instr × Nat × Value)) := [some (.aload_n 0, 1, .null), some (.getfield 15, 3, .ref 321), none, none, some (.bipush 20, 2, .null), none, some (.iadd, 1, .null), some (.sipush 400, 3, .null), none, none, some (.if_icmp .gt 7, 3, .ref 17), none, none, some (.iconst 1, 1, .null), some (.goto 4, 3, .ref 18), none, none, some (.iconst 0, 1, .null), some (.ireturn, 1, .null)]
/-- 61: StemRules$Tape.addNumber(I)V -/
def ev_c61 : List (Option (Instr × Nat × Value)) := [some (.bipush 24, 2, .null), none, some (.istore_n 2, 1, .null), some (.iload_n 2, 1, .null), some (.ifCond .lt 46, 3, .ref 50), none, none, some (.aload_n 0, 1, .null), some (.getfield 15, 3, .ref 321), none, none, some (.sipush 400, 3, .null), none, none, some (.if_icmp .ge 30, 3, .ref 44), none, none, some (.aload_n 0, 1, .null), some (.getfield 9, 3, .ref 320), none, none, some (.aload_n 0, 1, .null), some (.getfield 15, 3, .ref 321), none, none, some (.iload_n 1, 1, .null), some (.iload_n 2, 1, .null), some (.iushr, 1, .null), some (.sipush 255, 3, .null), none, none, some (.iand, 1, .null), some (.i2c, 1, .null), some (.castore, 1, .null), some (.aload_n 0, 1, .null), some (.dup, 1, .null), some (.getfield 15, 3, .ref 321), none, none, some (.iconst 1, 1, .null), some (.iadd, 1, .null), some (.putfield 15, 3, .ref 321), none, none, some (.iinc 2 (-8), 3, .null), none, none, some (.goto (-44), 3, .ref 3), none, none, some (.return_, 1, .null)]
/-- 62: StemRules$Tape.keep(I)V -/
def ev_c62 : List (Option (Instr × Nat × Value)) := [some (.iload_n 1, 1, .null), some (.ifCond .lt 16, 3, .ref 17), none, none, some (.iload_n 1, 1, .null), some (.aload_n 0, 1, .null), some (.getfield 15, 3, .ref 321), none, none, some (.if_icmp .ge 8, 3, .ref 17), none, none, some (.aload_n 0, 1, .null), some (.iload_n 1, 1, .null), some (.putfield 15, 3, .ref 321), none, none, some (.return_, 1, .null)]
/-- 63: StemRules$Tape.byteAt(I)C -/
def ev_c63 : List (Option (Instr × Nat × Value)) := [some (.iload_n 1, 1, .null), some (.ifCond .lt 20, 3, .ref 21), none, none, some (.iload_n 1, 1, .null), some (.aload_n 0, 1, .null), some (.getfield 15, 3, .ref 321), none, none, some (.if_icmp .ge 12, 3, .ref 21), none, none, some (.aload_n 0, 1, .null), some (.getfield 9, 3, .ref 320), none, none, some (.iload_n 1, 1, .null), some (.caload, 1, .null), some (.goto 4, 3, .ref 22), none, none, some (.iconst 0, 1, .null), some (.ireturn, 1, .null)]
/-- 64: StemRules$Tape.letterAt(I)C -/
def ev_c64 : List (Option (Instr × Nat × Value)) := [some (.aload_n 0, 1, .null), some (.iload_n 1, 1, .null), some (.invokevirtual 19, 3, .ref 63), none, none, some (.istore_n 2, 1, .null), some (.iload_n 2, 1, .null), some (.bipush 65, 2, .null), none, some (.if_icmp .lt 18, 3, .ref 27), none, none, some (.iload_n 2, 1, .null), some (.bipush 90, 2, .null), none, some (.if_icmp .gt 12, 3, .ref 27), none, none, some (.iload_n 2, 1, .null), some (.bipush 65, 2, .null), none, some (.isub, 1, .null), some (.bipush 97, 2, .null), none, some (.iadd, 1, .null), some (.i2c, 1, .null), some (.ireturn, 1, .null), some (.iload_n 2, 1, .null), some (.bipush 97, 2, .null), none, some (.if_icmp .lt 13, 3, .ref 43), none, none, some (.iload_n 2, 1, .null), some (.bipush 122, 2, .null), none, some (.if_icmp .gt 7, 3, .ref 43), none, none, some (.iload_n 2, 1, .null), some (.goto 4, 3, .ref 44), none, none, some (.iconst 0, 1, .null), some (.ireturn, 1, .null)]
/-- 65: StemRules$Tape.joinsAt(I)Z -/
def ev_c65 : List (Option (Instr × Nat × Value)) := [some (.aload_n 0, 1, .null), some (.iload_n 1, 1, .null), some (.invokevirtual 19, 3, .ref 63), none, none, some (.bipush 39, 2, .null), none, some (.if_icmp .ne 27, 3, .ref 34), none, none, some (.aload_n 0, 1, .null), some (.iload_n 1, 1, .null), some (.iconst 1, 1, .null), some (.isub, 1, .null), some (.invokevirtual 23, 3, .ref 64), none, none, some (.ifCond .eq 17, 3, .ref 34), none, none, some (.aload_n 0, 1, .null), some (.iload_n 1, 1, .null), some (.iconst 1, 1, .null), some (.iadd, 1, .null), some (.invokevirtual 23, 3, .ref 64), none, none, some (.ifCond .eq 7, 3, .ref 34), none, none, some (.iconst 1, 1, .null), some (.goto 4, 3, .ref 35), none, none, some (.iconst 0, 1, .null), some (.ireturn, 1, .null)]
/-- 66: StemRules$Tape.copyAsWord(LStemRules$Letters;)Z -/
def ev_c66 : List (Option (Instr × Nat × Value)) := [some (.aload_n 1, 1, .null), some (.iconst 0, 1, .null), some (.invokevirtual 26, 3, .ref 34), none, none, some (.aload_n 0, 1, .null), some (.getfield 15, 3, .ref 321), none, none, some (.iconst 1, 1, .null), some (.if_icmp .lt 12, 3, .ref 22), none, none, some (.aload_n 0, 1, .null), some (.getfield 15, 3, .ref 321), none, none, some (.bipush 24, 2, .null), none, some (.if_icmp .le 5, 3, .ref 24), none, none, some (.iconst 0, 1, .null), some (.ireturn, 1, .null), some (.iconst 0, 1, .null), some (.istore_n 2, 1, .null), some (.iload_n 2, 1, .null), some (.aload_n 0, 1, .null), some (.getfield 15, 3, .ref 321), none, none, some (.if_icmp .ge 35, 3, .ref 66), none, none, some (.aload_n 0, 1, .null), some (.getfield 9, 3, .ref 320), none, none, some (.iload_n 2, 1, .null), some (.caload, 1, .null), some (.istore_n 3, 1, .null), some (.iload_n 3, 1, .null), some (.bipush 97, 2, .null), none, some (.if_icmp .lt 9, 3, .ref 53), none, none, some (.iload_n 3, 1, .null), some (.bipush 122, 2, .null), none, some (.if_icmp .le 5, 3, .ref 55), none, none, some (.iconst 0, 1, .null), some (.ireturn, 1, .null), some (.aload_n 1, 1, .null), some (.iload_n 3, 1, .null), some (.invokevirtual 32, 3, .ref 33), none, none, some (.iinc 2 1, 3, .null), none, none, some (.goto (-37), 3, .ref 26), none, none, some (.iconst 1, 1, .null), some (.ireturn, 1, .null)]
/-- 67: StemRules$Tokens.<init>()V -/
def ev_c67 : List (Option (Instr × Nat × Value)) := [some (.aload_n 0, 1, .null), some (.invokespecial 3, 3, .null), none, none, some (.aload_n 0, 1, .null), some (.sipush 300, 3, .null), none, none, some (.newarray .int, 2, .null), none, some (.putfield 11, 3, .ref 384), none, none, some (.aload_n 0, 1, .null), some (.sipush 300, 3, .null), none, none, some (.newarray .int, 2, .null), none, some (.putfield 15, 3, .ref 387), none, none, some (.return_, 1, .null)]
/-- 68: StemRules$Tokens.count()I -/
def ev_c68 : List (Option (Instr × Nat × Value)) := [some (.aload_n 0, 1, .null), some (.getfield 18, 3, .ref 385), none, none, some (.ireturn, 1, .null)]
/-- 69: StemRules$Tokens.positions()I -/
def ev_c69 : List (Option (Instr × Nat × Value)) := [some (.aload_n 0, 1, .null), some (.getfield 22, 3, .ref 386), none, none, some (.ireturn, 1, .null)]
/-- 70: StemRules$Tokens.get(II)I -/
def ev_c70 : List (Option (Instr × Nat × Value)) := [some (.iload_n 1, 1, .null), some (.ifCond .lt 24, 3, .ref 25), none, none, some (.iload_n 1, 1, .null), some (.aload_n 0, 1, .null), some (.getfield 18, 3, .ref 385), none, none, some (.if_icmp .ge 16, 3, .ref 25), none, none, some (.iload_n 2, 1, .null), some (.ifCond .lt 12, 3, .ref 25), none, none, some (.iload_n 2, 1, .null), some (.iconst 5, 1, .null), some (.if_icmp .ge 7, 3, .ref 25), none, none, some (.iconst 1, 1, .null), some (.goto 4, 3, .ref 26), none, none, some (.iconst 0, 1, .null), some (.istore_n 3, 1, .null), some (.iload_n 3, 1, .null), some (.ifCond .eq 16, 3, .ref 44), none, none, some (.aload_n 0, 1, .null), some (.getfield 11, 3, .ref 384), none, none, some (.iload_n 1, 1, .null), some (.iconst 5, 1, .null), some (.imul, 1, .null), some (.iload_n 2, 1, .null), some (.iadd, 1, .null), some (.iaload, 1, .null), some (.goto 5, 3, .ref 46), none, none, some (.bipush (-5), 2, .null), none, some (.ireturn, 1, .null)]
/-- 71: StemRules$Tokens.begin()V -/
def ev_c71 : List (Option (Instr × Nat × Value)) := [some (.aload_n 0, 1, .null), some (.iconst 0, 1, .null), some (.putfield 25, 3, .ref 388), none, none, some (.aload_n 0, 1, .null), some (.iconst 0, 1, .null), some (.putfield 28, 3, .ref 389), none, none, some (.return_, 1, .null)]
/-- 72: StemRules$Tokens.haveRoom()Z -/
def ev_c72 : List (Option (Instr × Nat × Value)) := [some (.aload_n 0, 1, .null), some (.getfield 25, 3, .ref 388), none, none, some (.bipush 60, 2, .null), none, some (.if_icmp .ge 7, 3, .ref 13), none, none, some (.iconst 1, 1, .null), some (.goto 4, 3, .ref 14), none, none, some (.iconst 0, 1, .null), some (.ireturn, 1, .null)]
/-- 73: StemRules$Tokens.nextPosition()I -/
def ev_c73 : List (Option (Instr × Nat × Value)) := [some (.aload_n 0, 1, .null), some (.dup, 1, .null), some (.getfield 28, 3, .ref 389), none, none, some (.iconst 1, 1, .null), some (.iadd, 1, .null), some (.putfield 28, 3, .ref 389), none, none, some (.aload_n 0, 1, .null), some (.getfield 28, 3, .ref 389), none, none, some (.iconst 1, 1, .null), some (.isub, 1, .null), some (.ireturn, 1, .null)]
/-- 74: StemRules$Tokens.add(IIIII)V -/
def ev_c74 : List (Option (Instr × Nat × Value)) := [some (.aload_n 0, 1, .null), some (.invokevirtual 31, 3, .ref 72), none, none, some (.ifCond .ne 4, 3, .ref 8), none, none, some (.return_, 1, .null), some (.aload_n 0, 1, .null), some (.getfield 25, 3, .ref 388), none, none, some (.iconst 5, 1, .null), some (.imul, 1, .null), some (.istore 6, 2, .null), none, some (.aload_n 0, 1, .null), some (.getfield 15, 3, .ref 387), none, none, some (.iload 6, 2, .null), none, some (.iload_n 1, 1, .null), some (.iastore, 1, .null), some (.aload_n 0, 1, .null), some (.getfield 15, 3, .ref 387), none, none, some (.iload 6, 2, .null), none, some (.iconst 1, 1, .null), some (.iadd, 1, .null), some (.iload_n 2, 1, .null), some (.iastore, 1, .null), some (.aload_n 0, 1, .null), some (.getfield 15, 3, .ref 387), none, none, some (.iload 6, 2, .null), none, some (.iconst 2, 1, .null), some (.iadd, 1, .null), some (.iload_n 3, 1, .null), some (.iastore, 1, .null), some (.aload_n 0, 1, .null), some (.getfield 15, 3, .ref 387), none, none, some (.iload 6, 2, .null), none, some (.iconst 3, 1, .null), some (.iadd, 1, .null), some (.iload 4, 2, .null), none, some (.iastore, 1, .null), some (.aload_n 0, 1, .null), some (.getfield 15, 3, .ref 387), none, none, some (.iload 6, 2, .null), none, some (.iconst 4, 1, .null), some (.iadd, 1, .null), some (.iload 5, 2, .null), none, some (.iastore, 1, .null), some (.aload_n 0, 1, .null), some (.dup, 1, .null), some (.getfield 25, 3, .ref 388), none, none, some (.iconst 1, 1, .null), some (.iadd, 1, .null), some (.putfield 25, 3, .ref 388), none, none, some (.return_, 1, .null)]
/-- 75: StemRules$Tokens.keep()V -/
def ev_c75 : List (Option (Instr × Nat × Value)) := [some (.aload_n 0, 1, .null), some (.getfield 15, 3, .ref 387), none, none, some (.iconst 0, 1, .null), some (.aload_n 0, 1, .null), some (.getfield 11, 3, .ref 384), none, none, some (.iconst 0, 1, .null), some (.aload_n 0, 1, .null), some (.getfield 25, 3, .ref 388), none, none, some (.iconst 5, 1, .null), some (.imul, 1, .null), some (.invokestatic 35, 3, .null), none, none, some (.aload_n 0, 1, .null), some (.aload_n 0, 1, .null), some (.getfield 25, 3, .ref 388), none, none, some (.putfield 18, 3, .ref 385), none, none, some (.aload_n 0, 1, .null), some (.aload_n 0, 1, .null), some (.getfield 28, 3, .ref 389), none, none, some (.putfield 22, 3, .ref 386), none, none, some (.return_, 1, .null)]
/-- 76: StemRules$Words.<init>()V -/
def ev_c76 : List (Option (Instr × Nat × Value)) := [some (.aload_n 0, 1, .null), some (.invokespecial 3, 3, .null), none, none, some (.aload_n 0, 1, .null), some (.sipush 3600, 3, .null), none, none, some (.newarray .char, 2, .null), none, some (.putfield 9, 3, .ref 448), none, none, some (.aload_n 0, 1, .null), some (.sipush 150, 3, .null), none, none, some (.newarray .int, 2, .null), none, some (.putfield 15, 3, .ref 449), none, none, some (.aload_n 0, 1, .null), some (.sipush 150, 3, .null), none, none, some (.newarray .int, 2, .null), none, some (.putfield 19, 3, .ref 450), none, none, some (.aload_n 0, 1, .null), some (.sipush 450, 3, .null), none, none, some (.newarray .boolean, 2, .null), none, some (.putfield 22, 3, .ref 451), none, none, some (.return_, 1, .null)]
/-- 77: StemRules$Words.count()I -/
def ev_c77 : List (Option (Instr × Nat × Value)) := [some (.aload_n 0, 1, .null), some (.getfield 26, 3, .ref 452), none, none, some (.ireturn, 1, .null)]
/-- 78: StemRules$Words.knows(I)Z -/
def ev_c78 : List (Option (Instr × Nat × Value)) := [some (.iload_n 1, 1, .null), some (.ifCond .lt 15, 3, .ref 16), none, none, some (.iload_n 1, 1, .null), some (.aload_n 0, 1, .null), some (.getfield 26, 3, .ref 452), none, none, some (.if_icmp .ge 7, 3, .ref 16), none, none, some (.iconst 1, 1, .null), some (.goto 4, 3, .ref 17), none, none, some (.iconst 0, 1, .null), some (.ireturn, 1, .null)]
/-- 79: StemRules$Words.knowsOrNone(I)Z -/
def ev_c79 : List (Option (Instr × Nat × Value)) := [some (.iload_n 1, 1, .null), some (.bipush (-5), 2, .null), none, some (.if_icmp .eq 11, 3, .ref 14), none, none, some (.aload_n 0, 1, .null), some (.iload_n 1, 1, .null), some (.invokevirtual 30, 3, .ref 78), none, none, some (.ifCond .eq 7, 3, .ref 18), none, none, some (.iconst 1, 1, .null), some (.goto 4, 3, .ref 19), none, none, some (.iconst 0, 1, .null), some (.ireturn, 1, .null)]
/-- 80: StemRules$Words.sizeOf(I)I -/
def ev_c80 : List (Option (Instr × Nat × Value)) := [some (.aload_n 0, 1, .null), some (.iload_n 1, 1, .null), some (.invokevirtual 30, 3, .ref 78), none, none, some (.ifCond .eq 12, 3, .ref 17), none, none, some (.aload_n 0, 1, .null), some (.getfield 15, 3, .ref 449), none, none, some (.iload_n 1, 1, .null), some (.iaload, 1, .null), some (.goto 4, 3, .ref 18), none, none, some (.iconst 0, 1, .null), some (.ireturn, 1, .null)]
/-- 81: StemRules$Words.copyTo(ILStemRules$Letters;)V -/
def ev_c81 : List (Option (Instr × Nat × Value)) := [some (.aload_n 2, 1, .null), some (.iconst 0, 1, .null), some (.invokevirtual 34, 3, .ref 34), none, none, some (.aload_n 0, 1, .null), some (.iload_n 1, 1, .null), some (.iconst 0, 1, .null), some (.aload_n 2, 1, .null), some (.invokevirtual 40, 3, .ref 82), none, none, some (.return_, 1, .null)]
/-- 82: StemRules$Words.addTo(IILStemRules$Letters;)V -/
def ev_c82 : List (Option (Instr × Nat × Value)) := [some (.aload_n 0, 1, .null), some (.iload_n 1, 1, .null), some (.invokevirtual 30, 3, .ref 78), none, none, some (.ifCond .eq 7, 3, .ref 12), none, none, some (.iload_n 2, 1, .null), some (.ifCond .ge 4, 3, .ref 13), none, none, some (.return_, 1, .null), some (.iload_n 2, 1, .null), some (.istore 4, 2, .null), none, some (.iload 4, 2, .null), none, some (.aload_n 0, 1, .null), some (.getfield 15, 3, .ref 449), none, none, some (.iload_n 1, 1, .null), some (.iaload, 1, .null), some (.if_icmp .ge 25, 3, .ref 49), none, none, some (.aload_n 3, 1, .null), some (.aload_n 0, 1, .null), some (.getfield 9, 3, .ref 448), none, none, some (.iload_n 1, 1, .null), some (.bipush 24, 2, .null), none, some (.imul, 1, .null), some (.iload 4, 2, .null), none, some (.iadd, 1, .null), some (.caload, 1, .null), some (.invokevirtual 44, 3, .ref 33), none, none, some (.iinc 4 1, 3, .null), none, none, some (.goto (-30), 3, .ref 16), none, none, some (.return_, 1, .null)]
/-- 83: StemRules$Words.standsAt(ILStemRules$Letters;I)Z -/
def ev_c83 : List (Option (Instr × Nat × Value)) := [some (.aload_n 0, 1, .null), some (.iload_n 1, 1, .null), some (.invokevirtual 30, 3, .ref 78), none, none, some (.ifCond .eq 22, 3, .ref 27), none, none, some (.iload_n 3, 1, .null), some (.ifCond .lt 18, 3, .ref 27), none, none, some (.iload_n 3, 1, .null), some (.aload_n 0, 1, .null), some (.getfield 15, 3, .ref 449), none, none, some (.iload_n 1, 1, .null), some (.iaload, 1, .null), some (.iadd, 1, .null), some (.aload_n 2, 1, .null), some (.invokevirtual 48, 3, .ref 30), none, none, some (.if_icmp .le 5, 3, .ref 29), none, none, some (.iconst 0, 1, .null), some (.ireturn, 1, .null), some (.iconst 0, 1, .null), some (.istore 4, 2, .null), none, some (.iload 4, 2, .null), none, some (.aload_n 0, 1, .null), some (.getfield 15, 3, .ref 449), none, none, some (.iload_n 1, 1, .null), some (.iaload, 1, .null), some (.if_icmp .ge 34, 3, .ref 74), none, none, some (.aload_n 0, 1, .null), some (.getfield 9, 3, .ref 448), none, none, some (.iload_n 1, 1, .null), some (.bipush 24, 2, .null), none, some (.imul, 1, .null), some (.iload 4, 2, .null), none, some (.iadd, 1, .null), some (.caload, 1, .null), some (.aload_n 2, 1, .null), some (.iload_n 3, 1, .null), some (.iload 4, 2, .null), none, some (.iadd, 1, .null), some (.invokevirtual 52, 3, .ref 31), none, none, some (.if_icmp .eq 5, 3, .ref 68), none, none, some (.iconst 0, 1, .null), some (.ireturn, 1, .null), some (.iinc 4 1, 3, .null), none, none, some (.goto (-39), 3, .ref 32), none, none, some (.iconst 1, 1, .null), some (.ireturn, 1, .null)]
/-- 84: StemRules$Words.standsBehind(ILStemRules$Letters;)Z -/
def ev_c84 : List (Option (Instr × Nat × Value)) := [some (.aload_n 0, 1, .null), some (.iload_n 1, 1, .null), some (.aload_n 2, 1, .null), some (.aload_n 2, 1, .null), some (.invokevirtual 48, 3, .ref 30), none, none, some (.aload_n 0, 1, .null), some (.iload_n 1, 1, .null), some (.invokevirtual 56, 3, .ref 80), none, none, some (.isub, 1, .null), some (.invokevirtual 60, 3, .ref 83), none, none, some (.ireturn, 1, .null)]
/-- 85: StemRules$Words.find(LStemRules$Letters;)I -/
def ev_c85 : List (Option (Instr × Nat × Value)) := [some (.iconst 0, 1, .null), some (.istore_n 2, 1, .null), some (.iload_n 2, 1, .null), some (.aload_n 0, 1, .null), some (.getfield 26, 3, .ref 452), none, none, some (.if_icmp .ge 34, 3, .ref 41), none, none, some (.aload_n 0, 1, .null), some (.getfield 15, 3, .ref 449), none, none, some (.iload_n 2, 1, .null), some (.iaload, 1, .null), some (.aload_n 1, 1, .null), some (.invokevirtual 48, 3, .ref 30), none, none, some (.if_icmp .ne 15, 3, .ref 35), none, none, some (.aload_n 0, 1, .null), some (.iload_n 2, 1, .null), some (.aload_n 1, 1, .null), some (.iconst 0, 1, .null), some (.invokevirtual 60, 3, .ref 83), none, none, some (.ifCond .eq 5, 3, .ref 35), none, none, some (.iload_n 2, 1, .null), some (.ireturn, 1, .null), some (.iinc 2 1, 3, .null), none, none, some (.goto (-36), 3, .ref 2), none, none, some (.bipush (-5), 2, .null), none, some (.ireturn, 1, .null)]
/-- 86: StemRules$Words.learn(LStemRules$Letters;)I -/
def ev_c86 : List (Option (Instr × Nat × Value)) := [some (.aload_n 0, 1, .null), some (.aload_n 1, 1, .null), some (.invokevirtual 64, 3, .ref 85), none, none, some (.istore_n 2, 1, .null), some (.iload_n 2, 1, .null), some (.bipush (-5), 2, .null), none, some (.if_icmp .eq 5, 3, .ref 14), none, none, some (.iload_n 2, 1, .null), some (.ireturn, 1, .null), some (.aload_n 0, 1, .null), some (.getfield 26, 3, .ref 452), none, none, some (.sipush 150, 3, .null), none, none, some (.if_icmp .lt 6, 3, .ref 27), none, none, some (.bipush (-4), 2, .null), none, some (.ireturn, 1, .null), some (.aload_n 0, 1, .null), some (.getfield 26, 3, .ref 452), none, none, some (.istore_n 2, 1, .null), some (.aload_n 0, 1, .null), some (.dup, 1, .null), some (.getfield 26, 3, .ref 452), none, none, some (.iconst 1, 1, .null), some (.iadd, 1, .null), some (.putfield 26, 3, .ref 452), none, none, some (.aload_n 0, 1, .null), some (.getfield 15, 3, .ref 449), none, none, some (.iload_n 2, 1, .null), some (.aload_n 1, 1, .null), some (.invokevirtual 48, 3, .ref 30), none, none, some (.iastore, 1, .null), some (.iconst 0, 1, .null), some (.istore_n 3, 1, .null), some (.iload_n 3, 1, .null), some (.aload_n 1, 1, .null), some (.invokevirtual 48, 3, .ref 30), none, none, some (.if_icmp .ge 25, 3, .ref 84), none, none, some (.aload_n 0, 1, .null), some (.getfield 9, 3, .ref 448), none, none, some (.iload_n 2, 1, .null), some (.bipush 24, 2, .null), none, some (.imul, 1, .null), some (.iload_n 3, 1, .null), some (.iadd, 1, .null), some (.aload_n 1, 1, .null), some (.iload_n 3, 1, .null), some (.invokevirtual 52, 3, .ref 31), none, none, some (.castore, 1, .null), some (.iinc 3 1, 3, .null), none, none, some (.goto (-27), 3, .ref 54), none, none, some (.aload_n 0, 1, .null), some (.getfield 19, 3, .ref 450), none, none, some (.iload_n 2, 1, .null), some (.bipush (-5), 2, .null), none, some (.iastore, 1, .null), some (.iload_n 2, 1, .null), some (.ireturn, 1, .null)]
/-- 87: StemRules$Words.forgetFrom(I)V -/
def ev_c87 : List (Option (Instr × Nat × Value)) := [some (.iload_n 1, 1, .null), some (.ifCond .lt 16, 3, .ref 17), none, none, some (.iload_n 1, 1, .null), some (.aload_n 0, 1, .null), some (.getfield 26, 3, .ref 452), none, none, some (.if_icmp .ge 8, 3, .ref 17), none, none, some (.aload_n 0, 1, .null), some (.iload_n 1, 1, .null), some (.putfield 26, 3, .ref 452), none, none, some (.return_, 1, .null)]
/-- 88: StemRules$Words.isMarked(II)Z -/
def ev_c88 : List (Option (Instr × Nat × Value)) := [some (.iload_n 1, 1, .null), some (.ifCond .lt 33, 3, .ref 34), none, none, some (.iload_n 1, 1, .null), some (.iconst 3, 1, .null), some (.if_icmp .ge 28, 3, .ref 34), none, none, some (.aload_n 0, 1, .null), some (.iload_n 2, 1, .null), some (.invokevirtual 30, 3, .ref 78), none, none, some (.ifCond .eq 20, 3, .ref 34), none, none, some (.aload_n 0, 1, .null), some (.getfield 22, 3, .ref 451), none, none, some (.iload_n 2, 1, .null), some (.iconst 3, 1, .null), some (.imul, 1, .null), some (.iload_n 1, 1, .null), some (.iadd, 1, .null), some (.baload, 1, .null), some (.ifCond .eq 7, 3, .ref 34), none, none, some (.iconst 1, 1, .null), some (.goto 4, 3, .ref 35), none, none, some (.iconst 0, 1, .null), some (.ireturn, 1, .null)]
/-- 89: StemRules$Words.setMark(IIZ)V -/
def ev_c89 : List (Option (Instr × Nat × Value)) := [some (.iload_n 1, 1, .null), some (.ifCond .lt 27, 3, .ref 28), none, none, some (.iload_n 1, 1, .null), some (.iconst 3, 1, .null), some (.if_icmp .ge 22, 3, .ref 28), none, none, some (.aload_n 0, 1, .null), some (.iload_n 2, 1, .null), some (.invokevirtual 30, 3, .ref 78), none, none, some (.ifCond .eq 14, 3, .ref 28), none, none, some (.aload_n 0, 1, .null), some (.getfield 22, 3, .ref 451), none, none, some (.iload_n 2, 1, .null), some (.iconst 3, 1, .null), some (.imul, 1, .null), some (.iload_n 1, 1, .null), some (.iadd, 1, .null), some (.iload_n 3, 1, .null), some (.bastore, 1, .null), some (.return_, 1, .null)]
/-- 90: StemRules$Words.pairOf(I)I -/
def ev_c90 : List (Option (Instr × Nat × Value)) := [some (.aload_n 0, 1, .null), some (.iload_n 1, 1, .null), some (.invokevirtual 30, 3, .ref 78), none, none, some (.ifCond .eq 12, 3, .ref 17), none, none, some (.aload_n 0, 1, .null), some (.getfield 19, 3, .ref 450), none, none, some (.iload_n 1, 1, .null), some (.iaload, 1, .null), some (.goto 5, 3, .ref 19), none, none, some (.bipush (-5), 2, .null), none, some (.ireturn, 1, .null)]
/-- 91: StemRules$Words.setPair(II)V -/
def ev_c91 : List (Option (Instr × Nat × Value)) := [some (.aload_n 0, 1, .null), some (.iload_n 1, 1, .null), some (.invokevirtual 30, 3, .ref 78), none, none, some (.ifCond .eq 10, 3, .ref 15), none, none, some (.aload_n 0, 1, .null), some (.getfield 19, 3, .ref 450), none, none, some (.iload_n 1, 1, .null), some (.iload_n 2, 1, .null), some (.iastore, 1, .null), some (.return_, 1, .null)]
/-- 92: StemRules.<init>()V -/
def ev_c92 : List (Option (Instr × Nat × Value)) := [some (.aload_n 0, 1, .null), some (.invokespecial 1, 3, .null), none, none, some (.aload_n 0, 1, .null), some (.new 7, 3, .ref 5), none, none, some (.dup, 1, .null), some (.invokespecial 9, 3, .ref 100058), none, none, some (.putfield 10, 3, .ref 512), none, none, some (.aload_n 0, 1, .null), some (.new 16, 3, .ref 7), none, none, some (.dup, 1, .null), some (.invokespecial 18, 3, .ref 100076), none, none, some (.putfield 19, 3, .ref 513), none, none, some (.aload_n 0, 1, .null), some (.new 23, 3, .ref 3), none, none, some (.dup, 1, .null), some (.invokespecial 25, 3, .ref 100029), none, none, some (.putfield 26, 3, .ref 514), none, none, some (.aload_n 0, 1, .null), some (.new 23, 3, .ref 3), none, none, some (.dup, 1, .null), some (.invokespecial 25, 3, .ref 100029), none, none, some (.putfield 30, 3, .ref 515), none, none, some (.aload_n 0, 1, .null), some (.new 33, 3, .ref 2), none, none, some (.dup, 1, .null), some (.invokespecial 35, 3, .ref 100014), none, none, some (.putfield 36, 3, .ref 516), none, none, some (.aload_n 0, 1, .null), some (.new 40, 3, .ref 0), none, none, some (.dup, 1, .null), some (.invokespecial 42, 3, .ref 100000), none, none, some (.putfield 43, 3, .ref 517), none, none, some (.aload_n 0, 1, .null), some (.new 47, 3, .ref 4), none, none, some (.dup, 1, .null), some (.invokespecial 49, 3, .ref 100039), none, none, some (.putfield 50, 3, .ref 518), none, none, some (.aload_n 0, 1, .null), some (.new 54, 3, .ref 1), none, none, some (.dup, 1, .null), some (.invokespecial 56, 3, .ref 100007), none, none, some (.putfield 57, 3, .ref 519), none, none, some (.aload_n 0, 1, .null), some (.new 61, 3, .ref 6), none, none, some (.dup, 1, .null), some (.invokespecial 63, 3, .ref 100067), none, none, some (.putfield 64, 3, .ref 520), none, none, some (.return_, 1, .null)]
/-- 93: StemRules.feed(IIIII)I -/
def ev_c93 : List (Option (Instr × Nat × Value)) := [some (.aload_n 0, 1, .null), some (.getfield 10, 3, .ref 512), none, none, some (.invokevirtual 68, 3, .ref 60), none, none, some (.ifCond .ne 6, 3, .ref 13), none, none, some (.bipush (-4), 2, .null), none, some (.ireturn, 1, .null), some (.aload_n 0, 1, .null), some (.getfield 10, 3, .ref 512), none, none, some (.iload_n 1, 1, .null), some (.invokevirtual 72, 3, .ref 61), none, none, some (.aload_n 0, 1, .null), some (.getfield 10, 3, .ref 512), none, none, some (.iload_n 2, 1, .null), some (.invokevirtual 72, 3, .ref 61), none, none, some (.aload_n 0, 1, .null), some (.getfield 10, 3, .ref 512), none, none, some (.iload_n 3, 1, .null), some (.invokevirtual 72, 3, .ref 61), none, none, some (.aload_n 0, 1, .null), some (.getfield 10, 3, .ref 512), none, none, some (.iload 4, 2, .null), none, some (.invokevirtual 72, 3, .ref 61), none, none, some (.aload_n 0, 1, .null), some (.getfield 10, 3, .ref 512), none, none, some (.iload 5, 2, .null), none, some (.invokevirtual 72, 3, .ref 61), none, none, some (.aload_n 0, 1, .null), some (.getfield 10, 3, .ref 512), none, none, some (.invokevirtual 76, 3, .ref 59), none, none, some (.ireturn, 1, .null)]
/-- 94: StemRules.cut(I)I -/
def ev_c94 : List (Option (Instr × Nat × Value)) := [some (.aload_n 0, 1, .null), some (.getfield 10, 3, .ref 512), none, none, some (.invokevirtual 76, 3, .ref 59), none, none, some (.istore_n 2, 1, .null), some (.iload_n 1, 1, .null), some (.ifCond .lt 8, 3, .ref 17), none, none, some (.iload_n 1, 1, .null), some (.iload_n 2, 1, .null), some (.if_icmp .le 6, 3, .ref 20), none, none, some (.bipush (-2), 2, .null), none, some (.ireturn, 1, .null), some (.aload_n 0, 1, .null), some (.getfield 10, 3, .ref 512), none, none, some (.iload_n 1, 1, .null), some (.invokevirtual 80, 3, .ref 62), none, none, some (.iload_n 2, 1, .null), some (.iload_n 1, 1, .null), some (.isub, 1, .null), some (.ireturn, 1, .null)]
/-- 95: StemRules.out(I)I -/
def ev_c95 : List (Option (Instr × Nat × Value)) := [some (.iload_n 1, 1, .null), some (.iconst (-1), 1, .null), some (.if_icmp .ne 11, 3, .ref 13), none, none, some (.aload_n 0, 1, .null), some (.getfield 26, 3, .ref 514), none, none, some (.invokevirtual 83, 3, .ref 30), none, none, some (.ireturn, 1, .null), some (.iload_n 1, 1, .null), some (.ifCond .lt 25, 3, .ref 39), none, none, some (.iload_n 1, 1, .null), some (.aload_n 0, 1, .null), some (.getfield 26, 3, .ref 514), none, none, some (.invokevirtual 83, 3, .ref 30), none, none, some (.if_icmp .ge 14, 3, .ref 39), none, none, some (.aload_n 0, 1, .null), some (.getfield 26, 3, .ref 514), none, none, some (.iload_n 1, 1, .null), some (.invokevirtual 84, 3, .ref 31), none, none, some (.goto 5, 3, .ref 41), none, none, some (.bipush (-2), 2, .null), none, some (.ireturn, 1, .null)]
/-- 96: StemRules.word()I -/
def ev_c96 : List (Option (Instr × Nat × Value)) := [some (.aload_n 0, 1, .null), some (.getfield 10, 3, .ref 512), none, none, some (.aload_n 0, 1, .null), some (.getfield 30, 3, .ref 515), none, none, some (.invokevirtual 88, 3, .ref 66), none, none, some (.istore_n 1, 1, .null), some (.aload_n 0, 1, .null), some (.getfield 10, 3, .ref 512), none, none, some (.iconst 0, 1, .null), some (.invokevirtual 80, 3, .ref 62), none, none, some (.iload_n 1, 1, .null), some (.ifCond .eq 17, 3, .ref 38), none, none, some (.aload_n 0, 1, .null), some (.getfield 19, 3, .ref 513), none, none, some (.aload_n 0, 1, .null), some (.getfield 30, 3, .ref 515), none, none, some (.invokevirtual 92, 3, .ref 86), none, none, some (.goto 5, 3, .ref 40), none, none, some (.bipush (-2), 2, .null), none, some (.ireturn, 1, .null)]
/-- 97: StemRules.spell(I)I -/
def ev_c97 : List (Option (Instr × Nat × Value)) := [some (.aload_n 0, 1, .null), some (.getfield 19, 3, .ref 513), none, none, some (.iload_n 1, 1, .null), some (.invokevirtual 96, 3, .ref 78), none, none, some (.ifCond .ne 5, 3, .ref 13), none, none, some (.iconst (-1), 1, .null), some (.ireturn, 1, .null), some (.aload_n 0, 1, .null), some (.getfield 19, 3, .ref 513), none, none, some (.iload_n 1, 1, .null), some (.aload_n 0, 1, .null), some (.getfield 26, 3, .ref 514), none, none, some (.invokevirtual 100, 3, .ref 81), none, none, some (.aload_n 0, 1, .null), some (.getfield 26, 3, .ref 514), none, none, some (.invokevirtual 83, 3, .ref 30), none, none, some (.ireturn, 1, .null)]
/-- 98: StemRules.stem(II)I -/
def ev_c98 : List (Option (Instr × Nat × Value)) := [some (.aload_n 0, 1, .null), some (.getfield 19, 3, .ref 513), none, none, some (.iload_n 2, 1, .null), some (.invokevirtual 96, 3, .ref 78), none, none, some (.ifCond .ne 5, 3, .ref 13), none, none, some (.iconst (-1), 1, .null), some (.ireturn, 1, .null), some (.iload_n 1, 1, .null), some (.invokestatic 104, 3, .ref 113), none, none, some (.ifCond .ne 6, 3, .ref 23), none, none, some (.bipush (-2), 2, .null), none, some (.ireturn, 1, .null), some (.aload_n 0, 1, .null), some (.iload_n 1, 1, .null), some (.iload_n 2, 1, .null), some (.aload_n 0, 1, .null), some (.getfield 26, 3, .ref 514), none, none, some (.invokevirtual 107, 3, .ref 114), none, none, some (.aload_n 0, 1, .null), some (.getfield 26, 3, .ref 514), none, none, some (.invokevirtual 83, 3, .ref 30), none, none, some (.ireturn, 1, .null)]
/-- 99: StemRules.step(II)I -/
def ev_c99 : List (Option (Instr × Nat × Value)) := [some (.aload_n 0, 1, .null), some (.getfield 19, 3, .ref 513), none, none, some (.iload_n 1, 1, .null), some (.invokevirtual 96, 3, .ref 78), none, none, some (.ifCond .ne 5, 3, .ref 13), none, none, some (.iconst (-1), 1, .null), some (.ireturn, 1, .null), some (.iload_n 2, 1, .null), some (.ifCond .lt 9, 3, .ref 23), none, none, some (.iload_n 2, 1, .null), some (.bipush 7, 2, .null), none, some (.if_icmp .le 6, 3, .ref 26), none, none, some (.bipush (-2), 2, .null), none, some (.ireturn, 1, .null), some (.aload_n 0, 1, .null), some (.getfield 19, 3, .ref 513), none, none, some (.iload_n 1, 1, .null), some (.aload_n 0, 1, .null), some (.getfield 26, 3, .ref 514), none, none, some (.invokevirtual 100, 3, .ref 81), none, none, some (.aload_n 0, 1, .null), some (.getfield 26, 3, .ref 514), none, none, some (.iload_n 2, 1, .null), some (.invokestatic 111, 3, .ref 46), none, none, some (.aload_n 0, 1, .null), some (.getfield 26, 3, .ref 514), none, none, some (.invokevirtual 83, 3, .ref 30), none, none, some (.ireturn, 1, .null)]
/-- 100: StemRules.measure(I)I -/
def ev_c100 : List (Option (Instr × Nat × Value)) := [some (.aload_n 0, 1, .null), some (.getfield 19, 3, .ref 513), none, none, some (.iload_n 1, 1, .null), some (.invokevirtual 96, 3, .ref 78), none, none, some (.ifCond .ne 5, 3, .ref 13), none, none, some (.iconst (-1), 1, .null), some (.ireturn, 1, .null), some (.aload_n 0, 1, .null), some (.getfield 19, 3, .ref 513), none, none, some (.iload_n 1, 1, .null), some (.aload_n 0, 1, .null), some (.getfield 30, 3, .ref 515), none, none, some (.invokevirtual 100, 3, .ref 81), none, none, some (.aload_n 0, 1, .null), some (.getfield 30, 3, .ref 515), none, none, some (.invokestatic 117, 3, .ref 47), none, none, some (.aload_n 0, 1, .null), some (.getfield 30, 3, .ref 515), none, none, some (.invokevirtual 83, 3, .ref 30), none, none, some (.invokestatic 120, 3, .ref 48), none, none, some (.ireturn, 1, .null)]
/-- 101: StemRules.mark(IIZ)I -/
def ev_c101 : List (Option (Instr × Nat × Value)) := [some (.aload_n 0, 1, .null), some (.getfield 19, 3, .ref 513), none, none, some (.iload_n 2, 1, .null), some (.invokevirtual 96, 3, .ref 78), none, none, some (.ifCond .ne 5, 3, .ref 13), none, none, some (.iconst (-1), 1, .null), some (.ireturn, 1, .null), some (.iload_n 1, 1, .null), some (.ifCond .lt 8, 3, .ref 22), none, none, some (.iload_n 1, 1, .null), some (.iconst 3, 1, .null), some (.if_icmp .lt 6, 3, .ref 25), none, none, some (.bipush (-2), 2, .null), none, some (.ireturn, 1, .null), some (.aload_n 0, 1, .null), some (.getfield 19, 3, .ref 513), none, none, some (.iload_n 1, 1, .null), some (.iload_n 2, 1, .null), some (.invokevirtual 124, 3, .ref 88), none, none, some (.iload_n 3, 1, .null), some (.if_icmp .ne 5, 3, .ref 40), none, none, some (.iconst 0, 1, .null), some (.ireturn, 1, .null), some (.aload_n 0, 1, .null), some (.getfield 19, 3, .ref 513), none, none, some (.iload_n 1, 1, .null), some (.iload_n 2, 1, .null), some (.iload_n 3, 1, .null), some (.invokevirtual 128, 3, .ref 89), none, none, some (.iconst 1, 1, .null), some (.ireturn, 1, .null)]
/-- 102: StemRules.pair(II)I -/
def ev_c102 : List (Option (Instr × Nat × Value)) := [some (.aload_n 0, 1, .null), some (.getfield 19, 3, .ref 513), none, none, some (.iload_n 1, 1, .null), some (.invokevirtual 96, 3, .ref 78), none, none, some (.ifCond .eq 14, 3, .ref 22), none, none, some (.aload_n 0, 1, .null), some (.getfield 19, 3, .ref 513), none, none, some (.iload_n 2, 1, .null), some (.invokevirtual 132, 3, .ref 79), none, none, some (.ifCond .ne 5, 3, .ref 24), none, none, some (.iconst (-1), 1, .null), some (.ireturn, 1, .null), some (.aload_n 0, 1, .null), some (.getfield 19, 3, .ref 513), none, none, some (.iload_n 1, 1, .null), some (.invokevirtual 135, 3, .ref 90), none, none, some (.istore_n 3, 1, .null), some (.aload_n 0, 1, .null), some (.getfield 19, 3, .ref 513), none, none, some (.iload_n 1, 1, .null), some (.iload_n 2, 1, .null), some (.invokevirtual 139, 3, .ref 91), none, none, some (.iload_n 3, 1, .null), some (.ireturn, 1, .null)]
/-- 103: StemRules.row(IZIIZ)I -/
def ev_c103 : List (Option (Instr × Nat × Value)) := [some (.aload_n 0, 1, .null), some (.getfield 19, 3, .ref 513), none, none, some (.iload_n 1, 1, .null), some (.invokevirtual 96, 3, .ref 78), none, none, some (.ifCond .eq 15, 3, .ref 23), none, none, some (.aload_n 0, 1, .null), some (.getfield 19, 3, .ref 513), none, none, some (.iload 4, 2, .null), none, some (.invokevirtual 132, 3, .ref 79), none, none, some (.ifCond .ne 5, 3, .ref 25), none, none, some (.iconst (-1), 1, .null), some (.ireturn, 1, .null), some (.aload_n 0, 1, .null), some (.getfield 19, 3, .ref 513), none, none, some (.iload_n 1, 1, .null), some (.invokevirtual 143, 3, .ref 80), none, none, some (.bipush 8, 2, .null), none, some (.if_icmp .gt 26, 3, .ref 61), none, none, some (.aload_n 0, 1, .null), some (.getfield 19, 3, .ref 513), none, none, some (.iload 4, 2, .null), none, some (.invokevirtual 143, 3, .ref 80), none, none, some (.iconst 4, 1, .null), some (.if_icmp .gt 13, 3, .ref 61), none, none, some (.iload_n 3, 1, .null), some (.ifCond .lt 9, 3, .ref 61), none, none, some (.iload_n 3, 1, .null), some (.bipush 8, 2, .null), none, some (.if_icmp .le 6, 3, .ref 64), none, none, some (.bipush (-2), 2, .null), none, some (.ireturn, 1, .null), some (.aload_n 0, 1, .null), some (.getfield 36, 3, .ref 516), none, none, some (.iload_n 1, 1, .null), some (.iload_n 2, 1, .null), some (.iload_n 3, 1, .null), some (.iload 4, 2, .null), none, some (.iload 5, 2, .null), none, some (.invokevirtual 146, 3, .ref 17), none, none, some (.ireturn, 1, .null)]
/-- 104: StemRules.rowless()I -/
def ev_c104 : List (Option (Instr × Nat × Value)) := [some (.aload_n 0, 1, .null), some (.getfield 36, 3, .ref 516), none, none, some (.invokevirtual 150, 3, .ref 15), none, none, some (.istore_n 1, 1, .null), some (.aload_n 0, 1, .null), some (.getfield 36, 3, .ref 516), none, none, some (.invokevirtual 153, 3, .ref 16), none, none, some (.iload_n 1, 1, .null), some (.ireturn, 1, .null)]
/-- 105: StemRules.affix(ZII)I -/
def ev_c105 : List (Option (Instr × Nat × Value)) := [some (.aload_n 0, 1, .null), some (.getfield 19, 3, .ref 513), none, none, some (.iload_n 2, 1, .null), some (.invokevirtual 96, 3, .ref 78), none, none, some (.ifCond .eq 14, 3, .ref 22), none, none, some (.aload_n 0, 1, .null), some (.getfield 19, 3, .ref 513), none, none, some (.iload_n 3, 1, .null), some (.invokevirtual 132, 3, .ref 79), none, none, some (.ifCond .ne 5, 3, .ref 24), none, none, some (.iconst (-1), 1, .null), some (.ireturn, 1, .null), some (.aload_n 0, 1, .null), some (.getfield 19, 3, .ref 513), none, none, some (.iload_n 2, 1, .null), some (.invokevirtual 143, 3, .ref 80), none, none, some (.bipush 8, 2, .null), none, some (.if_icmp .gt 16, 3, .ref 50), none, none, some (.aload_n 0, 1, .null), some (.getfield 19, 3, .ref 513), none, none, some (.iload_n 3, 1, .null), some (.invokevirtual 143, 3, .ref 80), none, none, some (.bipush 8, 2, .null), none, some (.if_icmp .le 6, 3, .ref 53), none, none, some (.bipush (-2), 2, .null), none, some (.ireturn, 1, .null), some (.aload_n 0, 1, .null), some (.getfield 43, 3, .ref 517), none, none, some (.iload_n 1, 1, .null), some (.iload_n 2, 1, .null), some (.iload_n 3, 1, .null), some (.invokevirtual 156, 3, .ref 2), none, none, some (.ireturn, 1, .null)]
/-- 106: StemRules.base(II)I -/
def ev_c106 : List (Option (Instr × Nat × Value)) := [some (.aload_n 0, 1, .null), some (.getfield 19, 3, .ref 513), none, none, some (.iload_n 1, 1, .null), some (.invokevirtual 96, 3, .ref 78), none, none, some (.ifCond .ne 5, 3, .ref 13), none, none, some (.iconst (-1), 1, .null), some (.ireturn, 1, .null), some (.aload_n 0, 1, .null), some (.getfield 43, 3, .ref 517), none, none, some (.iload_n 1, 1, .null), some (.aload_n 0, 1, .null), some (.getfield 19, 3, .ref 513), none, none, some (.aload_n 0, 1, .null), some (.getfield 30, 3, .ref 515), none, none, some (.invokevirtual 160, 3, .ref 3), none, none, some (.aload_n 0, 1, .null), some (.getfield 43, 3, .ref 517), none, none, some (.iload_n 2, 1, .null), some (.invokevirtual 164, 3, .ref 4), none, none, some (.ireturn, 1, .null)]
/-- 107: StemRules.least(I)I -/
def ev_c107 : List (Option (Instr × Nat × Value)) := [some (.iload_n 1, 1, .null), some (.iconst 2, 1, .null), some (.if_icmp .lt 9, 3, .ref 11), none, none, some (.iload_n 1, 1, .null), some (.bipush 12, 2, .null), none, some (.if_icmp .le 6, 3, .ref 14), none, none, some (.bipush (-2), 2, .null), none, some (.ireturn, 1, .null), some (.aload_n 0, 1, .null), some (.getfield 50, 3, .ref 518), none, none, some (.iload_n 1, 1, .null), some (.invokevirtual 167, 3, .ref 40), none, none, some (.ireturn, 1, .null)]
/-- 108: StemRules.part(II)I -/
def ev_c108 : List (Option (Instr × Nat × Value)) := [some (.aload_n 0, 1, .null), some (.getfield 19, 3, .ref 513), none, none, some (.iload_n 1, 1, .null), some (.invokevirtual 96, 3, .ref 78), none, none, some (.ifCond .ne 5, 3, .ref 13), none, none, some (.iconst (-1), 1, .null), some (.ireturn, 1, .null), some (.aload_n 0, 1, .null), some (.getfield 19, 3, .ref 513), none, none, some (.iload_n 1, 1, .null), some (.aload_n 0, 1, .null), some (.getfield 30, 3, .ref 515), none, none, some (.invokevirtual 100, 3, .ref 81), none, none, some (.aload_n 0, 1, .null), some (.getfield 50, 3, .ref 518), none, none, some (.aload_n 0, 1, .null), some (.getfield 30, 3, .ref 515), none, none, some (.aload_n 0, 1, .null), some (.getfield 19, 3, .ref 513), none, none, some (.invokevirtual 170, 3, .ref 41), none, none, some (.iload_n 2, 1, .null), some (.iconst (-1), 1, .null), some (.if_icmp .ne 13, 3, .ref 55), none, none, some (.aload_n 0, 1, .null), some (.getfield 50, 3, .ref 518), none, none, some (.invokevirtual 174, 3, .ref 42), none, none, some (.goto 11, 3, .ref 63), none, none, some (.aload_n 0, 1, .null), some (.getfield 50, 3, .ref 518), none, none, some (.iload_n 2, 1, .null), some (.invokevirtual 175, 3, .ref 43), none, none, some (.ireturn, 1, .null)]
/-- 109: StemRules.key(II)I -/
def ev_c109 : List (Option (Instr × Nat × Value)) := [some (.aload_n 0, 1, .null), some (.getfield 19, 3, .ref 513), none, none, some (.iload_n 2, 1, .null), some (.invokevirtual 96, 3, .ref 78), none, none, some (.ifCond .ne 5, 3, .ref 13), none, none, some (.iconst (-1), 1, .null), some (.ireturn, 1, .null), some (.iload_n 1, 1, .null), some (.ifCond .eq 11, 3, .ref 25), none, none, some (.iload_n 1, 1, .null), some (.iconst 1, 1, .null), some (.if_icmp .eq 6, 3, .ref 25), none, none, some (.bipush (-2), 2, .null), none, some (.ireturn, 1, .null), some (.aload_n 0, 1, .null), some (.getfield 19, 3, .ref 513), none, none, some (.iload_n 2, 1, .null), some (.aload_n 0, 1, .null), some (.getfield 30, 3, .ref 515), none, none, some (.invokevirtual 100, 3, .ref 81), none, none, some (.iload_n 1, 1, .null), some (.ifCond .ne 17, 3, .ref 55), none, none, some (.aload_n 0, 1, .null), some (.getfield 30, 3, .ref 515), none, none, some (.aload_n 0, 1, .null), some (.getfield 26, 3, .ref 514), none, none, some (.invokestatic 178, 3, .ref 21), none, none, some (.goto 14, 3, .ref 66), none, none, some (.aload_n 0, 1, .null), some (.getfield 30, 3, .ref 515), none, none, some (.aload_n 0, 1, .null), some (.getfield 26, 3, .ref 514), none, none, some (.invokestatic 184, 3, .ref 22), none, none, some (.aload_n 0, 1, .null), some (.getfield 26, 3, .ref 514), none, none, some (.invokevirtual 83, 3, .ref 30), none, none, some (.ireturn, 1, .null)]
/-- 110: StemRules.text(I)I -/
def ev_c110 : List (Option (Instr × Nat × Value)) := [some (.iload_n 1, 1, .null), some (.invokestatic 104, 3, .ref 113), none, none, some (.ifCond .ne 14, 3, .ref 18), none, none, some (.aload_n 0, 1, .null), some (.getfield 10, 3, .ref 512), none, none, some (.iconst 0, 1, .null), some (.invokevirtual 80, 3, .ref 62), none, none, some (.bipush (-2), 2, .null), none, some (.ireturn, 1, .null), some (.aload_n 0, 1, .null), some (.getfield 19, 3, .ref 513), none, none, some (.invokevirtual 187, 3, .ref 77), none, none, some (.istore_n 2, 1, .null), some (.iconst 1, 1, .null), some (.istore_n 3, 1, .null), some (.aload_n 0, 1, .null), some (.getfield 57, 3, .ref 519), none, none, some (.invokevirtual 188, 3, .ref 11), none, none, some (.aload_n 0, 1, .null), some (.getfield 64, 3, .ref 520), none, none, some (.invokevirtual 191, 3, .ref 71), none, none, some (.iconst 0, 1, .null), some (.istore 4, 2, .null), none, some (.iload 4, 2, .null), none, some (.sipush 400, 3, .null), none, none, some (.if_icmp .ge 43, 3, .ref 93), none, none, some (.iload_n 3, 1, .null), some (.ifCond .eq 39, 3, .ref 93), none, none, some (.aload_n 0, 1, .null), some (.getfield 64, 3, .ref 520), none, none, some (.invokevirtual 192, 3, .ref 72), none, none, some (.ifCond .eq 29, 3, .ref 93), none, none, some (.aload_n 0, 1, .null), some (.getfield 57, 3, .ref 519), none, none, some (.aload_n 0, 1, .null), some (.getfield 10, 3, .ref 512), none, none, some (.invokevirtual 195, 3, .ref 12), none, none, some (.ifCond .eq 15, 3, .ref 93), none, none, some (.aload_n 0, 1, .null), some (.iload_n 1, 1, .null), some (.invokevirtual 199, 3, .ref 116), none, none, some (.istore_n 3, 1, .null), some (.iinc 4 1, 3, .null), none, none, some (.goto (-45), 3, .ref 45), none, none, some (.aload_n 0, 1, .null), some (.getfield 10, 3, .ref 512), none, none, some (.iconst 0, 1, .null), some (.invokevirtual 80, 3, .ref 62), none, none, some (.iload_n 3, 1, .null), some (.ifCond .ne 14, 3, .ref 116), none, none, some (.aload_n 0, 1, .null), some (.getfield 19, 3, .ref 513), none, none, some (.iload_n 2, 1, .null), some (.invokevirtual 202, 3, .ref 87), none, none, some (.bipush (-4), 2, .null), none, some (.ireturn, 1, .null), some (.aload_n 0, 1, .null), some (.getfield 64, 3, .ref 520), none, none, some (.invokevirtual 205, 3, .ref 75), none, none, some (.aload_n 0, 1, .null), some (.getfield 64, 3, .ref 520), none, none, some (.invokevirtual 207, 3, .ref 68), none, none, some (.ireturn, 1, .null)]
/-- 111: StemRules.token(II)I -/
def ev_c111 : List (Option (Instr × Nat × Value)) := [some (.iload_n 2, 1, .null), some (.ifCond .lt 8, 3, .ref 9), none, none, some (.iload_n 2, 1, .null), some (.iconst 5, 1, .null), some (.if_icmp .lt 6, 3, .ref 12), none, none, some (.bipush (-2), 2, .null), none, some (.ireturn, 1, .null), some (.aload_n 0, 1, .null), some (.getfield 64, 3, .ref 520), none, none, some (.iload_n 1, 1, .null), some (.iload_n 2, 1, .null), some (.invokevirtual 208, 3, .ref 70), none, none, some (.ireturn, 1, .null)]
/-- 112: StemRules.told(I)I -/
def ev_c112 : List (Option (Instr × Nat × Value)) := [some (.iload_n 1, 1, .null), some (.tableswitch 87 0 5 #[39, 47, 55, 63, 71, 79], 39, .null), none, none, none, none, none, none, none, none, none, none, none, none, none, none, none, none, none, none, none, none, none, none, none, none, none, none, none, none, none, none, none, none, none, none, none, none, none, none, some (.aload_n 0, 1, .null), some (.getfield 19, 3, .ref 513), none, none, some (.invokevirtual 187, 3, .ref 77), none, none, some (.ireturn, 1, .null), some (.aload_n 0, 1, .null), some (.getfield 64, 3, .ref 520), none, none, some (.invokevirtual 207, 3, .ref 68), none, none, some (.ireturn, 1, .null), some (.aload_n 0, 1, .null), some (.getfield 36, 3, .ref 516), none, none, some (.invokevirtual 150, 3, .ref 15), none, none, some (.ireturn, 1, .null), some (.aload_n 0, 1, .null), some (.getfield 43, 3, .ref 517), none, none, some (.invokevirtual 211, 3, .ref 1), none, none, some (.ireturn, 1, .null), some (.aload_n 0, 1, .null), some (.getfield 64, 3, .ref 520), none, none, some (.invokevirtual 212, 3, .ref 69), none, none, some (.ireturn, 1, .null), some (.aload_n 0, 1, .null), some (.getfield 10, 3, .ref 512), none, none, some (.invokevirtual 76, 3, .ref 59), none, none, some (.ireturn, 1, .null), some (.bipush (-2), 2, .null), none, some (.ireturn, 1, .null)]
/-- 113: StemRules.isStemmer(I)Z -/
def ev_c113 : List (Option (Instr × Nat × Value)) := [some (.iload_n 0, 1, .null), some (.ifCond .lt 12, 3, .ref 13), none, none, some (.iload_n 0, 1, .null), some (.iconst 3, 1, .null), some (.if_icmp .gt 7, 3, .ref 13), none, none, some (.iconst 1, 1, .null), some (.goto 4, 3, .ref 14), none, none, some (.iconst 0, 1, .null), some (.ireturn, 1, .null)]
/-- 114: StemRules.layStem(IILStemRules$Letters;)V -/
def ev_c114 : List (Option (Instr × Nat × Value)) := [some (.aload_n 0, 1, .null), some (.getfield 19, 3, .ref 513), none, none, some (.iload_n 2, 1, .null), some (.aload_n 3, 1, .null), some (.invokevirtual 100, 3, .ref 81), none, none, some (.iload_n 1, 1, .null), some (.ifCond .eq 15, 3, .ref 25), none, none, some (.aload_n 0, 1, .null), some (.getfield 19, 3, .ref 513), none, none, some (.iconst 0, 1, .null), some (.iload_n 2, 1, .null), some (.invokevirtual 124, 3, .ref 88), none, none, some (.ifCond .eq 4, 3, .ref 26), none, none, some (.return_, 1, .null), some (.aload_n 0, 1, .null), some (.getfield 19, 3, .ref 513), none, none, some (.iload_n 2, 1, .null), some (.invokevirtual 135, 3, .ref 90), none, none, some (.istore 4, 2, .null), none, some (.iload 4, 2, .null), none, some (.bipush (-5), 2, .null), none, some (.if_icmp .eq 16, 3, .ref 56), none, none, some (.aload_n 0, 1, .null), some (.getfield 19, 3, .ref 513), none, none, some (.iload 4, 2, .null), none, some (.aload_n 3, 1, .null), some (.invokevirtual 100, 3, .ref 81), none, none, some (.goto 41, 3, .ref 94), none, none, some (.iload_n 1, 1, .null), some (.iconst 1, 1, .null), some (.if_icmp .ne 10, 3, .ref 68), none, none, some (.aload_n 3, 1, .null), some (.invokestatic 215, 3, .ref 115), none, none, some (.goto 29, 3, .ref 94), none, none, some (.iload_n 1, 1, .null), some (.iconst 2, 1, .null), some (.if_icmp .ne 12, 3, .ref 82), none, none, some (.aload_n 3, 1, .null), some (.bipush 7, 2, .null), none, some (.invokestatic 111, 3, .ref 46), none, none, some (.goto 15, 3, .ref 94), none, none, some (.aload_n 0, 1, .null), some (.getfield 36, 3, .ref 516), none, none, some (.aload_n 3, 1, .null), some (.aload_n 0, 1, .null), some (.getfield 19, 3, .ref 513), none, none, some (.invokevirtual 219, 3, .ref 18), none, none, some (.return_, 1, .null)]
/-- 115: StemRules.dropPlural(LStemRules$Letters;)V -/
def ev_c115 : List (Option (Instr × Nat × Value)) := [some (.aload_n 0, 1, .null), some (.invokevirtual 83, 3, .ref 30), none, none, some (.iconst 1, 1, .null), some (.if_icmp .ne 4, 3, .ref 9), none, none, some (.return_, 1, .null), some (.aload_n 0, 1, .null), some (.ldc 221, 2, .ref 0), none, some (.invokevirtual 223, 3, .ref 36), none, none, some (.ifCond .eq 33, 3, .ref 48), none, none, some (.aload_n 0, 1, .null), some (.ldc 227, 2, .ref 1), none, some (.invokevirtual 223, 3, .ref 36), none, none, some (.ifCond .ne 24, 3, .ref 48), none, none, some (.aload_n 0, 1, .null), some (.ldc 229, 2, .ref 2), none, some (.invokevirtual 223, 3, .ref 36), none, none, some (.ifCond .ne 15, 3, .ref 48), none, none, some (.aload_n 0, 1, .null), some (.ldc 221, 2, .ref 0), none, some (.ldc 231, 2, .ref 3), none, some (.invokevirtual 233, 3, .ref 38), none, none, some (.pop, 1, .null), some (.goto 87, 3, .ref 132), none, none, some (.aload_n 0, 1, .null), some (.ldc 237, 2, .ref 4), none, some (.invokevirtual 223, 3, .ref 36), none, none, some (.ifCond .eq 42, 3, .ref 96), none, none, some (.aload_n 0, 1, .null), some (.ldc 239, 2, .ref 5), none, some (.invokevirtual 223, 3, .ref 36), none, none, some (.ifCond .ne 33, 3, .ref 96), none, none, some (.aload_n 0, 1, .null), some (.ldc 241, 2, .ref 6), none, some (.invokevirtual 223, 3, .ref 36), none, none, some (.ifCond .ne 24, 3, .ref 96), none, none, some (.aload_n 0, 1, .null), some (.ldc 243, 2, .ref 7), none, some (.invokevirtual 223, 3, .ref 36), none, none, some (.ifCond .ne 15, 3, .ref 96), none, none, some (.aload_n 0, 1, .null), some (.ldc 237, 2, .ref 4), none, some (.ldc 245, 2, .ref 8), none, some (.invokevirtual 233, 3, .ref 38), none, none, some (.pop, 1, .null), some (.goto 39, 3, .ref 132), none, none, some (.aload_n 0, 1, .null), some (.ldc 247, 2, .ref 9), none, some (.invokevirtual 223, 3, .ref 36), none, none, some (.ifCond .eq 30, 3, .ref 132), none, none, some (.aload_n 0, 1, .null), some (.ldc 249, 2, .ref 10), none, some (.invokevirtual 223, 3, .ref 36), none, none, some (.ifCond .ne 21, 3, .ref 132), none, none, some (.aload_n 0, 1, .null), some (.ldc 251, 2, .ref 11), none, some (.invokevirtual 223, 3, .ref 36), none, none, some (.ifCond .ne 12, 3, .ref 132), none, none, some (.aload_n 0, 1, .null), some (.ldc 247, 2, .ref 9), none, some (.ldc 253, 2, .ref 12), none, some (.invokevirtual 233, 3, .ref 38), none, none, some (.pop, 1, .null), some (.return_, 1, .null)]
/-- 116: StemRules.takePiece(I)Z -/
def ev_c116 : List (Option (Instr × Nat × Value)) := [some (.aload_n 0, 1, .null), some (.getfield 64, 3, .ref 520), none, none, some (.invokevirtual 255, 3, .ref 73), none, none, some (.istore_n 2, 1, .null), some (.aload_n 0, 1, .null), some (.getfield 19, 3, .ref 513), none, none, some (.aload_n 0, 1, .null), some (.getfield 57, 3, .ref 519), none, none, some (.invokevirtual 258, 3, .ref 8), none, none, some (.invokevirtual 92, 3, .ref 86), none, none, some (.istore_n 3, 1, .null), some (.iload_n 3, 1, .null), some (.bipush (-4), 2, .null), none, some (.if_icmp .ne 5, 3, .ref 31), none, none, some (.iconst 0, 1, .null), some (.ireturn, 1, .null), some (.aload_n 0, 1, .null), some (.getfield 19, 3, .ref 513), none, none, some (.iconst 1, 1, .null), some (.iload_n 3, 1, .null), some (.invokevirtual 124, 3, .ref 88), none, none, some (.ifCond .eq 5, 3, .ref 45), none, none, some (.iconst 1, 1, .null), some (.ireturn, 1, .null), some (.aload_n 0, 1, .null), some (.iload_n 1, 1, .null), some (.iload_n 3, 1, .null), some (.aload_n 0, 1, .null), some (.getfield 30, 3, .ref 515), none, none, some (.invokevirtual 107, 3, .ref 114), none, none, some (.aload_n 0, 1, .null), some (.getfield 19, 3, .ref 513), none, none, some (.aload_n 0, 1, .null), some (.getfield 30, 3, .ref 515), none, none, some (.invokevirtual 92, 3, .ref 86), none, none, some (.istore 4, 2, .null), none, some (.iload 4, 2, .null), none, some (.bipush (-4), 2, .null), none, some (.if_icmp .ne 5, 3, .ref 77), none, none, some (.iconst 0, 1, .null), some (.ireturn, 1, .null), some (.aload_n 0, 1, .null), some (.getfield 64, 3, .ref 520), none, none, some (.iload_n 2, 1, .null), some (.aload_n 0, 1, .null), some (.getfield 57, 3, .ref 519), none, none, some (.invokevirtual 262, 3, .ref 9), none, none, some (.aload_n 0, 1, .null), some (.getfield 57, 3, .ref 519), none, none, some (.invokevirtual 265, 3, .ref 10), none, none, some (.iload_n 3, 1, .null), some (.iload 4, 2, .null), none, some (.invokevirtual 268, 3, .ref 74), none, none, some (.iconst 1, 1, .null), some (.ireturn, 1, .null)]
/-- 117: StemRules.isVowel(C)Z -/
def ev_c117 : List (Option (Instr × Nat × Value)) := [some (.iload_n 0, 1, .null), some (.bipush 97, 2, .null), none, some (.if_icmp .eq 27, 3, .ref 30), none, none, some (.iload_n 0, 1, .null), some (.bipush 101, 2, .null), none, some (.if_icmp .eq 21, 3, .ref 30), none, none, some (.iload_n 0, 1, .null), some (.bipush 105, 2, .null), none, some (.if_icmp .eq 15, 3, .ref 30), none, none, some (.iload_n 0, 1, .null), some (.bipush 111, 2, .null), none, some (.if_icmp .eq 9, 3, .ref 30), none, none, some (.iload_n 0, 1, .null), some (.bipush 117, 2, .null), none, some (.if_icmp .ne 7, 3, .ref 34), none, none, some (.iconst 1, 1, .null), some (.goto 4, 3, .ref 35), none, none, some (.iconst 0, 1, .null), some (.ireturn, 1, .null)]
/-- 118: StemRulesModel.<init>()V -/
def ev_c118 : List (Option (Instr × Nat × Value)) := [some (.aload_n 0, 1, .null), some (.invokespecial 1, 3, .null), none, none, some (.aload_n 0, 1, .null), some (.sipush 400, 3, .null), none, none, some (.newarray .int, 2, .null), none, some (.putfield 7, 3, .ref 576), none, none, some (.aload_n 0, 1, .null), some (.bipush 64, 2, .null), none, some (.newarray .int, 2, .null), none, some (.putfield 13, 3, .ref 578), none, none, some (.aload_n 0, 1, .null), some (.sipush 3600, 3, .null), none, none, some (.newarray .int, 2, .null), none, some (.putfield 16, 3, .ref 580), none, none, some (.aload_n 0, 1, .null), some (.sipush 150, 3, .null), none, none, some (.newarray .int, 2, .null), none, some (.putfield 19, 3, .ref 581), none, none, some (.aload_n 0, 1, .null), some (.sipush 150, 3, .null), none, none, some (.newarray .int, 2, .null), none, some (.putfield 22, 3, .ref 583), none, none, some (.aload_n 0, 1, .null), some (.sipush 150, 3, .null), none, none, some (.newarray .int, 2, .null), none, some (.putfield 25, 3, .ref 584), none, none, some (.aload_n 0, 1, .null), some (.bipush 40, 2, .null), none, some (.newarray .int, 2, .null), none, some (.putfield 28, 3, .ref 585), none, none, some (.aload_n 0, 1, .null), some (.bipush 40, 2, .null), none, some (.newarray .boolean, 2, .null), none, some (.putfield 31, 3, .ref 586), none, none, some (.aload_n 0, 1, .null), some (.bipush 40, 2, .null), none, some (.newarray .int, 2, .null), none, some (.putfield 35, 3, .ref 587), none, none, some (.aload_n 0, 1, .null), some (.bipush 40, 2, .null), none, some (.newarray .int, 2, .null), none, some (.putfield 38, 3, .ref 588), none, none, some (.aload_n 0, 1, .null), some (.bipush 40, 2, .null), none, some (.newarray .boolean, 2, .null), none, some (.putfield 41, 3, .ref 589), none, none, some (.aload_n 0, 1, .null), some (.bipush 20, 2, .null), none, some (.newarray .boolean, 2, .null), none, some (.putfield 44, 3, .ref 591), none, none, some (.aload_n 0, 1, .null), some (.bipush 20, 2, .null), none, some (.newarray .int, 2, .null), none, some (.putfield 47, 3, .ref 592), none, none, some (.aload_n 0, 1, .null), some (.bipush 20, 2, .null), none, some (.newarray .int, 2, .null), none, some (.putfield 50, 3, .ref 593), none, none, some (.aload_n 0, 1, .null), some (.iconst 3, 1, .null), some (.putfield 53, 3, .ref 595), none, none, some (.aload_n 0, 1, .null), some (.bipush 80, 2, .null), none, some (.newarray .int, 2, .null), none, some (.putfield 57, 3, .ref 596), none, none, some (.aload_n 0, 1, .null), some (.bipush 24, 2, .null), none, some (.newarray .int, 2, .null), none, some (.putfield 60, 3, .ref 598), none, none, some (.aload_n 0, 1, .null), some (.bipush 25, 2, .null), none, some (.newarray .int, 2, .null), none, some (.putfield 63, 3, .ref 599), none, none, some (.aload_n 0, 1, .null), some (.bipush 25, 2, .null), none, some (.newarray .int, 2, .null), none, some (.putfield 66, 3, .ref 600), none, none, some (.aload_n 0, 1, .null), some (.bipush 25, 2, .null), none, some (.newarray .int, 2, .null), none, some (.putfield 69, 3, .ref 601), none, none, some (.aload_n 0, 1, .null), some (.sipush 300, 3, .null), none, none, some (.newarray .int, 2, .null), none, some (.putfield 72, 3, .ref 602), none, none, some (.aload_n 0, 1, .null), some (.sipush 300, 3, .null), none, none, some (.newarray .int, 2, .null), none, some (.putfield 75, 3, .ref 604), none, none, some (.aload_n 0, 1, .null), some (.sipush 400, 3, .null), none, none, some (.newarray .int, 2, .null), none, some (.putfield 78, 3, .ref 607), none, none, some (.aload_n 0, 1, .null), some (.sipush 400, 3, .null), none, none, some (.newarray .int, 2, .null), none, some (.putfield 81, 3, .ref 608), none, none, some (.return_, 1, .null)]
/-- 119: StemRulesModel.small(II)I -/
def ev_c119 : List (Option (Instr × Nat × Value)) := [some (.iload_n 0, 1, .null), some (.iload_n 1, 1, .null), some (.if_icmp .ge 7, 3, .ref 9), none, none, some (.iload_n 0, 1, .null), some (.goto 4, 3, .ref 10), none, none, some (.iload_n 1, 1, .null), some (.ireturn, 1, .null)]
/-- 120: StemRulesModel.beyond(III)Z -/
def ev_c120 : List (Option (Instr × Nat × Value)) := [some (.iload_n 0, 1, .null), some (.iload_n 1, 1, .null), some (.if_icmp .lt 8, 3, .ref 10), none, none, some (.iload_n 0, 1, .null), some (.iload_n 2, 1, .null), some (.if_icmp .le 7, 3, .ref 14), none, none, some (.iconst 1, 1, .null), some (.goto 4, 3, .ref 15), none, none, some (.iconst 0, 1, .null), some (.ireturn, 1, .null)]
/-- 121: StemRulesModel.strange(I)Z -/
def ev_c121 : List (Option (Instr × Nat × Value)) := [some (.iload_n 1, 1, .null), some (.iconst 0, 1, .null), some (.aload_n 0, 1, .null), some (.getfield 84, 3, .ref 582), none, none, some (.iconst 1, 1, .null), some (.isub, 1, .null), some (.invokestatic 87, 3, .ref 120), none, none, some (.ireturn, 1, .null)]
/-- 122: StemRulesModel.feed(IIIII)I -/
def ev_c122 : List (Option (Instr × Nat × Value)) := [some (.aload_n 0, 1, .null), some (.getfield 91, 3, .ref 577), none, none, some (.bipush 20, 2, .null), none, some (.iadd, 1, .null), some (.sipush 400, 3, .null), none, none, some (.if_icmp .le 6, 3, .ref 16), none, none, some (.bipush (-4), 2, .null), none, some (.ireturn, 1, .null), some (.aload_n 0, 1, .null), some (.iload_n 1, 1, .null), some (.invokevirtual 94, 3, .ref 123), none, none, some (.aload_n 0, 1, .null), some (.iload_n 2, 1, .null), some (.invokevirtual 94, 3, .ref 123), none, none, some (.aload_n 0, 1, .null), some (.iload_n 3, 1, .null), some (.invokevirtual 94, 3, .ref 123), none, none, some (.aload_n 0, 1, .null), some (.iload 4, 2, .null), none, some (.invokevirtual 94, 3, .ref 123), none, none, some (.aload_n 0, 1, .null), some (.iload 5, 2, .null), none, some (.invokevirtual 94, 3, .ref 123), none, none, some (.aload_n 0, 1, .null), some (.getfield 91, 3, .ref 577), none, none, some (.ireturn, 1, .null)]
/-- 123: StemRulesModel.four(I)V -/
def ev_c123 : List (Option (Instr × Nat × Value)) := [some (.bipush 24, 2, .null), none, some (.istore_n 2, 1, .null), some (.iload_n 2, 1, .null), some (.ifCond .lt 35, 3, .ref 39), none, none, some (.aload_n 0, 1, .null), some (.getfield 7, 3, .ref 576), none, none, some (.aload_n 0, 1, .null), some (.getfield 91, 3, .ref 577), none, none, some (.iload_n 1, 1, .null), some (.iload_n 2, 1, .null), some (.ishr, 1, .null), some (.sipush 255, 3, .null), none, none, some (.iand, 1, .null), some (.iastore, 1, .null), some (.aload_n 0, 1, .null), some (.dup, 1, .null), some (.getfield 91, 3, .ref 577), none, none, some (.iconst 1, 1, .null), some (.iadd, 1, .null), some (.putfield 91, 3, .ref 577), none, none, some (.iinc 2 (-8), 3, .null), none, none, some (.goto (-33), 3, .ref 3), none, none, some (.return_, 1, .null)]
/-- 124: StemRulesModel.cut(I)I -/
def ev_c124 : List (Option (Instr × Nat × Value)) := [some (.iload_n 1, 1, .null), some (.iconst 0, 1, .null), some (.aload_n 0, 1, .null), some (.getfield 91, 3, .ref 577), none, none, some (.invokestatic 87, 3, .ref 120), none, none, some (.ifCond .eq 6, 3, .ref 15), none, none, some (.bipush (-2), 2, .null), none, some (.ireturn, 1, .null), some (.aload_n 0, 1, .null), some (.getfield 91, 3, .ref 577), none, none, some (.iload_n 1, 1, .null), some (.isub, 1, .null), some (.istore_n 2, 1, .null), some (.aload_n 0, 1, .null), some (.iload_n 1, 1, .null), some (.putfield 91, 3, .ref 577), none, none, some (.iload_n 2, 1, .null), some (.ireturn, 1, .null)]
/-- 125: StemRulesModel.out(I)I -/
def ev_c125 : List (Option (Instr × Nat × Value)) := [some (.iload_n 1, 1, .null), some (.iconst (-1), 1, .null), some (.if_icmp .ne 10, 3, .ref 12), none, none, some (.aload_n 0, 1, .null), some (.getfield 98, 3, .ref 579), none, none, some (.goto 28, 3, .ref 37), none, none, some (.iload_n 1, 1, .null), some (.iconst 0, 1, .null), some (.aload_n 0, 1, .null), some (.getfield 98, 3, .ref 579), none, none, some (.iconst 1, 1, .null), some (.isub, 1, .null), some (.invokestatic 87, 3, .ref 120), none, none, some (.ifCond .eq 8, 3, .ref 31), none, none, some (.bipush (-2), 2, .null), none, some (.goto 9, 3, .ref 37), none, none, some (.aload_n 0, 1, .null), some (.getfield 13, 3, .ref 578), none, none, some (.iload_n 1, 1, .null), some (.iaload, 1, .null), some (.ireturn, 1, .null)]
/-- 126: StemRulesModel.show()I -/
def ev_c126 : List (Option (Instr × Nat × Value)) := [some (.iconst 0, 1, .null), some (.istore_n 1, 1, .null), some (.iload_n 1, 1, .null), some (.aload_n 0, 1, .null), some (.getfield 101, 3, .ref 597), none, none, some (.if_icmp .ge 21, 3, .ref 28), none, none, some (.aload_n 0, 1, .null), some (.getfield 13, 3, .ref 578), none, none, some (.iload_n 1, 1, .null), some (.aload_n 0, 1, .null), some (.getfield 57, 3, .ref 596), none, none, some (.iload_n 1, 1, .null), some (.iaload, 1, .null), some (.iastore, 1, .null), some (.iinc 1 1, 3, .null), none, none, some (.goto (-23), 3, .ref 2), none, none, some (.aload_n 0, 1, .null), some (.aload_n 0, 1, .null), some (.getfield 101, 3, .ref 597), none, none, some (.putfield 98, 3, .ref 579), none, none, some (.aload_n 0, 1, .null), some (.getfield 101, 3, .ref 597), none, none, some (.ireturn, 1, .null)]
/-- 127: StemRulesModel.take(I)V -/
def ev_c127 : List (Option (Instr × Nat × Value)) := [some (.aload_n 0, 1, .null), some (.aload_n 0, 1, .null), some (.getfield 19, 3, .ref 581), none, none, some (.iload_n 1, 1, .null), some (.iaload, 1, .null), some (.putfield 101, 3, .ref 597), none, none, some (.iconst 0, 1, .null), some (.istore_n 2, 1, .null), some (.iload_n 2, 1, .null), some (.aload_n 0, 1, .null), some (.getfield 101, 3, .ref 597), none, none, some (.if_icmp .ge 26, 3, .ref 43), none, none, some (.aload_n 0, 1, .null), some (.getfield 57, 3, .ref 596), none, none, some (.iload_n 2, 1, .null), some (.aload_n 0, 1, .null), some (.getfield 16, 3, .ref 580), none, none, some (.bipush 24, 2, .null), none, some (.iload_n 1, 1, .null), some (.imul, 1, .null), some (.iload_n 2, 1, .null), some (.iadd, 1, .null), some (.iaload, 1, .null), some (.iastore, 1, .null), some (.iinc 2 1, 3, .null), none, none, some (.goto (-28), 3, .ref 12), none, none, some (.return_, 1, .null)]
/-- 128: StemRulesModel.find(II)I -/
def ev_c128 : List (Option (Instr × Nat × Value)) := [some (.iconst 0, 1, .null), some (.istore_n 3, 1, .null), some (.iload_n 3, 1, .null), some (.aload_n 0, 1, .null), some (.getfield 84, 3, .ref 582), none, none, some (.if_icmp .ge 84, 3, .ref 91), none, none, some (.aload_n 0, 1, .null), some (.getfield 19, 3, .ref 581), none, none, some (.iload_n 3, 1, .null), some (.iaload, 1, .null), some (.iload_n 2, 1, .null), some (.if_icmp .ne 7, 3, .ref 24), none, none, some (.iconst 1, 1, .null), some (.goto 4, 3, .ref 25), none, none, some (.iconst 0, 1, .null), some (.istore 4, 2, .null), none, some (.iconst 0, 1, .null), some (.istore 5, 2, .null), none, some (.iload 4, 2, .null), none, some (.ifCond .eq 46, 3, .ref 78), none, none, some (.iload 5, 2, .null), none, some (.iload_n 2, 1, .null), some (.if_icmp .ge 40, 3, .ref 78), none, none, some (.aload_n 0, 1, .null), some (.getfield 16, 3, .ref 580), none, none, some (.bipush 24, 2, .null), none, some (.iload_n 3, 1, .null), some (.imul, 1, .null), some (.iload 5, 2, .null), none, some (.iadd, 1, .null), some (.iaload, 1, .null), some (.aload_n 0, 1, .null), some (.getfield 57, 3, .ref 596), none, none, some (.iload_n 1, 1, .null), some (.iload 5, 2, .null), none, some (.iadd, 1, .null), some (.iaload, 1, .null), some (.if_icmp .ne 7, 3, .ref 69), none, none, some (.iconst 1, 1, .null), some (.goto 4, 3, .ref 70), none, none, some (.iconst 0, 1, .null), some (.istore 4, 2, .null), none, some (.iinc 5 1, 3, .null), none, none, some (.goto (-45), 3, .ref 30), none, none, some (.iload 4, 2, .null), none, some (.ifCond .eq 5, 3, .ref 85), none, none, some (.iload_n 3, 1, .null), some (.ireturn, 1, .null), some (.iinc 3 1, 3, .null), none, none, some (.goto (-86), 3, .ref 2), none, none, some (.iconst (-1), 1, .null), some (.ireturn, 1, .null)]
/-- 129: StemRulesModel.learn()I -/
def ev_c129 : List (Option (Instr × Nat × Value)) := [some (.aload_n 0, 1, .null), some (.iconst 0, 1, .null), some (.aload_n 0, 1, .null), some (.getfield 101, 3, .ref 597), none, none, some (.invokevirtual 104, 3, .ref 128), none, none, some (.istore_n 1, 1, .null), some (.iload_n 1, 1, .null), some (.ifCond .ge 98, 3, .ref 109), none, none, some (.aload_n 0, 1, .null), some (.getfield 84, 3, .ref 582), none, none, some (.sipush 150, 3, .null), none, none, some (.if_icmp .ge 88, 3, .ref 109), none, none, some (.iconst 0, 1, .null), some (.istore_n 2, 1, .null), some (.iload_n 2, 1, .null), some (.aload_n 0, 1, .null), some (.getfield 101, 3, .ref 597), none, none, some (.if_icmp .ge 29, 3, .ref 60), none, none, some (.aload_n 0, 1, .null), some (.getfield 16, 3, .ref 580), none, none, some (.bipush 24, 2, .null), none, some (.aload_n 0, 1, .null), some (.getfield 84, 3, .ref 582), none, none, some (.imul, 1, .null), some (.iload_n 2, 1, .null), some (.iadd, 1, .null), some (.aload_n 0, 1, .null), some (.getfield 57, 3, .ref 596), none, none, some (.iload_n 2, 1, .null), some (.iaload, 1, .null), some (.iastore, 1, .null), some (.iinc 2 1, 3, .null), none, none, some (.goto (-31), 3, .ref 26), none, none, some (.aload_n 0, 1, .null), some (.getfield 19, 3, .ref 581), none, none, some (.aload_n 0, 1, .null), some (.getfield 84, 3, .ref 582), none, none, some (.aload_n 0, 1, .null), some (.getfield 101, 3, .ref 597), none, none, some (.iastore, 1, .null), some (.aload_n 0, 1, .null), some (.getfield 22, 3, .ref 583), none, none, some (.aload_n 0, 1, .null), some (.getfield 84, 3, .ref 582), none, none, some (.iconst 0, 1, .null), some (.iastore, 1, .null), some (.aload_n 0, 1, .null), some (.getfield 25, 3, .ref 584), none, none, some (.aload_n 0, 1, .null), some (.getfield 84, 3, .ref 582), none, none, some (.bipush (-5), 2, .null), none, some (.iastore, 1, .null), some (.aload_n 0, 1, .null), some (.getfield 84, 3, .ref 582), none, none, some (.istore_n 1, 1, .null), some (.aload_n 0, 1, .null), some (.dup, 1, .null), some (.getfield 84, 3, .ref 582), none, none, some (.iconst 1, 1, .null), some (.iadd, 1, .null), some (.putfield 84, 3, .ref 582), none, none, some (.iload_n 1, 1, .null), some (.ireturn, 1, .null)]
/-- 130: StemRulesModel.word()I -/
def ev_c130 : List (Option (Instr × Nat × Value)) := [some (.aload_n 0, 1, .null), some (.getfield 91, 3, .ref 577), none, none, some (.istore_n 1, 1, .null), some (.aload_n 0, 1, .null), some (.iconst 0, 1, .null), some (.putfield 91, 3, .ref 577), none, none, some (.iload_n 1, 1, .null), some (.iconst 1, 1, .null), some (.bipush 24, 2, .null), none, some (.invokestatic 87, 3, .ref 120), none, none, some (.ifCond .ne 7, 3, .ref 24), none, none, some (.iconst 1, 1, .null), some (.goto 4, 3, .ref 25), none, none, some (.iconst 0, 1, .null), some (.istore_n 2, 1, .null), some (.iconst 0, 1, .null), some (.istore_n 3, 1, .null), some (.iload_n 2, 1, .null), some (.ifCond .eq 48, 3, .ref 77), none, none, some (.iload_n 3, 1, .null), some (.iload_n 1, 1, .null), some (.if_icmp .ge 43, 3, .ref 77), none, none, some (.aload_n 0, 1, .null), some (.getfield 7, 3, .ref 576), none, none, some (.iload_n 3, 1, .null), some (.iaload, 1, .null), some (.bipush 97, 2, .null), none, some (.bipush 122, 2, .null), none, some (.invokestatic 87, 3, .ref 120), none, none, some (.ifCond .ne 7, 3, .ref 57), none, none, some (.iconst 1, 1, .null), some (.goto 4, 3, .ref 58), none, none, some (.iconst 0, 1, .null), some (.istore_n 2, 1, .null), some (.aload_n 0, 1, .null), some (.getfield 57, 3, .ref 596), none, none, some (.iload_n 3, 1, .null), some (.aload_n 0, 1, .null), some (.getfield 7, 3, .ref 576), none, none, some (.iload_n 3, 1, .null), some (.iaload, 1, .null), some (.iastore, 1, .null), some (.iinc 3 1, 3, .null), none, none, some (.goto (-46), 3, .ref 28), none, none, some (.iload_n 2, 1, .null), some (.ifCond .ne 6, 3, .ref 84), none, none, some (.bipush (-2), 2, .null), none, some (.ireturn, 1, .null), some (.aload_n 0, 1, .null), some (.iload_n 1, 1, .null), some (.putfield 101, 3, .ref 597), none, none, some (.aload_n 0, 1, .null), some (.invokevirtual 108, 3, .ref 129), none, none, some (.istore_n 3, 1, .null), some (.iload_n 3, 1, .null), some (.ifCond .ge 8, 3, .ref 103), none, none, some (.bipush (-4), 2, .null), none, some (.goto 4, 3, .ref 104), none, none, some (.iload_n 3, 1, .null), some (.ireturn, 1, .null)]
/-- 131: StemRulesModel.spell(I)I -/
def ev_c131 : List (Option (Instr × Nat × Value)) := [some (.aload_n 0, 1, .null), some (.iload_n 1, 1, .null), some (.invokevirtual 112, 3, .ref 121), none, none, some (.ifCond .eq 5, 3, .ref 10), none, none, some (.iconst (-1), 1, .null), some (.ireturn, 1, .null), some (.aload_n 0, 1, .null), some (.iload_n 1, 1, .null), some (.invokevirtual 116, 3, .ref 127), none, none, some (.aload_n 0, 1, .null), some (.invokevirtual 119, 3, .ref 126), none, none, some (.ireturn, 1, .null)]
/-- 132: StemRulesModel.isVowel(I)Z -/
def ev_c132 : List (Option (Instr × Nat × Value)) := [some (.iload_n 0, 1, .null), some (.bipush 97, 2, .null), none, some (.if_icmp .eq 27, 3, .ref 30), none, none, some (.iload_n 0, 1, .null), some (.bipush 101, 2, .null), none, some (.if_icmp .eq 21, 3, .ref 30), none, none, some (.iload_n 0, 1, .null), some (.bipush 105, 2, .null), none, some (.if_icmp .eq 15, 3, .ref 30), none, none, some (.iload_n 0, 1, .null), some (.bipush 111, 2, .null), none, some (.if_icmp .eq 9, 3, .ref 30), none, none, some (.iload_n 0, 1, .null), some (.bipush 117, 2, .null), none, some (.if_icmp .ne 7, 3, .ref 34), none, none, some (.iconst 1, 1, .null), some (.goto 4, 3, .ref 35), none, none, some (.iconst 0, 1, .null), some (.ireturn, 1, .null)]
/-- 133: StemRulesModel.isC(I)Z -/
def ev_c133 : List (Option (Instr × Nat × Value)) := [some (.iconst 1, 1, .null), some (.istore_n 2, 1, .null), some (.iconst 0, 1, .null), some (.istore_n 3, 1, .null), some (.iload_n 3, 1, .null), some (.iload_n 1, 1, .null), some (.if_icmp .gt 54, 3, .ref 60), none, none, some (.aload_n 0, 1, .null), some (.getfield 57, 3, .ref 596), none, none, some (.iload_n 3, 1, .null), some (.iaload, 1, .null), some (.bipush 121, 2, .null), none, some (.if_icmp .ne 19, 3, .ref 36), none, none, some (.iload_n 3, 1, .null), some (.ifCond .eq 7, 3, .ref 28), none, none, some (.iload_n 2, 1, .null), some (.ifCond .ne 7, 3, .ref 32), none, none, some (.iconst 1, 1, .null), some (.goto 24, 3, .ref 53), none, none, some (.iconst 0, 1, .null), some (.goto 20, 3, .ref 53), none, none, some (.aload_n 0, 1, .null), some (.getfield 57, 3, .ref 596), none, none, some (.iload_n 3, 1, .null), some (.iaload, 1, .null), some (.invokestatic 122, 3, .ref 132), none, none, some (.ifCond .ne 7, 3, .ref 52), none, none, some (.iconst 1, 1, .null), some (.goto 4, 3, .ref 53), none, none, some (.iconst 0, 1, .null), some (.istore_n 2, 1, .null), some (.iinc 3 1, 3, .null), none, none, some (.goto (-53), 3, .ref 4), none, none, some (.iload_n 2, 1, .null), some (.ireturn, 1, .null)]
/-- 134: StemRulesModel.measure0(I)I -/
def ev_c134 : List (Option (Instr × Nat × Value)) := [some (.iconst 0, 1, .null), some (.istore_n 2, 1, .null), some (.iconst 1, 1, .null), some (.istore_n 3, 1, .null), some (.iload_n 3, 1, .null), some (.iload_n 1, 1, .null), some (.if_icmp .ge 35, 3, .ref 41), none, none, some (.iload_n 2, 1, .null), some (.aload_n 0, 1, .null), some (.iload_n 3, 1, .null), some (.invokevirtual 125, 3, .ref 133), none, none, some (.ifCond .eq 17, 3, .ref 32), none, none, some (.aload_n 0, 1, .null), some (.iload_n 3, 1, .null), some (.iconst 1, 1, .null), some (.isub, 1, .null), some (.invokevirtual 125, 3, .ref 133), none, none, some (.ifCond .ne 7, 3, .ref 32), none, none, some (.iconst 1, 1, .null), some (.goto 4, 3, .ref 33), none, none, some (.iconst 0, 1, .null), some (.iadd, 1, .null), some (.istore_n 2, 1, .null), some (.iinc 3 1, 3, .null), none, none, some (.goto (-34), 3, .ref 4), none, none, some (.iload_n 2, 1, .null), some (.ireturn, 1, .null)]
/-- 135: StemRulesModel.hasV(I)Z -/
def ev_c135 : List (Option (Instr × Nat × Value)) := [some (.iconst 0, 1, .null), some (.istore_n 2, 1, .null), some (.iload_n 2, 1, .null), some (.iload_n 1, 1, .null), some (.if_icmp .ge 19, 3, .ref 23), none, none, some (.aload_n 0, 1, .null), some (.iload_n 2, 1, .null), some (.invokevirtual 125, 3, .ref 133), none, none, some (.ifCond .ne 5, 3, .ref 17), none, none, some (.iconst 1, 1, .null), some (.ireturn, 1, .null), some (.iinc 2 1, 3, .null), none, none, some (.goto (-18), 3, .ref 2), none, none, some (.iconst 0, 1, .null), some (.ireturn, 1, .null)]
/-- 136: StemRulesModel.lettersOf(J)I -/
def ev_c136 : List (Option (Instr × Nat × Value)) := [some (.iconst 0, 1, .null), some (.istore_n 2, 1, .null), some (.lload_n 0, 1, .null), some (.lstore_n 3, 1, .null), some (.lload_n 3, 1, .null), some (.lconst 0, 1, .null), some (.lcmp, 1, .null), some (.ifCond .eq 13, 3, .ref 20), none, none, some (.iinc 2 1, 3, .null), none, none, some (.lload_n 3, 1, .null), some (.iconst 5, 1, .null), some (.lshr, 1, .null), some (.lstore_n 3, 1, .null), some (.goto (-13), 3, .ref 4), none, none, some (.iload_n 2, 1, .null), some (.ireturn, 1, .null)]
/-- 137: StemRulesModel.letterOf(JI)I -/
def ev_c137 : List (Option (Instr × Nat × Value)) := [some (.bipush 96, 2, .null), none, some (.lload_n 0, 1, .null), some (.iconst 5, 1, .null), some (.iload_n 2, 1, .null), some (.imul, 1, .null), some (.lshr, 1, .null), some (.ldc2_w 128, 3, .long 31), none, none, some (.land, 1, .null), some (.l2i, 1, .null), some (.iadd, 1, .null), some (.ireturn, 1, .null)]
/-- 138: StemRulesModel.ends(J)Z -/
def ev_c138 : List (Option (Instr × Nat × Value)) := [some (.lload_n 1, 1, .null), some (.invokestatic 130, 3, .ref 136), none, none, some (.istore_n 3, 1, .null), some (.iload_n 3, 1, .null), some (.aload_n 0, 1, .null), some (.getfield 101, 3, .ref 597), none, none, some (.if_icmp .gt 21, 3, .ref 31), none, none, some (.aload_n 0, 1, .null), some (.aload_n 0, 1, .null), some (.getfield 101, 3, .ref 597), none, none, some (.iload_n 3, 1, .null), some (.isub, 1, .null), some (.lload_n 1, 1, .null), some (.invokevirtual 134, 3, .ref 172), none, none, some (.ifCond .eq 7, 3, .ref 31), none, none, some (.iconst 1, 1, .null), some (.goto 4, 3, .ref 32), none, none, some (.iconst 0, 1, .null), some (.ireturn, 1, .null)]
/-- 139: StemRulesModel.turn(IJ)V -/
def ev_c139 : List (Option (Instr × Nat × Value)) := [some (.aload_n 0, 1, .null), some (.dup, 1, .null), some (.getfield 101, 3, .ref 597), none, none, some (.iload_n 1, 1, .null), some (.isub, 1, .null), some (.putfield 101, 3, .ref 597), none, none, some (.lload_n 2, 1, .null), some (.invokestatic 130, 3, .ref 136), none, none, some (.istore 4, 2, .null), none, some (.iconst 0, 1, .null), some (.istore 5, 2, .null), none, some (.iload 5, 2, .null), none, some (.iload 4, 2, .null), none, some (.if_icmp .ge 34, 3, .ref 57), none, none, some (.aload_n 0, 1, .null), some (.getfield 57, 3, .ref 596), none, none, some (.aload_n 0, 1, .null), some (.getfield 101, 3, .ref 597), none, none, some (.lload_n 2, 1, .null), some (.iload 5, 2, .null), none, some (.invokestatic 138, 3, .ref 137), none, none, some (.iastore, 1, .null), some (.aload_n 0, 1, .null), some (.dup, 1, .null), some (.getfield 101, 3, .ref 597), none, none, some (.iconst 1, 1, .null), some (.iadd, 1, .null), some (.putfield 101, 3, .ref 597), none, none, some (.iinc 5 1, 3, .null), none, none, some (.goto (-35), 3, .ref 19), none, none, some (.return_, 1, .null)]
/-- 140: StemRulesModel.isO(I)Z -/
def ev_c140 : List (Option (Instr × Nat × Value)) := [some (.iload_n 1, 1, .null), some (.iconst 3, 1, .null), some (.if_icmp .lt 33, 3, .ref 35), none, none, some (.aload_n 0, 1, .null), some (.iload_n 1, 1, .null), some (.iconst 1, 1, .null), some (.isub, 1, .null), some (.invokevirtual 125, 3, .ref 133), none, none, some (.ifCond .eq 23, 3, .ref 35), none, none, some (.aload_n 0, 1, .null), some (.iload_n 1, 1, .null), some (.iconst 2, 1, .null), some (.isub, 1, .null), some (.invokevirtual 125, 3, .ref 133), none, none, some (.ifCond .ne 13, 3, .ref 35), none, none, some (.aload_n 0, 1, .null), some (.iload_n 1, 1, .null), some (.iconst 3, 1, .null), some (.isub, 1, .null), some (.invokevirtual 125, 3, .ref 133), none, none, some (.ifCond .ne 5, 3, .ref 37), none, none, some (.iconst 0, 1, .null), some (.ireturn, 1, .null), some (.aload_n 0, 1, .null), some (.getfield 57, 3, .ref 596), none, none, some (.iload_n 1, 1, .null), some (.iconst 1, 1, .null), some (.isub, 1, .null), some (.iaload, 1, .null), some (.istore_n 2, 1, .null), some (.iload_n 2, 1, .null), some (.bipush 119, 2, .null), none, some (.if_icmp .eq 19, 3, .ref 68), none, none, some (.iload_n 2, 1, .null), some (.bipush 120, 2, .null), none, some (.if_icmp .eq 13, 3, .ref 68), none, none, some (.iload_n 2, 1, .null), some (.bipush 121, 2, .null), none, some (.if_icmp .eq 7, 3, .ref 68), none, none, some (.iconst 1, 1, .null), some (.goto 4, 3, .ref 69), none, none, some (.iconst 0, 1, .null), some (.ireturn, 1, .null)]
/-- 141: StemRulesModel.plural()V -/
def ev_c141 : List (Option (Instr × Nat × Value)) := [some (.aload_n 0, 1, .null), some (.getfield 101, 3, .ref 597), none, none, some (.iconst 1, 1, .null), some (.if_icmp .ne 4, 3, .ref 9), none, none, some (.return_, 1, .null), some (.aload_n 0, 1, .null), some (.ldc2_w 142, 3, .long 19625), none, none, some (.invokevirtual 144, 3, .ref 138), none, none, some (.ifCond .eq 34, 3, .ref 50), none, none, some (.aload_n 0, 1, .null), some (.ldc2_w 148, 3, .long 628005), none, none, some (.invokevirtual 144, 3, .ref 138), none, none, some (.ifCond .ne 24, 3, .ref 50), none, none, some (.aload_n 0, 1, .null), some (.ldc2_w 150, 3, .long 628001), none, none, some (.invokevirtual 144, 3, .ref 138), none, none, some (.ifCond .ne 14, 3, .ref 50), none, none, some (.aload_n 0, 1, .null), some (.iconst 3, 1, .null), some (.ldc2_w 152, 3, .long 25), none, none, some (.invokevirtual 154, 3, .ref 139), none, none, some (.goto 83, 3, .ref 130), none, none, some (.aload_n 0, 1, .null), some (.ldc2_w 158, 3, .long 613), none, none, some (.invokevirtual 144, 3, .ref 138), none, none, some (.ifCond .eq 33, 3, .ref 90), none, none, some (.aload_n 0, 1, .null), some (.ldc2_w 160, 3, .long 19617), none, none, some (.invokevirtual 144, 3, .ref 138), none, none, some (.ifCond .ne 23, 3, .ref 90), none, none, some (.aload_n 0, 1, .null), some (.ldc2_w 162, 3, .long 19621), none, none, some (.invokevirtual 144, 3, .ref 138), none, none, some (.ifCond .ne 13, 3, .ref 90), none, none, some (.aload_n 0, 1, .null), some (.ldc2_w 164, 3, .long 19631), none, none, some (.invokevirtual 144, 3, .ref 138), none, none, some (.ifCond .eq 33, 3, .ref 120), none, none, some (.aload_n 0, 1, .null), some (.ldc2_w 166, 3, .long 19), none, none, some (.invokevirtual 144, 3, .ref 138), none, none, some (.ifCond .eq 33, 3, .ref 130), none, none, some (.aload_n 0, 1, .null), some (.ldc2_w 168, 3, .long 629), none, none, some (.invokevirtual 144, 3, .ref 138), none, none, some (.ifCond .ne 23, 3, .ref 130), none, none, some (.aload_n 0, 1, .null), some (.ldc2_w 170, 3, .long 627), none, none, some (.invokevirtual 144, 3, .ref 138), none, none, some (.ifCond .ne 13, 3, .ref 130), none, none, some (.aload_n 0, 1, .null), some (.dup, 1, .null), some (.getfield 101, 3, .ref 597), none, none, some (.iconst 1, 1, .null), some (.isub, 1, .null), some (.putfield 101, 3, .ref 597), none, none, some (.return_, 1, .null)]
/-- 142: StemRulesModel.second(I)J -/
def ev_c142 : List (Option (Instr × Nat × Value)) := [some (.iload_n 0, 1, .null), some (.tableswitch 335 0 39 #[175, 179, 183, 187, 191, 195, 199, 203, 207, 211, 215, 219, 223, 227, 231, 235, 239, 243, 247, 251, 255, 259, 263, 267, 271, 275, 279, 283, 287, 291, 295, 299, 303, 307, 311, 315, 319, 323, 327, 331], 175, .null), none, none, none, none, none, none, none, none, none, none, none, none, none, none, none, none, none, none, none, none, none, none, none, none, none, none, none, none, none, none, none, none, none, none, none, none, none, none, none, none, none, none, none, none, none, none, none, none, none, none, none, none, none, none, none, none, none, none, none, none, none, none, none, none, none, none, none, none, none, none, none, none, none, none, none, none, none, none, none, none, none, none, none, none, none, none, none, none, none, none, none, none, none, none, none, none, none, none, none, none, none, none, none, none, none, none, none, none, none, none, none, none, none, none, none, none, none, none, none, none, none, none, none, none, none, none, none, none, none, none, none, none, none, none, none, none, none, none, none, none, none, none, none, none, none, none, none, none, none, none, none, none, none, none, none, none, none, none, none, none, none, none, none, none, none, none, none, none, none, none, none, none, none, none, some (.ldc2_w 172, 3, .long 12933637761), none, none, some (.lreturn, 1, .null), some (.ldc2_w 174, 3, .long 5761), none, none, some (.lreturn, 1, .null), some (.ldc2_w 176, 3, .long 404176180), none, none, some (.lreturn, 1, .null), some (.ldc2_w 178, 3, .long 474420), none, none, some (.lreturn, 1, .null), some (.ldc2_w 180, 3, .long 298437), none, none, some (.lreturn, 1, .null), some (.ldc2_w 182, 3, .long 167365), none, none, some (.lreturn, 1, .null), some (.ldc2_w 184, 3, .long 298433), none, none, some (.lreturn, 1, .null), some (.ldc2_w 186, 3, .long 167361), none, none, some (.lreturn, 1, .null), some (.ldc2_w 188, 3, .long 595785), none, none, some (.lreturn, 1, .null), some (.ldc2_w 190, 3, .long 5961), none, none, some (.lreturn, 1, .null), some (.ldc2_w 192, 3, .long 307265), none, none, some (.lreturn, 1, .null), some (.ldc2_w 194, 3, .long 176193), none, none, some (.lreturn, 1, .null), some (.ldc2_w 196, 3, .long 307585), none, none, some (.lreturn, 1, .null), some (.ldc2_w 198, 3, .long 385), none, none, some (.lreturn, 1, .null), some (.ldc2_w 200, 3, .long 9851333), none, none, some (.lreturn, 1, .null), some (.ldc2_w 202, 3, .long 20933), none, none, some (.lreturn, 1, .null), some (.ldc2_w 204, 3, .long 9605), none, none, some (.lreturn, 1, .null), some (.ldc2_w 206, 3, .long 5), none, none, some (.lreturn, 1, .null), some (.ldc2_w 208, 3, .long 9850543), none, none, some (.lreturn, 1, .null), some (.ldc2_w 210, 3, .long 20143), none, none, some (.lreturn, 1, .null), some (.ldc2_w 212, 3, .long 15545796425), none, none, some (.lreturn, 1, .null), some (.ldc2_w 190, 3, .long 5961), none, none, some (.lreturn, 1, .null), some (.ldc2_w 214, 3, .long 15181441), none, none, some (.lreturn, 1, .null), some (.ldc2_w 174, 3, .long 5761), none, none, some (.lreturn, 1, .null), some (.ldc2_w 216, 3, .long 605825), none, none, some (.lreturn, 1, .null), some (.ldc2_w 174, 3, .long 5761), none, none, some (.lreturn, 1, .null), some (.ldc2_w 218, 3, .long 14263681), none, none, some (.lreturn, 1, .null), some (.ldc2_w 198, 3, .long 385), none, none, some (.lreturn, 1, .null), some (.ldc2_w 220, 3, .long 21044336329), none, none, some (.lreturn, 1, .null), some (.ldc2_w 222, 3, .long 5833), none, none, some (.lreturn, 1, .null), some (.ldc2_w 224, 3, .long 21044343462), none, none, some (.lreturn, 1, .null), some (.ldc2_w 226, 3, .long 12966), none, none, some (.lreturn, 1, .null), some (.ldc2_w 228, 3, .long 21044350639), none, none, some (.lreturn, 1, .null), some (.ldc2_w 210, 3, .long 20143), none, none, some (.lreturn, 1, .null), some (.ldc2_w 230, 3, .long 10102145), none, none, some (.lreturn, 1, .null), some (.ldc2_w 198, 3, .long 385), none, none, some (.lreturn, 1, .null), some (.ldc2_w 232, 3, .long 10102473), none, none, some (.lreturn, 1, .null), some (.ldc2_w 222, 3, .long 5833), none, none, some (.lreturn, 1, .null), some (.ldc2_w 234, 3, .long 323268898), none, none, some (.lreturn, 1, .null), some (.ldc2_w 236, 3, .long 5506), none, none, some (.lreturn, 1, .null), some (.lconst 0, 1, .null), some (.lreturn, 1, .null)]
/-- 143: StemRulesModel.third(I)J -/
def ev_c143 : List (Option (Instr × Nat × Value)) := [some (.iload_n 0, 1, .null), some (.tableswitch 121 0 13 #[71, 75, 79, 83, 85, 89, 93, 97, 101, 105, 109, 113, 115, 119], 71, .null), none, none, none, none, none, none, none, none, none, none, none, none, none, none, none, none, none, none, none, none, none, none, none, none, none, none, none, none, none, none, none, none, none, none, none, none, none, none, none, none, none, none, none, none, none, none, none, none, none, none, none, none, none, none, none, none, none, none, none, none, none, none, none, none, none, none, none, none, none, none, some (.ldc2_w 238, 3, .long 5899369), none, none, some (.lreturn, 1, .null), some (.ldc2_w 240, 3, .long 105), none, none, some (.lreturn, 1, .null), some (.ldc2_w 242, 3, .long 5973633), none, none, some (.lreturn, 1, .null), some (.lconst 0, 1, .null), some (.lreturn, 1, .null), some (.ldc2_w 244, 3, .long 6104449), none, none, some (.lreturn, 1, .null), some (.ldc2_w 198, 3, .long 385), none, none, some (.lreturn, 1, .null), some (.ldc2_w 246, 3, .long 10101865), none, none, some (.lreturn, 1, .null), some (.ldc2_w 240, 3, .long 105), none, none, some (.lreturn, 1, .null), some (.ldc2_w 248, 3, .long 394345), none, none, some (.lreturn, 1, .null), some (.ldc2_w 240, 3, .long 105), none, none, some (.lreturn, 1, .null), some (.ldc2_w 226, 3, .long 12966), none, none, some (.lreturn, 1, .null), some (.lconst 0, 1, .null), some (.lreturn, 1, .null), some (.ldc2_w 250, 3, .long 642222), none, none, some (.lreturn, 1, .null), some (.lconst 0, 1, .null), some (.lreturn, 1, .null), some (.lconst 0, 1, .null), some (.lreturn, 1, .null)]
/-- 144: StemRulesModel.fourth(I)J -/
def ev_c144 : List (Option (Instr × Nat × Value)) := [some (.iload_n 0, 1, .null), some (.tableswitch 167 0 18 #[91, 95, 99, 103, 107, 111, 115, 119, 123, 127, 131, 135, 139, 143, 147, 151, 155, 159, 163], 91, .null), none, none, none, none, none, none, none, none, none, none, none, none, none, none, none, none, none, none, none, none, none, none, none, none, none, none, none, none, none, none, none, none, none, none, none, none, none, none, none, none, none, none, none, none, none, none, none, none, none, none, none, none, none, none, none, none, none, none, none, none, none, none, none, none, none, none, none, none, none, none, none, none, none, none, none, none, none, none, none, none, none, none, none, none, none, none, none, none, none, none, some (.ldc2_w 198, 3, .long 385), none, none, some (.lreturn, 1, .null), some (.ldc2_w 186, 3, .long 167361), none, none, some (.lreturn, 1, .null), some (.ldc2_w 182, 3, .long 167365), none, none, some (.lreturn, 1, .null), some (.ldc2_w 252, 3, .long 581), none, none, some (.lreturn, 1, .null), some (.ldc2_w 240, 3, .long 105), none, none, some (.lreturn, 1, .null), some (.ldc2_w 194, 3, .long 176193), none, none, some (.lreturn, 1, .null), some (.ldc2_w 254, 3, .long 176201), none, none, some (.lreturn, 1, .null), some (.ldc2_w 256, 3, .long 20929), none, none, some (.lreturn, 1, .null), some (.ldc2_w 258, 3, .long 21435813), none, none, some (.lreturn, 1, .null), some (.ldc2_w 260, 3, .long 669869), none, none, some (.lreturn, 1, .null), some (.ldc2_w 202, 3, .long 20933), none, none, some (.lreturn, 1, .null), some (.ldc2_w 262, 3, .long 14825), none, none, some (.lreturn, 1, .null), some (.ldc2_w 264, 3, .long 687), none, none, some (.lreturn, 1, .null), some (.ldc2_w 266, 3, .long 13929), none, none, some (.lreturn, 1, .null), some (.ldc2_w 174, 3, .long 5761), none, none, some (.lreturn, 1, .null), some (.ldc2_w 268, 3, .long 9865), none, none, some (.lreturn, 1, .null), some (.ldc2_w 210, 3, .long 20143), none, none, some (.lreturn, 1, .null), some (.ldc2_w 222, 3, .long 5833), none, none, some (.lreturn, 1, .null), some (.ldc2_w 190, 3, .long 5961), none, none, some (.lreturn, 1, .null), some (.lconst 0, 1, .null), some (.lreturn, 1, .null)]
/-- 145: StemRulesModel.ending(II)J -/
def ev_c145 : List (Option (Instr × Nat × Value)) := [some (.iload_n 0, 1, .null), some (.iconst 3, 1, .null), some (.if_icmp .ne 10, 3, .ref 12), none, none, some (.iload_n 1, 1, .null), some (.invokestatic 270, 3, .ref 142), none, none, some (.goto 19, 3, .ref 28), none, none, some (.iload_n 0, 1, .null), some (.iconst 4, 1, .null), some (.if_icmp .ne 10, 3, .ref 24), none, none, some (.iload_n 1, 1, .null), some (.invokestatic 274, 3, .ref 143), none, none, some (.goto 7, 3, .ref 28), none, none, some (.iload_n 1, 1, .null), some (.invokestatic 277, 3, .ref 144), none, none, some (.lreturn, 1, .null)]
/-- 146: StemRulesModel.longest(I)I -/
def ev_c146 : List (Option (Instr × Nat × Value)) := [some (.iload_n 1, 1, .null), some (.iconst 5, 1, .null), some (.if_icmp .ne 7, 3, .ref 9), none, none, some (.iconst 1, 1, .null), some (.goto 4, 3, .ref 10), none, none, some (.iconst 2, 1, .null), some (.istore_n 2, 1, .null), some (.iconst (-1), 1, .null), some (.istore_n 3, 1, .null), some (.iconst 0, 1, .null), some (.istore 4, 2, .null), none, some (.iconst 0, 1, .null), some (.istore 5, 2, .null), none, some (.iload_n 1, 1, .null), some (.iload 5, 2, .null), none, some (.invokestatic 280, 3, .ref 145), none, none, some (.lconst 0, 1, .null), some (.lcmp, 1, .null), some (.ifCond .eq 49, 3, .ref 76), none, none, some (.iload_n 1, 1, .null), some (.iload 5, 2, .null), none, some (.invokestatic 280, 3, .ref 145), none, none, some (.lstore 6, 2, .null), none, some (.aload_n 0, 1, .null), some (.lload 6, 2, .null), none, some (.invokevirtual 144, 3, .ref 138), none, none, some (.ifCond .eq 23, 3, .ref 67), none, none, some (.lload 6, 2, .null), none, some (.invokestatic 130, 3, .ref 136), none, none, some (.iload 4, 2, .null), none, some (.if_icmp .le 13, 3, .ref 67), none, none, some (.iload 5, 2, .null), none, some (.istore_n 3, 1, .null), some (.lload 6, 2, .null), none, some (.invokestatic 130, 3, .ref 136), none, none, some (.istore 4, 2, .null), none, some (.iload 5, 2, .null), none, some (.iload_n 2, 1, .null), some (.iadd, 1, .null), some (.istore 5, 2, .null), none, some (.goto (-54), 3, .ref 19), none, none, some (.iload_n 3, 1, .null), some (.ireturn, 1, .null)]
/-- 147: StemRulesModel.replace(I)V -/
def ev_c147 : List (Option (Instr × Nat × Value)) := [some (.aload_n 0, 1, .null), some (.iload_n 1, 1, .null), some (.invokevirtual 284, 3, .ref 146), none, none, some (.istore_n 2, 1, .null), some (.iload_n 2, 1, .null), some (.ifCond .ge 7, 3, .ref 14), none, none, some (.iconst 0, 1, .null), some (.goto 11, 3, .ref 22), none, none, some (.iload_n 1, 1, .null), some (.iload_n 2, 1, .null), some (.invokestatic 280, 3, .ref 145), none, none, some (.invokestatic 130, 3, .ref 136), none, none, some (.istore_n 3, 1, .null), some (.iload_n 2, 1, .null), some (.ifCond .lt 28, 3, .ref 52), none, none, some (.aload_n 0, 1, .null), some (.aload_n 0, 1, .null), some (.getfield 101, 3, .ref 597), none, none, some (.iload_n 3, 1, .null), some (.isub, 1, .null), some (.invokevirtual 288, 3, .ref 134), none, none, some (.ifCond .le 15, 3, .ref 52), none, none, some (.aload_n 0, 1, .null), some (.iload_n 3, 1, .null), some (.iload_n 1, 1, .null), some (.iload_n 2, 1, .null), some (.iconst 1, 1, .null), some (.iadd, 1, .null), some (.invokestatic 280, 3, .ref 145), none, none, some (.invokevirtual 154, 3, .ref 139), none, none, some (.return_, 1, .null)]
/-- 148: StemRulesModel.do1b()V -/
def ev_c148 : List (Option (Instr × Nat × Value)) := [some (.aload_n 0, 1, .null), some (.ldc2_w 291, 3, .long 4261), none, none, some (.invokevirtual 144, 3, .ref 138), none, none, some (.ifCond .eq 27, 3, .ref 34), none, none, some (.aload_n 0, 1, .null), some (.aload_n 0, 1, .null), some (.getfield 101, 3, .ref 597), none, none, some (.iconst 3, 1, .null), some (.isub, 1, .null), some (.invokevirtual 288, 3, .ref 134), none, none, some (.ifCond .le 13, 3, .ref 33), none, none, some (.aload_n 0, 1, .null), some (.dup, 1, .null), some (.getfield 101, 3, .ref 597), none, none, some (.iconst 1, 1, .null), some (.isub, 1, .null), some (.putfield 101, 3, .ref 597), none, none, some (.return_, 1, .null), some (.aload_n 0, 1, .null), some (.ldc2_w 293, 3, .long 133), none, none, some (.invokevirtual 144, 3, .ref 138), none, none, some (.ifCond .eq 7, 3, .ref 48), none, none, some (.iconst 2, 1, .null), some (.goto 18, 3, .ref 63), none, none, some (.aload_n 0, 1, .null), some (.ldc2_w 295, 3, .long 7625), none, none, some (.invokevirtual 144, 3, .ref 138), none, none, some (.ifCond .eq 7, 3, .ref 62), none, none, some (.iconst 3, 1, .null), some (.goto 4, 3, .ref 63), none, none, some (.iconst 0, 1, .null), some (.istore_n 1, 1, .null), some (.iload_n 1, 1, .null), some (.ifCond .eq 16, 3, .ref 81), none, none, some (.aload_n 0, 1, .null), some (.aload_n 0, 1, .null), some (.getfield 101, 3, .ref 597), none, none, some (.iload_n 1, 1, .null), some (.isub, 1, .null), some (.invokevirtual 297, 3, .ref 135), none, none, some (.ifCond .ne 4, 3, .ref 82), none, none, some (.return_, 1, .null), some (.aload_n 0, 1, .null), some (.dup, 1, .null), some (.getfield 101, 3, .ref 597), none, none, some (.iload_n 1, 1, .null), some (.isub, 1, .null), some (.putfield 101, 3, .ref 597), none, none, some (.aload_n 0, 1, .null), some (.ldc2_w 300, 3, .long 641), none, none, some (.invokevirtual 144, 3, .ref 138), none, none, some (.ifCond .ne 23, 3, .ref 122), none, none, some (.aload_n 0, 1, .null), some (.ldc2_w 302, 3, .long 386), none, none, some (.invokevirtual 144, 3, .ref 138), none, none, some (.ifCond .ne 13, 3, .ref 122), none, none, some (.aload_n 0, 1, .null), some (.ldc2_w 304, 3, .long 841), none, none, some (.invokevirtual 144, 3, .ref 138), none, none, some (.ifCond .eq 14, 3, .ref 133), none, none, some (.aload_n 0, 1, .null), some (.iconst 0, 1, .null), some (.ldc2_w 206, 3, .long 5), none, none, some (.invokevirtual 154, 3, .ref 139), none, none, some (.goto 135, 3, .ref 265), none, none, some (.aload_n 0, 1, .null), some (.getfield 101, 3, .ref 597), none, none, some (.iconst 1, 1, .null), some (.if_icmp .le 123, 3, .ref 261), none, none, some (.aload_n 0, 1, .null), some (.getfield 57, 3, .ref 596), none, none, some (.aload_n 0, 1, .null), some (.getfield 101, 3, .ref 597), none, none, some (.iconst 1, 1, .null), some (.isub, 1, .null), some (.iaload, 1, .null), some (.aload_n 0, 1, .null), some (.getfield 57, 3, .ref 596), none, none, some (.aload_n 0, 1, .null), some (.getfield 101, 3, .ref 597), none, none, some (.iconst 2, 1, .null), some (.isub, 1, .null), some (.iaload, 1, .null), some (.if_icmp .ne 98, 3, .ref 261), none, none, some (.aload_n 0, 1, .null), some (.aload_n 0, 1, .null), some (.getfield 101, 3, .ref 597), none, none, some (.iconst 1, 1, .null), some (.isub, 1, .null), some (.invokevirtual 125, 3, .ref 133), none, none, some (.ifCond .eq 85, 3, .ref 261), none, none, some (.aload_n 0, 1, .null), some (.aload_n 0, 1, .null), some (.getfield 101, 3, .ref 597), none, none, some (.iconst 2, 1, .null), some (.isub, 1, .null), some (.invokevirtual 125, 3, .ref 133), none, none, some (.ifCond .eq 72, 3, .ref 261), none, none, some (.aload_n 0, 1, .null), some (.getfield 57, 3, .ref 596), none, none, some (.aload_n 0, 1, .null), some (.getfield 101, 3, .ref 597), none, none, some (.iconst 1, 1, .null), some (.isub, 1, .null), some (.iaload, 1, .null), some (.istore_n 2, 1, .null), some (.aload_n 0, 1, .null), some (.dup, 1, .null), some (.getfield 101, 3, .ref 597), none, none, some (.iload_n 2, 1, .null), some (.bipush 108, 2, .null), none, some (.if_icmp .eq 15, 3, .ref 227), none, none, some (.iload_n 2, 1, .null), some (.bipush 115, 2, .null), none, some (.if_icmp .eq 9, 3, .ref 227), none, none, some (.iload_n 2, 1, .null), some (.bipush 122, 2, .null), none, some (.if_icmp .ne 7, 3, .ref 231), none, none, some (.iconst 0, 1, .null), some (.goto 4, 3, .ref 232), none, none, some (.iconst 1, 1, .null), some (.isub, 1, .null), some (.putfield 101, 3, .ref 597), none, none, some (.iload_n 2, 1, .null), some (.bipush 108, 2, .null), none, some (.if_icmp .eq 15, 3, .ref 254), none, none, some (.iload_n 2, 1, .null), some (.bipush 115, 2, .null), none, some (.if_icmp .eq 9, 3, .ref 254), none, none, some (.iload_n 2, 1, .null), some (.bipush 122, 2, .null), none, some (.if_icmp .ne 7, 3, .ref 258), none, none, some (.aload_n 0, 1, .null), some (.invokevirtual 306, 3, .ref 149), none, none, some (.goto 7, 3, .ref 265), none, none, some (.aload_n 0, 1, .null), some (.invokevirtual 306, 3, .ref 149), none, none, some (.return_, 1, .null)]
/-- 149: StemRulesModel.shortE()V -/
def ev_c149 : List (Option (Instr × Nat × Value)) := [some (.aload_n 0, 1, .null), some (.aload_n 0, 1, .null), some (.getfield 101, 3, .ref 597), none, none, some (.invokevirtual 288, 3, .ref 134), none, none, some (.iconst 1, 1, .null), some (.if_icmp .ne 22, 3, .ref 31), none, none, some (.aload_n 0, 1, .null), some (.aload_n 0, 1, .null), some (.getfield 101, 3, .ref 597), none, none, some (.invokevirtual 309, 3, .ref 140), none, none, some (.ifCond .eq 11, 3, .ref 31), none, none, some (.aload_n 0, 1, .null), some (.iconst 0, 1, .null), some (.ldc2_w 206, 3, .long 5), none, none, some (.invokevirtual 154, 3, .ref 139), none, none, some (.return_, 1, .null)]
/-- 150: StemRulesModel.porterStep(I)V -/
def ev_c150 : List (Option (Instr × Nat × Value)) := [some (.iload_n 1, 1, .null), some (.tableswitch 327 0 6 #[43, 109, 116, 155, 163, 171, 266], 43, .null), none, none, none, none, none, none, none, none, none, none, none, none, none, none, none, none, none, none, none, none, none, none, none, none, none, none, none, none, none, none, none, none, none, none, none, none, none, none, none, none, none, none, some (.aload_n 0, 1, .null), some (.ldc2_w 312, 3, .long 628339), none, none, some (.invokevirtual 144, 3, .ref 138), none, none, some (.ifCond .ne 13, 3, .ref 64), none, none, some (.aload_n 0, 1, .null), some (.ldc2_w 142, 3, .long 19625), none, none, some (.invokevirtual 144, 3, .ref 138), none, none, some (.ifCond .eq 16, 3, .ref 77), none, none, some (.aload_n 0, 1, .null), some (.dup, 1, .null), some (.getfield 101, 3, .ref 597), none, none, some (.iconst 2, 1, .null), some (.isub, 1, .null), some (.putfield 101, 3, .ref 597), none, none, some (.goto 286, 3, .ref 360), none, none, some (.aload_n 0, 1, .null), some (.ldc2_w 166, 3, .long 19), none, none, some (.invokevirtual 144, 3, .ref 138), none, none, some (.ifCond .eq 276, 3, .ref 360), none, none, some (.aload_n 0, 1, .null), some (.ldc2_w 170, 3, .long 627), none, none, some (.invokevirtual 144, 3, .ref 138), none, none, some (.ifCond .ne 266, 3, .ref 360), none, none, some (.aload_n 0, 1, .null), some (.dup, 1, .null), some (.getfield 101, 3, .ref 597), none, none, some (.iconst 1, 1, .null), some (.isub, 1, .null), some (.putfield 101, 3, .ref 597), none, none, some (.goto 253, 3, .ref 360), none, none, some (.aload_n 0, 1, .null), some (.invokevirtual 314, 3, .ref 148), none, none, some (.goto 246, 3, .ref 360), none, none, some (.aload_n 0, 1, .null), some (.ldc2_w 152, 3, .long 25), none, none, some (.invokevirtual 144, 3, .ref 138), none, none, some (.ifCond .eq 236, 3, .ref 360), none, none, some (.aload_n 0, 1, .null), some (.aload_n 0, 1, .null), some (.getfield 101, 3, .ref 597), none, none, some (.iconst 1, 1, .null), some (.isub, 1, .null), some (.invokevirtual 297, 3, .ref 135), none, none, some (.ifCond .eq 223, 3, .ref 360), none, none, some (.aload_n 0, 1, .null), some (.getfield 57, 3, .ref 596), none, none, some (.aload_n 0, 1, .null), some (.getfield 101, 3, .ref 597), none, none, some (.iconst 1, 1, .null), some (.isub, 1, .null), some (.bipush 105, 2, .null), none, some (.iastore, 1, .null), some (.goto 207, 3, .ref 360), none, none, some (.aload_n 0, 1, .null), some (.iconst 3, 1, .null), some (.invokevirtual 317, 3, .ref 147), none, none, some (.goto 199, 3, .ref 360), none, none, some (.aload_n 0, 1, .null), some (.iconst 4, 1, .null), some (.invokevirtual 317, 3, .ref 147), none, none, some (.goto 191, 3, .ref 360), none, none, some (.aload_n 0, 1, .null), some (.iconst 5, 1, .null), some (.invokevirtual 284, 3, .ref 146), none, none, some (.istore_n 2, 1, .null), some (.iload_n 2, 1, .null), some (.ifCond .lt 181, 3, .ref 360), none, none, some (.aload_n 0, 1, .null), some (.getfield 101, 3, .ref 597), none, none, some (.iload_n 2, 1, .null), some (.invokestatic 277, 3, .ref 144), none, none, some (.invokestatic 130, 3, .ref 136), none, none, some (.isub, 1, .null), some (.istore_n 3, 1, .null), some (.aload_n 0, 1, .null), some (.iload_n 3, 1, .null), some (.invokevirtual 288, 3, .ref 134), none, none, some (.iconst 1, 1, .null), some (.if_icmp .le 43, 3, .ref 244), none, none, some (.iload_n 2, 1, .null), some (.bipush 11, 2, .null), none, some (.if_icmp .ne 33, 3, .ref 240), none, none, some (.iload_n 3, 1, .null), some (.ifCond .le 33, 3, .ref 244), none, none, some (.aload_n 0, 1, .null), some (.getfield 57, 3, .ref 596), none, none, some (.iload_n 3, 1, .null), some (.iconst 1, 1, .null), some (.isub, 1, .null), some (.iaload, 1, .null), some (.bipush 115, 2, .null), none, some (.if_icmp .eq 16, 3, .ref 240), none, none, some (.aload_n 0, 1, .null), some (.getfield 57, 3, .ref 596), none, none, some (.iload_n 3, 1, .null), some (.iconst 1, 1, .null), some (.isub, 1, .null), some (.iaload, 1, .null), some (.bipush 116, 2, .null), none, some (.if_icmp .ne 7, 3, .ref 244), none, none, some (.iconst 1, 1, .null), some (.goto 4, 3, .ref 245), none, none, some (.iconst 0, 1, .null), some (.istore 4, 2, .null), none, some (.aload_n 0, 1, .null), some (.iload 4, 2, .null), none, some (.ifCond .eq 7, 3, .ref 257), none, none, some (.iload_n 3, 1, .null), some (.goto 7, 3, .ref 261), none, none, some (.aload_n 0, 1, .null), some (.getfield 101, 3, .ref 597), none, none, some (.putfield 101, 3, .ref 597), none, none, some (.goto 96, 3, .ref 360), none, none, some (.aload_n 0, 1, .null), some (.ldc2_w 206, 3, .long 5), none, none, some (.invokevirtual 144, 3, .ref 138), none, none, some (.ifCond .eq 86, 3, .ref 360), none, none, some (.aload_n 0, 1, .null), some (.aload_n 0, 1, .null), some (.getfield 101, 3, .ref 597), none, none, some (.iconst 1, 1, .null), some (.isub, 1, .null), some (.invokevirtual 288, 3, .ref 134), none, none, some (.istore_n 3, 1, .null), some (.aload_n 0, 1, .null), some (.dup, 1, .null), some (.getfield 101, 3, .ref 597), none, none, some (.iload_n 3, 1, .null), some (.iconst 1, 1, .null), some (.if_icmp .gt 21, 3, .ref 316), none, none, some (.iload_n 3, 1, .null), some (.iconst 1, 1, .null), some (.if_icmp .ne 20, 3, .ref 320), none, none, some (.aload_n 0, 1, .null), some (.aload_n 0, 1, .null), some (.getfield 101, 3, .ref 597), none, none, some (.iconst 1, 1, .null), some (.isub, 1, .null), some (.invokevirtual 309, 3, .ref 140), none, none, some (.ifCond .ne 7, 3, .ref 320), none, none, some (.iconst 1, 1, .null), some (.goto 4, 3, .ref 321), none, none, some (.iconst 0, 1, .null), some (.isub, 1, .null), some (.putfield 101, 3, .ref 597), none, none, some (.goto 35, 3, .ref 360), none, none, some (.aload_n 0, 1, .null), some (.ldc2_w 320, 3, .long 396), none, none, some (.invokevirtual 144, 3, .ref 138), none, none, some (.ifCond .eq 25, 3, .ref 360), none, none, some (.aload_n 0, 1, .null), some (.aload_n 0, 1, .null), some (.getfield 101, 3, .ref 597), none, none, some (.invokevirtual 288, 3, .ref 134), none, none, some (.iconst 1, 1, .null), some (.if_icmp .le 13, 3, .ref 360), none, none, some (.aload_n 0, 1, .null), some (.dup, 1, .null), some (.getfield 101, 3, .ref 597), none, none, some (.iconst 1, 1, .null), some (.isub, 1, .null), some (.putfield 101, 3, .ref 597), none, none, some (.return_, 1, .null)]
/-- 151: StemRulesModel.porter(I)V -/
def ev_c151 : List (Option (Instr × Nat × Value)) := [some (.aload_n 0, 1, .null), some (.getfield 101, 3, .ref 597), none, none, some (.iconst 2, 1, .null), some (.if_icmp .le 21, 3, .ref 26), none, none, some (.iconst 0, 1, .null), some (.istore_n 2, 1, .null), some (.iload_n 2, 1, .null), some (.iload_n 1, 1, .null), some (.if_icmp .gt 14, 3, .ref 26), none, none, some (.aload_n 0, 1, .null), some (.iload_n 2, 1, .null), some (.invokevirtual 322, 3, .ref 150), none, none, some (.iinc 2 1, 3, .null), none, none, some (.goto (-13), 3, .ref 10), none, none, some (.return_, 1, .null)]
/-- 152: StemRulesModel.endsWith(I)Z -/
def ev_c152 : List (Option (Instr × Nat × Value)) := [some (.aload_n 0, 1, .null), some (.getfield 19, 3, .ref 581), none, none, some (.iload_n 1, 1, .null), some (.iaload, 1, .null), some (.aload_n 0, 1, .null), some (.getfield 101, 3, .ref 597), none, none, some (.if_icmp .gt 7, 3, .ref 17), none, none, some (.iconst 1, 1, .null), some (.goto 4, 3, .ref 18), none, none, some (.iconst 0, 1, .null), some (.istore_n 2, 1, .null), some (.iconst 0, 1, .null), some (.istore_n 3, 1, .null), some (.iload_n 2, 1, .null), some (.ifCond .eq 57, 3, .ref 79), none, none, some (.iload_n 3, 1, .null), some (.aload_n 0, 1, .null), some (.getfield 19, 3, .ref 581), none, none, some (.iload_n 1, 1, .null), some (.iaload, 1, .null), some (.if_icmp .ge 47, 3, .ref 79), none, none, some (.aload_n 0, 1, .null), some (.getfield 57, 3, .ref 596), none, none, some (.aload_n 0, 1, .null), some (.getfield 101, 3, .ref 597), none, none, some (.aload_n 0, 1, .null), some (.getfield 19, 3, .ref 581), none, none, some (.iload_n 1, 1, .null), some (.iaload, 1, .null), some (.isub, 1, .null), some (.iload_n 3, 1, .null), some (.iadd, 1, .null), some (.iaload, 1, .null), some (.aload_n 0, 1, .null), some (.getfield 16, 3, .ref 580), none, none, some (.bipush 24, 2, .null), none, some (.iload_n 1, 1, .null), some (.imul, 1, .null), some (.iload_n 3, 1, .null), some (.iadd, 1, .null), some (.iaload, 1, .null), some (.if_icmp .ne 7, 3, .ref 71), none, none, some (.iconst 1, 1, .null), some (.goto 4, 3, .ref 72), none, none, some (.iconst 0, 1, .null), some (.istore_n 2, 1, .null), some (.iinc 3 1, 3, .null), none, none, some (.goto (-55), 3, .ref 21), none, none, some (.iload_n 2, 1, .null), some (.ireturn, 1, .null)]
/-- 153: StemRulesModel.isGood(II)Z -/
def ev_c153 : List (Option (Instr × Nat × Value)) := [some (.iload_n 1, 1, .null), some (.iconst 1, 1, .null), some (.if_icmp .lt 11, 3, .ref 13), none, none, some (.iload_n 1, 1, .null), some (.iload_n 2, 1, .null), some (.iadd, 1, .null), some (.bipush 24, 2, .null), none, some (.if_icmp .le 5, 3, .ref 15), none, none, some (.iconst 0, 1, .null), some (.ireturn, 1, .null), some (.aload_n 0, 1, .null), some (.getfield 57, 3, .ref 596), none, none, some (.iconst 0, 1, .null), some (.iaload, 1, .null), some (.invokestatic 122, 3, .ref 132), none, none, some (.ifCond .eq 14, 3, .ref 38), none, none, some (.iload_n 1, 1, .null), some (.iconst 2, 1, .null), some (.if_icmp .lt 7, 3, .ref 36), none, none, some (.iconst 1, 1, .null), some (.goto 4, 3, .ref 37), none, none, some (.iconst 0, 1, .null), some (.ireturn, 1, .null), some (.iconst 0, 1, .null), some (.istore_n 3, 1, .null), some (.iconst 1, 1, .null), some (.istore 4, 2, .null), none, some (.iload 4, 2, .null), none, some (.iload_n 1, 1, .null), some (.if_icmp .ge 42, 3, .ref 88), none, none, some (.iload_n 3, 1, .null), some (.aload_n 0, 1, .null), some (.getfield 57, 3, .ref 596), none, none, some (.iload 4, 2, .null), none, some (.iaload, 1, .null), some (.invokestatic 122, 3, .ref 132), none, none, some (.ifCond .ne 15, 3, .ref 75), none, none, some (.aload_n 0, 1, .null), some (.getfield 57, 3, .ref 596), none, none, some (.iload 4, 2, .null), none, some (.iaload, 1, .null), some (.bipush 121, 2, .null), none, some (.if_icmp .ne 7, 3, .ref 79), none, none, some (.iconst 1, 1, .null), some (.goto 4, 3, .ref 80), none, none, some (.iconst 0, 1, .null), some (.ior, 1, .null), some (.istore_n 3, 1, .null), some (.iinc 4 1, 3, .null), none, none, some (.goto (-42), 3, .ref 43), none, none, some (.iload_n 1, 1, .null), some (.iconst 3, 1, .null), some (.if_icmp .lt 11, 3, .ref 101), none, none, some (.iload_n 3, 1, .null), some (.ifCond .eq 7, 3, .ref 101), none, none, some (.iconst 1, 1, .null), some (.goto 4, 3, .ref 102), none, none, some (.iconst 0, 1, .null), some (.ireturn, 1, .null)]
/-- 154: StemRulesModel.husk()V -/
def ev_c154 : List (Option (Instr × Nat × Value)) := [some (.iconst 1, 1, .null), some (.istore_n 1, 1, .null), some (.iconst 0, 1, .null), some (.istore_n 2, 1, .null), some (.iload_n 2, 1, .null), some (.bipush 16, 2, .null), none, some (.if_icmp .ge 199, 3, .ref 206), none, none, some (.iconst 0, 1, .null), some (.istore_n 3, 1, .null), some (.iload_n 3, 1, .null), some (.aload_n 0, 1, .null), some (.getfield 325, 3, .ref 590), none, none, some (.if_icmp .ge 79, 3, .ref 96), none, none, some (.aload_n 0, 1, .null), some (.aload_n 0, 1, .null), some (.getfield 28, 3, .ref 585), none, none, some (.iload_n 3, 1, .null), some (.iaload, 1, .null), some (.invokevirtual 328, 3, .ref 152), none, none, some (.ifCond .eq 60, 3, .ref 90), none, none, some (.iload_n 1, 1, .null), some (.ifCond .ne 12, 3, .ref 46), none, none, some (.aload_n 0, 1, .null), some (.getfield 31, 3, .ref 586), none, none, some (.iload_n 3, 1, .null), some (.baload, 1, .null), some (.ifCond .ne 47, 3, .ref 90), none, none, some (.aload_n 0, 1, .null), some (.aload_n 0, 1, .null), some (.getfield 101, 3, .ref 597), none, none, some (.aload_n 0, 1, .null), some (.getfield 35, 3, .ref 587), none, none, some (.iload_n 3, 1, .null), some (.iaload, 1, .null), some (.isub, 1, .null), some (.aload_n 0, 1, .null), some (.getfield 38, 3, .ref 588), none, none, some (.iload_n 3, 1, .null), some (.iaload, 1, .null), some (.bipush (-5), 2, .null), none, some (.if_icmp .ne 7, 3, .ref 73), none, none, some (.iconst 0, 1, .null), some (.goto 14, 3, .ref 84), none, none, some (.aload_n 0, 1, .null), some (.getfield 19, 3, .ref 581), none, none, some (.aload_n 0, 1, .null), some (.getfield 38, 3, .ref 588), none, none, some (.iload_n 3, 1, .null), some (.iaload, 1, .null), some (.iaload, 1, .null), some (.invokevirtual 331, 3, .ref 153), none, none, some (.ifCond .ne 9, 3, .ref 96), none, none, some (.iinc 3 1, 3, .null), none, none, some (.goto (-81), 3, .ref 12), none, none, some (.iload_n 3, 1, .null), some (.aload_n 0, 1, .null), some (.getfield 325, 3, .ref 590), none, none, some (.if_icmp .ne 4, 3, .ref 105), none, none, some (.return_, 1, .null), some (.aload_n 0, 1, .null), some (.dup, 1, .null), some (.getfield 101, 3, .ref 597), none, none, some (.aload_n 0, 1, .null), some (.getfield 35, 3, .ref 587), none, none, some (.iload_n 3, 1, .null), some (.iaload, 1, .null), some (.isub, 1, .null), some (.putfield 101, 3, .ref 597), none, none, some (.aload_n 0, 1, .null), some (.getfield 38, 3, .ref 588), none, none, some (.iload_n 3, 1, .null), some (.iaload, 1, .null), some (.istore 4, 2, .null), none, some (.iconst 0, 1, .null), some (.istore 5, 2, .null), none, some (.iload 4, 2, .null), none, some (.bipush (-5), 2, .null), none, some (.if_icmp .eq 53, 3, .ref 188), none, none, some (.iload 5, 2, .null), none, some (.aload_n 0, 1, .null), some (.getfield 19, 3, .ref 581), none, none, some (.iload 4, 2, .null), none, some (.iaload, 1, .null), some (.if_icmp .ge 41, 3, .ref 188), none, none, some (.aload_n 0, 1, .null), some (.getfield 57, 3, .ref 596), none, none, some (.aload_n 0, 1, .null), some (.getfield 101, 3, .ref 597), none, none, some (.aload_n 0, 1, .null), some (.getfield 16, 3, .ref 580), none, none, some (.bipush 24, 2, .null), none, some (.iload 4, 2, .null), none, some (.imul, 1, .null), some (.iload 5, 2, .null), none, some (.iadd, 1, .null), some (.iaload, 1, .null), some (.iastore, 1, .null), some (.aload_n 0, 1, .null), some (.dup, 1, .null), some (.getfield 101, 3, .ref 597), none, none, some (.iconst 1, 1, .null), some (.iadd, 1, .null), some (.putfield 101, 3, .ref 597), none, none, some (.iinc 5 1, 3, .null), none, none, some (.goto (-54), 3, .ref 131), none, none, some (.iconst 0, 1, .null), some (.istore_n 1, 1, .null), some (.aload_n 0, 1, .null), some (.getfield 41, 3, .ref 589), none, none, some (.iload_n 3, 1, .null), some (.baload, 1, .null), some (.ifCond .ne 4, 3, .ref 200), none, none, some (.return_, 1, .null), some (.iinc 2 1, 3, .null), none, none, some (.goto (-199), 3, .ref 4), none, none, some (.return_, 1, .null)]
/-- 155: StemRulesModel.stemOf(II)V -/
def ev_c155 : List (Option (Instr × Nat × Value)) := [some (.iload_n 1, 1, .null), some (.ifCond .eq 18, 3, .ref 19), none, none, some (.iload_n 2, 1, .null), some (.ifCond .lt 15, 3, .ref 20), none, none, some (.aload_n 0, 1, .null), some (.getfield 22, 3, .ref 583), none, none, some (.iload_n 2, 1, .null), some (.iaload, 1, .null), some (.iconst 1, 1, .null), some (.iand, 1, .null), some (.ifCond .eq 4, 3, .ref 20), none, none, some (.return_, 1, .null), some (.iload_n 2, 1, .null), some (.ifCond .lt 27, 3, .ref 48), none, none, some (.aload_n 0, 1, .null), some (.getfield 25, 3, .ref 584), none, none, some (.iload_n 2, 1, .null), some (.iaload, 1, .null), some (.bipush (-5), 2, .null), none, some (.if_icmp .eq 16, 3, .ref 48), none, none, some (.aload_n 0, 1, .null), some (.aload_n 0, 1, .null), some (.getfield 25, 3, .ref 584), none, none, some (.iload_n 2, 1, .null), some (.iaload, 1, .null), some (.invokevirtual 116, 3, .ref 127), none, none, some (.goto 33, 3, .ref 78), none, none, some (.iload_n 1, 1, .null), some (.iconst 1, 1, .null), some (.if_icmp .ne 10, 3, .ref 60), none, none, some (.aload_n 0, 1, .null), some (.invokevirtual 335, 3, .ref 141), none, none, some (.goto 21, 3, .ref 78), none, none, some (.iload_n 1, 1, .null), some (.iconst 2, 1, .null), some (.if_icmp .ne 12, 3, .ref 74), none, none, some (.aload_n 0, 1, .null), some (.bipush 7, 2, .null), none, some (.invokevirtual 338, 3, .ref 151), none, none, some (.goto 7, 3, .ref 78), none, none, some (.aload_n 0, 1, .null), some (.invokevirtual 341, 3, .ref 154), none, none, some (.return_, 1, .null)]
/-- 156: StemRulesModel.stem(II)I -/
def ev_c156 : List (Option (Instr × Nat × Value)) := [some (.aload_n 0, 1, .null), some (.iload_n 2, 1, .null), some (.invokevirtual 112, 3, .ref 121), none, none, some (.ifCond .eq 5, 3, .ref 10), none, none, some (.iconst (-1), 1, .null), some (.ireturn, 1, .null), some (.iload_n 1, 1, .null), some (.iconst 0, 1, .null), some (.iconst 3, 1, .null), some (.invokestatic 87, 3, .ref 120), none, none, some (.ifCond .eq 6, 3, .ref 22), none, none, some (.bipush (-2), 2, .null), none, some (.ireturn, 1, .null), some (.aload_n 0, 1, .null), some (.iload_n 2, 1, .null), some (.invokevirtual 116, 3, .ref 127), none, none, some (.aload_n 0, 1, .null), some (.iload_n 1, 1, .null), some (.iload_n 2, 1, .null), some (.invokevirtual 344, 3, .ref 155), none, none, some (.aload_n 0, 1, .null), some (.invokevirtual 119, 3, .ref 126), none, none, some (.ireturn, 1, .null)]
/-- 157: StemRulesModel.step(II)I -/
def ev_c157 : List (Option (Instr × Nat × Value)) := [some (.aload_n 0, 1, .null), some (.iload_n 1, 1, .null), some (.invokevirtual 112, 3, .ref 121), none, none, some (.ifCond .eq 5, 3, .ref 10), none, none, some (.iconst (-1), 1, .null), some (.ireturn, 1, .null), some (.iload_n 2, 1, .null), some (.iconst 0, 1, .null), some (.bipush 7, 2, .null), none, some (.invokestatic 87, 3, .ref 120), none, none, some (.ifCond .eq 6, 3, .ref 23), none, none, some (.bipush (-2), 2, .null), none, some (.ireturn, 1, .null), some (.aload_n 0, 1, .null), some (.iload_n 1, 1, .null), some (.invokevirtual 116, 3, .ref 127), none, none, some (.aload_n 0, 1, .null), some (.iload_n 2, 1, .null), some (.invokevirtual 338, 3, .ref 151), none, none, some (.aload_n 0, 1, .null), some (.invokevirtual 119, 3, .ref 126), none, none, some (.ireturn, 1, .null)]
/-- 158: StemRulesModel.measure(I)I -/
def ev_c158 : List (Option (Instr × Nat × Value)) := [some (.aload_n 0, 1, .null), some (.iload_n 1, 1, .null), some (.invokevirtual 112, 3, .ref 121), none, none, some (.ifCond .eq 5, 3, .ref 10), none, none, some (.iconst (-1), 1, .null), some (.ireturn, 1, .null), some (.aload_n 0, 1, .null), some (.iload_n 1, 1, .null), some (.invokevirtual 116, 3, .ref 127), none, none, some (.aload_n 0, 1, .null), some (.aload_n 0, 1, .null), some (.getfield 101, 3, .ref 597), none, none, some (.invokevirtual 288, 3, .ref 134), none, none, some (.ireturn, 1, .null)]
/-- 159: StemRulesModel.mark(IIZ)I -/
def ev_c159 : List (Option (Instr × Nat × Value)) := [some (.aload_n 0, 1, .null), some (.iload_n 2, 1, .null), some (.invokevirtual 112, 3, .ref 121), none, none, some (.ifCond .eq 5, 3, .ref 10), none, none, some (.iconst (-1), 1, .null), some (.ireturn, 1, .null), some (.iload_n 1, 1, .null), some (.iconst 0, 1, .null), some (.iconst 2, 1, .null), some (.invokestatic 87, 3, .ref 120), none, none, some (.ifCond .eq 6, 3, .ref 22), none, none, some (.bipush (-2), 2, .null), none, some (.ireturn, 1, .null), some (.iconst 1, 1, .null), some (.iload_n 1, 1, .null), some (.ishl, 1, .null), some (.istore 4, 2, .null), none, some (.aload_n 0, 1, .null), some (.getfield 22, 3, .ref 583), none, none, some (.iload_n 2, 1, .null), some (.iaload, 1, .null), some (.iload 4, 2, .null), none, some (.iand, 1, .null), some (.ifCond .eq 7, 3, .ref 43), none, none, some (.iconst 1, 1, .null), some (.goto 4, 3, .ref 44), none, none, some (.iconst 0, 1, .null), some (.istore 5, 2, .null), none, some (.aload_n 0, 1, .null), some (.getfield 22, 3, .ref 583), none, none, some (.iload_n 2, 1, .null), some (.iload_n 3, 1, .null), some (.ifCond .eq 15, 3, .ref 67), none, none, some (.aload_n 0, 1, .null), some (.getfield 22, 3, .ref 583), none, none, some (.iload_n 2, 1, .null), some (.iaload, 1, .null), some (.iload 4, 2, .null), none, some (.ior, 1, .null), some (.goto 14, 3, .ref 78), none, none, some (.aload_n 0, 1, .null), some (.getfield 22, 3, .ref 583), none, none, some (.iload_n 2, 1, .null), some (.iaload, 1, .null), some (.iload 4, 2, .null), none, some (.iconst (-1), 1, .null), some (.ixor, 1, .null), some (.iand, 1, .null), some (.iastore, 1, .null), some (.iload 5, 2, .null), none, some (.iload_n 3, 1, .null), some (.if_icmp .ne 7, 3, .ref 89), none, none, some (.iconst 0, 1, .null), some (.goto 4, 3, .ref 90), none, none, some (.iconst 1, 1, .null), some (.ireturn, 1, .null)]
/-- 160: StemRulesModel.pair(II)I -/
def ev_c160 : List (Option (Instr × Nat × Value)) := [some (.aload_n 0, 1, .null), some (.iload_n 1, 1, .null), some (.invokevirtual 112, 3, .ref 121), none, none, some (.ifCond .ne 17, 3, .ref 22), none, none, some (.iload_n 2, 1, .null), some (.bipush (-5), 2, .null), none, some (.if_icmp .eq 13, 3, .ref 24), none, none, some (.aload_n 0, 1, .null), some (.iload_n 2, 1, .null), some (.invokevirtual 112, 3, .ref 121), none, none, some (.ifCond .eq 5, 3, .ref 24), none, none, some (.iconst (-1), 1, .null), some (.ireturn, 1, .null), some (.aload_n 0, 1, .null), some (.getfield 25, 3, .ref 584), none, none, some (.iload_n 1, 1, .null), some (.iaload, 1, .null), some (.istore_n 3, 1, .null), some (.aload_n 0, 1, .null), some (.getfield 25, 3, .ref 584), none, none, some (.iload_n 1, 1, .null), some (.iload_n 2, 1, .null), some (.iastore, 1, .null), some (.iload_n 3, 1, .null), some (.ireturn, 1, .null)]
/-- 161: StemRulesModel.row(IZIIZ)I -/
def ev_c161 : List (Option (Instr × Nat × Value)) := [some (.aload_n 0, 1, .null), some (.iload_n 1, 1, .null), some (.invokevirtual 112, 3, .ref 121), none, none, some (.ifCond .ne 19, 3, .ref 24), none, none, some (.iload 4, 2, .null), none, some (.bipush (-5), 2, .null), none, some (.if_icmp .eq 14, 3, .ref 26), none, none, some (.aload_n 0, 1, .null), some (.iload 4, 2, .null), none, some (.invokevirtual 112, 3, .ref 121), none, none, some (.ifCond .eq 5, 3, .ref 26), none, none, some (.iconst (-1), 1, .null), some (.ireturn, 1, .null), some (.aload_n 0, 1, .null), some (.getfield 19, 3, .ref 581), none, none, some (.iload_n 1, 1, .null), some (.iaload, 1, .null), some (.bipush 8, 2, .null), none, some (.if_icmp .gt 31, 3, .ref 65), none, none, some (.iload 4, 2, .null), none, some (.bipush (-5), 2, .null), none, some (.if_icmp .eq 14, 3, .ref 55), none, none, some (.aload_n 0, 1, .null), some (.getfield 19, 3, .ref 581), none, none, some (.iload 4, 2, .null), none, some (.iaload, 1, .null), some (.iconst 4, 1, .null), some (.if_icmp .gt 13, 3, .ref 65), none, none, some (.iload_n 3, 1, .null), some (.iconst 0, 1, .null), some (.bipush 8, 2, .null), none, some (.invokestatic 87, 3, .ref 120), none, none, some (.ifCond .eq 6, 3, .ref 68), none, none, some (.bipush (-2), 2, .null), none, some (.ireturn, 1, .null), some (.aload_n 0, 1, .null), some (.getfield 325, 3, .ref 590), none, none, some (.bipush 40, 2, .null), none, some (.if_icmp .ne 6, 3, .ref 80), none, none, some (.bipush (-4), 2, .null), none, some (.ireturn, 1, .null), some (.aload_n 0, 1, .null), some (.getfield 28, 3, .ref 585), none, none, some (.aload_n 0, 1, .null), some (.getfield 325, 3, .ref 590), none, none, some (.iload_n 1, 1, .null), some (.iastore, 1, .null), some (.aload_n 0, 1, .null), some (.getfield 31, 3, .ref 586), none, none, some (.aload_n 0, 1, .null), some (.getfield 325, 3, .ref 590), none, none, some (.iload_n 2, 1, .null), some (.bastore, 1, .null), some (.aload_n 0, 1, .null), some (.getfield 35, 3, .ref 587), none, none, some (.aload_n 0, 1, .null), some (.getfield 325, 3, .ref 590), none, none, some (.iload_n 3, 1, .null), some (.iastore, 1, .null), some (.aload_n 0, 1, .null), some (.getfield 38, 3, .ref 588), none, none, some (.aload_n 0, 1, .null), some (.getfield 325, 3, .ref 590), none, none, some (.iload 4, 2, .null), none, some (.iastore, 1, .null), some (.aload_n 0, 1, .null), some (.getfield 41, 3, .ref 589), none, none, some (.aload_n 0, 1, .null), some (.getfield 325, 3, .ref 590), none, none, some (.iload 5, 2, .null), none, some (.bastore, 1, .null), some (.aload_n 0, 1, .null), some (.dup, 1, .null), some (.getfield 325, 3, .ref 590), none, none, some (.iconst 1, 1, .null), some (.iadd, 1, .null), some (.putfield 325, 3, .ref 590), none, none, some (.aload_n 0, 1, .null), some (.getfield 325, 3, .ref 590), none, none, some (.iconst 1, 1, .null), some (.isub, 1, .null), some (.ireturn, 1, .null)]
/-- 162: StemRulesModel.rowless()I -/
def ev_c162 : List (Option (Instr × Nat × Value)) := [some (.aload_n 0, 1, .null), some (.getfield 325, 3, .ref 590), none, none, some (.istore_n 1, 1, .null), some (.aload_n 0, 1, .null), some (.iconst 0, 1, .null), some (.putfield 325, 3, .ref 590), none, none, some (.iload_n 1, 1, .null), some (.ireturn, 1, .null)]
/-- 163: StemRulesModel.affix(ZII)I -/
def ev_c163 : List (Option (Instr × Nat × Value)) := [some (.aload_n 0, 1, .null), some (.iload_n 2, 1, .null), some (.invokevirtual 112, 3, .ref 121), none, none, some (.ifCond .ne 17, 3, .ref 22), none, none, some (.iload_n 3, 1, .null), some (.bipush (-5), 2, .null), none, some (.if_icmp .eq 13, 3, .ref 24), none, none, some (.aload_n 0, 1, .null), some (.iload_n 3, 1, .null), some (.invokevirtual 112, 3, .ref 121), none, none, some (.ifCond .eq 5, 3, .ref 24), none, none, some (.iconst (-1), 1, .null), some (.ireturn, 1, .null), some (.aload_n 0, 1, .null), some (.getfield 19, 3, .ref 581), none, none, some (.iload_n 2, 1, .null), some (.iaload, 1, .null), some (.bipush 8, 2, .null), none, some (.if_icmp .gt 20, 3, .ref 52), none, none, some (.iload_n 3, 1, .null), some (.bipush (-5), 2, .null), none, some (.if_icmp .eq 17, 3, .ref 55), none, none, some (.aload_n 0, 1, .null), some (.getfield 19, 3, .ref 581), none, none, some (.iload_n 3, 1, .null), some (.iaload, 1, .null), some (.bipush 8, 2, .null), none, some (.if_icmp .le 6, 3, .ref 55), none, none, some (.bipush (-2), 2, .null), none, some (.ireturn, 1, .null), some (.aload_n 0, 1, .null), some (.getfield 348, 3, .ref 594), none, none, some (.bipush 20, 2, .null), none, some (.if_icmp .ne 6, 3, .ref 67), none, none, some (.bipush (-4), 2, .null), none, some (.ireturn, 1, .null), some (.aload_n 0, 1, .null), some (.getfield 44, 3, .ref 591), none, none, some (.aload_n 0, 1, .null), some (.getfield 348, 3, .ref 594), none, none, some (.iload_n 1, 1, .null), some (.bastore, 1, .null), some (.aload_n 0, 1, .null), some (.getfield 47, 3, .ref 592), none, none, some (.aload_n 0, 1, .null), some (.getfield 348, 3, .ref 594), none, none, some (.iload_n 2, 1, .null), some (.iastore, 1, .null), some (.aload_n 0, 1, .null), some (.getfield 50, 3, .ref 593), none, none, some (.aload_n 0, 1, .null), some (.getfield 348, 3, .ref 594), none, none, some (.iload_n 3, 1, .null), some (.iastore, 1, .null), some (.aload_n 0, 1, .null), some (.dup, 1, .null), some (.getfield 348, 3, .ref 594), none, none, some (.iconst 1, 1, .null), some (.iadd, 1, .null), some (.putfield 348, 3, .ref 594), none, none, some (.aload_n 0, 1, .null), some (.getfield 348, 3, .ref 594), none, none, some (.iconst 1, 1, .null), some (.isub, 1, .null), some (.ireturn, 1, .null)]
/-- 164: StemRulesModel.isMember(I)Z -/
def ev_c164 : List (Option (Instr × Nat × Value)) := [some (.iload_n 1, 1, .null), some (.ifCond .lt 18, 3, .ref 19), none, none, some (.aload_n 0, 1, .null), some (.getfield 22, 3, .ref 583), none, none, some (.iload_n 1, 1, .null), some (.iaload, 1, .null), some (.iconst 4, 1, .null), some (.iand, 1, .null), some (.ifCond .eq 7, 3, .ref 19), none, none, some (.iconst 1, 1, .null), some (.goto 4, 3, .ref 20), none, none, some (.iconst 0, 1, .null), some (.ireturn, 1, .null)]
/-- 165: StemRulesModel.byAffix(II)I -/
def ev_c165 : List (Option (Instr × Nat × Value)) := [some (.aload_n 0, 1, .null), some (.getfield 19, 3, .ref 581), none, none, some (.aload_n 0, 1, .null), some (.getfield 47, 3, .ref 592), none, none, some (.iload_n 2, 1, .null), some (.iaload, 1, .null), some (.iaload, 1, .null), some (.istore_n 3, 1, .null), some (.bipush 24, 2, .null), none, some (.aload_n 0, 1, .null), some (.getfield 47, 3, .ref 592), none, none, some (.iload_n 2, 1, .null), some (.iaload, 1, .null), some (.imul, 1, .null), some (.istore 4, 2, .null), none, some (.aload_n 0, 1, .null), some (.getfield 19, 3, .ref 581), none, none, some (.iload_n 1, 1, .null), some (.iaload, 1, .null), some (.istore 5, 2, .null), none, some (.iload 5, 2, .null), none, some (.iload_n 3, 1, .null), some (.if_icmp .gt 5, 3, .ref 39), none, none, some (.iconst (-1), 1, .null), some (.ireturn, 1, .null), some (.aload_n 0, 1, .null), some (.getfield 44, 3, .ref 591), none, none, some (.iload_n 2, 1, .null), some (.baload, 1, .null), some (.ifCond .eq 10, 3, .ref 55), none, none, some (.iload 5, 2, .null), none, some (.iload_n 3, 1, .null), some (.isub, 1, .null), some (.goto 4, 3, .ref 56), none, none, some (.iconst 0, 1, .null), some (.istore 6, 2, .null), none, some (.iconst 0, 1, .null), some (.istore 7, 2, .null), none, some (.iload 7, 2, .null), none, some (.iload_n 3, 1, .null), some (.if_icmp .ge 39, 3, .ref 103), none, none, some (.aload_n 0, 1, .null), some (.getfield 16, 3, .ref 580), none, none, some (.bipush 24, 2, .null), none, some (.iload_n 1, 1, .null), some (.imul, 1, .null), some (.iload 6, 2, .null), none, some (.iadd, 1, .null), some (.iload 7, 2, .null), none, some (.iadd, 1, .null), some (.iaload, 1, .null), some (.aload_n 0, 1, .null), some (.getfield 16, 3, .ref 580), none, none, some (.iload 4, 2, .null), none, some (.iload 7, 2, .null), none, some (.iadd, 1, .null), some (.iaload, 1, .null), some (.if_icmp .eq 5, 3, .ref 97), none, none, some (.iconst (-1), 1, .null), some (.ireturn, 1, .null), some (.iinc 7 1, 3, .null), none, none, some (.goto (-39), 3, .ref 61), none, none, some (.aload_n 0, 1, .null), some (.iconst 0, 1, .null), some (.putfield 101, 3, .ref 597), none, none, some (.aload_n 0, 1, .null), some (.getfield 44, 3, .ref 591), none, none, some (.iload_n 2, 1, .null), some (.baload, 1, .null), some (.ifCond .eq 29, 3, .ref 143), none, none, some (.aload_n 0, 1, .null), some (.iload_n 1, 1, .null), some (.iconst 0, 1, .null), some (.iload 5, 2, .null), none, some (.iload_n 3, 1, .null), some (.isub, 1, .null), some (.invokevirtual 351, 3, .ref 166), none, none, some (.aload_n 0, 1, .null), some (.aload_n 0, 1, .null), some (.getfield 50, 3, .ref 593), none, none, some (.iload_n 2, 1, .null), some (.iaload, 1, .null), some (.iconst 0, 1, .null), some (.bipush 100, 2, .null), none, some (.invokevirtual 351, 3, .ref 166), none, none, some (.goto 24, 3, .ref 164), none, none, some (.aload_n 0, 1, .null), some (.aload_n 0, 1, .null), some (.getfield 50, 3, .ref 593), none, none, some (.iload_n 2, 1, .null), some (.iaload, 1, .null), some (.iconst 0, 1, .null), some (.bipush 100, 2, .null), none, some (.invokevirtual 351, 3, .ref 166), none, none, some (.aload_n 0, 1, .null), some (.iload_n 1, 1, .null), some (.iload_n 3, 1, .null), some (.iload 5, 2, .null), none, some (.invokevirtual 351, 3, .ref 166), none, none, some (.aload_n 0, 1, .null), some (.getfield 101, 3, .ref 597), none, none, some (.bipush 24, 2, .null), none, some (.if_icmp .le 7, 3, .ref 177), none, none, some (.iconst (-1), 1, .null), some (.goto 12, 3, .ref 186), none, none, some (.aload_n 0, 1, .null), some (.iconst 0, 1, .null), some (.aload_n 0, 1, .null), some (.getfield 101, 3, .ref 597), none, none, some (.invokevirtual 104, 3, .ref 128), none, none, some (.istore 7, 2, .null), none, some (.aload_n 0, 1, .null), some (.iload 7, 2, .null), none, some (.invokevirtual 355, 3, .ref 164), none, none, some (.ifCond .eq 8, 3, .ref 202), none, none, some (.iload 7, 2, .null), none, some (.goto 4, 3, .ref 203), none, none, some (.iconst (-1), 1, .null), some (.ireturn, 1, .null)]
/-- 166: StemRulesModel.add(III)V -/
def ev_c166 : List (Option (Instr × Nat × Value)) := [some (.iload_n 2, 1, .null), some (.istore 4, 2, .null), none, some (.iload_n 1, 1, .null), some (.bipush (-5), 2, .null), none, some (.if_icmp .eq 57, 3, .ref 63), none, none, some (.iload 4, 2, .null), none, some (.iload_n 3, 1, .null), some (.if_icmp .ge 51, 3, .ref 63), none, none, some (.iload 4, 2, .null), none, some (.aload_n 0, 1, .null), some (.getfield 19, 3, .ref 581), none, none, some (.iload_n 1, 1, .null), some (.iaload, 1, .null), some (.if_icmp .ge 40, 3, .ref 63), none, none, some (.aload_n 0, 1, .null), some (.getfield 57, 3, .ref 596), none, none, some (.aload_n 0, 1, .null), some (.getfield 101, 3, .ref 597), none, none, some (.aload_n 0, 1, .null), some (.getfield 16, 3, .ref 580), none, none, some (.bipush 24, 2, .null), none, some (.iload_n 1, 1, .null), some (.imul, 1, .null), some (.iload 4, 2, .null), none, some (.iadd, 1, .null), some (.iaload, 1, .null), some (.iastore, 1, .null), some (.aload_n 0, 1, .null), some (.dup, 1, .null), some (.getfield 101, 3, .ref 597), none, none, some (.iconst 1, 1, .null), some (.iadd, 1, .null), some (.putfield 101, 3, .ref 597), none, none, some (.iinc 4 1, 3, .null), none, none, some (.goto (-57), 3, .ref 3), none, none, some (.return_, 1, .null)]
/-- 167: StemRulesModel.base(II)I -/
def ev_c167 : List (Option (Instr × Nat × Value)) := [some (.aload_n 0, 1, .null), some (.iload_n 1, 1, .null), some (.invokevirtual 112, 3, .ref 121), none, none, some (.ifCond .eq 5, 3, .ref 10), none, none, some (.iconst (-1), 1, .null), some (.ireturn, 1, .null), some (.iconst 0, 1, .null), some (.istore_n 3, 1, .null), some (.aload_n 0, 1, .null), some (.iload_n 1, 1, .null), some (.invokevirtual 355, 3, .ref 164), none, none, some (.ifCond .eq 13, 3, .ref 30), none, none, some (.aload_n 0, 1, .null), some (.getfield 60, 3, .ref 598), none, none, some (.iload_n 3, 1, .null), some (.iload_n 1, 1, .null), some (.iastore, 1, .null), some (.iinc 3 1, 3, .null), none, none, some (.iconst 0, 1, .null), some (.istore 4, 2, .null), none, some (.iload 4, 2, .null), none, some (.aload_n 0, 1, .null), some (.getfield 348, 3, .ref 594), none, none, some (.if_icmp .ge 83, 3, .ref 122), none, none, some (.aload_n 0, 1, .null), some (.iload_n 1, 1, .null), some (.iload 4, 2, .null), none, some (.invokevirtual 358, 3, .ref 165), none, none, some (.istore 5, 2, .null), none, some (.iload 5, 2, .null), none, some (.ifCond .lt 7, 3, .ref 60), none, none, some (.iconst 1, 1, .null), some (.goto 4, 3, .ref 61), none, none, some (.iconst 0, 1, .null), some (.istore 6, 2, .null), none, some (.iconst 0, 1, .null), some (.istore 7, 2, .null), none, some (.iload 7, 2, .null), none, some (.iload_n 3, 1, .null), some (.if_icmp .ge 31, 3, .ref 100), none, none, some (.iload 6, 2, .null), none, some (.aload_n 0, 1, .null), some (.getfield 60, 3, .ref 598), none, none, some (.iload 7, 2, .null), none, some (.iaload, 1, .null), some (.iload 5, 2, .null), none, some (.if_icmp .eq 7, 3, .ref 90), none, none, some (.iconst 1, 1, .null), some (.goto 4, 3, .ref 91), none, none, some (.iconst 0, 1, .null), some (.iand, 1, .null), some (.istore 6, 2, .null), none, some (.iinc 7 1, 3, .null), none, none, some (.goto (-31), 3, .ref 66), none, none, some (.iload 6, 2, .null), none, some (.ifCond .eq 14, 3, .ref 116), none, none, some (.aload_n 0, 1, .null), some (.getfield 60, 3, .ref 598), none, none, some (.iload_n 3, 1, .null), some (.iload 5, 2, .null), none, some (.iastore, 1, .null), some (.iinc 3 1, 3, .null), none, none, some (.iinc 4 1, 3, .null), none, none, some (.goto (-86), 3, .ref 33), none, none, some (.iload_n 2, 1, .null), some (.iconst 0, 1, .null), some (.iload_n 3, 1, .null), some (.iconst 1, 1, .null), some (.isub, 1, .null), some (.invokestatic 87, 3, .ref 120), none, none, some (.ifCond .eq 8, 3, .ref 138), none, none, some (.bipush (-5), 2, .null), none, some (.goto 9, 3, .ref 144), none, none, some (.aload_n 0, 1, .null), some (.getfield 60, 3, .ref 598), none, none, some (.iload_n 2, 1, .null), some (.iaload, 1, .null), some (.ireturn, 1, .null)]
/-- 168: StemRulesModel.least(I)I -/
def ev_c168 : List (Option (Instr × Nat × Value)) := [some (.iload_n 1, 1, .null), some (.iconst 2, 1, .null), some (.bipush 12, 2, .null), none, some (.invokestatic 87, 3, .ref 120), none, none, some (.ifCond .eq 6, 3, .ref 13), none, none, some (.bipush (-2), 2, .null), none, some (.ireturn, 1, .null), some (.aload_n 0, 1, .null), some (.getfield 53, 3, .ref 595), none, none, some (.istore_n 2, 1, .null), some (.aload_n 0, 1, .null), some (.iload_n 1, 1, .null), some (.putfield 53, 3, .ref 595), none, none, some (.iload_n 2, 1, .null), some (.ireturn, 1, .null)]
/-- 169: StemRulesModel.part(II)I -/
def ev_c169 : List (Option (Instr × Nat × Value)) := [some (.aload_n 0, 1, .null), some (.iload_n 1, 1, .null), some (.invokevirtual 112, 3, .ref 121), none, none, some (.ifCond .eq 5, 3, .ref 10), none, none, some (.iconst (-1), 1, .null), some (.ireturn, 1, .null), some (.aload_n 0, 1, .null), some (.iload_n 1, 1, .null), some (.invokevirtual 116, 3, .ref 127), none, none, some (.aload_n 0, 1, .null), some (.getfield 63, 3, .ref 599), none, none, some (.aload_n 0, 1, .null), some (.getfield 101, 3, .ref 597), none, none, some (.iconst 0, 1, .null), some (.iastore, 1, .null), some (.aload_n 0, 1, .null), some (.getfield 101, 3, .ref 597), none, none, some (.iconst 1, 1, .null), some (.isub, 1, .null), some (.istore_n 3, 1, .null), some (.iload_n 3, 1, .null), some (.ifCond .lt 154, 3, .ref 187), none, none, some (.aload_n 0, 1, .null), some (.getfield 63, 3, .ref 599), none, none, some (.iload_n 3, 1, .null), some (.bipush 100, 2, .null), none, some (.iastore, 1, .null), some (.aload_n 0, 1, .null), some (.getfield 53, 3, .ref 595), none, none, some (.istore 4, 2, .null), none, some (.iload_n 3, 1, .null), some (.iload 4, 2, .null), none, some (.iadd, 1, .null), some (.aload_n 0, 1, .null), some (.getfield 101, 3, .ref 597), none, none, some (.if_icmp .gt 123, 3, .ref 181), none, none, some (.iload_n 3, 1, .null), some (.ifCond .ne 16, 3, .ref 78), none, none, some (.iload 4, 2, .null), none, some (.aload_n 0, 1, .null), some (.getfield 101, 3, .ref 597), none, none, some (.if_icmp .ne 7, 3, .ref 78), none, none, some (.iconst 1, 1, .null), some (.goto 4, 3, .ref 79), none, none, some (.iconst 0, 1, .null), some (.istore 5, 2, .null), none, some (.iload 5, 2, .null), none, some (.ifCond .ne 17, 3, .ref 100), none, none, some (.aload_n 0, 1, .null), some (.getfield 63, 3, .ref 599), none, none, some (.iload_n 3, 1, .null), some (.iload 4, 2, .null), none, some (.iadd, 1, .null), some (.iaload, 1, .null), some (.bipush 100, 2, .null), none, some (.if_icmp .lt 7, 3, .ref 104), none, none, some (.iconst (-1), 1, .null), some (.goto 10, 3, .ref 111), none, none, some (.aload_n 0, 1, .null), some (.iload_n 3, 1, .null), some (.iload 4, 2, .null), none, some (.invokevirtual 104, 3, .ref 128), none, none, some (.istore 6, 2, .null), none, some (.aload_n 0, 1, .null), some (.iload 6, 2, .null), none, some (.invokevirtual 355, 3, .ref 164), none, none, some (.ifCond .eq 56, 3, .ref 175), none, none, some (.aload_n 0, 1, .null), some (.getfield 63, 3, .ref 599), none, none, some (.iload_n 3, 1, .null), some (.iload 4, 2, .null), none, some (.iadd, 1, .null), some (.iaload, 1, .null), some (.iconst 1, 1, .null), some (.iadd, 1, .null), some (.aload_n 0, 1, .null), some (.getfield 63, 3, .ref 599), none, none, some (.iload_n 3, 1, .null), some (.iaload, 1, .null), some (.if_icmp .gt 36, 3, .ref 175), none, none, some (.aload_n 0, 1, .null), some (.getfield 63, 3, .ref 599), none, none, some (.iload_n 3, 1, .null), some (.aload_n 0, 1, .null), some (.getfield 63, 3, .ref 599), none, none, some (.iload_n 3, 1, .null), some (.iload 4, 2, .null), none, some (.iadd, 1, .null), some (.iaload, 1, .null), some (.iconst 1, 1, .null), some (.iadd, 1, .null), some (.iastore, 1, .null), some (.aload_n 0, 1, .null), some (.getfield 66, 3, .ref 600), none, none, some (.iload_n 3, 1, .null), some (.iload 4, 2, .null), none, some (.iastore, 1, .null), some (.aload_n 0, 1, .null), some (.getfield 69, 3, .ref 601), none, none, some (.iload_n 3, 1, .null), some (.iload 6, 2, .null), none, some (.iastore, 1, .null), some (.iinc 4 1, 3, .null), none, none, some (.goto (-128), 3, .ref 50), none, none, some (.iinc 3 (-1), 3, .null), none, none, some (.goto (-152), 3, .ref 32), none, none, some (.aload_n 0, 1, .null), some (.getfield 63, 3, .ref 599), none, none, some (.iconst 0, 1, .null), some (.iaload, 1, .null), some (.bipush 100, 2, .null), none, some (.if_icmp .lt 7, 3, .ref 202), none, none, some (.iconst 0, 1, .null), some (.goto 9, 3, .ref 208), none, none, some (.aload_n 0, 1, .null), some (.getfield 63, 3, .ref 599), none, none, some (.iconst 0, 1, .null), some (.iaload, 1, .null), some (.istore_n 3, 1, .null), some (.iload_n 2, 1, .null), some (.iconst (-1), 1, .null), some (.if_icmp .ne 5, 3, .ref 216), none, none, some (.iload_n 3, 1, .null), some (.ireturn, 1, .null), some (.iload_n 2, 1, .null), some (.iconst 0, 1, .null), some (.iload_n 3, 1, .null), some (.iconst 1, 1, .null), some (.isub, 1, .null), some (.invokestatic 87, 3, .ref 120), none, none, some (.ifCond .eq 6, 3, .ref 230), none, none, some (.bipush (-5), 2, .null), none, some (.ireturn, 1, .null), some (.iconst 0, 1, .null), some (.istore 4, 2, .null), none, some (.iconst 0, 1, .null), some (.istore 5, 2, .null), none, some (.iload 5, 2, .null), none, some (.iload_n 2, 1, .null), some (.if_icmp .ge 21, 3, .ref 260), none, none, some (.iload 4, 2, .null), none, some (.aload_n 0, 1, .null), some (.getfield 66, 3, .ref 600), none, none, some (.iload 4, 2, .null), none, some (.iaload, 1, .null), some (.iadd, 1, .null), some (.istore 4, 2, .null), none, some (.iinc 5 1, 3, .null), none, none, some (.goto (-21), 3, .ref 236), none, none, some (.aload_n 0, 1, .null), some (.getfield 69, 3, .ref 601), none, none, some (.iload 4, 2, .null), none, some (.iaload, 1, .null), some (.ireturn, 1, .null)]
/-- 170: StemRulesModel.figure(I)I -/
def ev_c170 : List (Option (Instr × Nat × Value)) := [some (.iload_n 0, 1, .null), some (.tableswitch 133 98 122 #[115, 118, 121, 133, 115, 118, 133, 133, 118, 118, 124, 127, 127, 133, 115, 118, 130, 118, 121, 133, 115, 133, 118, 133, 118], 115, .null), none, none, none, none, none, none, none, none, none, none, none, none, none, none, none, none, none, none, none, none, none, none, none, none, none, none, none, none, none, none, none, none, none, none, none, none, none, none, none, none, none, none, none, none, none, none, none, none, none, none, none, none, none, none, none, none, none, none, none, none, none, none, none, none, none, none, none, none, none, none, none, none, none, none, none, none, none, none, none, none, none, none, none, none, none, none, none, none, none, none, none, none, none, none, none, none, none, none, none, none, none, none, none, none, none, none, none, none, none, none, none, none, none, none, some (.bipush 49, 2, .null), none, some (.ireturn, 1, .null), some (.bipush 50, 2, .null), none, some (.ireturn, 1, .null), some (.bipush 51, 2, .null), none, some (.ireturn, 1, .null), some (.bipush 52, 2, .null), none, some (.ireturn, 1, .null), some (.bipush 53, 2, .null), none, some (.ireturn, 1, .null), some (.bipush 54, 2, .null), none, some (.ireturn, 1, .null), some (.iconst 0, 1, .null), some (.ireturn, 1, .null)]
/-- 171: StemRulesModel.keyByFigures()I -/
def ev_c171 : List (Option (Instr × Nat × Value)) := [some (.aload_n 0, 1, .null), some (.getfield 13, 3, .ref 578), none, none, some (.iconst 0, 1, .null), some (.aload_n 0, 1, .null), some (.getfield 57, 3, .ref 596), none, none, some (.iconst 0, 1, .null), some (.iaload, 1, .null), some (.iastore, 1, .null), some (.aload_n 0, 1, .null), some (.iconst 1, 1, .null), some (.putfield 98, 3, .ref 579), none, none, some (.iconst 1, 1, .null), some (.istore_n 1, 1, .null), some (.iload_n 1, 1, .null), some (.aload_n 0, 1, .null), some (.getfield 101, 3, .ref 597), none, none, some (.if_icmp .ge 100, 3, .ref 124), none, none, some (.aload_n 0, 1, .null), some (.getfield 98, 3, .ref 579), none, none, some (.iconst 4, 1, .null), some (.if_icmp .ge 92, 3, .ref 124), none, none, some (.iload_n 1, 1, .null), some (.iconst 1, 1, .null), some (.isub, 1, .null), some (.istore_n 2, 1, .null), some (.iload_n 2, 1, .null), some (.ifCond .le 31, 3, .ref 71), none, none, some (.aload_n 0, 1, .null), some (.getfield 57, 3, .ref 596), none, none, some (.iload_n 2, 1, .null), some (.iaload, 1, .null), some (.bipush 104, 2, .null), none, some (.if_icmp .eq 14, 3, .ref 65), none, none, some (.aload_n 0, 1, .null), some (.getfield 57, 3, .ref 596), none, none, some (.iload_n 2, 1, .null), some (.iaload, 1, .null), some (.bipush 119, 2, .null), none, some (.if_icmp .ne 9, 3, .ref 71), none, none, some (.iinc 2 (-1), 3, .null), none, none, some (.goto (-29), 3, .ref 39), none, none, some (.aload_n 0, 1, .null), some (.getfield 57, 3, .ref 596), none, none, some (.iload_n 1, 1, .null), some (.iaload, 1, .null), some (.invokestatic 361, 3, .ref 170), none, none, some (.istore_n 3, 1, .null), some (.iload_n 3, 1, .null), some (.ifCond .eq 36, 3, .ref 118), none, none, some (.iload_n 3, 1, .null), some (.aload_n 0, 1, .null), some (.getfield 57, 3, .ref 596), none, none, some (.iload_n 2, 1, .null), some (.iaload, 1, .null), some (.invokestatic 361, 3, .ref 170), none, none, some (.if_icmp .eq 23, 3, .ref 118), none, none, some (.aload_n 0, 1, .null), some (.getfield 13, 3, .ref 578), none, none, some (.aload_n 0, 1, .null), some (.getfield 98, 3, .ref 579), none, none, some (.iload_n 3, 1, .null), some (.iastore, 1, .null), some (.aload_n 0, 1, .null), some (.dup, 1, .null), some (.getfield 98, 3, .ref 579), none, none, some (.iconst 1, 1, .null), some (.iadd, 1, .null), some (.putfield 98, 3, .ref 579), none, none, some (.iinc 1 1, 3, .null), none, none, some (.goto (-102), 3, .ref 19), none, none, some (.aload_n 0, 1, .null), some (.getfield 98, 3, .ref 579), none, none, some (.iconst 4, 1, .null), some (.if_icmp .ge 27, 3, .ref 156), none, none, some (.aload_n 0, 1, .null), some (.getfield 13, 3, .ref 578), none, none, some (.aload_n 0, 1, .null), some (.getfield 98, 3, .ref 579), none, none, some (.bipush 48, 2, .null), none, some (.iastore, 1, .null), some (.aload_n 0, 1, .null), some (.dup, 1, .null), some (.getfield 98, 3, .ref 579), none, none, some (.iconst 1, 1, .null), some (.iadd, 1, .null), some (.putfield 98, 3, .ref 579), none, none, some (.goto (-29), 3, .ref 124), none, none, some (.aload_n 0, 1, .null), some (.getfield 98, 3, .ref 579), none, none, some (.ireturn, 1, .null)]
/-- 172: StemRulesModel.stands(IJ)Z -/
def ev_c172 : List (Option (Instr × Nat × Value)) := [some (.lload_n 2, 1, .null), some (.invokestatic 130, 3, .ref 136), none, none, some (.istore 4, 2, .null), none, some (.iload_n 1, 1, .null), some (.iload 4, 2, .null), none, some (.iadd, 1, .null), some (.aload_n 0, 1, .null), some (.getfield 101, 3, .ref 597), none, none, some (.if_icmp .gt 7, 3, .ref 21), none, none, some (.iconst 1, 1, .null), some (.goto 4, 3, .ref 22), none, none, some (.iconst 0, 1, .null), some (.istore 5, 2, .null), none, some (.iconst 0, 1, .null), some (.istore 6, 2, .null), none, some (.iload 5, 2, .null), none, some (.ifCond .eq 41, 3, .ref 70), none, none, some (.iload 6, 2, .null), none, some (.iload 4, 2, .null), none, some (.if_icmp .ge 34, 3, .ref 70), none, none, some (.aload_n 0, 1, .null), some (.getfield 57, 3, .ref 596), none, none, some (.iload_n 1, 1, .null), some (.iload 6, 2, .null), none, some (.iadd, 1, .null), some (.iaload, 1, .null), some (.lload_n 2, 1, .null), some (.iload 6, 2, .null), none, some (.invokestatic 138, 3, .ref 137), none, none, some (.if_icmp .ne 7, 3, .ref 61), none, none, some (.iconst 1, 1, .null), some (.goto 4, 3, .ref 62), none, none, some (.iconst 0, 1, .null), some (.istore 5, 2, .null), none, some (.iinc 6 1, 3, .null), none, none, some (.goto (-40), 3, .ref 27), none, none, some (.iload 5, 2, .null), none, some (.ireturn, 1, .null)]
/-- 173: StemRulesModel.becomes(IJJ)Z -/
def ev_c173 : List (Option (Instr × Nat × Value)) := [some (.aload_n 0, 1, .null), some (.iload_n 1, 1, .null), some (.lload_n 2, 1, .null), some (.invokevirtual 134, 3, .ref 172), none, none, some (.istore 6, 2, .null), none, some (.lload 4, 2, .null), none, some (.invokestatic 130, 3, .ref 136), none, none, some (.istore 7, 2, .null), none, some (.iconst 0, 1, .null), some (.istore 8, 2, .null), none, some (.iload 6, 2, .null), none, some (.ifCond .eq 32, 3, .ref 52), none, none, some (.iload 8, 2, .null), none, some (.iload 7, 2, .null), none, some (.if_icmp .ge 25, 3, .ref 52), none, none, some (.aload_n 0, 1, .null), some (.getfield 57, 3, .ref 596), none, none, some (.iload_n 1, 1, .null), some (.iload 8, 2, .null), none, some (.iadd, 1, .null), some (.lload 4, 2, .null), none, some (.iload 8, 2, .null), none, some (.invokestatic 138, 3, .ref 137), none, none, some (.iastore, 1, .null), some (.iinc 8 1, 3, .null), none, none, some (.goto (-31), 3, .ref 18), none, none, some (.iload 6, 2, .null), none, some (.ireturn, 1, .null)]
/-- 174: StemRulesModel.keyBySounds()I -/
def ev_c174 : List (Option (Instr × Nat × Value)) := [some (.aload_n 0, 1, .null), some (.iconst 0, 1, .null), some (.ldc2_w 364, 3, .long 3117), none, none, some (.ldc2_w 366, 3, .long 3181), none, none, some (.invokevirtual 368, 3, .ref 173), none, none, some (.ifCond .ne 73, 3, .ref 84), none, none, some (.aload_n 0, 1, .null), some (.iconst 0, 1, .null), some (.ldc2_w 372, 3, .long 459), none, none, some (.ldc2_w 374, 3, .long 462), none, none, some (.invokevirtual 368, 3, .ref 173), none, none, some (.ifCond .ne 59, 3, .ref 84), none, none, some (.aload_n 0, 1, .null), some (.iconst 0, 1, .null), some (.ldc2_w 376, 3, .long 11), none, none, some (.ldc2_w 378, 3, .long 3), none, none, some (.invokevirtual 368, 3, .ref 173), none, none, some (.ifCond .ne 45, 3, .ref 84), none, none, some (.aload_n 0, 1, .null), some (.iconst 0, 1, .null), some (.ldc2_w 380, 3, .long 272), none, none, some (.ldc2_w 382, 3, .long 198), none, none, some (.invokevirtual 368, 3, .ref 173), none, none, some (.ifCond .ne 31, 3, .ref 84), none, none, some (.aload_n 0, 1, .null), some (.iconst 0, 1, .null), some (.ldc2_w 384, 3, .long 208), none, none, some (.ldc2_w 382, 3, .long 198), none, none, some (.invokevirtual 368, 3, .ref 173), none, none, some (.ifCond .ne 17, 3, .ref 84), none, none, some (.aload_n 0, 1, .null), some (.iconst 0, 1, .null), some (.ldc2_w 386, 3, .long 8307), none, none, some (.ldc2_w 388, 3, .long 20083), none, none, some (.invokevirtual 368, 3, .ref 173), none, none, some (.ifCond .eq 7, 3, .ref 88), none, none, some (.iconst 1, 1, .null), some (.goto 4, 3, .ref 89), none, none, some (.iconst 0, 1, .null), some (.istore_n 1, 1, .null), some (.aload_n 0, 1, .null), some (.getfield 101, 3, .ref 597), none, none, some (.iconst 2, 1, .null), some (.if_icmp .le 92, 3, .ref 187), none, none, some (.aload_n 0, 1, .null), some (.ldc2_w 390, 3, .long 165), none, none, some (.invokevirtual 144, 3, .ref 138), none, none, some (.ifCond .ne 13, 3, .ref 118), none, none, some (.aload_n 0, 1, .null), some (.ldc2_w 392, 3, .long 169), none, none, some (.invokevirtual 144, 3, .ref 138), none, none, some (.ifCond .eq 14, 3, .ref 129), none, none, some (.aload_n 0, 1, .null), some (.iconst 2, 1, .null), some (.ldc2_w 152, 3, .long 25), none, none, some (.invokevirtual 154, 3, .ref 139), none, none, some (.goto 61, 3, .ref 187), none, none, some (.aload_n 0, 1, .null), some (.ldc2_w 394, 3, .long 644), none, none, some (.invokevirtual 144, 3, .ref 138), none, none, some (.ifCond .ne 43, 3, .ref 179), none, none, some (.aload_n 0, 1, .null), some (.ldc2_w 396, 3, .long 658), none, none, some (.invokevirtual 144, 3, .ref 138), none, none, some (.ifCond .ne 33, 3, .ref 179), none, none, some (.aload_n 0, 1, .null), some (.ldc2_w 398, 3, .long 146), none, none, some (.invokevirtual 144, 3, .ref 138), none, none, some (.ifCond .ne 23, 3, .ref 179), none, none, some (.aload_n 0, 1, .null), some (.ldc2_w 400, 3, .long 654), none, none, some (.invokevirtual 144, 3, .ref 138), none, none, some (.ifCond .ne 13, 3, .ref 179), none, none, some (.aload_n 0, 1, .null), some (.ldc2_w 402, 3, .long 142), none, none, some (.invokevirtual 144, 3, .ref 138), none, none, some (.ifCond .eq 11, 3, .ref 187), none, none, some (.aload_n 0, 1, .null), some (.iconst 2, 1, .null), some (.ldc2_w 404, 3, .long 4), none, none, some (.invokevirtual 154, 3, .ref 139), none, none, some (.aload_n 0, 1, .null), some (.getfield 13, 3, .ref 578), none, none, some (.iconst 0, 1, .null), some (.aload_n 0, 1, .null), some (.getfield 57, 3, .ref 596), none, none, some (.iconst 0, 1, .null), some (.iaload, 1, .null), some (.iastore, 1, .null), some (.aload_n 0, 1, .null), some (.iconst 1, 1, .null), some (.putfield 98, 3, .ref 579), none, none, some (.iconst 1, 1, .null), some (.istore_n 2, 1, .null), some (.iload_n 2, 1, .null), some (.aload_n 0, 1, .null), some (.getfield 101, 3, .ref 597), none, none, some (.if_icmp .ge 59, 3, .ref 270), none, none, some (.aload_n 0, 1, .null), some (.iload_n 2, 1, .null), some (.invokevirtual 406, 3, .ref 175), none, none, some (.aload_n 0, 1, .null), some (.getfield 57, 3, .ref 596), none, none, some (.iload_n 2, 1, .null), some (.iaload, 1, .null), some (.aload_n 0, 1, .null), some (.getfield 13, 3, .ref 578), none, none, some (.aload_n 0, 1, .null), some (.getfield 98, 3, .ref 579), none, none, some (.iconst 1, 1, .null), some (.isub, 1, .null), some (.iaload, 1, .null), some (.if_icmp .eq 28, 3, .ref 264), none, none, some (.aload_n 0, 1, .null), some (.getfield 13, 3, .ref 578), none, none, some (.aload_n 0, 1, .null), some (.getfield 98, 3, .ref 579), none, none, some (.aload_n 0, 1, .null), some (.getfield 57, 3, .ref 596), none, none, some (.iload_n 2, 1, .null), some (.iaload, 1, .null), some (.iastore, 1, .null), some (.aload_n 0, 1, .null), some (.dup, 1, .null), some (.getfield 98, 3, .ref 579), none, none, some (.iconst 1, 1, .null), some (.iadd, 1, .null), some (.putfield 98, 3, .ref 579), none, none, some (.iinc 2 1, 3, .null), none, none, some (.goto (-61), 3, .ref 206), none, none, some (.aload_n 0, 1, .null), some (.getfield 98, 3, .ref 579), none, none, some (.iconst 1, 1, .null), some (.if_icmp .le 29, 3, .ref 304), none, none, some (.aload_n 0, 1, .null), some (.getfield 13, 3, .ref 578), none, none, some (.aload_n 0, 1, .null), some (.getfield 98, 3, .ref 579), none, none, some (.iconst 1, 1, .null), some (.isub, 1, .null), some (.iaload, 1, .null), some (.bipush 115, 2, .null), none, some (.if_icmp .ne 13, 3, .ref 304), none, none, some (.aload_n 0, 1, .null), some (.dup, 1, .null), some (.getfield 98, 3, .ref 579), none, none, some (.iconst 1, 1, .null), some (.isub, 1, .null), some (.putfield 98, 3, .ref 579), none, none, some (.aload_n 0, 1, .null), some (.getfield 98, 3, .ref 579), none, none, some (.iconst 1, 1, .null), some (.if_icmp .le 58, 3, .ref 367), none, none, some (.aload_n 0, 1, .null), some (.getfield 13, 3, .ref 578), none, none, some (.aload_n 0, 1, .null), some (.getfield 98, 3, .ref 579), none, none, some (.iconst 1, 1, .null), some (.isub, 1, .null), some (.iaload, 1, .null), some (.bipush 121, 2, .null), none, some (.if_icmp .ne 42, 3, .ref 367), none, none, some (.aload_n 0, 1, .null), some (.getfield 13, 3, .ref 578), none, none, some (.aload_n 0, 1, .null), some (.getfield 98, 3, .ref 579), none, none, some (.iconst 2, 1, .null), some (.isub, 1, .null), some (.iaload, 1, .null), some (.bipush 97, 2, .null), none, some (.if_icmp .ne 26, 3, .ref 367), none, none, some (.aload_n 0, 1, .null), some (.dup, 1, .null), some (.getfield 98, 3, .ref 579), none, none, some (.iconst 1, 1, .null), some (.isub, 1, .null), some (.putfield 98, 3, .ref 579), none, none, some (.aload_n 0, 1, .null), some (.getfield 13, 3, .ref 578), none, none, some (.aload_n 0, 1, .null), some (.getfield 98, 3, .ref 579), none, none, some (.iconst 1, 1, .null), some (.isub, 1, .null), some (.bipush 121, 2, .null), none, some (.iastore, 1, .null), some (.aload_n 0, 1, .null), some (.getfield 98, 3, .ref 579), none, none, some (.iconst 1, 1, .null), some (.if_icmp .le 29, 3, .ref 401), none, none, some (.aload_n 0, 1, .null), some (.getfield 13, 3, .ref 578), none, none, some (.aload_n 0, 1, .null), some (.getfield 98, 3, .ref 579), none, none, some (.iconst 1, 1, .null), some (.isub, 1, .null), some (.iaload, 1, .null), some (.bipush 97, 2, .null), none, some (.if_icmp .ne 13, 3, .ref 401), none, none, some (.aload_n 0, 1, .null), some (.dup, 1, .null), some (.getfield 98, 3, .ref 579), none, none, some (.iconst 1, 1, .null), some (.isub, 1, .null), some (.putfield 98, 3, .ref 579), none, none, some (.aload_n 0, 1, .null), some (.aload_n 0, 1, .null), some (.getfield 98, 3, .ref 579), none, none, some (.bipush 6, 2, .null), none, some (.invokestatic 409, 3, .ref 119), none, none, some (.putfield 98, 3, .ref 579), none, none, some (.aload_n 0, 1, .null), some (.getfield 98, 3, .ref 579), none, none, some (.ireturn, 1, .null)]
/-- 175: StemRulesModel.sound(I)V -/
def ev_c175 : List (Option (Instr × Nat × Value)) := [some (.aload_n 0, 1, .null), some (.iload_n 1, 1, .null), some (.ldc2_w 412, 3, .long 709), none, none, some (.ldc2_w 414, 3, .long 193), none, none, some (.invokevirtual 368, 3, .ref 173), none, none, some (.ifCond .eq 4, 3, .ref 15), none, none, some (.return_, 1, .null), some (.aload_n 0, 1, .null), some (.getfield 57, 3, .ref 596), none, none, some (.iload_n 1, 1, .null), some (.iaload, 1, .null), some (.istore_n 2, 1, .null), some (.iload_n 2, 1, .null), some (.invokestatic 122, 3, .ref 132), none, none, some (.ifCond .eq 14, 3, .ref 40), none, none, some (.aload_n 0, 1, .null), some (.getfield 57, 3, .ref 596), none, none, some (.iload_n 1, 1, .null), some (.bipush 97, 2, .null), none, some (.iastore, 1, .null), some (.goto 203, 3, .ref 240), none, none, some (.iload_n 2, 1, .null), some (.bipush 113, 2, .null), none, some (.if_icmp .ne 14, 3, .ref 57), none, none, some (.aload_n 0, 1, .null), some (.getfield 57, 3, .ref 596), none, none, some (.iload_n 1, 1, .null), some (.bipush 103, 2, .null), none, some (.iastore, 1, .null), some (.goto 186, 3, .ref 240), none, none, some (.iload_n 2, 1, .null), some (.bipush 122, 2, .null), none, some (.if_icmp .ne 14, 3, .ref 74), none, none, some (.aload_n 0, 1, .null), some (.getfield 57, 3, .ref 596), none, none, some (.iload_n 1, 1, .null), some (.bipush 115, 2, .null), none, some (.iastore, 1, .null), some (.goto 169, 3, .ref 240), none, none, some (.iload_n 2, 1, .null), some (.bipush 109, 2, .null), none, some (.if_icmp .ne 14, 3, .ref 91), none, none, some (.aload_n 0, 1, .null), some (.getfield 57, 3, .ref 596), none, none, some (.iload_n 1, 1, .null), some (.bipush 110, 2, .null), none, some (.iastore, 1, .null), some (.goto 152, 3, .ref 240), none, none, some (.iload_n 2, 1, .null), some (.bipush 107, 2, .null), none, some (.if_icmp .ne 30, 3, .ref 124), none, none, some (.aload_n 0, 1, .null), some (.getfield 57, 3, .ref 596), none, none, some (.iload_n 1, 1, .null), some (.aload_n 0, 1, .null), some (.iload_n 1, 1, .null), some (.ldc2_w 372, 3, .long 459), none, none, some (.invokevirtual 134, 3, .ref 172), none, none, some (.ifCond .eq 8, 3, .ref 118), none, none, some (.bipush 110, 2, .null), none, some (.goto 5, 3, .ref 120), none, none, some (.bipush 99, 2, .null), none, some (.iastore, 1, .null), some (.goto 119, 3, .ref 240), none, none, some (.aload_n 0, 1, .null), some (.iload_n 1, 1, .null), some (.ldc2_w 386, 3, .long 8307), none, none, some (.ldc2_w 388, 3, .long 20083), none, none, some (.invokevirtual 368, 3, .ref 173), none, none, some (.ifCond .ne 105, 3, .ref 240), none, none, some (.aload_n 0, 1, .null), some (.iload_n 1, 1, .null), some (.ldc2_w 380, 3, .long 272), none, none, some (.ldc2_w 382, 3, .long 198), none, none, some (.invokevirtual 368, 3, .ref 173), none, none, some (.ifCond .ne 91, 3, .ref 240), none, none, some (.iload_n 2, 1, .null), some (.bipush 104, 2, .null), none, some (.if_icmp .ne 45, 3, .ref 200), none, none, some (.aload_n 0, 1, .null), some (.getfield 57, 3, .ref 596), none, none, some (.iload_n 1, 1, .null), some (.iconst 1, 1, .null), some (.isub, 1, .null), some (.iaload, 1, .null), some (.invokestatic 122, 3, .ref 132), none, none, some (.ifCond .eq 27, 3, .ref 196), none, none, some (.iload_n 1, 1, .null), some (.iconst 1, 1, .null), some (.iadd, 1, .null), some (.aload_n 0, 1, .null), some (.getfield 101, 3, .ref 597), none, none, some (.if_icmp .eq 17, 3, .ref 196), none, none, some (.aload_n 0, 1, .null), some (.getfield 57, 3, .ref 596), none, none, some (.iload_n 1, 1, .null), some (.iconst 1, 1, .null), some (.iadd, 1, .null), some (.iaload, 1, .null), some (.invokestatic 122, 3, .ref 132), none, none, some (.ifCond .ne 7, 3, .ref 200), none, none, some (.iconst 1, 1, .null), some (.goto 4, 3, .ref 201), none, none, some (.iconst 0, 1, .null), some (.istore_n 3, 1, .null), some (.iload_n 3, 1, .null), some (.ifCond .ne 23, 3, .ref 226), none, none, some (.iload_n 2, 1, .null), some (.bipush 119, 2, .null), none, some (.if_icmp .ne 31, 3, .ref 240), none, none, some (.aload_n 0, 1, .null), some (.getfield 57, 3, .ref 596), none, none, some (.iload_n 1, 1, .null), some (.iconst 1, 1, .null), some (.isub, 1, .null), some (.iaload, 1, .null), some (.invokestatic 122, 3, .ref 132), none, none, some (.ifCond .eq 17, 3, .ref 240), none, none, some (.aload_n 0, 1, .null), some (.getfield 57, 3, .ref 596), none, none, some (.iload_n 1, 1, .null), some (.aload_n 0, 1, .null), some (.getfield 57, 3, .ref 596), none, none, some (.iload_n 1, 1, .null), some (.iconst 1, 1, .null), some (.isub, 1, .null), some (.iaload, 1, .null), some (.iastore, 1, .null), some (.return_, 1, .null)]
/-- 176: StemRulesModel.key(II)I -/
def ev_c176 : List (Option (Instr × Nat × Value)) := [some (.aload_n 0, 1, .null), some (.iload_n 2, 1, .null), some (.invokevirtual 112, 3, .ref 121), none, none, some (.ifCond .eq 5, 3, .ref 10), none, none, some (.iconst (-1), 1, .null), some (.ireturn, 1, .null), some (.iload_n 1, 1, .null), some (.iconst 0, 1, .null), some (.iconst 1, 1, .null), some (.invokestatic 87, 3, .ref 120), none, none, some (.ifCond .eq 6, 3, .ref 22), none, none, some (.bipush (-2), 2, .null), none, some (.ireturn, 1, .null), some (.aload_n 0, 1, .null), some (.iload_n 2, 1, .null), some (.invokevirtual 116, 3, .ref 127), none, none, some (.iload_n 1, 1, .null), some (.ifCond .ne 10, 3, .ref 38), none, none, some (.aload_n 0, 1, .null), some (.invokevirtual 416, 3, .ref 171), none, none, some (.goto 7, 3, .ref 42), none, none, some (.aload_n 0, 1, .null), some (.invokevirtual 419, 3, .ref 174), none, none, some (.ireturn, 1, .null)]
/-- 177: StemRulesModel.letterAt(II)I -/
def ev_c177 : List (Option (Instr × Nat × Value)) := [some (.iload_n 1, 1, .null), some (.ifCond .lt 8, 3, .ref 9), none, none, some (.iload_n 1, 1, .null), some (.iload_n 2, 1, .null), some (.if_icmp .lt 5, 3, .ref 11), none, none, some (.iconst 0, 1, .null), some (.ireturn, 1, .null), some (.aload_n 0, 1, .null), some (.getfield 7, 3, .ref 576), none, none, some (.iload_n 1, 1, .null), some (.iaload, 1, .null), some (.bipush 65, 2, .null), none, some (.if_icmp .lt 26, 3, .ref 45), none, none, some (.aload_n 0, 1, .null), some (.getfield 7, 3, .ref 576), none, none, some (.iload_n 1, 1, .null), some (.iaload, 1, .null), some (.bipush 90, 2, .null), none, some (.if_icmp .gt 15, 3, .ref 45), none, none, some (.aload_n 0, 1, .null), some (.getfield 7, 3, .ref 576), none, none, some (.iload_n 1, 1, .null), some (.iaload, 1, .null), some (.bipush 32, 2, .null), none, some (.iadd, 1, .null), some (.goto 9, 3, .ref 51), none, none, some (.aload_n 0, 1, .null), some (.getfield 7, 3, .ref 576), none, none, some (.iload_n 1, 1, .null), some (.iaload, 1, .null), some (.istore_n 3, 1, .null), some (.iload_n 3, 1, .null), some (.bipush 97, 2, .null), none, some (.bipush 122, 2, .null), none, some (.invokestatic 87, 3, .ref 120), none, none, some (.ifCond .eq 7, 3, .ref 67), none, none, some (.iconst 0, 1, .null), some (.goto 4, 3, .ref 68), none, none, some (.iload_n 3, 1, .null), some (.ireturn, 1, .null)]
/-- 178: StemRulesModel.text(I)I -/
def ev_c178 : List (Option (Instr × Nat × Value)) := [some (.aload_n 0, 1, .null), some (.getfield 91, 3, .ref 577), none, none, some (.istore_n 2, 1, .null), some (.aload_n 0, 1, .null), some (.iconst 0, 1, .null), some (.putfield 91, 3, .ref 577), none, none, some (.iload_n 1, 1, .null), some (.iconst 0, 1, .null), some (.iconst 3, 1, .null), some (.invokestatic 87, 3, .ref 120), none, none, some (.ifCond .eq 6, 3, .ref 22), none, none, some (.bipush (-2), 2, .null), none, some (.ireturn, 1, .null), some (.aload_n 0, 1, .null), some (.getfield 84, 3, .ref 582), none, none, some (.istore_n 3, 1, .null), some (.aload_n 0, 1, .null), some (.iconst 0, 1, .null), some (.putfield 422, 3, .ref 605), none, none, some (.iconst 0, 1, .null), some (.istore 4, 2, .null), none, some (.iconst 0, 1, .null), some (.istore 5, 2, .null), none, some (.iload 5, 2, .null), none, some (.iload_n 2, 1, .null), some (.if_icmp .ge 384, 3, .ref 425), none, none, some (.aload_n 0, 1, .null), some (.getfield 422, 3, .ref 605), none, none, some (.bipush 60, 2, .null), none, some (.if_icmp .ge 375, 3, .ref 425), none, none, some (.aload_n 0, 1, .null), some (.iload 5, 2, .null), none, some (.iload_n 2, 1, .null), some (.invokevirtual 425, 3, .ref 177), none, none, some (.ifCond .ne 9, 3, .ref 69), none, none, some (.iinc 5 1, 3, .null), none, none, some (.goto (-28), 3, .ref 38), none, none, some (.iconst 0, 1, .null), some (.istore 6, 2, .null), none, some (.aload_n 0, 1, .null), some (.iload 5, 2, .null), none, some (.iload_n 2, 1, .null), some (.invokevirtual 425, 3, .ref 177), none, none, some (.ifCond .ne 45, 3, .ref 124), none, none, some (.iload 5, 2, .null), none, some (.iload_n 2, 1, .null), some (.if_icmp .ge 71, 3, .ref 156), none, none, some (.aload_n 0, 1, .null), some (.getfield 7, 3, .ref 576), none, none, some (.iload 5, 2, .null), none, some (.iaload, 1, .null), some (.bipush 39, 2, .null), none, some (.if_icmp .ne 59, 3, .ref 156), none, none, some (.aload_n 0, 1, .null), some (.iload 5, 2, .null), none, some (.iconst 1, 1, .null), some (.isub, 1, .null), some (.iload_n 2, 1, .null), some (.invokevirtual 425, 3, .ref 177), none, none, some (.ifCond .eq 47, 3, .ref 156), none, none, some (.aload_n 0, 1, .null), some (.iload 5, 2, .null), none, some (.iconst 1, 1, .null), some (.iadd, 1, .null), some (.iload_n 2, 1, .null), some (.invokevirtual 425, 3, .ref 177), none, none, some (.ifCond .eq 35, 3, .ref 156), none, none, some (.aload_n 0, 1, .null), some (.getfield 78, 3, .ref 607), none, none, some (.iload 6, 2, .null), none, some (.aload_n 0, 1, .null), some (.iload 5, 2, .null), none, some (.iload_n 2, 1, .null), some (.invokevirtual 425, 3, .ref 177), none, none, some (.iastore, 1, .null), some (.aload_n 0, 1, .null), some (.getfield 81, 3, .ref 608), none, none, some (.iload 6, 2, .null), none, some (.iload 5, 2, .null), none, some (.iastore, 1, .null), some (.iinc 6 1, 3, .null), none, none, some (.iinc 5 1, 3, .null), none, none, some (.goto (-81), 3, .ref 72), none, none, some (.iload 6, 2, .null), none, some (.iconst 2, 1, .null), some (.if_icmp .le 32, 3, .ref 191), none, none, some (.aload_n 0, 1, .null), some (.getfield 78, 3, .ref 607), none, none, some (.iload 6, 2, .null), none, some (.iconst 1, 1, .null), some (.isub, 1, .null), some (.iaload, 1, .null), some (.bipush 115, 2, .null), none, some (.if_icmp .ne 18, 3, .ref 191), none, none, some (.aload_n 0, 1, .null), some (.getfield 78, 3, .ref 607), none, none, some (.iload 6, 2, .null), none, some (.iconst 2, 1, .null), some (.isub, 1, .null), some (.iaload, 1, .null), some (.ifCond .ne 6, 3, .ref 191), none, none, some (.iinc 6 (-2), 3, .null), none, none, some (.iconst 0, 1, .null), some (.istore 7, 2, .null), none, some (.iconst 0, 1, .null), some (.istore 8, 2, .null), none, some (.iload 8, 2, .null), none, some (.iload 6, 2, .null), none, some (.if_icmp .ge 50, 3, .ref 251), none, none, some (.aload_n 0, 1, .null), some (.getfield 78, 3, .ref 607), none, none, some (.iload 8, 2, .null), none, some (.iaload, 1, .null), some (.ifCond .eq 34, 3, .ref 245), none, none, some (.aload_n 0, 1, .null), some (.getfield 78, 3, .ref 607), none, none, some (.iload 7, 2, .null), none, some (.aload_n 0, 1, .null), some (.getfield 78, 3, .ref 607), none, none, some (.iload 8, 2, .null), none, some (.iaload, 1, .null), some (.iastore, 1, .null), some (.aload_n 0, 1, .null), some (.getfield 81, 3, .ref 608), none, none, some (.iload 7, 2, .null), none, some (.aload_n 0, 1, .null), some (.getfield 81, 3, .ref 608), none, none, some (.iload 8, 2, .null), none, some (.iaload, 1, .null), some (.iastore, 1, .null), some (.iinc 7 1, 3, .null), none, none, some (.iinc 8 1, 3, .null), none, none, some (.goto (-51), 3, .ref 197), none, none, some (.iconst 0, 1, .null), some (.istore 8, 2, .null), none, some (.iload 8, 2, .null), none, some (.iload 7, 2, .null), none, some (.if_icmp .ge 164, 3, .ref 422), none, none, some (.aload_n 0, 1, .null), some (.getfield 422, 3, .ref 605), none, none, some (.bipush 60, 2, .null), none, some (.if_icmp .ge 155, 3, .ref 422), none, none, some (.aload_n 0, 1, .null), some (.bipush 24, 2, .null), none, some (.iload 7, 2, .null), none, some (.iload 8, 2, .null), none, some (.isub, 1, .null), some (.invokestatic 409, 3, .ref 119), none, none, some (.putfield 101, 3, .ref 597), none, none, some (.iconst 0, 1, .null), some (.istore 9, 2, .null), none, some (.iload 9, 2, .null), none, some (.aload_n 0, 1, .null), some (.getfield 101, 3, .ref 597), none, none, some (.if_icmp .ge 26, 3, .ref 319), none, none, some (.aload_n 0, 1, .null), some (.getfield 57, 3, .ref 596), none, none, some (.iload 9, 2, .null), none, some (.aload_n 0, 1, .null), some (.getfield 78, 3, .ref 607), none, none, some (.iload 8, 2, .null), none, some (.iload 9, 2, .null), none, some (.iadd, 1, .null), some (.iaload, 1, .null), some (.iastore, 1, .null), some (.iinc 9 1, 3, .null), none, none, some (.goto (-29), 3, .ref 287), none, none, some (.iload 8, 2, .null), none, some (.aload_n 0, 1, .null), some (.getfield 101, 3, .ref 597), none, none, some (.iadd, 1, .null), some (.iload 7, 2, .null), none, some (.if_icmp .ge 18, 3, .ref 346), none, none, some (.aload_n 0, 1, .null), some (.getfield 81, 3, .ref 608), none, none, some (.iload 8, 2, .null), none, some (.aload_n 0, 1, .null), some (.getfield 101, 3, .ref 597), none, none, some (.iadd, 1, .null), some (.iaload, 1, .null), some (.goto 5, 3, .ref 348), none, none, some (.iload 5, 2, .null), none, some (.istore 9, 2, .null), none, some (.aload_n 0, 1, .null), some (.iconst 0, 1, .null), some (.aload_n 0, 1, .null), some (.getfield 101, 3, .ref 597), none, none, some (.invokevirtual 104, 3, .ref 128), none, none, some (.istore 10, 2, .null), none, some (.iload 10, 2, .null), none, some (.ifCond .lt 15, 3, .ref 378), none, none, some (.aload_n 0, 1, .null), some (.getfield 22, 3, .ref 583), none, none, some (.iload 10, 2, .null), none, some (.iaload, 1, .null), some (.iconst 2, 1, .null), some (.iand, 1, .null), some (.ifCond .ne 38, 3, .ref 413), none, none, some (.aload_n 0, 1, .null), some (.iload_n 1, 1, .null), some (.iload 4, 2, .null), none, some (.aload_n 0, 1, .null), some (.getfield 81, 3, .ref 608), none, none, some (.iload 8, 2, .null), none, some (.iaload, 1, .null), some (.iload 9, 2, .null), none, some (.aload_n 0, 1, .null), some (.getfield 81, 3, .ref 608), none, none, some (.iload 8, 2, .null), none, some (.iaload, 1, .null), some (.isub, 1, .null), some (.invokevirtual 428, 3, .ref 179), none, none, some (.ifCond .ne 11, 3, .ref 413), none, none, some (.aload_n 0, 1, .null), some (.iload_n 3, 1, .null), some (.putfield 84, 3, .ref 582), none, none, some (.bipush (-4), 2, .null), none, some (.ireturn, 1, .null), some (.iinc 4 1, 3, .null), none, none, some (.iinc 8 24, 3, .null), none, none, some (.goto (-165), 3, .ref 254), none, none, some (.goto (-384), 3, .ref 38), none, none, some (.aload_n 0, 1, .null), some (.aload_n 0, 1, .null), some (.getfield 422, 3, .ref 605), none, none, some (.putfield 432, 3, .ref 603), none, none, some (.iconst 0, 1, .null), some (.istore 6, 2, .null), none, some (.iload 6, 2, .null), none, some (.iconst 5, 1, .null), some (.aload_n 0, 1, .null), some (.getfield 432, 3, .ref 603), none, none, some (.imul, 1, .null), some (.if_icmp .ge 23, 3, .ref 467), none, none, some (.aload_n 0, 1, .null), some (.getfield 72, 3, .ref 602), none, none, some (.iload 6, 2, .null), none, some (.aload_n 0, 1, .null), some (.getfield 75, 3, .ref 604), none, none, some (.iload 6, 2, .null), none, some (.iaload, 1, .null), some (.iastore, 1, .null), some (.iinc 6 1, 3, .null), none, none, some (.goto (-28), 3, .ref 436), none, none, some (.aload_n 0, 1, .null), some (.iload 4, 2, .null), none, some (.putfield 435, 3, .ref 606), none, none, some (.aload_n 0, 1, .null), some (.getfield 432, 3, .ref 603), none, none, some (.ireturn, 1, .null)]
/-- 179: StemRulesModel.lay(IIII)Z -/
def ev_c179 : List (Option (Instr × Nat × Value)) := [some (.aload_n 0, 1, .null), some (.invokevirtual 108, 3, .ref 129), none, none, some (.istore 5, 2, .null), none, some (.iload 5, 2, .null), none, some (.ifCond .ge 5, 3, .ref 13), none, none, some (.iconst 0, 1, .null), some (.ireturn, 1, .null), some (.aload_n 0, 1, .null), some (.iload_n 1, 1, .null), some (.iload 5, 2, .null), none, some (.invokevirtual 344, 3, .ref 155), none, none, some (.aload_n 0, 1, .null), some (.invokevirtual 108, 3, .ref 129), none, none, some (.istore 6, 2, .null), none, some (.iconst 5, 1, .null), some (.aload_n 0, 1, .null), some (.getfield 422, 3, .ref 605), none, none, some (.imul, 1, .null), some (.istore 7, 2, .null), none, some (.aload_n 0, 1, .null), some (.getfield 75, 3, .ref 604), none, none, some (.iload 7, 2, .null), none, some (.iload_n 2, 1, .null), some (.iastore, 1, .null), some (.aload_n 0, 1, .null), some (.getfield 75, 3, .ref 604), none, none, some (.iload 7, 2, .null), none, some (.iconst 1, 1, .null), some (.iadd, 1, .null), some (.iload_n 3, 1, .null), some (.iastore, 1, .null), some (.aload_n 0, 1, .null), some (.getfield 75, 3, .ref 604), none, none, some (.iload 7, 2, .null), none, some (.iconst 2, 1, .null), some (.iadd, 1, .null), some (.iload 4, 2, .null), none, some (.iastore, 1, .null), some (.aload_n 0, 1, .null), some (.getfield 75, 3, .ref 604), none, none, some (.iload 7, 2, .null), none, some (.iconst 3, 1, .null), some (.iadd, 1, .null), some (.iload 5, 2, .null), none, some (.iastore, 1, .null), some (.aload_n 0, 1, .null), some (.getfield 75, 3, .ref 604), none, none, some (.iload 7, 2, .null), none, some (.iconst 4, 1, .null), some (.iadd, 1, .null), some (.iload 6, 2, .null), none, some (.iastore, 1, .null), some (.aload_n 0, 1, .null), some (.dup, 1, .null), some (.getfield 422, 3, .ref 605), none, none, some (.iconst 1, 1, .null), some (.iadd, 1, .null), some (.putfield 422, 3, .ref 605), none, none, some (.iload 6, 2, .null), none, some (.ifCond .lt 7, 3, .ref 104), none, none, some (.iconst 1, 1, .null), some (.goto 4, 3, .ref 105), none, none, some (.iconst 0, 1, .null), some (.ireturn, 1, .null)]
/-- 180: StemRulesModel.token(II)I -/
def ev_c180 : List (Option (Instr × Nat × Value)) := [some (.iload_n 2, 1, .null), some (.iconst 0, 1, .null), some (.iconst 4, 1, .null), some (.invokestatic 87, 3, .ref 120), none, none, some (.ifCond .eq 6, 3, .ref 12), none, none, some (.bipush (-2), 2, .null), none, some (.ireturn, 1, .null), some (.iload_n 1, 1, .null), some (.iconst 0, 1, .null), some (.aload_n 0, 1, .null), some (.getfield 432, 3, .ref 603), none, none, some (.iconst 1, 1, .null), some (.isub, 1, .null), some (.invokestatic 87, 3, .ref 120), none, none, some (.ifCond .eq 8, 3, .ref 31), none, none, some (.bipush (-5), 2, .null), none, some (.goto 13, 3, .ref 41), none, none, some (.aload_n 0, 1, .null), some (.getfield 72, 3, .ref 602), none, none, some (.iconst 5, 1, .null), some (.iload_n 1, 1, .null), some (.imul, 1, .null), some (.iload_n 2, 1, .null), some (.iadd, 1, .null), some (.iaload, 1, .null), some (.ireturn, 1, .null)]
/-- 181: StemRulesModel.told(I)I -/
def ev_c181 : List (Option (Instr × Nat × Value)) := [some (.iload_n 1, 1, .null), some (.tableswitch 69 0 5 #[39, 44, 49, 54, 59, 64], 39, .null), none, none, none, none, none, none, none, none, none, none, none, none, none, none, none, none, none, none, none, none, none, none, none, none, none, none, none, none, none, none, none, none, none, none, none, none, none, none, some (.aload_n 0, 1, .null), some (.getfield 84, 3, .ref 582), none, none, some (.ireturn, 1, .null), some (.aload_n 0, 1, .null), some (.getfield 432, 3, .ref 603), none, none, some (.ireturn, 1, .null), some (.aload_n 0, 1, .null), some (.getfield 325, 3, .ref 590), none, none, some (.ireturn, 1, .null), some (.aload_n 0, 1, .null), some (.getfield 348, 3, .ref 594), none, none, some (.ireturn, 1, .null), some (.aload_n 0, 1, .null), some (.getfield 435, 3, .ref 606), none, none, some (.ireturn, 1, .null), some (.aload_n 0, 1, .null), some (.getfield 91, 3, .ref 577), none, none, some (.ireturn, 1, .null), some (.bipush (-2), 2, .null), none, some (.ireturn, 1, .null)]
/-- 182: java/lang/Integer.bitCount(I)I -/
def ev_c182 : List (Option (Instr × Nat × Value)) := [some (.iload_n 0, 1, .null), some (.iload_n 0, 1, .null), some (.iconst 1, 1, .null), some (.iushr, 1, .null), some (.ldc_w 265, 3, .int 1431655765), none, none, some (.iand, 1, .null), some (.isub, 1, .null), some (.istore_n 0, 1, .null), some (.iload_n 0, 1, .null), some (.ldc_w 266, 3, .int 858993459), none, none, some (.iand, 1, .null), some (.iload_n 0, 1, .null), some (.iconst 2, 1, .null), some (.iushr, 1, .null), some (.ldc_w 266, 3, .int 858993459), none, none, some (.iand, 1, .null), some (.iadd, 1, .null), some (.istore_n 0, 1, .null), some (.iload_n 0, 1, .null), some (.iload_n 0, 1, .null), some (.iconst 4, 1, .null), some (.iushr, 1, .null), some (.iadd, 1, .null), some (.ldc_w 267, 3, .int 252645135), none, none, some (.iand, 1, .null), some (.istore_n 0, 1, .null), some (.iload_n 0, 1, .null), some (.iload_n 0, 1, .null), some (.bipush 8, 2, .null), none, some (.iushr, 1, .null), some (.iadd, 1, .null), some (.istore_n 0, 1, .null), some (.iload_n 0, 1, .null), some (.iload_n 0, 1, .null), some (.bipush 16, 2, .null), none, some (.iushr, 1, .null), some (.iadd, 1, .null), some (.istore_n 0, 1, .null), some (.iload_n 0, 1, .null), some (.bipush 63, 2, .null), none, some (.iand, 1, .null), some (.ireturn, 1, .null)]
/-- 183: java/lang/String.length()I -/
def ev_c183 : List (Option (Instr × Nat × Value)) := [some (.aload_n 0, 1, .null), some (.getfield 9, 3, .ref 1280), none, none, some (.arraylength, 1, .null), some (.aload_n 0, 1, .null), some (.invokevirtual 335, 3, .ref 185), none, none, some (.ishr, 1, .null), some (.ireturn, 1, .null)]
/-- 184: java/lang/String.charAt(I)C -/
def ev_c184 : List (Option (Instr × Nat × Value)) := [some (.aload_n 0, 1, .null), some (.invokevirtual 492, 3, .ref 186), none, none, some (.ifCond .eq 12, 3, .ref 16), none, none, some (.aload_n 0, 1, .null), some (.getfield 9, 3, .ref 1280), none, none, some (.iload_n 1, 1, .null), some (.invokestatic 495, 3, .ref 188), none, none, some (.ireturn, 1, .null), some (.aload_n 0, 1, .null), some (.getfield 9, 3, .ref 1280), none, none, some (.iload_n 1, 1, .null), none, none, none, some (.ireturn, 1, .null)]
/-- 185: java/lang/String.coder()B -/
def ev_c185 : List (Option (Instr × Nat × Value)) := [some (.getstatic 38, 3, .int 1), none, none, some (.ifCond .eq 10, 3, .ref 13), none, none, some (.aload_n 0, 1, .null), some (.getfield 15, 3, .ref 1281), none, none, some (.goto 4, 3, .ref 14), none, none, some (.iconst 1, 1, .null), some (.ireturn, 1, .null)]
/-- 186: java/lang/String.isLatin1()Z -/
def ev_c186 : List (Option (Instr × Nat × Value)) := [some (.getstatic 38, 3, .int 1), none, none, some (.ifCond .eq 14, 3, .ref 17), none, none, some (.aload_n 0, 1, .null), some (.getfield 15, 3, .ref 1281), none, none, some (.ifCond .ne 7, 3, .ref 17), none, none, some (.iconst 1, 1, .null), some (.goto 4, 3, .ref 18), none, none, some (.iconst 0, 1, .null), some (.ireturn, 1, .null)]
/-- 187: java/lang/String.checkIndex(II)V -/
def ev_c187 : List (Option (Instr × Nat × Value)) := [some (.iload_n 0, 1, .null), some (.iload_n 1, 1, .null), some (.getstatic 1053, 3, .ref 503), none, none, some (.invokestatic 1059, 3, .ref 189), none, none, some (.pop, 1, .null), some (.return_, 1, .null)]
/-- 188: java/lang/StringLatin1.charAt([BI)C -/
def ev_c188 : List (Option (Instr × Nat × Value)) := [some (.iload_n 1, 1, .null), some (.aload_n 0, 1, .null), some (.arraylength, 1, .null), some (.invokestatic 9, 3, .ref 187), none, none, some (.aload_n 0, 1, .null), some (.iload_n 1, 1, .null), some (.baload, 1, .null), some (.sipush 255, 3, .null), none, none, some (.iand, 1, .null), some (.i2c, 1, .null), some (.ireturn, 1, .null)]
/-- 189: jdk/internal/util/Preconditions.checkIndex(IILjava/util/function/BiFunction;)I -/
def ev_c189 : List (Option (Instr × Nat × Value)) := [some (.iload_n 0, 1, .null), some (.ifCond .lt 8, 3, .ref 9), none, none, some (.iload_n 0, 1, .null), some (.iload_n 1, 1, .null), some (.if_icmp .lt 10, 3, .ref 16), none, none, some (.aload_n 2, 1, .null), some (.iload_n 0, 1, .null), some (.iload_n 1, 1, .null), none, none, none, none, some (.iload_n 0, 1, .null), some (.ireturn, 1, .null)]
/-- 190: StemRulesLaw.law([I)Z -/
def ev_c190 : List (Option (Instr × Nat × Value)) := [some (.new 7, 3, .ref 8), none, none, some (.dup, 1, .null), some (.invokespecial 9, 3, .ref 92), none, none, some (.astore_n 1, 1, .null), some (.new 10, 3, .ref 9), none, none, some (.dup, 1, .null), some (.invokespecial 12, 3, .ref 118), none, none, some (.astore_n 2, 1, .null), some (.iconst 0, 1, .null), some (.istore_n 3, 1, .null), some (.iload_n 3, 1, .null), some (.aload_n 0, 1, .null), some (.arraylength, 1, .null), some (.bipush 6, 2, .null), none, some (.isub, 1, .null), some (.if_icmp .gt 804, 3, .ref 828), none, none, some (.aload_n 0, 1, .null), some (.iload_n 3, 1, .null), some (.iaload, 1, .null), some (.bipush 31, 2, .null), none, some (.iand, 1, .null), some (.tableswitch 789 0 19 #[95, 158, 181, 204, 217, 240, 273, 306, 329, 388, 421, 516, 529, 588, 621, 644, 677, 710, 733, 766], 95, .null), none, none, none, none, none, none, none, none, none, none, none, none, none, none, none, none, none, none, none, none, none, none, none, none, none, none, none, none, none, none, none, none, none, none, none, none, none, none, none, none, none, none, none, none, none, none, none, none, none, none, none, none, none, none, none, none, none, none, none, none, none, none, none, none, none, none, none, none, none, none, none, none, none, none, none, none, none, none, none, none, none, none, none, none, none, none, none, none, none, none, none, none, none, none, some (.aload_n 1, 1, .null), some (.aload_n 0, 1, .null), some (.iload_n 3, 1, .null), some (.iconst 1, 1, .null), some (.iadd, 1, .null), some (.iaload, 1, .null), some (.aload_n 0, 1, .null), some (.iload_n 3, 1, .null), some (.iconst 2, 1, .null), some (.iadd, 1, .null), some (.iaload, 1, .null), some (.aload_n 0, 1, .null), some (.iload_n 3, 1, .null), some (.iconst 3, 1, .null), some (.iadd, 1, .null), some (.iaload, 1, .null), some (.aload_n 0, 1, .null), some (.iload_n 3, 1, .null), some (.iconst 4, 1, .null), some (.iadd, 1, .null), some (.iaload, 1, .null), some (.aload_n 0, 1, .null), some (.iload_n 3, 1, .null), some (.iconst 5, 1, .null), some (.iadd, 1, .null), some (.iaload, 1, .null), some (.invokevirtual 13, 3, .ref 93), none, none, some (.aload_n 2, 1, .null), some (.aload_n 0, 1, .null), some (.iload_n 3, 1, .null), some (.iconst 1, 1, .null), some (.iadd, 1, .null), some (.iaload, 1, .null), some (.aload_n 0, 1, .null), some (.iload_n 3, 1, .null), some (.iconst 2, 1, .null), some (.iadd, 1, .null), some (.iaload, 1, .null), some (.aload_n 0, 1, .null), some (.iload_n 3, 1, .null), some (.iconst 3, 1, .null), some (.iadd, 1, .null), some (.iaload, 1, .null), some (.aload_n 0, 1, .null), some (.iload_n 3, 1, .null), some (.iconst 4, 1, .null), some (.iadd, 1, .null), some (.iaload, 1, .null), some (.aload_n 0, 1, .null), some (.iload_n 3, 1, .null), some (.iconst 5, 1, .null), some (.iadd, 1, .null), some (.iaload, 1, .null), some (.invokevirtual 17, 3, .ref 122), none, none, some (.if_icmp .eq 636, 3, .ref 822), none, none, some (.iconst 0, 1, .null), some (.ireturn, 1, .null), some (.aload_n 1, 1, .null), some (.aload_n 0, 1, .null), some (.iload_n 3, 1, .null), some (.iconst 1, 1, .null), some (.iadd, 1, .null), some (.iaload, 1, .null), some (.invokevirtual 18, 3, .ref 94), none, none, some (.aload_n 2, 1, .null), some (.aload_n 0, 1, .null), some (.iload_n 3, 1, .null), some (.iconst 1, 1, .null), some (.iadd, 1, .null), some (.iaload, 1, .null), some (.invokevirtual 22, 3, .ref 124), none, none, some (.if_icmp .eq 613, 3, .ref 822), none, none, some (.iconst 0, 1, .null), some (.ireturn, 1, .null), some (.aload_n 1, 1, .null), some (.aload_n 0, 1, .null), some (.iload_n 3, 1, .null), some (.iconst 1, 1, .null), some (.iadd, 1, .null), some (.iaload, 1, .null), some (.invokevirtual 23, 3, .ref 95), none, none, some (.aload_n 2, 1, .null), some (.aload_n 0, 1, .null), some (.iload_n 3, 1, .null), some (.iconst 1, 1, .null), some (.iadd, 1, .null), some (.iaload, 1, .null), some (.invokevirtual 26, 3, .ref 125), none, none, some (.if_icmp .eq 590, 3, .ref 822), none, none, some (.iconst 0, 1, .null), some (.ireturn, 1, .null), some (.aload_n 1, 1, .null), some (.invokevirtual 27, 3, .ref 96), none, none, some (.aload_n 2, 1, .null), some (.invokevirtual 31, 3, .ref 130), none, none, some (.if_icmp .eq 577, 3, .ref 822), none, none, some (.iconst 0, 1, .null), some (.ireturn, 1, .null), some (.aload_n 1, 1, .null), some (.aload_n 0, 1, .null), some (.iload_n 3, 1, .null), some (.iconst 1, 1, .null), some (.iadd, 1, .null), some (.iaload, 1, .null), some (.invokevirtual 32, 3, .ref 97), none, none, some (.aload_n 2, 1, .null), some (.aload_n 0, 1, .null), some (.iload_n 3, 1, .null), some (.iconst 1, 1, .null), some (.iadd, 1, .null), some (.iaload, 1, .null), some (.invokevirtual 35, 3, .ref 131), none, none, some (.if_icmp .eq 554, 3, .ref 822), none, none, some (.iconst 0, 1, .null), some (.ireturn, 1, .null), some (.aload_n 1, 1, .null), some (.aload_n 0, 1, .null), some (.iload_n 3, 1, .null), some (.iconst 1, 1, .null), some (.iadd, 1, .null), some (.iaload, 1, .null), some (.aload_n 0, 1, .null), some (.iload_n 3, 1, .null), some (.iconst 2, 1, .null), some (.iadd, 1, .null), some (.iaload, 1, .null), some (.invokevirtual 36, 3, .ref 98), none, none, some (.aload_n 2, 1, .null), some (.aload_n 0, 1, .null), some (.iload_n 3, 1, .null), some (.iconst 1, 1, .null), some (.iadd, 1, .null), some (.iaload, 1, .null), some (.aload_n 0, 1, .null), some (.iload_n 3, 1, .null), some (.iconst 2, 1, .null), some (.iadd, 1, .null), some (.iaload, 1, .null), some (.invokevirtual 40, 3, .ref 156), none, none, some (.if_icmp .eq 521, 3, .ref 822), none, none, some (.iconst 0, 1, .null), some (.ireturn, 1, .null), some (.aload_n 1, 1, .null), some (.aload_n 0, 1, .null), some (.iload_n 3, 1, .null), some (.iconst 1, 1, .null), some (.iadd, 1, .null), some (.iaload, 1, .null), some (.aload_n 0, 1, .null), some (.iload_n 3, 1, .null), some (.iconst 2, 1, .null), some (.iadd, 1, .null), some (.iaload, 1, .null), some (.invokevirtual 41, 3, .ref 99), none, none, some (.aload_n 2, 1, .null), some (.aload_n 0, 1, .null), some (.iload_n 3, 1, .null), some (.iconst 1, 1, .null), some (.iadd, 1, .null), some (.iaload, 1, .null), some (.aload_n 0, 1, .null), some (.iload_n 3, 1, .null), some (.iconst 2, 1, .null), some (.iadd, 1, .null), some (.iaload, 1, .null), some (.invokevirtual 44, 3, .ref 157), none, none, some (.if_icmp .eq 488, 3, .ref 822), none, none, some (.iconst 0, 1, .null), some (.ireturn, 1, .null), some (.aload_n 1, 1, .null), some (.aload_n 0, 1, .null), some (.iload_n 3, 1, .null), some (.iconst 1, 1, .null), some (.iadd, 1, .null), some (.iaload, 1, .null), some (.invokevirtual 45, 3, .ref 100), none, none, some (.aload_n 2, 1, .null), some (.aload_n 0, 1, .null), some (.iload_n 3, 1, .null), some (.iconst 1, 1, .null), some (.iadd, 1, .null), some (.iaload, 1, .null), some (.invokevirtual 48, 3, .ref 158), none, none, some (.if_icmp .eq 465, 3, .ref 822), none, none, some (.iconst 0, 1, .null), some (.ireturn, 1, .null), some (.aload_n 1, 1, .null), some (.aload_n 0, 1, .null), some (.iload_n 3, 1, .null), some (.iconst 1, 1, .null), some (.iadd, 1, .null), some (.iaload, 1, .null), some (.aload_n 0, 1, .null), some (.iload_n 3, 1, .null), some (.iconst 2, 1, .null), some (.iadd, 1, .null), some (.iaload, 1, .null), some (.aload_n 0, 1, .null), some (.iload_n 3, 1, .null), some (.iconst 3, 1, .null), some (.iadd, 1, .null), some (.iaload, 1, .null), some (.ifCond .eq 7, 3, .ref 385), none, none, some (.iconst 1, 1, .null), some (.goto 4, 3, .ref 386), none, none, some (.iconst 0, 1, .null), some (.invokevirtual 49, 3, .ref 101), none, none, some (.aload_n 2, 1, .null), some (.aload_n 0, 1, .null), some (.iload_n 3, 1, .null), some (.iconst 1, 1, .null), some (.iadd, 1, .null), some (.iaload, 1, .null), some (.aload_n 0, 1, .null), some (.iload_n 3, 1, .null), some (.iconst 2, 1, .null), some (.iadd, 1, .null), some (.iaload, 1, .null), some (.aload_n 0, 1, .null), some (.iload_n 3, 1, .null), some (.iconst 3, 1, .null), some (.iadd, 1, .null), some (.iaload, 1, .null), some (.ifCond .eq 7, 3, .ref 412), none, none, some (.iconst 1, 1, .null), some (.goto 4, 3, .ref 413), none, none, some (.iconst 0, 1, .null), some (.invokevirtual 53, 3, .ref 159), none, none, some (.if_icmp .eq 406, 3, .ref 822), none, none, some (.iconst 0, 1, .null), some (.ireturn, 1, .null), some (.aload_n 1, 1, .null), some (.aload_n 0, 1, .null), some (.iload_n 3, 1, .null), some (.iconst 1, 1, .null), some (.iadd, 1, .null), some (.iaload, 1, .null), some (.aload_n 0, 1, .null), some (.iload_n 3, 1, .null), some (.iconst 2, 1, .null), some (.iadd, 1, .null), some (.iaload, 1, .null), some (.invokevirtual 54, 3, .ref 102), none, none, some (.aload_n 2, 1, .null), some (.aload_n 0, 1, .null), some (.iload_n 3, 1, .null), some (.iconst 1, 1, .null), some (.iadd, 1, .null), some (.iaload, 1, .null), some (.aload_n 0, 1, .null), some (.iload_n 3, 1, .null), some (.iconst 2, 1, .null), some (.iadd, 1, .null), some (.iaload, 1, .null), some (.invokevirtual 57, 3, .ref 160), none, none, some (.if_icmp .eq 373, 3, .ref 822), none, none, some (.iconst 0, 1, .null), some (.ireturn, 1, .null), some (.aload_n 1, 1, .null), some (.aload_n 0, 1, .null), some (.iload_n 3, 1, .null), some (.iconst 1, 1, .null), some (.iadd, 1, .null), some (.iaload, 1, .null), some (.aload_n 0, 1, .null), some (.iload_n 3, 1, .null), some (.iconst 2, 1, .null), some (.iadd, 1, .null), some (.iaload, 1, .null), some (.ifCond .eq 7, 3, .ref 472), none, none, some (.iconst 1, 1, .null), some (.goto 4, 3, .ref 473), none, none, some (.iconst 0, 1, .null), some (.aload_n 0, 1, .null), some (.iload_n 3, 1, .null), some (.iconst 3, 1, .null), some (.iadd, 1, .null), some (.iaload, 1, .null), some (.aload_n 0, 1, .null), some (.iload_n 3, 1, .null), some (.iconst 4, 1, .null), some (.iadd, 1, .null), some (.iaload, 1, .null), some (.aload_n 0, 1, .null), some (.iload_n 3, 1, .null), some (.iconst 5, 1, .null), some (.iadd, 1, .null), some (.iaload, 1, .null), some (.ifCond .eq 7, 3, .ref 495), none, none, some (.iconst 1, 1, .null), some (.goto 4, 3, .ref 496), none, none, some (.iconst 0, 1, .null), some (.invokevirtual 58, 3, .ref 103), none, none, some (.aload_n 2, 1, .null), some (.aload_n 0, 1, .null), some (.iload_n 3, 1, .null), some (.iconst 1, 1, .null), some (.iadd, 1, .null), some (.iaload, 1, .null), some (.aload_n 0, 1, .null), some (.iload_n 3, 1, .null), some (.iconst 2, 1, .null), some (.iadd, 1, .null), some (.iaload, 1, .null), some (.ifCond .eq 7, 3, .ref 517), none, none, some (.iconst 1, 1, .null), some (.goto 4, 3, .ref 518), none, none, some (.iconst 0, 1, .null), some (.aload_n 0, 1, .null), some (.iload_n 3, 1, .null), some (.iconst 3, 1, .null), some (.iadd, 1, .null), some (.iaload, 1, .null), some (.aload_n 0, 1, .null), some (.iload_n 3, 1, .null), some (.iconst 4, 1, .null), some (.iadd, 1, .null), some (.iaload, 1, .null), some (.aload_n 0, 1, .null), some (.iload_n 3, 1, .null), some (.iconst 5, 1, .null), some (.iadd, 1, .null), some (.iaload, 1, .null), some (.ifCond .eq 7, 3, .ref 540), none, none, some (.iconst 1, 1, .null), some (.goto 4, 3, .ref 541), none, none, some (.iconst 0, 1, .null), some (.invokevirtual 62, 3, .ref 161), none, none, some (.if_icmp .eq 278, 3, .ref 822), none, none, some (.iconst 0, 1, .null), some (.ireturn, 1, .null), some (.aload_n 1, 1, .null), some (.invokevirtual 63, 3, .ref 104), none, none, some (.aload_n 2, 1, .null), some (.invokevirtual 66, 3, .ref 162), none, none, some (.if_icmp .eq 265, 3, .ref 822), none, none, some (.iconst 0, 1, .null), some (.ireturn, 1, .null), some (.aload_n 1, 1, .null), some (.aload_n 0, 1, .null), some (.iload_n 3, 1, .null), some (.iconst 1, 1, .null), some (.iadd, 1, .null), some (.iaload, 1, .null), some (.ifCond .eq 7, 3, .ref 575), none, none, some (.iconst 1, 1, .null), some (.goto 4, 3, .ref 576), none, none, some (.iconst 0, 1, .null), some (.aload_n 0, 1, .null), some (.iload_n 3, 1, .null), some (.iconst 2, 1, .null), some (.iadd, 1, .null), some (.iaload, 1, .null), some (.aload_n 0, 1, .null), some (.iload_n 3, 1, .null), some (.iconst 3, 1, .null), some (.iadd, 1, .null), some (.iaload, 1, .null), some (.invokevirtual 67, 3, .ref 105), none, none, some (.aload_n 2, 1, .null), some (.aload_n 0, 1, .null), some (.iload_n 3, 1, .null), some (.iconst 1, 1, .null), some (.iadd, 1, .null), some (.iaload, 1, .null), some (.ifCond .eq 7, 3, .ref 602), none, none, some (.iconst 1, 1, .null), some (.goto 4, 3, .ref 603), none, none, some (.iconst 0, 1, .null), some (.aload_n 0, 1, .null), some (.iload_n 3, 1, .null), some (.iconst 2, 1, .null), some (.iadd, 1, .null), some (.iaload, 1, .null), some (.aload_n 0, 1, .null), some (.iload_n 3, 1, .null), some (.iconst 3, 1, .null), some (.iadd, 1, .null), some (.iaload, 1, .null), some (.invokevirtual 71, 3, .ref 163), none, none, some (.if_icmp .eq 206, 3, .ref 822), none, none, some (.iconst 0, 1, .null), some (.ireturn, 1, .null), some (.aload_n 1, 1, .null), some (.aload_n 0, 1, .null), some (.iload_n 3, 1, .null), some (.iconst 1, 1, .null), some (.iadd, 1, .null), some (.iaload, 1, .null), some (.aload_n 0, 1, .null), some (.iload_n 3, 1, .null), some (.iconst 2, 1, .null), some (.iadd, 1, .null), some (.iaload, 1, .null), some (.invokevirtual 72, 3, .ref 106), none, none, some (.aload_n 2, 1, .null), some (.aload_n 0, 1, .null), some (.iload_n 3, 1, .null), some (.iconst 1, 1, .null), some (.iadd, 1, .null), some (.iaload, 1, .null), some (.aload_n 0, 1, .null), some (.iload_n 3, 1, .null), some (.iconst 2, 1, .null), some (.iadd, 1, .null), some (.iaload, 1, .null), some (.invokevirtual 75, 3, .ref 167), none, none, some (.if_icmp .eq 173, 3, .ref 822), none, none, some (.iconst 0, 1, .null), some (.ireturn, 1, .null), some (.aload_n 1, 1, .null), some (.aload_n 0, 1, .null), some (.iload_n 3, 1, .null), some (.iconst 1, 1, .null), some (.iadd, 1, .null), some (.iaload, 1, .null), some (.invokevirtual 76, 3, .ref 107), none, none, some (.aload_n 2, 1, .null), some (.aload_n 0, 1, .null), some (.iload_n 3, 1, .null), some (.iconst 1, 1, .null), some (.iadd, 1, .null), some (.iaload, 1, .null), some (.invokevirtual 79, 3, .ref 168), none, none, some (.if_icmp .eq 150, 3, .ref 822), none, none, some (.iconst 0, 1, .null), some (.ireturn, 1, .null), some (.aload_n 1, 1, .null), some (.aload_n 0, 1, .null), some (.iload_n 3, 1, .null), some (.iconst 1, 1, .null), some (.iadd, 1, .null), some (.iaload, 1, .null), some (.aload_n 0, 1, .null), some (.iload_n 3, 1, .null), some (.iconst 2, 1, .null), some (.iadd, 1, .null), some (.iaload, 1, .null), some (.invokevirtual 80, 3, .ref 108), none, none, some (.aload_n 2, 1, .null), some (.aload_n 0, 1, .null), some (.iload_n 3, 1, .null), some (.iconst 1, 1, .null), some (.iadd, 1, .null), some (.iaload, 1, .null), some (.aload_n 0, 1, .null), some (.iload_n 3, 1, .null), some (.iconst 2, 1, .null), some (.iadd, 1, .null), some (.iaload, 1, .null), some (.invokevirtual 83, 3, .ref 169), none, none, some (.if_icmp .eq 117, 3, .ref 822), none, none, some (.iconst 0, 1, .null), some (.ireturn, 1, .null), some (.aload_n 1, 1, .null), some (.aload_n 0, 1, .null), some (.iload_n 3, 1, .null), some (.iconst 1, 1, .null), some (.iadd, 1, .null), some (.iaload, 1, .null), some (.aload_n 0, 1, .null), some (.iload_n 3, 1, .null), some (.iconst 2, 1, .null), some (.iadd, 1, .null), some (.iaload, 1, .null), some (.invokevirtual 84, 3, .ref 109), none, none, some (.aload_n 2, 1, .null), some (.aload_n 0, 1, .null), some (.iload_n 3, 1, .null), some (.iconst 1, 1, .null), some (.iadd, 1, .null), some (.iaload, 1, .null), some (.aload_n 0, 1, .null), some (.iload_n 3, 1, .null), some (.iconst 2, 1, .null), some (.iadd, 1, .null), some (.iaload, 1, .null), some (.invokevirtual 87, 3, .ref 176), none, none, some (.if_icmp .eq 84, 3, .ref 822), none, none, some (.iconst 0, 1, .null), some (.ireturn, 1, .null), some (.aload_n 1, 1, .null), some (.aload_n 0, 1, .null), some (.iload_n 3, 1, .null), some (.iconst 1, 1, .null), some (.iadd, 1, .null), some (.iaload, 1, .null), some (.invokevirtual 88, 3, .ref 110), none, none, some (.aload_n 2, 1, .null), some (.aload_n 0, 1, .null), some (.iload_n 3, 1, .null), some (.iconst 1, 1, .null), some (.iadd, 1, .null), some (.iaload, 1, .null), some (.invokevirtual 91, 3, .ref 178), none, none, some (.if_icmp .eq 61, 3, .ref 822), none, none, some (.iconst 0, 1, .null), some (.ireturn, 1, .null), some (.aload_n 1, 1, .null), some (.aload_n 0, 1, .null), some (.iload_n 3, 1, .null), some (.iconst 1, 1, .null), some (.iadd, 1, .null), some (.iaload, 1, .null), some (.aload_n 0, 1, .null), some (.iload_n 3, 1, .null), some (.iconst 2, 1, .null), some (.iadd, 1, .null), some (.iaload, 1, .null), some (.invokevirtual 92, 3, .ref 111), none, none, some (.aload_n 2, 1, .null), some (.aload_n 0, 1, .null), some (.iload_n 3, 1, .null), some (.iconst 1, 1, .null), some (.iadd, 1, .null), some (.iaload, 1, .null), some (.aload_n 0, 1, .null), some (.iload_n 3, 1, .null), some (.iconst 2, 1, .null), some (.iadd, 1, .null), some (.iaload, 1, .null), some (.invokevirtual 95, 3, .ref 180), none, none, some (.if_icmp .eq 28, 3, .ref 822), none, none, some (.iconst 0, 1, .null), some (.ireturn, 1, .null), some (.aload_n 1, 1, .null), some (.aload_n 0, 1, .null), some (.iload_n 3, 1, .null), some (.iconst 1, 1, .null), some (.iadd, 1, .null), some (.iaload, 1, .null), some (.invokevirtual 96, 3, .ref 112), none, none, some (.aload_n 2, 1, .null), some (.aload_n 0, 1, .null), some (.iload_n 3, 1, .null), some (.iconst 1, 1, .null), some (.iadd, 1, .null), some (.iaload, 1, .null), some (.invokevirtual 99, 3, .ref 181), none, none, some (.if_icmp .eq 5, 3, .ref 822), none, none, some (.iconst 0, 1, .null), some (.ireturn, 1, .null), some (.iinc 3 6, 3, .null), none, none, some (.goto (-807), 3, .ref 18), none, none, some (.iconst 1, 1, .null), some (.ireturn, 1, .null)]
def ev_codes : List (List (Option (Instr × Nat × Value))) := [ev_c0, ev_c1, ev_c2, ev_c3, ev_c4, ev_c5, ev_c6, ev_c7, ev_c8, ev_c9, ev_c10, ev_c11, ev_c12, ev_c13, ev_c14, ev_c15, ev_c16, ev_c17, ev_c18, ev_c19, ev_c20, ev_c21, ev_c22, ev_c23, ev_c24, ev_c25, ev_c26, ev_c27, ev_c28, ev_c29, ev_c30, ev_c31, ev_c32, ev_c33, ev_c34, ev_c35, ev_c36, ev_c37, ev_c38, ev_c39, ev_c40, ev_c41, ev_c42, ev_c43, ev_c44, ev_c45, ev_c46, ev_c47, ev_c48, ev_c49, ev_c50, ev_c51, ev_c52, ev_c53, ev_c54, ev_c55, ev_c56, ev_c57, ev_c58, ev_c59, ev_c60, ev_c61, ev_c62, ev_c63, ev_c64, ev_c65, ev_c66, ev_c67, ev_c68, ev_c69, ev_c70, ev_c71, ev_c72, ev_c73, ev_c74, ev_c75, ev_c76, ev_c77, ev_c78, ev_c79, ev_c80, ev_c81, ev_c82, ev_c83, ev_c84, ev_c85, ev_c86, ev_c87, ev_c88, ev_c89, ev_c90, ev_c91, ev_c92, ev_c93, ev_c94, ev_c95, ev_c96, ev_c97, ev_c98, ev_c99, ev_c100, ev_c101, ev_c102, ev_c103, ev_c104, ev_c105, ev_c106, ev_c107, ev_c108, ev_c109, ev_c110, ev_c111, ev_c112, ev_c113, ev_c114, ev_c115, ev_c116, ev_c117, ev_c118, ev_c119, ev_c120, ev_c121, ev_c122, ev_c123, ev_c124, ev_c125, ev_c126, ev_c127, ev_c128, ev_c129, ev_c130, ev_c131, ev_c132, ev_c133, ev_c134, ev_c135, ev_c136, ev_c137, ev_c138, ev_c139, ev_c140, ev_c141, ev_c142, ev_c143, ev_c144, ev_c145, ev_c146, ev_c147, ev_c148, ev_c149, ev_c150, ev_c151, ev_c152, ev_c153, ev_c154, ev_c155, ev_c156, ev_c157, ev_c158, ev_c159, ev_c160, ev_c161, ev_c162, ev_c163, ev_c164, ev_c165, ev_c166, ev_c167, ev_c168, ev_c169, ev_c170, ev_c171, ev_c172, ev_c173, ev_c174, ev_c175, ev_c176, ev_c177, ev_c178, ev_c179, ev_c180, ev_c181, ev_c182, ev_c183, ev_c184, ev_c185, ev_c186, ev_c187, ev_c188, ev_c189, ev_c190]
/-- of each method: its locals, its parameters (the object itself apart), what it answers (0 nothing, 1 int, 2 boolean, 3 char, 4 a reference, 5 long, 6 byte), the kind of its objects (99: String) -/
def ev_mts : List (Nat × Nat × Nat × Nat) := [(1, 0, 0, 0), (1, 0, 1, 0), (4, 3, 1, 0), (5, 3, 0, 0), (2, 1, 1, 0), (4, 2, 0, 0), (6, 4, 2, 0), (1, 0, 0, 1), (1, 0, 4, 1), (1, 0, 1, 1), (1, 0, 1, 1), (1, 0, 0, 1), (2, 1, 2, 1), (3, 1, 2, 1), (1, 0, 0, 2), (1, 0, 1, 2), (1, 0, 0, 2), (6, 5, 1, 2), (5, 2, 0, 2), (5, 3, 1, 2), (4, 3, 2, 2), (6, 2, 0, 98), (3, 2, 0, 98), (1, 1, 3, 98), (1, 1, 2, 98), (1, 1, 2, 98), (4, 2, 0, 98), (2, 2, 2, 98), (1, 1, 0, 98), (1, 0, 0, 3), (1, 0, 1, 3), (2, 1, 3, 3), (3, 2, 0, 3), (2, 1, 0, 3), (2, 1, 0, 3), (4, 2, 2, 3), (2, 1, 2, 3), (5, 3, 2, 3), (4, 2, 2, 3), (1, 0, 0, 4), (3, 1, 1, 4), (5, 2, 0, 4), (1, 0, 1, 4), (4, 1, 1, 4), (6, 4, 2, 4), (7, 4, 0, 4), (5, 2, 0, 98), (5, 1, 1, 98), (2, 2, 1, 98), (1, 1, 1, 98), (2, 2, 2, 98), (3, 3, 2, 98), (4, 3, 2, 98), (6, 3, 4, 98), (5, 4, 2, 98), (4, 2, 0, 98), (3, 2, 0, 98), (2, 2, 0, 98), (1, 0, 0, 5), (1, 0, 1, 5), (1, 0, 2, 5), (3, 1, 0, 5), (2, 1, 0, 5), (2, 1, 3, 5), (3, 1, 3, 5), (2, 1, 2, 5), (4, 1, 2, 5), (1, 0, 0, 6), (1, 0, 1, 6), (1, 0, 1, 6), (4, 2, 1, 6), (1, 0, 0, 6), (1, 0, 2, 6), (1, 0, 1, 6), (7, 5, 0, 6), (1, 0, 0, 6), (1, 0, 0, 7), (1, 0, 1, 7), (2, 1, 2, 7), (2, 1, 2, 7), (2, 1, 1, 7), (3, 2, 0, 7), (5, 3, 0, 7), (5, 3, 2, 7), (3, 2, 2, 7), (3, 1, 1, 7), (4, 1, 1, 7), (2, 1, 0, 7), (3, 2, 2, 7), (4, 3, 0, 7), (2, 1, 1, 7), (3, 2, 0, 7), (1, 0, 0, 8), (6, 5, 1, 8), (3, 1, 1, 8), (2, 1, 1, 8), (2, 0, 1, 8), (2, 1, 1, 8), (3, 2, 1, 8), (3, 2, 1, 8), (2, 1, 1, 8), (4, 3, 1, 8), (4, 2, 1, 8), (6, 5, 1, 8), (2, 0, 1, 8), (4, 3, 1, 8), (3, 2, 1, 8), (2, 1, 1, 8), (3, 2, 1, 8), (3, 2, 1, 8), (5, 1, 1, 8), (3, 2, 1, 8), (2, 1, 1, 8), (1, 1, 2, 8), (5, 3, 0, 8), (1, 1, 0, 8), (5, 1, 2, 8), (1, 1, 2, 8), (1, 0, 0, 9), (2, 2, 1, 9), (3, 3, 2, 9), (2, 1, 2, 9), (6, 5, 1, 9), (3, 1, 0, 9), (3, 1, 1, 9), (2, 1, 1, 9), (2, 0, 1, 9), (3, 1, 0, 9), (6, 2, 1, 9), (3, 0, 1, 9), (4, 0, 1, 9), (2, 1, 1, 9), (1, 1, 2, 9), (4, 1, 2, 9), (4, 1, 1, 9), (3, 1, 2, 9), (5, 1, 1, 9), (3, 2, 1, 9), (4, 1, 2, 9), (6, 2, 0, 9), (3, 1, 2, 9), (1, 0, 0, 9), (1, 1, 5, 9), (1, 1, 5, 9), (1, 1, 5, 9), (2, 2, 5, 9), (8, 1, 1, 9), (4, 1, 0, 9), (3, 0, 0, 9), (1, 0, 0, 9), (5, 1, 0, 9), (3, 1, 0, 9), (4, 1, 2, 9), (5, 2, 2, 9), (6, 0, 0, 9), (3, 2, 0, 9), (3, 2, 1, 9), (3, 2, 1, 9), (2, 1, 1, 9), (6, 3, 1, 9), (4, 2, 1, 9), (6, 5, 1, 9), (2, 0, 1, 9), (4, 3, 1, 9), (2, 1, 2, 9), (8, 2, 1, 9), (5, 3, 0, 9), (8, 2, 1, 9), (3, 1, 1, 9), (7, 2, 1, 9), (1, 1, 1, 9), (4, 0, 1, 9), (7, 2, 2, 9), (9, 3, 2, 9), (3, 0, 1, 9), (4, 1, 0, 9), (3, 2, 1, 9), (4, 2, 1, 9), (11, 1, 1, 9), (8, 4, 2, 9), (3, 2, 1, 9), (2, 1, 1, 9), (1, 1, 1, 98), (1, 0, 1, 99), (2, 1, 3, 99), (1, 0, 6, 99), (1, 0, 2, 99), (2, 2, 0, 99), (2, 2, 3, 98), (3, 3, 1, 98), (4, 1, 2, 98)]
def ev_nm : List (MethodName × ByteArray × Option FieldType) := [
  (yX0_init, cX0_init, (Option.none : Option Jvm.ClassFile.FieldType)),
  (yX0_count, cX0_count, (Option.some Jvm.ClassFile.FieldType.int)),
  (yX0_addAffix, cX0_addAffix, (Option.some Jvm.ClassFile.FieldType.int)),
  (yX0_collect, cX0_collect, (Option.none : Option Jvm.ClassFile.FieldType)),
  (yX0_found, cX0_found, (Option.some Jvm.ClassFile.FieldType.int)),
  (yX0_note, cX0_note, (Option.none : Option Jvm.ClassFile.FieldType)),
  (yX0_change, cX0_change, (Option.some Jvm.ClassFile.FieldType.boolean)),
  (yX1_init, cX1_init, (Option.none : Option Jvm.ClassFile.FieldType)),
  (yX1_piece, cX1_piece, (Option.some (Jvm.ClassFile.FieldType.object "StemRules$Letters"))),
  (yX1_place, cX1_place, (Option.some Jvm.ClassFile.FieldType.int)),
  (yX1_bytes, cX1_bytes, (Option.some Jvm.ClassFile.FieldType.int)),
  (yX1_begin, cX1_begin, (Option.none : Option Jvm.ClassFile.FieldType)),
  (yX1_findPiece, cX1_findPiece, (Option.some Jvm.ClassFile.FieldType.boolean)),
  (yX1_findLetters, cX1_findLetters, (Option.some Jvm.ClassFile.FieldType.boolean)),
  (yX3_init, cX3_init, (Option.none : Option Jvm.ClassFile.FieldType)),
  (yX3_count, cX3_count, (Option.some Jvm.ClassFile.FieldType.int)),
  (yX3_dropRows, cX3_dropRows, (Option.none : Option Jvm.ClassFile.FieldType)),
  (yX3_addRow, cX3_addRow, (Option.some Jvm.ClassFile.FieldType.int)),
  (yX3_run, cX3_run, (Option.none : Option Jvm.ClassFile.FieldType)),
  (yX3_findRow, cX3_findRow, (Option.some Jvm.ClassFile.FieldType.int)),
  (yX3_isGood, cX3_isGood, (Option.some Jvm.ClassFile.FieldType.boolean)),
  (yX4_layFigures, cX4_layFigures, (Option.none : Option Jvm.ClassFile.FieldType)),
  (yX4_laySounds, cX4_laySounds, (Option.none : Option Jvm.ClassFile.FieldType)),
  (yX4_figureOf, cX4_figureOf, (Option.some Jvm.ClassFile.FieldType.char)),
  (yX4_changeBeginning, cX4_changeBeginning, (Option.some Jvm.ClassFile.FieldType.boolean)),
  (yX4_changeEnding, cX4_changeEnding, (Option.some Jvm.ClassFile.FieldType.boolean)),
  (yX4_changeLetter, cX4_changeLetter, (Option.none : Option Jvm.ClassFile.FieldType)),
  (yX4_changeConsonant, cX4_changeConsonant, (Option.some Jvm.ClassFile.FieldType.boolean)),
  (yX4_trimEnd, cX4_trimEnd, (Option.none : Option Jvm.ClassFile.FieldType)),
  (yX5_init, cX5_init, (Option.none : Option Jvm.ClassFile.FieldType)),
  (yX5_size, cX5_size, (Option.some Jvm.ClassFile.FieldType.int)),
  (yX5_at, cX5_at, (Option.some Jvm.ClassFile.FieldType.char)),
  (yX5_put, cX5_put, (Option.none : Option Jvm.ClassFile.FieldType)),
  (yX5_add, cX5_add, (Option.none : Option Jvm.ClassFile.FieldType)),
  (yX5_shorten, cX5_shorten, (Option.none : Option Jvm.ClassFile.FieldType)),
  (yX5_hasAt, cX5_hasAt, (Option.some Jvm.ClassFile.FieldType.boolean)),
  (yX5_ends, cX5_ends, (Option.some Jvm.ClassFile.FieldType.boolean)),
  (yX5_changeAt, cX5_changeAt, (Option.some Jvm.ClassFile.FieldType.boolean)),
  (yX5_changeEnd, cX5_changeEnd, (Option.some Jvm.ClassFile.FieldType.boolean)),
  (yX6_init, cX6_init, (Option.none : Option Jvm.ClassFile.FieldType)),
  (yX6_setLeast, cX6_setLeast, (Option.some Jvm.ClassFile.FieldType.int)),
  (yX6_lay, cX6_lay, (Option.none : Option Jvm.ClassFile.FieldType)),
  (yX6_count, cX6_count, (Option.some Jvm.ClassFile.FieldType.int)),
  (yX6_numberOf, cX6_numberOf, (Option.some Jvm.ClassFile.FieldType.int)),
  (yX6_mayStand, cX6_mayStand, (Option.some Jvm.ClassFile.FieldType.boolean)),
  (yX6_noteFirst, cX6_noteFirst, (Option.none : Option Jvm.ClassFile.FieldType)),
  (yX7_run, cX7_run, (Option.none : Option Jvm.ClassFile.FieldType)),
  (yX7_consonantsOf, cX7_consonantsOf, (Option.some Jvm.ClassFile.FieldType.int)),
  (yX7_measureOf, cX7_measureOf, (Option.some Jvm.ClassFile.FieldType.int)),
  (yX7_lowest, cX7_lowest, (Option.some Jvm.ClassFile.FieldType.int)),
  (yX7_hasV, cX7_hasV, (Option.some Jvm.ClassFile.FieldType.boolean)),
  (yX7_endsDouble, cX7_endsDouble, (Option.some Jvm.ClassFile.FieldType.boolean)),
  (yX7_endsShort, cX7_endsShort, (Option.some Jvm.ClassFile.FieldType.boolean)),
  (yX7_changeEnding, cX7_changeEnding, (Option.some (Jvm.ClassFile.FieldType.object "StemRules$Ending"))),
  (yX7_holds, cX7_holds, (Option.some Jvm.ClassFile.FieldType.boolean)),
  (yX7_mend, cX7_mend, (Option.none : Option Jvm.ClassFile.FieldType)),
  (yX7_changeY, cX7_changeY, (Option.none : Option Jvm.ClassFile.FieldType)),
  (yX7_dropL, cX7_dropL, (Option.none : Option Jvm.ClassFile.FieldType)),
  (yX8_init, cX8_init, (Option.none : Option Jvm.ClassFile.FieldType)),
  (yX8_size, cX8_size, (Option.some Jvm.ClassFile.FieldType.int)),
  (yX8_hasRoomForFive, cX8_hasRoomForFive, (Option.some Jvm.ClassFile.FieldType.boolean)),
  (yX8_addNumber, cX8_addNumber, (Option.none : Option Jvm.ClassFile.FieldType)),
  (yX8_keep, cX8_keep, (Option.none : Option Jvm.ClassFile.FieldType)),
  (yX8_byteAt, cX8_byteAt, (Option.some Jvm.ClassFile.FieldType.char)),
  (yX8_letterAt, cX8_letterAt, (Option.some Jvm.ClassFile.FieldType.char)),
  (yX8_joinsAt, cX8_joinsAt, (Option.some Jvm.ClassFile.FieldType.boolean)),
  (yX8_copyAsWord, cX8_copyAsWord, (Option.some Jvm.ClassFile.FieldType.boolean)),
  (yX9_init, cX9_init, (Option.none : Option Jvm.ClassFile.FieldType)),
  (yX9_count, cX9_count, (Option.some Jvm.ClassFile.FieldType.int)),
  (yX9_positions, cX9_positions, (Option.some Jvm.ClassFile.FieldType.int)),
  (yX9_get, cX9_get, (Option.some Jvm.ClassFile.FieldType.int)),
  (yX9_begin, cX9_begin, (Option.none : Option Jvm.ClassFile.FieldType)),
  (yX9_haveRoom, cX9_haveRoom, (Option.some Jvm.ClassFile.FieldType.boolean)),
  (yX9_nextPosition, cX9_nextPosition, (Option.some Jvm.ClassFile.FieldType.int)),
  (yX9_add, cX9_add, (Option.none : Option Jvm.ClassFile.FieldType)),
  (yX9_keep, cX9_keep, (Option.none : Option Jvm.ClassFile.FieldType)),
  (yX10_init, cX10_init, (Option.none : Option Jvm.ClassFile.FieldType)),
  (yX10_count, cX10_count, (Option.some Jvm.ClassFile.FieldType.int)),
  (yX10_knows, cX10_knows, (Option.some Jvm.ClassFile.FieldType.boolean)),
  (yX10_knowsOrNone, cX10_knowsOrNone, (Option.some Jvm.ClassFile.FieldType.boolean)),
  (yX10_sizeOf, cX10_sizeOf, (Option.some Jvm.ClassFile.FieldType.int)),
  (yX10_copyTo, cX10_copyTo, (Option.none : Option Jvm.ClassFile.FieldType)),
  (yX10_addTo, cX10_addTo, (Option.none : Option Jvm.ClassFile.FieldType)),
  (yX10_standsAt, cX10_standsAt, (Option.some Jvm.ClassFile.FieldType.boolean)),
  (yX10_standsBehind, cX10_standsBehind, (Option.some Jvm.ClassFile.FieldType.boolean)),
  (yX10_find, cX10_find, (Option.some Jvm.ClassFile.FieldType.int)),
  (yX10_learn, cX10_learn, (Option.some Jvm.ClassFile.FieldType.int)),
  (yX10_forgetFrom, cX10_forgetFrom, (Option.none : Option Jvm.ClassFile.FieldType)),
  (yX10_isMarked, cX10_isMarked, (Option.some Jvm.ClassFile.FieldType.boolean)),
  (yX10_setMark, cX10_setMark, (Option.none : Option Jvm.ClassFile.FieldType)),
  (yX10_pairOf, cX10_pairOf, (Option.some Jvm.ClassFile.FieldType.int)),
  (yX10_setPair, cX10_setPair, (Option.none : Option Jvm.ClassFile.FieldType)),
  (yX11_init, cX11_init, (Option.none : Option Jvm.ClassFile.FieldType)),
  (yX11_feed, cX11_feed, (Option.some Jvm.ClassFile.FieldType.int)),
  (yX11_cut, cX11_cut, (Option.some Jvm.ClassFile.FieldType.int)),
  (yX11_out, cX11_out, (Option.some Jvm.ClassFile.FieldType.int)),
  (yX11_word, cX11_word, (Option.some Jvm.ClassFile.FieldType.int)),
  (yX11_spell, cX11_spell, (Option.some Jvm.ClassFile.FieldType.int)),
  (yX11_stem, cX11_stem, (Option.some Jvm.ClassFile.FieldType.int)),
  (yX11_step, cX11_step, (Option.some Jvm.ClassFile.FieldType.int)),
  (yX11_measure, cX11_measure, (Option.some Jvm.ClassFile.FieldType.int)),
  (yX11_mark, cX11_mark, (Option.some Jvm.ClassFile.FieldType.int)),
  (yX11_pair, cX11_pair, (Option.some Jvm.ClassFile.FieldType.int)),
  (yX11_row, cX11_row, (Option.some Jvm.ClassFile.FieldType.int)),
  (yX11_rowless, cX11_rowless, (Option.some Jvm.ClassFile.FieldType.int)),
  (yX11_affix, cX11_affix, (Option.some Jvm.ClassFile.FieldType.int)),
  (yX11_base, cX11_base, (Option.some Jvm.ClassFile.FieldType.int)),
  (yX11_least, cX11_least, (Option.some Jvm.ClassFile.FieldType.int)),
  (yX11_part, cX11_part, (Option.some Jvm.ClassFile.FieldType.int)),
  (yX11_key, cX11_key, (Option.some Jvm.ClassFile.FieldType.int)),
  (yX11_text, cX11_text, (Option.some Jvm.ClassFile.FieldType.int)),
  (yX11_token, cX11_token, (Option.some Jvm.ClassFile.FieldType.int)),
  (yX11_told, cX11_told, (Option.some Jvm.ClassFile.FieldType.int)),
  (yX11_isStemmer, cX11_isStemmer, (Option.some Jvm.ClassFile.FieldType.boolean)),
  (yX11_layStem, cX11_layStem, (Option.none : Option Jvm.ClassFile.FieldType)),
  (yX11_dropPlural, cX11_dropPlural, (Option.none : Option Jvm.ClassFile.FieldType)),
  (yX11_takePiece, cX11_takePiece, (Option.some Jvm.ClassFile.FieldType.boolean)),
  (yX11_isVowel, cX11_isVowel, (Option.some Jvm.ClassFile.FieldType.boolean)),
  (yX12_init, cX12_init, (Option.none : Option Jvm.ClassFile.FieldType)),
  (yX12_small, cX12_small, (Option.some Jvm.ClassFile.FieldType.int)),
  (yX12_beyond, cX12_beyond, (Option.some Jvm.ClassFile.FieldType.boolean)),
  (yX12_strange, cX12_strange, (Option.some Jvm.ClassFile.FieldType.boolean)),
  (yX12_feed, cX12_feed, (Option.some Jvm.ClassFile.FieldType.int)),
  (yX12_four, cX12_four, (Option.none : Option Jvm.ClassFile.FieldType)),
  (yX12_cut, cX12_cut, (Option.some Jvm.ClassFile.FieldType.int)),
  (yX12_out, cX12_out, (Option.some Jvm.ClassFile.FieldType.int)),
  (yX12_show, cX12_show, (Option.some Jvm.ClassFile.FieldType.int)),
  (yX12_take, cX12_take, (Option.none : Option Jvm.ClassFile.FieldType)),
  (yX12_find, cX12_find, (Option.some Jvm.ClassFile.FieldType.int)),
  (yX12_learn, cX12_learn, (Option.some Jvm.ClassFile.FieldType.int)),
  (yX12_word, cX12_word, (Option.some Jvm.ClassFile.FieldType.int)),
  (yX12_spell, cX12_spell, (Option.some Jvm.ClassFile.FieldType.int)),
  (yX12_isVowel, cX12_isVowel, (Option.some Jvm.ClassFile.FieldType.boolean)),
  (yX12_isC, cX12_isC, (Option.some Jvm.ClassFile.FieldType.boolean)),
  (yX12_measure0, cX12_measure0, (Option.some Jvm.ClassFile.FieldType.int)),
  (yX12_hasV, cX12_hasV, (Option.some Jvm.ClassFile.FieldType.boolean)),
  (yX12_lettersOf, cX12_lettersOf, (Option.some Jvm.ClassFile.FieldType.int)),
  (yX12_letterOf, cX12_letterOf, (Option.some Jvm.ClassFile.FieldType.int)),
  (yX12_ends, cX12_ends, (Option.some Jvm.ClassFile.FieldType.boolean)),
  (yX12_turn, cX12_turn, (Option.none : Option Jvm.ClassFile.FieldType)),
  (yX12_isO, cX12_isO, (Option.some Jvm.ClassFile.FieldType.boolean)),
  (yX12_plural, cX12_plural, (Option.none : Option Jvm.ClassFile.FieldType)),
  (yX12_second, cX12_second, (Option.some Jvm.ClassFile.FieldType.long)),
  (yX12_third, cX12_third, (Option.some Jvm.ClassFile.FieldType.long)),
  (yX12_fourth, cX12_fourth, (Option.some Jvm.ClassFile.FieldType.long)),
  (yX12_ending, cX12_ending, (Option.some Jvm.ClassFile.FieldType.long)),
  (yX12_longest, cX12_longest, (Option.some Jvm.ClassFile.FieldType.int)),
  (yX12_replace, cX12_replace, (Option.none : Option Jvm.ClassFile.FieldType)),
  (yX12_do1b, cX12_do1b, (Option.none : Option Jvm.ClassFile.FieldType)),
  (yX12_shortE, cX12_shortE, (Option.none : Option Jvm.ClassFile.FieldType)),
  (yX12_porterStep, cX12_porterStep, (Option.none : Option Jvm.ClassFile.FieldType)),
  (yX12_porter, cX12_porter, (Option.none : Option Jvm.ClassFile.FieldType)),
  (yX12_endsWith, cX12_endsWith, (Option.some Jvm.ClassFile.FieldType.boolean)),
  (yX12_isGood, cX12_isGood, (Option.some Jvm.ClassFile.FieldType.boolean)),
  (yX12_husk, cX12_husk, (Option.none : Option Jvm.ClassFile.FieldType)),
  (yX12_stemOf, cX12_stemOf, (Option.none : Option Jvm.ClassFile.FieldType)),
  (yX12_stem, cX12_stem, (Option.some Jvm.ClassFile.FieldType.int)),
  (yX12_step, cX12_step, (Option.some Jvm.ClassFile.FieldType.int)),
  (yX12_measure, cX12_measure, (Option.some Jvm.ClassFile.FieldType.int)),
  (yX12_mark, cX12_mark, (Option.some Jvm.ClassFile.FieldType.int)),
  (yX12_pair, cX12_pair, (Option.some Jvm.ClassFile.FieldType.int)),
  (yX12_row, cX12_row, (Option.some Jvm.ClassFile.FieldType.int)),
  (yX12_rowless, cX12_rowless, (Option.some Jvm.ClassFile.FieldType.int)),
  (yX12_affix, cX12_affix, (Option.some Jvm.ClassFile.FieldType.int)),
  (yX12_isMember, cX12_isMember, (Option.some Jvm.ClassFile.FieldType.boolean)),
  (yX12_byAffix, cX12_byAffix, (Option.some Jvm.ClassFile.FieldType.int)),
  (yX12_add, cX12_add, (Option.none : Option Jvm.ClassFile.FieldType)),
  (yX12_base, cX12_base, (Option.some Jvm.ClassFile.FieldType.int)),
  (yX12_least, cX12_least, (Option.some Jvm.ClassFile.FieldType.int)),
  (yX12_part, cX12_part, (Option.some Jvm.ClassFile.FieldType.int)),
  (yX12_figure, cX12_figure, (Option.some Jvm.ClassFile.FieldType.int)),
  (yX12_keyByFigures, cX12_keyByFigures, (Option.some Jvm.ClassFile.FieldType.int)),
  (yX12_stands, cX12_stands, (Option.some Jvm.ClassFile.FieldType.boolean)),
  (yX12_becomes, cX12_becomes, (Option.some Jvm.ClassFile.FieldType.boolean)),
  (yX12_keyBySounds, cX12_keyBySounds, (Option.some Jvm.ClassFile.FieldType.int)),
  (yX12_sound, cX12_sound, (Option.none : Option Jvm.ClassFile.FieldType)),
  (yX12_key, cX12_key, (Option.some Jvm.ClassFile.FieldType.int)),
  (yX12_letterAt, cX12_letterAt, (Option.some Jvm.ClassFile.FieldType.int)),
  (yX12_text, cX12_text, (Option.some Jvm.ClassFile.FieldType.int)),
  (yX12_lay, cX12_lay, (Option.some Jvm.ClassFile.FieldType.boolean)),
  (yX12_token, cX12_token, (Option.some Jvm.ClassFile.FieldType.int)),
  (yX12_told, cX12_told, (Option.some Jvm.ClassFile.FieldType.int)),
  (yJ6_bitCount_0f7a4, cJ6_bitCount_0f7a4, (Option.some Jvm.ClassFile.FieldType.int)),
  (yJ0_length_8abf5, cJ0_length_8abf5, (Option.some Jvm.ClassFile.FieldType.int)),
  (yJ0_charAt_5068e, cJ0_charAt_5068e, (Option.some Jvm.ClassFile.FieldType.char)),
  (yJ0_coder_7d493, cJ0_coder_7d493, (Option.some Jvm.ClassFile.FieldType.byte)),
  (yJ0_isLatin1_aae02, cJ0_isLatin1_aae02, (Option.some Jvm.ClassFile.FieldType.boolean)),
  (yJ0_checkIndex_df160, cJ0_checkIndex_df160, (Option.none : Option Jvm.ClassFile.FieldType)),
  (yJ1_charAt_3b067, cJ1_charAt_3b067, (Option.some Jvm.ClassFile.FieldType.char)),
  (yJ3_checkIndex_8e157, cJ3_checkIndex_8e157, (Option.some Jvm.ClassFile.FieldType.int)),
  (x, cL_law, ret)]
end
section
/-! THE PURE MACHINE: the bytecode of this claim over a heap of fixed shape. A state is (top, r, I, A): the cells from 1000 up to top are made;
r: so many of the references of ev_refs are laid into their fields; I x k: what the int field k of cell x holds; A x j: what stands at j in array x. Below 1000 lie the cells that were there before. -/
abbrev ev_M : Type := Nat × Nat × (Nat → Nat → Int32) × (Nat → Nat → Int32)
abbrev ev_O : Type := (Nat × List (Option Value) × List Value × ev_M) ⊕ ((Option Value × ev_M) ⊕ (Nat × List Value × List Value))
def ev_upd (f : Nat → Nat → Int32) (a k : Nat) (x : Int32) : Nat → Nat → Int32 := fun b j => if b = a then (if j = k then x else f b j) else f b j
/-- the references that are laid: the first r of them -/
def ev_Rf (r x k : Nat) : Bool := decide ((x, k) ∈ ev_refs.take r)
def ev_sh (x : Nat) : Option ((Nat × List (Option Nat)) ⊕ (Nat × Nat)) := if x < 1000 then none else ev_shs[x - 1000]?
/-- an array that was there before: its kind (0 int, 1 char, 2 boolean, 3 byte, 4 references), its length, what it holds -/
def ev_oa (σ : ev_M) (x : Nat) : Option (Nat × Nat × (Nat → Value)) :=
  if x = 502 then some (0, (σ.2.2.1 502 0).toNatClampNeg, fun j => .int (σ.2.2.2 502 j))
  else if x = 500 then some (1, 26, fun j => .int (ev_figs.getD j 0))
  else if x = 501 then some (4, 54, fun j => .ref (400 + j))
  else if 200 ≤ x ∧ x < 310 then some (3, (ev_txs.getD (x - 200) []).length, fun j => .int ((ev_txs.getD (x - 200) []).getD j 0))
  else none
/-- a field of an object that was there before, by the field's number -/
def ev_of (x n : Nat) : Option Value :=
  if x < 110 then (if n = 1280 then some (.ref (200 + x)) else if n = 1281 then some (.int 0) else none)
  else if 400 ≤ x ∧ x < 454 then
    match ev_ens[x - 400]? with
    | some q => if n = 1344 then some (.int q.1) else if n = 1345 then some (.int q.2.1) else if n = 1346 then some (.ref q.2.2.1) else if n = 1347 then some (.ref q.2.2.2) else none
    | none => none
  else none
def ev_mt (m : Nat) : Nat × Nat × Nat × Nat := ev_mts.getD m (0, 0, 0, 0)
def ev_at (m k : Nat) : Option (Instr × Nat × Value) := ((ev_codes.getD m [])[k]?).join
def ev_i {α : Type} (st : List Value) (f : Int32 → List Value → Option α) : Option α := match st with
  | .int x :: r => f x r
  | _ => none
def ev_ii {α : Type} (st : List Value) (f : Int32 → Int32 → List Value → Option α) : Option α := match st with
  | .int y :: .int x :: r => f x y r
  | _ => none
def ev_l {α : Type} (st : List Value) (f : Int64 → List Value → Option α) : Option α := match st with
  | .long x :: r => f x r
  | _ => none
def ev_ll {α : Type} (st : List Value) (f : Int64 → Int64 → List Value → Option α) : Option α := match st with
  | .long y :: .long x :: r => f x y r
  | _ => none
def ev_li {α : Type} (st : List Value) (f : Int64 → Int32 → List Value → Option α) : Option α := match st with
  | .int y :: .long x :: r => f x y r
  | _ => none
def ev_r {α : Type} (st : List Value) (f : Nat → List Value → Option α) : Option α := match st with
  | .ref x :: r => f x r
  | _ => none
def ev_ri {α : Type} (st : List Value) (f : Nat → Int32 → List Value → Option α) : Option α := match st with
  | .int i :: .ref a :: r => f a i r
  | _ => none
def ev_rii {α : Type} (st : List Value) (f : Nat → Int32 → Int32 → List Value → Option α) : Option α := match st with
  | .int x :: .int i :: .ref a :: r => f a i x r
  | _ => none
def ev_rv {α : Type} (st : List Value) (f : Nat → Value → List Value → Option α) : Option α := match st with
  | v :: .ref a :: r => f a v r
  | _ => none
def ev_1 {α : Type} (st : List Value) (f : Value → List Value → Option α) : Option α := match st with
  | .int x :: r => f (.int x) r
  | .ref x :: r => f (.ref x) r
  | .null :: r => f .null r
  | _ => none
/-- a reference or null -/
def ev_q {α : Type} (st : List Value) (f : Option Nat → List Value → Option α) : Option α := match st with
  | .ref x :: r => f (some x) r
  | .null :: r => f none r
  | _ => none
def ev_next (k : Nat) (ls : List (Option Value)) (st : List Value) (σ : ev_M) : Option ev_O := some (.inl (k, ls, st, σ))
def ev_holds (c : Jvm.ClassFile.Cond) (x y : Int32) : Bool := match c with
  | .eq => decide (x = y)
  | .ne => decide (¬ x = y)
  | .lt => decide (x < y)
  | .ge => decide (y ≤ x)
  | .gt => decide (y < x)
  | .le => decide (x ≤ y)
def ev_tg (lk : Value) (f : Nat → Option ev_O) : Option ev_O := match lk with
  | .ref t => f t
  | _ => none
def ev_sw (k : Nat) (d lo hi : Int) (offs : Array Int) (x : Int32) : Option Nat :=
  if x.toInt < lo ∨ hi < x.toInt then (if 0 ≤ (k : Int) + d then some ((k : Int) + d).toNat else none)
  else match offs.toList[(x.toInt - lo).toNat]? with
    | some o => if 0 ≤ (k : Int) + o then some ((k : Int) + o).toNat else none
    | none => none
/-- a long or double stands there -/
def ev_two (o : Option (Option Value)) : Bool := match o with
  | some (some (.long _)) => true
  | some (some (.double _)) => true
  | _ => false
/-- the locals with v at i: a long just ahead of i would lose its second half -/
def ev_set (ls : List (Option Value)) (i : Nat) (v : Value) : Option (List (Option Value)) :=
  if i < ls.length ∧ (i = 0 ∨ ev_two ls[i - 1]? = false) then some (ls.set i (some v)) else none
def ev_setL (ls : List (Option Value)) (i : Nat) (v : Int64) : Option (List (Option Value)) :=
  if i + 1 < ls.length ∧ (i = 0 ∨ ev_two ls[i - 1]? = false) then some ((ls.set i (some (.long v))).set (i + 1) none) else none
def ev_ldi (ls : List (Option Value)) (i : Nat) (f : Value → Option ev_O) : Option ev_O := match ls[i]? with
  | some (some (.int x)) => f (.int x)
  | _ => none
def ev_lda (ls : List (Option Value)) (i : Nat) (f : Value → Option ev_O) : Option ev_O := match ls[i]? with
  | some (some (.ref x)) => f (.ref x)
  | some (some .null) => f .null
  | _ => none
def ev_ldl (ls : List (Option Value)) (i : Nat) (f : Value → Option ev_O) : Option ev_O := match ls[i]? with
  | some (some (.long x)) => f (.long x)
  | _ => none
/-- an array's length and kind -/
def ev_len (σ : ev_M) (x : Nat) : Option (Nat × Nat) :=
  if x < 1000 then (match ev_oa σ x with
    | some q => some (q.1, q.2.1)
    | none => none)
  else if x < σ.1 then (match ev_sh x with
    | some (.inr q) => some q
    | _ => none)
  else none
def ev_get (σ : ev_M) (x j : Nat) : Value := if x < 1000 then (match ev_oa σ x with
    | some q => q.2.2 j
    | none => .null) else .int (σ.2.2.2 x j)
/-- what stands at i of array x, of a kind -/
def ev_ald (σ : ev_M) (t : Nat) (x : Nat) (i : Int32) (f : Value → Option ev_O) : Option ev_O := match ev_len σ x with
  | some (t', n) => if t' = t then (if i < 0 ∨ n ≤ i.toNatClampNeg then none else f (ev_get σ x i.toNatClampNeg)) else none
  | none => none
def ev_ast (σ : ev_M) (t : Nat) (x : Nat) (i : Int32) (v : Int32) (f : ev_M → Option ev_O) : Option ev_O :=
  if x < 1000 then none else match ev_len σ x with
  | some (t', n) => if t' = t then (if i < 0 ∨ n ≤ i.toNatClampNeg then none else f (σ.1, σ.2.1, σ.2.2.1, ev_upd σ.2.2.2 x i.toNatClampNeg v)) else none
  | none => none
def ev_getf (σ : ev_M) (x n : Nat) : Option Value :=
  if x < 1000 then ev_of x n
  else if x < σ.1 then match ev_sh x with
    | some (.inl q) => if q.1 = n / 64 then (match q.2[n % 64]? with
      | some none => some (.int (σ.2.2.1 x (n % 64)))
      | some (some b) => if σ.2.1 = ev_nr then some (.ref b) else none
      | none => none) else none
    | _ => none
  else none
def ev_putf (σ : ev_M) (x n : Nat) (v : Value) : Option ev_M :=
  if x < 1000 then none
  else if x < σ.1 then match ev_sh x with
    | some (.inl q) => if q.1 = n / 64 then (match q.2[n % 64]?, v with
      | some none, .int y => some (σ.1, σ.2.1, ev_upd σ.2.2.1 x (n % 64) y, σ.2.2.2)
      | some (some b), .ref y => if y = b ∧ ev_refs[σ.2.1]? = some (x, n % 64) then some (σ.1, σ.2.1 + 1, σ.2.2.1, σ.2.2.2) else none
      | _, _ => none) else none
    | _ => none
  else none
def ev_fit (r : Nat) (x : Int32) : Bool := match r with
  | 1 => true
  | 2 => decide (x = 0) || decide (x = 1)
  | 3 => decide (0 ≤ x) && decide (x ≤ 65535)
  | 6 => decide (x = 0)
  | _ => false
def ev_recv (σ : ev_M) (x mc : Nat) : Bool :=
  if x < 1000 then decide (x < 110) && decide (mc = 99)
  else decide (x < σ.1) && (match ev_sh x with
    | some (.inl q) => decide (q.1 = mc)
    | _ => false)
def ev_cat (st : List Value) : Nat := (st.map fun v => v.category).sum
def ev_nd (v : Value) : Bool := match v with
  | .double _ => false
  | _ => true
/-- the arguments as locals -/
def ev_ent : List Value → List (Option Value)
  | [] => []
  | .long x :: r => some (.long x) :: none :: ev_ent r
  | v :: r => some v :: ev_ent r
/-- a call: the method, its arguments (the object first), what stays on the stack -/
def ev_call (σ : ev_M) (lk : Value) (st : List Value) (obj virt : Bool) : Option ev_O := match lk with
  | .ref m0 =>
    let m := m0 % 100000
    let q := ev_mt m
    let n := if obj then q.2.1 + 1 else q.2.1
    let as := (st.take n).reverse
    if as.length = n ∧ ev_cat (st.drop n) ≤ 8 ∧ (ev_ent as).length ≤ q.1 ∧ as.all ev_nd = true then
      (if virt then (match as with
        | .ref x :: _ => if ev_recv σ x q.2.2.2 then some (.inr (.inr (m, as, st.drop n))) else none
        | _ => none)
       else if obj then (match as with
        | .ref x :: _ => if 1000 ≤ x then some (.inr (.inr (m, as, st.drop n))) else none
        | _ => none)
       else some (.inr (.inr (m, as, st.drop n))))
    else none
  | _ => none
def ev_tag (t : ArrayType) : Nat := match t with
  | .int => 0
  | .char => 1
  | .boolean => 2
  | _ => 9
/-- System.arraycopy over int arrays that were made here, when all cells are made -/
def ev_copy (σ : ev_M) (st : List Value) (f : ev_M → List Value → Option ev_O) : Option ev_O := match st with
  | .int n :: .int dp :: .ref b :: .int sp :: .ref a :: r =>
    if a < 1000 ∨ b < 1000 ∨ 8 < ev_cat r then none else match ev_len σ a, ev_len σ b with
    | some (0, na), some (0, nb) => if sp < 0 ∨ dp < 0 ∨ n < 0 ∨ na < sp.toNatClampNeg + n.toNatClampNeg ∨ nb < dp.toNatClampNeg + n.toNatClampNeg then none
      else f (σ.1, σ.2.1, σ.2.2.1, fun x j => if x = b then va_cpy (σ.2.2.2 a) (σ.2.2.2 b) sp.toNatClampNeg dp.toNatClampNeg n.toNatClampNeg j else σ.2.2.2 x j) r
    | _, _ => none
  | _ => none
def ev_step (m k : Nat) (e : Instr × Nat × Value) (ls : List (Option Value)) (st : List Value) (σ : ev_M) : Option ev_O :=
  match e.1 with
  | .iconst n => ev_next (k + e.2.1) ls (.int (Int32.ofInt n) :: st) σ
  | .bipush n => ev_next (k + e.2.1) ls (.int (Int8.ofInt n).toInt32 :: st) σ
  | .sipush n => ev_next (k + e.2.1) ls (.int (Int16.ofInt n).toInt32 :: st) σ
  | .lconst n => ev_next (k + e.2.1) ls (.long (Int64.ofNat (n : Nat)) :: st) σ
  | .aconst_null => ev_next (k + e.2.1) ls (.null :: st) σ
  | .ldc _ => ev_next (k + e.2.1) ls (e.2.2 :: st) σ
  | .ldc_w _ => ev_next (k + e.2.1) ls (e.2.2 :: st) σ
  | .ldc2_w _ => ev_next (k + e.2.1) ls (e.2.2 :: st) σ
  | .getstatic _ => ev_next (k + e.2.1) ls (e.2.2 :: st) σ
  | .iload_n n => ev_ldi ls n fun v => ev_next (k + e.2.1) ls (v :: st) σ
  | .iload n => ev_ldi ls n fun v => ev_next (k + e.2.1) ls (v :: st) σ
  | .aload_n n => ev_lda ls n fun v => ev_next (k + e.2.1) ls (v :: st) σ
  | .aload n => ev_lda ls n fun v => ev_next (k + e.2.1) ls (v :: st) σ
  | .lload_n n => ev_ldl ls n fun v => ev_next (k + e.2.1) ls (v :: st) σ
  | .lload n => ev_ldl ls n fun v => ev_next (k + e.2.1) ls (v :: st) σ
  | .istore_n n => ev_i st fun x r => (ev_set ls n (.int x)).bind fun ls' => ev_next (k + e.2.1) ls' r σ
  | .istore n => ev_i st fun x r => (ev_set ls n (.int x)).bind fun ls' => ev_next (k + e.2.1) ls' r σ
  | .astore_n n => ev_q st fun x r => (ev_set ls n (va_rf x)).bind fun ls' => ev_next (k + e.2.1) ls' r σ
  | .astore n => ev_q st fun x r => (ev_set ls n (va_rf x)).bind fun ls' => ev_next (k + e.2.1) ls' r σ
  | .lstore_n n => ev_l st fun x r => (ev_setL ls n x).bind fun ls' => ev_next (k + e.2.1) ls' r σ
  | .lstore n => ev_l st fun x r => (ev_setL ls n x).bind fun ls' => ev_next (k + e.2.1) ls' r σ
  | .iinc n c => (match ls[n]? with
    | some (some (.int x)) => (ev_set ls n (.int (x + Int32.ofInt c))).bind fun ls' => ev_next (k + e.2.1) ls' st σ
    | _ => none)
  | .iadd => ev_ii st fun x y r => ev_next (k + e.2.1) ls (.int (x + y) :: r) σ
  | .isub => ev_ii st fun x y r => ev_next (k + e.2.1) ls (.int (x - y) :: r) σ
  | .imul => ev_ii st fun x y r => ev_next (k + e.2.1) ls (.int (x * y) :: r) σ
  | .iand => ev_ii st fun x y r => ev_next (k + e.2.1) ls (.int (x &&& y) :: r) σ
  | .ior => ev_ii st fun x y r => ev_next (k + e.2.1) ls (.int (x ||| y) :: r) σ
  | .ixor => ev_ii st fun x y r => ev_next (k + e.2.1) ls (.int (x ^^^ y) :: r) σ
  | .ishl => ev_ii st fun x y r => ev_next (k + e.2.1) ls (.int (x <<< (y &&& 31)) :: r) σ
  | .ishr => ev_ii st fun x y r => ev_next (k + e.2.1) ls (.int (x >>> (y &&& 31)) :: r) σ
  | .iushr => ev_ii st fun x y r => ev_next (k + e.2.1) ls (.int (x.toUInt32 >>> (y.toUInt32 &&& Int32.toUInt32 31)).toInt32 :: r) σ
  | .i2c => ev_i st fun x r => ev_next (k + e.2.1) ls (.int (x.toUInt32 % 65536).toInt32 :: r) σ
  | .l2i => ev_l st fun x r => ev_next (k + e.2.1) ls (.int x.toInt32 :: r) σ
  | .land => ev_ll st fun x y r => ev_next (k + e.2.1) ls (.long (x &&& y) :: r) σ
  | .lcmp => ev_ll st fun x y r => ev_next (k + e.2.1) ls (.int (lg_cmp x y) :: r) σ
  | .lshr => ev_li st fun x y r => ev_next (k + e.2.1) ls (.long (x >>> (y.toInt64 &&& 63)) :: r) σ
  | .dup => ev_1 st fun v r => ev_next (k + e.2.1) ls (v :: v :: r) σ
  | .pop => ev_1 st fun _ r => ev_next (k + e.2.1) ls r σ
  | .ifCond c _ => ev_i st fun x r => ev_tg e.2.2 fun t => ev_next (if ev_holds c x 0 = true then t else k + e.2.1) ls r σ
  | .if_icmp c _ => ev_ii st fun x y r => ev_tg e.2.2 fun t => ev_next (if ev_holds c x y = true then t else k + e.2.1) ls r σ
  | .goto _ => ev_tg e.2.2 fun t => ev_next t ls st σ
  | .ifnull _ => ev_q st fun x r => ev_tg e.2.2 fun t => (match x with
    | none => ev_next t ls r σ
    | some y => if 400 ≤ y ∧ y < 454 then ev_next (k + e.2.1) ls r σ else none)
  | .ifnonnull _ => ev_q st fun x r => ev_tg e.2.2 fun t => (match x with
    | none => ev_next (k + e.2.1) ls r σ
    | some y => if 400 ≤ y ∧ y < 454 then ev_next t ls r σ else none)
  | .if_acmp c _ => ev_q st fun y r0 => ev_q r0 fun x r => ev_tg e.2.2 fun t =>
    if (x.all fun z => decide (400 ≤ z) && decide (z < 454)) && (y.all fun z => decide (400 ≤ z) && decide (z < 454)) then
      (match c with
      | .eq => ev_next (if x = y then t else k + e.2.1) ls r σ
      | .ne => ev_next (if x = y then k + e.2.1 else t) ls r σ)
    else none
  | .tableswitch d lo hi offs => ev_i st fun x r => (ev_sw k d lo hi offs x).bind fun t => ev_next t ls r σ
  | .arraylength => ev_r st fun x r => (match ev_len σ x with
    | some q => ev_next (k + e.2.1) ls (.int (Int32.ofNat q.2) :: r) σ
    | none => none)
  | .iaload => ev_ri st fun a i r => ev_ald σ 0 a i fun v => ev_next (k + e.2.1) ls (v :: r) σ
  | .caload => ev_ri st fun a i r => ev_ald σ 1 a i fun v => ev_next (k + e.2.1) ls (v :: r) σ
  | .baload => ev_ri st fun a i r => ev_ald σ (if a < 1000 then 3 else 2) a i fun v => ev_next (k + e.2.1) ls (v :: r) σ
  | .aaload => ev_ri st fun a i r => ev_ald σ 4 a i fun v => ev_next (k + e.2.1) ls (v :: r) σ
  | .iastore => ev_rii st fun a i x r => ev_ast σ 0 a i x fun σ' => ev_next (k + e.2.1) ls r σ'
  | .castore => ev_rii st fun a i x r => ev_ast σ 1 a i (vp_nar .char x) fun σ' => ev_next (k + e.2.1) ls r σ'
  | .bastore => ev_rii st fun a i x r => ev_ast σ 2 a i (vp_nar .boolean x) fun σ' => ev_next (k + e.2.1) ls r σ'
  | .getfield _ => ev_r st fun x r => (match e.2.2 with
    | .ref n => (match ev_getf σ x (n % 100000) with
      | some v => ev_next (k + e.2.1) ls (v :: r) σ
      | none => none)
    | _ => none)
  | .putfield _ => ev_rv st fun x v r => (match e.2.2 with
    | .ref n => (match ev_putf σ x n v with
      | some σ' => ev_next (k + e.2.1) ls r σ'
      | none => none)
    | _ => none)
  | .new _ => (match e.2.2, ev_sh σ.1 with
    | .ref c, some (.inl q) => if q.1 = c then ev_next (k + e.2.1) ls (.ref σ.1 :: st) (σ.1 + 1, σ.2) else none
    | _, _ => none)
  | .newarray t => ev_i st fun x r => (match ev_sh σ.1 with
    | some (.inr q) => if q.1 = ev_tag t ∧ ¬ x < 0 ∧ x.toNatClampNeg = q.2 then ev_next (k + e.2.1) ls (.ref σ.1 :: r) (σ.1 + 1, σ.2) else none
    | _ => none)
  | .invokespecial _ => if e.2.2 = .null then (ev_r st fun x r => if 1000 ≤ x ∧ ev_cat r ≤ 8 then ev_next (k + e.2.1) ls r σ else none) else ev_call σ e.2.2 st true false
  | .invokestatic _ => if e.2.2 = .null then ev_copy σ st fun σ' r => ev_next (k + e.2.1) ls r σ' else ev_call σ e.2.2 st false false
  | .invokevirtual _ => ev_call σ e.2.2 st true true
  | .ireturn => (match st with
    | [.int x] => if ev_fit (ev_mt m).2.2.1 x = true then some (.inr (.inl (some (.int x), σ))) else none
    | _ => none)
  | .lreturn => (match st with
    | [.long x] => if (ev_mt m).2.2.1 = 5 then some (.inr (.inl (some (.long x), σ))) else none
    | _ => none)
  | .areturn => (match st with
    | [.ref x] => if (ev_mt m).2.2.1 = 4 then some (.inr (.inl (some (.ref x), σ))) else none
    | [.null] => if (ev_mt m).2.2.1 = 4 then some (.inr (.inl (some .null, σ))) else none
    | _ => none)
  | .return_ => (match st with
    | [] => if (ev_mt m).2.2.1 = 0 then some (.inr (.inl (none, σ))) else none
    | _ => none)
  | _ => none
def ev_entry (m : Nat) (as : List Value) : List (Option Value) := ev_ent as ++ List.replicate ((ev_mt m).1 - (ev_ent as).length) none
def ev_run : Nat → Nat → Nat → Nat → List (Option Value) → List Value → ev_M → Option (Option Value × ev_M)
  | 0, _, _, _, _, _, _ => none
  | n + 1, d, m, k, ls, st, σ => match ev_at m k with
    | none => none
    | some e => match ev_step m k e ls st σ with
      | none => none
      | some (.inl q) => ev_run n d m q.1 q.2.1 q.2.2.1 q.2.2.2
      | some (.inr (.inl q)) => some q
      | some (.inr (.inr q)) => match d with
        | 0 => none
        | d' + 1 => match ev_run n d' q.1 0 (ev_entry q.1 q.2.1) [] σ with
          | none => none
          | some w => ev_run n d m (k + e.2.1) ls (w.1.toList ++ q.2.2) w.2
end
section
/-! WHAT THE PURE MACHINE SAYS OF THE REAL ONE: values, locals, cells -/
def ev_av (V : Nat → Value) (v : Value) : Value := match v with
  | .ref x => V x
  | .int x => .int x
  | .long x => .long x
  | .null => .null
  | .float x => .float x
  | .double x => .double x
  | .retAddr x => .retAddr x
def ev_fty (t : Nat) : FieldType := match t with
  | 0 => .int
  | 1 => .char
  | 2 => .boolean
  | 3 => .byte
  | _ => .object "StemRules$Ending"
def ev_fn (n : Nat) : String × String × String :=
  if n = 1280 then ("java/lang/String", "value", "[B") else if n = 1281 then ("java/lang/String", "coder", "B")
  else if n = 1344 then ("StemRules$Ending", "stage", "I") else if n = 1345 then ("StemRules$Ending", "need", "I")
  else if n = 1346 then ("StemRules$Ending", "has", "Ljava/lang/String;") else ("StemRules$Ending", "becomes", "Ljava/lang/String;")
abbrev ev_B (B : Nat) : Nat → Prop := fun q => B ≤ q
/-- a word that holds on as the tables warm -/
def ev_gw (w : Jvm.Cond) : Bool := match w with
  | .fieldLinkNest _ _ _ _ _ _ => true
  | .methodLinkNest _ _ _ _ => true
  | w => goodWord w
def ev_TB (U : State) : Prop := ∀ w ∈ lw_tbl, ev_gw w = true → ∀ A : Array Value, w.before A U = true
theorem ev_gw_warm {s U : State} {w : Jvm.Cond} {A : Array Value} (hW : s.WarmedH U.vm) (hg : ev_gw w = true) (h : w.before A s = true) (A' : Array Value) : w.before A' U = true := by
  cases w with
  | fieldLinkNest a i b n d h0 => exact va_Nw.use rfl (va_Nw.warmF hW (va_Nw.of rfl h))
  | methodLinkNest a i x h0 => exact va_Nw.use rfl (va_Nw.warmM hW (va_Nw.of rfl h))
  | _ => exact word_at hW (good_of_word hg) h
theorem ev_TB.warm {s U : State} (hW : s.WarmedH U.vm) (h : ev_TB s) : ev_TB U := fun w hw hg A => ev_gw_warm (A := #[]) hW hg (h w hw hg #[]) A
def ev_tys (dA : Nat → ClassId) : List (ClassId × FieldType) := [(dA 0, .int), (dA 1, .char), (dA 2, .boolean)]
def ev_Old (V : Nat → Value) (B : Nat) (U : State) (H : Heap) : Prop :=
  (∀ q ∈ ev_sts, va_Z q.1 q.2.1 q.2.2.1 (ev_av V q.2.2.2) (ev_B B) U H) ∧
  (∀ (x n : Nat) (v : Value), ev_of x n = some v → ∃ a, V x = .ref a ∧ va_OF (ev_fn n).1 (ev_fn n).2.1 (ev_fn n).2.2 (ev_av V v) a (ev_B B) U H) ∧
  (∀ x, x < 110 → ∃ a, V x = .ref a ∧ va_O "java/lang/String" a (ev_B B) U H) ∧
  (∀ (x : Nat) (q : String × Nat × String), ev_strs[x]? = some q → ∃ a, V x = .ref a ∧ vk_R q.1 q.2.1 q.2.2 a U)
def ev_OA (V : Nat → Value) (B : Nat) (σ : ev_M) (U : State) (H : Heap) : Prop :=
  ∀ (x : Nat) (q : Nat × Nat × (Nat → Value)), ev_oa σ x = some q → ∃ a, V x = .ref a ∧ va_T (ev_fty q.1) a q.2.1 (fun j => ev_av V (q.2.2 j)) (ev_B B) U H
def ev_fv (V : Nat → Value) (σ : ev_M) (x k : Nat) (o : Option Nat) : Value := match o with
  | none => .int (σ.2.2.1 x k)
  | some b => if ev_Rf σ.2.1 x k = true then V b else .null
def ev_cell (V : Nat → Value) (B : Nat) (dC : Nat → ClassId) (dI : Nat → Nat → Nat) (dA : Nat → ClassId) (σ : ev_M) (H : Heap) (x : Nat) : Prop := match ev_sh x with
  | some (.inl q) => ∃ r : vw_C, vwCl[q.1]? = some r ∧ q.2.length = r.2.2 ∧ t_OB (B + (x - 1000)) (dC q.1) r.2.2 (dI q.1) H (fun k => ev_fv V σ x k (q.2.getD k none))
  | some (.inr q) => q.1 < 3 ∧ H[B + (x - 1000)]? = some (arrV (dA q.1) q.2 (fun j => .int (σ.2.2.2 x j)))
  | none => False
def ev_New (V : Nat → Value) (B : Nat) (dC : Nat → ClassId) (dI : Nat → Nat → Nat) (dA : Nat → ClassId) (σ : ev_M) (H : Heap) : Prop :=
  1000 ≤ σ.1 ∧ H.size = B + (σ.1 - 1000) ∧ (∀ x, 1000 ≤ x → x < σ.1 → ev_cell V B dC dI dA σ H x) ∧ ∀ x, σ.1 ≤ x → ∀ k, ev_Rf σ.2.1 x k = false ∧ σ.2.2.1 x k = 0 ∧ σ.2.2.2 x k = 0
def ev_V (V : Nat → Value) (B : Nat) : Prop :=
  (∀ x, V x = .null ∨ ∃ a, V x = .ref a) ∧ (∀ x, 1000 ≤ x → V x = .ref (B + (x - 1000))) ∧ (∀ x, 400 ≤ x → x < 454 → ∃ a, V x = .ref a) ∧
  ∀ x y, 400 ≤ x → x < 454 → 400 ≤ y → y < 454 → V x = V y → x = y
theorem ev_av_int (V : Nat → Value) (x : Int32) : ev_av V (.int x) = .int x := rfl
theorem ev_av_long (V : Nat → Value) (x : Int64) : ev_av V (.long x) = .long x := rfl
theorem ev_av_null (V : Nat → Value) : ev_av V .null = .null := rfl
theorem ev_av_ref (V : Nat → Value) (x : Nat) : ev_av V (.ref x) = V x := rfl
theorem ev_av_cat {V : Nat → Value} {B : Nat} (hV : ev_V V B) (v : Value) : (ev_av V v).category = v.category := by
  cases v with
  | ref x =>
    rcases hV.1 x with h | ⟨a, h⟩ <;> simp [ev_av, h, Value.category]
  | _ => rfl
theorem ev_cat_map {V : Nat → Value} {B : Nat} (hV : ev_V V B) (st : List Value) : ((st.map (ev_av V)).map fun v => v.category).sum = ev_cat st := by
  unfold ev_cat
  rw [List.map_map]
  congr 1
  apply List.map_congr_left
  intro v _
  exact ev_av_cat hV v
def ev_pairs (V : Nat → Value) (ls : List (Option Value)) : List (Nat × Value) := (List.range ls.length).filterMap fun j => (ls[j]?.join).map fun v => (j, ev_av V v)
theorem ev_pairs_mem {V : Nat → Value} {ls : List (Option Value)} {j : Nat} {w : Value} : (j, w) ∈ ev_pairs V ls ↔ ∃ v, ls[j]? = some (some v) ∧ w = ev_av V v := by
  unfold ev_pairs
  rw [List.mem_filterMap]
  constructor
  · rintro ⟨i, -, h⟩
    cases hi : ls[i]? with
    | none => rw [hi] at h; cases h
    | some o =>
      cases o with
      | none => rw [hi] at h; cases h
      | some v =>
        rw [hi] at h
        cases h
        exact ⟨v, hi, rfl⟩
  · rintro ⟨v, h1, rfl⟩
    refine ⟨j, List.mem_range.mpr (List.getElem?_eq_some_iff.mp h1).1, ?_⟩
    rw [h1]
    rfl
def ev_ls (V : Nat → Value) (n : Nat) (ls : List (Option Value)) (lsR : Array Slot) : Prop := ls.length = n ∧ lv_has lsR n (ev_pairs V ls)
theorem ev_ls.at {V : Nat → Value} {n : Nat} {ls : List (Option Value)} {lsR : Array Slot} (h : ev_ls V n ls lsR) {i : Nat} {v : Value} (hi : ls[i]? = some (some v)) : lsR[i]? = some (.val (ev_av V v)) :=
  h.2.2.2 (i, ev_av V v) (ev_pairs_mem.mpr ⟨v, hi, rfl⟩)
theorem ev_set_some {ls ls' : List (Option Value)} {i : Nat} {v : Value} (h : ev_set ls i v = some ls') : i < ls.length ∧ (i = 0 ∨ ev_two ls[i - 1]? = false) ∧ ls' = ls.set i (some v) := by
  unfold ev_set at h
  split at h
  · rename_i h1
    cases h
    exact ⟨h1.1, h1.2, rfl⟩
  · cases h
theorem ev_setL_some {ls ls' : List (Option Value)} {i : Nat} {v : Int64} (h : ev_setL ls i v = some ls') : i + 1 < ls.length ∧ (i = 0 ∨ ev_two ls[i - 1]? = false) ∧ ls' = (ls.set i (some (.long v))).set (i + 1) none := by
  unfold ev_setL at h
  split at h
  · rename_i h1
    cases h
    exact ⟨h1.1, h1.2, rfl⟩
  · cases h
theorem ev_two_of {ls : List (Option Value)} {j : Nat} {v : Value} (hj : ls[j]? = some (some v)) (hc : v.category = 2) : ev_two ls[j]? = true := by
  rw [hj]
  cases v <;> simp [Value.category] at hc <;> rfl
theorem ev_ls.set {V : Nat → Value} {B n : Nat} (hV : ev_V V B) {ls ls' : List (Option Value)} {lsR' : Array Slot} {i : Nat} {v w : Value} (hlen : ls.length = n) (hs : ev_set ls i v = some ls') (hw : w = ev_av V v)
    (h : lv_has lsR' n ((i, w) :: (ev_pairs V ls).filter (fun q => !(q.1 == i) && !(q.1 + 1 == i && q.2.category == 2)))) : ev_ls V n ls' lsR' := by
  obtain ⟨h1, h2, rfl⟩ := ev_set_some hs
  subst hw
  refine ⟨by simp [hlen], h.1, h.2.1, ?_⟩
  rintro ⟨j, w⟩ hq
  obtain ⟨v', hj, rfl⟩ := ev_pairs_mem.mp hq
  by_cases hji : j = i
  · subst hji
    rw [List.getElem?_set_self h1] at hj
    cases hj
    exact h.2.2 _ List.mem_cons_self
  · rw [List.getElem?_set_ne (Ne.symm hji)] at hj
    refine h.2.2 (j, ev_av V v') (List.mem_cons_of_mem _ (List.mem_filter.mpr ⟨ev_pairs_mem.mpr ⟨v', hj, rfl⟩, ?_⟩))
    by_cases hc : j + 1 = i ∧ v'.category = 2
    · exfalso
      have hj' : i - 1 = j := by omega
      rcases h2 with h2 | h2
      · omega
      · rw [hj', ev_two_of hj hc.2] at h2
        cases h2
    · have e1 : (ev_av V v').category = v'.category := ev_av_cat hV v'
      simp only [e1]
      simp [hji]
      omega
theorem ev_ls.setL {V : Nat → Value} {B n : Nat} (hV : ev_V V B) {ls ls' : List (Option Value)} {lsR' : Array Slot} {i : Nat} {v : Int64} (hlen : ls.length = n) (hs : ev_setL ls i v = some ls')
    (h : lv_has lsR' n ((i, .long v) :: (ev_pairs V ls).filter (fun q => !(q.1 == i) && (!(q.1 == i + 1) && !(q.1 + 1 == i && q.2.category == 2))))) : ev_ls V n ls' lsR' := by
  obtain ⟨h1, h2, rfl⟩ := ev_setL_some hs
  refine ⟨by simp [hlen], h.1, h.2.1, ?_⟩
  rintro ⟨j, w⟩ hq
  obtain ⟨v', hj, rfl⟩ := ev_pairs_mem.mp hq
  by_cases hji1 : j = i + 1
  · subst hji1
    rw [List.getElem?_set_self (by simpa using h1)] at hj
    cases hj
  · rw [List.getElem?_set_ne (Ne.symm hji1)] at hj
    by_cases hji : j = i
    · subst hji
      rw [List.getElem?_set_self (by omega)] at hj
      cases hj
      exact h.2.2 _ List.mem_cons_self
    · rw [List.getElem?_set_ne (Ne.symm hji)] at hj
      refine h.2.2 (j, ev_av V v') (List.mem_cons_of_mem _ (List.mem_filter.mpr ⟨ev_pairs_mem.mpr ⟨v', hj, rfl⟩, ?_⟩))
      by_cases hc : j + 1 = i ∧ v'.category = 2
      · exfalso
        have hj' : i - 1 = j := by omega
        rcases h2 with h2 | h2
        · omega
        · rw [hj', ev_two_of hj hc.2] at h2
          cases h2
      · have e1 : (ev_av V v').category = v'.category := ev_av_cat hV v'
        simp only [e1]
        simp [hji, hji1]
        omega
theorem ev_ent_args (V : Nat → Value) {B : Nat} (hV : ev_V V B) : ∀ (as : List Value) (i j : Nat) (v : Value), (∀ w ∈ as, ∀ x, w ≠ .double x) → (ev_ent as)[j]? = some (some v) → (i + j, ev_av V v) ∈ lv_args i (as.map (ev_av V))
  | [], i, j, v, _, h => by simp [ev_ent] at h
  | a :: as, i, j, v, hd, h => by
    have hd' : ∀ w ∈ as, ∀ x, w ≠ .double x := fun w hw => hd w (List.mem_cons_of_mem _ hw)
    have one : ∀ (b : Value), b.category = 1 → ev_ent (b :: as) = some b :: ev_ent as → (ev_ent (b :: as))[j]? = some (some v) → (i + j, ev_av V v) ∈ lv_args i ((b :: as).map (ev_av V)) := by
      intro b hb he h
      rw [he] at h
      simp only [List.map_cons, lv_args, ev_av_cat hV, hb]
      cases j with
      | zero =>
        simp only [List.getElem?_cons_zero, Option.some.injEq] at h
        subst h
        exact List.mem_cons_self
      | succ j =>
        rw [List.getElem?_cons_succ] at h
        have := ev_ent_args V hV as (i + 1) j v hd' h
        rw [show i + (j + 1) = i + 1 + j by omega]
        exact List.mem_cons_of_mem _ this
    cases a with
    | long x =>
      simp only [ev_ent] at h
      simp only [List.map_cons, lv_args]
      cases j with
      | zero =>
        simp only [List.getElem?_cons_zero, Option.some.injEq] at h
        subst h
        exact List.mem_cons_self
      | succ j =>
        rw [List.getElem?_cons_succ] at h
        cases j with
        | zero => simp at h
        | succ j =>
          rw [List.getElem?_cons_succ] at h
          have := ev_ent_args V hV as (i + 2) j v hd' h
          rw [show i + (j + 1 + 1) = i + 2 + j by omega]
          exact List.mem_cons_of_mem _ this
    | double x => exact absurd rfl (hd _ List.mem_cons_self x)
    | int x => exact one _ rfl rfl h
    | float x => exact one _ rfl rfl h
    | null => exact one _ rfl rfl h
    | ref x => exact one _ rfl rfl h
    | retAddr x => exact one _ rfl rfl h
theorem ev_sl_len (v : Value) (vs : List Value) : (lg_sl (v :: vs)).length = v.category + (lg_sl vs).length := by
  unfold lg_sl
  rw [List.flatMap_cons, List.length_append]
  rcases lv_cat v with h | h <;> simp [h]
theorem ev_ent_len (V : Nat → Value) {B : Nat} (hV : ev_V V B) : ∀ (as : List Value), (∀ w ∈ as, ∀ x, w ≠ .double x) → (ev_ent as).length = (lg_sl (as.map (ev_av V))).length
  | [], _ => rfl
  | a :: as, hd => by
    have ih := ev_ent_len V hV as (fun w hw => hd w (List.mem_cons_of_mem _ hw))
    rw [List.map_cons, ev_sl_len, ev_av_cat hV a, ← ih]
    cases a with
    | double x => exact absurd rfl (hd _ List.mem_cons_self x)
    | long x => simp [ev_ent, Value.category]; omega
    | int x => simp [ev_ent, Value.category]; omega
    | float x => simp [ev_ent, Value.category]; omega
    | null => simp [ev_ent, Value.category]; omega
    | ref x => simp [ev_ent, Value.category]; omega
    | retAddr x => simp [ev_ent, Value.category]; omega

theorem ev_Old.moved {V : Nat → Value} {B : Nat} {s U : State} {H H1 : Heap} (hW : s.WarmedH U.vm) (hq : ∀ q : Nat, q < H.size → ¬ ev_B B q → H1[q]? = H[q]?) (h : ev_Old V B s H) : ev_Old V B U H1 := by
  obtain ⟨h1, h2, h3, h4⟩ := h
  refine ⟨fun q hm => (va_Z.moved hW.alike (h1 q hm)).kept hq, fun x n v hv => ?_, fun x hx => ?_, fun x q hs => ?_⟩
  · obtain ⟨a, e1, e2⟩ := h2 x n v hv
    exact ⟨a, e1, (va_OF.moved hW.alike e2).kept hq⟩
  · obtain ⟨a, e1, e2⟩ := h3 x hx
    exact ⟨a, e1, (va_O.moved hW.alike e2).kept hq⟩
  · obtain ⟨a, e1, e2⟩ := h4 x q hs
    exact ⟨a, e1, vk_R.warm hW e2⟩
theorem ev_OA.moved {V : Nat → Value} {B : Nat} {σ : ev_M} {s U : State} {H H1 : Heap} (hW : s.WarmedH U.vm) (hq : ∀ q : Nat, q < H.size → ¬ ev_B B q → H1[q]? = H[q]?) (h : ev_OA V B σ s H) : ev_OA V B σ U H1 := by
  intro x q hx
  obtain ⟨a, e1, e2⟩ := h x q hx
  exact ⟨a, e1, (va_T.moved hW.alike e2).kept hq⟩
/-- the script stays -/
theorem ev_OA.same {V : Nat → Value} {B : Nat} {σ σ' : ev_M} {s : State} {H : Heap} (h1 : σ'.2.2.1 502 0 = σ.2.2.1 502 0) (h2 : ∀ j, σ'.2.2.2 502 j = σ.2.2.2 502 j) (h : ev_OA V B σ s H) : ev_OA V B σ' s H := by
  intro x q hx
  refine h x q ?_
  rw [← hx]
  unfold ev_oa
  rw [h1, show σ'.2.2.2 502 = σ.2.2.2 502 from funext h2]
end
section
/-! WHAT A PROGRAM CHECKS of the tables: each instruction is the code's own, and each link of it stands among the words -/
def ev_ilen (i : Instr) : Nat := match i with
  | .iconst _ => 1
  | .bipush _ => 2
  | .sipush _ => 3
  | .lconst _ => 1
  | .aconst_null => 1
  | .ldc _ => 2
  | .ldc_w _ => 3
  | .ldc2_w _ => 3
  | .getstatic _ => 3
  | .iload_n _ => 1
  | .iload _ => 2
  | .aload_n _ => 1
  | .aload _ => 2
  | .lload_n _ => 1
  | .lload _ => 2
  | .istore_n _ => 1
  | .istore _ => 2
  | .astore_n _ => 1
  | .astore _ => 2
  | .lstore_n _ => 1
  | .lstore _ => 2
  | .iinc _ _ => 3
  | .ifCond _ _ => 3
  | .if_icmp _ _ => 3
  | .goto _ => 3
  | .ifnull _ => 3
  | .ifnonnull _ => 3
  | .if_acmp _ _ => 3
  | .tableswitch _ _ _ _ => 0
  | .getfield _ => 3
  | .putfield _ => 3
  | .new _ => 3
  | .newarray _ => 2
  | .invokespecial _ => 3
  | .invokestatic _ => 3
  | .invokevirtual _ => 3
  | _ => 1
def ev_w (i : Nat) (w : Jvm.Cond) : Bool := decide (lw_tbl[i]? = some w) && ev_gw w
theorem ev_w_mem {i : Nat} {w : Jvm.Cond} (h : ev_w i w = true) : w ∈ lw_tbl ∧ ev_gw w = true := by
  simp only [ev_w, Bool.and_eq_true, decide_eq_true_eq] at h
  exact ⟨List.mem_of_getElem? h.1, h.2⟩
theorem ev_TB.use {s : State} (hT : ev_TB s) {i : Nat} {w : Jvm.Cond} (h : ev_w i w = true) (A : Array Value) : w.before A s = true := hT w (ev_w_mem h).1 (ev_w_mem h).2 A
def ev_ckJ (k : Nat) (o : Int) (lk : Value) : Bool := match lk with
  | .ref t => decide ((k : Int) + o = (t : Int))
  | _ => false
/-- a field that is read: of a class whose objects are made here, or of one that was there before -/
def ev_ckF (own : String) (i n : Nat) (pl : List Nat) : Bool :=
  if n < 1280 then (match vwCl[n / 64]? with
    | some r => decide (n % 64 < r.2.2) && ev_w (pl.getD 0 0) (.fieldLink own i (r.2.1 (n % 64)).1 (r.2.1 (n % 64)).2.1 (r.2.1 (n % 64)).2.2.1)
    | none => false)
  else if n < 100000 then ev_w (pl.getD 0 0) (.fieldLink own i (ev_fn n).1 (ev_fn n).2.1 (ev_fn n).2.2)
  else ev_w (pl.getD 0 0) (.fieldLinkNest own i (ev_fn (n % 100000)).1 (ev_fn (n % 100000)).2.1 (ev_fn (n % 100000)).2.2 "StemRules") && decide (1280 ≤ n % 100000)
def ev_ckP (y : MethodName) (i n : Nat) (pl : List Nat) : Bool :=
  decide (n < 1280) && (match vwCl[n / 64]? with
    | some r => decide (n % 64 < r.2.2) && ev_w (pl.getD 0 0) (.fieldLink y.cls i (r.2.1 (n % 64)).1 (r.2.1 (n % 64)).2.1 (r.2.1 (n % 64)).2.2.1)
      && (decide ((r.2.1 (n % 64)).2.2.2 = false) || (decide (y.name = "<init>") && decide ((r.2.1 (n % 64)).1 = y.cls)))
    | none => false)
def ev_ckC (own : String) (i m0 kind : Nat) (pl : List Nat) : Bool := match ev_nm[m0 % 100000]? with
  | some q => (if m0 < 100000 then ev_w (pl.getD 0 0) (.methodLink own i q.1) else decide (kind ≠ 2) && ev_w (pl.getD 0 0) (.methodLinkNest own i q.1 "StemRules"))
    && (match kind with
      | 0 => ev_w (pl.getD 1 0) (.static q.1)
      | 1 => ev_w (pl.getD 1 0) (.instanceMethod q.1) && decide (q.1.name = "<init>") && decide (q.2.2 = none)
      | _ => ev_w (pl.getD 1 0) (.instanceMethod q.1) && ev_w (pl.getD 2 0) (.selects q.1.cls q.1 q.1)
        && (if (ev_mt (m0 % 100000)).2.2.2 = 99 then decide (q.1.cls = "java/lang/String") else decide (((vwCl[(ev_mt (m0 % 100000)).2.2.2]?).map fun r => r.1) = some q.1.cls)))
    && decide (m0 % 100000 + 1 < ev_nm.length)
  | none => false
def ev_ck (y : MethodName) (bytes : ByteArray) (k : Nat) (e : Instr × Nat × Value) (pl : List Nat) : Bool :=
  decide (decode bytes k = .ok (e.1, e.2.1)) && (decide (ev_ilen e.1 = 0) || decide (e.2.1 = ev_ilen e.1)) &&
  (match e.1 with
  | .ifCond _ o => ev_ckJ k o e.2.2
  | .if_icmp _ o => ev_ckJ k o e.2.2
  | .if_acmp _ o => ev_ckJ k o e.2.2
  | .goto o => ev_ckJ k o e.2.2
  | .ifnull o => ev_ckJ k o e.2.2
  | .ifnonnull o => ev_ckJ k o e.2.2
  | .ldc i => (match e.2.2 with
    | .int v => ev_w (pl.getD 0 0) (.constant y.cls i v)
    | .ref x => decide ((ev_strs[x]?).map (fun q => (q.1, q.2.1)) = some (y.cls, i))
    | _ => false)
  | .ldc_w i => (match e.2.2 with
    | .int v => ev_w (pl.getD 0 0) (.constant y.cls i v)
    | _ => false)
  | .ldc2_w i => (match e.2.2 with
    | .long v => ev_w (pl.getD 0 0) (.constantLong y.cls i v)
    | _ => false)
  | .getstatic i => ev_sts.any fun q => decide (q.2.2.2 = e.2.2) && ev_w (pl.getD 0 0) (.fieldLink y.cls i q.1 q.2.1 q.2.2.1)
  | .getfield i => (match e.2.2 with
    | .ref n => ev_ckF y.cls i n pl
    | _ => false)
  | .putfield i => (match e.2.2 with
    | .ref n => ev_ckP y i n pl
    | _ => false)
  | .new i => (match e.2.2 with
    | .ref n => (match vwCl[n]? with
      | some r => ev_w (pl.getD 0 0) (.classLink y.cls i r.1) && ev_w (pl.getD 1 0) (.instantiable r.1 r.2.2) && ev_w (pl.getD 2 0) (.initialized r.1)
      | none => false)
    | _ => false)
  | .newarray t => ev_w (pl.getD 0 0) (.arrayClass (newarray.typeOf t)) && decide (ev_tag t < 3)
  | .invokespecial i => (match e.2.2 with
    | .null => ev_w (pl.getD 0 0) (.methodLink y.cls i objectInit) && ev_w (pl.getD 1 0) (.instanceMethod objectInit) && ev_w (pl.getD 2 0) (.code objectInit ⟨#[0xb1]⟩ 1 none)
    | .ref n => ev_ckC y.cls i n 1 pl
    | _ => false)
  | .invokestatic i => (match e.2.2 with
    | .null => ev_w (pl.getD 0 0) (.methodLink y.cls i arraycopyName) && ev_w (pl.getD 1 0) (.native arraycopyName) && ev_w (pl.getD 2 0) (.static arraycopyName) && ev_w (pl.getD 3 0) (.initialized "java/lang/System")
    | .ref n => ev_ckC y.cls i n 0 pl
    | _ => false)
  | .invokevirtual i => (match e.2.2 with
    | .ref n => ev_ckC y.cls i n 2 pl
    | _ => false)
  | _ => true)
def ev_rtok (r : Nat) (t : Option FieldType) : Bool := match r, t with
  | 0, none => true
  | 1, some .int => true
  | 2, some .boolean => true
  | 3, some .char => true
  | 4, some (.object _) => true
  | 5, some .long => true
  | 6, some .byte => true
  | _, _ => false
/-- of a method that is called: its code and its class stand among the words, its numbers are its own -/
def ev_ckM (q : MethodName × ByteArray × Option FieldType) (t : Nat × Nat × Nat × Nat) (pl : List Nat) : Bool :=
  ev_w (pl.getD 0 0) (.code q.1 q.2.1 t.1 q.2.2) && ev_w (pl.getD 1 0) (.initialized q.1.cls) && decide (t.1 ≤ 20) && plainName q.1.cls && ev_rtok t.2.2.1 q.2.2
    && decide (q.1.cls ≠ "java/lang/invoke/MethodHandle") && decide (q.1.cls ≠ "java/lang/invoke/VarHandle") && decide ((parseMethodDescriptor q.1.desc).map (fun d => d.parameters.length) = some t.2.1)
def ev_ckA (y : MethodName) (bytes : ByteArray) : Nat → List (Option (Instr × Nat × Value)) → List (List Nat) → Bool
  | _, [], _ => true
  | k, none :: r, pls => ev_ckA y bytes (k + 1) r pls
  | k, some e :: r, pl :: pls => ev_ck y bytes k e pl && ev_ckA y bytes (k + 1) r pls
  | _, some _ :: _, [] => false
theorem ev_ckA_at {y : MethodName} {bytes : ByteArray} : ∀ (cs : List (Option (Instr × Nat × Value))) (k : Nat) (pls : List (List Nat)), ev_ckA y bytes k cs pls = true → ∀ (j : Nat) (e : Instr × Nat × Value), cs[j]? = some (some e) → ∃ pl, ev_ck y bytes (k + j) e pl = true
  | [], k, pls, _, j, e, h => by simp at h
  | none :: r, k, pls, hc, j, e, h => by
    cases j with
    | zero => simp at h
    | succ j =>
      rw [List.getElem?_cons_succ] at h
      obtain ⟨pl, hp⟩ := ev_ckA_at r (k + 1) pls hc j e h
      exact ⟨pl, by rw [show k + (j + 1) = k + 1 + j by omega]; exact hp⟩
  | some e0 :: r, k, [], hc, j, e, h => by cases hc
  | some e0 :: r, k, pl :: pls, hc, j, e, h => by
    simp only [ev_ckA, Bool.and_eq_true] at hc
    cases j with
    | zero =>
      simp only [List.getElem?_cons_zero, Option.some.injEq] at h
      subst h
      exact ⟨pl, hc.1⟩
    | succ j =>
      rw [List.getElem?_cons_succ] at h
      obtain ⟨pl, hp⟩ := ev_ckA_at r (k + 1) pls hc.2 j e h
      exact ⟨pl, by rw [show k + (j + 1) = k + 1 + j by omega]; exact hp⟩
/-- every instruction of a method's code is checked -/
def ev_okm (y : MethodName) (bytes : ByteArray) (cs : List (Option (Instr × Nat × Value))) : Prop := ∀ (j : Nat) (e : Instr × Nat × Value), cs[j]? = some (some e) → ∃ pl, ev_ck y bytes j e pl = true
theorem ev_okm_one {y : MethodName} {bytes : ByteArray} {cs : List (Option (Instr × Nat × Value))} {pls : List (List Nat)} (h : ev_ckA y bytes 0 cs pls = true) : ev_okm y bytes cs := by
  intro j e hj
  obtain ⟨pl, hp⟩ := ev_ckA_at cs 0 pls h j e hj
  rw [Nat.zero_add] at hp
  exact ⟨pl, hp⟩
theorem ev_okm_cut {y : MethodName} {bytes : ByteArray} {cs : List (Option (Instr × Nat × Value))} (a n : Nat) {pls : List (List Nat)} (h : ev_ckA y bytes a ((cs.drop a).take n) pls = true) (j : Nat) (e : Instr × Nat × Value) (h1 : a ≤ j) (h2 : j < a + n) (hj : cs[j]? = some (some e)) : ∃ pl, ev_ck y bytes j e pl = true := by
  obtain ⟨pl, hp⟩ := ev_ckA_at ((cs.drop a).take n) a pls h (j - a) e (by
    rw [List.getElem?_take, if_pos (by omega), List.getElem?_drop, show a + (j - a) = j by omega]
    exact hj)
  rw [show a + (j - a) = j by omega] at hp
  exact ⟨pl, hp⟩
end
section
set_option maxRecDepth 100000 in
theorem ev_k0 : ev_okm yX0_init cX0_init ev_c0 := ev_okm_one (pls := [[], [151, 68, 69], [], [], [107], [152], [], [], [106], [153], [], [], [106], [154], [], [], [106], [156], []]) (by decide +kernel)
theorem ev_j0 : ev_ckM (yX0_init, cX0_init, (Option.none : Option Jvm.ClassFile.FieldType)) (1, 0, 0, 0) [150, 47] = true := by decide +kernel
set_option maxRecDepth 100000 in
theorem ev_k1 : ev_okm yX0_count cX0_count ev_c1 := ev_okm_one (pls := [[], [155], []]) (by decide +kernel)
theorem ev_j1 : ev_ckM (yX0_count, cX0_count, (Option.some Jvm.ClassFile.FieldType.int)) (1, 0, 1, 0) [845, 47] = true := by decide +kernel
set_option maxRecDepth 100000 in
theorem ev_k2 : ev_okm yX0_addAffix cX0_addAffix ev_c2 := ev_okm_one (pls := [[], [155], [], [], [], [], [], [152], [], [155], [], [], [], [153], [], [155], [], [], [], [154], [], [155], [], [], [], [], [155], [], [], [155], [], [155], [], [], []]) (by decide +kernel)
theorem ev_j2 : ev_ckM (yX0_addAffix, cX0_addAffix, (Option.some Jvm.ClassFile.FieldType.int)) (4, 3, 1, 0) [606, 47] = true := by decide +kernel
set_option maxRecDepth 100000 in
theorem ev_k3 : ev_okm yX0_collect cX0_collect ev_c3 := ev_okm_one (pls := [[], [], [157], [], [], [], [615, 617, 2, 47, 618], [], [], [], [], [155], [], [], [], [], [], [], [620, 622, 3, 47, 623], [], [], [], [], [630, 327, 328, 44, 329], [], [615, 617, 2, 47, 618], [], [], []]) (by decide +kernel)
theorem ev_j3 : ev_ckM (yX0_collect, cX0_collect, (Option.none : Option Jvm.ClassFile.FieldType)) (5, 3, 0, 0) [614, 47] = true := by decide +kernel
set_option maxRecDepth 100000 in
theorem ev_k4 : ev_okm yX0_found cX0_found ev_c4 := ev_okm_one (pls := [[], [], [], [], [157], [], [], [156], [], [], [], [], []]) (by decide +kernel)
theorem ev_j4 : ev_ckM (yX0_found, cX0_found, (Option.some Jvm.ClassFile.FieldType.int)) (2, 1, 1, 0) [634, 47] = true := by decide +kernel
set_option maxRecDepth 100000 in
theorem ev_k5 : ev_okm yX0_note cX0_note ev_c5 := ev_okm_one (pls := [[], [], [], [619, 367, 368, 44, 369], [], [], [], [], [], [], [157], [], [], [156], [], [], [], [], [], [], [], [], [157], [], [156], [], [], [], [156], [], [157], [], [], [], [], [157], [], [], [157], []]) (by decide +kernel)
theorem ev_j5 : ev_ckM (yX0_note, cX0_note, (Option.none : Option Jvm.ClassFile.FieldType)) (4, 2, 0, 0) [618, 47] = true := by decide +kernel
set_option maxRecDepth 100000 in
theorem ev_k6 : ev_okm yX0_change cX0_change ev_c6 := ev_okm_one (pls := [[], [], [], [], [155], [], [], [], [], [], [], [624, 346, 347, 44, 348], [], [625, 299, 300, 45, 301], [], [], [153], [], [], [626, 535, 536, 44, 537], [], [], [], [], [], [], [], [], [154], [], [], [626, 535, 536, 44, 537], [], [], [], [], [], [], [], [153], [], [], [], [], [152], [], [], [], [], [], [], [627, 332, 333, 44, 334], [], [], [], [], [152], [], [], [], [], [], [628, 315, 316, 45, 317], [], [], [154], [], [], [], [], [629, 351, 352, 44, 353], [], [], [], [154], [], [], [], [624, 346, 347, 44, 348], [], [], [], [], [153], [], [], [626, 535, 536, 44, 537], [], [629, 351, 352, 44, 353], [], []]) (by decide +kernel)
theorem ev_j6 : ev_ckM (yX0_change, cX0_change, (Option.some Jvm.ClassFile.FieldType.boolean)) (6, 4, 2, 0) [623, 47] = true := by decide +kernel
set_option maxRecDepth 100000 in
theorem ev_k7 : ev_okm yX1_init cX1_init ev_c7 := ev_okm_one (pls := [[], [195, 68, 69], [], [196, 109, 45], [], [197, 111, 45, 112], [198], []]) (by decide +kernel)
theorem ev_j7 : ev_ckM (yX1_init, cX1_init, (Option.none : Option Jvm.ClassFile.FieldType)) (1, 0, 0, 1) [194, 49] = true := by decide +kernel
set_option maxRecDepth 100000 in
theorem ev_k8 : ev_okm yX1_piece cX1_piece ev_c8 := ev_okm_one (pls := [[], [198], []]) (by decide +kernel)
theorem ev_j8 : ev_ckM (yX1_piece, cX1_piece, (Option.some (Jvm.ClassFile.FieldType.object "StemRules$Letters"))) (1, 0, 4, 1) [801, 49] = true := by decide +kernel
set_option maxRecDepth 100000 in
theorem ev_k9 : ev_okm yX1_place cX1_place ev_c9 := ev_okm_one (pls := [[], [199], []]) (by decide +kernel)
theorem ev_j9 : ev_ckM (yX1_place, cX1_place, (Option.some Jvm.ClassFile.FieldType.int)) (1, 0, 1, 1) [805, 49] = true := by decide +kernel
set_option maxRecDepth 100000 in
theorem ev_k10 : ev_okm yX1_bytes cX1_bytes ev_c10 := ev_okm_one (pls := [[], [200], []]) (by decide +kernel)
theorem ev_j10 : ev_ckM (yX1_bytes, cX1_bytes, (Option.some Jvm.ClassFile.FieldType.int)) (1, 0, 1, 1) [809, 49] = true := by decide +kernel
set_option maxRecDepth 100000 in
theorem ev_k11 : ev_okm yX1_begin cX1_begin ev_c11 := ev_okm_one (pls := [[], [], [201], [], [], [202], [], [], [203], []]) (by decide +kernel)
theorem ev_j11 : ev_ckM (yX1_begin, cX1_begin, (Option.none : Option Jvm.ClassFile.FieldType)) (1, 0, 0, 1) [756, 49] = true := by decide +kernel
set_option maxRecDepth 100000 in
theorem ev_k12 : ev_okm yX1_findPiece cX1_findPiece ev_c12 := ev_okm_one (pls := [[], [201], [], [202], [], [], [], [769, 771, 6, 49, 772], [], [], [], [], [], [201], [199], [], [198], [], [787, 315, 316, 45, 317], [], [201], [], [202], [], [], [198], [788, 299, 300, 45, 301], [], [], [], [], [201], [774, 775, 776, 43, 777], [], [], [], [201], [774, 775, 776, 43, 777], [], [], [198], [], [], [201], [774, 775, 776, 43, 777], [789, 319, 320, 45, 321], [], [], [201], [], [], [201], [], [], [], [201], [], [202], [], [], [201], [], [], [203], [], [199], [], [200], [], []]) (by decide +kernel)
theorem ev_j12 : ev_ckM (yX1_findPiece, cX1_findPiece, (Option.some Jvm.ClassFile.FieldType.boolean)) (2, 1, 2, 1) [768, 49] = true := by decide +kernel
set_option maxRecDepth 100000 in
theorem ev_k13 : ev_okm yX1_findLetters cX1_findLetters ev_c13 := ev_okm_one (pls := [[], [], [203], [201], [], [201], [], [773, 283, 284, 43, 285], [], [], [], [201], [774, 775, 776, 43, 777], [], [], [], [201], [], [], [201], [], [], [], [201], [203], [], [203], [], [773, 283, 284, 43, 285], [], [], [], [203], [774, 775, 776, 43, 777], [], [], [], [203], [782, 783, 784, 43, 785], [], [], [], [203], [], [], [203], [], [], [203], [], [], [], [201], [], [], [], [203], [], [], [782, 783, 784, 43, 785], [], [], [], [203], [], [], [774, 775, 776, 43, 777], [], [], [], [], [], [], [], [], [], [], [203], [], [], [], [], [203], [202], [], [201], [], [203], [], [], [], [], []]) (by decide +kernel)
theorem ev_j13 : ev_ckM (yX1_findLetters, cX1_findLetters, (Option.some Jvm.ClassFile.FieldType.boolean)) (3, 1, 2, 1) [772, 49] = true := by decide +kernel
set_option maxRecDepth 100000 in
theorem ev_k14 : ev_okm yX3_init cX3_init ev_c14 := ev_okm_one (pls := [[], [126, 68, 69], [], [], [106], [127], [], [], [107], [128], [], [], [106], [129], [], [], [106], [130], [], [], [107], [131], []]) (by decide +kernel)
theorem ev_j14 : ev_ckM (yX3_init, cX3_init, (Option.none : Option Jvm.ClassFile.FieldType)) (1, 0, 0, 2) [125, 46] = true := by decide +kernel
set_option maxRecDepth 100000 in
theorem ev_k15 : ev_okm yX3_count cX3_count ev_c15 := ev_okm_one (pls := [[], [132], []]) (by decide +kernel)
theorem ev_j15 : ev_ckM (yX3_count, cX3_count, (Option.some Jvm.ClassFile.FieldType.int)) (1, 0, 1, 2) [594, 46] = true := by decide +kernel
end
section
set_option maxRecDepth 100000 in
theorem ev_k16 : ev_okm yX3_dropRows cX3_dropRows ev_c16 := ev_okm_one (pls := [[], [], [132], []]) (by decide +kernel)
theorem ev_j16 : ev_ckM (yX3_dropRows, cX3_dropRows, (Option.none : Option Jvm.ClassFile.FieldType)) (1, 0, 0, 2) [598, 46] = true := by decide +kernel
set_option maxRecDepth 100000 in
theorem ev_k17 : ev_okm yX3_addRow cX3_addRow ev_c17 := ev_okm_one (pls := [[], [132], [], [], [], [], [], [127], [], [132], [], [], [], [128], [], [132], [], [], [], [129], [], [132], [], [], [], [130], [], [132], [], [], [], [131], [], [132], [], [], [], [], [132], [], [], [132], [], [132], [], [], []]) (by decide +kernel)
theorem ev_j17 : ev_ckM (yX3_addRow, cX3_addRow, (Option.some Jvm.ClassFile.FieldType.int)) (6, 5, 1, 2) [586, 46] = true := by decide +kernel
set_option maxRecDepth 100000 in
theorem ev_k18 : ev_okm yX3_run cX3_run ev_c18 := ev_okm_one (pls := [[], [], [], [], [], [], [], [], [], [], [], [], [], [526, 528, 1, 46, 529], [], [], [], [], [], [132], [], [], [], [], [538, 299, 300, 45, 301], [], [129], [], [], [], [545, 315, 316, 45, 317], [], [], [130], [], [], [], [], [546, 351, 352, 44, 353], [], [131], [], [], [], [], [], [], []]) (by decide +kernel)
theorem ev_j18 : ev_ckM (yX3_run, cX3_run, (Option.none : Option Jvm.ClassFile.FieldType)) (5, 2, 0, 2) [525, 46] = true := by decide +kernel
set_option maxRecDepth 100000 in
theorem ev_k19 : ev_okm yX3_findRow cX3_findRow ev_c19 := ev_okm_one (pls := [[], [], [], [], [132], [], [], [], [], [128], [], [], [], [], [], [127], [], [], [], [530, 531, 532, 44, 533], [], [], [], [538, 299, 300, 45, 301], [], [129], [], [], [], [], [], [130], [], [], [539, 535, 536, 44, 537], [540, 541, 46, 542], [], [], [], [], [], [], []]) (by decide +kernel)
theorem ev_j19 : ev_ckM (yX3_findRow, cX3_findRow, (Option.some Jvm.ClassFile.FieldType.int)) (5, 3, 1, 2) [529, 46] = true := by decide +kernel
set_option maxRecDepth 100000 in
theorem ev_k20 : ev_okm yX3_isGood cX3_isGood ev_c20 := ev_okm_one (pls := [[], [], [], [], [], [], [], [], [], [], [], [], [543, 303, 304, 45, 305], [544, 462, 42, 463], [], [], [], [], [], [], [], [], [], [], [], [], [], [543, 303, 304, 45, 305], [544, 462, 42, 463], [], [], [], [543, 303, 304, 45, 305], [], [], [], [], [], [], [], []]) (by decide +kernel)
theorem ev_j20 : ev_ckM (yX3_isGood, cX3_isGood, (Option.some Jvm.ClassFile.FieldType.boolean)) (4, 3, 2, 2) [542, 46] = true := by decide +kernel
set_option maxRecDepth 100000 in
theorem ev_k21 : ev_okm yX4_layFigures cX4_layFigures ev_c21 := ev_okm_one (pls := [[], [], [682, 315, 316, 45, 317], [], [], [], [683, 303, 304, 45, 305], [684, 319, 320, 45, 321], [], [], [683, 303, 304, 45, 305], [685, 686, 60, 687], [], [], [], [], [], [690, 299, 300, 45, 301], [], [], [], [683, 303, 304, 45, 305], [], [], [], [], [], [], [], [], [685, 686, 60, 687], [], [], [], [], [], [], [], [], [], [684, 319, 320, 45, 321], [], [], [], [], [], [], [682, 315, 316, 45, 317], [], [690, 299, 300, 45, 301], [], [], [], [], [], [], [684, 319, 320, 45, 321], [], [], []]) (by decide +kernel)
theorem ev_j21 : ev_ckM (yX4_layFigures, cX4_layFigures, (Option.none : Option Jvm.ClassFile.FieldType)) (6, 2, 0, 98) [681, 60] = true := by decide +kernel
set_option maxRecDepth 100000 in
theorem ev_k22 : ev_okm yX4_laySounds cX4_laySounds ev_c22 := ev_okm_one (pls := [[], [694, 695, 60, 696], [], [], [690, 299, 300, 45, 301], [], [], [], [713, 714, 60, 715], [], [], [], [682, 315, 316, 45, 317], [], [], [], [683, 303, 304, 45, 305], [684, 319, 320, 45, 321], [], [], [], [], [690, 299, 300, 45, 301], [], [], [], [726, 727, 60, 728], [], [], [683, 303, 304, 45, 305], [], [], [690, 299, 300, 45, 301], [], [], [683, 303, 304, 45, 305], [], [], [], [], [683, 303, 304, 45, 305], [684, 319, 320, 45, 321], [], [], [], [742, 743, 60, 744], [], [], [682, 315, 316, 45, 317], []]) (by decide +kernel)
theorem ev_j22 : ev_ckM (yX4_laySounds, cX4_laySounds, (Option.none : Option Jvm.ClassFile.FieldType)) (3, 2, 0, 98) [693, 60] = true := by decide +kernel
set_option maxRecDepth 100000 in
theorem ev_k23 : ev_okm yX4_figureOf cX4_figureOf ev_c23 := ev_okm_one (pls := [[], [], [], [], [], [], [688], [], [], [], [], [], [], []]) (by decide +kernel)
theorem ev_j23 : ev_ckM (yX4_figureOf, cX4_figureOf, (Option.some Jvm.ClassFile.FieldType.char)) (1, 1, 3, 98) [687, 60] = true := by decide +kernel
set_option maxRecDepth 100000 in
theorem ev_k24 : ev_okm yX4_changeBeginning cX4_changeBeginning ev_c24 := ev_okm_one (pls := [[], [], [], [], [699, 700, 701, 45, 702], [], [], [], [], [], [699, 700, 701, 45, 702], [], [], [], [], [], [699, 700, 701, 45, 702], [], [], [], [], [], [699, 700, 701, 45, 702], [], [], [], [], [], [699, 700, 701, 45, 702], [], [], [], [], [], [699, 700, 701, 45, 702], [], [], [], [], []]) (by decide +kernel)
theorem ev_j24 : ev_ckM (yX4_changeBeginning, cX4_changeBeginning, (Option.some Jvm.ClassFile.FieldType.boolean)) (1, 1, 2, 98) [696, 60] = true := by decide +kernel
set_option maxRecDepth 100000 in
theorem ev_k25 : ev_okm yX4_changeEnding cX4_changeEnding ev_c25 := ev_okm_one (pls := [[], [], [], [718, 438, 439, 45, 440], [], [], [], [], [718, 438, 439, 45, 440], [], [], [], [], [718, 438, 439, 45, 440], [], [], [], [], [718, 438, 439, 45, 440], [], [], [], [], [718, 438, 439, 45, 440], [], [], [], [], [718, 438, 439, 45, 440], [], [], [], [], [718, 438, 439, 45, 440], [], [], [], [], []]) (by decide +kernel)
theorem ev_j25 : ev_ckM (yX4_changeEnding, cX4_changeEnding, (Option.some Jvm.ClassFile.FieldType.boolean)) (1, 1, 2, 98) [715, 60] = true := by decide +kernel
set_option maxRecDepth 100000 in
theorem ev_k26 : ev_okm yX4_changeLetter cX4_changeLetter ev_c26 := ev_okm_one (pls := [[], [], [], [], [699, 700, 701, 45, 702], [], [], [], [], [683, 303, 304, 45, 305], [], [], [], [], [], [683, 303, 304, 45, 305], [], [], [731, 462, 42, 463], [], [], [], [], [732, 474, 475, 45, 476], [], [], [], [], [], [731, 462, 42, 463], [], [], [], [], [], [683, 303, 304, 45, 305], [731, 462, 42, 463], [], [], [], [], [732, 474, 475, 45, 476], [], [], [], [], [], [731, 462, 42, 463], [], [], [], [], [732, 474, 475, 45, 476], [], [], [], [733, 734, 60, 735], [], []]) (by decide +kernel)
theorem ev_j26 : ev_ckM (yX4_changeLetter, cX4_changeLetter, (Option.none : Option Jvm.ClassFile.FieldType)) (4, 2, 0, 98) [728, 60] = true := by decide +kernel
set_option maxRecDepth 100000 in
theorem ev_k27 : ev_okm yX4_changeConsonant cX4_changeConsonant ev_c27 := ev_okm_one (pls := [[], [], [], [], [699, 700, 701, 45, 702], [], [], [], [], [], [699, 700, 701, 45, 702], [], [], [], [], [], [699, 700, 701, 45, 702], [], [], [], [], [], [699, 700, 701, 45, 702], [], [], [], [], [], [699, 700, 701, 45, 702], [], [], [], [], [], [699, 700, 701, 45, 702], [], [], [], [], [], [699, 700, 701, 45, 702], [], [], [], [], []]) (by decide +kernel)
theorem ev_j27 : ev_ckM (yX4_changeConsonant, cX4_changeConsonant, (Option.some Jvm.ClassFile.FieldType.boolean)) (2, 2, 2, 98) [735, 60] = true := by decide +kernel
set_option maxRecDepth 100000 in
theorem ev_k28 : ev_okm yX4_trimEnd cX4_trimEnd ev_c28 := ev_okm_one (pls := [[], [690, 299, 300, 45, 301], [], [], [], [], [], [718, 438, 439, 45, 440], [], [], [690, 299, 300, 45, 301], [], [], [], [], [], [718, 438, 439, 45, 440], [], [], [690, 299, 300, 45, 301], [], [], [], [], [], [718, 438, 439, 45, 440], [], []]) (by decide +kernel)
theorem ev_j28 : ev_ckM (yX4_trimEnd, cX4_trimEnd, (Option.none : Option Jvm.ClassFile.FieldType)) (1, 1, 0, 98) [744, 60] = true := by decide +kernel
set_option maxRecDepth 100000 in
theorem ev_k29 : ev_okm yX5_init cX5_init ev_c29 := ev_okm_one (pls := [[], [113, 68, 69], [], [], [83], [114], []]) (by decide +kernel)
theorem ev_j29 : ev_ckM (yX5_init, cX5_init, (Option.none : Option Jvm.ClassFile.FieldType)) (1, 0, 0, 3) [112, 45] = true := by decide +kernel
set_option maxRecDepth 100000 in
theorem ev_k30 : ev_okm yX5_size cX5_size ev_c30 := ev_okm_one (pls := [[], [115], []]) (by decide +kernel)
theorem ev_j30 : ev_ckM (yX5_size, cX5_size, (Option.some Jvm.ClassFile.FieldType.int)) (1, 0, 1, 3) [301, 45] = true := by decide +kernel
set_option maxRecDepth 100000 in
theorem ev_k31 : ev_okm yX5_at cX5_at ev_c31 := ev_okm_one (pls := [[], [], [], [], [115], [], [], [114], [], [], [], [], []]) (by decide +kernel)
theorem ev_j31 : ev_ckM (yX5_at, cX5_at, (Option.some Jvm.ClassFile.FieldType.char)) (2, 1, 3, 3) [305, 45] = true := by decide +kernel
end
section
set_option maxRecDepth 100000 in
theorem ev_k32 : ev_okm yX5_put cX5_put ev_c32 := ev_okm_one (pls := [[], [], [], [], [115], [], [], [114], [], [], [], []]) (by decide +kernel)
theorem ev_j32 : ev_ckM (yX5_put, cX5_put, (Option.none : Option Jvm.ClassFile.FieldType)) (3, 2, 0, 3) [476, 45] = true := by decide +kernel
set_option maxRecDepth 100000 in
theorem ev_k33 : ev_okm yX5_add cX5_add ev_c33 := ev_okm_one (pls := [[], [115], [], [], [], [114], [], [115], [], [], [], [], [115], [], [], [115], []]) (by decide +kernel)
theorem ev_j33 : ev_ckM (yX5_add, cX5_add, (Option.none : Option Jvm.ClassFile.FieldType)) (2, 1, 0, 3) [321, 45] = true := by decide +kernel
set_option maxRecDepth 100000 in
theorem ev_k34 : ev_okm yX5_shorten cX5_shorten ev_c34 := ev_okm_one (pls := [[], [], [], [], [115], [], [], [], [115], []]) (by decide +kernel)
theorem ev_j34 : ev_ckM (yX5_shorten, cX5_shorten, (Option.none : Option Jvm.ClassFile.FieldType)) (2, 1, 0, 3) [317, 45] = true := by decide +kernel
set_option maxRecDepth 100000 in
theorem ev_k35 : ev_okm yX5_hasAt cX5_hasAt ev_c35 := ev_okm_one (pls := [[], [], [], [], [382, 383, 384, 52, 385], [], [], [115], [], [], [], [], [], [], [], [382, 383, 384, 52, 385], [], [], [114], [], [], [], [], [], [], [396, 397, 398, 52, 399], [], [], [], [], [], [], []]) (by decide +kernel)
theorem ev_j35 : ev_ckM (yX5_hasAt, cX5_hasAt, (Option.some Jvm.ClassFile.FieldType.boolean)) (4, 2, 2, 3) [395, 45] = true := by decide +kernel
set_option maxRecDepth 100000 in
theorem ev_k36 : ev_okm yX5_ends cX5_ends ev_c36 := ev_okm_one (pls := [[], [], [115], [], [382, 383, 384, 52, 385], [], [], [392, 393, 394, 45, 395], []]) (by decide +kernel)
theorem ev_j36 : ev_ckM (yX5_ends, cX5_ends, (Option.some Jvm.ClassFile.FieldType.boolean)) (2, 1, 2, 3) [381, 45] = true := by decide +kernel
set_option maxRecDepth 100000 in
theorem ev_k37 : ev_okm yX5_changeAt cX5_changeAt ev_c37 := ev_okm_one (pls := [[], [], [], [392, 393, 394, 45, 395], [], [], [], [], [], [], [], [382, 383, 384, 52, 385], [], [], [], [], [], [], [], [396, 397, 398, 52, 399], [703, 474, 475, 45, 476], [], [], [], []]) (by decide +kernel)
theorem ev_j37 : ev_ckM (yX5_changeAt, cX5_changeAt, (Option.some Jvm.ClassFile.FieldType.boolean)) (5, 3, 2, 3) [702, 45] = true := by decide +kernel
set_option maxRecDepth 100000 in
theorem ev_k38 : ev_okm yX5_changeEnd cX5_changeEnd ev_c38 := ev_okm_one (pls := [[], [], [441, 379, 380, 45, 381], [], [], [], [], [], [115], [], [382, 383, 384, 52, 385], [], [442, 315, 316, 45, 317], [], [], [], [], [382, 383, 384, 52, 385], [], [], [], [], [396, 397, 398, 52, 399], [443, 319, 320, 45, 321], [], [], [], []]) (by decide +kernel)
theorem ev_j38 : ev_ckM (yX5_changeEnd, cX5_changeEnd, (Option.some Jvm.ClassFile.FieldType.boolean)) (4, 2, 2, 3) [440, 45] = true := by decide +kernel
set_option maxRecDepth 100000 in
theorem ev_k39 : ev_okm yX6_init cX6_init ev_c39 := ev_okm_one (pls := [[], [176, 68, 69], [], [], [177], [], [], [106], [178], [], [], [106], [179], [], [], [106], [180], []]) (by decide +kernel)
theorem ev_j39 : ev_ckM (yX6_init, cX6_init, (Option.none : Option Jvm.ClassFile.FieldType)) (1, 0, 0, 4) [175, 48] = true := by decide +kernel
set_option maxRecDepth 100000 in
theorem ev_k40 : ev_okm yX6_setLeast cX6_setLeast ev_c40 := ev_okm_one (pls := [[], [177], [], [], [], [177], [], []]) (by decide +kernel)
theorem ev_j40 : ev_ckM (yX6_setLeast, cX6_setLeast, (Option.some Jvm.ClassFile.FieldType.int)) (3, 1, 1, 4) [642, 48] = true := by decide +kernel
set_option maxRecDepth 100000 in
theorem ev_k41 : ev_okm yX6_lay cX6_lay ev_c41 := ev_okm_one (pls := [[], [], [], [], [], [178], [], [], [], [], [179], [], [], [], [], [180], [], [], [], [], [], [], [], [651, 652, 653, 44, 654], [], [], [], [], [], [], [655, 657, 4, 48, 658], [], [], [], [], [], [], [], [659, 535, 536, 44, 537], [], [], [660, 299, 300, 45, 301], [663, 665, 5, 48, 666], [], [], [], [], []]) (by decide +kernel)
theorem ev_j41 : ev_ckM (yX6_lay, cX6_lay, (Option.none : Option Jvm.ClassFile.FieldType)) (5, 2, 0, 4) [650, 48] = true := by decide +kernel
set_option maxRecDepth 100000 in
theorem ev_k42 : ev_okm yX6_count cX6_count ev_c42 := ev_okm_one (pls := [[], [178], [], [], []]) (by decide +kernel)
theorem ev_j42 : ev_ckM (yX6_count, cX6_count, (Option.some Jvm.ClassFile.FieldType.int)) (1, 0, 1, 4) [670, 48] = true := by decide +kernel
set_option maxRecDepth 100000 in
theorem ev_k43 : ev_okm yX6_numberOf cX6_numberOf ev_c43 := ev_okm_one (pls := [[], [], [], [], [178], [], [], [], [], [], [], [], [], [], [], [], [], [], [], [], [], [180], [], [], [], [], [], [], [], [], [], [179], [], [], [], [], []]) (by decide +kernel)
theorem ev_j43 : ev_ckM (yX6_numberOf, cX6_numberOf, (Option.some Jvm.ClassFile.FieldType.int)) (4, 1, 1, 4) [674, 48] = true := by decide +kernel
set_option maxRecDepth 100000 in
theorem ev_k44 : ev_okm yX6_mayStand cX6_mayStand ev_c44 := ev_okm_one (pls := [[], [], [659, 535, 536, 44, 537], [], [], [], [177], [], [], [], [660, 299, 300, 45, 301], [], [], [], [], [661, 367, 368, 44, 369], [], [], [], [], [], [662, 332, 333, 44, 334], [], [], [], [], []]) (by decide +kernel)
theorem ev_j44 : ev_ckM (yX6_mayStand, cX6_mayStand, (Option.some Jvm.ClassFile.FieldType.boolean)) (6, 4, 2, 4) [658, 48] = true := by decide +kernel
set_option maxRecDepth 100000 in
theorem ev_k45 : ev_okm yX6_noteFirst cX6_noteFirst ev_c45 := ev_okm_one (pls := [[], [], [], [], [], [], [], [], [], [], [], [], [], [], [], [], [178], [], [], [], [], [], [178], [], [], [], [], [], [], [178], [], [], [], [], [], [178], [], [], [], [], [], [], [], [], [], [], [], [178], [], [], [], [], [], [180], [], [], [], [], [178], [], [], [], [], [179], [], [], [], [], [180], [], [], [], []]) (by decide +kernel)
theorem ev_j45 : ev_ckM (yX6_noteFirst, cX6_noteFirst, (Option.none : Option Jvm.ClassFile.FieldType)) (7, 4, 0, 4) [666, 48] = true := by decide +kernel
set_option maxRecDepth 100000 in
theorem ev_k46 : ev_okm yX7_run cX7_run ev_c46 := ev_okm_one (pls := [[], [456, 299, 300, 45, 301], [], [], [], [], [], [], [], [], [], [], [], [], [457, 458, 56, 459], [], [], [], [], [], [], [464, 465, 56, 466], [], [], [], [], [], [], [477, 478, 56, 479], [], [], [], [], [492, 493, 56, 494], [], [], [505], [], [], [507], [], [], [], [509, 510, 56, 511], [], [], []]) (by decide +kernel)
theorem ev_j46 : ev_ckM (yX7_run, cX7_run, (Option.none : Option Jvm.ClassFile.FieldType)) (5, 2, 0, 98) [455, 56] = true := by decide +kernel
set_option maxRecDepth 100000 in
theorem ev_k47 : ev_okm yX7_consonantsOf cX7_consonantsOf ev_c47 := ev_okm_one (pls := [[], [], [], [], [], [], [], [], [456, 299, 300, 45, 301], [], [], [], [], [], [], [460, 303, 304, 45, 305], [], [], [], [], [], [], [], [], [], [], [], [461, 462, 42, 463], [], [], [], [], [], [], [], [], [], [], [], [], [], [], [], [], []]) (by decide +kernel)
theorem ev_j47 : ev_ckM (yX7_consonantsOf, cX7_consonantsOf, (Option.some Jvm.ClassFile.FieldType.int)) (5, 1, 1, 98) [459, 56] = true := by decide +kernel
end
section
set_option maxRecDepth 100000 in
theorem ev_k48 : ev_okm yX7_measureOf cX7_measureOf ev_c48 := ev_okm_one (pls := [[], [], [], [], [], [], [], [], [470, 471, 56, 472], [], [485, 486, 57, 487], []]) (by decide +kernel)
theorem ev_j48 : ev_ckM (yX7_measureOf, cX7_measureOf, (Option.some Jvm.ClassFile.FieldType.int)) (2, 2, 1, 98) [484, 56] = true := by decide +kernel
set_option maxRecDepth 100000 in
theorem ev_k49 : ev_okm yX7_lowest cX7_lowest ev_c49 := ev_okm_one (pls := [[], [], [], [], [], [], [], [], [], [], [], [], []]) (by decide +kernel)
theorem ev_j49 : ev_ckM (yX7_lowest, cX7_lowest, (Option.some Jvm.ClassFile.FieldType.int)) (1, 1, 1, 98) [472, 56] = true := by decide +kernel
set_option maxRecDepth 100000 in
theorem ev_k50 : ev_okm yX7_hasV cX7_hasV ev_c50 := ev_okm_one (pls := [[], [], [], [], [470, 471, 56, 472], [], [], [], [], [], []]) (by decide +kernel)
theorem ev_j50 : ev_ckM (yX7_hasV, cX7_hasV, (Option.some Jvm.ClassFile.FieldType.boolean)) (2, 2, 2, 98) [469, 56] = true := by decide +kernel
set_option maxRecDepth 100000 in
theorem ev_k51 : ev_okm yX7_endsDouble cX7_endsDouble ev_c51 := ev_okm_one (pls := [[], [], [], [], [], [], [], [460, 303, 304, 45, 305], [], [], [], [], [460, 303, 304, 45, 305], [], [], [], [], [], [], [], [], [], [], [], [], [], []]) (by decide +kernel)
theorem ev_j51 : ev_ckM (yX7_endsDouble, cX7_endsDouble, (Option.some Jvm.ClassFile.FieldType.boolean)) (3, 3, 2, 98) [520, 56] = true := by decide +kernel
set_option maxRecDepth 100000 in
theorem ev_k52 : ev_okm yX7_endsShort cX7_endsShort ev_c52 := ev_okm_one (pls := [[], [], [], [], [], [], [], [], [], [], [], [], [], [], [], [], [], [], [460, 303, 304, 45, 305], [], [], [], [], [], [], [], [], [], [], [], [], [], []]) (by decide +kernel)
theorem ev_j52 : ev_ckM (yX7_endsShort, cX7_endsShort, (Option.some Jvm.ClassFile.FieldType.boolean)) (4, 3, 2, 98) [503, 56] = true := by decide +kernel
set_option maxRecDepth 100000 in
theorem ev_k53 : ev_okm yX7_changeEnding cX7_changeEnding ev_c53 := ev_okm_one (pls := [[], [], [], [], [], [495], [], [], [495], [], [], [], [], [1290], [], [], [], [], [1291], [481, 379, 380, 45, 381], [], [], [], [], [1291], [497, 383, 384, 52, 385], [], [1291], [497, 383, 384, 52, 385], [], [], [], [], [], [], [], [], [1292], [], [], [456, 299, 300, 45, 301], [], [1291], [497, 383, 384, 52, 385], [], [], [498, 499, 56, 500], [], [], [], [], [], [1291], [], [1293], [504, 438, 439, 45, 440], [], [], []]) (by decide +kernel)
theorem ev_j53 : ev_ckM (yX7_changeEnding, cX7_changeEnding, (Option.some (Jvm.ClassFile.FieldType.object "StemRules$Ending"))) (6, 3, 4, 98) [494, 56] = true := by decide +kernel
set_option maxRecDepth 100000 in
theorem ev_k54 : ev_okm yX7_holds cX7_holds ev_c54 := ev_okm_one (pls := [[], [], [482, 483, 56, 484], [], [], [], [], [], [], [], [], [], [], [], [], [], [], [], [], [], [], [467, 468, 56, 469], [], [], [], [], [], [], [], [], [460, 303, 304, 45, 305], [], [], [], [], [], [], [460, 303, 304, 45, 305], [], [], [], [], [], [], [], [], [], [], [], [], [], [], [], [501, 502, 56, 503], [], [], [], [], [], [], []]) (by decide +kernel)
theorem ev_j54 : ev_ckM (yX7_holds, cX7_holds, (Option.some Jvm.ClassFile.FieldType.boolean)) (5, 4, 2, 98) [500, 56] = true := by decide +kernel
set_option maxRecDepth 100000 in
theorem ev_k55 : ev_okm yX7_mend cX7_mend ev_c55 := ev_okm_one (pls := [[], [456, 299, 300, 45, 301], [], [], [], [], [504, 438, 439, 45, 440], [], [], [], [], [504, 438, 439, 45, 440], [], [], [], [], [504, 438, 439, 45, 440], [], [], [], [], [], [], [460, 303, 304, 45, 305], [], [], [], [], [518, 519, 56, 520], [], [], [], [], [], [], [], [], [], [], [], [], [], [], [491, 315, 316, 45, 317], [], [], [], [482, 483, 56, 484], [], [], [], [], [], [501, 502, 56, 503], [], [], [], [521, 319, 320, 45, 321], []]) (by decide +kernel)
theorem ev_j55 : ev_ckM (yX7_mend, cX7_mend, (Option.none : Option Jvm.ClassFile.FieldType)) (4, 2, 0, 98) [511, 56] = true := by decide +kernel
set_option maxRecDepth 100000 in
theorem ev_k56 : ev_okm yX7_changeY cX7_changeY ev_c56 := ev_okm_one (pls := [[], [456, 299, 300, 45, 301], [], [], [], [], [], [460, 303, 304, 45, 305], [], [], [], [], [467, 468, 56, 469], [], [], [], [], [473, 474, 475, 45, 476], []]) (by decide +kernel)
theorem ev_j56 : ev_ckM (yX7_changeY, cX7_changeY, (Option.none : Option Jvm.ClassFile.FieldType)) (3, 2, 0, 98) [466, 56] = true := by decide +kernel
set_option maxRecDepth 100000 in
theorem ev_k57 : ev_okm yX7_dropL cX7_dropL ev_c57 := ev_okm_one (pls := [[], [], [481, 379, 380, 45, 381], [], [], [], [456, 299, 300, 45, 301], [482, 483, 56, 484], [], [], [], [], [456, 299, 300, 45, 301], [], [], [491, 315, 316, 45, 317], []]) (by decide +kernel)
theorem ev_j57 : ev_ckM (yX7_dropL, cX7_dropL, (Option.none : Option Jvm.ClassFile.FieldType)) (2, 2, 0, 98) [479, 56] = true := by decide +kernel
set_option maxRecDepth 100000 in
theorem ev_k58 : ev_okm yX8_init cX8_init ev_c58 := ev_okm_one (pls := [[], [75, 68, 69], [], [], [83], [76], []]) (by decide +kernel)
theorem ev_j58 : ev_ckM (yX8_init, cX8_init, (Option.none : Option Jvm.ClassFile.FieldType)) (1, 0, 0, 5) [74, 43] = true := by decide +kernel
set_option maxRecDepth 100000 in
theorem ev_k59 : ev_okm yX8_size cX8_size ev_c59 := ev_okm_one (pls := [[], [77], []]) (by decide +kernel)
theorem ev_j59 : ev_ckM (yX8_size, cX8_size, (Option.some Jvm.ClassFile.FieldType.int)) (1, 0, 1, 5) [285, 43] = true := by decide +kernel
set_option maxRecDepth 100000 in
theorem ev_k60 : ev_okm yX8_hasRoomForFive cX8_hasRoomForFive ev_c60 := ev_okm_one (pls := [[], [77], [], [], [], [], [], [], [], []]) (by decide +kernel)
theorem ev_j60 : ev_ckM (yX8_hasRoomForFive, cX8_hasRoomForFive, (Option.some Jvm.ClassFile.FieldType.boolean)) (1, 0, 2, 5) [277, 43] = true := by decide +kernel
set_option maxRecDepth 100000 in
theorem ev_k61 : ev_okm yX8_addNumber cX8_addNumber ev_c61 := ev_okm_one (pls := [[], [], [], [], [], [77], [], [], [], [76], [], [77], [], [], [], [], [], [], [], [], [], [77], [], [], [77], [], [], []]) (by decide +kernel)
theorem ev_j61 : ev_ckM (yX8_addNumber, cX8_addNumber, (Option.none : Option Jvm.ClassFile.FieldType)) (3, 1, 0, 5) [281, 43] = true := by decide +kernel
set_option maxRecDepth 100000 in
theorem ev_k62 : ev_okm yX8_keep cX8_keep ev_c62 := ev_okm_one (pls := [[], [], [], [], [77], [], [], [], [77], []]) (by decide +kernel)
theorem ev_j62 : ev_ckM (yX8_keep, cX8_keep, (Option.none : Option Jvm.ClassFile.FieldType)) (2, 1, 0, 5) [293, 43] = true := by decide +kernel
set_option maxRecDepth 100000 in
theorem ev_k63 : ev_okm yX8_byteAt cX8_byteAt ev_c63 := ev_okm_one (pls := [[], [], [], [], [77], [], [], [76], [], [], [], [], []]) (by decide +kernel)
theorem ev_j63 : ev_ckM (yX8_byteAt, cX8_byteAt, (Option.some Jvm.ClassFile.FieldType.char)) (2, 1, 3, 5) [781, 43] = true := by decide +kernel
end
section
set_option maxRecDepth 100000 in
theorem ev_k64 : ev_okm yX8_letterAt cX8_letterAt ev_c64 := ev_okm_one (pls := [[], [], [778, 779, 780, 43, 781], [], [], [], [], [], [], [], [], [], [], [], [], [], [], [], [], [], [], [], [], [], [], [], []]) (by decide +kernel)
theorem ev_j64 : ev_ckM (yX8_letterAt, cX8_letterAt, (Option.some Jvm.ClassFile.FieldType.char)) (3, 1, 3, 5) [777, 43] = true := by decide +kernel
set_option maxRecDepth 100000 in
theorem ev_k65 : ev_okm yX8_joinsAt cX8_joinsAt ev_c65 := ev_okm_one (pls := [[], [], [778, 779, 780, 43, 781], [], [], [], [], [], [], [786, 775, 776, 43, 777], [], [], [], [], [], [786, 775, 776, 43, 777], [], [], [], [], []]) (by decide +kernel)
theorem ev_j65 : ev_ckM (yX8_joinsAt, cX8_joinsAt, (Option.some Jvm.ClassFile.FieldType.boolean)) (2, 1, 2, 5) [785, 43] = true := by decide +kernel
set_option maxRecDepth 100000 in
theorem ev_k66 : ev_okm yX8_copyAsWord cX8_copyAsWord ev_c66 := ev_okm_one (pls := [[], [], [314, 315, 316, 45, 317], [], [77], [], [], [], [77], [], [], [], [], [], [], [], [], [77], [], [], [76], [], [], [], [], [], [], [], [], [], [], [], [], [], [318, 319, 320, 45, 321], [], [], [], []]) (by decide +kernel)
theorem ev_j66 : ev_ckM (yX8_copyAsWord, cX8_copyAsWord, (Option.some Jvm.ClassFile.FieldType.boolean)) (4, 1, 2, 5) [313, 43] = true := by decide +kernel
set_option maxRecDepth 100000 in
theorem ev_k67 : ev_okm yX9_init cX9_init ev_c67 := ev_okm_one (pls := [[], [222, 68, 69], [], [], [106], [223], [], [], [106], [226], []]) (by decide +kernel)
theorem ev_j67 : ev_ckM (yX9_init, cX9_init, (Option.none : Option Jvm.ClassFile.FieldType)) (1, 0, 0, 6) [221, 50] = true := by decide +kernel
set_option maxRecDepth 100000 in
theorem ev_k68 : ev_okm yX9_count cX9_count ev_c68 := ev_okm_one (pls := [[], [224], []]) (by decide +kernel)
theorem ev_j68 : ev_ckM (yX9_count, cX9_count, (Option.some Jvm.ClassFile.FieldType.int)) (1, 0, 1, 6) [829, 50] = true := by decide +kernel
set_option maxRecDepth 100000 in
theorem ev_k69 : ev_okm yX9_positions cX9_positions ev_c69 := ev_okm_one (pls := [[], [225], []]) (by decide +kernel)
theorem ev_j69 : ev_ckM (yX9_positions, cX9_positions, (Option.some Jvm.ClassFile.FieldType.int)) (1, 0, 1, 6) [849, 50] = true := by decide +kernel
set_option maxRecDepth 100000 in
theorem ev_k70 : ev_okm yX9_get cX9_get ev_c70 := ev_okm_one (pls := [[], [], [], [], [224], [], [], [], [], [], [], [], [], [], [], [], [], [], [223], [], [], [], [], [], [], [], [], []]) (by decide +kernel)
theorem ev_j70 : ev_ckM (yX9_get, cX9_get, (Option.some Jvm.ClassFile.FieldType.int)) (4, 2, 1, 6) [837, 50] = true := by decide +kernel
set_option maxRecDepth 100000 in
theorem ev_k71 : ev_okm yX9_begin cX9_begin ev_c71 := ev_okm_one (pls := [[], [], [227], [], [], [228], []]) (by decide +kernel)
theorem ev_j71 : ev_ckM (yX9_begin, cX9_begin, (Option.none : Option Jvm.ClassFile.FieldType)) (1, 0, 0, 6) [760, 50] = true := by decide +kernel
set_option maxRecDepth 100000 in
theorem ev_k72 : ev_okm yX9_haveRoom cX9_haveRoom ev_c72 := ev_okm_one (pls := [[], [227], [], [], [], [], [], []]) (by decide +kernel)
theorem ev_j72 : ev_ckM (yX9_haveRoom, cX9_haveRoom, (Option.some Jvm.ClassFile.FieldType.boolean)) (1, 0, 2, 6) [764, 50] = true := by decide +kernel
set_option maxRecDepth 100000 in
theorem ev_k73 : ev_okm yX9_nextPosition cX9_nextPosition ev_c73 := ev_okm_one (pls := [[], [], [228], [], [], [228], [], [228], [], [], []]) (by decide +kernel)
theorem ev_j73 : ev_ckM (yX9_nextPosition, cX9_nextPosition, (Option.some Jvm.ClassFile.FieldType.int)) (1, 0, 1, 6) [797, 50] = true := by decide +kernel
set_option maxRecDepth 100000 in
theorem ev_k74 : ev_okm yX9_add cX9_add ev_c74 := ev_okm_one (pls := [[], [814, 762, 763, 50, 764], [], [], [], [227], [], [], [], [], [226], [], [], [], [], [226], [], [], [], [], [], [], [226], [], [], [], [], [], [], [226], [], [], [], [], [], [], [226], [], [], [], [], [], [], [], [227], [], [], [227], []]) (by decide +kernel)
theorem ev_j74 : ev_ckM (yX9_add, cX9_add, (Option.none : Option Jvm.ClassFile.FieldType)) (7, 5, 0, 6) [813, 50] = true := by decide +kernel
set_option maxRecDepth 100000 in
theorem ev_k75 : ev_okm yX9_keep cX9_keep ev_c75 := ev_okm_one (pls := [[], [226], [], [], [223], [], [], [227], [], [], [823, 825, 824, 61], [], [], [227], [224], [], [], [228], [225], []]) (by decide +kernel)
theorem ev_j75 : ev_ckM (yX9_keep, cX9_keep, (Option.none : Option Jvm.ClassFile.FieldType)) (1, 0, 0, 6) [822, 50] = true := by decide +kernel
set_option maxRecDepth 100000 in
theorem ev_k76 : ev_okm yX10_init cX10_init ev_c76 := ev_okm_one (pls := [[], [89, 68, 69], [], [], [83], [90], [], [], [106], [91], [], [], [106], [92], [], [], [107], [93], []]) (by decide +kernel)
theorem ev_j76 : ev_ckM (yX10_init, cX10_init, (Option.none : Option Jvm.ClassFile.FieldType)) (1, 0, 0, 7) [88, 44] = true := by decide +kernel
set_option maxRecDepth 100000 in
theorem ev_k77 : ev_okm yX10_count cX10_count ev_c77 := ev_okm_one (pls := [[], [94], []]) (by decide +kernel)
theorem ev_j77 : ev_ckM (yX10_count, cX10_count, (Option.some Jvm.ClassFile.FieldType.int)) (1, 0, 1, 7) [654, 44] = true := by decide +kernel
set_option maxRecDepth 100000 in
theorem ev_k78 : ev_okm yX10_knows cX10_knows ev_c78 := ev_okm_one (pls := [[], [], [], [], [94], [], [], [], [], []]) (by decide +kernel)
theorem ev_j78 : ev_ckM (yX10_knows, cX10_knows, (Option.some Jvm.ClassFile.FieldType.boolean)) (2, 1, 2, 7) [338, 44] = true := by decide +kernel
set_option maxRecDepth 100000 in
theorem ev_k79 : ev_okm yX10_knowsOrNone cX10_knowsOrNone ev_c79 := ev_okm_one (pls := [[], [], [], [], [], [335, 336, 337, 44, 338], [], [], [], [], []]) (by decide +kernel)
theorem ev_j79 : ev_ckM (yX10_knowsOrNone, cX10_knowsOrNone, (Option.some Jvm.ClassFile.FieldType.boolean)) (2, 1, 2, 7) [573, 44] = true := by decide +kernel
end
section
set_option maxRecDepth 100000 in
theorem ev_k80 : ev_okm yX10_sizeOf cX10_sizeOf ev_c80 := ev_okm_one (pls := [[], [], [335, 336, 337, 44, 338], [], [], [91], [], [], [], [], []]) (by decide +kernel)
theorem ev_j80 : ev_ckM (yX10_sizeOf, cX10_sizeOf, (Option.some Jvm.ClassFile.FieldType.int)) (2, 1, 1, 7) [537, 44] = true := by decide +kernel
set_option maxRecDepth 100000 in
theorem ev_k81 : ev_okm yX10_copyTo cX10_copyTo ev_c81 := ev_okm_one (pls := [[], [], [349, 315, 316, 45, 317], [], [], [], [], [350, 351, 352, 44, 353], []]) (by decide +kernel)
theorem ev_j81 : ev_ckM (yX10_copyTo, cX10_copyTo, (Option.none : Option Jvm.ClassFile.FieldType)) (3, 2, 0, 7) [348, 44] = true := by decide +kernel
set_option maxRecDepth 100000 in
theorem ev_k82 : ev_okm yX10_addTo cX10_addTo ev_c82 := ev_okm_one (pls := [[], [], [335, 336, 337, 44, 338], [], [], [], [], [], [], [], [], [91], [], [], [], [], [], [90], [], [], [], [], [], [], [354, 319, 320, 45, 321], [], [], []]) (by decide +kernel)
theorem ev_j82 : ev_ckM (yX10_addTo, cX10_addTo, (Option.none : Option Jvm.ClassFile.FieldType)) (5, 3, 0, 7) [353, 44] = true := by decide +kernel
set_option maxRecDepth 100000 in
theorem ev_k83 : ev_okm yX10_standsAt cX10_standsAt ev_c83 := ev_okm_one (pls := [[], [], [335, 336, 337, 44, 338], [], [], [], [], [], [91], [], [], [], [], [330, 299, 300, 45, 301], [], [], [], [], [], [], [], [91], [], [], [], [], [90], [], [], [], [], [], [], [], [], [], [], [339, 303, 304, 45, 305], [], [], [], [], [], [], []]) (by decide +kernel)
theorem ev_j83 : ev_ckM (yX10_standsAt, cX10_standsAt, (Option.some Jvm.ClassFile.FieldType.boolean)) (5, 3, 2, 7) [334, 44] = true := by decide +kernel
set_option maxRecDepth 100000 in
theorem ev_k84 : ev_okm yX10_standsBehind cX10_standsBehind ev_c84 := ev_okm_one (pls := [[], [], [], [], [330, 299, 300, 45, 301], [], [], [534, 535, 536, 44, 537], [], [331, 332, 333, 44, 334], []]) (by decide +kernel)
theorem ev_j84 : ev_ckM (yX10_standsBehind, cX10_standsBehind, (Option.some Jvm.ClassFile.FieldType.boolean)) (3, 2, 2, 7) [533, 44] = true := by decide +kernel
set_option maxRecDepth 100000 in
theorem ev_k85 : ev_okm yX10_find cX10_find ev_c85 := ev_okm_one (pls := [[], [], [], [], [94], [], [], [91], [], [], [], [330, 299, 300, 45, 301], [], [], [], [], [], [331, 332, 333, 44, 334], [], [], [], [], [], [], []]) (by decide +kernel)
theorem ev_j85 : ev_ckM (yX10_find, cX10_find, (Option.some Jvm.ClassFile.FieldType.int)) (3, 1, 1, 7) [329, 44] = true := by decide +kernel
set_option maxRecDepth 100000 in
theorem ev_k86 : ev_okm yX10_learn cX10_learn ev_c86 := ev_okm_one (pls := [[], [], [326, 327, 328, 44, 329], [], [], [], [], [], [], [], [94], [], [], [], [], [], [94], [], [], [], [94], [], [], [94], [], [91], [], [], [330, 299, 300, 45, 301], [], [], [], [], [], [330, 299, 300, 45, 301], [], [], [90], [], [], [], [], [], [], [], [339, 303, 304, 45, 305], [], [], [], [], [92], [], [], [], [], []]) (by decide +kernel)
theorem ev_j86 : ev_ckM (yX10_learn, cX10_learn, (Option.some Jvm.ClassFile.FieldType.int)) (4, 1, 1, 7) [325, 44] = true := by decide +kernel
set_option maxRecDepth 100000 in
theorem ev_k87 : ev_okm yX10_forgetFrom cX10_forgetFrom ev_c87 := ev_okm_one (pls := [[], [], [], [], [94], [], [], [], [94], []]) (by decide +kernel)
theorem ev_j87 : ev_ckM (yX10_forgetFrom, cX10_forgetFrom, (Option.none : Option Jvm.ClassFile.FieldType)) (2, 1, 0, 7) [818, 44] = true := by decide +kernel
set_option maxRecDepth 100000 in
theorem ev_k88 : ev_okm yX10_isMarked cX10_isMarked ev_c88 := ev_okm_one (pls := [[], [], [], [], [], [], [], [335, 336, 337, 44, 338], [], [], [93], [], [], [], [], [], [], [], [], [], [], []]) (by decide +kernel)
theorem ev_j88 : ev_ckM (yX10_isMarked, cX10_isMarked, (Option.some Jvm.ClassFile.FieldType.boolean)) (3, 2, 2, 7) [369, 44] = true := by decide +kernel
set_option maxRecDepth 100000 in
theorem ev_k89 : ev_okm yX10_setMark cX10_setMark ev_c89 := ev_okm_one (pls := [[], [], [], [], [], [], [], [335, 336, 337, 44, 338], [], [], [93], [], [], [], [], [], [], [], []]) (by decide +kernel)
theorem ev_j89 : ev_ckM (yX10_setMark, cX10_setMark, (Option.none : Option Jvm.ClassFile.FieldType)) (4, 3, 0, 7) [565, 44] = true := by decide +kernel
set_option maxRecDepth 100000 in
theorem ev_k90 : ev_okm yX10_pairOf cX10_pairOf ev_c90 := ev_okm_one (pls := [[], [], [335, 336, 337, 44, 338], [], [], [92], [], [], [], [], []]) (by decide +kernel)
theorem ev_j90 : ev_ckM (yX10_pairOf, cX10_pairOf, (Option.some Jvm.ClassFile.FieldType.int)) (2, 1, 1, 7) [373, 44] = true := by decide +kernel
set_option maxRecDepth 100000 in
theorem ev_k91 : ev_okm yX10_setPair cX10_setPair ev_c91 := ev_okm_one (pls := [[], [], [335, 336, 337, 44, 338], [], [], [92], [], [], [], []]) (by decide +kernel)
theorem ev_j91 : ev_ckM (yX10_setPair, cX10_setPair, (Option.none : Option Jvm.ClassFile.FieldType)) (3, 2, 0, 7) [577, 44] = true := by decide +kernel
set_option maxRecDepth 100000 in
theorem ev_k92 : ev_okm yX11_init cX11_init ev_c92 := ev_okm_one (pls := [[], [67, 68, 69], [], [70, 71, 43], [], [72, 73, 43, 74], [242], [], [84, 85, 44], [], [86, 87, 44, 88], [243], [], [108, 109, 45], [], [110, 111, 45, 112], [244], [], [108, 109, 45], [], [110, 111, 45, 112], [245], [], [121, 122, 46], [], [123, 124, 46, 125], [246], [], [146, 147, 47], [], [148, 149, 47, 150], [247], [], [171, 172, 48], [], [173, 174, 48, 175], [248], [], [190, 191, 49], [], [192, 193, 49, 194], [249], [], [217, 218, 50], [], [219, 220, 50, 221], [250], []]) (by decide +kernel)
theorem ev_j92 : ev_ckM (yX11_init, cX11_init, (Option.none : Option Jvm.ClassFile.FieldType)) (1, 0, 0, 8) [66, 42] = true := by decide +kernel
set_option maxRecDepth 100000 in
theorem ev_k93 : ev_okm yX11_feed cX11_feed ev_c93 := ev_okm_one (pls := [[], [242], [274, 275, 276, 43, 277], [], [], [], [], [242], [], [278, 279, 280, 43, 281], [], [242], [], [278, 279, 280, 43, 281], [], [242], [], [278, 279, 280, 43, 281], [], [242], [], [278, 279, 280, 43, 281], [], [242], [], [278, 279, 280, 43, 281], [], [242], [282, 283, 284, 43, 285], []]) (by decide +kernel)
theorem ev_j93 : ev_ckM (yX11_feed, cX11_feed, (Option.some Jvm.ClassFile.FieldType.int)) (6, 5, 1, 8) [273, 42] = true := by decide +kernel
set_option maxRecDepth 100000 in
theorem ev_k94 : ev_okm yX11_cut cX11_cut ev_c94 := ev_okm_one (pls := [[], [242], [282, 283, 284, 43, 285], [], [], [], [], [], [], [], [], [], [242], [], [290, 291, 292, 43, 293], [], [], [], []]) (by decide +kernel)
theorem ev_j94 : ev_ckM (yX11_cut, cX11_cut, (Option.some Jvm.ClassFile.FieldType.int)) (3, 1, 1, 8) [289, 42] = true := by decide +kernel
set_option maxRecDepth 100000 in
theorem ev_k95 : ev_okm yX11_out cX11_out ev_c95 := ev_okm_one (pls := [[], [], [], [], [244], [298, 299, 300, 45, 301], [], [], [], [], [], [244], [298, 299, 300, 45, 301], [], [], [244], [], [302, 303, 304, 45, 305], [], [], []]) (by decide +kernel)
theorem ev_j95 : ev_ckM (yX11_out, cX11_out, (Option.some Jvm.ClassFile.FieldType.int)) (2, 1, 1, 8) [297, 42] = true := by decide +kernel
end
section
set_option maxRecDepth 100000 in
theorem ev_k96 : ev_okm yX11_word cX11_word ev_c96 := ev_okm_one (pls := [[], [242], [], [245], [310, 311, 312, 43, 313], [], [], [242], [], [290, 291, 292, 43, 293], [], [], [], [243], [], [245], [322, 323, 324, 44, 325], [], [], []]) (by decide +kernel)
theorem ev_j96 : ev_ckM (yX11_word, cX11_word, (Option.some Jvm.ClassFile.FieldType.int)) (2, 0, 1, 8) [309, 42] = true := by decide +kernel
set_option maxRecDepth 100000 in
theorem ev_k97 : ev_okm yX11_spell cX11_spell ev_c97 := ev_okm_one (pls := [[], [243], [], [344, 336, 337, 44, 338], [], [], [], [], [243], [], [], [244], [345, 346, 347, 44, 348], [], [244], [298, 299, 300, 45, 301], []]) (by decide +kernel)
theorem ev_j97 : ev_ckM (yX11_spell, cX11_spell, (Option.some Jvm.ClassFile.FieldType.int)) (2, 1, 1, 8) [343, 42] = true := by decide +kernel
set_option maxRecDepth 100000 in
theorem ev_k98 : ev_okm yX11_stem cX11_stem ev_c98 := ev_okm_one (pls := [[], [243], [], [344, 336, 337, 44, 338], [], [], [], [], [359, 360, 42, 361], [], [], [], [], [], [], [], [244], [362, 364, 0, 42, 365], [], [244], [298, 299, 300, 45, 301], []]) (by decide +kernel)
theorem ev_j98 : ev_ckM (yX11_stem, cX11_stem, (Option.some Jvm.ClassFile.FieldType.int)) (3, 2, 1, 8) [358, 42] = true := by decide +kernel
set_option maxRecDepth 100000 in
theorem ev_k99 : ev_okm yX11_step cX11_step ev_c99 := ev_okm_one (pls := [[], [243], [], [344, 336, 337, 44, 338], [], [], [], [], [], [], [], [], [], [], [], [243], [], [], [244], [345, 346, 347, 44, 348], [], [244], [], [453, 454, 56, 455], [], [244], [298, 299, 300, 45, 301], []]) (by decide +kernel)
theorem ev_j99 : ev_ckM (yX11_step, cX11_step, (Option.some Jvm.ClassFile.FieldType.int)) (3, 2, 1, 8) [551, 42] = true := by decide +kernel
set_option maxRecDepth 100000 in
theorem ev_k100 : ev_okm yX11_measure cX11_measure ev_c100 := ev_okm_one (pls := [[], [243], [], [344, 336, 337, 44, 338], [], [], [], [], [243], [], [], [245], [345, 346, 347, 44, 348], [], [245], [556, 458, 56, 459], [], [245], [298, 299, 300, 45, 301], [557, 483, 56, 484], []]) (by decide +kernel)
theorem ev_j100 : ev_ckM (yX11_measure, cX11_measure, (Option.some Jvm.ClassFile.FieldType.int)) (2, 1, 1, 8) [555, 42] = true := by decide +kernel
set_option maxRecDepth 100000 in
theorem ev_k101 : ev_okm yX11_mark cX11_mark ev_c101 := ev_okm_one (pls := [[], [243], [], [344, 336, 337, 44, 338], [], [], [], [], [], [], [], [], [], [], [], [243], [], [], [366, 367, 368, 44, 369], [], [], [], [], [], [243], [], [], [], [562, 563, 564, 44, 565], [], []]) (by decide +kernel)
theorem ev_j101 : ev_ckM (yX11_mark, cX11_mark, (Option.some Jvm.ClassFile.FieldType.int)) (4, 3, 1, 8) [561, 42] = true := by decide +kernel
set_option maxRecDepth 100000 in
theorem ev_k102 : ev_okm yX11_pair cX11_pair ev_c102 := ev_okm_one (pls := [[], [243], [], [344, 336, 337, 44, 338], [], [], [243], [], [570, 571, 572, 44, 573], [], [], [], [], [243], [], [370, 371, 372, 44, 373], [], [], [243], [], [], [574, 575, 576, 44, 577], [], []]) (by decide +kernel)
theorem ev_j102 : ev_ckM (yX11_pair, cX11_pair, (Option.some Jvm.ClassFile.FieldType.int)) (4, 2, 1, 8) [569, 42] = true := by decide +kernel
set_option maxRecDepth 100000 in
theorem ev_k103 : ev_okm yX11_row cX11_row ev_c103 := ev_okm_one (pls := [[], [243], [], [344, 336, 337, 44, 338], [], [], [243], [], [570, 571, 572, 44, 573], [], [], [], [], [243], [], [582, 535, 536, 44, 537], [], [], [], [243], [], [582, 535, 536, 44, 537], [], [], [], [], [], [], [], [], [], [], [246], [], [], [], [], [], [583, 584, 585, 46, 586], []]) (by decide +kernel)
theorem ev_j103 : ev_ckM (yX11_row, cX11_row, (Option.some Jvm.ClassFile.FieldType.int)) (6, 5, 1, 8) [581, 42] = true := by decide +kernel
set_option maxRecDepth 100000 in
theorem ev_k104 : ev_okm yX11_rowless cX11_rowless ev_c104 := ev_okm_one (pls := [[], [246], [591, 592, 593, 46, 594], [], [], [246], [595, 596, 597, 46, 598], [], []]) (by decide +kernel)
theorem ev_j104 : ev_ckM (yX11_rowless, cX11_rowless, (Option.some Jvm.ClassFile.FieldType.int)) (2, 0, 1, 8) [590, 42] = true := by decide +kernel
set_option maxRecDepth 100000 in
theorem ev_k105 : ev_okm yX11_affix cX11_affix ev_c105 := ev_okm_one (pls := [[], [243], [], [344, 336, 337, 44, 338], [], [], [243], [], [570, 571, 572, 44, 573], [], [], [], [], [243], [], [582, 535, 536, 44, 537], [], [], [], [243], [], [582, 535, 536, 44, 537], [], [], [], [], [], [247], [], [], [], [603, 604, 605, 47, 606], []]) (by decide +kernel)
theorem ev_j105 : ev_ckM (yX11_affix, cX11_affix, (Option.some Jvm.ClassFile.FieldType.int)) (4, 3, 1, 8) [602, 42] = true := by decide +kernel
set_option maxRecDepth 100000 in
theorem ev_k106 : ev_okm yX11_base cX11_base ev_c106 := ev_okm_one (pls := [[], [243], [], [344, 336, 337, 44, 338], [], [], [], [], [247], [], [], [243], [], [245], [611, 612, 613, 47, 614], [], [247], [], [631, 632, 633, 47, 634], []]) (by decide +kernel)
theorem ev_j106 : ev_ckM (yX11_base, cX11_base, (Option.some Jvm.ClassFile.FieldType.int)) (3, 2, 1, 8) [610, 42] = true := by decide +kernel
set_option maxRecDepth 100000 in
theorem ev_k107 : ev_okm yX11_least cX11_least ev_c107 := ev_okm_one (pls := [[], [], [], [], [], [], [], [], [], [248], [], [639, 640, 641, 48, 642], []]) (by decide +kernel)
theorem ev_j107 : ev_ckM (yX11_least, cX11_least, (Option.some Jvm.ClassFile.FieldType.int)) (2, 1, 1, 8) [638, 42] = true := by decide +kernel
set_option maxRecDepth 100000 in
theorem ev_k108 : ev_okm yX11_part cX11_part ev_c108 := ev_okm_one (pls := [[], [243], [], [344, 336, 337, 44, 338], [], [], [], [], [243], [], [], [245], [345, 346, 347, 44, 348], [], [248], [], [245], [], [243], [647, 648, 649, 48, 650], [], [], [], [], [248], [667, 668, 669, 48, 670], [], [], [248], [], [671, 672, 673, 48, 674], []]) (by decide +kernel)
theorem ev_j108 : ev_ckM (yX11_part, cX11_part, (Option.some Jvm.ClassFile.FieldType.int)) (3, 2, 1, 8) [646, 42] = true := by decide +kernel
set_option maxRecDepth 100000 in
theorem ev_k109 : ev_okm yX11_key cX11_key ev_c109 := ev_okm_one (pls := [[], [243], [], [344, 336, 337, 44, 338], [], [], [], [], [], [], [], [], [], [], [], [243], [], [], [245], [345, 346, 347, 44, 348], [], [], [], [245], [], [244], [679, 680, 60, 681], [], [], [245], [], [244], [691, 692, 60, 693], [], [244], [298, 299, 300, 45, 301], []]) (by decide +kernel)
theorem ev_j109 : ev_ckM (yX11_key, cX11_key, (Option.some Jvm.ClassFile.FieldType.int)) (3, 2, 1, 8) [678, 42] = true := by decide +kernel
set_option maxRecDepth 100000 in
theorem ev_k110 : ev_okm yX11_text cX11_text ev_c110 := ev_okm_one (pls := [[], [359, 360, 42, 361], [], [], [242], [], [290, 291, 292, 43, 293], [], [], [], [243], [752, 652, 653, 44, 654], [], [], [], [], [249], [753, 754, 755, 49, 756], [], [250], [757, 758, 759, 50, 760], [], [], [], [], [], [], [], [], [250], [761, 762, 763, 50, 764], [], [], [249], [], [242], [765, 766, 767, 49, 768], [], [], [], [790, 792, 7, 42, 793], [], [], [], [], [242], [], [290, 291, 292, 43, 293], [], [], [], [243], [], [815, 816, 817, 44, 818], [], [], [], [250], [819, 820, 821, 50, 822], [], [250], [826, 827, 828, 50, 829], []]) (by decide +kernel)
theorem ev_j110 : ev_ckM (yX11_text, cX11_text, (Option.some Jvm.ClassFile.FieldType.int)) (5, 1, 1, 8) [751, 42] = true := by decide +kernel
set_option maxRecDepth 100000 in
theorem ev_k111 : ev_okm yX11_token cX11_token ev_c111 := ev_okm_one (pls := [[], [], [], [], [], [], [], [], [250], [], [], [834, 835, 836, 50, 837], []]) (by decide +kernel)
theorem ev_j111 : ev_ckM (yX11_token, cX11_token, (Option.some Jvm.ClassFile.FieldType.int)) (3, 2, 1, 8) [833, 42] = true := by decide +kernel
end
section
set_option maxRecDepth 100000 in
theorem ev_k112 : ev_okm yX11_told cX11_told ev_c112 := ev_okm_one (pls := [[], [], [], [243], [752, 652, 653, 44, 654], [], [], [250], [826, 827, 828, 50, 829], [], [], [246], [591, 592, 593, 46, 594], [], [], [247], [842, 843, 844, 47, 845], [], [], [250], [846, 847, 848, 50, 849], [], [], [242], [282, 283, 284, 43, 285], [], [], []]) (by decide +kernel)
theorem ev_j112 : ev_ckM (yX11_told, cX11_told, (Option.some Jvm.ClassFile.FieldType.int)) (2, 1, 1, 8) [841, 42] = true := by decide +kernel
set_option maxRecDepth 100000 in
theorem ev_k113 : ev_okm yX11_isStemmer cX11_isStemmer ev_c113 := ev_okm_one (pls := [[], [], [], [], [], [], [], [], []]) (by decide +kernel)
theorem ev_j113 : ev_ckM (yX11_isStemmer, cX11_isStemmer, (Option.some Jvm.ClassFile.FieldType.boolean)) (1, 1, 2, 8) [361, 42] = true := by decide +kernel
set_option maxRecDepth 100000 in
theorem ev_k114 : ev_okm yX11_layStem cX11_layStem ev_c114 := ev_okm_one (pls := [[], [243], [], [], [345, 346, 347, 44, 348], [], [], [], [243], [], [], [366, 367, 368, 44, 369], [], [], [], [243], [], [370, 371, 372, 44, 373], [], [], [], [], [], [243], [], [], [345, 346, 347, 44, 348], [], [], [], [], [], [374, 375, 42, 376], [], [], [], [], [], [], [453, 454, 56, 455], [], [], [246], [], [], [243], [522, 523, 524, 46, 525], []]) (by decide +kernel)
theorem ev_j114 : ev_ckM (yX11_layStem, cX11_layStem, (Option.none : Option Jvm.ClassFile.FieldType)) (5, 3, 0, 8) [365, 42] = true := by decide +kernel
set_option maxRecDepth 100000 in
theorem ev_k115 : ev_okm yX11_dropPlural cX11_dropPlural ev_c115 := ev_okm_one (pls := [[], [298, 299, 300, 45, 301], [], [], [], [], [], [378, 379, 380, 45, 381], [], [], [], [378, 379, 380, 45, 381], [], [], [], [378, 379, 380, 45, 381], [], [], [], [], [437, 438, 439, 45, 440], [], [], [], [], [378, 379, 380, 45, 381], [], [], [], [378, 379, 380, 45, 381], [], [], [], [378, 379, 380, 45, 381], [], [], [], [378, 379, 380, 45, 381], [], [], [], [], [437, 438, 439, 45, 440], [], [], [], [], [378, 379, 380, 45, 381], [], [], [], [378, 379, 380, 45, 381], [], [], [], [378, 379, 380, 45, 381], [], [], [], [], [437, 438, 439, 45, 440], [], []]) (by decide +kernel)
theorem ev_j115 : ev_ckM (yX11_dropPlural, cX11_dropPlural, (Option.none : Option Jvm.ClassFile.FieldType)) (1, 1, 0, 8) [376, 42] = true := by decide +kernel
set_option maxRecDepth 100000 in
theorem ev_k116 : ev_okm yX11_takePiece cX11_takePiece ev_c116 := ev_okm_one (pls := [[], [250], [794, 795, 796, 50, 797], [], [], [243], [], [249], [798, 799, 800, 49, 801], [322, 323, 324, 44, 325], [], [], [], [], [], [], [], [243], [], [], [366, 367, 368, 44, 369], [], [], [], [], [], [], [], [245], [362, 364, 0, 42, 365], [], [243], [], [245], [322, 323, 324, 44, 325], [], [], [], [], [], [], [], [250], [], [], [249], [802, 803, 804, 49, 805], [], [249], [806, 807, 808, 49, 809], [], [], [810, 811, 812, 50, 813], [], []]) (by decide +kernel)
theorem ev_j116 : ev_ckM (yX11_takePiece, cX11_takePiece, (Option.some Jvm.ClassFile.FieldType.boolean)) (5, 1, 2, 8) [793, 42] = true := by decide +kernel
set_option maxRecDepth 100000 in
theorem ev_k117 : ev_okm yX11_isVowel cX11_isVowel ev_c117 := ev_okm_one (pls := [[], [], [], [], [], [], [], [], [], [], [], [], [], [], [], [], [], [], []]) (by decide +kernel)
theorem ev_j117 : ev_ckM (yX11_isVowel, cX11_isVowel, (Option.some Jvm.ClassFile.FieldType.boolean)) (1, 1, 2, 8) [463, 42] = true := by decide +kernel
set_option maxRecDepth 100000 in
theorem ev_k118_0 : ev_ckA yX12_init cX12_init 0 ((ev_c118.drop 0).take 100) [[], [855, 68, 69], [], [], [106], [856], [], [], [106], [858], [], [], [106], [860], [], [], [106], [861], [], [], [106], [863], [], [], [106], [864], [], [], [106], [865], [], [], [107], [866], [], [], [106], [867], [], [], [106], [868], [], [], [107], [869], [], []] = true := by decide +kernel
set_option maxRecDepth 100000 in
theorem ev_k118_100 : ev_ckA yX12_init cX12_init 100 ((ev_c118.drop 100).take 100) [[107], [871], [], [], [106], [872], [], [], [106], [873], [], [], [875], [], [], [106], [876], [], [], [106], [878], [], [], [106], [879], [], [], [106], [880], [], [], [106], [881], [], [], [106], [882], [], [], [106], [884], [], [], [106], [887], [], [], [106], [888]] = true := by decide +kernel
set_option maxRecDepth 100000 in
theorem ev_k118_200 : ev_ckA yX12_init cX12_init 200 ((ev_c118.drop 200).take 100) [[]] = true := by decide +kernel
set_option maxRecDepth 100000 in
theorem ev_n118 : ev_c118.length = 203 := by decide +kernel
theorem ev_k118 : ev_okm yX12_init cX12_init ev_c118 := fun j e hj => if h0 : j < 100 then ev_okm_cut 0 100 ev_k118_0 j e (by omega) (by omega) hj else if h100 : j < 200 then ev_okm_cut 100 100 ev_k118_100 j e (by omega) (by omega) hj else (have hl : j < 203 := by have hl := (List.getElem?_eq_some_iff.mp hj).1; rw [ev_n118] at hl; exact hl
    ev_okm_cut 200 100 ev_k118_200 j e (by omega) (by omega) hj)
theorem ev_j118 : ev_ckM (yX12_init, cX12_init, (Option.none : Option Jvm.ClassFile.FieldType)) (1, 0, 0, 9) [854, 51] = true := by decide +kernel
set_option maxRecDepth 100000 in
theorem ev_k119 : ev_okm yX12_small cX12_small ev_c119 := ev_okm_one (pls := [[], [], [], [], [], [], []]) (by decide +kernel)
theorem ev_j119 : ev_ckM (yX12_small, cX12_small, (Option.some Jvm.ClassFile.FieldType.int)) (2, 2, 1, 9) [1267, 51] = true := by decide +kernel
set_option maxRecDepth 100000 in
theorem ev_k120 : ev_okm yX12_beyond cX12_beyond ev_c120 := ev_okm_one (pls := [[], [], [], [], [], [], [], [], [], []]) (by decide +kernel)
theorem ev_j120 : ev_ckM (yX12_beyond, cX12_beyond, (Option.some Jvm.ClassFile.FieldType.boolean)) (3, 3, 2, 9) [970, 51] = true := by decide +kernel
set_option maxRecDepth 100000 in
theorem ev_k121 : ev_okm yX12_strange cX12_strange ev_c121 := ev_okm_one (pls := [[], [], [], [862], [], [], [968, 969, 51, 970], []]) (by decide +kernel)
theorem ev_j121 : ev_ckM (yX12_strange, cX12_strange, (Option.some Jvm.ClassFile.FieldType.boolean)) (2, 1, 2, 9) [994, 51] = true := by decide +kernel
set_option maxRecDepth 100000 in
theorem ev_k122 : ev_okm yX12_feed cX12_feed ev_c122 := ev_okm_one (pls := [[], [857], [], [], [], [], [], [], [], [], [960, 962, 8, 51, 963], [], [], [960, 962, 8, 51, 963], [], [], [960, 962, 8, 51, 963], [], [], [960, 962, 8, 51, 963], [], [], [960, 962, 8, 51, 963], [], [857], []]) (by decide +kernel)
theorem ev_j122 : ev_ckM (yX12_feed, cX12_feed, (Option.some Jvm.ClassFile.FieldType.int)) (6, 5, 1, 9) [959, 51] = true := by decide +kernel
set_option maxRecDepth 100000 in
theorem ev_k123 : ev_okm yX12_four cX12_four ev_c123 := ev_okm_one (pls := [[], [], [], [], [], [856], [], [857], [], [], [], [], [], [], [], [], [857], [], [], [857], [], [], []]) (by decide +kernel)
theorem ev_j123 : ev_ckM (yX12_four, cX12_four, (Option.none : Option Jvm.ClassFile.FieldType)) (3, 1, 0, 9) [963, 51] = true := by decide +kernel
set_option maxRecDepth 100000 in
theorem ev_k124 : ev_okm yX12_cut cX12_cut ev_c124 := ev_okm_one (pls := [[], [], [], [857], [968, 969, 51, 970], [], [], [], [], [857], [], [], [], [], [], [857], [], []]) (by decide +kernel)
theorem ev_j124 : ev_ckM (yX12_cut, cX12_cut, (Option.some Jvm.ClassFile.FieldType.int)) (3, 1, 1, 9) [967, 51] = true := by decide +kernel
set_option maxRecDepth 100000 in
theorem ev_k125 : ev_okm yX12_out cX12_out ev_c125 := ev_okm_one (pls := [[], [], [], [], [859], [], [], [], [], [859], [], [], [968, 969, 51, 970], [], [], [], [], [858], [], [], []]) (by decide +kernel)
theorem ev_j125 : ev_ckM (yX12_out, cX12_out, (Option.some Jvm.ClassFile.FieldType.int)) (2, 1, 1, 9) [974, 51] = true := by decide +kernel
set_option maxRecDepth 100000 in
theorem ev_k126 : ev_okm yX12_show cX12_show ev_c126 := ev_okm_one (pls := [[], [], [], [], [877], [], [], [858], [], [], [876], [], [], [], [], [], [], [], [877], [859], [], [877], []]) (by decide +kernel)
theorem ev_j126 : ev_ckM (yX12_show, cX12_show, (Option.some Jvm.ClassFile.FieldType.int)) (2, 0, 1, 9) [1002, 51] = true := by decide +kernel
set_option maxRecDepth 100000 in
theorem ev_k127 : ev_okm yX12_take cX12_take ev_c127 := ev_okm_one (pls := [[], [], [861], [], [], [877], [], [], [], [], [877], [], [], [876], [], [], [860], [], [], [], [], [], [], [], [], [], []]) (by decide +kernel)
theorem ev_j127 : ev_ckM (yX12_take, cX12_take, (Option.none : Option Jvm.ClassFile.FieldType)) (3, 1, 0, 9) [998, 51] = true := by decide +kernel
end
section
set_option maxRecDepth 100000 in
theorem ev_k128 : ev_okm yX12_find cX12_find ev_c128 := ev_okm_one (pls := [[], [], [], [], [862], [], [], [861], [], [], [], [], [], [], [], [], [], [], [], [], [], [], [], [], [860], [], [], [], [], [], [], [], [876], [], [], [], [], [], [], [], [], [], [], [], [], [], [], [], [], [], [], []]) (by decide +kernel)
theorem ev_j128 : ev_ckM (yX12_find, cX12_find, (Option.some Jvm.ClassFile.FieldType.int)) (6, 2, 1, 9) [986, 51] = true := by decide +kernel
set_option maxRecDepth 100000 in
theorem ev_k129 : ev_okm yX12_learn cX12_learn ev_c129 := ev_okm_one (pls := [[], [], [], [877], [983, 985, 10, 51, 986], [], [], [], [], [862], [], [], [], [], [], [], [877], [], [], [860], [], [], [862], [], [], [], [], [876], [], [], [], [], [], [], [861], [], [862], [], [877], [], [], [863], [], [862], [], [], [], [864], [], [862], [], [], [], [862], [], [], [], [862], [], [], [862], [], []]) (by decide +kernel)
theorem ev_j129 : ev_ckM (yX12_learn, cX12_learn, (Option.some Jvm.ClassFile.FieldType.int)) (3, 0, 1, 9) [982, 51] = true := by decide +kernel
set_option maxRecDepth 100000 in
theorem ev_k130 : ev_okm yX12_word cX12_word ev_c130 := ev_okm_one (pls := [[], [857], [], [], [], [857], [], [], [], [968, 969, 51, 970], [], [], [], [], [], [], [], [], [], [], [], [], [], [856], [], [], [], [], [968, 969, 51, 970], [], [], [], [], [], [], [876], [], [], [856], [], [], [], [], [], [], [], [], [], [], [], [877], [], [979, 981, 9, 51, 982], [], [], [], [], [], [], []]) (by decide +kernel)
theorem ev_j130 : ev_ckM (yX12_word, cX12_word, (Option.some Jvm.ClassFile.FieldType.int)) (4, 0, 1, 9) [978, 51] = true := by decide +kernel
set_option maxRecDepth 100000 in
theorem ev_k131 : ev_okm yX12_spell cX12_spell ev_c131 := ev_okm_one (pls := [[], [], [991, 993, 11, 51, 994], [], [], [], [], [], [995, 997, 12, 51, 998], [], [999, 1001, 13, 51, 1002], []]) (by decide +kernel)
theorem ev_j131 : ev_ckM (yX12_spell, cX12_spell, (Option.some Jvm.ClassFile.FieldType.int)) (2, 1, 1, 9) [990, 51] = true := by decide +kernel
set_option maxRecDepth 100000 in
theorem ev_k132 : ev_okm yX12_isVowel cX12_isVowel ev_c132 := ev_okm_one (pls := [[], [], [], [], [], [], [], [], [], [], [], [], [], [], [], [], [], [], []]) (by decide +kernel)
theorem ev_j132 : ev_ckM (yX12_isVowel, cX12_isVowel, (Option.some Jvm.ClassFile.FieldType.boolean)) (1, 1, 2, 9) [1069, 51] = true := by decide +kernel
set_option maxRecDepth 100000 in
theorem ev_k133 : ev_okm yX12_isC cX12_isC ev_c133 := ev_okm_one (pls := [[], [], [], [], [], [], [], [], [876], [], [], [], [], [], [], [], [], [], [], [], [], [], [876], [], [], [1067, 1068, 51, 1069], [], [], [], [], [], [], [], [], []]) (by decide +kernel)
theorem ev_j133 : ev_ckM (yX12_isC, cX12_isC, (Option.some Jvm.ClassFile.FieldType.boolean)) (4, 1, 2, 9) [1066, 51] = true := by decide +kernel
set_option maxRecDepth 100000 in
theorem ev_k134 : ev_okm yX12_measure0 cX12_measure0 ev_c134 := ev_okm_one (pls := [[], [], [], [], [], [], [], [], [], [], [1063, 1065, 23, 51, 1066], [], [], [], [], [], [1063, 1065, 23, 51, 1066], [], [], [], [], [], [], [], [], [], []]) (by decide +kernel)
theorem ev_j134 : ev_ckM (yX12_measure0, cX12_measure0, (Option.some Jvm.ClassFile.FieldType.int)) (4, 1, 1, 9) [1062, 51] = true := by decide +kernel
set_option maxRecDepth 100000 in
theorem ev_k135 : ev_okm yX12_hasV cX12_hasV ev_c135 := ev_okm_one (pls := [[], [], [], [], [], [], [], [1063, 1065, 23, 51, 1066], [], [], [], [], [], [], []]) (by decide +kernel)
theorem ev_j135 : ev_ckM (yX12_hasV, cX12_hasV, (Option.some Jvm.ClassFile.FieldType.boolean)) (3, 1, 2, 9) [1075, 51] = true := by decide +kernel
set_option maxRecDepth 100000 in
theorem ev_k136 : ev_okm yX12_lettersOf cX12_lettersOf ev_c136 := ev_okm_one (pls := [[], [], [], [], [], [], [], [], [], [], [], [], [], [], [], []]) (by decide +kernel)
theorem ev_j136 : ev_ckM (yX12_lettersOf, cX12_lettersOf, (Option.some Jvm.ClassFile.FieldType.int)) (5, 1, 1, 9) [1022, 51] = true := by decide +kernel
set_option maxRecDepth 100000 in
theorem ev_k137 : ev_okm yX12_letterOf cX12_letterOf ev_c137 := ev_okm_one (pls := [[], [], [], [], [], [], [1030], [], [], [], []]) (by decide +kernel)
theorem ev_j137 : ev_ckM (yX12_letterOf, cX12_letterOf, (Option.some Jvm.ClassFile.FieldType.int)) (3, 2, 1, 9) [1029, 51] = true := by decide +kernel
set_option maxRecDepth 100000 in
theorem ev_k138 : ev_okm yX12_ends cX12_ends ev_c138 := ev_okm_one (pls := [[], [1020, 1021, 51, 1022], [], [], [], [877], [], [], [], [877], [], [], [], [1023, 1025, 17, 51, 1026], [], [], [], [], []]) (by decide +kernel)
theorem ev_j138 : ev_ckM (yX12_ends, cX12_ends, (Option.some Jvm.ClassFile.FieldType.boolean)) (4, 1, 2, 9) [1019, 51] = true := by decide +kernel
set_option maxRecDepth 100000 in
theorem ev_k139 : ev_okm yX12_turn cX12_turn ev_c139 := ev_okm_one (pls := [[], [], [877], [], [], [877], [], [1020, 1021, 51, 1022], [], [], [], [], [], [], [], [876], [], [877], [], [], [1027, 1028, 51, 1029], [], [], [], [877], [], [], [877], [], [], []]) (by decide +kernel)
theorem ev_j139 : ev_ckM (yX12_turn, cX12_turn, (Option.none : Option Jvm.ClassFile.FieldType)) (6, 2, 0, 9) [1037, 51] = true := by decide +kernel
set_option maxRecDepth 100000 in
theorem ev_k140 : ev_okm yX12_isO cX12_isO ev_c140 := ev_okm_one (pls := [[], [], [], [], [], [], [], [1063, 1065, 23, 51, 1066], [], [], [], [], [], [1063, 1065, 23, 51, 1066], [], [], [], [], [], [1063, 1065, 23, 51, 1066], [], [], [], [], [876], [], [], [], [], [], [], [], [], [], [], [], [], [], [], [], [], [], []]) (by decide +kernel)
theorem ev_j140 : ev_ckM (yX12_isO, cX12_isO, (Option.some Jvm.ClassFile.FieldType.boolean)) (3, 1, 2, 9) [1087, 51] = true := by decide +kernel
set_option maxRecDepth 100000 in
theorem ev_k141 : ev_okm yX12_plural cX12_plural ev_c141 := ev_okm_one (pls := [[], [877], [], [], [], [], [1015], [1016, 1018, 16, 51, 1019], [], [], [1031], [1016, 1018, 16, 51, 1019], [], [], [1032], [1016, 1018, 16, 51, 1019], [], [], [], [1033], [1034, 1036, 18, 51, 1037], [], [], [1038], [1016, 1018, 16, 51, 1019], [], [], [1039], [1016, 1018, 16, 51, 1019], [], [], [1040], [1016, 1018, 16, 51, 1019], [], [], [1041], [1016, 1018, 16, 51, 1019], [], [], [1042], [1016, 1018, 16, 51, 1019], [], [], [1043], [1016, 1018, 16, 51, 1019], [], [], [1044], [1016, 1018, 16, 51, 1019], [], [], [], [877], [], [], [877], []]) (by decide +kernel)
theorem ev_j141 : ev_ckM (yX12_plural, cX12_plural, (Option.none : Option Jvm.ClassFile.FieldType)) (1, 0, 0, 9) [1014, 51] = true := by decide +kernel
set_option maxRecDepth 100000 in
theorem ev_k142_0 : ev_ckA yX12_second cX12_second 0 ((ev_c142.drop 0).take 100) [[], []] = true := by decide +kernel
set_option maxRecDepth 100000 in
theorem ev_k142_100 : ev_ckA yX12_second cX12_second 100 ((ev_c142.drop 100).take 100) [[1102], [], [1103], [], [1104], [], [1105], [], [1106], [], [1107], []] = true := by decide +kernel
set_option maxRecDepth 100000 in
theorem ev_k142_200 : ev_ckA yX12_second cX12_second 200 ((ev_c142.drop 200).take 100) [[1108], [], [1109], [], [1110], [], [1111], [], [1112], [], [1113], [], [1114], [], [1115], [], [1116], [], [1117], [], [1118], [], [1079], [], [1119], [], [1120], [], [1121], [], [1111], [], [1122], [], [1103], [], [1123], [], [1103], [], [1124], [], [1115], [], [1125], [], [1126], [], [1127], []] = true := by decide +kernel
set_option maxRecDepth 100000 in
theorem ev_k142_300 : ev_ckA yX12_second cX12_second 300 ((ev_c142.drop 300).take 100) [[1128], [], [1129], [], [1120], [], [1130], [], [1115], [], [1131], [], [1126], [], [1132], [], [1133], [], [], []] = true := by decide +kernel
set_option maxRecDepth 100000 in
theorem ev_n142 : ev_c142.length = 338 := by decide +kernel
theorem ev_k142 : ev_okm yX12_second cX12_second ev_c142 := fun j e hj => if h0 : j < 100 then ev_okm_cut 0 100 ev_k142_0 j e (by omega) (by omega) hj else if h100 : j < 200 then ev_okm_cut 100 100 ev_k142_100 j e (by omega) (by omega) hj else if h200 : j < 300 then ev_okm_cut 200 100 ev_k142_200 j e (by omega) (by omega) hj else (have hl : j < 338 := by have hl := (List.getElem?_eq_some_iff.mp hj).1; rw [ev_n142] at hl; exact hl
    ev_okm_cut 300 100 ev_k142_300 j e (by omega) (by omega) hj)
theorem ev_j142 : ev_ckM (yX12_second, cX12_second, (Option.some Jvm.ClassFile.FieldType.long)) (1, 1, 5, 9) [1101, 51] = true := by decide +kernel
set_option maxRecDepth 100000 in
theorem ev_k143 : ev_okm yX12_third cX12_third ev_c143 := ev_okm_one (pls := [[], [], [1137], [], [1138], [], [1139], [], [], [], [1140], [], [1115], [], [1141], [], [1138], [], [1142], [], [1138], [], [1128], [], [], [], [1143], [], [], [], [], []]) (by decide +kernel)
theorem ev_j143 : ev_ckM (yX12_third, cX12_third, (Option.some Jvm.ClassFile.FieldType.long)) (1, 1, 5, 9) [1136, 51] = true := by decide +kernel
end
section
set_option maxRecDepth 100000 in
theorem ev_k144 : ev_okm yX12_fourth cX12_fourth ev_c144 := ev_okm_one (pls := [[], [], [1115], [], [1109], [], [1107], [], [1147], [], [1138], [], [1113], [], [1148], [], [1149], [], [1150], [], [1151], [], [1117], [], [1152], [], [1153], [], [1154], [], [1103], [], [1155], [], [1120], [], [1126], [], [1111], [], [], []]) (by decide +kernel)
theorem ev_j144 : ev_ckM (yX12_fourth, cX12_fourth, (Option.some Jvm.ClassFile.FieldType.long)) (1, 1, 5, 9) [1146, 51] = true := by decide +kernel
set_option maxRecDepth 100000 in
theorem ev_k145 : ev_okm yX12_ending cX12_ending ev_c145 := ev_okm_one (pls := [[], [], [], [], [1099, 1100, 51, 1101], [], [], [], [], [], [1134, 1135, 51, 1136], [], [], [1144, 1145, 51, 1146], []]) (by decide +kernel)
theorem ev_j145 : ev_ckM (yX12_ending, cX12_ending, (Option.some Jvm.ClassFile.FieldType.long)) (2, 2, 5, 9) [1098, 51] = true := by decide +kernel
set_option maxRecDepth 100000 in
theorem ev_k146 : ev_okm yX12_longest cX12_longest ev_c146 := ev_okm_one (pls := [[], [], [], [], [], [], [], [], [], [], [], [], [], [], [], [1096, 1097, 51, 1098], [], [], [], [], [], [1096, 1097, 51, 1098], [], [], [], [1016, 1018, 16, 51, 1019], [], [], [1020, 1021, 51, 1022], [], [], [], [], [], [1020, 1021, 51, 1022], [], [], [], [], [], [], [], []]) (by decide +kernel)
theorem ev_j146 : ev_ckM (yX12_longest, cX12_longest, (Option.some Jvm.ClassFile.FieldType.int)) (8, 1, 1, 9) [1095, 51] = true := by decide +kernel
set_option maxRecDepth 100000 in
theorem ev_k147 : ev_okm yX12_replace cX12_replace ev_c147 := ev_okm_one (pls := [[], [], [1092, 1094, 28, 51, 1095], [], [], [], [], [], [], [], [1096, 1097, 51, 1098], [1020, 1021, 51, 1022], [], [], [], [], [], [877], [], [], [1059, 1061, 22, 51, 1062], [], [], [], [], [], [], [], [1096, 1097, 51, 1098], [1034, 1036, 18, 51, 1037], []]) (by decide +kernel)
theorem ev_j147 : ev_ckM (yX12_replace, cX12_replace, (Option.none : Option Jvm.ClassFile.FieldType)) (4, 1, 0, 9) [1091, 51] = true := by decide +kernel
set_option maxRecDepth 100000 in
theorem ev_k148_0 : ev_ckA yX12_do1b cX12_do1b 0 ((ev_c148.drop 0).take 100) [[], [1058], [1016, 1018, 16, 51, 1019], [], [], [], [877], [], [], [1059, 1061, 22, 51, 1062], [], [], [], [877], [], [], [877], [], [], [1070], [1016, 1018, 16, 51, 1019], [], [], [], [], [1071], [1016, 1018, 16, 51, 1019], [], [], [], [], [], [], [], [], [], [877], [], [], [1072, 1074, 24, 51, 1075], [], [], [], [], [877], [], [], [877], [], [1076], [1016, 1018, 16, 51, 1019], []] = true := by decide +kernel
set_option maxRecDepth 100000 in
theorem ev_k148_100 : ev_ckA yX12_do1b cX12_do1b 100 ((ev_c148.drop 100).take 100) [[], [1077], [1016, 1018, 16, 51, 1019], [], [], [1078], [1016, 1018, 16, 51, 1019], [], [], [], [1079], [1034, 1036, 18, 51, 1037], [], [], [877], [], [], [], [876], [], [877], [], [], [], [], [876], [], [877], [], [], [], [], [], [], [877], [], [], [1063, 1065, 23, 51, 1066], [], [], [], [877], [], [], [1063, 1065, 23, 51, 1066], [], [], [876], [], [877]] = true := by decide +kernel
set_option maxRecDepth 100000 in
theorem ev_k148_200 : ev_ckA yX12_do1b cX12_do1b 200 ((ev_c148.drop 200).take 100) [[], [], [], [], [], [], [877], [], [], [], [], [], [], [], [], [], [], [], [], [], [877], [], [], [], [], [], [], [], [], [], [], [1080, 1082, 25, 51, 1083], [], [], [1080, 1082, 25, 51, 1083], []] = true := by decide +kernel
set_option maxRecDepth 100000 in
theorem ev_n148 : ev_c148.length = 266 := by decide +kernel
theorem ev_k148 : ev_okm yX12_do1b cX12_do1b ev_c148 := fun j e hj => if h0 : j < 100 then ev_okm_cut 0 100 ev_k148_0 j e (by omega) (by omega) hj else if h100 : j < 200 then ev_okm_cut 100 100 ev_k148_100 j e (by omega) (by omega) hj else (have hl : j < 266 := by have hl := (List.getElem?_eq_some_iff.mp hj).1; rw [ev_n148] at hl; exact hl
    ev_okm_cut 200 100 ev_k148_200 j e (by omega) (by omega) hj)
theorem ev_j148 : ev_ckM (yX12_do1b, cX12_do1b, (Option.none : Option Jvm.ClassFile.FieldType)) (3, 0, 0, 9) [1057, 51] = true := by decide +kernel
set_option maxRecDepth 100000 in
theorem ev_k149 : ev_okm yX12_shortE cX12_shortE ev_c149 := ev_okm_one (pls := [[], [], [877], [1059, 1061, 22, 51, 1062], [], [], [], [], [877], [1084, 1086, 26, 51, 1087], [], [], [], [1079], [1034, 1036, 18, 51, 1037], []]) (by decide +kernel)
theorem ev_j149 : ev_ckM (yX12_shortE, cX12_shortE, (Option.none : Option Jvm.ClassFile.FieldType)) (1, 0, 0, 9) [1083, 51] = true := by decide +kernel
set_option maxRecDepth 100000 in
theorem ev_k150_0 : ev_ckA yX12_porterStep cX12_porterStep 0 ((ev_c150.drop 0).take 100) [[], [], [], [1053], [1016, 1018, 16, 51, 1019], [], [], [1015], [1016, 1018, 16, 51, 1019], [], [], [], [877], [], [], [877], [], [], [1042], [1016, 1018, 16, 51, 1019], [], [], [1044], [1016, 1018, 16, 51, 1019], [], [], [], [877]] = true := by decide +kernel
set_option maxRecDepth 100000 in
theorem ev_k150_100 : ev_ckA yX12_porterStep cX12_porterStep 100 ((ev_c150.drop 100).take 100) [[], [], [877], [], [], [1054, 1056, 21, 51, 1057], [], [], [1033], [1016, 1018, 16, 51, 1019], [], [], [], [877], [], [], [1072, 1074, 24, 51, 1075], [], [], [876], [], [877], [], [], [], [], [], [], [], [1088, 1090, 27, 51, 1091], [], [], [], [1088, 1090, 27, 51, 1091], [], [], [], [1092, 1094, 28, 51, 1095], [], [], [], [], [877], [], [1144, 1145, 51, 1146], [1020, 1021, 51, 1022], [], [], [], [], [1059, 1061, 22, 51, 1062]] = true := by decide +kernel
set_option maxRecDepth 100000 in
theorem ev_k150_200 : ev_ckA yX12_porterStep cX12_porterStep 200 ((ev_c150.drop 200).take 100) [[], [], [], [], [], [], [], [], [876], [], [], [], [], [], [], [], [876], [], [], [], [], [], [], [], [], [], [], [], [], [], [], [], [], [877], [877], [], [], [1079], [1016, 1018, 16, 51, 1019], [], [], [], [877], [], [], [1059, 1061, 22, 51, 1062], [], [], [], [877], [], [], [], [], []] = true := by decide +kernel
set_option maxRecDepth 100000 in
theorem ev_k150_300 : ev_ckA yX12_porterStep cX12_porterStep 300 ((ev_c150.drop 300).take 100) [[], [], [], [877], [], [], [1084, 1086, 26, 51, 1087], [], [], [], [], [], [877], [], [], [1156], [1016, 1018, 16, 51, 1019], [], [], [], [877], [1059, 1061, 22, 51, 1062], [], [], [], [], [877], [], [], [877], []] = true := by decide +kernel
set_option maxRecDepth 100000 in
theorem ev_n150 : ev_c150.length = 361 := by decide +kernel
theorem ev_k150 : ev_okm yX12_porterStep cX12_porterStep ev_c150 := fun j e hj => if h0 : j < 100 then ev_okm_cut 0 100 ev_k150_0 j e (by omega) (by omega) hj else if h100 : j < 200 then ev_okm_cut 100 100 ev_k150_100 j e (by omega) (by omega) hj else if h200 : j < 300 then ev_okm_cut 200 100 ev_k150_200 j e (by omega) (by omega) hj else (have hl : j < 361 := by have hl := (List.getElem?_eq_some_iff.mp hj).1; rw [ev_n150] at hl; exact hl
    ev_okm_cut 300 100 ev_k150_300 j e (by omega) (by omega) hj)
theorem ev_j150 : ev_ckM (yX12_porterStep, cX12_porterStep, (Option.none : Option Jvm.ClassFile.FieldType)) (5, 1, 0, 9) [1052, 51] = true := by decide +kernel
set_option maxRecDepth 100000 in
theorem ev_k151 : ev_okm yX12_porter cX12_porter ev_c151 := ev_okm_one (pls := [[], [877], [], [], [], [], [], [], [], [], [], [1049, 1051, 20, 51, 1052], [], [], []]) (by decide +kernel)
theorem ev_j151 : ev_ckM (yX12_porter, cX12_porter, (Option.none : Option Jvm.ClassFile.FieldType)) (3, 1, 0, 9) [1048, 51] = true := by decide +kernel
set_option maxRecDepth 100000 in
theorem ev_k152 : ev_okm yX12_endsWith cX12_endsWith ev_c152 := ev_okm_one (pls := [[], [861], [], [], [], [877], [], [], [], [], [], [], [], [], [], [], [], [861], [], [], [], [], [876], [], [877], [], [861], [], [], [], [], [], [], [], [860], [], [], [], [], [], [], [], [], [], [], [], [], [], [], []]) (by decide +kernel)
theorem ev_j152 : ev_ckM (yX12_endsWith, cX12_endsWith, (Option.some Jvm.ClassFile.FieldType.boolean)) (4, 1, 2, 9) [1164, 51] = true := by decide +kernel
set_option maxRecDepth 100000 in
theorem ev_k153 : ev_okm yX12_isGood cX12_isGood ev_c153 := ev_okm_one (pls := [[], [], [], [], [], [], [], [], [], [], [], [876], [], [], [1067, 1068, 51, 1069], [], [], [], [], [], [], [], [], [], [], [], [], [], [], [], [], [], [876], [], [], [1067, 1068, 51, 1069], [], [], [876], [], [], [], [], [], [], [], [], [], [], [], [], [], [], [], [], [], [], [], []]) (by decide +kernel)
theorem ev_j153 : ev_ckM (yX12_isGood, cX12_isGood, (Option.some Jvm.ClassFile.FieldType.boolean)) (5, 2, 2, 9) [1168, 51] = true := by decide +kernel
set_option maxRecDepth 100000 in
theorem ev_k154_0 : ev_ckA yX12_husk cX12_husk 0 ((ev_c154.drop 0).take 100) [[], [], [], [], [], [], [], [], [], [], [], [870], [], [], [], [865], [], [], [1161, 1163, 30, 51, 1164], [], [], [], [], [866], [], [], [], [], [], [877], [], [867], [], [], [], [], [868], [], [], [], [], [], [], [], [861], [], [868], [], [], [], [1165, 1167, 31, 51, 1168], [], [], [], [], [], [870]] = true := by decide +kernel
set_option maxRecDepth 100000 in
theorem ev_k154_100 : ev_ckA yX12_husk cX12_husk 100 ((ev_c154.drop 100).take 100) [[], [], [], [], [877], [], [867], [], [], [], [877], [], [868], [], [], [], [], [], [], [], [], [], [], [861], [], [], [], [], [876], [], [877], [], [860], [], [], [], [], [], [], [], [], [], [877], [], [], [877], [], [], [], [], [], [869], [], [], [], []] = true := by decide +kernel
set_option maxRecDepth 100000 in
theorem ev_k154_200 : ev_ckA yX12_husk cX12_husk 200 ((ev_c154.drop 200).take 100) [[], [], []] = true := by decide +kernel
set_option maxRecDepth 100000 in
theorem ev_n154 : ev_c154.length = 207 := by decide +kernel
theorem ev_k154 : ev_okm yX12_husk cX12_husk ev_c154 := fun j e hj => if h0 : j < 100 then ev_okm_cut 0 100 ev_k154_0 j e (by omega) (by omega) hj else if h100 : j < 200 then ev_okm_cut 100 100 ev_k154_100 j e (by omega) (by omega) hj else (have hl : j < 207 := by have hl := (List.getElem?_eq_some_iff.mp hj).1; rw [ev_n154] at hl; exact hl
    ev_okm_cut 200 100 ev_k154_200 j e (by omega) (by omega) hj)
theorem ev_j154 : ev_ckM (yX12_husk, cX12_husk, (Option.none : Option Jvm.ClassFile.FieldType)) (6, 0, 0, 9) [1160, 51] = true := by decide +kernel
set_option maxRecDepth 100000 in
theorem ev_k155 : ev_okm yX12_stemOf cX12_stemOf ev_c155 := ev_okm_one (pls := [[], [], [], [], [], [863], [], [], [], [], [], [], [], [], [], [864], [], [], [], [], [], [], [864], [], [], [995, 997, 12, 51, 998], [], [], [], [], [], [1011, 1013, 15, 51, 1014], [], [], [], [], [], [], [1045, 1047, 19, 51, 1048], [], [], [1157, 1159, 29, 51, 1160], []]) (by decide +kernel)
theorem ev_j155 : ev_ckM (yX12_stemOf, cX12_stemOf, (Option.none : Option Jvm.ClassFile.FieldType)) (3, 2, 0, 9) [1010, 51] = true := by decide +kernel
set_option maxRecDepth 100000 in
theorem ev_k156 : ev_okm yX12_stem cX12_stem ev_c156 := ev_okm_one (pls := [[], [], [991, 993, 11, 51, 994], [], [], [], [], [], [], [968, 969, 51, 970], [], [], [], [], [], [995, 997, 12, 51, 998], [], [], [], [1007, 1009, 14, 51, 1010], [], [999, 1001, 13, 51, 1002], []]) (by decide +kernel)
theorem ev_j156 : ev_ckM (yX12_stem, cX12_stem, (Option.some Jvm.ClassFile.FieldType.int)) (3, 2, 1, 9) [1006, 51] = true := by decide +kernel
set_option maxRecDepth 100000 in
theorem ev_k157 : ev_okm yX12_step cX12_step ev_c157 := ev_okm_one (pls := [[], [], [991, 993, 11, 51, 994], [], [], [], [], [], [], [968, 969, 51, 970], [], [], [], [], [], [995, 997, 12, 51, 998], [], [], [1045, 1047, 19, 51, 1048], [], [999, 1001, 13, 51, 1002], []]) (by decide +kernel)
theorem ev_j157 : ev_ckM (yX12_step, cX12_step, (Option.some Jvm.ClassFile.FieldType.int)) (3, 2, 1, 9) [1172, 51] = true := by decide +kernel
set_option maxRecDepth 100000 in
theorem ev_k158 : ev_okm yX12_measure cX12_measure ev_c158 := ev_okm_one (pls := [[], [], [991, 993, 11, 51, 994], [], [], [], [], [], [995, 997, 12, 51, 998], [], [], [877], [1059, 1061, 22, 51, 1062], []]) (by decide +kernel)
theorem ev_j158 : ev_ckM (yX12_measure, cX12_measure, (Option.some Jvm.ClassFile.FieldType.int)) (2, 1, 1, 9) [1176, 51] = true := by decide +kernel
set_option maxRecDepth 100000 in
theorem ev_k159 : ev_okm yX12_mark cX12_mark ev_c159 := ev_okm_one (pls := [[], [], [991, 993, 11, 51, 994], [], [], [], [], [], [], [968, 969, 51, 970], [], [], [], [], [], [], [], [], [863], [], [], [], [], [], [], [], [], [], [], [863], [], [], [], [], [863], [], [], [], [], [], [], [863], [], [], [], [], [], [], [], [], [], [], [], [], [], []]) (by decide +kernel)
theorem ev_j159 : ev_ckM (yX12_mark, cX12_mark, (Option.some Jvm.ClassFile.FieldType.int)) (6, 3, 1, 9) [1180, 51] = true := by decide +kernel
end
section
set_option maxRecDepth 100000 in
theorem ev_k160 : ev_okm yX12_pair cX12_pair ev_c160 := ev_okm_one (pls := [[], [], [991, 993, 11, 51, 994], [], [], [], [], [], [], [991, 993, 11, 51, 994], [], [], [], [], [864], [], [], [], [], [864], [], [], [], [], []]) (by decide +kernel)
theorem ev_j160 : ev_ckM (yX12_pair, cX12_pair, (Option.some Jvm.ClassFile.FieldType.int)) (4, 2, 1, 9) [1184, 51] = true := by decide +kernel
set_option maxRecDepth 100000 in
theorem ev_k161 : ev_okm yX12_row cX12_row ev_c161 := ev_okm_one (pls := [[], [], [991, 993, 11, 51, 994], [], [], [], [], [], [], [991, 993, 11, 51, 994], [], [], [], [], [861], [], [], [], [], [], [], [], [], [861], [], [], [], [], [], [], [], [968, 969, 51, 970], [], [], [], [], [870], [], [], [], [], [], [865], [], [870], [], [], [], [866], [], [870], [], [], [], [867], [], [870], [], [], [], [868], [], [870], [], [], [], [869], [], [870], [], [], [], [], [870], [], [], [870], [], [870], [], [], []]) (by decide +kernel)
theorem ev_j161 : ev_ckM (yX12_row, cX12_row, (Option.some Jvm.ClassFile.FieldType.int)) (6, 5, 1, 9) [1188, 51] = true := by decide +kernel
set_option maxRecDepth 100000 in
theorem ev_k162 : ev_okm yX12_rowless cX12_rowless ev_c162 := ev_okm_one (pls := [[], [870], [], [], [], [870], [], []]) (by decide +kernel)
theorem ev_j162 : ev_ckM (yX12_rowless, cX12_rowless, (Option.some Jvm.ClassFile.FieldType.int)) (2, 0, 1, 9) [1192, 51] = true := by decide +kernel
set_option maxRecDepth 100000 in
theorem ev_k163 : ev_okm yX12_affix cX12_affix ev_c163 := ev_okm_one (pls := [[], [], [991, 993, 11, 51, 994], [], [], [], [], [], [], [991, 993, 11, 51, 994], [], [], [], [], [861], [], [], [], [], [], [], [], [], [861], [], [], [], [], [], [], [], [874], [], [], [], [], [], [871], [], [874], [], [], [], [872], [], [874], [], [], [], [873], [], [874], [], [], [], [], [874], [], [], [874], [], [874], [], [], []]) (by decide +kernel)
theorem ev_j163 : ev_ckM (yX12_affix, cX12_affix, (Option.some Jvm.ClassFile.FieldType.int)) (4, 3, 1, 9) [1196, 51] = true := by decide +kernel
set_option maxRecDepth 100000 in
theorem ev_k164 : ev_okm yX12_isMember cX12_isMember ev_c164 := ev_okm_one (pls := [[], [], [], [863], [], [], [], [], [], [], [], [], []]) (by decide +kernel)
theorem ev_j164 : ev_ckM (yX12_isMember, cX12_isMember, (Option.some Jvm.ClassFile.FieldType.boolean)) (2, 1, 2, 9) [1204, 51] = true := by decide +kernel
set_option maxRecDepth 100000 in
theorem ev_k165_0 : ev_ckA yX12_byAffix cX12_byAffix 0 ((ev_c165.drop 0).take 100) [[], [861], [], [872], [], [], [], [], [], [], [872], [], [], [], [], [], [861], [], [], [], [], [], [], [], [], [], [871], [], [], [], [], [], [], [], [], [], [], [], [], [], [], [], [860], [], [], [], [], [], [], [], [], [], [860], [], [], [], [], [], [], [], []] = true := by decide +kernel
set_option maxRecDepth 100000 in
theorem ev_k165_100 : ev_ckA yX12_byAffix cX12_byAffix 100 ((ev_c165.drop 100).take 100) [[], [], [], [877], [], [871], [], [], [], [], [], [], [], [], [], [1209, 1211, 34, 51, 1212], [], [], [873], [], [], [], [], [1209, 1211, 34, 51, 1212], [], [], [], [873], [], [], [], [], [1209, 1211, 34, 51, 1212], [], [], [], [], [1209, 1211, 34, 51, 1212], [], [877], [], [], [], [], [], [], [], [877], [983, 985, 10, 51, 986], [], [], [], [1201, 1203, 32, 51, 1204], [], [], []] = true := by decide +kernel
set_option maxRecDepth 100000 in
theorem ev_k165_200 : ev_ckA yX12_byAffix cX12_byAffix 200 ((ev_c165.drop 200).take 100) [[], []] = true := by decide +kernel
set_option maxRecDepth 100000 in
theorem ev_n165 : ev_c165.length = 204 := by decide +kernel
theorem ev_k165 : ev_okm yX12_byAffix cX12_byAffix ev_c165 := fun j e hj => if h0 : j < 100 then ev_okm_cut 0 100 ev_k165_0 j e (by omega) (by omega) hj else if h100 : j < 200 then ev_okm_cut 100 100 ev_k165_100 j e (by omega) (by omega) hj else (have hl : j < 204 := by have hl := (List.getElem?_eq_some_iff.mp hj).1; rw [ev_n165] at hl; exact hl
    ev_okm_cut 200 100 ev_k165_200 j e (by omega) (by omega) hj)
theorem ev_j165 : ev_ckM (yX12_byAffix, cX12_byAffix, (Option.some Jvm.ClassFile.FieldType.int)) (8, 2, 1, 9) [1208, 51] = true := by decide +kernel
set_option maxRecDepth 100000 in
theorem ev_k166 : ev_okm yX12_add cX12_add ev_c166 := ev_okm_one (pls := [[], [], [], [], [], [], [], [], [], [], [861], [], [], [], [], [876], [], [877], [], [860], [], [], [], [], [], [], [], [], [], [877], [], [], [877], [], [], []]) (by decide +kernel)
theorem ev_j166 : ev_ckM (yX12_add, cX12_add, (Option.none : Option Jvm.ClassFile.FieldType)) (5, 3, 0, 9) [1212, 51] = true := by decide +kernel
set_option maxRecDepth 100000 in
theorem ev_k167 : ev_okm yX12_base cX12_base ev_c167 := ev_okm_one (pls := [[], [], [991, 993, 11, 51, 994], [], [], [], [], [], [], [], [1201, 1203, 32, 51, 1204], [], [], [878], [], [], [], [], [], [], [], [], [874], [], [], [], [], [1205, 1207, 33, 51, 1208], [], [], [], [], [], [], [], [], [], [], [], [], [], [], [878], [], [], [], [], [], [], [], [], [], [], [], [], [], [], [878], [], [], [], [], [], [], [], [], [], [], [], [968, 969, 51, 970], [], [], [], [], [878], [], [], []]) (by decide +kernel)
theorem ev_j167 : ev_ckM (yX12_base, cX12_base, (Option.some Jvm.ClassFile.FieldType.int)) (8, 2, 1, 9) [1200, 51] = true := by decide +kernel
set_option maxRecDepth 100000 in
theorem ev_k168 : ev_okm yX12_least cX12_least ev_c168 := ev_okm_one (pls := [[], [], [], [968, 969, 51, 970], [], [], [], [], [875], [], [], [], [875], [], []]) (by decide +kernel)
theorem ev_j168 : ev_ckM (yX12_least, cX12_least, (Option.some Jvm.ClassFile.FieldType.int)) (3, 1, 1, 9) [1216, 51] = true := by decide +kernel
set_option maxRecDepth 100000 in
theorem ev_k169_0 : ev_ckA yX12_part cX12_part 0 ((ev_c169.drop 0).take 100) [[], [], [991, 993, 11, 51, 994], [], [], [], [], [], [995, 997, 12, 51, 998], [], [879], [], [877], [], [], [], [877], [], [], [], [], [], [], [879], [], [], [], [], [875], [], [], [], [], [], [877], [], [], [], [], [], [877], [], [], [], [], [], [], [], [], [879], [], [], [], [], [], []] = true := by decide +kernel
set_option maxRecDepth 100000 in
theorem ev_k169_100 : ev_ckA yX12_part cX12_part 100 ((ev_c169.drop 100).take 100) [[], [], [], [], [], [983, 985, 10, 51, 986], [], [], [], [1201, 1203, 32, 51, 1204], [], [], [879], [], [], [], [], [], [], [], [879], [], [], [], [], [879], [], [], [879], [], [], [], [], [], [], [], [], [880], [], [], [], [], [881], [], [], [], [], [], [], [], [], [879], [], [], [], [], [], []] = true := by decide +kernel
set_option maxRecDepth 100000 in
theorem ev_k169_200 : ev_ckA yX12_part cX12_part 200 ((ev_c169.drop 200).take 100) [[], [879], [], [], [], [], [], [], [], [], [], [], [], [], [], [968, 969, 51, 970], [], [], [], [], [], [], [], [], [], [], [], [], [880], [], [], [], [], [], [], [], [881], [], [], []] = true := by decide +kernel
set_option maxRecDepth 100000 in
theorem ev_n169 : ev_c169.length = 268 := by decide +kernel
theorem ev_k169 : ev_okm yX12_part cX12_part ev_c169 := fun j e hj => if h0 : j < 100 then ev_okm_cut 0 100 ev_k169_0 j e (by omega) (by omega) hj else if h100 : j < 200 then ev_okm_cut 100 100 ev_k169_100 j e (by omega) (by omega) hj else (have hl : j < 268 := by have hl := (List.getElem?_eq_some_iff.mp hj).1; rw [ev_n169] at hl; exact hl
    ev_okm_cut 200 100 ev_k169_200 j e (by omega) (by omega) hj)
theorem ev_j169 : ev_ckM (yX12_part, cX12_part, (Option.some Jvm.ClassFile.FieldType.int)) (7, 2, 1, 9) [1220, 51] = true := by decide +kernel
set_option maxRecDepth 100000 in
theorem ev_k170 : ev_okm yX12_figure cX12_figure ev_c170 := ev_okm_one (pls := [[], [], [], [], [], [], [], [], [], [], [], [], [], [], [], []]) (by decide +kernel)
theorem ev_j170 : ev_ckM (yX12_figure, cX12_figure, (Option.some Jvm.ClassFile.FieldType.int)) (1, 1, 1, 9) [1231, 51] = true := by decide +kernel
set_option maxRecDepth 100000 in
theorem ev_k171 : ev_okm yX12_keyByFigures cX12_keyByFigures ev_c171 := ev_okm_one (pls := [[], [858], [], [], [876], [], [], [], [], [], [859], [], [], [], [], [877], [], [], [859], [], [], [], [], [], [], [], [], [], [876], [], [], [], [], [], [876], [], [], [], [], [], [], [], [876], [], [], [1229, 1230, 51, 1231], [], [], [], [], [], [876], [], [], [1229, 1230, 51, 1231], [], [], [858], [], [859], [], [], [], [], [859], [], [], [859], [], [], [], [859], [], [], [], [858], [], [859], [], [], [], [], [859], [], [], [859], [], [], [859], []]) (by decide +kernel)
theorem ev_j171 : ev_ckM (yX12_keyByFigures, cX12_keyByFigures, (Option.some Jvm.ClassFile.FieldType.int)) (4, 0, 1, 9) [1228, 51] = true := by decide +kernel
set_option maxRecDepth 100000 in
theorem ev_k172 : ev_okm yX12_stands cX12_stands ev_c172 := ev_okm_one (pls := [[], [1020, 1021, 51, 1022], [], [], [], [], [], [877], [], [], [], [], [], [], [], [], [], [], [], [], [], [876], [], [], [], [], [], [], [1027, 1028, 51, 1029], [], [], [], [], [], [], [], [], []]) (by decide +kernel)
theorem ev_j172 : ev_ckM (yX12_stands, cX12_stands, (Option.some Jvm.ClassFile.FieldType.boolean)) (7, 2, 2, 9) [1026, 51] = true := by decide +kernel
set_option maxRecDepth 100000 in
theorem ev_k173 : ev_okm yX12_becomes cX12_becomes ev_c173 := ev_okm_one (pls := [[], [], [], [1023, 1025, 17, 51, 1026], [], [], [1020, 1021, 51, 1022], [], [], [], [], [], [], [], [], [], [876], [], [], [], [], [], [1027, 1028, 51, 1029], [], [], [], [], []]) (by decide +kernel)
theorem ev_j173 : ev_ckM (yX12_becomes, cX12_becomes, (Option.some Jvm.ClassFile.FieldType.boolean)) (9, 3, 2, 9) [1241, 51] = true := by decide +kernel
set_option maxRecDepth 100000 in
theorem ev_k174_0 : ev_ckA yX12_keyBySounds cX12_keyBySounds 0 ((ev_c174.drop 0).take 100) [[], [], [1236], [1237], [1238, 1240, 37, 51, 1241], [], [], [], [1242], [1243], [1238, 1240, 37, 51, 1241], [], [], [], [1244], [1245], [1238, 1240, 37, 51, 1241], [], [], [], [1246], [1247], [1238, 1240, 37, 51, 1241], [], [], [], [1248], [1247], [1238, 1240, 37, 51, 1241], [], [], [], [1249], [1250], [1238, 1240, 37, 51, 1241], [], [], [], [], [], [], [877], [], [], [], [1251]] = true := by decide +kernel
set_option maxRecDepth 100000 in
theorem ev_k174_100 : ev_ckA yX12_keyBySounds cX12_keyBySounds 100 ((ev_c174.drop 100).take 100) [[1016, 1018, 16, 51, 1019], [], [], [1252], [1016, 1018, 16, 51, 1019], [], [], [], [1033], [1034, 1036, 18, 51, 1037], [], [], [1253], [1016, 1018, 16, 51, 1019], [], [], [1254], [1016, 1018, 16, 51, 1019], [], [], [1255], [1016, 1018, 16, 51, 1019], [], [], [1256], [1016, 1018, 16, 51, 1019], [], [], [1257], [1016, 1018, 16, 51, 1019], [], [], [], [1258], [1034, 1036, 18, 51, 1037], [], [858], [], [], [876], [], [], [], []] = true := by decide +kernel
set_option maxRecDepth 100000 in
theorem ev_k174_200 : ev_ckA yX12_keyBySounds cX12_keyBySounds 200 ((ev_c174.drop 200).take 100) [[], [859], [], [], [], [], [877], [], [], [], [1259, 1261, 38, 51, 1262], [], [876], [], [], [], [858], [], [859], [], [], [], [], [], [858], [], [859], [], [876], [], [], [], [], [], [859], [], [], [859], [], [], [], [859], [], [], [], [858], [], [859], [], [], [], [], [], [], [], [859], []] = true := by decide +kernel
set_option maxRecDepth 100000 in
theorem ev_k174_300 : ev_ckA yX12_keyBySounds cX12_keyBySounds 300 ((ev_c174.drop 300).take 100) [[], [859], [], [859], [], [], [], [858], [], [859], [], [], [], [], [], [], [858], [], [859], [], [], [], [], [], [], [], [859], [], [], [859], [], [858], [], [859], [], [], [], [], [], [859], [], [], [], [858], [], [859], [], [], [], [], [], [], [], [859], [], [], [859]] = true := by decide +kernel
set_option maxRecDepth 100000 in
theorem ev_k174_400 : ev_ckA yX12_keyBySounds cX12_keyBySounds 400 ((ev_c174.drop 400).take 100) [[], [], [859], [], [1265, 1266, 51, 1267], [859], [], [859], []] = true := by decide +kernel
set_option maxRecDepth 100000 in
theorem ev_n174 : ev_c174.length = 419 := by decide +kernel
theorem ev_k174 : ev_okm yX12_keyBySounds cX12_keyBySounds ev_c174 := fun j e hj => if h0 : j < 100 then ev_okm_cut 0 100 ev_k174_0 j e (by omega) (by omega) hj else if h100 : j < 200 then ev_okm_cut 100 100 ev_k174_100 j e (by omega) (by omega) hj else if h200 : j < 300 then ev_okm_cut 200 100 ev_k174_200 j e (by omega) (by omega) hj else if h300 : j < 400 then ev_okm_cut 300 100 ev_k174_300 j e (by omega) (by omega) hj else (have hl : j < 419 := by have hl := (List.getElem?_eq_some_iff.mp hj).1; rw [ev_n174] at hl; exact hl
    ev_okm_cut 400 100 ev_k174_400 j e (by omega) (by omega) hj)
theorem ev_j174 : ev_ckM (yX12_keyBySounds, cX12_keyBySounds, (Option.some Jvm.ClassFile.FieldType.int)) (3, 0, 1, 9) [1235, 51] = true := by decide +kernel
set_option maxRecDepth 100000 in
theorem ev_k175_0 : ev_ckA yX12_sound cX12_sound 0 ((ev_c175.drop 0).take 100) [[], [], [1263], [1264], [1238, 1240, 37, 51, 1241], [], [], [], [876], [], [], [], [], [1067, 1068, 51, 1069], [], [], [876], [], [], [], [], [], [], [], [], [876], [], [], [], [], [], [], [], [], [876], [], [], [], [], [], [], [], [], [876], [], [], [], [], [], [], [], [], [876]] = true := by decide +kernel
set_option maxRecDepth 100000 in
theorem ev_k175_100 : ev_ckA yX12_sound cX12_sound 100 ((ev_c175.drop 100).take 100) [[], [], [], [1242], [1023, 1025, 17, 51, 1026], [], [], [], [], [], [], [], [], [1249], [1250], [1238, 1240, 37, 51, 1241], [], [], [], [1246], [1247], [1238, 1240, 37, 51, 1241], [], [], [], [], [], [876], [], [], [], [], [1067, 1068, 51, 1069], [], [], [], [], [], [877], [], [], [876], [], [], [], [], [1067, 1068, 51, 1069], [], [], []] = true := by decide +kernel
set_option maxRecDepth 100000 in
theorem ev_k175_200 : ev_ckA yX12_sound cX12_sound 200 ((ev_c175.drop 200).take 100) [[], [], [], [], [], [], [], [], [876], [], [], [], [], [1067, 1068, 51, 1069], [], [], [876], [], [], [876], [], [], [], [], [], []] = true := by decide +kernel
set_option maxRecDepth 100000 in
theorem ev_n175 : ev_c175.length = 241 := by decide +kernel
theorem ev_k175 : ev_okm yX12_sound cX12_sound ev_c175 := fun j e hj => if h0 : j < 100 then ev_okm_cut 0 100 ev_k175_0 j e (by omega) (by omega) hj else if h100 : j < 200 then ev_okm_cut 100 100 ev_k175_100 j e (by omega) (by omega) hj else (have hl : j < 241 := by have hl := (List.getElem?_eq_some_iff.mp hj).1; rw [ev_n175] at hl; exact hl
    ev_okm_cut 200 100 ev_k175_200 j e (by omega) (by omega) hj)
theorem ev_j175 : ev_ckM (yX12_sound, cX12_sound, (Option.none : Option Jvm.ClassFile.FieldType)) (4, 1, 0, 9) [1262, 51] = true := by decide +kernel
end
section
set_option maxRecDepth 100000 in
theorem ev_k176 : ev_okm yX12_key cX12_key ev_c176 := ev_okm_one (pls := [[], [], [991, 993, 11, 51, 994], [], [], [], [], [], [], [968, 969, 51, 970], [], [], [], [], [], [995, 997, 12, 51, 998], [], [], [], [1225, 1227, 35, 51, 1228], [], [], [1232, 1234, 36, 51, 1235], []]) (by decide +kernel)
theorem ev_j176 : ev_ckM (yX12_key, cX12_key, (Option.some Jvm.ClassFile.FieldType.int)) (3, 2, 1, 9) [1224, 51] = true := by decide +kernel
set_option maxRecDepth 100000 in
theorem ev_k177 : ev_okm yX12_letterAt cX12_letterAt ev_c177 := ev_okm_one (pls := [[], [], [], [], [], [], [], [], [856], [], [], [], [], [], [856], [], [], [], [], [], [856], [], [], [], [], [], [], [856], [], [], [], [], [], [], [968, 969, 51, 970], [], [], [], [], []]) (by decide +kernel)
theorem ev_j177 : ev_ckM (yX12_letterAt, cX12_letterAt, (Option.some Jvm.ClassFile.FieldType.int)) (4, 2, 1, 9) [1275, 51] = true := by decide +kernel
set_option maxRecDepth 100000 in
theorem ev_k178_0 : ev_ckA yX12_text cX12_text 0 ((ev_c178.drop 0).take 100) [[], [857], [], [], [], [857], [], [], [], [968, 969, 51, 970], [], [], [], [], [862], [], [], [], [885], [], [], [], [], [], [], [], [], [885], [], [], [], [], [], [1272, 1274, 39, 51, 1275], [], [], [], [], [], [], [], [], [1272, 1274, 39, 51, 1275], [], [], [], [], [], [856], [], [], [], []] = true := by decide +kernel
set_option maxRecDepth 100000 in
theorem ev_k178_100 : ev_ckA yX12_text cX12_text 100 ((ev_c178.drop 100).take 100) [[], [], [], [], [], [1272, 1274, 39, 51, 1275], [], [], [], [], [], [], [1272, 1274, 39, 51, 1275], [], [], [887], [], [], [], [], [1272, 1274, 39, 51, 1275], [], [], [888], [], [], [], [], [], [], [], [], [], [], [887], [], [], [], [], [], [], [], [887], [], [], [], [], [], [], [], [], [], [], [], []] = true := by decide +kernel
set_option maxRecDepth 100000 in
theorem ev_k178_200 : ev_ckA yX12_text cX12_text 200 ((ev_c178.drop 200).take 100) [[], [], [887], [], [], [], [], [887], [], [], [887], [], [], [], [], [888], [], [], [888], [], [], [], [], [], [], [], [], [], [], [], [], [885], [], [], [], [], [], [], [], [1265, 1266, 51, 1267], [877], [], [], [], [], [877], [], [], [876]] = true := by decide +kernel
set_option maxRecDepth 100000 in
theorem ev_k178_300 : ev_ckA yX12_text cX12_text 300 ((ev_c178.drop 300).take 100) [[], [], [887], [], [], [], [], [], [], [], [], [], [877], [], [], [], [], [888], [], [], [877], [], [], [], [], [], [], [], [], [877], [983, 985, 10, 51, 986], [], [], [], [], [863], [], [], [], [], [], [], [], [], [], [888], [], [], [], [], [888], [], [], [], [1276, 1278, 40, 51, 1279]] = true := by decide +kernel
set_option maxRecDepth 100000 in
theorem ev_k178_400 : ev_ckA yX12_text cX12_text 400 ((ev_c178.drop 400).take 100) [[], [], [], [862], [], [], [], [], [], [], [], [], [885], [883], [], [], [], [], [], [883], [], [], [], [882], [], [], [884], [], [], [], [], [], [], [], [886], [], [883], []] = true := by decide +kernel
set_option maxRecDepth 100000 in
theorem ev_n178 : ev_c178.length = 478 := by decide +kernel
theorem ev_k178 : ev_okm yX12_text cX12_text ev_c178 := fun j e hj => if h0 : j < 100 then ev_okm_cut 0 100 ev_k178_0 j e (by omega) (by omega) hj else if h100 : j < 200 then ev_okm_cut 100 100 ev_k178_100 j e (by omega) (by omega) hj else if h200 : j < 300 then ev_okm_cut 200 100 ev_k178_200 j e (by omega) (by omega) hj else if h300 : j < 400 then ev_okm_cut 300 100 ev_k178_300 j e (by omega) (by omega) hj else (have hl : j < 478 := by have hl := (List.getElem?_eq_some_iff.mp hj).1; rw [ev_n178] at hl; exact hl
    ev_okm_cut 400 100 ev_k178_400 j e (by omega) (by omega) hj)
theorem ev_j178 : ev_ckM (yX12_text, cX12_text, (Option.some Jvm.ClassFile.FieldType.int)) (11, 1, 1, 9) [1271, 51] = true := by decide +kernel
set_option maxRecDepth 100000 in
theorem ev_k179 : ev_okm yX12_lay cX12_lay ev_c179 := ev_okm_one (pls := [[], [979, 981, 9, 51, 982], [], [], [], [], [], [], [], [], [1007, 1009, 14, 51, 1010], [], [979, 981, 9, 51, 982], [], [], [], [885], [], [], [], [884], [], [], [], [], [884], [], [], [], [], [], [], [884], [], [], [], [], [], [], [884], [], [], [], [], [], [], [884], [], [], [], [], [], [], [], [885], [], [], [885], [], [], [], [], [], []]) (by decide +kernel)
theorem ev_j179 : ev_ckM (yX12_lay, cX12_lay, (Option.some Jvm.ClassFile.FieldType.boolean)) (8, 4, 2, 9) [1279, 51] = true := by decide +kernel
set_option maxRecDepth 100000 in
theorem ev_k180 : ev_okm yX12_token cX12_token ev_c180 := ev_okm_one (pls := [[], [], [], [968, 969, 51, 970], [], [], [], [], [], [], [883], [], [], [968, 969, 51, 970], [], [], [], [], [882], [], [], [], [], [], [], []]) (by decide +kernel)
theorem ev_j180 : ev_ckM (yX12_token, cX12_token, (Option.some Jvm.ClassFile.FieldType.int)) (3, 2, 1, 9) [1283, 51] = true := by decide +kernel
set_option maxRecDepth 100000 in
theorem ev_k181 : ev_okm yX12_told cX12_told ev_c181 := ev_okm_one (pls := [[], [], [], [862], [], [], [883], [], [], [870], [], [], [874], [], [], [886], [], [], [857], [], [], []]) (by decide +kernel)
theorem ev_j181 : ev_ckM (yX12_told, cX12_told, (Option.some Jvm.ClassFile.FieldType.int)) (2, 1, 1, 9) [1287, 51] = true := by decide +kernel
set_option maxRecDepth 100000 in
theorem ev_k182 : ev_okm yJ6_bitCount_0f7a4 cJ6_bitCount_0f7a4 ev_c182 := ev_okm_one (pls := [[], [], [], [], [488], [], [], [], [], [489], [], [], [], [], [489], [], [], [], [], [], [], [], [], [490], [], [], [], [], [], [], [], [], [], [], [], [], [], [], [], [], [], []]) (by decide +kernel)
theorem ev_j182 : ev_ckM (yJ6_bitCount_0f7a4, cJ6_bitCount_0f7a4, (Option.some Jvm.ClassFile.FieldType.int)) (1, 1, 1, 98) [487, 57] = true := by decide +kernel
set_option maxRecDepth 100000 in
theorem ev_k183 : ev_okm yJ0_length_8abf5 cJ0_length_8abf5 ev_c183 := ev_okm_one (pls := [[], [1288], [], [], [386, 387, 388, 52, 389], [], []]) (by decide +kernel)
theorem ev_j183 : ev_ckM (yJ0_length_8abf5, cJ0_length_8abf5, (Option.some Jvm.ClassFile.FieldType.int)) (1, 0, 1, 99) [385, 52] = true := by decide +kernel
set_option maxRecDepth 100000 in
theorem ev_k184 : ev_okm yJ0_charAt_5068e cJ0_charAt_5068e ev_c184 := ev_okm_one (pls := [[], [400, 401, 402, 52, 403], [], [], [1288], [], [404, 405, 53, 406], [], [], [1288], [], []]) (by decide +kernel)
theorem ev_j184 : ev_ckM (yJ0_charAt_5068e, cJ0_charAt_5068e, (Option.some Jvm.ClassFile.FieldType.char)) (2, 1, 3, 99) [399, 52] = true := by decide +kernel
set_option maxRecDepth 100000 in
theorem ev_k185 : ev_okm yJ0_coder_7d493 cJ0_coder_7d493 ev_c185 := ev_okm_one (pls := [[390], [], [], [1289], [], [], []]) (by decide +kernel)
theorem ev_j185 : ev_ckM (yJ0_coder_7d493, cJ0_coder_7d493, (Option.some Jvm.ClassFile.FieldType.byte)) (1, 0, 6, 99) [389, 52] = true := by decide +kernel
set_option maxRecDepth 100000 in
theorem ev_k186 : ev_okm yJ0_isLatin1_aae02 cJ0_isLatin1_aae02 ev_c186 := ev_okm_one (pls := [[390], [], [], [1289], [], [], [], [], []]) (by decide +kernel)
theorem ev_j186 : ev_ckM (yJ0_isLatin1_aae02, cJ0_isLatin1_aae02, (Option.some Jvm.ClassFile.FieldType.boolean)) (1, 0, 2, 99) [403, 52] = true := by decide +kernel
set_option maxRecDepth 100000 in
theorem ev_k187 : ev_okm yJ0_checkIndex_df160 cJ0_checkIndex_df160 ev_c187 := ev_okm_one (pls := [[], [], [410], [412, 413, 54, 414], [], []]) (by decide +kernel)
theorem ev_j187 : ev_ckM (yJ0_checkIndex_df160, cJ0_checkIndex_df160, (Option.none : Option Jvm.ClassFile.FieldType)) (2, 2, 0, 99) [409, 52] = true := by decide +kernel
set_option maxRecDepth 100000 in
theorem ev_k188 : ev_okm yJ1_charAt_3b067 cJ1_charAt_3b067 ev_c188 := ev_okm_one (pls := [[], [], [], [407, 408, 52, 409], [], [], [], [], [], [], []]) (by decide +kernel)
theorem ev_j188 : ev_ckM (yJ1_charAt_3b067, cJ1_charAt_3b067, (Option.some Jvm.ClassFile.FieldType.char)) (2, 2, 3, 98) [406, 53] = true := by decide +kernel
set_option maxRecDepth 100000 in
theorem ev_k189 : ev_okm yJ3_checkIndex_8e157 cJ3_checkIndex_8e157 ev_c189 := ev_okm_one (pls := [[], [], [], [], [], [], [], [], [], []]) (by decide +kernel)
theorem ev_j189 : ev_ckM (yJ3_checkIndex_8e157, cJ3_checkIndex_8e157, (Option.some Jvm.ClassFile.FieldType.int)) (3, 3, 1, 98) [414, 54] = true := by decide +kernel
set_option maxRecDepth 100000 in
theorem ev_k190_0 : ev_ckA x cL_law 0 ((ev_c190.drop 0).take 100) [[62, 63, 42], [], [64, 65, 42, 66], [], [850, 851, 51], [], [852, 853, 51, 854], [], [], [], [], [], [], [], [], [], [], [], [], [], [], []] = true := by decide +kernel
set_option maxRecDepth 100000 in
theorem ev_k190_100 : ev_ckA x cL_law 100 ((ev_c190.drop 100).take 100) [[], [], [], [], [], [], [], [], [], [], [], [], [], [], [], [], [], [], [], [], [], [], [], [], [], [], [270, 271, 272, 42, 273], [], [], [], [], [], [], [], [], [], [], [], [], [], [], [], [], [], [], [], [], [], [], [], [], [], [], [956, 957, 958, 51, 959], [], [], [], [], [], [], [], [], [], [286, 287, 288, 42, 289]] = true := by decide +kernel
set_option maxRecDepth 100000 in
theorem ev_k190_200 : ev_ckA x cL_law 200 ((ev_c190.drop 200).take 100) [[], [], [], [], [], [], [964, 965, 966, 51, 967], [], [], [], [], [], [], [], [], [], [294, 295, 296, 42, 297], [], [], [], [], [], [], [971, 972, 973, 51, 974], [], [], [], [], [306, 307, 308, 42, 309], [], [975, 976, 977, 51, 978], [], [], [], [], [], [], [], [], [], [340, 341, 342, 42, 343], [], [], [], [], [], [], [987, 988, 989, 51, 990], [], [], [], [], [], [], [], [], [], [], [], [], [], [], [355, 356, 357, 42, 358], [], [], [], [], [], [], [], [], [], [], [], [1003, 1004, 1005, 51, 1006]] = true := by decide +kernel
set_option maxRecDepth 100000 in
theorem ev_k190_300 : ev_ckA x cL_law 300 ((ev_c190.drop 300).take 100) [[], [], [], [], [], [], [], [], [], [], [], [], [], [], [548, 549, 550, 42, 551], [], [], [], [], [], [], [], [], [], [], [], [1169, 1170, 1171, 51, 1172], [], [], [], [], [], [], [], [], [], [552, 553, 554, 42, 555], [], [], [], [], [], [], [1173, 1174, 1175, 51, 1176], [], [], [], [], [], [], [], [], [], [], [], [], [], [], [], [], [], [], [], [], [], [], [], [558, 559, 560, 42, 561], [], [], [], [], [], [], [], [], [], [], []] = true := by decide +kernel
set_option maxRecDepth 100000 in
theorem ev_k190_400 : ev_ckA x cL_law 400 ((ev_c190.drop 400).take 100) [[], [], [], [], [], [], [], [], [], [1177, 1178, 1179, 51, 1180], [], [], [], [], [], [], [], [], [], [], [], [], [], [], [566, 567, 568, 42, 569], [], [], [], [], [], [], [], [], [], [], [], [1181, 1182, 1183, 51, 1184], [], [], [], [], [], [], [], [], [], [], [], [], [], [], [], [], [], [], [], [], [], [], [], [], [], [], [], [], [], [], [], [], [], [], [], [], [], [578, 579, 580, 42, 581], []] = true := by decide +kernel
set_option maxRecDepth 100000 in
theorem ev_k190_500 : ev_ckA x cL_law 500 ((ev_c190.drop 500).take 100) [[], [], [], [], [], [], [], [], [], [], [], [], [], [], [], [], [], [], [], [], [], [], [], [], [], [], [], [], [], [], [], [], [], [1185, 1186, 1187, 51, 1188], [], [], [], [], [587, 588, 589, 42, 590], [], [1189, 1190, 1191, 51, 1192], [], [], [], [], [], [], [], [], [], [], [], [], [], [], [], [], [], [], [], [], [], [], [], [599, 600, 601, 42, 602], [], [], [], [], [], [], [], [], []] = true := by decide +kernel
set_option maxRecDepth 100000 in
theorem ev_k190_600 : ev_ckA x cL_law 600 ((ev_c190.drop 600).take 100) [[], [], [], [], [], [], [], [], [], [], [], [1193, 1194, 1195, 51, 1196], [], [], [], [], [], [], [], [], [], [], [], [], [], [], [607, 608, 609, 42, 610], [], [], [], [], [], [], [], [], [], [], [], [1197, 1198, 1199, 51, 1200], [], [], [], [], [], [], [], [], [], [635, 636, 637, 42, 638], [], [], [], [], [], [], [1213, 1214, 1215, 51, 1216], [], [], [], [], [], [], [], [], [], [], [], [], [], [], [643, 644, 645, 42, 646], [], [], [], [], [], [], [], [], []] = true := by decide +kernel
set_option maxRecDepth 100000 in
theorem ev_k190_700 : ev_ckA x cL_law 700 ((ev_c190.drop 700).take 100) [[], [], [1217, 1218, 1219, 51, 1220], [], [], [], [], [], [], [], [], [], [], [], [], [], [], [675, 676, 677, 42, 678], [], [], [], [], [], [], [], [], [], [], [], [1221, 1222, 1223, 51, 1224], [], [], [], [], [], [], [], [], [], [748, 749, 750, 42, 751], [], [], [], [], [], [], [1268, 1269, 1270, 51, 1271], [], [], [], [], [], [], [], [], [], [], [], [], [], [], [830, 831, 832, 42, 833], [], [], [], [], [], [], [], [], [], [], [], [1280, 1281, 1282, 51, 1283], [], [], [], []] = true := by decide +kernel
set_option maxRecDepth 100000 in
theorem ev_k190_800 : ev_ckA x cL_law 800 ((ev_c190.drop 800).take 100) [[], [], [], [], [], [838, 839, 840, 42, 841], [], [], [], [], [], [], [1284, 1285, 1286, 51, 1287], [], [], [], [], [], [], []] = true := by decide +kernel
set_option maxRecDepth 100000 in
theorem ev_n190 : ev_c190.length = 830 := by decide +kernel
theorem ev_k190 : ev_okm x cL_law ev_c190 := fun j e hj => if h0 : j < 100 then ev_okm_cut 0 100 ev_k190_0 j e (by omega) (by omega) hj else if h100 : j < 200 then ev_okm_cut 100 100 ev_k190_100 j e (by omega) (by omega) hj else if h200 : j < 300 then ev_okm_cut 200 100 ev_k190_200 j e (by omega) (by omega) hj else if h300 : j < 400 then ev_okm_cut 300 100 ev_k190_300 j e (by omega) (by omega) hj else if h400 : j < 500 then ev_okm_cut 400 100 ev_k190_400 j e (by omega) (by omega) hj else if h500 : j < 600 then ev_okm_cut 500 100 ev_k190_500 j e (by omega) (by omega) hj else if h600 : j < 700 then ev_okm_cut 600 100 ev_k190_600 j e (by omega) (by omega) hj else if h700 : j < 800 then ev_okm_cut 700 100 ev_k190_700 j e (by omega) (by omega) hj else (have hl : j < 830 := by have hl := (List.getElem?_eq_some_iff.mp hj).1; rw [ev_n190] at hl; exact hl
    ev_okm_cut 800 100 ev_k190_800 j e (by omega) (by omega) hj)
end
section
def ev_allP {α : Type} (P : α → Prop) : List α → Prop
  | [] => True
  | a :: l => P a ∧ ev_allP P l
theorem ev_allP_mem {α : Type} {P : α → Prop} : ∀ l : List α, ev_allP P l → ∀ a ∈ l, P a
  | [], _, a, h => by cases h
  | b :: l, hp, a, h => by
    rcases List.mem_cons.mp h with rfl | h
    · exact hp.1
    · exact ev_allP_mem l hp.2 a h
set_option maxRecDepth 100000 in
theorem ev_kall0 : ev_allP (fun z : (MethodName × ByteArray × Option FieldType) × List (Option (Instr × Nat × Value)) => ev_okm z.1.1 z.1.2.1 z.2) (ev_nm.zip ev_codes) := ⟨ev_k0, ev_k1, ev_k2, ev_k3, ev_k4, ev_k5, ev_k6, ev_k7, ev_k8, ev_k9, ev_k10, ev_k11, ev_k12, ev_k13, ev_k14, ev_k15, ev_k16, ev_k17, ev_k18, ev_k19, ev_k20, ev_k21, ev_k22, ev_k23, ev_k24, ev_k25, ev_k26, ev_k27, ev_k28, ev_k29, ev_k30, ev_k31, ev_k32, ev_k33, ev_k34, ev_k35, ev_k36, ev_k37, ev_k38, ev_k39, ev_k40, ev_k41, ev_k42, ev_k43, ev_k44, ev_k45, ev_k46, ev_k47, ev_k48, ev_k49, ev_k50, ev_k51, ev_k52, ev_k53, ev_k54, ev_k55, ev_k56, ev_k57, ev_k58, ev_k59, ev_k60, ev_k61, ev_k62, ev_k63, ev_k64, ev_k65, ev_k66, ev_k67, ev_k68, ev_k69, ev_k70, ev_k71, ev_k72, ev_k73, ev_k74, ev_k75, ev_k76, ev_k77, ev_k78, ev_k79, ev_k80, ev_k81, ev_k82, ev_k83, ev_k84, ev_k85, ev_k86, ev_k87, ev_k88, ev_k89, ev_k90, ev_k91, ev_k92, ev_k93, ev_k94, ev_k95, ev_k96, ev_k97, ev_k98, ev_k99, ev_k100, ev_k101, ev_k102, ev_k103, ev_k104, ev_k105, ev_k106, ev_k107, ev_k108, ev_k109, ev_k110, ev_k111, ev_k112, ev_k113, ev_k114, ev_k115, ev_k116, ev_k117, ev_k118, ev_k119, ev_k120, ev_k121, ev_k122, ev_k123, ev_k124, ev_k125, ev_k126, ev_k127, ev_k128, ev_k129, ev_k130, ev_k131, ev_k132, ev_k133, ev_k134, ev_k135, ev_k136, ev_k137, ev_k138, ev_k139, ev_k140, ev_k141, ev_k142, ev_k143, ev_k144, ev_k145, ev_k146, ev_k147, ev_k148, ev_k149, ev_k150, ev_k151, ev_k152, ev_k153, ev_k154, ev_k155, ev_k156, ev_k157, ev_k158, ev_k159, ev_k160, ev_k161, ev_k162, ev_k163, ev_k164, ev_k165, ev_k166, ev_k167, ev_k168, ev_k169, ev_k170, ev_k171, ev_k172, ev_k173, ev_k174, ev_k175, ev_k176, ev_k177, ev_k178, ev_k179, ev_k180, ev_k181, ev_k182, ev_k183, ev_k184, ev_k185, ev_k186, ev_k187, ev_k188, ev_k189, ev_k190, trivial⟩
theorem ev_kall : ∀ z ∈ ev_nm.zip ev_codes, ev_okm z.1.1 z.1.2.1 z.2 := ev_allP_mem _ ev_kall0
set_option maxRecDepth 100000 in
theorem ev_jall0 : ev_allP (fun z : (MethodName × ByteArray × Option FieldType) × (Nat × Nat × Nat × Nat) => ∃ pl, ev_ckM z.1 z.2 pl = true) ((ev_nm.zip ev_mts).take 190) := ⟨⟨_, ev_j0⟩, ⟨_, ev_j1⟩, ⟨_, ev_j2⟩, ⟨_, ev_j3⟩, ⟨_, ev_j4⟩, ⟨_, ev_j5⟩, ⟨_, ev_j6⟩, ⟨_, ev_j7⟩, ⟨_, ev_j8⟩, ⟨_, ev_j9⟩, ⟨_, ev_j10⟩, ⟨_, ev_j11⟩, ⟨_, ev_j12⟩, ⟨_, ev_j13⟩, ⟨_, ev_j14⟩, ⟨_, ev_j15⟩, ⟨_, ev_j16⟩, ⟨_, ev_j17⟩, ⟨_, ev_j18⟩, ⟨_, ev_j19⟩, ⟨_, ev_j20⟩, ⟨_, ev_j21⟩, ⟨_, ev_j22⟩, ⟨_, ev_j23⟩, ⟨_, ev_j24⟩, ⟨_, ev_j25⟩, ⟨_, ev_j26⟩, ⟨_, ev_j27⟩, ⟨_, ev_j28⟩, ⟨_, ev_j29⟩, ⟨_, ev_j30⟩, ⟨_, ev_j31⟩, ⟨_, ev_j32⟩, ⟨_, ev_j33⟩, ⟨_, ev_j34⟩, ⟨_, ev_j35⟩, ⟨_, ev_j36⟩, ⟨_, ev_j37⟩, ⟨_, ev_j38⟩, ⟨_, ev_j39⟩, ⟨_, ev_j40⟩, ⟨_, ev_j41⟩, ⟨_, ev_j42⟩, ⟨_, ev_j43⟩, ⟨_, ev_j44⟩, ⟨_, ev_j45⟩, ⟨_, ev_j46⟩, ⟨_, ev_j47⟩, ⟨_, ev_j48⟩, ⟨_, ev_j49⟩, ⟨_, ev_j50⟩, ⟨_, ev_j51⟩, ⟨_, ev_j52⟩, ⟨_, ev_j53⟩, ⟨_, ev_j54⟩, ⟨_, ev_j55⟩, ⟨_, ev_j56⟩, ⟨_, ev_j57⟩, ⟨_, ev_j58⟩, ⟨_, ev_j59⟩, ⟨_, ev_j60⟩, ⟨_, ev_j61⟩, ⟨_, ev_j62⟩, ⟨_, ev_j63⟩, ⟨_, ev_j64⟩, ⟨_, ev_j65⟩, ⟨_, ev_j66⟩, ⟨_, ev_j67⟩, ⟨_, ev_j68⟩, ⟨_, ev_j69⟩, ⟨_, ev_j70⟩, ⟨_, ev_j71⟩, ⟨_, ev_j72⟩, ⟨_, ev_j73⟩, ⟨_, ev_j74⟩, ⟨_, ev_j75⟩, ⟨_, ev_j76⟩, ⟨_, ev_j77⟩, ⟨_, ev_j78⟩, ⟨_, ev_j79⟩, ⟨_, ev_j80⟩, ⟨_, ev_j81⟩, ⟨_, ev_j82⟩, ⟨_, ev_j83⟩, ⟨_, ev_j84⟩, ⟨_, ev_j85⟩, ⟨_, ev_j86⟩, ⟨_, ev_j87⟩, ⟨_, ev_j88⟩, ⟨_, ev_j89⟩, ⟨_, ev_j90⟩, ⟨_, ev_j91⟩, ⟨_, ev_j92⟩, ⟨_, ev_j93⟩, ⟨_, ev_j94⟩, ⟨_, ev_j95⟩, ⟨_, ev_j96⟩, ⟨_, ev_j97⟩, ⟨_, ev_j98⟩, ⟨_, ev_j99⟩, ⟨_, ev_j100⟩, ⟨_, ev_j101⟩, ⟨_, ev_j102⟩, ⟨_, ev_j103⟩, ⟨_, ev_j104⟩, ⟨_, ev_j105⟩, ⟨_, ev_j106⟩, ⟨_, ev_j107⟩, ⟨_, ev_j108⟩, ⟨_, ev_j109⟩, ⟨_, ev_j110⟩, ⟨_, ev_j111⟩, ⟨_, ev_j112⟩, ⟨_, ev_j113⟩, ⟨_, ev_j114⟩, ⟨_, ev_j115⟩, ⟨_, ev_j116⟩, ⟨_, ev_j117⟩, ⟨_, ev_j118⟩, ⟨_, ev_j119⟩, ⟨_, ev_j120⟩, ⟨_, ev_j121⟩, ⟨_, ev_j122⟩, ⟨_, ev_j123⟩, ⟨_, ev_j124⟩, ⟨_, ev_j125⟩, ⟨_, ev_j126⟩, ⟨_, ev_j127⟩, ⟨_, ev_j128⟩, ⟨_, ev_j129⟩, ⟨_, ev_j130⟩, ⟨_, ev_j131⟩, ⟨_, ev_j132⟩, ⟨_, ev_j133⟩, ⟨_, ev_j134⟩, ⟨_, ev_j135⟩, ⟨_, ev_j136⟩, ⟨_, ev_j137⟩, ⟨_, ev_j138⟩, ⟨_, ev_j139⟩, ⟨_, ev_j140⟩, ⟨_, ev_j141⟩, ⟨_, ev_j142⟩, ⟨_, ev_j143⟩, ⟨_, ev_j144⟩, ⟨_, ev_j145⟩, ⟨_, ev_j146⟩, ⟨_, ev_j147⟩, ⟨_, ev_j148⟩, ⟨_, ev_j149⟩, ⟨_, ev_j150⟩, ⟨_, ev_j151⟩, ⟨_, ev_j152⟩, ⟨_, ev_j153⟩, ⟨_, ev_j154⟩, ⟨_, ev_j155⟩, ⟨_, ev_j156⟩, ⟨_, ev_j157⟩, ⟨_, ev_j158⟩, ⟨_, ev_j159⟩, ⟨_, ev_j160⟩, ⟨_, ev_j161⟩, ⟨_, ev_j162⟩, ⟨_, ev_j163⟩, ⟨_, ev_j164⟩, ⟨_, ev_j165⟩, ⟨_, ev_j166⟩, ⟨_, ev_j167⟩, ⟨_, ev_j168⟩, ⟨_, ev_j169⟩, ⟨_, ev_j170⟩, ⟨_, ev_j171⟩, ⟨_, ev_j172⟩, ⟨_, ev_j173⟩, ⟨_, ev_j174⟩, ⟨_, ev_j175⟩, ⟨_, ev_j176⟩, ⟨_, ev_j177⟩, ⟨_, ev_j178⟩, ⟨_, ev_j179⟩, ⟨_, ev_j180⟩, ⟨_, ev_j181⟩, ⟨_, ev_j182⟩, ⟨_, ev_j183⟩, ⟨_, ev_j184⟩, ⟨_, ev_j185⟩, ⟨_, ev_j186⟩, ⟨_, ev_j187⟩, ⟨_, ev_j188⟩, ⟨_, ev_j189⟩, trivial⟩
def ev_lawNo : Nat := 190
theorem ev_jall : ∀ z ∈ (ev_nm.zip ev_mts).take ev_lawNo, ∃ pl, ev_ckM z.1 z.2 pl = true := ev_allP_mem _ ev_jall0
theorem ev_nlen : ev_nm.length = ev_lawNo + 1 := by decide +kernel
theorem ev_mlen : ev_mts.length = ev_lawNo + 1 := by decide +kernel
theorem ev_clen : ev_codes.length = ev_lawNo + 1 := by decide +kernel
end
section
/-! what was checked method by method, as one -/
theorem ev_hok : ∀ (m k : Nat) (e : Instr × Nat × Value), ev_at m k = some e → ∃ (q : MethodName × ByteArray × Option FieldType) (pl : List Nat), ev_nm[m]? = some q ∧ ev_ck q.1 q.2.1 k e pl = true := by
  intro m k e h
  unfold ev_at at h
  cases hc : ev_codes[m]? with
  | none =>
    rw [List.getD_eq_getElem?_getD, hc] at h
    simp at h
  | some cs =>
    rw [List.getD_eq_getElem?_getD, hc] at h
    have hj : cs[k]? = some (some e) := by simpa [Option.join_eq_some_iff] using h
    have hlen : m < ev_nm.length := by
      have := (List.getElem?_eq_some_iff.mp hc).1
      rw [ev_clen] at this
      rw [ev_nlen]
      exact this
    obtain ⟨q, hq⟩ : ∃ q, ev_nm[m]? = some q := ⟨_, List.getElem?_eq_getElem hlen⟩
    have hz : (q, cs) ∈ ev_nm.zip ev_codes := List.mem_of_getElem? (i := m) (List.getElem?_zip_eq_some.mpr ⟨hq, hc⟩)
    obtain ⟨pl, h1⟩ := ev_kall _ hz k e hj
    exact ⟨q, pl, hq, h1⟩
theorem ev_hmok : ∀ (m : Nat) (q : MethodName × ByteArray × Option FieldType), ev_nm[m]? = some q → m + 1 < ev_nm.length → ∃ pl, ev_ckM q (ev_mt m) pl = true := by
  intro m q hq hlt
  rw [ev_nlen] at hlt
  have hl : m + 1 < ev_mts.length := by
    rw [ev_mlen]
    exact hlt
  obtain ⟨t, ht⟩ : ∃ t, ev_mts[m]? = some t := ⟨_, List.getElem?_eq_getElem (by omega)⟩
  have hz : (q, t) ∈ (ev_nm.zip ev_mts).take ev_lawNo := by
    refine List.mem_of_getElem? (i := m) ?_
    rw [List.getElem?_take, if_pos (by omega)]
    exact List.getElem?_zip_eq_some.mpr ⟨hq, ht⟩
  obtain ⟨pl, hp⟩ := ev_jall _ hz
  refine ⟨pl, ?_⟩
  have : ev_mt m = t := by
    unfold ev_mt
    rw [List.getD_eq_getElem?_getD, ht]
    rfl
  rw [this]
  exact hp
end
section
/-! THE HEAP: reading and writing cells -/
theorem ev_next_some {a k' : Nat} {b ls' : List (Option Value)} {c st' : List Value} {d σ' : ev_M} (h : ev_next a b c d = some (.inl (k', ls', st', σ'))) : k' = a ∧ ls' = b ∧ st' = c ∧ σ' = d := by
  simp only [ev_next, Option.some.injEq, Sum.inl.injEq, Prod.mk.injEq] at h
  exact ⟨h.1.symm, h.2.1.symm, h.2.2.1.symm, h.2.2.2.symm⟩
section EVH
variable {p : Program} {l : Launch} {en : Env} {R : Room} {s : State} {mid : MethodId} {args : Array Value} {below : List Frame} {meth : Method} {c : Code} {H : Heap} {locs : List Loc} {Q : State → Prop} {cells slots : Nat}
variable {B : Nat} {V : Nat → Value} {dC : Nat → ClassId} {dI : Nat → Nat → Nat} {dA : Nat → ClassId}
theorem ev_fty_arr (hK : va_K (dC, dI) vwCl (ev_tys dA) s) {t : Nat} (ht : t < 3) : ArrOfT s (dA t) (ev_fty t) ∧ va_RA s (dA t) (ev_fty t) := by
  match t, ht with
  | 0, _ => exact hK.2 0 (dA 0, .int) rfl
  | 1, _ => exact hK.2 1 (dA 1, .char) rfl
  | 2, _ => exact hK.2 2 (dA 2, .boolean) rfl
/-- an array, old or new, as the heap has it -/
theorem ev_arr (hV : ev_V V B) (hK : va_K (dC, dI) vwCl (ev_tys dA) s) {σ : ev_M} (hN : ev_New V B dC dI dA σ H) (hA : ev_OA V B σ s s.heap) (hS : va_S (ev_B B) s.heap H locs) {x t n : Nat} (hx : ev_len σ x = some (t, n)) :
    ∃ (a : Nat) (cell : Cell), V x = .ref a ∧ H[a]? = some cell ∧ s.isArrayOf cell (ev_fty t) ∧ cell.vm ≠ .unknown ∧ n ≤ cell.slots.size ∧ cell.slots.size.toInt32 = Int32.ofNat n ∧ ∀ j, j < n → cell.slots[j]? = some (ev_av V (ev_get σ x j)) := by
  unfold ev_len at hx
  split at hx
  · rename_i hlt
    split at hx
    · rename_i q hq
      cases hx
      obtain ⟨a, e1, cell, h1, h2, h3, h4, h5, h6, h7⟩ := hA x q hq
      refine ⟨a, cell, e1, ?_, h2, h3, h4, h5, fun j hj => ?_⟩
      · rw [hS.2.1 a (Array.getElem?_eq_some_iff.mp h1).1 h7]
        exact h1
      · rw [h6 j hj]
        simp [ev_get, hlt, hq]
    · cases hx
  · rename_i hge
    split at hx
    · rename_i hlt
      have hc := hN.2.2.1 x (by omega) hlt
      unfold ev_cell at hc
      split at hx
      · rename_i q hq
        cases hx
        rw [hq] at hc
        obtain ⟨ht, hc⟩ := hc
        refine ⟨_, _, hV.2.1 x (by omega), hc, (ev_fty_arr hK ht).1 _ _, (fun h => by cases h), by rw [arrV_size]; exact Nat.le_refl _, by rw [arrV_size], fun j hj => ?_⟩
        rw [arrV_read _ _ hj]
        simp [ev_get, hge, ev_av]
      · cases hx
    · cases hx
theorem ev_ald_some {σ : ev_M} {t x : Nat} {i : Int32} {f : Value → Option ev_O} {z : ev_O} (h : ev_ald σ t x i f = some z) : ∃ n, ev_len σ x = some (t, n) ∧ ¬ i < 0 ∧ i.toNatClampNeg < n ∧ f (ev_get σ x i.toNatClampNeg) = some z := by
  unfold ev_ald at h
  split at h
  · rename_i t' n hl
    split at h
    · rename_i ht
      split at h
      · cases h
      · rename_i hn
        subst ht
        exact ⟨n, hl, fun q => hn (Or.inl q), Nat.not_le.mp fun q => hn (Or.inr q), h⟩
    · cases h
  · cases h
theorem ev_ast_some {σ : ev_M} {t x : Nat} {i v : Int32} {f : ev_M → Option ev_O} {z : ev_O} (h : ev_ast σ t x i v f = some z) : 1000 ≤ x ∧ x < σ.1 ∧ ∃ n, ev_sh x = some (.inr (t, n)) ∧ ¬ i < 0 ∧ i.toNatClampNeg < n ∧ f (σ.1, σ.2.1, σ.2.2.1, ev_upd σ.2.2.2 x i.toNatClampNeg v) = some z := by
  unfold ev_ast at h
  split at h
  · cases h
  · rename_i hx
    split at h
    · rename_i t' n hl
      split at h
      · rename_i ht
        split at h
        · cases h
        · rename_i hn
          subst ht
          unfold ev_len at hl
          rw [if_neg hx] at hl
          split at hl
          · rename_i hlt
            split at hl
            · rename_i q hq
              cases hl
              exact ⟨by omega, hlt, n, hq, fun q => hn (Or.inl q), Nat.not_le.mp fun q => hn (Or.inr q), h⟩
            · cases hl
          · cases hl
      · cases h
    · cases h
/-- a cell is written: the others stay -/
theorem ev_New.put {σ σ' : ev_M} (hN : ev_New V B dC dI dA σ H) {H1 : Heap} {x : Nat} (hx : 1000 ≤ x) (hxt : x < σ.1) (ht : σ'.1 = σ.1) (hz : H1.size = H.size) (ho : ∀ q, q ≠ B + (x - 1000) → H1[q]? = H[q]?)
    (hr : ∀ y, y ≠ x → ∀ k, ev_Rf σ'.2.1 y k = ev_Rf σ.2.1 y k ∧ σ'.2.2.1 y k = σ.2.2.1 y k ∧ σ'.2.2.2 y k = σ.2.2.2 y k) (hc : ev_cell V B dC dI dA σ' H1 x) : ev_New V B dC dI dA σ' H1 := by
  refine ⟨by rw [ht]; exact hN.1, by rw [hz, ht]; exact hN.2.1, fun y hy hyt => ?_, fun y hy k => ?_⟩
  · by_cases hyx : y = x
    · subst hyx
      exact hc
    · have h1 := hN.2.2.1 y hy (by omega)
      have h2 : H1[B + (y - 1000)]? = H[B + (y - 1000)]? := ho _ (by omega)
      unfold ev_cell at h1 ⊢
      split at h1
      · rename_i q hq
        obtain ⟨r, e1, e2, e3⟩ := h1
        refine ⟨r, e1, e2, (e3.kept h2).to fun k _ => ?_⟩
        unfold ev_fv
        rw [(hr y hyx k).1, (hr y hyx k).2.1]
      · rename_i q hq
        refine ⟨h1.1, ?_⟩
        rw [h2, h1.2, show σ'.2.2.2 y = σ.2.2.2 y from funext fun j => (hr y hyx j).2.2]
      · exact h1
  · rw [ht] at hy
    have hyx : y ≠ x := by omega
    rw [(hr y hyx k).1, (hr y hyx k).2.1, (hr y hyx k).2.2]
    exact hN.2.2.2 y hy k
theorem ev_upd_ne {f : Nat → Nat → Int32} {a k : Nat} {v : Int32} {b : Nat} (h : b ≠ a) (j : Nat) : ev_upd f a k v b j = f b j := by simp [ev_upd, h]
theorem ev_upd_at {f : Nat → Nat → Int32} {a k : Nat} {v : Int32} (j : Nat) : ev_upd f a k v a j = if j = k then v else f a j := by simp [ev_upd]
theorem ev_Rf_next {r a k : Nat} (h : ev_refs[r]? = some (a, k)) (b j : Nat) : ev_Rf (r + 1) b j = if b = a ∧ j = k then true else ev_Rf r b j := by
  have e : ev_refs.take (r + 1) = ev_refs.take r ++ [(a, k)] := by rw [List.take_add_one, h]; rfl
  unfold ev_Rf
  rw [e]
  by_cases hc : b = a ∧ j = k
  · rw [if_pos hc, hc.1, hc.2]
    simp
  · rw [if_neg hc]
    congr 1
    simp only [List.mem_append, List.mem_singleton, Prod.mk.injEq, hc, or_false]
/-- behind a store into an array -/
theorem ev_New.ast {σ : ev_M} (hN : ev_New V B dC dI dA σ H) {H1 : Heap} {x t n k : Nat} {v : Int32} (hx : 1000 ≤ x) (hxt : x < σ.1) (hsh : ev_sh x = some (.inr (t, n))) (hz : H1.size = H.size) (ho : ∀ q, q ≠ B + (x - 1000) → H1[q]? = H[q]?)
    (hc : H1[B + (x - 1000)]? = some ((arrV (dA t) n (fun j => .int (σ.2.2.2 x j))).setSlot k (.int v))) : ev_New V B dC dI dA (σ.1, σ.2.1, σ.2.2.1, ev_upd σ.2.2.2 x k v) H1 := by
  refine hN.put hx hxt rfl hz ho (fun y hy j => ⟨rfl, rfl, ev_upd_ne hy j⟩) ?_
  have h0 := hN.2.2.1 x hx hxt
  unfold ev_cell at h0 ⊢
  rw [hsh] at h0 ⊢
  refine ⟨h0.1, ?_⟩
  rw [hc, arrV_store]
  congr 2
  funext j
  simp only [updV, ev_upd_at]
  split <;> rfl
theorem ev_new_arr {σ : ev_M} (hN : ev_New V B dC dI dA σ H) {x t n : Nat} (hx : 1000 ≤ x) (hxt : x < σ.1) (hsh : ev_sh x = some (.inr (t, n))) : t < 3 ∧ H[B + (x - 1000)]? = some (arrV (dA t) n (fun j => .int (σ.2.2.2 x j))) := by
  have h0 := hN.2.2.1 x hx hxt
  unfold ev_cell at h0
  rw [hsh] at h0
  exact h0
theorem ev_va_S {H1 : Heap} {x k : Nat} (hS : va_S (ev_B B) s.heap H locs) (hz : H1.size = H.size) (ho : ∀ q, q ≠ B + (x - 1000) → H1[q]? = H[q]?) : va_S (ev_B B) s.heap H1 (locs ++ [⟨B + (x - 1000), k⟩]) :=
  hS.put hz ho (Nat.le_add_right _ _)
theorem ev_nar_char (x : Int32) : narrow .char (.int x) = .int (vp_nar .char x) := rfl
theorem ev_nar_bool (x : Int32) : narrow .boolean (.int x) = .int (vp_nar .boolean x) := rfl
end EVH
end
section
/-! ONE STEP: what the stack must hold, and each instruction -/
theorem ev_i_some {α : Type} {st : List Value} {f : Int32 → List Value → Option α} {z : α} (h : ev_i st f = some z) : ∃ x r, st = .int x :: r ∧ f x r = some z := by
  unfold ev_i at h
  split at h
  · exact ⟨_, _, rfl, h⟩
  · cases h
theorem ev_ii_some {α : Type} {st : List Value} {f : Int32 → Int32 → List Value → Option α} {z : α} (h : ev_ii st f = some z) : ∃ x y r, st = .int y :: .int x :: r ∧ f x y r = some z := by
  unfold ev_ii at h
  split at h
  · exact ⟨_, _, _, rfl, h⟩
  · cases h
theorem ev_l_some {α : Type} {st : List Value} {f : Int64 → List Value → Option α} {z : α} (h : ev_l st f = some z) : ∃ x r, st = .long x :: r ∧ f x r = some z := by
  unfold ev_l at h
  split at h
  · exact ⟨_, _, rfl, h⟩
  · cases h
theorem ev_ll_some {α : Type} {st : List Value} {f : Int64 → Int64 → List Value → Option α} {z : α} (h : ev_ll st f = some z) : ∃ x y r, st = .long y :: .long x :: r ∧ f x y r = some z := by
  unfold ev_ll at h
  split at h
  · exact ⟨_, _, _, rfl, h⟩
  · cases h
theorem ev_li_some {α : Type} {st : List Value} {f : Int64 → Int32 → List Value → Option α} {z : α} (h : ev_li st f = some z) : ∃ x y r, st = .int y :: .long x :: r ∧ f x y r = some z := by
  unfold ev_li at h
  split at h
  · exact ⟨_, _, _, rfl, h⟩
  · cases h
theorem ev_r_some {α : Type} {st : List Value} {f : Nat → List Value → Option α} {z : α} (h : ev_r st f = some z) : ∃ x r, st = .ref x :: r ∧ f x r = some z := by
  unfold ev_r at h
  split at h
  · exact ⟨_, _, rfl, h⟩
  · cases h
theorem ev_ri_some {α : Type} {st : List Value} {f : Nat → Int32 → List Value → Option α} {z : α} (h : ev_ri st f = some z) : ∃ a i r, st = .int i :: .ref a :: r ∧ f a i r = some z := by
  unfold ev_ri at h
  split at h
  · exact ⟨_, _, _, rfl, h⟩
  · cases h
theorem ev_rii_some {α : Type} {st : List Value} {f : Nat → Int32 → Int32 → List Value → Option α} {z : α} (h : ev_rii st f = some z) : ∃ a i x r, st = .int x :: .int i :: .ref a :: r ∧ f a i x r = some z := by
  unfold ev_rii at h
  split at h
  · exact ⟨_, _, _, _, rfl, h⟩
  · cases h
theorem ev_rv_some {α : Type} {st : List Value} {f : Nat → Value → List Value → Option α} {z : α} (h : ev_rv st f = some z) : ∃ a v r, st = v :: .ref a :: r ∧ f a v r = some z := by
  unfold ev_rv at h
  split at h
  · exact ⟨_, _, _, rfl, h⟩
  · cases h
theorem ev_1_some {α : Type} {st : List Value} {f : Value → List Value → Option α} {z : α} (h : ev_1 st f = some z) : ∃ v r, st = v :: r ∧ v.category = 1 ∧ f v r = some z := by
  unfold ev_1 at h
  split at h
  · exact ⟨_, _, rfl, rfl, h⟩
  · exact ⟨_, _, rfl, rfl, h⟩
  · exact ⟨_, _, rfl, rfl, h⟩
  · cases h
theorem ev_q_some {α : Type} {st : List Value} {f : Option Nat → List Value → Option α} {z : α} (h : ev_q st f = some z) : ∃ x r, st = va_rf x :: r ∧ f x r = some z := by
  unfold ev_q at h
  split at h
  · exact ⟨some _, _, rfl, h⟩
  · exact ⟨none, _, rfl, h⟩
  · cases h
theorem ev_ldi_some {ls : List (Option Value)} {i : Nat} {f : Value → Option ev_O} {z : ev_O} (h : ev_ldi ls i f = some z) : ∃ x, ls[i]? = some (some (.int x)) ∧ f (.int x) = some z := by
  unfold ev_ldi at h
  split at h
  · exact ⟨_, by assumption, h⟩
  · cases h
theorem ev_ldl_some {ls : List (Option Value)} {i : Nat} {f : Value → Option ev_O} {z : ev_O} (h : ev_ldl ls i f = some z) : ∃ x, ls[i]? = some (some (.long x)) ∧ f (.long x) = some z := by
  unfold ev_ldl at h
  split at h
  · exact ⟨_, by assumption, h⟩
  · cases h
theorem ev_lda_some {ls : List (Option Value)} {i : Nat} {f : Value → Option ev_O} {z : ev_O} (h : ev_lda ls i f = some z) : ∃ x, ls[i]? = some (some (va_rf x)) ∧ f (va_rf x) = some z := by
  unfold ev_lda at h
  split at h
  · exact ⟨some _, by assumption, h⟩
  · exact ⟨none, by assumption, h⟩
  · cases h
theorem ev_tg_some {lk : Value} {f : Nat → Option ev_O} {z : ev_O} (h : ev_tg lk f = some z) : ∃ t, lk = .ref t ∧ f t = some z := by
  unfold ev_tg at h
  split at h
  · exact ⟨_, rfl, h⟩
  · cases h
theorem ev_rf_av {V : Nat → Value} {B : Nat} (hV : ev_V V B) (x : Option Nat) : ev_av V (va_rf x) = .null ∨ ∃ a, ev_av V (va_rf x) = .ref a := by
  cases x with
  | none => exact Or.inl rfl
  | some y => exact hV.1 y
theorem ev_sw_some {k : Nat} {d lo hi : Int} {offs : Array Int} {x : Int32} {t : Nat} (h : ev_sw k d lo hi offs x = some t) :
    ((x.toInt < lo ∨ hi < x.toInt) ∧ (k : Int) + d = (t : Int)) ∨ (¬ x.toInt < lo ∧ ¬ hi < x.toInt ∧ ∃ o, offs[(x.toInt - lo).toNat]? = some o ∧ (k : Int) + o = (t : Int)) := by
  unfold ev_sw at h
  split at h
  · rename_i hc
    split at h
    · cases h
      exact Or.inl ⟨hc, by omega⟩
    · cases h
  · rename_i hc
    split at h
    · rename_i o ho
      split at h
      · cases h
        exact Or.inr ⟨fun q => hc (Or.inl q), fun q => hc (Or.inr q), o, by rw [← Array.getElem?_toList]; exact ho, by omega⟩
      · cases h
    · cases h
def ev_isA (i : Instr) : Bool := match i with
  | .iconst _ => true
  | .bipush _ => true
  | .sipush _ => true
  | .lconst _ => true
  | .aconst_null => true
  | .iload_n _ => true
  | .iload _ => true
  | .aload_n _ => true
  | .aload _ => true
  | .lload_n _ => true
  | .lload _ => true
  | .istore_n _ => true
  | .istore _ => true
  | .astore_n _ => true
  | .astore _ => true
  | .lstore_n _ => true
  | .lstore _ => true
  | .iinc _ _ => true
  | .iadd => true
  | .isub => true
  | .imul => true
  | .iand => true
  | .ior => true
  | .ixor => true
  | .ishl => true
  | .ishr => true
  | .iushr => true
  | .i2c => true
  | .l2i => true
  | .land => true
  | .lcmp => true
  | .lshr => true
  | .dup => true
  | .pop => true
  | .ifCond _ _ => true
  | .if_icmp _ _ => true
  | .goto _ => true
  | .ifnull _ => true
  | .ifnonnull _ => true
  | .if_acmp _ _ => true
  | .tableswitch _ _ _ _ => true
  | _ => false
section EVS
variable {p : Program} {l : Launch} {en : Env} {R : Room} {s : State} {mid : MethodId} {args : Array Value} {below : List Frame} {meth : Method} {c : Code} {H : Heap} {locs : List Loc} {Q : State → Prop}
variable {B : Nat} {V : Nat → Value} {dC : Nat → ClassId} {dI : Nat → Nat → Nat} {dA : Nat → ClassId}
set_option maxHeartbeats 4000000 in
/-- an instruction that touches no cell -/
theorem ev_stepA (hV : ev_V V B) {y : MethodName} {bytes : ByteArray} {nL : Nat} (hx : p.tables.exec = Jvm.exec) (hb : c.code = bytes) {cells slots m k : Nat} {i : Instr} {len : Nat} {lk : Value} {pl : List Nat} (hck : ev_ck y bytes k (i, len, lk) pl = true)
    {ls ls' : List (Option Value)} {st st' : List Value} {σ σ' : ev_M} {k' : Nat} (hs : ev_step m k (i, len, lk) ls st σ = some (.inl (k', ls', st', σ'))) {lsR : Array Slot} (hl : ev_ls V nL ls lsR)
    (kk : ∀ lsR' : Array Slot, ev_ls V nL ls' lsR' → W p l en R s mid args below meth c H locs cells slots Q (F0 mid k' lsR' (st'.map (ev_av V))))
    (hi : ev_isA i = true) :
    σ' = σ ∧ W p l en R s mid args below meth c H locs cells slots Q (F0 mid k lsR (st.map (ev_av V))) := by
  simp only [ev_ck, Bool.and_eq_true, decide_eq_true_eq, Bool.or_eq_true] at hck
  obtain ⟨⟨hd, hln⟩, hm⟩ := hck
  cases i with
  | iconst n =>
    obtain rfl : len = 1 := by simpa [ev_ilen] using hln
    dsimp only [ev_step] at hs
    obtain ⟨rfl, rfl, rfl, rfl⟩ := ev_next_some hs
    exact ⟨rfl, lv_iconst hx hb hd rfl (kk _ hl)⟩
  | bipush n =>
    obtain rfl : len = 2 := by simpa [ev_ilen] using hln
    dsimp only [ev_step] at hs
    obtain ⟨rfl, rfl, rfl, rfl⟩ := ev_next_some hs
    exact ⟨rfl, lv_bipush hx hb hd rfl (kk _ hl)⟩
  | sipush n =>
    obtain rfl : len = 3 := by simpa [ev_ilen] using hln
    dsimp only [ev_step] at hs
    obtain ⟨rfl, rfl, rfl, rfl⟩ := ev_next_some hs
    exact ⟨rfl, lv_sipush hx hb hd rfl (kk _ hl)⟩
  | lconst n =>
    obtain rfl : len = 1 := by simpa [ev_ilen] using hln
    dsimp only [ev_step] at hs
    obtain ⟨rfl, rfl, rfl, rfl⟩ := ev_next_some hs
    exact ⟨rfl, lv_lconst hx hb hd rfl (kk _ hl)⟩
  | aconst_null =>
    obtain rfl : len = 1 := by simpa [ev_ilen] using hln
    dsimp only [ev_step] at hs
    obtain ⟨rfl, rfl, rfl, rfl⟩ := ev_next_some hs
    exact ⟨rfl, lv_null hx hb hd (kk _ hl)⟩
  | iload_n n =>
    obtain rfl : len = 1 := by simpa [ev_ilen] using hln
    dsimp only [ev_step] at hs
    obtain ⟨x, h1, h2⟩ := ev_ldi_some hs
    obtain ⟨rfl, rfl, rfl, rfl⟩ := ev_next_some h2
    exact ⟨rfl, lv_iload_n hx hb hd rfl (hl.at h1) (kk _ hl)⟩
  | iload n =>
    obtain rfl : len = 2 := by simpa [ev_ilen] using hln
    dsimp only [ev_step] at hs
    obtain ⟨x, h1, h2⟩ := ev_ldi_some hs
    obtain ⟨rfl, rfl, rfl, rfl⟩ := ev_next_some h2
    exact ⟨rfl, lv_iload hx hb hd (hl.at h1) (kk _ hl)⟩
  | lload_n n =>
    obtain rfl : len = 1 := by simpa [ev_ilen] using hln
    dsimp only [ev_step] at hs
    obtain ⟨x, h1, h2⟩ := ev_ldl_some hs
    obtain ⟨rfl, rfl, rfl, rfl⟩ := ev_next_some h2
    exact ⟨rfl, lv_lload_n hx hb hd rfl (hl.at h1) (kk _ hl)⟩
  | lload n =>
    obtain rfl : len = 2 := by simpa [ev_ilen] using hln
    dsimp only [ev_step] at hs
    obtain ⟨x, h1, h2⟩ := ev_ldl_some hs
    obtain ⟨rfl, rfl, rfl, rfl⟩ := ev_next_some h2
    exact ⟨rfl, lv_lload hx hb hd (hl.at h1) (kk _ hl)⟩
  | aload_n n =>
    obtain rfl : len = 1 := by simpa [ev_ilen] using hln
    dsimp only [ev_step] at hs
    obtain ⟨x, h1, h2⟩ := ev_lda_some hs
    obtain ⟨rfl, rfl, rfl, rfl⟩ := ev_next_some h2
    have h3 := hl.at h1
    have h4 := kk _ hl
    rw [List.map_cons] at h4
    rcases ev_rf_av hV x with h0 | ⟨a, h0⟩ <;> rw [h0] at h3 h4
    · exact ⟨rfl, lv_aload_nN hx hb hd rfl h3 h4⟩
    · exact ⟨rfl, lv_aload_n hx hb hd rfl h3 h4⟩
  | aload n =>
    obtain rfl : len = 2 := by simpa [ev_ilen] using hln
    dsimp only [ev_step] at hs
    obtain ⟨x, h1, h2⟩ := ev_lda_some hs
    obtain ⟨rfl, rfl, rfl, rfl⟩ := ev_next_some h2
    have h3 := hl.at h1
    have h4 := kk _ hl
    rw [List.map_cons] at h4
    rcases ev_rf_av hV x with h0 | ⟨a, h0⟩ <;> rw [h0] at h3 h4
    · exact ⟨rfl, lv_aloadN hx hb hd h3 h4⟩
    · exact ⟨rfl, lv_aload hx hb hd h3 h4⟩
  | istore_n n =>
    obtain rfl : len = 1 := by simpa [ev_ilen] using hln
    dsimp only [ev_step] at hs
    obtain ⟨x, r, rfl, h⟩ := ev_i_some hs
    obtain ⟨l1, h1, h2⟩ := Option.bind_eq_some_iff.mp h
    obtain ⟨rfl, rfl, rfl, rfl⟩ := ev_next_some h2
    have hlt : (n : Nat) < nL := by rw [← hl.1]; exact (ev_set_some h1).1
    exact ⟨rfl, lv_istore_n hx hb hd rfl hl.2 hlt rfl fun lsR' h' => kk lsR' (ev_ls.set hV hl.1 h1 rfl h')⟩
  | istore n =>
    obtain rfl : len = 2 := by simpa [ev_ilen] using hln
    dsimp only [ev_step] at hs
    obtain ⟨x, r, rfl, h⟩ := ev_i_some hs
    obtain ⟨l1, h1, h2⟩ := Option.bind_eq_some_iff.mp h
    obtain ⟨rfl, rfl, rfl, rfl⟩ := ev_next_some h2
    have hlt : (n : Nat) < nL := by rw [← hl.1]; exact (ev_set_some h1).1
    exact ⟨rfl, lv_istore hx hb hd hl.2 hlt rfl fun lsR' h' => kk lsR' (ev_ls.set hV hl.1 h1 rfl h')⟩
  | astore_n n =>
    obtain rfl : len = 1 := by simpa [ev_ilen] using hln
    dsimp only [ev_step] at hs
    obtain ⟨x, r, rfl, h⟩ := ev_q_some hs
    obtain ⟨l1, h1, h2⟩ := Option.bind_eq_some_iff.mp h
    obtain ⟨rfl, rfl, rfl, rfl⟩ := ev_next_some h2
    have hlt : (n : Nat) < nL := by rw [← hl.1]; exact (ev_set_some h1).1
    refine ⟨rfl, ?_⟩
    rw [List.map_cons]
    rcases ev_rf_av hV x with h0 | ⟨a, h0⟩ <;> rw [h0]
    · exact lv_astore_nN hx hb hd rfl hl.2 hlt rfl fun lsR' h' => kk lsR' (ev_ls.set hV hl.1 h1 h0.symm h')
    · exact lv_astore_n hx hb hd rfl hl.2 hlt rfl fun lsR' h' => kk lsR' (ev_ls.set hV hl.1 h1 h0.symm h')
  | astore n =>
    obtain rfl : len = 2 := by simpa [ev_ilen] using hln
    dsimp only [ev_step] at hs
    obtain ⟨x, r, rfl, h⟩ := ev_q_some hs
    obtain ⟨l1, h1, h2⟩ := Option.bind_eq_some_iff.mp h
    obtain ⟨rfl, rfl, rfl, rfl⟩ := ev_next_some h2
    have hlt : (n : Nat) < nL := by rw [← hl.1]; exact (ev_set_some h1).1
    refine ⟨rfl, ?_⟩
    rw [List.map_cons]
    rcases ev_rf_av hV x with h0 | ⟨a, h0⟩ <;> rw [h0]
    · exact lv_astoreN hx hb hd hl.2 hlt rfl fun lsR' h' => kk lsR' (ev_ls.set hV hl.1 h1 h0.symm h')
    · exact lv_astore hx hb hd hl.2 hlt rfl fun lsR' h' => kk lsR' (ev_ls.set hV hl.1 h1 h0.symm h')
  | lstore_n n =>
    obtain rfl : len = 1 := by simpa [ev_ilen] using hln
    dsimp only [ev_step] at hs
    obtain ⟨x, r, rfl, h⟩ := ev_l_some hs
    obtain ⟨l1, h1, h2⟩ := Option.bind_eq_some_iff.mp h
    obtain ⟨rfl, rfl, rfl, rfl⟩ := ev_next_some h2
    have hlt : (n : Nat) + 1 < nL := by rw [← hl.1]; exact (ev_setL_some h1).1
    exact ⟨rfl, lv_lstore_n hx hb hd rfl hl.2 hlt rfl fun lsR' h' => kk lsR' (ev_ls.setL hV hl.1 h1 h')⟩
  | lstore n =>
    obtain rfl : len = 2 := by simpa [ev_ilen] using hln
    dsimp only [ev_step] at hs
    obtain ⟨x, r, rfl, h⟩ := ev_l_some hs
    obtain ⟨l1, h1, h2⟩ := Option.bind_eq_some_iff.mp h
    obtain ⟨rfl, rfl, rfl, rfl⟩ := ev_next_some h2
    have hlt : (n : Nat) + 1 < nL := by rw [← hl.1]; exact (ev_setL_some h1).1
    exact ⟨rfl, lv_lstore hx hb hd hl.2 hlt rfl fun lsR' h' => kk lsR' (ev_ls.setL hV hl.1 h1 h')⟩
  | iinc n z =>
    obtain rfl : len = 3 := by simpa [ev_ilen] using hln
    dsimp only [ev_step] at hs
    split at hs
    · rename_i x hx0
      obtain ⟨l1, h1, h2⟩ := Option.bind_eq_some_iff.mp hs
      obtain ⟨rfl, rfl, rfl, rfl⟩ := ev_next_some h2
      have hlt : (n : Nat) < nL := by rw [← hl.1]; exact (ev_set_some h1).1
      obtain ⟨j, hj⟩ := List.getElem?_of_mem (ev_pairs_mem.mpr ⟨_, hx0, rfl⟩ : (n, ev_av V (.int x)) ∈ ev_pairs V ls)
      exact ⟨rfl, lv_iinc hx hb hd hl.2 hj rfl hlt rfl fun lsR' h' => kk lsR' (ev_ls.set hV hl.1 h1 rfl h')⟩
    · cases hs
  | iadd =>
    obtain rfl : len = 1 := by simpa [ev_ilen] using hln
    dsimp only [ev_step] at hs
    obtain ⟨x, y, r, rfl, h⟩ := ev_ii_some hs
    obtain ⟨rfl, rfl, rfl, rfl⟩ := ev_next_some h
    exact ⟨rfl, lv_iadd hx hb hd (kk _ hl)⟩
  | isub =>
    obtain rfl : len = 1 := by simpa [ev_ilen] using hln
    dsimp only [ev_step] at hs
    obtain ⟨x, y, r, rfl, h⟩ := ev_ii_some hs
    obtain ⟨rfl, rfl, rfl, rfl⟩ := ev_next_some h
    exact ⟨rfl, lv_isub hx hb hd (kk _ hl)⟩
  | imul =>
    obtain rfl : len = 1 := by simpa [ev_ilen] using hln
    dsimp only [ev_step] at hs
    obtain ⟨x, y, r, rfl, h⟩ := ev_ii_some hs
    obtain ⟨rfl, rfl, rfl, rfl⟩ := ev_next_some h
    exact ⟨rfl, lv_imul hx hb hd (kk _ hl)⟩
  | iand =>
    obtain rfl : len = 1 := by simpa [ev_ilen] using hln
    dsimp only [ev_step] at hs
    obtain ⟨x, y, r, rfl, h⟩ := ev_ii_some hs
    obtain ⟨rfl, rfl, rfl, rfl⟩ := ev_next_some h
    exact ⟨rfl, lv_iand hx hb hd (kk _ hl)⟩
  | ior =>
    obtain rfl : len = 1 := by simpa [ev_ilen] using hln
    dsimp only [ev_step] at hs
    obtain ⟨x, y, r, rfl, h⟩ := ev_ii_some hs
    obtain ⟨rfl, rfl, rfl, rfl⟩ := ev_next_some h
    exact ⟨rfl, lv_ior hx hb hd (kk _ hl)⟩
  | ixor =>
    obtain rfl : len = 1 := by simpa [ev_ilen] using hln
    dsimp only [ev_step] at hs
    obtain ⟨x, y, r, rfl, h⟩ := ev_ii_some hs
    obtain ⟨rfl, rfl, rfl, rfl⟩ := ev_next_some h
    exact ⟨rfl, lv_ixor hx hb hd (kk _ hl)⟩
  | ishl =>
    obtain rfl : len = 1 := by simpa [ev_ilen] using hln
    dsimp only [ev_step] at hs
    obtain ⟨x, y, r, rfl, h⟩ := ev_ii_some hs
    obtain ⟨rfl, rfl, rfl, rfl⟩ := ev_next_some h
    exact ⟨rfl, lv_ishl hx hb hd (kk _ hl)⟩
  | ishr =>
    obtain rfl : len = 1 := by simpa [ev_ilen] using hln
    dsimp only [ev_step] at hs
    obtain ⟨x, y, r, rfl, h⟩ := ev_ii_some hs
    obtain ⟨rfl, rfl, rfl, rfl⟩ := ev_next_some h
    exact ⟨rfl, lv_ishr hx hb hd (kk _ hl)⟩
  | iushr =>
    obtain rfl : len = 1 := by simpa [ev_ilen] using hln
    dsimp only [ev_step] at hs
    obtain ⟨x, y, r, rfl, h⟩ := ev_ii_some hs
    obtain ⟨rfl, rfl, rfl, rfl⟩ := ev_next_some h
    exact ⟨rfl, lv_iushr hx hb hd rfl (kk _ hl)⟩
  | i2c =>
    obtain rfl : len = 1 := by simpa [ev_ilen] using hln
    dsimp only [ev_step] at hs
    obtain ⟨x, r, rfl, h⟩ := ev_i_some hs
    obtain ⟨rfl, rfl, rfl, rfl⟩ := ev_next_some h
    exact ⟨rfl, lv_i2c hx hb hd rfl (kk _ hl)⟩
  | l2i =>
    obtain rfl : len = 1 := by simpa [ev_ilen] using hln
    dsimp only [ev_step] at hs
    obtain ⟨x, r, rfl, h⟩ := ev_l_some hs
    obtain ⟨rfl, rfl, rfl, rfl⟩ := ev_next_some h
    exact ⟨rfl, lv_l2i hx hb hd rfl (kk _ hl)⟩
  | land =>
    obtain rfl : len = 1 := by simpa [ev_ilen] using hln
    dsimp only [ev_step] at hs
    obtain ⟨x, y, r, rfl, h⟩ := ev_ll_some hs
    obtain ⟨rfl, rfl, rfl, rfl⟩ := ev_next_some h
    exact ⟨rfl, lv_land hx hb hd (kk _ hl)⟩
  | lcmp =>
    obtain rfl : len = 1 := by simpa [ev_ilen] using hln
    dsimp only [ev_step] at hs
    obtain ⟨x, y, r, rfl, h⟩ := ev_ll_some hs
    obtain ⟨rfl, rfl, rfl, rfl⟩ := ev_next_some h
    exact ⟨rfl, W.lcmp hx hb hd (kk _ hl)⟩
  | lshr =>
    obtain rfl : len = 1 := by simpa [ev_ilen] using hln
    dsimp only [ev_step] at hs
    obtain ⟨x, y, r, rfl, h⟩ := ev_li_some hs
    obtain ⟨rfl, rfl, rfl, rfl⟩ := ev_next_some h
    exact ⟨rfl, lv_lshr hx hb hd rfl (kk _ hl)⟩
  | dup =>
    obtain rfl : len = 1 := by simpa [ev_ilen] using hln
    dsimp only [ev_step] at hs
    obtain ⟨v, r, rfl, hc1, h⟩ := ev_1_some hs
    obtain ⟨rfl, rfl, rfl, rfl⟩ := ev_next_some h
    exact ⟨rfl, lv_dup hx hb hd ((ev_av_cat hV v).trans hc1) (kk _ hl)⟩
  | pop =>
    obtain rfl : len = 1 := by simpa [ev_ilen] using hln
    dsimp only [ev_step] at hs
    obtain ⟨v, r, rfl, hc1, h⟩ := ev_1_some hs
    obtain ⟨rfl, rfl, rfl, rfl⟩ := ev_next_some h
    exact ⟨rfl, lv_pop hx hb hd ((ev_av_cat hV v).trans hc1) (kk _ hl)⟩
  | ifCond q o =>
    obtain rfl : len = 3 := by simpa [ev_ilen] using hln
    dsimp only [ev_step] at hs
    obtain ⟨x, r, rfl, h⟩ := ev_i_some hs
    obtain ⟨t, rfl, h⟩ := ev_tg_some h
    obtain ⟨hk, rfl, rfl, rfl⟩ := ev_next_some h
    have hj : (k : Int) + o = (t : Int) := by simpa [ev_ckJ] using hm
    refine ⟨rfl, ?_⟩
    cases q with
    | eq => exact lv_if_eq hx hb hd hj (fun c1 => by simp only [ev_holds, decide_eq_true_eq] at hk; rw [if_pos c1] at hk; subst hk; exact kk _ hl) (fun c1 => by simp only [ev_holds, decide_eq_true_eq] at hk; rw [if_neg (c1)] at hk; subst hk; exact kk _ hl)
    | ne => exact lv_if_ne hx hb hd hj (fun c1 => by simp only [ev_holds, decide_eq_true_eq] at hk; rw [if_pos c1] at hk; subst hk; exact kk _ hl) (fun c1 => by simp only [ev_holds, decide_eq_true_eq] at hk; rw [if_neg (not_not_intro c1)] at hk; subst hk; exact kk _ hl)
    | lt => exact lv_if_lt hx hb hd hj (fun c1 => by simp only [ev_holds, decide_eq_true_eq] at hk; rw [if_pos c1] at hk; subst hk; exact kk _ hl) (fun c1 => by simp only [ev_holds, decide_eq_true_eq] at hk; rw [if_neg (c1)] at hk; subst hk; exact kk _ hl)
    | ge => exact lv_if_ge hx hb hd hj (fun c1 => by simp only [ev_holds, decide_eq_true_eq] at hk; rw [if_pos c1] at hk; subst hk; exact kk _ hl) (fun c1 => by simp only [ev_holds, decide_eq_true_eq] at hk; rw [if_neg (c1)] at hk; subst hk; exact kk _ hl)
    | gt => exact lv_if_gt hx hb hd hj (fun c1 => by simp only [ev_holds, decide_eq_true_eq] at hk; rw [if_pos c1] at hk; subst hk; exact kk _ hl) (fun c1 => by simp only [ev_holds, decide_eq_true_eq] at hk; rw [if_neg (c1)] at hk; subst hk; exact kk _ hl)
    | le => exact lv_if_le hx hb hd hj (fun c1 => by simp only [ev_holds, decide_eq_true_eq] at hk; rw [if_pos c1] at hk; subst hk; exact kk _ hl) (fun c1 => by simp only [ev_holds, decide_eq_true_eq] at hk; rw [if_neg (c1)] at hk; subst hk; exact kk _ hl)
  | if_icmp q o =>
    obtain rfl : len = 3 := by simpa [ev_ilen] using hln
    dsimp only [ev_step] at hs
    obtain ⟨x, y, r, rfl, h⟩ := ev_ii_some hs
    obtain ⟨t, rfl, h⟩ := ev_tg_some h
    obtain ⟨hk, rfl, rfl, rfl⟩ := ev_next_some h
    have hj : (k : Int) + o = (t : Int) := by simpa [ev_ckJ] using hm
    refine ⟨rfl, ?_⟩
    cases q with
    | eq => exact lv_icmp_eq hx hb hd hj (fun c1 => by simp only [ev_holds, decide_eq_true_eq] at hk; rw [if_pos c1] at hk; subst hk; exact kk _ hl) (fun c1 => by simp only [ev_holds, decide_eq_true_eq] at hk; rw [if_neg (c1)] at hk; subst hk; exact kk _ hl)
    | ne => exact lv_icmp_ne hx hb hd hj (fun c1 => by simp only [ev_holds, decide_eq_true_eq] at hk; rw [if_pos c1] at hk; subst hk; exact kk _ hl) (fun c1 => by simp only [ev_holds, decide_eq_true_eq] at hk; rw [if_neg (not_not_intro c1)] at hk; subst hk; exact kk _ hl)
    | lt => exact lv_icmp_lt hx hb hd hj (fun c1 => by simp only [ev_holds, decide_eq_true_eq] at hk; rw [if_pos c1] at hk; subst hk; exact kk _ hl) (fun c1 => by simp only [ev_holds, decide_eq_true_eq] at hk; rw [if_neg (c1)] at hk; subst hk; exact kk _ hl)
    | ge => exact lv_icmp_ge hx hb hd hj (fun c1 => by simp only [ev_holds, decide_eq_true_eq] at hk; rw [if_pos c1] at hk; subst hk; exact kk _ hl) (fun c1 => by simp only [ev_holds, decide_eq_true_eq] at hk; rw [if_neg (c1)] at hk; subst hk; exact kk _ hl)
    | gt => exact lv_icmp_gt hx hb hd hj (fun c1 => by simp only [ev_holds, decide_eq_true_eq] at hk; rw [if_pos c1] at hk; subst hk; exact kk _ hl) (fun c1 => by simp only [ev_holds, decide_eq_true_eq] at hk; rw [if_neg (c1)] at hk; subst hk; exact kk _ hl)
    | le => exact lv_icmp_le hx hb hd hj (fun c1 => by simp only [ev_holds, decide_eq_true_eq] at hk; rw [if_pos c1] at hk; subst hk; exact kk _ hl) (fun c1 => by simp only [ev_holds, decide_eq_true_eq] at hk; rw [if_neg (c1)] at hk; subst hk; exact kk _ hl)
  | goto o =>
    obtain rfl : len = 3 := by simpa [ev_ilen] using hln
    dsimp only [ev_step] at hs
    obtain ⟨t, rfl, h⟩ := ev_tg_some hs
    obtain ⟨rfl, rfl, rfl, rfl⟩ := ev_next_some h
    have hj : (k : Int) + o = (k' : Int) := by simpa [ev_ckJ] using hm
    exact ⟨rfl, lv_goto hx hb hd hj (kk _ hl)⟩
  | ifnull o =>
    obtain rfl : len = 3 := by simpa [ev_ilen] using hln
    dsimp only [ev_step] at hs
    obtain ⟨x, r, rfl, h⟩ := ev_q_some hs
    obtain ⟨t, rfl, h⟩ := ev_tg_some h
    have hj : (k : Int) + o = (t : Int) := by simpa [ev_ckJ] using hm
    cases x with
    | none =>
      obtain ⟨rfl, rfl, rfl, rfl⟩ := ev_next_some h
      exact ⟨rfl, lv_ifnullN hx hb hd hj (kk _ hl)⟩
    | some z =>
      dsimp only at h
      split at h
      · rename_i hz
        obtain ⟨rfl, rfl, rfl, rfl⟩ := ev_next_some h
        obtain ⟨a, ha⟩ := hV.2.2.1 z hz.1 hz.2
        refine ⟨rfl, ?_⟩
        rw [List.map_cons]
        show W p l en R s mid args below meth c H locs cells slots Q (F0 mid k lsR (V z :: _))
        rw [ha]
        exact lv_ifnull hx hb hd (kk _ hl)
      · cases h
  | ifnonnull o =>
    obtain rfl : len = 3 := by simpa [ev_ilen] using hln
    dsimp only [ev_step] at hs
    obtain ⟨x, r, rfl, h⟩ := ev_q_some hs
    obtain ⟨t, rfl, h⟩ := ev_tg_some h
    have hj : (k : Int) + o = (t : Int) := by simpa [ev_ckJ] using hm
    cases x with
    | none =>
      obtain ⟨rfl, rfl, rfl, rfl⟩ := ev_next_some h
      exact ⟨rfl, lv_ifnonnullN hx hb hd (kk _ hl)⟩
    | some z =>
      dsimp only at h
      split at h
      · rename_i hz
        obtain ⟨rfl, rfl, rfl, rfl⟩ := ev_next_some h
        obtain ⟨a, ha⟩ := hV.2.2.1 z hz.1 hz.2
        refine ⟨rfl, ?_⟩
        rw [List.map_cons]
        show W p l en R s mid args below meth c H locs cells slots Q (F0 mid k lsR (V z :: _))
        rw [ha]
        exact lv_ifnonnull hx hb hd hj (kk _ hl)
      · cases h
  | if_acmp q o =>
    obtain rfl : len = 3 := by simpa [ev_ilen] using hln
    dsimp only [ev_step] at hs
    obtain ⟨y, r0, rfl, h⟩ := ev_q_some hs
    obtain ⟨x, r, rfl, h2⟩ := ev_q_some h
    obtain ⟨t, rfl, h3⟩ := ev_tg_some h2
    clear h hs h2
    have hj : (k : Int) + o = (t : Int) := by simpa [ev_ckJ] using hm
    split at h3
    · rename_i hxy
      simp only [Bool.and_eq_true] at hxy
      have key : ∀ z : Option Nat, (z.all fun z => decide (400 ≤ z) && decide (z < 454)) = true → ∃ w : Option Nat, ev_av V (va_rf z) = va_rf w ∧ (z = none ↔ w = none) ∧ (∀ u, z = some u → 400 ≤ u ∧ u < 454) := by
        intro z hz
        cases z with
        | none => exact ⟨none, rfl, by simp, by simp⟩
        | some u =>
          simp only [Option.all_some, Bool.and_eq_true, decide_eq_true_eq] at hz
          obtain ⟨a, ha⟩ := hV.2.2.1 u hz.1 hz.2
          exact ⟨some a, ha, by simp, fun u' hu => by cases hu; exact hz⟩
      obtain ⟨x', ex, nx, bx⟩ := key x hxy.1
      obtain ⟨y', ey, ny, by'⟩ := key y hxy.2
      have heq : x = y ↔ x' = y' := by
        constructor
        · intro q
          subst q
          have : va_rf x' = va_rf y' := ex.symm.trans ey
          cases x' <;> cases y' <;> simp_all [va_rf]
        · intro q
          subst q
          cases x with
          | none => exact (ny.mpr (nx.mp rfl)).symm
          | some u =>
            cases y with
            | none => exact absurd (nx.mpr (ny.mp rfl)) (by simp)
            | some w =>
              have h1 := bx u rfl
              have h2 := by' w rfl
              rw [hV.2.2.2 u w h1.1 h1.2 h2.1 h2.2 (ex.trans ey.symm)]
      cases q with
      | eq =>
        obtain ⟨hk, rfl, rfl, rfl⟩ := ev_next_some h3
        refine ⟨rfl, ?_⟩
        rw [List.map_cons, List.map_cons, ex, ey]
        exact lv_acmp_eq hx hb hd hj (fun c1 => by rw [if_pos (heq.mpr c1)] at hk; subst hk; exact kk _ hl) (fun c1 => by rw [if_neg (fun q => c1 (heq.mp q))] at hk; subst hk; exact kk _ hl)
      | ne =>
        obtain ⟨hk, rfl, rfl, rfl⟩ := ev_next_some h3
        refine ⟨rfl, ?_⟩
        rw [List.map_cons, List.map_cons, ex, ey]
        exact lv_acmp_ne hx hb hd hj (fun c1 => by rw [if_neg (fun q => c1 (heq.mp q))] at hk; subst hk; exact kk _ hl) (fun c1 => by rw [if_pos (heq.mpr c1)] at hk; subst hk; exact kk _ hl)
    · cases h3
  | tableswitch d lo hi offs =>
    dsimp only [ev_step] at hs
    obtain ⟨x, r, rfl, h⟩ := ev_i_some hs
    obtain ⟨t, h1, h2⟩ := Option.bind_eq_some_iff.mp h
    obtain ⟨rfl, rfl, rfl, rfl⟩ := ev_next_some h2
    refine ⟨rfl, ?_⟩
    rcases ev_sw_some h1 with ⟨c1, c2⟩ | ⟨c1, c2, o, c3, c4⟩
    · exact lv_tableOut hx hb hd c1 c2 (kk _ hl)
    · exact lv_tableIn hx hb hd c1 c2 c3 c4 (kk _ hl)
  | _ => cases hi
end EVS
end
section
/-! ONE STEP that reads or writes cells -/
def ev_sz (x : Nat) : Nat := match ev_sh x with
  | some (.inl q) => q.2.length
  | some (.inr q) => q.2
  | none => 0
def ev_sl : Nat → Nat
  | 0 => 0
  | n + 1 => ev_sl n + ev_sz n
theorem ev_sl_mono {a b : Nat} (h : a ≤ b) : ev_sl a ≤ ev_sl b := by
  induction b with
  | zero =>
    have : a = 0 := by omega
    subst this
    exact Nat.le_refl _
  | succ b ih =>
    by_cases hb : a = b + 1
    · subst hb
      exact Nat.le_refl _
    · exact Nat.le_trans (ih (by omega)) (Nat.le_add_right _ _)
section EVC
variable {p : Program} {l : Launch} {en : Env} {R : Room} {s : State} {mid : MethodId} {args : Array Value} {below : List Frame} {meth : Method} {c : Code} {H : Heap} {locs : List Loc} {Q : State → Prop}
variable {B : Nat} {V : Nat → Value} {dC : Nat → ClassId} {dI : Nat → Nat → Nat} {dA : Nat → ClassId} {bytes : ByteArray} {k cells slots : Nat} {lsR : Array Slot} {rest : List Value} {σ : ev_M}
/-- a loaded element -/
theorem ev_Wald (hx : p.tables.exec = Jvm.exec) (hb : c.code = bytes) (hV : ev_V V B) (hK : va_K (dC, dI) vwCl (ev_tys dA) s) (hN : ev_New V B dC dI dA σ H) (hA : ev_OA V B σ s s.heap) (hS : va_S (ev_B B) s.heap H locs)
    {i : Instr} {t n x : Nat} {j : Int32} (hl : ev_len σ x = some (t, n)) (h0 : ¬ j < 0) (hn : j.toNatClampNeg < n) (hd : decode bytes k = .ok (i, 1))
    (hi : (i = .iaload ∧ t = 0) ∨ (i = .caload ∧ t = 1) ∨ (i = .baload ∧ (t = 2 ∨ t = 3)) ∨ (i = .aaload ∧ t = 4))
    (kk : W p l en R s mid args below meth c H locs cells slots Q (F0 mid (k + 1) lsR (ev_av V (ev_get σ x j.toNatClampNeg) :: rest))) :
    W p l en R s mid args below meth c H locs cells slots Q (F0 mid k lsR (.int j :: V x :: rest)) := by
  obtain ⟨a, cell, e1, e2, e3, e4, e5, e6, e7⟩ := ev_arr hV hK hN hA hS hl
  rw [e1]
  have hin : ¬ (j < 0 ∨ cell.slots.size ≤ j.toNatClampNeg) := by
    rintro (q | q)
    · exact h0 q
    · omega
  rcases hi with ⟨rfl, rfl⟩ | ⟨rfl, rfl⟩ | ⟨rfl, rfl | rfl⟩ | ⟨rfl, rfl⟩
  · exact W.iald hx hb e2 e3 e4 hin (e7 _ hn) rfl rfl hd kk
  · exact W.cald hx hb e2 e3 e4 hin (e7 _ hn) rfl rfl hd kk
  · exact W.zald hx hb e2 e3 e4 hin (e7 _ hn) rfl rfl hd kk
  · exact W.bald hx hb e2 e3 e4 hin (e7 _ hn) rfl rfl hd kk
  · exact W.aald hx hb e2 e3 rfl e4 hin (e7 _ hn) rfl rfl hd kk
/-- a stored element -/
theorem ev_Wast (hx : p.tables.exec = Jvm.exec) (hb : c.code = bytes) (hV : ev_V V B) (hK : va_K (dC, dI) vwCl (ev_tys dA) s) (hN : ev_New V B dC dI dA σ H) (hS : va_S (ev_B B) s.heap H locs)
    {i : Instr} {t n x : Nat} {j v w : Int32} (hx0 : 1000 ≤ x) (hxt : x < σ.1) (hsh : ev_sh x = some (.inr (t, n))) (h0 : ¬ j < 0) (hn : j.toNatClampNeg < n) (hd : decode bytes k = .ok (i, 1))
    (hi : (i = .iastore ∧ t = 0 ∧ w = v) ∨ (i = .castore ∧ t = 1 ∧ w = vp_nar .char v) ∨ (i = .bastore ∧ t = 2 ∧ w = vp_nar .boolean v))
    (kk : ∀ (H' : Heap) (locs' : List Loc), ev_New V B dC dI dA (σ.1, σ.2.1, σ.2.2.1, ev_upd σ.2.2.2 x j.toNatClampNeg w) H' → va_S (ev_B B) s.heap H' locs' → W p l en R s mid args below meth c H' locs' cells slots Q (F0 mid (k + 1) lsR rest)) :
    W p l en R s mid args below meth c H locs cells slots Q (F0 mid k lsR (.int v :: .int j :: V x :: rest)) := by
  rw [hV.2.1 x hx0]
  obtain ⟨ht, hc⟩ := ev_new_arr hN hx0 hxt hsh
  have hin : ¬ (j < 0 ∨ (arrV (dA t) n (fun j => .int (σ.2.2.2 x j))).slots.size ≤ j.toNatClampNeg) := by
    rw [arrV_size]
    rintro (q | q)
    · exact h0 q
    · omega
  have har := (ev_fty_arr hK ht).1 n (fun j => .int (σ.2.2.2 x j))
  rcases hi with ⟨rfl, rfl, rfl⟩ | ⟨rfl, rfl, rfl⟩ | ⟨rfl, rfl, rfl⟩
  · exact W.iast hx hb hc har (fun h => by cases h) hin rfl rfl hd fun H' e1 e2 e3 => kk H' _ (hN.ast hx0 hxt hsh e2 e3 e1) (ev_va_S hS e2 e3)
  · exact W.cast hx hb hc har (fun h => by cases h) hin rfl rfl hd fun H' e1 e2 e3 => kk H' _ (hN.ast hx0 hxt hsh e2 e3 e1) (ev_va_S hS e2 e3)
  · exact W.zast hx hb hc har (fun h => by cases h) hin rfl rfl hd fun H' e1 e2 e3 => kk H' _ (hN.ast hx0 hxt hsh e2 e3 e1) (ev_va_S hS e2 e3)
theorem ev_getf_new {x n : Nat} {v : Value} (hx : ¬ x < 1000) (h : ev_getf σ x n = some v) : x < σ.1 ∧ ∃ q o, ev_sh x = some (.inl q) ∧ q.1 = n / 64 ∧ q.2[n % 64]? = some o ∧ ((o = none ∧ v = .int (σ.2.2.1 x (n % 64))) ∨ ∃ b, o = some b ∧ σ.2.1 = ev_nr ∧ v = .ref b) := by
  unfold ev_getf at h
  rw [if_neg hx] at h
  split at h
  · rename_i hlt
    split at h
    · rename_i q hq
      split at h
      · rename_i h1
        split at h
        · rename_i h2
          cases h
          exact ⟨hlt, q, none, hq, h1, h2, Or.inl ⟨rfl, rfl⟩⟩
        · rename_i b h2
          split at h
          · rename_i h3
            cases h
            exact ⟨hlt, q, some b, hq, h1, h2, Or.inr ⟨b, rfl, h3, rfl⟩⟩
          · cases h
        · cases h
      · cases h
    · cases h
  · cases h
theorem ev_putf_some {x n : Nat} {v : Value} {σ' : ev_M} (h : ev_putf σ x n v = some σ') : 1000 ≤ x ∧ x < σ.1 ∧ ∃ q o, ev_sh x = some (.inl q) ∧ q.1 = n / 64 ∧ q.2[n % 64]? = some o ∧
    ((o = none ∧ ∃ z, v = .int z ∧ σ' = (σ.1, σ.2.1, ev_upd σ.2.2.1 x (n % 64) z, σ.2.2.2)) ∨ ∃ b, o = some b ∧ v = .ref b ∧ ev_refs[σ.2.1]? = some (x, n % 64) ∧ σ' = (σ.1, σ.2.1 + 1, σ.2.2.1, σ.2.2.2)) := by
  unfold ev_putf at h
  split at h
  · cases h
  · rename_i hx
    split at h
    · rename_i hlt
      split at h
      · rename_i q hq
        split at h
        · rename_i h1
          split at h
          · rename_i z h2
            cases h
            exact ⟨by omega, hlt, q, none, hq, h1, h2, Or.inl ⟨rfl, z, rfl, rfl⟩⟩
          · rename_i b y h2
            split at h
            · rename_i h3
              obtain ⟨h3, h4⟩ := h3
              subst h3
              cases h
              exact ⟨by omega, hlt, q, _, hq, h1, h2, Or.inr ⟨_, rfl, rfl, h4, rfl⟩⟩
            · cases h
          · cases h
        · cases h
      · cases h
    · cases h
end EVC
/-! the classes and shapes, checked by program -/
def ev_clOK : Bool := vwCl.all fun r => ((u_ws r.1 r.2.1 r.2.2).all fun w => decide (w ∈ lw_tbl) && ev_gw w) && ((List.range r.2.2).all fun a => (List.range r.2.2).all fun b => decide (a = b) || decide ((r.2.1 a).2.1 ≠ (r.2.1 b).2.1))
def ev_shOK : Bool := ev_shs.all fun c => match c with
  | .inl q => (match vwCl[q.1]? with
    | some r => decide (q.2.length = r.2.2) && ((List.range r.2.2).all fun k => match parseFieldDescriptor (r.2.1 k).2.2.1, q.2.getD k none with
      | some .int, none => true
      | some (.object _), some _ => true
      | some (.array _), some _ => true
      | _, _ => false)
    | none => false)
  | .inr q => decide (q.1 < 3) && decide (q.2 ≤ 60000000)
def ev_rfOK : Bool := decide (ev_nr = ev_refs.length) && (List.range ev_shs.length).all fun i => match ev_shs[i]? with
  | some (.inl q) => (List.range q.2.length).all fun k => match q.2.getD k none with
    | some _ => decide ((1000 + i, k) ∈ ev_refs)
    | none => true
  | _ => true
set_option maxRecDepth 100000 in
theorem ev_rfOK_true : ev_rfOK = true := by decide +kernel
set_option maxRecDepth 100000 in
theorem ev_clOK_true : ev_clOK = true := by decide +kernel
set_option maxRecDepth 100000 in
theorem ev_shOK_true : ev_shOK = true := by decide +kernel
theorem ev_cl {k : Nat} {r : vw_C} (h : vwCl[k]? = some r) : (∀ w ∈ u_ws r.1 r.2.1 r.2.2, w ∈ lw_tbl ∧ ev_gw w = true) ∧ (∀ a, a < r.2.2 → ∀ b, b < r.2.2 → a ≠ b → (r.2.1 a).2.1 ≠ (r.2.1 b).2.1) := by
  have h1 := List.all_eq_true.mp ev_clOK_true r (List.mem_of_getElem? h)
  simp only [Bool.and_eq_true] at h1
  refine ⟨fun w hw => ?_, fun a ha b hb hab => ?_⟩
  · have h2 := List.all_eq_true.mp h1.1 w hw
    simp only [Bool.and_eq_true, decide_eq_true_eq] at h2
    exact h2
  · have h2 := List.all_eq_true.mp (List.all_eq_true.mp h1.2 a (List.mem_range.mpr ha)) b (List.mem_range.mpr hb)
    simp only [Bool.or_eq_true, decide_eq_true_eq] at h2
    rcases h2 with h2 | h2
    · exact absurd h2 hab
    · exact h2
theorem ev_sh_mem {x : Nat} {c : (Nat × List (Option Nat)) ⊕ (Nat × Nat)} (h : ev_sh x = some c) : 1000 ≤ x ∧ c ∈ ev_shs := by
  unfold ev_sh at h
  split at h
  · cases h
  · exact ⟨by omega, List.mem_of_getElem? h⟩
/-- the shape of an object: its class, and of each field what kind it is -/
theorem ev_shO {x : Nat} {q : Nat × List (Option Nat)} (h : ev_sh x = some (.inl q)) : ∃ (r : vw_C) (ty : Nat → FieldType), vwCl[q.1]? = some r ∧ q.2.length = r.2.2 ∧ (∀ k, k < r.2.2 → parseFieldDescriptor (r.2.1 k).2.2.1 = some (ty k)) ∧
    ∀ k, k < r.2.2 → (ty k = .int ∧ q.2.getD k none = none) ∨ (((∃ z, ty k = .object z) ∨ ∃ z, ty k = .array z) ∧ ∃ b, q.2.getD k none = some b) := by
  have h1 := List.all_eq_true.mp ev_shOK_true _ (ev_sh_mem h).2
  dsimp only at h1
  split at h1
  · rename_i r hr
    simp only [Bool.and_eq_true, decide_eq_true_eq] at h1
    have key : ∀ k, k < r.2.2 → ∃ t, parseFieldDescriptor (r.2.1 k).2.2.1 = some t ∧ ((t = .int ∧ q.2.getD k none = none) ∨ (((∃ z, t = .object z) ∨ ∃ z, t = .array z) ∧ ∃ b, q.2.getD k none = some b)) := by
      intro k hk
      have h2 := List.all_eq_true.mp h1.2 k (List.mem_range.mpr hk)
      split at h2
      · rename_i e1 e2
        exact ⟨_, e1, Or.inl ⟨rfl, e2⟩⟩
      · rename_i e1 e2
        exact ⟨_, e1, Or.inr ⟨Or.inl ⟨_, rfl⟩, _, e2⟩⟩
      · rename_i e1 e2
        exact ⟨_, e1, Or.inr ⟨Or.inr ⟨_, rfl⟩, _, e2⟩⟩
      · cases h2
    refine ⟨r, fun k => (parseFieldDescriptor (r.2.1 k).2.2.1).getD .int, hr, h1.1, fun k hk => ?_, fun k hk => ?_⟩
    · obtain ⟨t, e1, -⟩ := key k hk
      dsimp only
      rw [e1]
      rfl
    · obtain ⟨t, e1, e2⟩ := key k hk
      dsimp only
      rw [e1]
      exact e2
  · cases h1
/-- every reference field is laid at last -/
theorem ev_refs_all {x k b : Nat} {q : Nat × List (Option Nat)} (h : ev_sh x = some (.inl q)) (hk : q.2.getD k none = some b) : ev_Rf ev_nr x k = true := by
  have h1 := ev_rfOK_true
  simp only [ev_rfOK, Bool.and_eq_true, decide_eq_true_eq] at h1
  unfold ev_Rf
  rw [h1.1, List.take_length]
  unfold ev_sh at h
  split at h
  · cases h
  · rename_i hx
    have h2 := List.all_eq_true.mp h1.2 (x - 1000) (List.mem_range.mpr (List.getElem?_eq_some_iff.mp h).1)
    rw [h] at h2
    dsimp only at h2
    have hkl : k < q.2.length := by
      rw [List.getD_eq_getElem?_getD] at hk
      rcases Nat.lt_or_ge k q.2.length with g | g
      · exact g
      · rw [List.getElem?_eq_none g] at hk
        cases hk
    have h3 := List.all_eq_true.mp h2 k (List.mem_range.mpr hkl)
    rw [hk] at h3
    dsimp only at h3
    rw [show 1000 + (x - 1000) = x by omega] at h3
    exact h3
theorem ev_shA {x t n : Nat} (h : ev_sh x = some (.inr (t, n))) : t < 3 ∧ n ≤ 60000000 := by
  have h1 := List.all_eq_true.mp ev_shOK_true _ (ev_sh_mem h).2
  simp only [Bool.and_eq_true, decide_eq_true_eq] at h1
  exact h1
section EVD
variable {p : Program} {l : Launch} {en : Env} {R : Room} {s : State} {mid : MethodId} {args : Array Value} {below : List Frame} {meth : Method} {c : Code} {H : Heap} {locs : List Loc} {Q : State → Prop}
variable {B : Nat} {V : Nat → Value} {dC : Nat → ClassId} {dI : Nat → Nat → Nat} {dA : Nat → ClassId} {bytes : ByteArray} {k cells slots : Nat} {lsR : Array Slot} {rest : List Value} {σ : ev_M}
theorem ev_hts (hTB : ev_TB s) {k : Nat} {r : vw_C} (h : vwCl[k]? = some r) (A : Array Value) : ∀ w ∈ u_ws r.1 r.2.1 r.2.2, w.before A s = true := fun w hw => hTB w ((ev_cl h).1 w hw).1 ((ev_cl h).1 w hw).2 A
/-- a field that is read, of an object made here -/
theorem ev_Wget (hx : p.tables.exec = Jvm.exec) (hb : c.code = bytes) (hV : ev_V V B) (hTB : ev_TB s) (hK : va_K (dC, dI) vwCl (ev_tys dA) s) (hN : ev_New V B dC dI dA σ H) {own : String} (hown : s.vm.findClass own = some mid.cls)
    {x n i : Nat} {v : Value} {pl : List Nat} (hx0 : ¬ x < 1000) (hg : ev_getf σ x n = some v) (hn : n < 1280) (hck : ev_ckF own i n pl = true) (hd : decode bytes k = .ok (.getfield i, 3))
    (kk : W p l en R s mid args below meth c H locs cells slots Q (F0 mid (k + 3) lsR (ev_av V v :: rest))) : W p l en R s mid args below meth c H locs cells slots Q (F0 mid k lsR (V x :: rest)) := by
  obtain ⟨hxt, q, o, hq, hqc, ho, hv⟩ := ev_getf_new hx0 hg
  rw [hV.2.1 x (by omega)]
  have hc := hN.2.2.1 x (by omega) hxt
  unfold ev_cell at hc
  rw [hq] at hc
  obtain ⟨r, hr, hlen, cell, q1, q2, q3, q4⟩ := hc
  unfold ev_ckF at hck
  rw [if_pos hn, ← hqc, hr] at hck
  simp only [Bool.and_eq_true, decide_eq_true_eq] at hck
  obtain ⟨hS, hfc, kC, hkC, hkind⟩ := hK.1 q.1 _ hr
  obtain ⟨cf, kf, fi, f, hi, hsl⟩ := hS (n % 64) hck.1
  refine W.getf hx hb hown (hTB.use hck.2 args) hi (u_facts hfc hkC (u_lays (ev_hts hTB hr args) (fun w h => h) hck.1) hi).1 q1 (by rw [q3]; exact fun h => by cases h) (v := ev_av V v) ?_ rfl rfl hd kk
  rw [hsl, q4 (n % 64) hck.1]
  dsimp only
  rw [show q.2.getD (n % 64) none = o by rw [List.getD_eq_getElem?_getD, ho]; rfl]
  rcases hv with ⟨rfl, rfl⟩ | ⟨b, rfl, hb2, rfl⟩
  · rfl
  · have h8 : ev_Rf σ.2.1 x (n % 64) = true := by rw [hb2]; exact ev_refs_all hq (by rw [List.getD_eq_getElem?_getD, ho]; rfl)
    simp [ev_fv, h8, ev_av]
/-- a field that is read, of an object that was there before -/
theorem ev_WgetO (hx : p.tables.exec = Jvm.exec) (hb : c.code = bytes) (hTB : ev_TB s) (hO : ev_Old V B s s.heap) (hS : va_S (ev_B B) s.heap H locs) {own : String} (hown : s.vm.findClass own = some mid.cls)
    {x n i : Nat} {v : Value} {pl : List Nat} (hg : ev_of x (n % 100000) = some v) (hn : ¬ n < 1280) (hck : ev_ckF own i n pl = true) (hd : decode bytes k = .ok (.getfield i, 3))
    (kk : W p l en R s mid args below meth c H locs cells slots Q (F0 mid (k + 3) lsR (ev_av V v :: rest))) : W p l en R s mid args below meth c H locs cells slots Q (F0 mid k lsR (V x :: rest)) := by
  obtain ⟨a, e1, hE⟩ := hO.2.1 x _ v hg
  rw [e1]
  unfold ev_ckF at hck
  rw [if_neg hn] at hck
  split at hck
  · rename_i hlt
    rw [Nat.mod_eq_of_lt hlt] at hE
    exact vk_getf hx hb hE hS hown (hTB.use hck args) (fun _ h => h) hd kk
  · simp only [Bool.and_eq_true, decide_eq_true_eq] at hck
    obtain ⟨cf, k2, fi, f, cell, h1, h2, h3, h4, h5, h6⟩ := hE.kept hS.2.1
    exact va_Wgetf hx hb hown (hTB.use hck.1 args) h1 h2 h3 h4 (v := ev_av V v) h5 rfl rfl hd kk
/-- a field that is written -/
theorem ev_Wput (hx : p.tables.exec = Jvm.exec) (hb : c.code = bytes) (hV : ev_V V B) (hTB : ev_TB s) (hK : va_K (dC, dI) vwCl (ev_tys dA) s) (hN : ev_New V B dC dI dA σ H) (hS0 : va_S (ev_B B) s.heap H locs) {y : MethodName} (hown : s.vm.findClass y.cls = some mid.cls) (hnm : meth.name = y.name)
    {x n i : Nat} {v : Value} {pl : List Nat} {σ' : ev_M} (hg : ev_putf σ x n v = some σ') (hck : ev_ckP y i n pl = true) (hd : decode bytes k = .ok (.putfield i, 3))
    (kk : ∀ (H' : Heap) (locs' : List Loc), ev_New V B dC dI dA σ' H' → va_S (ev_B B) s.heap H' locs' → W p l en R s mid args below meth c H' locs' cells slots Q (F0 mid (k + 3) lsR rest)) : W p l en R s mid args below meth c H locs cells slots Q (F0 mid k lsR (ev_av V v :: V x :: rest)) := by
  obtain ⟨hx0, hxt, q, o, hq, hqc, ho, hv⟩ := ev_putf_some hg
  rw [hV.2.1 x hx0]
  have hc := hN.2.2.1 x hx0 hxt
  unfold ev_cell at hc
  rw [hq] at hc
  obtain ⟨r, hr, hlen, cell, q1, q2, q3, q4⟩ := hc
  obtain ⟨r', ty, hr', -, hty, hkd⟩ := ev_shO hq
  cases hr.symm.trans hr'
  unfold ev_ckP at hck
  rw [← hqc, hr] at hck
  simp only [Bool.and_eq_true, decide_eq_true_eq, Bool.or_eq_true] at hck
  obtain ⟨hn, ⟨hkN, hlk⟩, hfin⟩ := hck
  have hin : ∀ w ∈ u_ws r.1 r.2.1 r.2.2, w ∈ u_ws r.1 r.2.1 r.2.2 := fun _ h => h
  have hts := ev_hts hTB hr args
  have hap := va_apart (own := y.cls) hts hin ty hty (ev_cl hr).2 hK hr
  obtain ⟨hS, hfc, kC, hkC, hkind⟩ := hK.1 q.1 _ hr
  obtain ⟨cf, kf, fi, f, hi, hsl⟩ := hS (n % 64) hkN
  have hst := (u_facts hfc hkC (u_lays hts hin hkN) hi).1
  have hgd : q.2.getD (n % 64) none = o := by rw [List.getD_eq_getElem?_getD, ho]; rfl
  have hvt : narrow (ty (n % 64)) (ev_av V v) = ev_av V v ∧ fits (ty (n % 64)) (ev_av V v) = true := by
    rcases hkd (n % 64) hkN with ⟨e1, e2⟩ | ⟨e1, b, e2⟩
    · rw [hgd] at e2
      rcases hv with ⟨-, z, rfl, -⟩ | ⟨b, rfl, -, -⟩
      · rw [e1]
        exact ⟨rfl, rfl⟩
      · cases e2
    · rw [hgd] at e2
      rcases hv with ⟨rfl, -⟩ | ⟨b', rfl, rfl, -, -⟩
      · cases e2
      · rcases hV.1 b' with h0 | ⟨a, h0⟩ <;> rcases e1 with ⟨z, e1⟩ | ⟨z, e1⟩ <;> rw [e1] <;> simp [ev_av, h0, narrow, fits]
  have hlay0 := hts _ (hin _ (u_in_lay hkN))
  have fin : ∀ H' : Heap, H'[B + (x - 1000)]? = some (cell.setSlot f.slot (ev_av V v)) → H'.size = H.size → (∀ z, z ≠ B + (x - 1000) → H'[z]? = H[z]?) → W p l en R s mid args below meth c H' (locs ++ [⟨B + (x - 1000), f.slot⟩]) cells slots Q (F0 mid (k + 3) lsR rest) := by
    intro H' e1 e2 e3
    rw [hsl] at e1
    refine kk H' _ ?_ (ev_va_S hS0 e2 e3)
    have hset := t_set q4 hap hkN (ev_av V v)
    rcases hv with ⟨rfl, z, rfl, rfl⟩ | ⟨b, rfl, rfl, hrf, rfl⟩
    · refine hN.put hx0 hxt rfl e2 e3 (fun y hy j => ⟨rfl, ev_upd_ne hy j, rfl⟩) ?_
      unfold ev_cell
      rw [hq]
      refine ⟨r, hr, hlen, t_OB.to ⟨_, e1, q2, q3, hset⟩ fun j hj => ?_⟩
      by_cases hjk : j = n % 64
      · subst hjk
        rw [hgd]
        simp [updV, ev_fv, ev_upd_at, ev_av]
      · simp only [updV, if_neg hjk, ev_fv, ev_upd_at]
    · refine hN.put hx0 hxt rfl e2 e3 (fun y hy j => ⟨by dsimp only; rw [ev_Rf_next hrf, if_neg (fun z => hy z.1)], rfl, rfl⟩) ?_
      unfold ev_cell
      rw [hq]
      refine ⟨r, hr, hlen, t_OB.to ⟨_, e1, q2, q3, hset⟩ fun j hj => ?_⟩
      by_cases hjk : j = n % 64
      · subst hjk
        rw [hgd]
        simp [updV, ev_fv, ev_Rf_next hrf, ev_av]
      · simp only [updV, if_neg hjk, ev_fv, ev_Rf_next hrf, hjk, and_false, if_false]
  by_cases hf : (r.2.1 (n % 64)).2.2.2 = false
  · have hlay := hlay0
    unfold u_lay at hlay
    rw [if_neg (by rw [hf]; decide)] at hlay
    have h6 := u_store hfc hkC hkind hlay hi (hty _ hkN) hvt.1 hvt.2
    exact W.putK hx hb (f := f) ⟨hown, hTB.use hlk args, ⟨_, _, _, hi⟩, hst⟩ (by rw [q2]; exact h6) q1 q3 (by rw [hsl]; exact k2_hasslot (q4 (n % 64) hkN)) rfl rfl hd fin
  · obtain ⟨hin2, hdecl⟩ := hfin.resolve_left hf
    have hf : (r.2.1 (n % 64)).2.2.2 = true := by simpa using hf
    have hlay := hlay0
    unfold u_lay at hlay
    rw [if_pos hf] at hlay
    have hcf : mid.cls = cf := by
      obtain ⟨_, _, c', _, _, _, -, -, hf', -, -, -, hown2, -⟩ := Cond.laysFinal_spec hlay
      have e1 : c' = cf := by have := hi.symm.trans hf'; simp at this; exact this.1.symm
      rw [hdecl] at hown2
      rw [← e1]; exact Option.some.inj (hown.symm.trans hown2)
    have h6 := u_fits hfc hkC hkind (Or.inr hlay) hi (hty _ hkN) hvt.1 hvt.2
    exact W.putFinK hx hb hown (hTB.use hlk args) hi hst hcf (by rw [hnm, hin2]) (by rw [q2]; exact h6) q1 q3 (by rw [hsl]; exact k2_hasslot (q4 (n % 64) hkN)) rfl rfl hd fin
/-- behind a cell that was made -/
theorem ev_New.push (hN : ev_New V B dC dI dA σ H) {H1 : Heap} (hz : H1.size = H.size + 1) (ho : ∀ q, q < H.size → H1[q]? = H[q]?) (hc : ev_cell V B dC dI dA σ H1 σ.1) : ev_New V B dC dI dA (σ.1 + 1, σ.2) H1 := by
  obtain ⟨h1, h2, h3, h4⟩ := hN
  refine ⟨by dsimp only; omega, by dsimp only; omega, fun x hx hxt => ?_, fun x hx k => h4 x (by dsimp only at hx; omega) k⟩
  dsimp only at hxt
  have same : ∀ G : Heap, ev_cell V B dC dI dA σ G x → ev_cell V B dC dI dA (σ.1 + 1, σ.2) G x := fun G h => h
  by_cases hxs : x = σ.1
  · subst hxs
    exact same _ hc
  · have h5 := h3 x hx (by omega)
    have h6 : H1[B + (x - 1000)]? = H[B + (x - 1000)]? := ho _ (by omega)
    apply same
    unfold ev_cell at h5 ⊢
    split at h5
    · obtain ⟨r, e1, e2, e3⟩ := h5
      exact ⟨r, e1, e2, e3.kept h6⟩
    · exact ⟨h5.1, by rw [h6]; exact h5.2⟩
    · exact h5
/-- an object is made -/
theorem ev_Wnew (hx : p.tables.exec = Jvm.exec) (hb : c.code = bytes) (hV : ev_V V B) (hTB : ev_TB s) (hK : va_K (dC, dI) vwCl (ev_tys dA) s) (hN : ev_New V B dC dI dA σ H) (hS : va_S (ev_B B) s.heap H locs) {own : String} (hown : s.vm.findClass own = some mid.cls)
    {i : Nat} {q : Nat × List (Option Nat)} {r : vw_C} {p0 p1 p2 : Nat} (hq : ev_sh σ.1 = some (.inl q)) (hr : vwCl[q.1]? = some r) (h0 : ev_w p0 (.classLink own i r.1) = true) (h1 : ev_w p1 (.instantiable r.1 r.2.2) = true) (h2 : ev_w p2 (.initialized r.1) = true) (hd : decode bytes k = .ok (.new i, 3))
    (hcells : cells + 1 ≤ R.cells) (hslots : slots + ev_sz σ.1 ≤ R.slots)
    (kk : ∀ H' : Heap, ev_New V B dC dI dA (σ.1 + 1, σ.2) H' → va_S (ev_B B) s.heap H' locs → W p l en R s mid args below meth c H' locs (cells + 1) (slots + ev_sz σ.1) Q (F0 mid (k + 3) lsR (V σ.1 :: rest))) : W p l en R s mid args below meth c H locs cells slots Q (F0 mid k lsR rest) := by
  obtain ⟨r', ty, hr', hlen, hty, hkd⟩ := ev_shO hq
  cases hr.symm.trans hr'
  have hsz : ev_sz σ.1 = r.2.2 := by unfold ev_sz; rw [hq]; exact hlen
  rw [hsz] at hslots kk
  have hKn := hK.1 q.1 _ hr
  have hV0 : V σ.1 = .ref H.size := by rw [hV.2.1 σ.1 hN.1, hN.2.1]
  rw [hV0] at kk
  refine W.newcK hx hb hown (hTB.use h0 args) (hTB.use h1 args) (hTB.use h2 args) rfl hd hcells hslots hKn.2.1 rfl fun H1 kC hkC e1 z1 o1 => ?_
  refine kk H1 (hN.push z1 o1 ?_) ⟨Nat.le_trans hS.1 (by omega), fun x g1 g2 => (o1 x (Nat.lt_of_lt_of_le g1 hS.1)).trans (hS.2.1 x g1 g2), hS.2.2⟩
  unfold ev_cell
  rw [hq]
  refine ⟨r, hr, hlen, ?_⟩
  have e2 : H.size = B + (σ.1 - 1000) := hN.2.1
  rw [e2] at e1
  refine (u_born ty (ev_hts hTB hr args) (fun w h => h) hKn hkC e1 hty).to fun j hj => ?_
  have hz := hN.2.2.2 σ.1 (Nat.le_refl _) j
  rcases hkd j hj with ⟨g1, g2⟩ | ⟨g1, b, g2⟩
  · rw [g1, g2]
    simp [ev_fv, hz.2.1, defaultValue]
  · rw [g2]
    rcases g1 with ⟨z, g1⟩ | ⟨z, g1⟩ <;> rw [g1] <;> simp [ev_fv, hz.1, defaultValue]
theorem ev_tag_ty {t : ArrayType} (h : ev_tag t < 3) : newarray.typeOf t = ev_fty (ev_tag t) := by
  cases t <;> simp [ev_tag] at h <;> rfl
theorem ev_def (t : Nat) (ht : t < 3) : defaultValue (ev_fty t) = .int 0 := by
  match t, ht with
  | 0, _ => rfl
  | 1, _ => rfl
  | 2, _ => rfl
theorem ev_bytes (t n : Nat) (ht : t < 3) (hn : n ≤ 60000000) : n * componentBytes (ev_fty t) ≤ 536870912 := by
  match t, ht with
  | 0, _ =>
    show n * 4 ≤ _
    omega
  | 1, _ =>
    show n * 2 ≤ _
    omega
  | 2, _ =>
    show n * 1 ≤ _
    omega
/-- an array is made -/
theorem ev_Wnewa (hx : p.tables.exec = Jvm.exec) (hb : c.code = bytes) (hV : ev_V V B) (hTB : ev_TB s) (hK : va_K (dC, dI) vwCl (ev_tys dA) s) (hN : ev_New V B dC dI dA σ H) (hS : va_S (ev_B B) s.heap H locs)
    {t : ArrayType} {z : Int32} {n p0 : Nat} (hq : ev_sh σ.1 = some (.inr (ev_tag t, n))) (h0 : ev_w p0 (.arrayClass (newarray.typeOf t)) = true) (hz0 : ¬ z < 0) (hzn : z.toNatClampNeg = n) (hd : decode bytes k = .ok (.newarray t, 2))
    (hcells : cells + 1 ≤ R.cells) (hslots : slots + ev_sz σ.1 ≤ R.slots)
    (kk : ∀ H' : Heap, ev_New V B dC dI dA (σ.1 + 1, σ.2) H' → va_S (ev_B B) s.heap H' locs → W p l en R s mid args below meth c H' locs (cells + 1) (slots + ev_sz σ.1) Q (F0 mid (k + 2) lsR (V σ.1 :: rest))) : W p l en R s mid args below meth c H locs cells slots Q (F0 mid k lsR (.int z :: rest)) := by
  obtain ⟨ht, hn⟩ := ev_shA hq
  have hsz : ev_sz σ.1 = n := by unfold ev_sz; rw [hq]
  rw [hsz] at hslots kk
  have hV0 : V σ.1 = .ref H.size := by rw [hV.2.1 σ.1 hN.1, hN.2.1]
  rw [hV0] at kk
  have hty := ev_tag_ty ht
  refine va_newaK hx hb (hTB.use h0 args) rfl hd rfl hz0 hzn (by rw [hty]; exact ev_bytes _ _ ht hn) hcells hslots rfl fun H1 cA e1 z1 o1 hAr hNm => ?_
  refine kk H1 (hN.push z1 o1 ?_) ⟨Nat.le_trans hS.1 (by omega), fun x g1 g2 => (o1 x (Nat.lt_of_lt_of_le g1 hS.1)).trans (hS.2.1 x g1 g2), hS.2.2⟩
  unfold ev_cell
  rw [hq]
  refine ⟨ht, ?_⟩
  have hcA : cA = dA (ev_tag t) := by
    have h3 := (ev_fty_arr hK ht).2
    rw [hty] at hNm
    have h4 : s.vm.findClass ("[" ++ (ev_fty (ev_tag t)).toString) = some (dA (ev_tag t)) := by
      have : ∀ u, u < 3 → va_RA s (dA (ev_tag t)) (ev_fty u) → s.vm.findClass ("[" ++ (ev_fty u).toString) = some (dA (ev_tag t)) := by
        intro u hu h
        match u, hu with
        | 0, _ => exact h
        | 1, _ => exact h
        | 2, _ => exact h
      exact this _ ht h3
    exact Option.some.inj (hNm.symm.trans h4)
  have e2 : H.size = B + (σ.1 - 1000) := hN.2.1
  rw [e2] at e1
  rw [e1, hty, ev_def _ ht, hcA]
  congr 2
  funext j
  rw [(hN.2.2.2 σ.1 (Nat.le_refl _) j).2.2]
end EVD
end
section
/-! System.arraycopy over int arrays -/
section EVX
variable {p : Program} {l : Launch} {en : Env} {R : Room} {s : State} {mid : MethodId} {args : Array Value} {below : List Frame} {meth : Method} {c : Code} {H : Heap} {locs : List Loc} {Q : State → Prop}
variable {B : Nat} {V : Nat → Value} {dC : Nat → ClassId} {dI : Nat → Nat → Nat} {dA : Nat → ClassId} {bytes : ByteArray} {k cells slots : Nat} {lsR : Array Slot} {rest : List Value} {σ : ev_M}
theorem ev_nn (z : Int32) (hz : ¬ z < 0) : z.toInt = (z.toNatClampNeg : Int) := by
  have hz0 : (0 : Int) ≤ z.toInt := by
    have := Int32.not_lt.mp hz
    simpa using Int32.le_iff_toInt_le.mp this
  show z.toInt = ((z.toInt.toNat : Nat) : Int)
  omega
set_option maxHeartbeats 4000000 in
theorem ev_Wcopy (hx : p.tables.exec = Jvm.exec) (hb : c.code = bytes) (hml : c.maxLocals = lsR.size) (hV : ev_V V B) (hTB : ev_TB s) (hK : va_K (dC, dI) vwCl (ev_tys dA) s) (hN : ev_New V B dC dI dA σ H) (hS : va_S (ev_B B) s.heap H locs) {own : String} (hown : s.vm.findClass own = some mid.cls)
    {i p0 p1 p2 p3 a b na nb : Nat} {sp dp n : Int32} (w0 : ev_w p0 (.methodLink own i arraycopyName) = true) (w1 : ev_w p1 (.native arraycopyName) = true) (w2 : ev_w p2 (.static arraycopyName) = true) (w3 : ev_w p3 (.initialized "java/lang/System") = true)
    (ha : 1000 ≤ a) (hat : a < σ.1) (hb0 : 1000 ≤ b) (hbt : b < σ.1) (hsa : ev_sh a = some (.inr (0, na))) (hsb : ev_sh b = some (.inr (0, nb))) (h1 : ¬ sp < 0) (h2 : ¬ dp < 0) (h3 : ¬ n < 0) (h4 : sp.toNatClampNeg + n.toNatClampNeg ≤ na) (h5 : dp.toNatClampNeg + n.toNatClampNeg ≤ nb)
    (hframes : 1 ≤ R.frames) (hlocals : (rest.map fun v => v.category).sum + 20 ≤ R.locals) (hd : decode bytes k = .ok (.invokestatic i, 3))
    (kk : ∀ (H' : Heap) (locs' : List Loc), ev_New V B dC dI dA (σ.1, σ.2.1, σ.2.2.1, fun x j => if x = b then va_cpy (σ.2.2.2 a) (σ.2.2.2 b) sp.toNatClampNeg dp.toNatClampNeg n.toNatClampNeg j else σ.2.2.2 x j) H' → va_S (ev_B B) s.heap H' locs' → W p l en R s mid args below meth c H' locs' cells slots Q (F0 mid (k + 3) lsR rest)) :
    W p l en R s mid args below meth c H locs cells slots Q (F0 mid k lsR (.int n :: .int dp :: V b :: .int sp :: V a :: rest)) := by
  rw [hV.2.1 a ha, hV.2.1 b hb0]
  obtain ⟨-, hc0⟩ := ev_new_arr hN ha hat hsa
  obtain ⟨-, hc1⟩ := ev_new_arr hN hb0 hbt hsb
  obtain ⟨-, k0, hk0, cm0, hkk0⟩ := (ev_fty_arr hK (t := 0) (by omega)).1 na (fun j => .int (σ.2.2.2 a j))
  obtain ⟨-, k1, hk1, cm1, hkk1⟩ := (ev_fty_arr hK (t := 0) (by omega)).1 nb (fun j => .int (σ.2.2.2 b j))
  intro T hT X
  obtain ⟨vm', X', step⟩ := X.arraycopy hx hown (hTB.use w0 args) (hTB.use w1 args) (hTB.use w2 args) (hTB.use w3 args) (src := B + (a - 1000)) (dst := B + (b - 1000)) (cs := arrV (dA 0) na (fun j => .int (σ.2.2.2 a j))) (cd := arrV (dA 0) nb (fun j => .int (σ.2.2.2 b j))) (srcPos := sp) (destPos := dp) (n := n) (by rw [hT]; exact hc0) (by rw [hT]; exact hc1)
    (fun _ h => by cases h) (fun _ h => by cases h) (fun h => by cases h) (fun h => by cases h) hk0 hk1 hkk0 hkk1 (by simp [ev_fty, refKind]) h1 h2 h3
    (by rw [ev_nn sp h1, ev_nn n h3]; rw [arrV_size]; omega)
    (by rw [ev_nn dp h2, ev_nn n h3]; rw [arrV_size]; omega)
    (fun vm₁ _ i hi => by
      have e : (arrV (dA 0) na (fun j => .int (σ.2.2.2 a j))).slots.getD (sp.toNatClampNeg + i) .null = .int (σ.2.2.2 a (sp.toNatClampNeg + i)) := by
        rw [Array.getD_eq_getD_getElem?, arrV_read _ _ (by omega)]
        rfl
      refine ⟨?_, ?_⟩
      · rw [e]
        rfl
      · rw [e]
        exact trivial)
    (g := F0 mid k lsR (.int n :: .int dp :: .ref (B + (b - 1000)) :: .int sp :: .ref (B + (a - 1000)) :: rest)) rfl (by rw [hml]) (rest := rest) rfl (by rw [hb]; exact hd) hframes (by show 2 * 0 + _ + _ ≤ _; simp [nativeFrameWords]; omega)
  have e1 : copied (arrV (dA 0) na (fun j => .int (σ.2.2.2 a j))) (arrV (dA 0) nb (fun j => .int (σ.2.2.2 b j))) sp dp n = arrV (dA 0) nb (fun j => .int (va_cpy (σ.2.2.2 a) (σ.2.2.2 b) sp.toNatClampNeg dp.toNatClampNeg n.toNatClampNeg j)) := va_copied (fun z => .int z) (dA 0) (dA 0) (σ.2.2.2 a) (σ.2.2.2 b) h4
  rw [e1] at X' step
  have hl : B + (b - 1000) < H.size := (Array.getElem?_eq_some_iff.mp hc1).1
  generalize hcell : arrV (dA 0) nb (fun j => .int (va_cpy (σ.2.2.2 a) (σ.2.2.2 b) sp.toNatClampNeg dp.toNatClampNeg n.toNatClampNeg j)) = cell at X' step
  have hheap : ((T.setVm vm').setCell (B + (b - 1000)) cell).heap = H.setIfInBounds (B + (b - 1000)) cell := by rw [← hT]; rfl
  have oq : ∀ q : Nat, q ≠ B + (b - 1000) → (H.setIfInBounds (B + (b - 1000)) cell)[q]? = H[q]? := fun q hq => by simp [Array.getElem?_setIfInBounds, Ne.symm hq]
  have ob : (H.setIfInBounds (B + (b - 1000)) cell)[B + (b - 1000)]? = some cell := by simp [Array.getElem?_setIfInBounds, hl]
  obtain ⟨t, a1, b1⟩ := kk _ _ (hN.put (σ' := (σ.1, σ.2.1, σ.2.2.1, fun x j => if x = b then va_cpy (σ.2.2.2 a) (σ.2.2.2 b) sp.toNatClampNeg dp.toNatClampNeg n.toNatClampNeg j else σ.2.2.2 x j)) hb0 hbt rfl (by simp) oq (fun y hy j => ⟨rfl, rfl, by simp [hy]⟩) (by
      unfold ev_cell
      rw [hsb]
      refine ⟨Nat.zero_lt_succ 2, ?_⟩
      rw [ob, ← hcell]
      simp)) ⟨by simp; exact hS.1, fun q g1 g2 => by
      rw [oq q (fun e => g2 (by rw [e]; exact Nat.le_add_right _ _))]
      exact hS.2.1 q g1 g2, fun q hq => by
      rcases List.mem_append.mp hq with h | h
      · exact hS.2.2 q h
      · obtain ⟨z, -, hz⟩ := List.mem_map.mp h
        rw [← hz]
        exact Nat.le_add_right _ _⟩ _ hheap X'
  exact ⟨t, step t a1, b1⟩
end EVX
end
section
/-! EVERY STEP within a method -/
def ev_le (σ σ' : ev_M) : Prop := σ.1 ≤ σ'.1 ∧ (∀ k, σ'.2.2.1 502 k = σ.2.2.1 502 k) ∧ ∀ k, σ'.2.2.2 502 k = σ.2.2.2 502 k
theorem ev_le.rf (σ : ev_M) : ev_le σ σ := ⟨Nat.le_refl _, fun _ => rfl, fun _ => rfl⟩
theorem ev_le.tr {a b c : ev_M} (h : ev_le a b) (g : ev_le b c) : ev_le a c := ⟨Nat.le_trans h.1 g.1, fun k => (g.2.1 k).trans (h.2.1 k), fun k => (g.2.2 k).trans (h.2.2 k)⟩
theorem ev_OA.le {V : Nat → Value} {B : Nat} {σ σ' : ev_M} {s : State} {H : Heap} (h : ev_le σ σ') (hA : ev_OA V B σ s H) : ev_OA V B σ' s H := hA.same (h.2.1 0) h.2.2
theorem ev_copy_some {σ : ev_M} {st : List Value} {f : ev_M → List Value → Option ev_O} {z : ev_O} (h : ev_copy σ st f = some z) : ∃ (n dp sp : Int32) (a b : Nat) (r : List Value) (na nb : Nat), st = .int n :: .int dp :: .ref b :: .int sp :: .ref a :: r ∧ 1000 ≤ a ∧ 1000 ≤ b ∧ a < σ.1 ∧ b < σ.1 ∧ ev_cat r ≤ 8 ∧ ev_sh a = some (.inr (0, na)) ∧ ev_sh b = some (.inr (0, nb)) ∧
    ¬ sp < 0 ∧ ¬ dp < 0 ∧ ¬ n < 0 ∧ sp.toNatClampNeg + n.toNatClampNeg ≤ na ∧ dp.toNatClampNeg + n.toNatClampNeg ≤ nb ∧ f (σ.1, σ.2.1, σ.2.2.1, fun x j => if x = b then va_cpy (σ.2.2.2 a) (σ.2.2.2 b) sp.toNatClampNeg dp.toNatClampNeg n.toNatClampNeg j else σ.2.2.2 x j) r = some z := by
  unfold ev_copy at h
  split at h
  · rename_i n dp b sp a r
    split at h
    · cases h
    · rename_i h0
      have key : ∀ x t m, ¬ x < 1000 → ev_len σ x = some (t, m) → x < σ.1 ∧ ev_sh x = some (.inr (t, m)) := by
        intro x t m hx hl
        unfold ev_len at hl
        rw [if_neg hx] at hl
        split at hl
        · rename_i hlt
          split at hl
          · rename_i q hq
            cases hl
            exact ⟨hlt, hq⟩
          · cases hl
        · cases hl
      split at h
      · rename_i na nb h1 h2
        split at h
        · cases h
        · rename_i h3
          obtain ⟨g1, g2⟩ := key a 0 na (fun q => h0 (Or.inl q)) h1
          obtain ⟨g3, g4⟩ := key b 0 nb (fun q => h0 (Or.inr (Or.inl q))) h2
          refine ⟨n, dp, sp, a, b, r, na, nb, rfl, Nat.not_lt.mp fun q => h0 (Or.inl q), Nat.not_lt.mp fun q => h0 (Or.inr (Or.inl q)), g1, g3, Nat.not_lt.mp fun q => h0 (Or.inr (Or.inr q)), g2, g4, fun q => h3 (Or.inl q), fun q => h3 (Or.inr (Or.inl q)), fun q => h3 (Or.inr (Or.inr (Or.inl q))), ?_, ?_, h⟩
          · exact Nat.not_lt.mp fun q => h3 (Or.inr (Or.inr (Or.inr (Or.inl q))))
          · exact Nat.not_lt.mp fun q => h3 (Or.inr (Or.inr (Or.inr (Or.inr q))))
      · cases h
  · cases h
theorem ev_call_some {σ : ev_M} {lk : Value} {st : List Value} {obj virt : Bool} {z : ev_O} (h : ev_call σ lk st obj virt = some z) : ∃ (m0 : Nat) (as rest : List Value), lk = .ref m0 ∧ z = .inr (.inr (m0 % 100000, as, rest)) ∧ st = as.reverse ++ rest ∧
    as.length = (if obj then (ev_mt (m0 % 100000)).2.1 + 1 else (ev_mt (m0 % 100000)).2.1) ∧ ev_cat rest ≤ 8 ∧ (ev_ent as).length ≤ (ev_mt (m0 % 100000)).1 ∧ as.all ev_nd = true ∧
    (virt = true → ∃ x t, as = .ref x :: t ∧ ev_recv σ x (ev_mt (m0 % 100000)).2.2.2 = true) ∧ (virt = false → obj = true → ∃ x t, as = .ref x :: t ∧ 1000 ≤ x) := by
  unfold ev_call at h
  split at h
  · rename_i m0
    dsimp only at h
    generalize hn : (if obj then (ev_mt (m0 % 100000)).2.1 + 1 else (ev_mt (m0 % 100000)).2.1) = n at h
    have hst : st = (st.take n).reverse.reverse ++ st.drop n := by rw [List.reverse_reverse, List.take_append_drop]
    generalize (st.take n).reverse = as at h hst
    split at h
    · rename_i hc
      obtain ⟨c1, c2, c3, c4⟩ := hc
      split at h
      · rename_i hv
        split at h
        · rename_i x t
          split at h
          · rename_i hr
            cases h
            exact ⟨m0, _, _, rfl, rfl, hst, by rw [hn]; exact c1, c2, c3, c4, fun _ => ⟨x, t, rfl, hr⟩, fun q => by rw [hv] at q; cases q⟩
          · cases h
        · cases h
      · rename_i hv
        split at h
        · rename_i ho
          split at h
          · rename_i x t
            split at h
            · rename_i hr
              cases h
              exact ⟨m0, _, _, rfl, rfl, hst, by rw [hn]; exact c1, c2, c3, c4, fun q => absurd q hv, fun _ _ => ⟨x, t, rfl, hr⟩⟩
            · cases h
          · cases h
        · rename_i ho
          cases h
          exact ⟨m0, _, _, rfl, rfl, hst, by rw [hn]; exact c1, c2, c3, c4, fun q => absurd q hv, fun _ q => absurd q ho⟩
    · cases h
  · cases h
theorem ev_OA.upd {V : Nat → Value} {B : Nat} {σ : ev_M} {s : State} {H : Heap} {x j : Nat} {v : Int32} (hx : 1000 ≤ x) (hA : ev_OA V B σ s H) : ev_OA V B (σ.1, σ.2.1, σ.2.2.1, ev_upd σ.2.2.2 x j v) s H :=
  ev_OA.same (σ := σ) rfl (fun i => ev_upd_ne (by omega) i) hA
theorem ev_OA.cpy {V : Nat → Value} {B : Nat} {σ : ev_M} {s : State} {H : Heap} {b : Nat} {g : Nat → Int32} (hb : 1000 ≤ b) (hA : ev_OA V B σ s H) : ev_OA V B (σ.1, σ.2.1, σ.2.2.1, fun x j => if x = b then g j else σ.2.2.2 x j) s H :=
  ev_OA.same (σ := σ) rfl (fun i => if_neg (by omega)) hA
section EVN
variable {p : Program} {l : Launch} {en : Env} {R : Room} {s : State} {mid : MethodId} {args : Array Value} {below : List Frame} {meth : Method} {c : Code} {H : Heap} {locs : List Loc} {Q : State → Prop}
variable {B : Nat} {V : Nat → Value} {dC : Nat → ClassId} {dI : Nat → Nat → Nat} {dA : Nat → ClassId}
set_option maxHeartbeats 8000000 in
theorem ev_stepN (hV : ev_V V B) {y : MethodName} {bytes : ByteArray} {nL : Nat} (hx : p.tables.exec = Jvm.exec) (hb : c.code = bytes) (hml : c.maxLocals = nL) (hown : s.vm.findClass y.cls = some mid.cls) (hnm : meth.name = y.name) (hTB : ev_TB s) (hK : va_K (dC, dI) vwCl (ev_tys dA) s) (hO : ev_Old V B s s.heap) (hfr : 1 ≤ R.frames) (hlo : 39 ≤ R.locals)
    {m k : Nat} {i : Instr} {len : Nat} {lk : Value} {pl : List Nat} (hck : ev_ck y bytes k (i, len, lk) pl = true) {ls ls' : List (Option Value)} {st st' : List Value} {σ σ' : ev_M} {k' : Nat} (hs : ev_step m k (i, len, lk) ls st σ = some (.inl (k', ls', st', σ')))
    {lsR : Array Slot} (hl : ev_ls V nL ls lsR) (hN : ev_New V B dC dI dA σ H) (hA : ev_OA V B σ s s.heap) (hS : va_S (ev_B B) s.heap H locs) {t0 : Nat} (ht0 : t0 ≤ σ.1) (hc : σ'.1 - t0 ≤ R.cells) (hsl : ev_sl σ'.1 - ev_sl t0 ≤ R.slots)
    (kk : ∀ (H' : Heap) (locs' : List Loc) (lsR' : Array Slot), ev_ls V nL ls' lsR' → ev_New V B dC dI dA σ' H' → ev_OA V B σ' s s.heap → va_S (ev_B B) s.heap H' locs' → W p l en R s mid args below meth c H' locs' (σ'.1 - t0) (ev_sl σ'.1 - ev_sl t0) Q (F0 mid k' lsR' (st'.map (ev_av V)))) :
    W p l en R s mid args below meth c H locs (σ.1 - t0) (ev_sl σ.1 - ev_sl t0) Q (F0 mid k lsR (st.map (ev_av V))) := by
  by_cases hi : ev_isA i = true
  · have hσ : σ' = σ := (ev_stepA (p := p) (l := l) (en := en) (R := R) (s := s) (mid := mid) (args := args) (below := below) (meth := meth) (c := c) (H := H) (locs := locs) (Q := fun _ => True) (cells := 0) (slots := 0) hV hx hb hck hs hl (fun lsR' h' => by
      intro T hT X
      exact ⟨_, Steps.refl _, trivial⟩) hi).1
    subst hσ
    exact (ev_stepA hV hx hb hck hs hl (fun lsR' h' => kk H locs lsR' h' hN hA hS) hi).2
  · simp only [ev_ck, Bool.and_eq_true, decide_eq_true_eq, Bool.or_eq_true] at hck
    obtain ⟨⟨hd, hln⟩, hm⟩ := hck
    cases i with
    | ldc z =>
      obtain rfl : len = 2 := by simpa [ev_ilen] using hln
      dsimp only [ev_step] at hs
      obtain ⟨rfl, rfl, rfl, rfl⟩ := ev_next_some hs
      cases lk with
      | int v => exact lv_ldc hx hb hown (hTB.use hm args) hd (kk _ _ _ hl hN hA hS)
      | ref x =>
        simp only [decide_eq_true_eq] at hm
        cases hq : ev_strs[x]? with
        | none => rw [hq] at hm; cases hm
        | some q =>
          rw [hq] at hm
          obtain ⟨a, e1, e2⟩ := hO.2.2.2 x q hq
          simp only [Option.map_some, Option.some.injEq, Prod.mk.injEq] at hm
          rw [hm.1, hm.2] at e2
          have h4 := kk _ _ _ hl hN hA hS
          rw [List.map_cons, ev_av_ref, e1] at h4
          exact va_ldcS hx hb hown e2 hd h4
      | _ => cases hm
    | ldc_w z =>
      obtain rfl : len = 3 := by simpa [ev_ilen] using hln
      dsimp only [ev_step] at hs
      obtain ⟨rfl, rfl, rfl, rfl⟩ := ev_next_some hs
      cases lk with
      | int v => exact lv_ldcw hx hb hown (hTB.use hm args) hd (kk _ _ _ hl hN hA hS)
      | _ => cases hm
    | ldc2_w z =>
      obtain rfl : len = 3 := by simpa [ev_ilen] using hln
      dsimp only [ev_step] at hs
      obtain ⟨rfl, rfl, rfl, rfl⟩ := ev_next_some hs
      cases lk with
      | long v => exact lv_ldc2 hx hb hown (hTB.use hm args) hd (kk _ _ _ hl hN hA hS)
      | _ => cases hm
    | getstatic z =>
      obtain rfl : len = 3 := by simpa [ev_ilen] using hln
      dsimp only [ev_step] at hs
      obtain ⟨rfl, rfl, rfl, rfl⟩ := ev_next_some hs
      obtain ⟨q, hq, h1⟩ := List.any_eq_true.mp hm
      simp only [Bool.and_eq_true, decide_eq_true_eq] at h1
      have h4 := kk _ _ _ hl hN hA hS
      rw [List.map_cons, ← h1.1] at h4
      exact va_gets hx hb (hO.1 q hq) hS hown (hTB.use h1.2 args) (fun _ h => h) hd h4
    | arraylength =>
      obtain rfl : len = 1 := by simpa [ev_ilen] using hln
      dsimp only [ev_step] at hs
      obtain ⟨x, r, rfl, h⟩ := ev_r_some hs
      split at h
      · rename_i q hq
        obtain ⟨rfl, rfl, rfl, rfl⟩ := ev_next_some h
        obtain ⟨a, cell, e1, e2, e3, e4, e5, e6, e7⟩ := ev_arr hV hK hN hA hS (t := q.1) (n := q.2) hq
        rw [List.map_cons, ev_av_ref, e1]
        exact W.alen hx hb e2 e3 e6 rfl rfl hd (kk _ _ _ hl hN hA hS)
      · cases h
    | iaload =>
      obtain rfl : len = 1 := by simpa [ev_ilen] using hln
      dsimp only [ev_step] at hs
      obtain ⟨a, j, r, rfl, h⟩ := ev_ri_some hs
      obtain ⟨n, h1, h2, h3, h4⟩ := ev_ald_some h
      obtain ⟨rfl, rfl, rfl, rfl⟩ := ev_next_some h4
      exact ev_Wald hx hb hV hK hN hA hS h1 h2 h3 hd (Or.inl ⟨rfl, rfl⟩) (kk _ _ _ hl hN hA hS)
    | caload =>
      obtain rfl : len = 1 := by simpa [ev_ilen] using hln
      dsimp only [ev_step] at hs
      obtain ⟨a, j, r, rfl, h⟩ := ev_ri_some hs
      obtain ⟨n, h1, h2, h3, h4⟩ := ev_ald_some h
      obtain ⟨rfl, rfl, rfl, rfl⟩ := ev_next_some h4
      exact ev_Wald hx hb hV hK hN hA hS h1 h2 h3 hd (Or.inr (Or.inl ⟨rfl, rfl⟩)) (kk _ _ _ hl hN hA hS)
    | baload =>
      obtain rfl : len = 1 := by simpa [ev_ilen] using hln
      dsimp only [ev_step] at hs
      obtain ⟨a, j, r, rfl, h⟩ := ev_ri_some hs
      obtain ⟨n, h1, h2, h3, h4⟩ := ev_ald_some h
      obtain ⟨rfl, rfl, rfl, rfl⟩ := ev_next_some h4
      exact ev_Wald hx hb hV hK hN hA hS h1 h2 h3 hd (Or.inr (Or.inr (Or.inl ⟨rfl, by split <;> simp⟩))) (kk _ _ _ hl hN hA hS)
    | aaload =>
      obtain rfl : len = 1 := by simpa [ev_ilen] using hln
      dsimp only [ev_step] at hs
      obtain ⟨a, j, r, rfl, h⟩ := ev_ri_some hs
      obtain ⟨n, h1, h2, h3, h4⟩ := ev_ald_some h
      obtain ⟨rfl, rfl, rfl, rfl⟩ := ev_next_some h4
      exact ev_Wald hx hb hV hK hN hA hS h1 h2 h3 hd (Or.inr (Or.inr (Or.inr ⟨rfl, rfl⟩))) (kk _ _ _ hl hN hA hS)
    | iastore =>
      obtain rfl : len = 1 := by simpa [ev_ilen] using hln
      dsimp only [ev_step] at hs
      obtain ⟨a, j, x, r, rfl, h⟩ := ev_rii_some hs
      obtain ⟨g1, g2, n, h1, h2, h3, h4⟩ := ev_ast_some h
      obtain ⟨rfl, rfl, rfl, rfl⟩ := ev_next_some h4
      exact ev_Wast hx hb hV hK hN hS g1 g2 h1 h2 h3 hd (Or.inl ⟨rfl, rfl, rfl⟩) fun H' locs' hN' hS' => kk H' locs' lsR hl hN' (hA.upd g1) hS'
    | castore =>
      obtain rfl : len = 1 := by simpa [ev_ilen] using hln
      dsimp only [ev_step] at hs
      obtain ⟨a, j, x, r, rfl, h⟩ := ev_rii_some hs
      obtain ⟨g1, g2, n, h1, h2, h3, h4⟩ := ev_ast_some h
      obtain ⟨rfl, rfl, rfl, rfl⟩ := ev_next_some h4
      exact ev_Wast hx hb hV hK hN hS g1 g2 h1 h2 h3 hd (Or.inr (Or.inl ⟨rfl, rfl, rfl⟩)) fun H' locs' hN' hS' => kk H' locs' lsR hl hN' (hA.upd g1) hS'
    | bastore =>
      obtain rfl : len = 1 := by simpa [ev_ilen] using hln
      dsimp only [ev_step] at hs
      obtain ⟨a, j, x, r, rfl, h⟩ := ev_rii_some hs
      obtain ⟨g1, g2, n, h1, h2, h3, h4⟩ := ev_ast_some h
      obtain ⟨rfl, rfl, rfl, rfl⟩ := ev_next_some h4
      exact ev_Wast hx hb hV hK hN hS g1 g2 h1 h2 h3 hd (Or.inr (Or.inr ⟨rfl, rfl, rfl⟩)) fun H' locs' hN' hS' => kk H' locs' lsR hl hN' (hA.upd g1) hS'
    | getfield z =>
      obtain rfl : len = 3 := by simpa [ev_ilen] using hln
      dsimp only [ev_step] at hs
      obtain ⟨x, r, rfl, h⟩ := ev_r_some hs
      cases lk with
      | ref n0 =>
        obtain ⟨n, rfl⟩ : ∃ n : Nat, n = n0 := ⟨n0, rfl⟩
        dsimp only at h hm
        split at h
        · rename_i v hv
          obtain ⟨rfl, rfl, rfl, rfl⟩ := ev_next_some h
          by_cases hx0 : x < 1000
          · have hv2 : ev_of x (n % 100000) = some v := by
              unfold ev_getf at hv
              rw [if_pos hx0] at hv
              exact hv
            have hn0 : ¬ n < 1280 := by
              intro hn
              rw [Nat.mod_eq_of_lt (by omega)] at hv2
              unfold ev_of at hv2
              split at hv2
              · rw [if_neg (by omega), if_neg (by omega)] at hv2
                cases hv2
              · split at hv2
                · split at hv2
                  · rw [if_neg (by omega), if_neg (by omega), if_neg (by omega), if_neg (by omega)] at hv2
                    cases hv2
                  · cases hv2
                · cases hv2
            exact ev_WgetO hx hb hTB hO hS hown hv2 hn0 hm hd (kk _ _ _ hl hN hA hS)
          · have hn0 : n < 1280 := by
              obtain ⟨-, q, o, hq, hqc, -⟩ := ev_getf_new hx0 hv
              obtain ⟨r', ty, hr', -⟩ := ev_shO hq
              have hlt : q.1 < 10 := (List.getElem?_eq_some_iff.mp hr').1
              rcases Nat.lt_or_ge n 1280 with h0 | h0
              · exact h0
              · exfalso
                unfold ev_ckF at hm
                rw [if_neg (by omega)] at hm
                split at hm
                · rename_i h1
                  rw [Nat.mod_eq_of_lt h1] at hqc
                  omega
                · simp only [Bool.and_eq_true, decide_eq_true_eq] at hm
                  omega
            rw [Nat.mod_eq_of_lt (by omega)] at hv
            exact ev_Wget hx hb hV hTB hK hN hown hx0 hv hn0 hm hd (kk _ _ _ hl hN hA hS)
        · cases h
      | _ => cases hm
    | putfield z =>
      obtain rfl : len = 3 := by simpa [ev_ilen] using hln
      dsimp only [ev_step] at hs
      obtain ⟨x, v, r, rfl, h⟩ := ev_rv_some hs
      cases lk with
      | ref n0 =>
        obtain ⟨n, rfl⟩ : ∃ n : Nat, n = n0 := ⟨n0, rfl⟩
        dsimp only at h hm
        split at h
        · rename_i σ2 hv
          obtain ⟨rfl, rfl, rfl, rfl⟩ := ev_next_some h
          have hlt : σ'.1 = σ.1 ∧ ev_le σ σ' := by
            obtain ⟨h0, h1, q, o, -, -, -, ⟨-, z, -, rfl⟩ | ⟨b, -, -, -, rfl⟩⟩ := ev_putf_some hv
            · exact ⟨rfl, Nat.le_refl _, fun j => ev_upd_ne (by omega) j, fun _ => rfl⟩
            · exact ⟨rfl, Nat.le_refl _, fun _ => rfl, fun _ => rfl⟩
          rw [hlt.1] at kk
          exact ev_Wput hx hb hV hTB hK hN hS hown hnm hv hm hd fun H' locs' hN' hS' => kk H' locs' lsR hl hN' (hA.le hlt.2) hS'
        · cases h
      | _ => cases hm
    | new z =>
      obtain rfl : len = 3 := by simpa [ev_ilen] using hln
      dsimp only [ev_step] at hs
      split at hs
      · rename_i n q hsh
        split at hs
        · rename_i hqn
          subst hqn
          obtain ⟨rfl, rfl, rfl, rfl⟩ := ev_next_some hs
          dsimp only at hm
          split at hm
          · rename_i r hr
            simp only [Bool.and_eq_true] at hm
            have hmono : ev_sl t0 ≤ ev_sl σ.1 := ev_sl_mono ht0
            have hstep : ev_sl (σ.1 + 1) = ev_sl σ.1 + ev_sz σ.1 := rfl
            dsimp only at hc hsl kk
            refine ev_Wnew hx hb hV hTB hK hN hS hown hsh hr hm.1.1 hm.1.2 hm.2 hd (by omega) (by omega) fun H' hN' hS' => ?_
            have h4 := kk H' locs lsR hl hN' hA hS'
            rw [show σ.1 + 1 - t0 = σ.1 - t0 + 1 by omega, show ev_sl (σ.1 + 1) - ev_sl t0 = ev_sl σ.1 - ev_sl t0 + ev_sz σ.1 by omega] at h4
            exact h4
          · cases hm
        · cases hs
      · cases hs
    | newarray t =>
      obtain rfl : len = 2 := by simpa [ev_ilen] using hln
      dsimp only [ev_step] at hs
      obtain ⟨x, r, rfl, h⟩ := ev_i_some hs
      split at h
      · rename_i q hsh
        split at h
        · rename_i hqn
          obtain ⟨rfl, rfl, rfl, rfl⟩ := ev_next_some h
          simp only [Bool.and_eq_true, decide_eq_true_eq] at hm
          have hmono : ev_sl t0 ≤ ev_sl σ.1 := ev_sl_mono ht0
          have hstep : ev_sl (σ.1 + 1) = ev_sl σ.1 + ev_sz σ.1 := rfl
          dsimp only at hc hsl kk
          obtain ⟨q1, q2⟩ := q
          obtain ⟨e1, e2, e3⟩ := hqn
          dsimp only at e1 e3
          subst e1
          refine ev_Wnewa hx hb hV hTB hK hN hS hsh hm.1 e2 e3 hd (by omega) (by omega) fun H' hN' hS' => ?_
          have h4 := kk H' locs lsR hl hN' hA hS'
          rw [show σ.1 + 1 - t0 = σ.1 - t0 + 1 by omega, show ev_sl (σ.1 + 1) - ev_sl t0 = ev_sl σ.1 - ev_sl t0 + ev_sz σ.1 by omega] at h4
          exact h4
        · cases h
      · cases h
    | invokespecial z =>
      obtain rfl : len = 3 := by simpa [ev_ilen] using hln
      dsimp only [ev_step] at hs
      split at hs
      · rename_i hlk
        subst hlk
        obtain ⟨x, r, rfl, h⟩ := ev_r_some hs
        split at h
        · rename_i hcat
          obtain ⟨rfl, rfl, rfl, rfl⟩ := ev_next_some h
          simp only [Bool.and_eq_true] at hm
          rw [List.map_cons, ev_av_ref]
          have h5 := ev_cat_map hV st'
          rw [hV.2.1 x hcat.1]
          exact W.objInit hx hb hown (hTB.use hm.1.1 args) (hTB.use hm.1.2 args) (hTB.use hm.2 args) rfl (by rw [hml]; exact hl.2.1) rfl hd hfr (by show 2 * 0 + _ + 12 ≤ _; rw [h5]; omega) (kk _ _ _ hl hN hA hS)
        · cases h
      · obtain ⟨m0, as, rest, -, h, -⟩ := ev_call_some hs
        cases h
    | invokestatic z =>
      obtain rfl : len = 3 := by simpa [ev_ilen] using hln
      dsimp only [ev_step] at hs
      split at hs
      · rename_i hlk
        subst hlk
        obtain ⟨n, dp, sp, a, b, r, na, nb, rfl, g1, g2, g3, g4, hcat, g5, g6, g7, g8, g9, g10, g11, h⟩ := ev_copy_some hs
        obtain ⟨rfl, rfl, rfl, rfl⟩ := ev_next_some h
        simp only [Bool.and_eq_true] at hm
        have h5 := ev_cat_map hV st'
        exact ev_Wcopy hx hb (by rw [hml]; exact hl.2.1.symm) hV hTB hK hN hS hown hm.1.1.1 hm.1.1.2 hm.1.2 hm.2 g1 g3 g2 g4 g5 g6 g7 g8 g9 g10 g11 hfr (by rw [h5]; omega) hd fun H' locs' hN' hS' => kk H' locs' lsR hl hN' (hA.cpy g2) hS'
      · obtain ⟨m0, as, rest, -, h, -⟩ := ev_call_some hs
        cases h
    | invokevirtual z =>
      dsimp only [ev_step] at hs
      obtain ⟨m0, as, rest, -, h, -⟩ := ev_call_some hs
      cases h
    | ireturn =>
      dsimp only [ev_step] at hs
      split at hs
      · split at hs <;> cases hs
      · cases hs
    | lreturn =>
      dsimp only [ev_step] at hs
      split at hs
      · split at hs <;> cases hs
      · cases hs
    | areturn =>
      dsimp only [ev_step] at hs
      split at hs
      · split at hs <;> cases hs
      · split at hs <;> cases hs
      · cases hs
    | return_ =>
      dsimp only [ev_step] at hs
      split at hs
      · split at hs <;> cases hs
      · cases hs
    | _ => first | exact absurd rfl hi | cases hs
end EVN
end
section
/-! A WHOLE RUN: what the pure machine answers, the real one answers -/
def ev_retI (v : Option Value) : Instr := match v with
  | none => .return_
  | some (.int _) => .ireturn
  | some (.long _) => .lreturn
  | some _ => .areturn
def ev_vok (m : Nat) (v : Option Value) : Prop := match v with
  | none => (ev_mt m).2.2.1 = 0
  | some (.int x) => ev_fit (ev_mt m).2.2.1 x = true
  | some (.long _) => (ev_mt m).2.2.1 = 5
  | some .null => (ev_mt m).2.2.1 = 4
  | some (.ref _) => (ev_mt m).2.2.1 = 4
  | _ => False
theorem ev_step_ret {m k : Nat} {e : Instr × Nat × Value} {ls : List (Option Value)} {st : List Value} {σ σ' : ev_M} {v : Option Value} (h : ev_step m k e ls st σ = some (.inr (.inl (v, σ')))) : e.1 = ev_retI v ∧ ev_vok m v ∧ σ' = σ ∧ st = v.toList := by
  obtain ⟨i, len, lk⟩ := e
  cases i
  case ireturn =>
    dsimp only [ev_step] at h
    split at h
    · split at h
      · rename_i h1
        cases h
        exact ⟨rfl, h1, rfl, rfl⟩
      · cases h
    · cases h
  case lreturn =>
    dsimp only [ev_step] at h
    split at h
    · split at h
      · rename_i h1
        cases h
        exact ⟨rfl, h1, rfl, rfl⟩
      · cases h
    · cases h
  case areturn =>
    dsimp only [ev_step] at h
    split at h
    · split at h
      · rename_i h1
        cases h
        exact ⟨rfl, h1, rfl, rfl⟩
      · cases h
    · split at h
      · rename_i h1
        cases h
        exact ⟨rfl, h1, rfl, rfl⟩
      · cases h
    · cases h
  case return_ =>
    dsimp only [ev_step] at h
    split at h
    · split at h
      · rename_i h1
        cases h
        exact ⟨rfl, h1, rfl, rfl⟩
      · cases h
    · cases h
  all_goals exfalso
  all_goals dsimp only [ev_step] at h
  all_goals first
    | (cases h; done)
    | (obtain ⟨_, _, h⟩ := ev_ldi_some h; cases h; done)
    | (obtain ⟨_, _, h⟩ := ev_ldl_some h; cases h; done)
    | (obtain ⟨_, _, h⟩ := ev_lda_some h; cases h; done)
    | (obtain ⟨_, _, _, h⟩ := ev_i_some h; obtain ⟨_, _, h⟩ := Option.bind_eq_some_iff.mp h; cases h; done)
    | (obtain ⟨_, _, _, h⟩ := ev_q_some h; obtain ⟨_, _, h⟩ := Option.bind_eq_some_iff.mp h; cases h; done)
    | (obtain ⟨_, _, _, h⟩ := ev_l_some h; obtain ⟨_, _, h⟩ := Option.bind_eq_some_iff.mp h; cases h; done)
    | (obtain ⟨_, _, _, h⟩ := ev_i_some h; cases h; done)
    | (obtain ⟨_, _, _, h⟩ := ev_l_some h; cases h; done)
    | (obtain ⟨_, _, _, _, h⟩ := ev_ii_some h; cases h; done)
    | (obtain ⟨_, _, _, _, h⟩ := ev_ll_some h; cases h; done)
    | (obtain ⟨_, _, _, _, h⟩ := ev_li_some h; cases h; done)
    | (obtain ⟨_, _, _, _, h⟩ := ev_1_some h; cases h; done)
    | (obtain ⟨_, _, _, h⟩ := ev_i_some h; obtain ⟨_, _, h⟩ := ev_tg_some h; cases h; done)
    | (obtain ⟨_, _, _, _, h⟩ := ev_ii_some h; obtain ⟨_, _, h⟩ := ev_tg_some h; cases h; done)
    | (obtain ⟨_, _, h⟩ := ev_tg_some h; cases h; done)
    | (obtain ⟨_, _, _, _, h⟩ := ev_ri_some h; obtain ⟨_, _, _, _, h⟩ := ev_ald_some h; cases h; done)
    | (obtain ⟨_, _, _, _, _, h⟩ := ev_rii_some h; obtain ⟨_, _, _, _, _, _, h⟩ := ev_ast_some h; cases h; done)
    | (obtain ⟨_, _, _, h, -⟩ := ev_call_some h; cases h; done)
    | (obtain ⟨_, _, _, _, h, -⟩ := ev_call_some h; cases h; done)
    | skip
  case iinc => split at h; (obtain ⟨_, _, h⟩ := Option.bind_eq_some_iff.mp h; cases h); cases h
  case ifnull =>
    obtain ⟨x, _, _, h⟩ := ev_q_some h
    obtain ⟨_, _, h⟩ := ev_tg_some h
    cases x with
    | none => cases h
    | some y =>
      dsimp only at h
      split at h <;> cases h
  case ifnonnull =>
    obtain ⟨x, _, _, h⟩ := ev_q_some h
    obtain ⟨_, _, h⟩ := ev_tg_some h
    cases x with
    | none => cases h
    | some y =>
      dsimp only at h
      split at h <;> cases h
  case if_acmp c o =>
    obtain ⟨_, _, _, h⟩ := ev_q_some h
    obtain ⟨_, _, _, h⟩ := ev_q_some h
    obtain ⟨_, _, h⟩ := ev_tg_some h
    split at h
    · cases c <;> cases h
    · cases h
  case arraylength =>
    obtain ⟨_, _, _, h⟩ := ev_r_some h
    split at h <;> cases h
  case getfield =>
    obtain ⟨_, _, _, h⟩ := ev_r_some h
    split at h
    · split at h <;> cases h
    · cases h
  case putfield =>
    obtain ⟨_, _, _, _, h⟩ := ev_rv_some h
    split at h
    · split at h <;> cases h
    · cases h
  case new =>
    split at h
    · split at h <;> cases h
    · cases h
  case newarray =>
    obtain ⟨_, _, _, h⟩ := ev_i_some h
    split at h
    · split at h <;> cases h
    · cases h
  case invokespecial =>
    split at h
    · obtain ⟨_, _, _, h⟩ := ev_r_some h
      split at h <;> cases h
    · obtain ⟨_, _, _, _, h, -⟩ := ev_call_some h
      cases h
  case invokestatic =>
    split at h
    · obtain ⟨_, _, _, _, _, _, _, _, _, _, _, _, _, _, _, _, _, _, _, _, _, h⟩ := ev_copy_some h
      cases h
    · obtain ⟨_, _, _, _, h, -⟩ := ev_call_some h
      cases h
end
section
theorem ev_next_le {a k' : Nat} {b ls' : List (Option Value)} {c st' : List Value} {d σ σ' : ev_M} (h : ev_next a b c d = some (.inl (k', ls', st', σ'))) (hd : ev_le σ d) : ev_le σ σ' := by
  obtain ⟨-, -, -, rfl⟩ := ev_next_some h
  exact hd
theorem ev_step_le {m k : Nat} {e : Instr × Nat × Value} {ls ls' : List (Option Value)} {st st' : List Value} {σ σ' : ev_M} {k' : Nat} (h : ev_step m k e ls st σ = some (.inl (k', ls', st', σ'))) : ev_le σ σ' := by
  obtain ⟨i, len, lk⟩ := e
  cases i
  case ireturn => dsimp only [ev_step] at h; split at h; (split at h <;> cases h); cases h
  case lreturn => dsimp only [ev_step] at h; split at h; (split at h <;> cases h); cases h
  case areturn => dsimp only [ev_step] at h; split at h; (split at h <;> cases h); (split at h <;> cases h); cases h
  case return_ => dsimp only [ev_step] at h; split at h; (split at h <;> cases h); cases h
  all_goals dsimp only [ev_step] at h
  all_goals first
    | (cases h; done)
    | exact ev_next_le h (ev_le.rf σ)
    | (obtain ⟨_, _, h⟩ := ev_ldi_some h; exact ev_next_le h (ev_le.rf σ))
    | (obtain ⟨_, _, h⟩ := ev_ldl_some h; exact ev_next_le h (ev_le.rf σ))
    | (obtain ⟨_, _, h⟩ := ev_lda_some h; exact ev_next_le h (ev_le.rf σ))
    | (obtain ⟨_, _, _, h⟩ := ev_i_some h; obtain ⟨_, _, h⟩ := Option.bind_eq_some_iff.mp h; exact ev_next_le h (ev_le.rf σ))
    | (obtain ⟨_, _, _, h⟩ := ev_q_some h; obtain ⟨_, _, h⟩ := Option.bind_eq_some_iff.mp h; exact ev_next_le h (ev_le.rf σ))
    | (obtain ⟨_, _, _, h⟩ := ev_l_some h; obtain ⟨_, _, h⟩ := Option.bind_eq_some_iff.mp h; exact ev_next_le h (ev_le.rf σ))
    | (obtain ⟨_, _, _, h⟩ := ev_i_some h; exact ev_next_le h (ev_le.rf σ))
    | (obtain ⟨_, _, _, h⟩ := ev_l_some h; exact ev_next_le h (ev_le.rf σ))
    | (obtain ⟨_, _, _, _, h⟩ := ev_ii_some h; exact ev_next_le h (ev_le.rf σ))
    | (obtain ⟨_, _, _, _, h⟩ := ev_ll_some h; exact ev_next_le h (ev_le.rf σ))
    | (obtain ⟨_, _, _, _, h⟩ := ev_li_some h; exact ev_next_le h (ev_le.rf σ))
    | (obtain ⟨_, _, _, _, h⟩ := ev_1_some h; exact ev_next_le h (ev_le.rf σ))
    | (obtain ⟨_, _, _, h⟩ := ev_i_some h; obtain ⟨_, _, h⟩ := ev_tg_some h; exact ev_next_le h (ev_le.rf σ))
    | (obtain ⟨_, _, _, _, h⟩ := ev_ii_some h; obtain ⟨_, _, h⟩ := ev_tg_some h; exact ev_next_le h (ev_le.rf σ))
    | (obtain ⟨_, _, h⟩ := ev_tg_some h; exact ev_next_le h (ev_le.rf σ))
    | (obtain ⟨_, _, _, _, h⟩ := ev_ri_some h; obtain ⟨_, _, _, _, h⟩ := ev_ald_some h; exact ev_next_le h (ev_le.rf σ))
    | (obtain ⟨_, _, _, _, _, h⟩ := ev_rii_some h; obtain ⟨g1, _, _, _, _, _, h⟩ := ev_ast_some h; exact ev_next_le h ⟨Nat.le_refl _, fun _ => rfl, fun j => ev_upd_ne (by omega) j⟩)
    | (obtain ⟨_, _, _, _, h, -⟩ := ev_call_some h; cases h; done)
    | skip
  case iinc => split at h; (obtain ⟨_, _, h⟩ := Option.bind_eq_some_iff.mp h; exact ev_next_le h (ev_le.rf σ)); cases h
  case ifnull =>
    obtain ⟨x, _, _, h⟩ := ev_q_some h
    obtain ⟨_, _, h⟩ := ev_tg_some h
    cases x with
    | none => exact ev_next_le h (ev_le.rf σ)
    | some y =>
      dsimp only at h
      split at h
      · exact ev_next_le h (ev_le.rf σ)
      · cases h
  case ifnonnull =>
    obtain ⟨x, _, _, h⟩ := ev_q_some h
    obtain ⟨_, _, h⟩ := ev_tg_some h
    cases x with
    | none => exact ev_next_le h (ev_le.rf σ)
    | some y =>
      dsimp only at h
      split at h
      · exact ev_next_le h (ev_le.rf σ)
      · cases h
  case if_acmp c o =>
    obtain ⟨_, _, _, h⟩ := ev_q_some h
    obtain ⟨_, _, _, h⟩ := ev_q_some h
    obtain ⟨_, _, h⟩ := ev_tg_some h
    split at h
    · cases c
      · exact ev_next_le h (ev_le.rf σ)
      · exact ev_next_le h (ev_le.rf σ)
    · cases h
  case arraylength =>
    obtain ⟨_, _, _, h⟩ := ev_r_some h
    split at h
    · exact ev_next_le h (ev_le.rf σ)
    · cases h
  case getfield =>
    obtain ⟨_, _, _, h⟩ := ev_r_some h
    split at h
    · split at h
      · exact ev_next_le h (ev_le.rf σ)
      · cases h
    · cases h
  case putfield =>
    obtain ⟨_, _, _, _, h⟩ := ev_rv_some h
    split at h
    · split at h
      · rename_i σ2 hv
        refine ev_next_le h ?_
        obtain ⟨h0, h1, q, o, -, -, -, ⟨-, z, -, rfl⟩ | ⟨b, -, -, -, rfl⟩⟩ := ev_putf_some hv
        · exact ⟨Nat.le_refl _, fun j => ev_upd_ne (by omega) j, fun _ => rfl⟩
        · exact ⟨Nat.le_refl _, fun _ => rfl, fun _ => rfl⟩
      · cases h
    · cases h
  case new =>
    split at h
    · split at h
      · exact ev_next_le h ⟨Nat.le_succ _, fun _ => rfl, fun _ => rfl⟩
      · cases h
    · cases h
  case newarray =>
    obtain ⟨_, _, _, h⟩ := ev_i_some h
    split at h
    · split at h
      · exact ev_next_le h ⟨Nat.le_succ _, fun _ => rfl, fun _ => rfl⟩
      · cases h
    · cases h
  case invokespecial =>
    split at h
    · obtain ⟨_, _, _, h⟩ := ev_r_some h
      split at h
      · exact ev_next_le h (ev_le.rf σ)
      · cases h
    · obtain ⟨_, _, _, _, h, -⟩ := ev_call_some h
      cases h
  case invokestatic =>
    split at h
    · obtain ⟨_, _, _, _, b, _, _, _, _, _, g2, _, _, _, _, _, _, _, _, _, _, h⟩ := ev_copy_some h
      exact ev_next_le h ⟨Nat.le_refl _, fun _ => rfl, fun j => if_neg (by omega)⟩
    · obtain ⟨_, _, _, _, h, -⟩ := ev_call_some h
      cases h
theorem ev_run_le : ∀ (n d m k : Nat) (ls : List (Option Value)) (st : List Value) (σ : ev_M) (v : Option Value) (σ' : ev_M), ev_run n d m k ls st σ = some (v, σ') → ev_le σ σ'
  | 0, d, m, k, ls, st, σ, v, σ', h => by simp [ev_run] at h
  | n + 1, d, m, k, ls, st, σ, v, σ', h => by
    simp only [ev_run] at h
    split at h
    · cases h
    · rename_i e he
      split at h
      · cases h
      · rename_i q hq
        exact (ev_step_le hq).tr (ev_run_le n d m _ _ _ _ v σ' h)
      · rename_i q hq
        obtain ⟨v2, σ2⟩ := q
        obtain ⟨-, -, e3, -⟩ := ev_step_ret hq
        cases h
        rw [e3]
        exact ev_le.rf σ
      · rename_i q hq
        cases d with
        | zero => cases h
        | succ d =>
          dsimp only at h
          split at h
          · cases h
          · rename_i w hw
            exact (ev_run_le n d q.1 0 _ [] σ w.1 w.2 hw).tr (ev_run_le n (d + 1) m _ _ _ _ v σ' h)
theorem ev_step_call {m k : Nat} {e : Instr × Nat × Value} {ls : List (Option Value)} {st : List Value} {σ : ev_M} {z : Nat × List Value × List Value} (h : ev_step m k e ls st σ = some (.inr (.inr z))) : (∃ j, e.1 = .invokevirtual j) ∨ (∃ j, e.1 = .invokestatic j) ∨ ∃ j, e.1 = .invokespecial j := by
  obtain ⟨i, len, lk⟩ := e
  cases i
  case invokevirtual j => exact Or.inl ⟨j, rfl⟩
  case invokestatic j => exact Or.inr (Or.inl ⟨j, rfl⟩)
  case invokespecial j => exact Or.inr (Or.inr ⟨j, rfl⟩)
  case ireturn => dsimp only [ev_step] at h; split at h; (split at h <;> cases h); cases h
  case lreturn => dsimp only [ev_step] at h; split at h; (split at h <;> cases h); cases h
  case areturn => dsimp only [ev_step] at h; split at h; (split at h <;> cases h); (split at h <;> cases h); cases h
  case return_ => dsimp only [ev_step] at h; split at h; (split at h <;> cases h); cases h
  all_goals exfalso
  all_goals dsimp only [ev_step] at h
  all_goals first
    | (cases h; done)
    | (obtain ⟨_, _, h⟩ := ev_ldi_some h; cases h; done)
    | (obtain ⟨_, _, h⟩ := ev_ldl_some h; cases h; done)
    | (obtain ⟨_, _, h⟩ := ev_lda_some h; cases h; done)
    | (obtain ⟨_, _, _, h⟩ := ev_i_some h; obtain ⟨_, _, h⟩ := Option.bind_eq_some_iff.mp h; cases h; done)
    | (obtain ⟨_, _, _, h⟩ := ev_q_some h; obtain ⟨_, _, h⟩ := Option.bind_eq_some_iff.mp h; cases h; done)
    | (obtain ⟨_, _, _, h⟩ := ev_l_some h; obtain ⟨_, _, h⟩ := Option.bind_eq_some_iff.mp h; cases h; done)
    | (obtain ⟨_, _, _, h⟩ := ev_i_some h; cases h; done)
    | (obtain ⟨_, _, _, h⟩ := ev_l_some h; cases h; done)
    | (obtain ⟨_, _, _, _, h⟩ := ev_ii_some h; cases h; done)
    | (obtain ⟨_, _, _, _, h⟩ := ev_ll_some h; cases h; done)
    | (obtain ⟨_, _, _, _, h⟩ := ev_li_some h; cases h; done)
    | (obtain ⟨_, _, _, _, h⟩ := ev_1_some h; cases h; done)
    | (obtain ⟨_, _, _, h⟩ := ev_i_some h; obtain ⟨_, _, h⟩ := ev_tg_some h; cases h; done)
    | (obtain ⟨_, _, _, _, h⟩ := ev_ii_some h; obtain ⟨_, _, h⟩ := ev_tg_some h; cases h; done)
    | (obtain ⟨_, _, h⟩ := ev_tg_some h; cases h; done)
    | (obtain ⟨_, _, _, _, h⟩ := ev_ri_some h; obtain ⟨_, _, _, _, h⟩ := ev_ald_some h; cases h; done)
    | (obtain ⟨_, _, _, _, _, h⟩ := ev_rii_some h; obtain ⟨_, _, _, _, _, _, h⟩ := ev_ast_some h; cases h; done)
    | (obtain ⟨_, _, _, h, -⟩ := ev_call_some h; cases h; done)
    | (obtain ⟨_, _, _, _, h, -⟩ := ev_call_some h; cases h; done)
    | skip
  case iinc => split at h; (obtain ⟨_, _, h⟩ := Option.bind_eq_some_iff.mp h; cases h); cases h
  case ifnull =>
    obtain ⟨x, _, _, h⟩ := ev_q_some h
    obtain ⟨_, _, h⟩ := ev_tg_some h
    cases x with
    | none => cases h
    | some y =>
      dsimp only at h
      split at h <;> cases h
  case ifnonnull =>
    obtain ⟨x, _, _, h⟩ := ev_q_some h
    obtain ⟨_, _, h⟩ := ev_tg_some h
    cases x with
    | none => cases h
    | some y =>
      dsimp only at h
      split at h <;> cases h
  case if_acmp c o =>
    obtain ⟨_, _, _, h⟩ := ev_q_some h
    obtain ⟨_, _, _, h⟩ := ev_q_some h
    obtain ⟨_, _, h⟩ := ev_tg_some h
    split at h
    · cases c <;> cases h
    · cases h
  case arraylength =>
    obtain ⟨_, _, _, h⟩ := ev_r_some h
    split at h <;> cases h
  case getfield =>
    obtain ⟨_, _, _, h⟩ := ev_r_some h
    split at h
    · split at h <;> cases h
    · cases h
  case putfield =>
    obtain ⟨_, _, _, _, h⟩ := ev_rv_some h
    split at h
    · split at h <;> cases h
    · cases h
  case new =>
    split at h
    · split at h <;> cases h
    · cases h
  case newarray =>
    obtain ⟨_, _, _, h⟩ := ev_i_some h
    split at h
    · split at h <;> cases h
    · cases h
end
section
/-! THE THEOREM: a run of the pure machine is a run of the real one -/
def ev_Pc (V : Nat → Value) (B : Nat) (dC : Nat → ClassId) (dI : Nat → Nat → Nat) (dA : Nat → ClassId) (σ : ev_M) (as : List Value) : Array Value → State → Prop := fun v U =>
  v = (as.map (ev_av V)).toArray ∧ ev_TB U ∧ va_K (dC, dI) vwCl (ev_tys dA) U ∧ ev_Old V B U U.heap ∧ ev_OA V B σ U U.heap ∧ ev_New V B dC dI dA σ U.heap
def ev_Qc (V : Nat → Value) (B : Nat) (dC : Nat → ClassId) (dI : Nat → Nat → Nat) (dA : Nat → ClassId) (v : Option Value) (σ' : ev_M) : Array Value → State → Outcome → State → Prop := fun _ st o t =>
  o = .returned (v.map (ev_av V)) ∧ ev_New V B dC dI dA σ' t.heap ∧ va_F (ev_B B) st t
section EVM
variable {p : Program} {l : Launch} {en : Env} {R : Room} {s : State} {mid : MethodId} {args : Array Value} {below : List Frame} {meth : Method} {c : Code} {H : Heap} {locs : List Loc} {Q : State → Prop}
variable {B : Nat} {V : Nat → Value} {dC : Nat → ClassId} {dI : Nat → Nat → Nat} {dA : Nat → ClassId}
theorem ev_blind (σ : ev_M) (as : List Value) : FrameBlind (ev_Pc V B dC dI dA σ as) := by
  intro a U g mk h
  obtain ⟨h1, h2, h3, h4, h5, h6⟩ := h
  have hW : U.WarmedH (U.calling g mk a).vm := State.WarmedH.refl U
  exact ⟨h1, h2.warm hW, va_K.moved (u := U) (U := U.calling g mk a) (Vm.Alike.refl U.vm) h3, h4.moved hW (fun _ _ _ => rfl), h5.moved hW (fun _ _ _ => rfl), h6⟩
theorem ev_pre {σ : ev_M} {as : List Value} (hTB : ev_TB s) (hK : va_K (dC, dI) vwCl (ev_tys dA) s) (hO : ev_Old V B s s.heap) (hA : ev_OA V B σ s s.heap) (hN : ev_New V B dC dI dA σ H) (hS : va_S (ev_B B) s.heap H locs) :
    ∀ U : State, U.heap = H → s.WarmedH U.vm → ev_Pc V B dC dI dA σ as (as.map (ev_av V)).toArray U := by
  intro U hU hW
  refine ⟨rfl, hTB.warm hW, va_K.moved hW.alike hK, ?_, ?_, by rw [hU]; exact hN⟩
  · rw [hU]
    exact hO.moved hW hS.2.1
  · rw [hU]
    exact hA.moved hW hS.2.1
theorem ev_after {k cells slots mc ms : Nat} {lsR : Array Slot} {st0 restR : List Value} {a : Array Value} {v : Option Value} {σ' : ev_M} (hr : va_Run p l en R s mid args below meth c H locs cells slots mc ms (F0 mid k lsR st0) restR (ev_Qc V B dC dI dA v σ' a) (ev_B B)) (hS : va_S (ev_B B) s.heap H locs)
    (kk : ∀ (H' : Heap) (locs' : List Loc), ev_New V B dC dI dA σ' H' → va_S (ev_B B) s.heap H' locs' → W p l en R s mid args below meth c H' locs' (cells + mc) (slots + ms) Q (F0 mid (k + 3) lsR (v.toList.map (ev_av V) ++ restR))) :
    W p l en R s mid args below meth c H locs cells slots Q (F0 mid k lsR st0) := by
  intro T hT X
  obtain ⟨v2, st₀, t, T', L, h0, X', hL, e1, e2, ⟨hv, hN, hz, hk⟩, st⟩ := hr T hT X
  have hv : v2 = v.map (ev_av V) := by cases hv; rfl
  subst hv
  rw [h0] at hz hk
  obtain ⟨t2, a1, b1⟩ := kk T'.heap (locs ++ L) (by rw [e1]; exact hN) ⟨Nat.le_trans hS.1 (by rw [e1]; exact hz), fun q h1 h2 => by rw [e1, hk q (Nat.lt_of_lt_of_le h1 hS.1) h2]; exact hS.2.1 q h1 h2, fun q hq => by
      rcases List.mem_append.mp hq with h | h
      · exact hS.2.2 q h
      · exact hL q h⟩ T' rfl X'
  refine ⟨t2, st t2 ?_, b1⟩
  have e3 : (v.map (ev_av V)).toList = v.toList.map (ev_av V) := by cases v <;> rfl
  rw [e3]
  exact a1
theorem ev_char {x : Int32} (h0 : 0 ≤ x) (h1 : x ≤ 65535) : x.toUInt32.toUInt16.toUInt32.toInt32 = x := by
  have h2 : (0 : Int) ≤ x.toInt := by simpa using Int32.le_iff_toInt_le.mp h0
  have h3 : x.toInt ≤ 65535 := by
    have := Int32.le_iff_toInt_le.mp h1
    simpa using this
  have h4 : x.toInt = x.toBitVec.toInt := rfl
  rw [h4, BitVec.toInt_eq_toNat_cond] at h2 h3
  have h5 : x.toBitVec.toNat < 65536 := by
    have := x.toBitVec.isLt
    split at h2 <;> omega
  apply Int32.toInt_inj.mp
  rw [u16_toInt]
  have h6 : x.toUInt32.toUInt16.toNat = x.toBitVec.toNat % 65536 := by simp; rfl
  rw [h6, h4, BitVec.toInt_eq_toNat_cond]
  split <;> omega
theorem ev_fit_nar {r : Nat} {x : Int32} {t : FieldType} (hr : ev_rtok r (some t) = true) (h : ev_fit r x = true) : narrow t (.int x) = .int x := by
  unfold ev_rtok at hr
  split at hr
  · rename_i heq
    cases heq
  · rename_i heq
    cases heq
    rfl
  · rename_i heq
    cases heq
    simp only [ev_fit, Bool.or_eq_true, decide_eq_true_eq] at h
    rcases h with rfl | rfl
    · decide
    · decide
  · rename_i heq
    cases heq
    simp only [ev_fit, Bool.and_eq_true, decide_eq_true_eq] at h
    show Value.int x.toUInt32.toUInt16.toUInt32.toInt32 = .int x
    rw [ev_char h.1 h.2]
  · rename_i heq
    cases heq
    cases h
  · cases h
  · rename_i heq
    cases heq
    simp only [ev_fit, decide_eq_true_eq] at h
    subst h
    rfl
  · cases hr
/-- the words of a method that is called -/
theorem ev_mok {q : MethodName × ByteArray × Option FieldType} {t : Nat × Nat × Nat × Nat} {pl : List Nat} (h : ev_ckM q t pl = true) : ev_w (pl.getD 0 0) (.code q.1 q.2.1 t.1 q.2.2) = true ∧ ev_w (pl.getD 1 0) (.initialized q.1.cls) = true ∧ t.1 ≤ 20 ∧ plainName q.1.cls = true ∧ ev_rtok t.2.2.1 q.2.2 = true ∧
    (q.1.cls ≠ "java/lang/invoke/MethodHandle" ∧ q.1.cls ≠ "java/lang/invoke/VarHandle") ∧ ∀ sig, parseMethodDescriptor q.1.desc = some sig → t.2.1 = sig.parameters.length := by
  simp only [ev_ckM, Bool.and_eq_true, decide_eq_true_eq] at h
  obtain ⟨⟨⟨⟨⟨⟨⟨h1, h2⟩, h3⟩, h4⟩, h5⟩, h6⟩, h7⟩, h8⟩ := h
  refine ⟨h1, h2, h3, h4, h5, ⟨h6, h7⟩, fun sig hs => ?_⟩
  rw [hs] at h8
  exact (Option.some.inj h8).symm
abbrev ev_rm (d mc ms : Nat) : Room := { frames := d + 1, cells := mc, slots := ms, locals := 39 * (d + 1) }
/-- what one fuel says of a method's body, from any place in it -/
def ev_body (l : Launch) (V : Nat → Value) (B : Nat) (dC : Nat → ClassId) (dI : Nat → Nat → Nat) (dA : Nat → ClassId) (n : Nat) : Prop :=
  ∀ (d m k : Nat) (ls : List (Option Value)) (st : List Value) (σ : ev_M) (v : Option Value) (σ' : ev_M), ev_run n d m k ls st σ = some (v, σ') →
  ∀ (p : Program) (en : Env) (R : Room) (s : State) (mid : MethodId) (args : Array Value) (below : List Frame) (meth : Method) (c : Code) (H : Heap) (locs : List Loc) (Q : State → Prop) (lsR : Array Slot) (t0 : Nat) (q : MethodName × ByteArray × Option FieldType),
    ev_nm[m]? = some q → p.tables.exec = Jvm.exec → c.code = q.2.1 → c.maxLocals = (ev_mt m).1 → s.vm.findClass q.1.cls = some mid.cls → meth.name = q.1.name → ev_TB s → va_K (dC, dI) vwCl (ev_tys dA) s → ev_Old V B s s.heap →
    d + 1 ≤ R.frames → 39 * (d + 1) ≤ R.locals → t0 ≤ σ.1 → σ'.1 - t0 ≤ R.cells → ev_sl σ'.1 - ev_sl t0 ≤ R.slots → ev_New V B dC dI dA σ H → ev_OA V B σ s s.heap → va_S (ev_B B) s.heap H locs → ev_ls V (ev_mt m).1 ls lsR →
    (∀ (k2 : Nat) (lsR' : Array Slot) (H' : Heap) (locs' : List Loc), decode q.2.1 k2 = .ok (ev_retI v, 1) → ev_vok m v → ev_New V B dC dI dA σ' H' → va_S (ev_B B) s.heap H' locs' → W p l en R s mid args below meth c H' locs' (σ'.1 - t0) (ev_sl σ'.1 - ev_sl t0) Q (F0 mid k2 lsR' (v.toList.map (ev_av V)))) →
    W p l en R s mid args below meth c H locs (σ.1 - t0) (ev_sl σ.1 - ev_sl t0) Q (F0 mid k lsR (st.map (ev_av V)))
theorem ev_nd_all {as : List Value} (h : as.all ev_nd = true) : ∀ w ∈ as, ∀ x, w ≠ .double x := by
  intro w hw x hx
  subst hx
  have := List.all_eq_true.mp h _ hw
  cases this
theorem ev_entry_ls (hV : ev_V V B) {m : Nat} {as : List Value} (hlen : (ev_ent as).length ≤ (ev_mt m).1) (hnd : as.all ev_nd = true) :
    ev_ls V (ev_mt m).1 (ev_entry m as) ((lg_sl (as.map (ev_av V)) ++ List.replicate ((ev_mt m).1 - (lg_sl (as.map (ev_av V))).length) Slot.unset).toArray) := by
  have hd := ev_nd_all hnd
  have e1 := ev_ent_len V hV as hd
  have h1 := lv_entry (as.map (ev_av V)) (n := (ev_mt m).1) (by omega)
  refine ⟨by simp [ev_entry]; omega, h1.1, h1.2.1, ?_⟩
  rintro ⟨j, w⟩ hq
  obtain ⟨v, hj, rfl⟩ := ev_pairs_mem.mp hq
  unfold ev_entry at hj
  by_cases hlt : j < (ev_ent as).length
  · rw [List.getElem?_append_left hlt] at hj
    have h2 := ev_ent_args V hV as 0 j v hd hj
    rw [Nat.zero_add] at h2
    exact h1.2.2 _ h2
  · rw [List.getElem?_append_right (by omega)] at hj
    rw [List.getElem?_replicate] at hj
    split at hj <;> cases hj
/-- a method's contract, out of one run of it -/
theorem ev_met (hV : ev_V V B) {n : Nat} (hB : ev_body l V B dC dI dA n) {d m : Nat} {as : List Value} {σ : ev_M} {w : Option Value × ev_M} (hr : ev_run n d m 0 (ev_entry m as) [] σ = some w) {q : MethodName × ByteArray × Option FieldType} (hq : ev_nm[m]? = some q) {pl : List Nat} (hm : ev_ckM q (ev_mt m) pl = true)
    (hlen : (ev_ent as).length ≤ (ev_mt m).1) (hnd : as.all ev_nd = true) :
    Met l q.1 [Cond.code q.1 q.2.1 (ev_mt m).1 q.2.2] (ev_rm d (w.2.1 - σ.1) (ev_sl w.2.1 - ev_sl σ.1)) (ev_Pc V B dC dI dA σ as) (ev_Qc V B dC dI dA w.1 w.2) (w.2.1 - σ.1) (ev_sl w.2.1 - ev_sl σ.1) (ev_B B) := by
  obtain ⟨-, -, -, hpn, hrt, -, -⟩ := ev_mok hm
  refine Met.ofW (cc := q.2.1) (maxL := (ev_mt m).1) (ret := q.2.2) hpn rfl ?_
  intro p e s mid args below meth c s₁ Bd hml hv
  obtain ⟨rfl, hTB, hK, hO, hOA, hN⟩ := hv
  have hx := Bd.exec
  have hb := Bd.bytes
  have hret := Bd.returns
  have hlocks := Bd.notSynchronized
  have hown : s.vm.findClass q.1.cls = some mid.cls := findClass_of_methodNamed Bd.named
  have hnm : meth.name = q.1.name := (name_of_methodNamed Bd.named Bd.method).1
  rw [lg_entry_eq]
  obtain ⟨v, σ'⟩ := w
  have key := hB d m 0 (ev_entry m as) [] σ v σ' hr p e (ev_rm d (σ'.1 - σ.1) (ev_sl σ'.1 - ev_sl σ.1)) s mid (as.map (ev_av V)).toArray below meth c s.heap [] (MQ below (ev_Qc V B dC dI dA v σ') (as.map (ev_av V)).toArray s (σ'.1 - σ.1) (ev_sl σ'.1 - ev_sl σ.1) (ev_B B)) _ σ.1 q hq hx hb hml hown hnm hTB hK hO (Nat.le_refl _) (Nat.le_refl _) (Nat.le_refl _) (Nat.le_refl _) (Nat.le_refl _) hN hOA va_S.rf (ev_entry_ls hV hlen hnd) ?_
  · rw [Nat.sub_self, Nat.sub_self] at key
    exact key
  · intro k2 lsR' H' locs' hd hvo hN' hS'
    have hQ : ∀ t : State, t.heap = H' → s.WarmedH t.vm → ev_Qc V B dC dI dA v σ' (as.map (ev_av V)).toArray s (.returned (v.map (ev_av V))) t := fun t ht _ => ⟨rfl, by rw [ht]; exact hN', hS'.F ht⟩
    cases v with
    | none =>
      have hr0 : meth.sig.returnType = none := by
        rw [hret]
        have hvo : (ev_mt m).2.2.1 = 0 := hvo
        rw [hvo] at hrt
        unfold ev_rtok at hrt
        split at hrt <;> simp_all
      exact W.vret hx hb hr0 hQ hS'.2.2 hd hlocks
    | some v =>
      cases v with
      | int x =>
        have hvo : ev_fit (ev_mt m).2.2.1 x = true := hvo
        cases ht : q.2.2 with
        | none =>
          exfalso
          rw [ht] at hrt
          generalize (ev_mt m).2.2.1 = r at hrt hvo
          unfold ev_rtok at hrt
          split at hrt
          · cases hvo
          all_goals first | (rename_i heq; cases heq; done) | cases hrt
        | some t =>
          rw [ht] at hrt hret
          exact W.zret hx hb hret (ev_fit_nar hrt hvo) hQ hS'.2.2 hd hlocks
      | long x =>
        have hvo : (ev_mt m).2.2.1 = 5 := hvo
        rw [hvo] at hrt
        have h5 : q.2.2 = some .long := by
          unfold ev_rtok at hrt
          split at hrt <;> simp_all
        rw [h5] at hret
        exact W.lret hx hb hret hQ hS'.2.2 hd hlocks
      | null =>
        have hvo : (ev_mt m).2.2.1 = 4 := hvo
        rw [hvo] at hrt
        obtain ⟨z, h5⟩ : ∃ z, q.2.2 = some (.object z) := by
          unfold ev_rtok at hrt
          split at hrt <;> simp_all
        rw [h5] at hret
        exact W.aret (v := .null) hx hb hret (Or.inl ⟨z, rfl⟩) (Or.inl rfl) hQ hS'.2.2 hd hlocks
      | ref x =>
        have hvo : (ev_mt m).2.2.1 = 4 := hvo
        rw [hvo] at hrt
        obtain ⟨z, h5⟩ : ∃ z, q.2.2 = some (.object z) := by
          unfold ev_rtok at hrt
          split at hrt <;> simp_all
        rw [h5] at hret
        exact W.aret (v := V x) hx hb hret (Or.inl ⟨z, rfl⟩) (hV.1 x) hQ hS'.2.2 hd hlocks
      | float x => cases hvo
      | double x => cases hvo
      | retAddr x => cases hvo
theorem ev_recv_ok (hV : ev_V V B) (hK : va_K (dC, dI) vwCl (ev_tys dA) s) (hO : ev_Old V B s s.heap) {σ : ev_M} (hN : ev_New V B dC dI dA σ H) (hS : va_S (ev_B B) s.heap H locs) {x mc : Nat} (h : ev_recv σ x mc = true) {C : String}
    (hC : (if mc = 99 then decide (C = "java/lang/String") else decide ((vwCl[mc]?).map (fun r => r.1) = some C)) = true) : ∃ a, V x = .ref a ∧ ∃ cellB : Cell, H[a]? = some cellB ∧ cellB.vm.isStatics = false ∧ s.vm.findClass C = some cellB.cls := by
  unfold ev_recv at h
  split at h
  · simp only [Bool.and_eq_true, decide_eq_true_eq] at h
    rw [if_pos h.2] at hC
    obtain ⟨a, e1, e2⟩ := hO.2.2.1 x h.1
    obtain ⟨cell, g1, g2, g3, -⟩ := e2.kept hS.2.1
    exact ⟨a, e1, cell, g1, g2, by rw [of_decide_eq_true hC]; exact g3⟩
  · rename_i hx0
    simp only [Bool.and_eq_true, decide_eq_true_eq] at h
    obtain ⟨hlt, h⟩ := h
    split at h
    · rename_i q hq
      have hqm := of_decide_eq_true h
      have hc := hN.2.2.1 x (by omega) hlt
      unfold ev_cell at hc
      rw [hq] at hc
      obtain ⟨r, hr, hlen, cell, q1, q2, q3, q4⟩ := hc
      have hmc : mc ≠ 99 := by
        have : q.1 < 10 := (List.getElem?_eq_some_iff.mp hr).1
        omega
      rw [if_neg hmc, ← hqm, hr] at hC
      have hC := of_decide_eq_true hC
      simp only [Option.map_some, Option.some.injEq] at hC
      refine ⟨_, hV.2.1 x (by omega), cell, q1, by rw [q3]; rfl, ?_⟩
      rw [← hC, q2]
      exact (hK.1 q.1 r hr).2.1
    · cases h
set_option maxHeartbeats 4000000 in
theorem ev_sound (hok : ∀ (m k : Nat) (e : Instr × Nat × Value), ev_at m k = some e → ∃ (q : MethodName × ByteArray × Option FieldType) (pl : List Nat), ev_nm[m]? = some q ∧ ev_ck q.1 q.2.1 k e pl = true)
    (hmok : ∀ (m : Nat) (q : MethodName × ByteArray × Option FieldType), ev_nm[m]? = some q → m + 1 < ev_nm.length → ∃ pl, ev_ckM q (ev_mt m) pl = true) (l : Launch) (hV : ev_V V B) : ∀ n : Nat, ev_body l V B dC dI dA n := by
  intro n
  induction n with
  | zero =>
    intro d m k ls st σ v σ' h
    simp [ev_run] at h
  | succ n ih =>
    intro d m k ls st σ v σ' h p en R s mid args below meth c H locs Q lsR t0 q hq hx hb hml hown hnm hTB hK hO hfr hlo ht0 hc hsl hN hA hS hl hret
    simp only [ev_run] at h
    split at h
    · cases h
    · rename_i e he
      obtain ⟨q', pl, hq', hck⟩ := hok m k e he
      cases hq.symm.trans hq'
      obtain ⟨i, len, lk⟩ := e
      split at h
      · cases h
      · rename_i z hz
        obtain ⟨k1, ls1, st1, σ1⟩ := z
        have hle := ev_run_le n d m _ _ _ _ v σ' h
        have hle0 := ev_step_le hz
        dsimp only at h hle
        have hm1 := ev_sl_mono hle.1
        exact ev_stepN hV hx hb hml hown hnm hTB hK hO (by omega) (by omega) hck hz hl hN hA hS ht0 (by have := hle.1; omega) (by omega) fun H' locs' lsR' hl' hN' hA' hS' =>
          ih d m k1 ls1 st1 σ1 v σ' h p en R s mid args below meth c H' locs' Q lsR' t0 q hq hx hb hml hown hnm hTB hK hO hfr hlo (by have := hle0.1; omega) hc hsl hN' hA' hS' hl' hret
      · rename_i z hz
        obtain ⟨v1, σ1⟩ := z
        cases h
        obtain ⟨e1, e2, rfl, rfl⟩ := ev_step_ret hz
        simp only [ev_ck, Bool.and_eq_true, decide_eq_true_eq, Bool.or_eq_true] at hck
        obtain ⟨⟨hd, hln⟩, -⟩ := hck
        dsimp only at e1
        subst e1
        have hlen : len = 1 := by
          have h0 : ev_ilen (ev_retI v) = 1 := by
            unfold ev_retI
            split <;> rfl
          rw [h0] at hln
          rcases hln with h1 | h1
          · cases h1
          · exact h1
        subst hlen
        exact hret k lsR H locs hd e2 hN hS
      · rename_i z hz
        obtain ⟨m1, as, rest⟩ := z
        cases d with
        | zero => cases h
        | succ d =>
          dsimp only at h
          split at h
          · cases h
          · rename_i w hw
            have hle1 := ev_run_le n d m1 0 _ [] σ w.1 w.2 hw
            have hle2 := ev_run_le n (d + 1) m _ _ _ _ v σ' h
            have hs1 := ev_sl_mono hle1.1
            have hs2 := ev_sl_mono hle2.1
            have hs0 := ev_sl_mono ht0
            have g1 := hle1.1
            have g2 := hle2.1
            have hcont : ∀ (H' : Heap) (locs' : List Loc), ev_New V B dC dI dA w.2 H' → va_S (ev_B B) s.heap H' locs' → len = 3 → W p l en R s mid args below meth c H' locs' (σ.1 - t0 + (w.2.1 - σ.1)) (ev_sl σ.1 - ev_sl t0 + (ev_sl w.2.1 - ev_sl σ.1)) Q (F0 mid (k + 3) lsR (w.1.toList.map (ev_av V) ++ rest.map (ev_av V))) := by
              intro H' locs' hN' hS' hl3
              subst hl3
              have h9 := ih (d + 1) m (k + 3) ls (w.1.toList ++ rest) w.2 v σ' h p en R s mid args below meth c H' locs' Q lsR t0 q hq hx hb hml hown hnm hTB hK hO hfr hlo (by omega) hc hsl hN' (hA.le hle1) hS' hl hret
              rw [List.map_append] at h9
              rw [show w.2.1 - t0 = σ.1 - t0 + (w.2.1 - σ.1) by omega, show ev_sl w.2.1 - ev_sl t0 = ev_sl σ.1 - ev_sl t0 + (ev_sl w.2.1 - ev_sl σ.1) by omega] at h9
              exact h9
            simp only [ev_ck, Bool.and_eq_true, decide_eq_true_eq, Bool.or_eq_true] at hck
            obtain ⟨⟨hd, hln⟩, hm⟩ := hck
            have hroom : σ.1 - t0 + (w.2.1 - σ.1) ≤ R.cells ∧ ev_sl σ.1 - ev_sl t0 + (ev_sl w.2.1 - ev_sl σ.1) ≤ R.slots := by omega
            -- what all three calls share
            have share : ∀ (m0 : Nat) (q1 : MethodName × ByteArray × Option FieldType), m1 = m0 % 100000 → ev_nm[m0 % 100000]? = some q1 → m0 % 100000 + 1 < ev_nm.length → (ev_ent as).length ≤ (ev_mt m1).1 → as.all ev_nd = true →
                Met l q1.1 [Cond.code q1.1 q1.2.1 (ev_mt m1).1 q1.2.2] (ev_rm d (w.2.1 - σ.1) (ev_sl w.2.1 - ev_sl σ.1)) (ev_Pc V B dC dI dA σ as) (ev_Qc V B dC dI dA w.1 w.2) (w.2.1 - σ.1) (ev_sl w.2.1 - ev_sl σ.1) (ev_B B) ∧
                (d + 1 + 1 ≤ R.frames ∧ 8 + ((ev_mt m1).1 + 11) + 39 * (d + 1) ≤ R.locals) ∧ (∀ x ∈ [Cond.code q1.1 q1.2.1 (ev_mt m1).1 q1.2.2], ∀ (a' : Array Value) (U : State), s.WarmedH U.vm → x.before a' U = true) ∧
                (Cond.code q1.1 q1.2.1 (ev_mt m1).1 q1.2.2).before args s = true ∧ (Cond.initialized q1.1.cls).before args s = true ∧ (q1.1.cls ≠ "java/lang/invoke/MethodHandle" ∧ q1.1.cls ≠ "java/lang/invoke/VarHandle") ∧ (∀ sig, parseMethodDescriptor q1.1.desc = some sig → (ev_mt m1).2.1 = sig.parameters.length) := by
              intro m0 q1 e1 hq1 hlt hle hnd
              subst e1
              obtain ⟨plm, hmk⟩ := hmok _ _ hq1 hlt
              obtain ⟨c1, c2, c3, c4, c5, c6, c7⟩ := ev_mok hmk
              refine ⟨ev_met hV ih hw hq1 hmk hle hnd, ⟨by omega, by omega⟩, fun x hx1 a' U hW => ?_, hTB.use c1 args, hTB.use c2 args, c6, c7⟩
              rw [List.mem_singleton.mp hx1]
              exact hTB.warm hW _ (ev_w_mem c1).1 (ev_w_mem c1).2 a'
            have hpre := ev_pre (as := as) hTB hK hO hA hN hS
            cases i with
            | invokevirtual z =>
              have hl3 : len = 3 := by simpa [ev_ilen] using hln
              subst hl3
              dsimp only [ev_step] at hz
              obtain ⟨m0, as', rest', rfl, hz', hst, hlen, hcat, hent, hnd, hvt, -⟩ := ev_call_some hz
              cases hz'
              dsimp only at hm
              unfold ev_ckC at hm
              split at hm
              · rename_i q1 hq1
                simp only [Bool.and_eq_true, decide_eq_true_eq] at hm
                obtain ⟨⟨hlk, ⟨hin, hsel⟩, hcls⟩, hlt⟩ := hm
                obtain ⟨hM, hrm, hws, hcode, hini, hy, hsig⟩ := share m0 q1 rfl hq1 hlt hent hnd
                obtain ⟨x, as2, rfl, hrv⟩ := hvt rfl
                have hlink : (Cond.methodLink q.1.cls z q1.1).before args s = true := by
                  split at hlk
                  · exact hTB.use hlk args
                  · simp at hlk
                obtain ⟨a, ha, hrecv⟩ := ev_recv_ok hV hK hO hN hS hrv (C := q1.1.cls) (by split <;> rename_i hh <;> simp only [hh, if_true, if_false] at hcls <;> exact hcls)
                have hstk : st.map (ev_av V) = (as2.map (ev_av V)).reverse ++ .ref a :: rest.map (ev_av V) := by
                  rw [hst]
                  simp [ev_av_ref, ha]
                rw [hstk]
                have hpre' : ∀ U : State, U.heap = H → s.WarmedH U.vm → ev_Pc V B dC dI dA σ (.ref x :: as2) (Value.ref a :: as2.map (ev_av V)).toArray U := by
                  intro U hU hW
                  have h0 := hpre U hU hW
                  rw [List.map_cons, ev_av_ref, ha] at h0
                  exact h0
                refine ev_after (va_runV (As := as2.map (ev_av V)) (n := (ev_mt (m0 % 100000)).2.1) (Ts := []) ⟨hx, hb, hml, hown, fun _ h0 => by cases h0⟩ hM ⟨⟨rfl, rfl, hrm.1, hrm.2, hws, List.mem_singleton.mpr rfl, hcode, hini, hy, hsig, hlink⟩, hTB.use hin args, hTB.use hsel args⟩ ⟨ev_blind _ _, hrecv, hpre'⟩ rfl ?_ hl.2.1 rfl ?_ hd hroom) hS fun H' locs' hN' hS' => hcont H' locs' hN' hS' rfl
                · simpa using hlen
                · show 2 * 0 + _ ≤ 8
                  rw [ev_cat_map hV]
                  omega
              · cases hm
            | invokestatic z =>
              have hl3 : len = 3 := by simpa [ev_ilen] using hln
              subst hl3
              dsimp only [ev_step] at hz
              split at hz
              · obtain ⟨_, _, _, _, _, _, _, _, _, _, _, _, _, _, _, _, _, _, _, _, _, hz'⟩ := ev_copy_some hz
                cases hz'
              · obtain ⟨m0, as', rest', rfl, hz', hst, hlen, hcat, hent, hnd, -, -⟩ := ev_call_some hz
                cases hz'
                dsimp only at hm
                unfold ev_ckC at hm
                split at hm
                · rename_i q1 hq1
                  simp only [Bool.and_eq_true, decide_eq_true_eq] at hm
                  obtain ⟨⟨hlk, hstt⟩, hlt⟩ := hm
                  obtain ⟨hM, hrm, hws, hcode, hini, hy, hsig⟩ := share m0 q1 rfl hq1 hlt hent hnd
                  have hstk : st.map (ev_av V) = (as.map (ev_av V)).reverse ++ rest.map (ev_av V) := by
                    rw [hst]
                    simp
                  rw [hstk]
                  have hlen' : (as.map (ev_av V)).length = (ev_mt (m0 % 100000)).2.1 := by simpa using hlen
                  have hcat' : 2 * (F0 mid k lsR ((as.map (ev_av V)).reverse ++ rest.map (ev_av V))).monitorRoom + ((rest.map (ev_av V)).map fun v => v.category).sum ≤ 8 := by
                    show 2 * 0 + _ ≤ 8
                    rw [ev_cat_map hV]
                    omega
                  split at hlk
                  · exact ev_after (va_runS (As := as.map (ev_av V)) (n := (ev_mt (m0 % 100000)).2.1) (Ts := []) ⟨hx, hb, hml, hown, fun _ h0 => by cases h0⟩ hM ⟨⟨rfl, rfl, hrm.1, hrm.2, hws, List.mem_singleton.mpr rfl, hcode, hini, hy, hsig, hTB.use hlk args⟩, hTB.use hstt args⟩ ⟨ev_blind _ _, hpre⟩ rfl hlen' hl.2.1 rfl hcat' hd hroom) hS fun H' locs' hN' hS' => hcont H' locs' hN' hS' rfl
                  · simp only [Bool.and_eq_true] at hlk
                    exact ev_after (va_runSN (As := as.map (ev_av V)) (n := (ev_mt (m0 % 100000)).2.1) (Ts := []) ⟨hx, hb, hml, hown, fun _ h0 => by cases h0⟩ hM ⟨⟨⟨rfl, rfl, hrm.1, hrm.2, hws, List.mem_singleton.mpr rfl⟩, hcode, hini, hy, hsig, hTB.use hlk.2 args⟩, hTB.use hstt args, trivial⟩ ⟨ev_blind _ _, hpre⟩ rfl hlen' hl.2.1 rfl hcat' hd hroom) hS fun H' locs' hN' hS' => hcont H' locs' hN' hS' rfl
                · cases hm
            | invokespecial z =>
              have hl3 : len = 3 := by simpa [ev_ilen] using hln
              subst hl3
              dsimp only [ev_step] at hz
              split at hz
              · obtain ⟨_, _, _, hz'⟩ := ev_r_some hz
                split at hz' <;> cases hz'
              · obtain ⟨m0, as', rest', rfl, hz', hst, hlen, hcat, hent, hnd, -, hob⟩ := ev_call_some hz
                cases hz'
                dsimp only at hm
                unfold ev_ckC at hm
                split at hm
                · rename_i q1 hq1
                  simp only [Bool.and_eq_true, decide_eq_true_eq] at hm
                  obtain ⟨⟨hlk, ⟨hin, hname⟩, hnone⟩, hlt⟩ := hm
                  obtain ⟨hM, hrm, hws, hcode, hini, hy, hsig⟩ := share m0 q1 rfl hq1 hlt hent hnd
                  obtain ⟨x, as2, rfl, hx0⟩ := hob rfl rfl
                  have ha := hV.2.1 x hx0
                  have hstk : st.map (ev_av V) = (as2.map (ev_av V)).reverse ++ .ref (B + (x - 1000)) :: rest.map (ev_av V) := by
                    rw [hst]
                    simp [ev_av_ref, ha]
                  rw [hstk]
                  have hpre' : ∀ U : State, U.heap = H → s.WarmedH U.vm → ev_Pc V B dC dI dA σ (.ref x :: as2) (Value.ref (B + (x - 1000)) :: as2.map (ev_av V)).toArray U := by
                    intro U hU hW
                    have h0 := hpre U hU hW
                    rw [List.map_cons, ev_av_ref, ha] at h0
                    exact h0
                  have hlen' : (as2.map (ev_av V)).length = (ev_mt (m0 % 100000)).2.1 := by simpa using hlen
                  have hcat' : 2 * (F0 mid k lsR ((as2.map (ev_av V)).reverse ++ .ref (B + (x - 1000)) :: rest.map (ev_av V))).monitorRoom + ((rest.map (ev_av V)).map fun v => v.category).sum ≤ 8 := by
                    show 2 * 0 + _ ≤ 8
                    rw [ev_cat_map hV]
                    omega
                  rw [hnone] at hM hws hcode
                  split at hlk
                  · exact ev_after (va_runI (As := as2.map (ev_av V)) (n := (ev_mt (m0 % 100000)).2.1) (Ts := []) ⟨hx, hb, hml, hown, fun _ h0 => by cases h0⟩ hM ⟨⟨rfl, rfl, hrm.1, hrm.2, hws, List.mem_singleton.mpr rfl, hcode, hini, hy, hsig, hTB.use hlk args⟩, hname, hTB.use hin args⟩ ⟨ev_blind _ _, hpre'⟩ rfl hlen' hl.2.1 rfl hcat' hd hroom) hS fun H' locs' hN' hS' => hcont H' locs' hN' hS' rfl
                  · simp only [Bool.and_eq_true] at hlk
                    exact ev_after (va_runIN (As := as2.map (ev_av V)) (n := (ev_mt (m0 % 100000)).2.1) (Ts := []) ⟨hx, hb, hml, hown, fun _ h0 => by cases h0⟩ hM ⟨⟨⟨rfl, rfl, hrm.1, hrm.2, hws, List.mem_singleton.mpr rfl⟩, hcode, hini, hy, hsig, hTB.use hlk.2 args⟩, hname, hTB.use hin args⟩ ⟨ev_blind _ _, hpre'⟩ rfl hlen' hl.2.1 rfl hcat' hd hroom) hS fun H' locs' hN' hS' => hcont H' locs' hN' hS' rfl
                · cases hm
            | _ =>
              exfalso
              rcases ev_step_call hz with ⟨j, hj⟩ | ⟨j, hj⟩ | ⟨j, hj⟩ <;> cases hj
end EVM
end
section
/-! THE START: what the Statement gives of the cells that were there before -/
def ev_FL : List Jvm.Cond := flatC (Jvm.Cond.and given_1 narrow_1)
/-- words at their places among the premises -/
def ev_fm : List Nat → List Jvm.Cond → Bool
  | [], [] => true
  | p :: ps, w :: ws => decide (ev_FL[p]? = some w) && ev_fm ps ws
  | _, _ => false
theorem ev_fm_mem : ∀ (ps : List Nat) (ws : List Jvm.Cond), ev_fm ps ws = true → ∀ w ∈ ws, w ∈ ev_FL
  | [], [], _, w, hw => by cases hw
  | [], _ :: _, h, _, _ => by cases h
  | _ :: _, [], h, _, _ => by cases h
  | p :: ps, u :: ws, h, w, hw => by
    simp only [ev_fm, Bool.and_eq_true, decide_eq_true_eq] at h
    rcases List.mem_cons.mp hw with rfl | hw
    · exact List.mem_of_getElem? h.1
    · exact ev_fm_mem ps ws h.2 w hw
def ev_sT (i : Nat) : Term := match ev_strs[i]? with
  | some q => .string q.1 q.2.1
  | none => .arg 0
abbrev ev_sV (i : Nat) : Term := .field (ev_sT i) "java/lang/String" "value" "[B"
abbrev ev_eT (i : Nat) : Term := .static "StemRules$Ending" (ev_enames.getD i "") "LStemRules$Ending;"
abbrev ev_fT : Term := .static "StemRules$Keys" "FIGURES" "[C"
abbrev ev_gT : Term := .static "StemRules$Porter" "ENDINGS" "[LStemRules$Ending;"
def ev_sW (i : Nat) : List Jvm.Cond := [.exactly (ev_sT i) "java/lang/String", .eq (.field (ev_sT i) "java/lang/String" "coder" "B") (.int 0), .arrayOf (ev_sV i) .byte, .eq (.length (ev_sV i)) (.int (Int32.ofNat (ev_txs.getD i []).length))]
  ++ (List.range (ev_txs.getD i []).length).map fun j => .eq (.elem (ev_sV i) (.int (Int32.ofNat j))) (.int ((ev_txs.getD i []).getD j 0))
def ev_eW (i : Nat) : List Jvm.Cond := match ev_ens[i]? with
  | some q => [.exactly (ev_eT i) "StemRules$Ending", .eq (.field (ev_eT i) "java/lang/Enum" "ordinal" "I") (.int (Int32.ofNat i)), .eq (.field (ev_eT i) "StemRules$Ending" "stage" "I") (.int q.1), .eq (.field (ev_eT i) "StemRules$Ending" "need" "I") (.int q.2.1),
      .eq (.field (ev_eT i) "StemRules$Ending" "has" "Ljava/lang/String;") (ev_sT q.2.2.1), .eq (.field (ev_eT i) "StemRules$Ending" "becomes" "Ljava/lang/String;") (ev_sT q.2.2.2)]
  | none => []
def ev_fW : List Jvm.Cond := [.arrayOf ev_fT .char, .eq (.length ev_fT) (.int 26)] ++ (List.range 26).map fun j => .eq (.elem ev_fT (.int (Int32.ofNat j))) (.int (ev_figs.getD j 0))
def ev_gW : List Jvm.Cond := [.arrayOf ev_gT (.object "StemRules$Ending"), .eq (.length ev_gT) (.int 54)] ++ (List.range 54).map fun j => .eq (.elem ev_gT (.int (Int32.ofNat j))) (ev_eT j)
def ev_cW : List Jvm.Cond := [.eq (.static "java/lang/String" "COMPACT_STRINGS" "Z") (.int 1), .isRef (.static "jdk/internal/util/Preconditions" "SIOOBE_FORMATTER" "Ljava/util/function/BiFunction;")]
set_option maxRecDepth 100000 in
theorem ev_sP0 : ev_fm [421, 422, 423, 424, 425, 426, 427, 428, 429, 430, 431, 432, 433, 434, 435, 436, 437, 438, 439, 440, 441, 442, 443, 444, 445, 446, 447, 448, 449, 450, 451, 452, 453, 454, 455, 456, 457, 458, 459, 460, 461, 462, 463, 464, 465, 466, 467, 468, 469, 470, 471, 472, 473, 474, 475, 476, 477, 478, 479, 480, 481, 482, 483, 484, 485, 486, 487, 488, 489, 490, 491, 492, 493, 494, 495, 496, 497, 498, 499, 500, 501, 502, 503, 504, 505, 506, 507, 508, 509, 510, 511, 512, 513, 514, 515, 516, 517, 518, 519, 520, 521, 522, 523, 524, 525, 526, 527, 528, 529, 530, 531, 532, 533, 534, 535, 536, 537, 538, 539, 540, 541, 542, 543, 544, 545, 546, 547, 548, 549, 550, 551, 552, 553, 554, 555, 556, 557, 558, 559, 560, 561, 562, 563, 564, 565, 566, 567, 568, 569, 570, 571, 572, 573, 574, 575, 576, 577, 578, 579, 580, 581, 582, 583, 584, 585, 586, 587, 588, 589, 590, 591, 592, 593, 594] ((List.range 28).flatMap fun i => ev_sW (i + 0)) = true := by decide +kernel
set_option maxRecDepth 100000 in
theorem ev_sP28 : ev_fm [595, 596, 597, 598, 599, 600, 601, 602, 603, 604, 605, 606, 607, 608, 609, 610, 611, 612, 613, 614, 615, 616, 617, 618, 619, 620, 621, 622, 623, 624, 625, 627, 628, 629, 630, 631, 632, 633, 634, 635, 636, 637, 638, 639, 640, 641, 642, 643, 644, 645, 646, 647, 648, 649, 650, 651, 652, 653, 654, 655, 656, 657, 658, 659, 660, 661, 662, 663, 664, 665, 666, 667, 668, 669, 670, 671, 672, 673, 674, 675, 676, 677, 678, 679, 680, 681, 682, 683, 684, 685, 686, 687, 688, 689, 690, 691, 692, 693, 694, 695, 696, 697, 698, 699, 701, 702, 703, 704, 705, 706, 707, 708, 709, 710, 711, 712, 713, 714, 716, 717, 718, 719, 720, 721, 722, 723, 724, 725, 726, 727, 728, 729, 730, 731, 732, 733, 734, 735, 736, 739, 740, 741, 742, 743, 744, 745, 746, 747, 748, 749, 750, 751, 752, 753, 754, 755, 756, 757, 758, 759] ((List.range 28).flatMap fun i => ev_sW (i + 28)) = true := by decide +kernel
set_option maxRecDepth 100000 in
theorem ev_sP56 : ev_fm [761, 762, 763, 764, 765, 766, 767, 769, 770, 771, 772, 773, 774, 775, 776, 777, 778, 781, 782, 783, 784, 785, 786, 787, 788, 789, 790, 791, 792, 793, 795, 796, 797, 798, 799, 800, 801, 802, 803, 804, 805, 806, 807, 808, 809, 810, 811, 812, 814, 815, 816, 817, 818, 819, 820, 821, 822, 823, 824, 825, 826, 827, 828, 829, 830, 831, 832, 833, 834, 835, 836, 837, 838, 839, 840, 841, 842, 843, 844, 845, 846, 847, 848, 849, 850, 851, 852, 853, 854, 855, 856, 857, 858, 859, 860, 861, 862, 863, 864, 865, 866, 867, 868, 869, 870, 871, 872, 873, 874, 875, 876, 877, 878, 880, 881, 882, 883, 884, 885, 886, 887, 888, 889, 890, 891, 892, 893, 894, 895, 896, 897, 898, 899, 900, 901, 902, 903, 904, 905, 906, 907, 908, 909, 910, 911, 912, 913, 914, 915, 916, 917, 918, 919, 920, 921, 922, 923, 924, 925, 926, 927, 928, 929, 930, 931, 932, 933, 934, 935, 936, 937, 939, 940, 941, 942, 943, 944, 945, 946, 947, 948, 949, 950, 951, 952, 953, 954, 955, 956, 957, 958, 959, 960, 961, 962, 963, 964, 965, 966, 967, 968, 969, 970, 971, 972, 973, 974, 975, 976, 977, 978, 979, 980, 981, 982] ((List.range 28).flatMap fun i => ev_sW (i + 56)) = true := by decide +kernel
set_option maxRecDepth 100000 in
theorem ev_sP84 : ev_fm [983, 984, 985, 986, 987, 988, 989, 990, 991, 992, 993, 994, 995, 996, 997, 998, 999, 1000, 1001, 1002, 1003, 1004, 1005, 1006, 1007, 1008, 1009, 1010, 1011, 1012, 1013, 1014, 1015, 1016, 1017, 1018, 1019, 1020, 1021, 1022, 1023, 1024, 1025, 1026, 1027, 1028, 1029, 1030, 1031, 1032, 1033, 1034, 1035, 1036, 1037, 1038, 1039, 1040, 1041, 1042, 1043, 1044, 1045, 1046, 1047, 1048, 1049, 1050, 1051, 1052, 1053, 1054, 1055, 1056, 1057, 1058, 1059, 1060, 1061, 1062, 1063, 1064, 1065, 1066, 1067, 1068, 1069, 1070, 1071, 1072, 1073, 1075, 1076, 1077, 1078, 1079, 1080, 1081, 1082, 1083, 1084, 1085, 1086, 1087, 1088, 1089, 1090, 1091, 1092, 1093, 1094, 1095, 1096, 1097, 1098, 1099, 1100, 1101, 1102, 1103, 1104, 1105, 1106, 1107, 1108, 1109, 1110, 1111, 1112, 1113, 1114, 1115, 1116, 1117, 1118, 1119, 1120, 1121, 1122, 1123, 1124, 1125, 1126, 1127, 1128, 1129, 1130, 1131, 1132, 1133, 1134, 1135, 1136, 1137, 1138, 1139, 1140, 1141, 1142, 1143, 1144, 1145, 1146, 1147, 1148, 1149, 1150, 1151, 1152, 1153, 1154, 1155, 1156, 1157, 1158, 1159, 1160, 1161, 1162, 1163, 1164, 1165, 1166, 1167, 1168, 1169, 1170, 1171, 1172, 1173, 1174, 1175, 1176, 1177, 1178, 1179, 1180, 1181, 1182, 1183, 1184, 1185, 1186, 1187, 1188, 1189, 1190, 1191, 1192, 1193, 1194, 1195, 1196, 1197] ((List.range 26).flatMap fun i => ev_sW (i + 84)) = true := by decide +kernel
set_option maxRecDepth 100000 in
theorem ev_eP0 : ev_fm [109, 110, 111, 112, 113, 114, 115, 116, 117, 118, 119, 120, 121, 122, 123, 124, 125, 126, 127, 128, 129, 130, 131, 132, 133, 134, 135, 136, 137, 138, 68, 69, 70, 71, 72, 73, 74, 75, 76, 77, 78, 79, 139, 140, 141, 142, 143, 144, 145, 146, 147, 148, 149, 150, 151, 152, 153, 154, 155, 156, 157, 158, 159, 160, 161, 162, 163, 164, 165, 166, 167, 168, 169, 170, 171, 172, 173, 174, 175, 176, 177, 178, 179, 180, 181, 182, 183, 184, 185, 186, 187, 188, 189, 190, 191, 192, 193, 194, 195, 196, 197, 198, 199, 200, 201, 202, 203, 204, 205, 206, 207, 208, 209, 210, 211, 212, 213, 214, 215, 216, 217, 218, 219, 220, 221, 222, 223, 224, 225, 226, 227, 228, 229, 230, 231, 232, 233, 234, 235, 236, 237, 238, 239, 240, 241, 242, 243, 244, 245, 246, 247, 248, 249, 250, 251, 252, 253, 254, 255, 256, 257, 258, 259, 260, 261, 262, 263, 264] ((List.range 28).flatMap fun i => ev_eW (i + 0)) = true := by decide +kernel
set_option maxRecDepth 100000 in
theorem ev_eP28 : ev_fm [265, 266, 267, 268, 269, 270, 271, 272, 273, 274, 275, 276, 277, 278, 279, 280, 281, 282, 283, 284, 285, 286, 287, 288, 289, 290, 291, 292, 293, 294, 295, 296, 297, 298, 299, 300, 301, 302, 303, 304, 305, 306, 307, 308, 309, 310, 311, 312, 313, 314, 315, 316, 317, 318, 319, 320, 321, 322, 323, 324, 325, 326, 327, 328, 329, 330, 331, 332, 333, 334, 335, 336, 337, 338, 339, 340, 341, 342, 343, 344, 345, 346, 347, 348, 349, 350, 351, 352, 353, 354, 355, 356, 357, 358, 359, 360, 361, 362, 363, 364, 365, 366, 367, 368, 369, 370, 371, 372, 373, 374, 375, 376, 377, 378, 379, 380, 381, 382, 383, 384, 385, 386, 387, 388, 389, 390, 391, 392, 393, 394, 395, 396, 397, 398, 399, 400, 401, 402, 403, 404, 405, 406, 407, 408, 409, 410, 411, 412, 413, 414, 415, 416, 417, 418, 419, 420] ((List.range 26).flatMap fun i => ev_eW (i + 28)) = true := by decide +kernel
set_option maxRecDepth 100000 in
theorem ev_fP : ev_fm [81, 82, 83, 84, 85, 86, 87, 88, 89, 90, 91, 92, 93, 94, 95, 96, 97, 98, 99, 100, 101, 102, 103, 104, 105, 106, 107, 108, 11, 12, 14, 15, 16, 17, 18, 19, 20, 21, 22, 23, 24, 25, 26, 27, 28, 29, 30, 31, 32, 33, 34, 35, 36, 37, 38, 39, 40, 41, 42, 43, 44, 45, 46, 47, 48, 49, 50, 51, 52, 53, 54, 55, 56, 57, 58, 59, 60, 61, 62, 63, 64, 65, 66, 67, 4, 5] (ev_fW ++ ev_gW ++ ev_cW) = true := by decide +kernel
theorem ev_sM {i : Nat} (hi : i < 110) : ∀ w ∈ ev_sW i, w ∈ ev_FL := by
  intro w hw
  rcases Nat.lt_or_ge i 28 with h0 | h0
  · exact ev_fm_mem _ _ ev_sP0 w (List.mem_flatMap.mpr ⟨i - 0, List.mem_range.mpr (by omega), by rw [show i - 0 + 0 = i by omega]; exact hw⟩)
  rcases Nat.lt_or_ge i 56 with h28 | h28
  · exact ev_fm_mem _ _ ev_sP28 w (List.mem_flatMap.mpr ⟨i - 28, List.mem_range.mpr (by omega), by rw [show i - 28 + 28 = i by omega]; exact hw⟩)
  rcases Nat.lt_or_ge i 84 with h56 | h56
  · exact ev_fm_mem _ _ ev_sP56 w (List.mem_flatMap.mpr ⟨i - 56, List.mem_range.mpr (by omega), by rw [show i - 56 + 56 = i by omega]; exact hw⟩)
  rcases Nat.lt_or_ge i 110 with h84 | h84
  · exact ev_fm_mem _ _ ev_sP84 w (List.mem_flatMap.mpr ⟨i - 84, List.mem_range.mpr (by omega), by rw [show i - 84 + 84 = i by omega]; exact hw⟩)
  exact absurd hi (by omega)
theorem ev_eM {i : Nat} (hi : i < 54) : ∀ w ∈ ev_eW i, w ∈ ev_FL := by
  intro w hw
  rcases Nat.lt_or_ge i 28 with h0 | h0
  · exact ev_fm_mem _ _ ev_eP0 w (List.mem_flatMap.mpr ⟨i - 0, List.mem_range.mpr (by omega), by rw [show i - 0 + 0 = i by omega]; exact hw⟩)
  rcases Nat.lt_or_ge i 54 with h28 | h28
  · exact ev_fm_mem _ _ ev_eP28 w (List.mem_flatMap.mpr ⟨i - 28, List.mem_range.mpr (by omega), by rw [show i - 28 + 28 = i by omega]; exact hw⟩)
  exact absurd hi (by omega)
theorem ev_lyFIGURES : Jvm.Cond.laysStatic "StemRules$Keys" "FIGURES" "[C" ∈ lw_tbl := List.mem_of_getElem? (i := 689) (by decide +kernel)
theorem ev_lyENDINGS : Jvm.Cond.laysStatic "StemRules$Porter" "ENDINGS" "[LStemRules$Ending;" ∈ lw_tbl := List.mem_of_getElem? (i := 496) (by decide +kernel)
theorem ev_lyCOMPACT : Jvm.Cond.laysStatic "java/lang/String" "COMPACT_STRINGS" "Z" ∈ lw_tbl := List.mem_of_getElem? (i := 391) (by decide +kernel)
theorem ev_lySIOOBE : Jvm.Cond.laysStatic "jdk/internal/util/Preconditions" "SIOOBE_FORMATTER" "Ljava/util/function/BiFunction;" ∈ lw_tbl := List.mem_of_getElem? (i := 411) (by decide +kernel)
theorem ev_lyED : Jvm.Cond.laysStatic "StemRules$Ending" "ED" "LStemRules$Ending;" ∈ lw_tbl := List.mem_of_getElem? (i := 506) (by decide +kernel)
theorem ev_lyING : Jvm.Cond.laysStatic "StemRules$Ending" "ING" "LStemRules$Ending;" ∈ lw_tbl := List.mem_of_getElem? (i := 508) (by decide +kernel)
theorem ev_inK : Jvm.Cond.initialized "StemRules$Keys" ∈ lw_tbl := List.mem_of_getElem? (i := 60) (by decide +kernel)
theorem ev_inO : Jvm.Cond.initialized "StemRules$Porter" ∈ lw_tbl := List.mem_of_getElem? (i := 56) (by decide +kernel)
theorem ev_inS : Jvm.Cond.initialized "java/lang/String" ∈ lw_tbl := List.mem_of_getElem? (i := 52) (by decide +kernel)
theorem ev_inP : Jvm.Cond.initialized "jdk/internal/util/Preconditions" ∈ lw_tbl := List.mem_of_getElem? (i := 54) (by decide +kernel)
theorem ev_inE : Jvm.Cond.initialized "StemRules$Ending" ∈ lw_tbl := List.mem_of_getElem? (i := 59) (by decide +kernel)
theorem ev_ar_int : Jvm.Cond.arrayClass .int ∈ lw_tbl := List.mem_of_getElem? (i := 106) (by decide +kernel)
theorem ev_ar_char : Jvm.Cond.arrayClass .char ∈ lw_tbl := List.mem_of_getElem? (i := 83) (by decide +kernel)
theorem ev_ar_boolean : Jvm.Cond.arrayClass .boolean ∈ lw_tbl := List.mem_of_getElem? (i := 107) (by decide +kernel)
theorem ev_it0 : Jvm.Cond.instantiable RX0 6 ∈ lw_tbl := List.mem_of_getElem? (i := 147) (by decide +kernel)
theorem ev_it1 : Jvm.Cond.instantiable RX1 6 ∈ lw_tbl := List.mem_of_getElem? (i := 191) (by decide +kernel)
theorem ev_it2 : Jvm.Cond.instantiable RX3 6 ∈ lw_tbl := List.mem_of_getElem? (i := 122) (by decide +kernel)
theorem ev_it3 : Jvm.Cond.instantiable RX5 2 ∈ lw_tbl := List.mem_of_getElem? (i := 109) (by decide +kernel)
theorem ev_it4 : Jvm.Cond.instantiable RX6 4 ∈ lw_tbl := List.mem_of_getElem? (i := 172) (by decide +kernel)
theorem ev_it5 : Jvm.Cond.instantiable RX8 2 ∈ lw_tbl := List.mem_of_getElem? (i := 71) (by decide +kernel)
theorem ev_it6 : Jvm.Cond.instantiable RX9 6 ∈ lw_tbl := List.mem_of_getElem? (i := 218) (by decide +kernel)
theorem ev_it7 : Jvm.Cond.instantiable RX10 5 ∈ lw_tbl := List.mem_of_getElem? (i := 85) (by decide +kernel)
theorem ev_it8 : Jvm.Cond.instantiable RX11 9 ∈ lw_tbl := List.mem_of_getElem? (i := 63) (by decide +kernel)
theorem ev_it9 : Jvm.Cond.instantiable RX12 33 ∈ lw_tbl := List.mem_of_getElem? (i := 851) (by decide +kernel)
theorem ev_strWords : ∀ q ∈ ev_strs, Jvm.Cond.stringRef q.1 q.2.1 q.2.2 ∈ lw_tbl := by
  have h : (ev_strs.zip [377, 434, 435, 436, 444, 445, 446, 447, 448, 449, 450, 451, 452, 480, 512, 513, 514, 515, 516, 517, 697, 698, 704, 705, 706, 707, 708, 709, 710, 711, 712, 716, 717, 719, 720, 721, 722, 723, 724, 725, 729, 730, 736, 737, 738, 739, 740, 741, 745, 746, 747, 1346, 1347, 1348, 1349, 1350, 1351, 1352, 1353, 1354, 1355, 1356, 1357, 1358, 1359, 1360, 1361, 1362, 1363, 1364, 1365, 1366, 1367, 1368, 1369, 1370, 1371, 1372, 1373, 1374, 1375, 1376, 1377, 1378, 1379, 1380, 1381, 1382, 1383, 1384, 1385, 1386, 1387, 1388, 1389, 1390, 1391, 1392, 1393, 1394, 1395, 1396, 1397, 1398, 1399, 1400, 1401, 1402, 1403, 1404]).all (fun z => decide (lw_tbl[z.2]? = some (Jvm.Cond.stringRef z.1.1 z.1.2.1 z.1.2.2))) = true := by decide +kernel
  intro q hq
  obtain ⟨i, hi⟩ := List.getElem?_of_mem hq
  have hl : i < ev_strs.length := (List.getElem?_eq_some_iff.mp hi).1
  obtain ⟨p, hp⟩ : ∃ p, ([377, 434, 435, 436, 444, 445, 446, 447, 448, 449, 450, 451, 452, 480, 512, 513, 514, 515, 516, 517, 697, 698, 704, 705, 706, 707, 708, 709, 710, 711, 712, 716, 717, 719, 720, 721, 722, 723, 724, 725, 729, 730, 736, 737, 738, 739, 740, 741, 745, 746, 747, 1346, 1347, 1348, 1349, 1350, 1351, 1352, 1353, 1354, 1355, 1356, 1357, 1358, 1359, 1360, 1361, 1362, 1363, 1364, 1365, 1366, 1367, 1368, 1369, 1370, 1371, 1372, 1373, 1374, 1375, 1376, 1377, 1378, 1379, 1380, 1381, 1382, 1383, 1384, 1385, 1386, 1387, 1388, 1389, 1390, 1391, 1392, 1393, 1394, 1395, 1396, 1397, 1398, 1399, 1400, 1401, 1402, 1403, 1404] : List Nat)[i]? = some p := ⟨_, List.getElem?_eq_getElem (by rw [show ([377, 434, 435, 436, 444, 445, 446, 447, 448, 449, 450, 451, 452, 480, 512, 513, 514, 515, 516, 517, 697, 698, 704, 705, 706, 707, 708, 709, 710, 711, 712, 716, 717, 719, 720, 721, 722, 723, 724, 725, 729, 730, 736, 737, 738, 739, 740, 741, 745, 746, 747, 1346, 1347, 1348, 1349, 1350, 1351, 1352, 1353, 1354, 1355, 1356, 1357, 1358, 1359, 1360, 1361, 1362, 1363, 1364, 1365, 1366, 1367, 1368, 1369, 1370, 1371, 1372, 1373, 1374, 1375, 1376, 1377, 1378, 1379, 1380, 1381, 1382, 1383, 1384, 1385, 1386, 1387, 1388, 1389, 1390, 1391, 1392, 1393, 1394, 1395, 1396, 1397, 1398, 1399, 1400, 1401, 1402, 1403, 1404] : List Nat).length = ev_strs.length from by decide +kernel]; exact hl)⟩
  have h1 := List.all_eq_true.mp h (q, p) (List.mem_of_getElem? (i := i) (List.getElem?_zip_eq_some.mpr ⟨hi, hp⟩))
  exact List.mem_of_getElem? (of_decide_eq_true h1)
end
section
/-! THE START, tied to the pure machine -/
section EVSTART
variable {s : State} {args : Array Value} {b L : Nat} {xs : Nat → Int32}
theorem ev_noA (a : Nat) (h : a < s.heap.size) : ¬ ev_B s.heap.size a := Nat.not_le.mpr h
theorem ev_exact {t : Term} {C : String} (h : (Cond.exactly t C).before args s = true) : ∃ a, t.eval args s none [] s = some (.ref a) ∧ va_O C a (ev_B s.heap.size) s s.heap := by
  obtain ⟨a, c, cA, kA, q1, q2, q3, q4, q5, q6, -⟩ := Cond.exactly_spec (args := args) (first := s) (o := none) (s := s) (idx := []) h
  exact ⟨a, q1, cA, q3, q5, by rw [q6]; exact q2, ev_noA a (Array.getElem?_eq_some_iff.mp q3).1⟩
theorem ev_str (hs : ∀ w ∈ ev_FL, w.before args s = true) {i : Nat} (hi : i < 110) : ∃ q : Nat × Nat, (ev_sT i).eval args s none [] s = some (.ref q.1) ∧ va_O "java/lang/String" q.1 (ev_B s.heap.size) s s.heap ∧ va_OF "java/lang/String" "coder" "B" (.int 0) q.1 (ev_B s.heap.size) s s.heap ∧
    va_OF "java/lang/String" "value" "[B" (.ref q.2) q.1 (ev_B s.heap.size) s s.heap ∧ va_T .byte q.2 (ev_txs.getD i []).length (fun j => .int ((ev_txs.getD i []).getD j 0)) (ev_B s.heap.size) s s.heap := by
  have hw : ∀ w ∈ ev_sW i, w.before args s = true := fun w h => hs w (ev_sM hi w h)
  obtain ⟨a, ha, hO⟩ := ev_exact (hw (.exactly (ev_sT i) "java/lang/String") (by simp [ev_sW]))
  have hlen : (ev_txs.getD i []).length < 2 ^ 31 := by
    have h1 : ∀ l ∈ ev_txs, l.length < 2 ^ 31 := by decide +kernel
    rw [List.getD_eq_getElem?_getD]
    cases hc : ev_txs[i]? with
    | none => simp
    | some l => exact h1 l (List.mem_of_getElem? hc)
  obtain ⟨t, ht, hT⟩ := va_Tof (f := fun j => .int ((ev_txs.getD i []).getD j 0)) (A := ev_B s.heap.size) hlen (hw (.arrayOf (ev_sV i) .byte) (by simp [ev_sW])) (va_eqt (hw (.eq (.length (ev_sV i)) (.int (Int32.ofNat (ev_txs.getD i []).length))) (by simp [ev_sW])))
    (fun j hj => va_eqt (hw (.eq (.elem (ev_sV i) (.int (Int32.ofNat j))) (.int ((ev_txs.getD i []).getD j 0))) (List.mem_append_right _ (List.mem_map.mpr ⟨j, List.mem_range.mpr hj, rfl⟩)))) ev_noA
  exact ⟨(a, t), ha, hO, vk_OFof ha (va_eqt (hw (.eq (.field (ev_sT i) "java/lang/String" "coder" "B") (.int 0)) (by simp [ev_sW]))) ev_noA, vk_OFof ha ht ev_noA, hT⟩
theorem ev_enu (hs : ∀ w ∈ ev_FL, w.before args s = true) {i : Nat} (hi : i < 54) : ∃ (a : Nat) (q : Int32 × Int32 × Nat × Nat), ev_ens[i]? = some q ∧ (ev_eT i).eval args s none [] s = some (.ref a) ∧ va_O "StemRules$Ending" a (ev_B s.heap.size) s s.heap ∧ va_OF "java/lang/Enum" "ordinal" "I" (.int (Int32.ofNat i)) a (ev_B s.heap.size) s s.heap ∧
    va_OF "StemRules$Ending" "stage" "I" (.int q.1) a (ev_B s.heap.size) s s.heap ∧ va_OF "StemRules$Ending" "need" "I" (.int q.2.1) a (ev_B s.heap.size) s s.heap ∧
    (∀ v, (ev_sT q.2.2.1).eval args s none [] s = some v → va_OF "StemRules$Ending" "has" "Ljava/lang/String;" v a (ev_B s.heap.size) s s.heap) ∧ (∀ v, (ev_sT q.2.2.2).eval args s none [] s = some v → va_OF "StemRules$Ending" "becomes" "Ljava/lang/String;" v a (ev_B s.heap.size) s s.heap) := by
  have hw : ∀ w ∈ ev_eW i, w.before args s = true := fun w h => hs w (ev_eM hi w h)
  obtain ⟨q, hq⟩ : ∃ q, ev_ens[i]? = some q := ⟨_, List.getElem?_eq_getElem (by rw [show ev_ens.length = 54 from by decide +kernel]; exact hi)⟩
  unfold ev_eW at hw
  rw [hq] at hw
  dsimp only at hw
  obtain ⟨a, ha, hO⟩ := ev_exact (hw (.exactly (ev_eT i) "StemRules$Ending") (by simp))
  exact ⟨a, q, hq, ha, hO, vk_OFof ha (va_eqt (hw (.eq (.field (ev_eT i) "java/lang/Enum" "ordinal" "I") (.int (Int32.ofNat i))) (by simp))) ev_noA,
    vk_OFof ha (va_eqt (hw (.eq (.field (ev_eT i) "StemRules$Ending" "stage" "I") (.int q.1)) (by simp))) ev_noA, vk_OFof ha (va_eqt (hw (.eq (.field (ev_eT i) "StemRules$Ending" "need" "I") (.int q.2.1)) (by simp))) ev_noA,
    fun v hv => vk_OFof ha (va_eqv (hw (.eq (.field (ev_eT i) "StemRules$Ending" "has" "Ljava/lang/String;") (ev_sT q.2.2.1)) (by simp)) hv) ev_noA, fun v hv => vk_OFof ha (va_eqv (hw (.eq (.field (ev_eT i) "StemRules$Ending" "becomes" "Ljava/lang/String;") (ev_sT q.2.2.2)) (by simp)) hv) ev_noA⟩
theorem ev_OF_inj {o n d : String} {v w : Value} {a : Nat} {A : Nat → Prop} {H : Heap} (h1 : va_OF o n d v a A s H) (h2 : va_OF o n d w a A s H) : v = w := by
  obtain ⟨cf, k, i, f, cell, e1, e2, e3, e4, e5, e6⟩ := h1
  obtain ⟨cf', k', i', f', cell', g1, g2, g3, g4, g5, g6⟩ := h2
  cases e1.symm.trans g1
  cases e3.symm.trans g3
  exact Option.some.inj (e5.symm.trans g5)
theorem ev_ens_ok : ∀ q ∈ ev_ens, q.2.2.1 < 110 ∧ q.2.2.2 < 110 := by decide +kernel
/-- the real values of the pure references -/
def ev_Vof (B : Nat) (aS aV aE : Nat → Nat) (aF aG b : Nat) (sio : Value) (x : Nat) : Value :=
  if x < 110 then .ref (aS x) else if 200 ≤ x ∧ x < 310 then .ref (aV (x - 200)) else if 400 ≤ x ∧ x < 454 then .ref (aE (x - 400)) else if x = 500 then .ref aF else if x = 501 then .ref aG else if x = 502 then .ref b else if x = 503 then sio else if 1000 ≤ x then .ref (B + (x - 1000)) else .null
set_option maxRecDepth 100000 in
set_option maxHeartbeats 4000000 in
theorem ev_start (hts : ∀ w ∈ lw_tbl, w.before #[Value.ref b] s = true) (hX : va_X b L xs s s.heap) (hbl : b < s.heap.size) (hL : L < 2 ^ 31) (hgv : (Jvm.Cond.and given_1 narrow_1).before #[Value.ref b] s = true) :
    ∃ (V : Nat → Value) (dC : Nat → ClassId) (dI : Nat → Nat → Nat) (dA : Nat → ClassId), ev_V V s.heap.size ∧ V 502 = .ref b ∧ ev_TB s ∧ va_K (dC, dI) vwCl (ev_tys dA) s ∧ ev_Old V s.heap.size s s.heap ∧
      ∀ σ : ev_M, σ.2.2.1 502 0 = Int32.ofNat L → (∀ j, j < L → σ.2.2.2 502 j = xs j) → ev_OA V s.heap.size σ s s.heap := by
  have hs : ∀ w ∈ ev_FL, w.before #[Value.ref b] s = true := flat_of_before _ hgv
  -- strings
  have h0 : ∀ i : Nat, ∃ q : Nat × Nat, i < 110 → (ev_sT i).eval #[Value.ref b] s none [] s = some (.ref q.1) ∧ va_O "java/lang/String" q.1 (ev_B s.heap.size) s s.heap ∧ va_OF "java/lang/String" "coder" "B" (.int 0) q.1 (ev_B s.heap.size) s s.heap ∧
      va_OF "java/lang/String" "value" "[B" (.ref q.2) q.1 (ev_B s.heap.size) s s.heap ∧ va_T .byte q.2 (ev_txs.getD i []).length (fun j => .int ((ev_txs.getD i []).getD j 0)) (ev_B s.heap.size) s s.heap := by
    intro i
    by_cases hi : i < 110
    · obtain ⟨q, h⟩ := ev_str hs hi
      exact ⟨q, fun _ => h⟩
    · exact ⟨(0, 0), fun h => absurd h hi⟩
  obtain ⟨ad, had⟩ := Classical.axiomOfChoice h0
  -- the enum
  have h1 : ∀ i : Nat, ∃ (a : Nat), i < 54 → ∃ q : Int32 × Int32 × Nat × Nat, ev_ens[i]? = some q ∧ (ev_eT i).eval #[Value.ref b] s none [] s = some (.ref a) ∧ va_O "StemRules$Ending" a (ev_B s.heap.size) s s.heap ∧ va_OF "java/lang/Enum" "ordinal" "I" (.int (Int32.ofNat i)) a (ev_B s.heap.size) s s.heap ∧
      va_OF "StemRules$Ending" "stage" "I" (.int q.1) a (ev_B s.heap.size) s s.heap ∧ va_OF "StemRules$Ending" "need" "I" (.int q.2.1) a (ev_B s.heap.size) s s.heap ∧
      (∀ v, (ev_sT q.2.2.1).eval #[Value.ref b] s none [] s = some v → va_OF "StemRules$Ending" "has" "Ljava/lang/String;" v a (ev_B s.heap.size) s s.heap) ∧ (∀ v, (ev_sT q.2.2.2).eval #[Value.ref b] s none [] s = some v → va_OF "StemRules$Ending" "becomes" "Ljava/lang/String;" v a (ev_B s.heap.size) s s.heap) := by
    intro i
    by_cases hi : i < 54
    · obtain ⟨a, q, h⟩ := ev_enu hs hi
      exact ⟨a, fun _ => ⟨q, h⟩⟩
    · exact ⟨0, fun h => absurd h hi⟩
  obtain ⟨aE, haE⟩ := Classical.axiomOfChoice h1
  -- the two static arrays, and the rest
  have hw : ∀ w ∈ ev_fW ++ ev_gW ++ ev_cW, w.before #[Value.ref b] s = true := fun w h => hs w (ev_fm_mem _ _ ev_fP w h)
  have hwf : ∀ w ∈ ev_fW, w.before #[Value.ref b] s = true := fun w h => hw w (List.mem_append_left _ (List.mem_append_left _ h))
  have hwg : ∀ w ∈ ev_gW, w.before #[Value.ref b] s = true := fun w h => hw w (List.mem_append_left _ (List.mem_append_right _ h))
  have hwc : ∀ w ∈ ev_cW, w.before #[Value.ref b] s = true := fun w h => hw w (List.mem_append_right _ h)
  obtain ⟨aF, hF, hFT⟩ := va_Tof (tm := ev_fT) (ty := .char) (N := 26) (f := fun j => .int (ev_figs.getD j 0)) (A := ev_B s.heap.size) (by decide) (hwf _ (by simp [ev_fW])) (va_eqt (hwf (.eq (.length ev_fT) (.int 26)) (by simp [ev_fW])))
    (fun j hj => va_eqt (hwf (.eq (.elem ev_fT (.int (Int32.ofNat j))) (.int (ev_figs.getD j 0))) (List.mem_append_right _ (List.mem_map.mpr ⟨j, List.mem_range.mpr hj, rfl⟩)))) ev_noA
  obtain ⟨aG, hG, hGT⟩ := va_Tof (tm := ev_gT) (ty := .object "StemRules$Ending") (N := 54) (f := fun j => .ref (aE j)) (A := ev_B s.heap.size) (by decide) (hwg _ (by simp [ev_gW])) (va_eqt (hwg (.eq (.length ev_gT) (.int 54)) (by simp [ev_gW])))
    (fun j hj => va_eqv (hwg (.eq (.elem ev_gT (.int (Int32.ofNat j))) (ev_eT j)) (List.mem_append_right _ (List.mem_map.mpr ⟨j, List.mem_range.mpr hj, rfl⟩))) (by obtain ⟨q, -, h, -⟩ := haE j hj; exact h)) ev_noA
  obtain ⟨sio, hsio, hsioZ⟩ : ∃ v : Value, (v = .null ∨ ∃ a, v = .ref a) ∧ va_Z "jdk/internal/util/Preconditions" "SIOOBE_FORMATTER" "Ljava/util/function/BiFunction;" v (ev_B s.heap.size) s s.heap := by
    rcases va_Zqof (hts _ ev_lySIOOBE) (hts _ ev_inP) (hwc _ (by simp [ev_cW])) ev_noA with h | ⟨t, h⟩
    · exact ⟨.null, Or.inl rfl, h⟩
    · exact ⟨.ref t, Or.inr ⟨t, rfl⟩, h⟩
  -- the classes
  obtain ⟨c0, i0, k0⟩ := u_known (C := RX0) (T := TX0) (N := 6) hts (fun w h => ((ev_cl (k := 0) rfl).1 w h).1) (hts _ ev_it0)
  obtain ⟨c1, i1, k1⟩ := u_known (C := RX1) (T := TX1) (N := 6) hts (fun w h => ((ev_cl (k := 1) rfl).1 w h).1) (hts _ ev_it1)
  obtain ⟨c2, i2, k2⟩ := u_known (C := RX3) (T := TX3) (N := 6) hts (fun w h => ((ev_cl (k := 2) rfl).1 w h).1) (hts _ ev_it2)
  obtain ⟨c3, i3, k3⟩ := u_known (C := RX5) (T := TX5) (N := 2) hts (fun w h => ((ev_cl (k := 3) rfl).1 w h).1) (hts _ ev_it3)
  obtain ⟨c4, i4, k4⟩ := u_known (C := RX6) (T := TX6) (N := 4) hts (fun w h => ((ev_cl (k := 4) rfl).1 w h).1) (hts _ ev_it4)
  obtain ⟨c5, i5, k5⟩ := u_known (C := RX8) (T := TX8) (N := 2) hts (fun w h => ((ev_cl (k := 5) rfl).1 w h).1) (hts _ ev_it5)
  obtain ⟨c6, i6, k6⟩ := u_known (C := RX9) (T := TX9) (N := 6) hts (fun w h => ((ev_cl (k := 6) rfl).1 w h).1) (hts _ ev_it6)
  obtain ⟨c7, i7, k7⟩ := u_known (C := RX10) (T := TX10) (N := 5) hts (fun w h => ((ev_cl (k := 7) rfl).1 w h).1) (hts _ ev_it7)
  obtain ⟨c8, i8, k8⟩ := u_known (C := RX11) (T := TX11) (N := 9) hts (fun w h => ((ev_cl (k := 8) rfl).1 w h).1) (hts _ ev_it8)
  obtain ⟨c9, i9, k9⟩ := u_known (C := RX12) (T := TX12) (N := 33) hts (fun w h => ((ev_cl (k := 9) rfl).1 w h).1) (hts _ ev_it9)
  have harr : ∀ ty, Jvm.Cond.arrayClass ty ∈ lw_tbl → ∃ cA : ClassId, ArrOfT s cA ty ∧ s.vm.findClass ("[" ++ ty.toString) = some cA := by
    intro ty h
    obtain ⟨cA, kA, comp, g1, g2, g3⟩ := Cond.arrayClass_spec (hts _ h)
    exact ⟨cA, fun n z => ⟨fun k h => (by cases h), kA, g2, comp, g3⟩, g1⟩
  obtain ⟨a0, ha0, hb0⟩ := harr _ ev_ar_int
  obtain ⟨a1, ha1, hb1⟩ := harr _ ev_ar_char
  obtain ⟨a2, ha2, hb2⟩ := harr _ ev_ar_boolean
  refine ⟨ev_Vof s.heap.size (fun i => (ad i).1) (fun i => (ad i).2) aE aF aG b sio, fun k => ([c0, c1, c2, c3, c4, c5, c6, c7, c8, c9] : List Nat).getD k 0, fun k => ([i0, i1, i2, i3, i4, i5, i6, i7, i8, i9] : List (Nat → Nat)).getD k (fun _ => 0), fun k => ([a0, a1, a2] : List Nat).getD k 0, ⟨?_, ?_, ?_, ?_⟩, by simp [ev_Vof], ?_, ⟨?_, ?_⟩, ⟨?_, ?_, ?_, ?_⟩, ?_⟩
  · intro x
    unfold ev_Vof
    repeat' split
    all_goals first | exact Or.inr ⟨_, rfl⟩ | exact hsio | exact Or.inl rfl
  · intro x hx
    unfold ev_Vof
    rw [if_neg (by omega), if_neg (by omega), if_neg (by omega), if_neg (by omega), if_neg (by omega), if_neg (by omega), if_neg (by omega), if_pos hx]
  · intro x hx hy
    unfold ev_Vof
    rw [if_neg (by omega), if_neg (by omega), if_pos ⟨hx, hy⟩]
    exact ⟨_, rfl⟩
  · intro x y hx hx' hy hy' h
    unfold ev_Vof at h
    rw [if_neg (by omega), if_neg (by omega), if_pos ⟨hx, hx'⟩, if_neg (by omega), if_neg (by omega), if_pos ⟨hy, hy'⟩] at h
    injection h with h
    obtain ⟨q, -, -, -, h2, -⟩ := haE (x - 400) (by omega)
    obtain ⟨q', -, -, -, h3, -⟩ := haE (y - 400) (by omega)
    rw [h] at h2
    have h4 := ev_OF_inj h2 h3
    injection h4 with h4
    have h5 := congrArg Int32.toNatClampNeg h4
    rw [Int32.toNatClampNeg_ofNat_of_lt (by omega), Int32.toNatClampNeg_ofNat_of_lt (by omega)] at h5
    omega
  · exact fun w hw hg A => ev_gw_warm (A := #[Value.ref b]) (State.WarmedH.refl s) hg (hts w hw) A
  · intro c q hq
    match c, hq with
    | 0, hq => cases hq; exact k0
    | 1, hq => cases hq; exact k1
    | 2, hq => cases hq; exact k2
    | 3, hq => cases hq; exact k3
    | 4, hq => cases hq; exact k4
    | 5, hq => cases hq; exact k5
    | 6, hq => cases hq; exact k6
    | 7, hq => cases hq; exact k7
    | 8, hq => cases hq; exact k8
    | 9, hq => cases hq; exact k9
    | c + 10, hq => simp [vwCl] at hq
  · intro k q hq
    match k, hq with
    | 0, hq => cases hq; exact ⟨ha0, hb0⟩
    | 1, hq => cases hq; exact ⟨ha1, hb1⟩
    | 2, hq => cases hq; exact ⟨ha2, hb2⟩
    | k + 3, hq => simp [ev_tys] at hq
  · intro q hq
    have hall : q ∈ ([("StemRules$Keys", "FIGURES", "[C", .ref 500), ("StemRules$Ending", "ED", "LStemRules$Ending;", .ref 405), ("StemRules$Ending", "ING", "LStemRules$Ending;", .ref 406), ("StemRules$Porter", "ENDINGS", "[LStemRules$Ending;", .ref 501), ("java/lang/String", "COMPACT_STRINGS", "Z", .int 1), ("jdk/internal/util/Preconditions", "SIOOBE_FORMATTER", "Ljava/util/function/BiFunction;", .ref 503)] : List (String × String × String × Value)) := hq
    simp only [List.mem_cons, List.not_mem_nil, or_false] at hall
    rcases hall with rfl | rfl | rfl | rfl | rfl | rfl
    · exact va_Zref (hts _ ev_lyFIGURES) (hts _ ev_inK) hF ev_noA
    · obtain ⟨q, -, h, -⟩ := haE 5 (by omega)
      exact va_Zref (hts _ ev_lyED) (hts _ ev_inE) h ev_noA
    · obtain ⟨q, -, h, -⟩ := haE 6 (by omega)
      exact va_Zref (hts _ ev_lyING) (hts _ ev_inE) h ev_noA
    · exact va_Zref (hts _ ev_lyENDINGS) (hts _ ev_inO) hG ev_noA
    · exact va_Zof (hts _ ev_lyCOMPACT) (hts _ ev_inS) (va_eqi (hwc _ (by simp [ev_cW]))) ev_noA
    · exact hsioZ
  · intro x n v hv
    unfold ev_of at hv
    split at hv
    · rename_i hx
      obtain ⟨g1, g2, g3, g4, g5⟩ := had x hx
      refine ⟨(ad x).1, by unfold ev_Vof; rw [if_pos hx], ?_⟩
      split at hv
      · rename_i hn
        cases hv
        subst hn
        have e1 : ev_av (ev_Vof s.heap.size (fun i => (ad i).1) (fun i => (ad i).2) aE aF aG b sio) (.ref (200 + x)) = .ref (ad x).2 := by
          rw [ev_av_ref]
          unfold ev_Vof
          rw [if_neg (by omega), if_pos (by omega), show 200 + x - 200 = x by omega]
        rw [e1]
        exact g4
      · split at hv
        · rename_i hn
          cases hv
          subst hn
          exact g3
        · cases hv
    · split at hv
      · rename_i hx
        obtain ⟨q, hq, g1, g2, g3, g4, g5, g6, g7⟩ := haE (x - 400) (by omega)
        rw [hq] at hv
        dsimp only at hv
        refine ⟨aE (x - 400), by unfold ev_Vof; rw [if_neg (by omega), if_neg (by omega), if_pos hx], ?_⟩
        have hok := ev_ens_ok q (List.mem_of_getElem? hq)
        have sref : ∀ i, i < 110 → ev_av (ev_Vof s.heap.size (fun i => (ad i).1) (fun i => (ad i).2) aE aF aG b sio) (.ref i) = .ref (ad i).1 := by
          intro i hi
          rw [ev_av_ref]
          unfold ev_Vof
          rw [if_pos hi]
        split at hv
        · rename_i hn
          cases hv
          subst hn
          exact g4
        · split at hv
          · rename_i hn
            cases hv
            subst hn
            exact g5
          · split at hv
            · rename_i hn
              cases hv
              subst hn
              rw [sref _ hok.1]
              exact g6 _ (had _ hok.1).1
            · split at hv
              · rename_i hn
                cases hv
                subst hn
                rw [sref _ hok.2]
                exact g7 _ (had _ hok.2).1
              · cases hv
      · cases hv
  · intro x hx
    exact ⟨(ad x).1, by unfold ev_Vof; rw [if_pos hx], (had x hx).2.1⟩
  · intro x q hq
    have hx : x < 110 := by
      have := (List.getElem?_eq_some_iff.mp hq).1
      rw [show ev_strs.length = 110 from by decide +kernel] at this
      exact this
    refine ⟨(ad x).1, by unfold ev_Vof; rw [if_pos hx], ?_⟩
    have h2 := (had x hx).1
    unfold ev_sT at h2
    rw [hq] at h2
    refine vk_R.of (A := #[Value.ref b]) ?_ ?_
    · exact hts _ (ev_strWords q (List.mem_of_getElem? hq))
    · exact h2
  · intro σ hσ1 hσ2 x q hq
    unfold ev_oa at hq
    split at hq
    · rename_i hx
      subst hx
      cases hq
      refine ⟨b, by simp [ev_Vof], ?_⟩
      obtain ⟨scr, g1, g2, g3, g4, g5⟩ := hX
      have hLn : (σ.2.2.1 502 0).toNatClampNeg = L := by rw [hσ1, Int32.toNatClampNeg_ofNat_of_lt hL]
      refine ⟨scr, g1, g2, g3, ?_, ?_, ?_, Nat.not_le.mpr hbl⟩
      · dsimp only
        rw [hLn, g4]
        exact Nat.le_refl _
      · dsimp only
        rw [hLn, g4]
      · intro j hj
        dsimp only at hj ⊢
        rw [hLn] at hj
        rw [g5 j hj]
        show _ = some (Value.int _)
        rw [hσ2 j hj]
    · split at hq
      · rename_i hx
        subst hx
        cases hq
        exact ⟨aF, by simp [ev_Vof], hFT⟩
      · split at hq
        · rename_i hx
          subst hx
          cases hq
          refine ⟨aG, by simp [ev_Vof], ?_⟩
          obtain ⟨cell, g1, g2, g3, g4, g5, g6, g7⟩ := hGT
          refine ⟨cell, g1, g2, g3, g4, g5, fun j hj => ?_, g7⟩
          rw [g6 j hj]
          dsimp only
          rw [ev_av_ref]
          unfold ev_Vof
          have hj : j < 54 := hj
          rw [if_neg (by omega), if_neg (by omega), if_pos (by omega), show 400 + j - 400 = j by omega]
        · split at hq
          · rename_i hx
            cases hq
            refine ⟨(ad (x - 200)).2, by unfold ev_Vof; rw [if_neg (by omega), if_pos hx], ?_⟩
            have g := (had (x - 200) (by omega)).2.2.2.2
            obtain ⟨cell, g1, g2, g3, g4, g5, g6, g7⟩ := g
            exact ⟨cell, g1, g2, g3, g4, g5, fun j hj => by rw [g6 j hj]; dsimp only; rw [ev_av_int], g7⟩
          · cases hq
end EVSTART
end
section
/-! THE PURE MACHINE, walked: ev_T says that it comes to an end with P -/
theorem ev_run_up : ∀ (n d m k : Nat) (ls : List (Option Value)) (st : List Value) (σ : ev_M) (r : Option Value × ev_M), ev_run n d m k ls st σ = some r → ∀ j, ev_run (n + j) d m k ls st σ = some r
  | 0, d, m, k, ls, st, σ, r, h, j => by simp [ev_run] at h
  | n + 1, d, m, k, ls, st, σ, r, h, j => by
    rw [show n + 1 + j = n + j + 1 by omega]
    simp only [ev_run] at h ⊢
    split at h
    · cases h
    · rename_i e he
      split at h
      · cases h
      · rename_i q hq
        exact ev_run_up n d m _ _ _ _ r h j
      · exact h
      · rename_i q hq
        cases d with
        | zero => cases h
        | succ d =>
          dsimp only at h ⊢
          split at h
          · cases h
          · rename_i w hw
            rw [ev_run_up n d q.1 0 _ [] σ w hw j]
            exact ev_run_up n (d + 1) m _ _ _ _ r h j
def ev_T (d m k : Nat) (ls : List (Option Value)) (st : List Value) (σ : ev_M) (P : Option Value → ev_M → Prop) : Prop := ∃ (n : Nat) (v : Option Value) (σ' : ev_M), ev_run n d m k ls st σ = some (v, σ') ∧ P v σ'
abbrev ev_Pi (K : Int32 → (Nat → Nat → Int32) → (Nat → Nat → Int32) → Prop) : Option Value → ev_M → Prop := fun v σ' => ∃ (z : Int32) (I A : Nat → Nat → Int32), v = some (.int z) ∧ σ' = (1057, 55, I, A) ∧ K z I A
abbrev ev_Pl (K : Int64 → (Nat → Nat → Int32) → (Nat → Nat → Int32) → Prop) : Option Value → ev_M → Prop := fun v σ' => ∃ (z : Int64) (I A : Nat → Nat → Int32), v = some (.long z) ∧ σ' = (1057, 55, I, A) ∧ K z I A
abbrev ev_Pr (K : Option Nat → (Nat → Nat → Int32) → (Nat → Nat → Int32) → Prop) : Option Value → ev_M → Prop := fun v σ' => ∃ (z : Option Nat) (I A : Nat → Nat → Int32), v = some (va_rf z) ∧ σ' = (1057, 55, I, A) ∧ K z I A
abbrev ev_Pv (K : (Nat → Nat → Int32) → (Nat → Nat → Int32) → Prop) : Option Value → ev_M → Prop := fun v σ' => ∃ (I A : Nat → Nat → Int32), v = none ∧ σ' = (1057, 55, I, A) ∧ K I A
abbrev ev_Bis (d m k : Nat) (ls : List (Option Value)) (st : List Value) (I A : Nat → Nat → Int32) (K : Int32 → (Nat → Nat → Int32) → (Nat → Nat → Int32) → Prop) : Prop := ev_T d m k ls st (1057, 55, I, A) (ev_Pi K)
abbrev ev_Bls (d m k : Nat) (ls : List (Option Value)) (st : List Value) (I A : Nat → Nat → Int32) (K : Int64 → (Nat → Nat → Int32) → (Nat → Nat → Int32) → Prop) : Prop := ev_T d m k ls st (1057, 55, I, A) (ev_Pl K)
abbrev ev_Brs (d m k : Nat) (ls : List (Option Value)) (st : List Value) (I A : Nat → Nat → Int32) (K : Option Nat → (Nat → Nat → Int32) → (Nat → Nat → Int32) → Prop) : Prop := ev_T d m k ls st (1057, 55, I, A) (ev_Pr K)
abbrev ev_Bvs (d m k : Nat) (ls : List (Option Value)) (st : List Value) (I A : Nat → Nat → Int32) (K : (Nat → Nat → Int32) → (Nat → Nat → Int32) → Prop) : Prop := ev_T d m k ls st (1057, 55, I, A) (ev_Pv K)
abbrev ev_Bi (d m k : Nat) (ls : List (Option Value)) (I A : Nat → Nat → Int32) (K : Int32 → (Nat → Nat → Int32) → (Nat → Nat → Int32) → Prop) : Prop := ev_T d m k ls [] (1057, 55, I, A) (ev_Pi K)
abbrev ev_Bl (d m k : Nat) (ls : List (Option Value)) (I A : Nat → Nat → Int32) (K : Int64 → (Nat → Nat → Int32) → (Nat → Nat → Int32) → Prop) : Prop := ev_T d m k ls [] (1057, 55, I, A) (ev_Pl K)
abbrev ev_Br (d m k : Nat) (ls : List (Option Value)) (I A : Nat → Nat → Int32) (K : Option Nat → (Nat → Nat → Int32) → (Nat → Nat → Int32) → Prop) : Prop := ev_T d m k ls [] (1057, 55, I, A) (ev_Pr K)
abbrev ev_Bv (d m k : Nat) (ls : List (Option Value)) (I A : Nat → Nat → Int32) (K : (Nat → Nat → Int32) → (Nat → Nat → Int32) → Prop) : Prop := ev_T d m k ls [] (1057, 55, I, A) (ev_Pv K)
def ev_isL (L : Nat) : Prop := L = 1008 ∨ L = 1010 ∨ L = 1028
abbrev ev_ushr (x y : Int32) : Int32 := (x.toUInt32 >>> (y.toUInt32 &&& Int32.toUInt32 31)).toInt32
abbrev ev_i2c (x : Int32) : Int32 := (x.toUInt32 % 65536).toInt32
abbrev ev_cp (A : Nat → Nat → Int32) (a b : Nat) (sp dp n : Int32) : Nat → Nat → Int32 := fun x j => if x = b then va_cpy (A a) (A b) sp.toNatClampNeg dp.toNatClampNeg n.toNatClampNeg j else A x j
abbrev ev_cpok (sp dp n : Int32) (na nb : Nat) : Prop := ¬ sp < 0 ∧ ¬ dp < 0 ∧ ¬ n < 0 ∧ sp.toNatClampNeg + n.toNatClampNeg ≤ na ∧ dp.toNatClampNeg + n.toNatClampNeg ≤ nb
def ev_adv : Nat → Nat → Nat → List (Option Value) → List Value → ev_M → Option (Nat × List (Option Value) × List Value × ev_M)
  | 0, _, k, ls, st, σ => some (k, ls, st, σ)
  | n + 1, m, k, ls, st, σ => match ev_at m k with
    | none => none
    | some e => match ev_step m k e ls st σ with
      | some (.inl q) => ev_adv n m q.1 q.2.1 q.2.2.1 q.2.2.2
      | _ => none
/-- calls on a text: of no argument, of one -/
theorem ev_scall0 {m k j m' : Nat} {ls : List (Option Value)} {r : List Value} {σ : ev_M} {x : Nat} (hx : x < 110) (hr : (decide (ev_cat r ≤ 8) && decide (ev_mt (m' % 100000) = ((ev_mt (m' % 100000)).1, 0, (ev_mt (m' % 100000)).2.2.1, 99)) && decide (1 ≤ (ev_mt (m' % 100000)).1)) = true) : ev_step m k (.invokevirtual j, 3, .ref m') ls (.ref x :: r) σ = some (.inr (.inr (m' % 100000, [.ref x], r))) := by
  simp only [Bool.and_eq_true, decide_eq_true_eq] at hr
  obtain ⟨⟨h1, h2⟩, h3⟩ := hr
  simp only [ev_step, ev_call]
  have e1 : (ev_mt (m' % 100000)).2.1 = 0 := by rw [h2]
  have e2 : (ev_mt (m' % 100000)).2.2.2 = 99 := by rw [h2]
  have hr : ev_recv σ x 99 = true := by
    unfold ev_recv
    rw [if_pos (by omega)]
    simp [hx]
  simp [e1, e2, h1, ev_ent, ev_nd, h3, hr]
theorem ev_scall1 {m k j m' : Nat} {ls : List (Option Value)} {r : List Value} {σ : ev_M} {x : Nat} {i : Int32} (hx : x < 110) (hr : (decide (ev_cat r ≤ 8) && decide (ev_mt (m' % 100000) = ((ev_mt (m' % 100000)).1, 1, (ev_mt (m' % 100000)).2.2.1, 99)) && decide (2 ≤ (ev_mt (m' % 100000)).1)) = true) : ev_step m k (.invokevirtual j, 3, .ref m') ls (.int i :: .ref x :: r) σ = some (.inr (.inr (m' % 100000, [.ref x, .int i], r))) := by
  simp only [Bool.and_eq_true, decide_eq_true_eq] at hr
  obtain ⟨⟨h1, h2⟩, h3⟩ := hr
  simp only [ev_step, ev_call]
  have e1 : (ev_mt (m' % 100000)).2.1 = 1 := by rw [h2]
  have e2 : (ev_mt (m' % 100000)).2.2.2 = 99 := by rw [h2]
  have hr : ev_recv σ x 99 = true := by
    unfold ev_recv
    rw [if_pos (by omega)]
    simp [hx]
  simp [e1, e2, h1, ev_ent, ev_nd, h3, hr]
section EVT
variable {d m k : Nat} {ls : List (Option Value)} {st r : List Value} {σ : ev_M} {P : Option Value → ev_M → Prop} {I A : Nat → Nat → Int32}
theorem ev_T.step {e : Instr × Nat × Value} {k' : Nat} {ls' : List (Option Value)} {st' : List Value} {σ' : ev_M} (he : ev_at m k = some e) (hs : ev_step m k e ls st σ = some (.inl (k', ls', st', σ'))) (h : ev_T d m k' ls' st' σ' P) : ev_T d m k ls st σ P := by
  obtain ⟨n, v, σ2, h1, h2⟩ := h
  refine ⟨n + 1, v, σ2, ?_, h2⟩
  simp only [ev_run, he, hs]
  exact h1
theorem ev_T.adv (n : Nat) {k' : Nat} {ls' : List (Option Value)} {st' : List Value} {σ' : ev_M} (hs : ev_adv n m k ls st σ = some (k', ls', st', σ')) (h : ev_T d m k' ls' st' σ' P) : ev_T d m k ls st σ P := by
  induction n generalizing k ls st σ with
  | zero =>
    simp only [ev_adv, Option.some.injEq, Prod.mk.injEq] at hs
    obtain ⟨rfl, rfl, rfl, rfl⟩ := hs
    exact h
  | succ n ih =>
    simp only [ev_adv] at hs
    split at hs
    · cases hs
    · rename_i e he
      split at hs
      · rename_i q hq
        exact ev_T.step he hq (ih hs)
      · cases hs
theorem ev_set_ok {l : List (Option Value)} {i : Nat} {v : Value} (h1 : i < l.length) (h2 : i = 0 ∨ ev_two l[i - 1]? = false) : ev_set l i v = some (l.set i (some v)) := by
  unfold ev_set
  rw [if_pos ⟨h1, h2⟩]
theorem ev_T.ist1 {n : Fin 4} {len : Nat} {lk : Value} {x : Int32} {ls' : List (Option Value)} (he : ev_at m k = some (.istore_n n, len, lk)) (hs : ev_set ls n (.int x) = some ls') (h : ev_T d m (k + len) ls' r σ P) : ev_T d m k ls (.int x :: r) σ P :=
  ev_T.step he (by simp only [ev_step, ev_i, hs]; rfl) h
theorem ev_T.ist2 {n len : Nat} {lk : Value} {x : Int32} {ls' : List (Option Value)} (he : ev_at m k = some (.istore n, len, lk)) (hs : ev_set ls n (.int x) = some ls') (h : ev_T d m (k + len) ls' r σ P) : ev_T d m k ls (.int x :: r) σ P :=
  ev_T.step he (by simp only [ev_step, ev_i, hs]; rfl) h
theorem ev_T.iin {n len : Nat} {c : Int} {lk : Value} {x : Int32} {ls' : List (Option Value)} (he : ev_at m k = some (.iinc n c, len, lk)) (hx : ls[n]? = some (some (.int x))) (hs : ev_set ls n (.int (x + Int32.ofInt c)) = some ls') (h : ev_T d m (k + len) ls' r σ P) : ev_T d m k ls r σ P :=
  ev_T.step he (by simp only [ev_step, hx, hs]; rfl) h
theorem ev_T.rets {e : Instr × Nat × Value} {v : Option Value} (he : ev_at m k = some e) (hs : ev_step m k e ls st σ = some (.inr (.inl (v, σ)))) (h : P v σ) : ev_T d m k ls st σ P :=
  ⟨1, v, σ, by simp only [ev_run, he, hs], h⟩
theorem ev_T.calls {e : Instr × Nat × Value} {m' : Nat} {as : List Value} {P' : Option Value → ev_M → Prop} (he : ev_at m k = some e) (hs : ev_step m k e ls st σ = some (.inr (.inr (m', as, r)))) (h : ev_T d m' 0 (ev_entry m' as) [] σ P')
    (kk : ∀ v σ', P' v σ' → ev_T (d + 1) m (k + e.2.1) ls (v.toList ++ r) σ' P) : ev_T (d + 1) m k ls st σ P := by
  obtain ⟨n, v, σ', h1, h2⟩ := h
  obtain ⟨n2, v2, σ2, h3, h4⟩ := kk v σ' h2
  refine ⟨n + n2 + 1, v2, σ2, ?_, h4⟩
  simp only [ev_run, he, hs, ev_run_up n d m' 0 _ [] σ _ h1 n2]
  rw [Nat.add_comm]
  exact ev_run_up n2 (d + 1) m _ _ _ _ _ h3 n
theorem ev_T.calli {e : Instr × Nat × Value} {m' : Nat} {as : List Value} {ls0 : List (Option Value)} {K' : Int32 → (Nat → Nat → Int32) → (Nat → Nat → Int32) → Prop} (he : ev_at m k = some e) (hs : ev_step m k e ls st (1057, 55, I, A) = some (.inr (.inr (m', as, r)))) (hl : ev_entry m' as = ls0) (h : ev_Bi d m' 0 ls0 I A K')
    (kk : ∀ z I' A', K' z I' A' → ev_T (d + 1) m (k + e.2.1) ls (.int z :: r) (1057, 55, I', A') P) : ev_T (d + 1) m k ls st (1057, 55, I, A) P := by
  subst hl
  refine ev_T.calls he hs h ?_
  rintro v σ' ⟨z, I', A', rfl, rfl, h5⟩
  exact kk z I' A' h5
theorem ev_T.calll {e : Instr × Nat × Value} {m' : Nat} {as : List Value} {ls0 : List (Option Value)} {K' : Int64 → (Nat → Nat → Int32) → (Nat → Nat → Int32) → Prop} (he : ev_at m k = some e) (hs : ev_step m k e ls st (1057, 55, I, A) = some (.inr (.inr (m', as, r)))) (hl : ev_entry m' as = ls0) (h : ev_Bl d m' 0 ls0 I A K')
    (kk : ∀ z I' A', K' z I' A' → ev_T (d + 1) m (k + e.2.1) ls (.long z :: r) (1057, 55, I', A') P) : ev_T (d + 1) m k ls st (1057, 55, I, A) P := by
  subst hl
  refine ev_T.calls he hs h ?_
  rintro v σ' ⟨z, I', A', rfl, rfl, h5⟩
  exact kk z I' A' h5
theorem ev_T.callr {e : Instr × Nat × Value} {m' : Nat} {as : List Value} {ls0 : List (Option Value)} {K' : Option Nat → (Nat → Nat → Int32) → (Nat → Nat → Int32) → Prop} (he : ev_at m k = some e) (hs : ev_step m k e ls st (1057, 55, I, A) = some (.inr (.inr (m', as, r)))) (hl : ev_entry m' as = ls0) (h : ev_Br d m' 0 ls0 I A K')
    (kk : ∀ z I' A', K' z I' A' → ev_T (d + 1) m (k + e.2.1) ls (va_rf z :: r) (1057, 55, I', A') P) : ev_T (d + 1) m k ls st (1057, 55, I, A) P := by
  subst hl
  refine ev_T.calls he hs h ?_
  rintro v σ' ⟨z, I', A', rfl, rfl, h5⟩
  exact kk z I' A' h5
theorem ev_T.callv {e : Instr × Nat × Value} {m' : Nat} {as : List Value} {ls0 : List (Option Value)} {K' : (Nat → Nat → Int32) → (Nat → Nat → Int32) → Prop} (he : ev_at m k = some e) (hs : ev_step m k e ls st (1057, 55, I, A) = some (.inr (.inr (m', as, r)))) (hl : ev_entry m' as = ls0) (h : ev_Bv d m' 0 ls0 I A K')
    (kk : ∀ I' A', K' I' A' → ev_T (d + 1) m (k + e.2.1) ls r (1057, 55, I', A') P) : ev_T (d + 1) m k ls st (1057, 55, I, A) P := by
  subst hl
  refine ev_T.calls he hs h ?_
  rintro v σ' ⟨I', A', rfl, rfl, h5⟩
  exact kk I' A' h5
theorem ev_T.reti {lk : Value} {x : Int32} {K : Int32 → (Nat → Nat → Int32) → (Nat → Nat → Int32) → Prop} (he : ev_at m k = some (.ireturn, 1, lk)) (hr : (ev_mt m).2.2.1 = 1) (h : K x I A) : ev_T d m k ls [.int x] (1057, 55, I, A) (ev_Pi K) :=
  ev_T.rets he (by simp [ev_step, hr, ev_fit]) ⟨x, I, A, rfl, rfl, h⟩
theorem ev_T.retz {lk : Value} {x : Int32} {t : Nat} {K : Int32 → (Nat → Nat → Int32) → (Nat → Nat → Int32) → Prop} (he : ev_at m k = some (.ireturn, 1, lk)) (hr : (ev_mt m).2.2.1 = t) (hf : ev_fit t x = true) (h : K x I A) : ev_T d m k ls [.int x] (1057, 55, I, A) (ev_Pi K) :=
  ev_T.rets he (by simp [ev_step, hr, hf]) ⟨x, I, A, rfl, rfl, h⟩
theorem ev_T.retl {lk : Value} {x : Int64} {K : Int64 → (Nat → Nat → Int32) → (Nat → Nat → Int32) → Prop} (he : ev_at m k = some (.lreturn, 1, lk)) (hr : (ev_mt m).2.2.1 = 5) (h : K x I A) : ev_T d m k ls [.long x] (1057, 55, I, A) (ev_Pl K) :=
  ev_T.rets he (by simp [ev_step, hr]) ⟨x, I, A, rfl, rfl, h⟩
theorem ev_T.retr {lk : Value} {x : Option Nat} {K : Option Nat → (Nat → Nat → Int32) → (Nat → Nat → Int32) → Prop} (he : ev_at m k = some (.areturn, 1, lk)) (hr : (ev_mt m).2.2.1 = 4) (h : K x I A) : ev_T d m k ls [va_rf x] (1057, 55, I, A) (ev_Pr K) := by
  refine ev_T.rets he (v := some (va_rf x)) ?_ ⟨x, I, A, rfl, rfl, h⟩
  cases x <;> simp [ev_step, hr, va_rf]
theorem ev_T.retv {lk : Value} {K : (Nat → Nat → Int32) → (Nat → Nat → Int32) → Prop} (he : ev_at m k = some (.return_, 1, lk)) (hr : (ev_mt m).2.2.1 = 0) (h : K I A) : ev_T d m k ls [] (1057, 55, I, A) (ev_Pv K) :=
  ev_T.rets he (by simp [ev_step, hr]) ⟨I, A, rfl, rfl, h⟩
theorem ev_T.icmp {o : Int} {len t : Nat} {q : Jvm.ClassFile.Cond} {x y : Int32} (he : ev_at m k = some (.if_icmp q o, len, .ref t)) (h : ev_T d m (if ev_holds q x y = true then t else k + len) ls r σ P) : ev_T d m k ls (.int y :: .int x :: r) σ P :=
  ev_T.step he rfl h
theorem ev_T.ifc {o : Int} {len t : Nat} {q : Jvm.ClassFile.Cond} {x : Int32} (he : ev_at m k = some (.ifCond q o, len, .ref t)) (h : ev_T d m (if ev_holds q x 0 = true then t else k + len) ls r σ P) : ev_T d m k ls (.int x :: r) σ P :=
  ev_T.step he rfl h
theorem ev_T.icmp_eq {o : Int} {len t : Nat} {x y : Int32} (he : ev_at m k = some (.if_icmp .eq o, len, .ref t)) (h1 : x = y → ev_T d m t ls r σ P) (h2 : ¬ x = y → ev_T d m (k + len) ls r σ P) : ev_T d m k ls (.int y :: .int x :: r) σ P := by
  refine ev_T.icmp he ?_
  by_cases c : x = y
  · rw [if_pos (by simp [ev_holds, c])]; exact h1 c
  · rw [if_neg (by simp [ev_holds, c])]; exact h2 c
theorem ev_T.icmp_ne {o : Int} {len t : Nat} {x y : Int32} (he : ev_at m k = some (.if_icmp .ne o, len, .ref t)) (h1 : x = y → ev_T d m (k + len) ls r σ P) (h2 : ¬ x = y → ev_T d m t ls r σ P) : ev_T d m k ls (.int y :: .int x :: r) σ P := by
  refine ev_T.icmp he ?_
  by_cases c : x = y
  · rw [if_neg (by simp [ev_holds, c])]; exact h1 c
  · rw [if_pos (by simp [ev_holds, c])]; exact h2 c
theorem ev_T.icmp_lt {o : Int} {len t : Nat} {x y : Int32} (he : ev_at m k = some (.if_icmp .lt o, len, .ref t)) (h1 : x < y → ev_T d m t ls r σ P) (h2 : ¬ x < y → ev_T d m (k + len) ls r σ P) : ev_T d m k ls (.int y :: .int x :: r) σ P := by
  refine ev_T.icmp he ?_
  by_cases c : x < y
  · simp only [ev_holds, decide_eq_true_eq]; rw [if_pos c]; exact h1 c
  · simp only [ev_holds, decide_eq_true_eq]; rw [if_neg c]; exact h2 c
theorem ev_T.icmp_ge {o : Int} {len t : Nat} {x y : Int32} (he : ev_at m k = some (.if_icmp .ge o, len, .ref t)) (h1 : y ≤ x → ev_T d m t ls r σ P) (h2 : ¬ y ≤ x → ev_T d m (k + len) ls r σ P) : ev_T d m k ls (.int y :: .int x :: r) σ P := by
  refine ev_T.icmp he ?_
  by_cases c : y ≤ x
  · simp only [ev_holds, decide_eq_true_eq]; rw [if_pos c]; exact h1 c
  · simp only [ev_holds, decide_eq_true_eq]; rw [if_neg c]; exact h2 c
theorem ev_T.icmp_gt {o : Int} {len t : Nat} {x y : Int32} (he : ev_at m k = some (.if_icmp .gt o, len, .ref t)) (h1 : y < x → ev_T d m t ls r σ P) (h2 : ¬ y < x → ev_T d m (k + len) ls r σ P) : ev_T d m k ls (.int y :: .int x :: r) σ P := by
  refine ev_T.icmp he ?_
  by_cases c : y < x
  · simp only [ev_holds, decide_eq_true_eq]; rw [if_pos c]; exact h1 c
  · simp only [ev_holds, decide_eq_true_eq]; rw [if_neg c]; exact h2 c
theorem ev_T.icmp_le {o : Int} {len t : Nat} {x y : Int32} (he : ev_at m k = some (.if_icmp .le o, len, .ref t)) (h1 : x ≤ y → ev_T d m t ls r σ P) (h2 : ¬ x ≤ y → ev_T d m (k + len) ls r σ P) : ev_T d m k ls (.int y :: .int x :: r) σ P := by
  refine ev_T.icmp he ?_
  by_cases c : x ≤ y
  · simp only [ev_holds, decide_eq_true_eq]; rw [if_pos c]; exact h1 c
  · simp only [ev_holds, decide_eq_true_eq]; rw [if_neg c]; exact h2 c
theorem ev_T.if_eq {o : Int} {len t : Nat} {x : Int32} (he : ev_at m k = some (.ifCond .eq o, len, .ref t)) (h1 : x = 0 → ev_T d m t ls r σ P) (h2 : ¬ x = 0 → ev_T d m (k + len) ls r σ P) : ev_T d m k ls (.int x :: r) σ P := by
  refine ev_T.ifc he ?_
  by_cases c : x = 0
  · rw [if_pos (by simp [ev_holds, c])]; exact h1 c
  · rw [if_neg (by simp [ev_holds, c])]; exact h2 c
theorem ev_T.if_ne {o : Int} {len t : Nat} {x : Int32} (he : ev_at m k = some (.ifCond .ne o, len, .ref t)) (h1 : x = 0 → ev_T d m (k + len) ls r σ P) (h2 : ¬ x = 0 → ev_T d m t ls r σ P) : ev_T d m k ls (.int x :: r) σ P := by
  refine ev_T.ifc he ?_
  by_cases c : x = 0
  · rw [if_neg (by simp [ev_holds, c])]; exact h1 c
  · rw [if_pos (by simp [ev_holds, c])]; exact h2 c
theorem ev_T.if_lt {o : Int} {len t : Nat} {x : Int32} (he : ev_at m k = some (.ifCond .lt o, len, .ref t)) (h1 : x < 0 → ev_T d m t ls r σ P) (h2 : ¬ x < 0 → ev_T d m (k + len) ls r σ P) : ev_T d m k ls (.int x :: r) σ P := by
  refine ev_T.ifc he ?_
  by_cases c : x < 0
  · simp only [ev_holds, decide_eq_true_eq]; rw [if_pos c]; exact h1 c
  · simp only [ev_holds, decide_eq_true_eq]; rw [if_neg c]; exact h2 c
theorem ev_T.if_ge {o : Int} {len t : Nat} {x : Int32} (he : ev_at m k = some (.ifCond .ge o, len, .ref t)) (h1 : 0 ≤ x → ev_T d m t ls r σ P) (h2 : ¬ 0 ≤ x → ev_T d m (k + len) ls r σ P) : ev_T d m k ls (.int x :: r) σ P := by
  refine ev_T.ifc he ?_
  by_cases c : 0 ≤ x
  · simp only [ev_holds, decide_eq_true_eq]; rw [if_pos c]; exact h1 c
  · simp only [ev_holds, decide_eq_true_eq]; rw [if_neg c]; exact h2 c
theorem ev_T.if_gt {o : Int} {len t : Nat} {x : Int32} (he : ev_at m k = some (.ifCond .gt o, len, .ref t)) (h1 : 0 < x → ev_T d m t ls r σ P) (h2 : ¬ 0 < x → ev_T d m (k + len) ls r σ P) : ev_T d m k ls (.int x :: r) σ P := by
  refine ev_T.ifc he ?_
  by_cases c : 0 < x
  · simp only [ev_holds, decide_eq_true_eq]; rw [if_pos c]; exact h1 c
  · simp only [ev_holds, decide_eq_true_eq]; rw [if_neg c]; exact h2 c
theorem ev_T.if_le {o : Int} {len t : Nat} {x : Int32} (he : ev_at m k = some (.ifCond .le o, len, .ref t)) (h1 : x ≤ 0 → ev_T d m t ls r σ P) (h2 : ¬ x ≤ 0 → ev_T d m (k + len) ls r σ P) : ev_T d m k ls (.int x :: r) σ P := by
  refine ev_T.ifc he ?_
  by_cases c : x ≤ 0
  · simp only [ev_holds, decide_eq_true_eq]; rw [if_pos c]; exact h1 c
  · simp only [ev_holds, decide_eq_true_eq]; rw [if_neg c]; exact h2 c
theorem ev_ald_in {t a n : Nat} {i : Int32} {f : Value → Option ev_O} (hin : vp_in i n) (hl : ev_len σ a = some (t, n)) : ev_ald σ t a i f = f (ev_get σ a i.toNatClampNeg) := by
  unfold ev_ald
  rw [hl]
  dsimp only
  rw [if_pos rfl, if_neg hin]
theorem ev_T.iald {lk : Value} {a n : Nat} {i : Int32} {v : Value} (he : ev_at m k = some (.iaload, 1, lk)) (hin : vp_in i n) (hl : ev_len σ a = some (0, n)) (hv : ev_get σ a i.toNatClampNeg = v) (h : ev_T d m (k + 1) ls (v :: r) σ P) : ev_T d m k ls (.int i :: .ref a :: r) σ P :=
  ev_T.step he (by simp only [ev_step, ev_ri, ev_ald_in hin hl, hv]; rfl) h
theorem ev_T.cald {lk : Value} {a n : Nat} {i : Int32} {v : Value} (he : ev_at m k = some (.caload, 1, lk)) (hin : vp_in i n) (hl : ev_len σ a = some (1, n)) (hv : ev_get σ a i.toNatClampNeg = v) (h : ev_T d m (k + 1) ls (v :: r) σ P) : ev_T d m k ls (.int i :: .ref a :: r) σ P :=
  ev_T.step he (by simp only [ev_step, ev_ri, ev_ald_in hin hl, hv]; rfl) h
theorem ev_T.zald {lk : Value} {a n : Nat} {i : Int32} {v : Value} (he : ev_at m k = some (.baload, 1, lk)) (hin : vp_in i n) (hl : ev_len σ a = some (if a < 1000 then 3 else 2, n)) (hv : ev_get σ a i.toNatClampNeg = v) (h : ev_T d m (k + 1) ls (v :: r) σ P) : ev_T d m k ls (.int i :: .ref a :: r) σ P :=
  ev_T.step he (by simp only [ev_step, ev_ri, ev_ald_in hin hl, hv]; rfl) h
theorem ev_T.aald {lk : Value} {a n : Nat} {i : Int32} {v : Value} (he : ev_at m k = some (.aaload, 1, lk)) (hin : vp_in i n) (hl : ev_len σ a = some (4, n)) (hv : ev_get σ a i.toNatClampNeg = v) (h : ev_T d m (k + 1) ls (v :: r) σ P) : ev_T d m k ls (.int i :: .ref a :: r) σ P :=
  ev_T.step he (by simp only [ev_step, ev_ri, ev_ald_in hin hl, hv]; rfl) h
theorem ev_ast_in {t a n : Nat} {i v : Int32} {f : ev_M → Option ev_O} (ha : ¬ a < 1000) (hin : vp_in i n) (hl : ev_len σ a = some (t, n)) : ev_ast σ t a i v f = f (σ.1, σ.2.1, σ.2.2.1, ev_upd σ.2.2.2 a i.toNatClampNeg v) := by
  unfold ev_ast
  rw [if_neg ha, hl]
  dsimp only
  rw [if_pos rfl, if_neg hin]
theorem ev_T.iast {lk : Value} {a n : Nat} {i v : Int32} (he : ev_at m k = some (.iastore, 1, lk)) (hin : vp_in i n) (ha : ¬ a < 1000) (hl : ev_len (1057, 55, I, A) a = some (0, n)) (h : ev_T d m (k + 1) ls r (1057, 55, I, ev_upd A a i.toNatClampNeg v) P) : ev_T d m k ls (.int v :: .int i :: .ref a :: r) (1057, 55, I, A) P :=
  ev_T.step he (by simp only [ev_step, ev_rii, ev_ast_in ha hin hl]; rfl) h
theorem ev_T.cast {lk : Value} {a n : Nat} {i v : Int32} (he : ev_at m k = some (.castore, 1, lk)) (hin : vp_in i n) (ha : ¬ a < 1000) (hl : ev_len (1057, 55, I, A) a = some (1, n)) (h : ev_T d m (k + 1) ls r (1057, 55, I, ev_upd A a i.toNatClampNeg (vp_nar .char v)) P) : ev_T d m k ls (.int v :: .int i :: .ref a :: r) (1057, 55, I, A) P :=
  ev_T.step he (by simp only [ev_step, ev_rii, ev_ast_in ha hin hl]; rfl) h
theorem ev_T.zast {lk : Value} {a n : Nat} {i v : Int32} (he : ev_at m k = some (.bastore, 1, lk)) (hin : vp_in i n) (ha : ¬ a < 1000) (hl : ev_len (1057, 55, I, A) a = some (2, n)) (h : ev_T d m (k + 1) ls r (1057, 55, I, ev_upd A a i.toNatClampNeg (vp_nar .boolean v)) P) : ev_T d m k ls (.int v :: .int i :: .ref a :: r) (1057, 55, I, A) P :=
  ev_T.step he (by simp only [ev_step, ev_rii, ev_ast_in ha hin hl]; rfl) h
theorem ev_T.getf {j len x n : Nat} {v : Value} (he : ev_at m k = some (.getfield j, len, .ref n)) (hg : ev_getf σ x (n % 100000) = some v) (h : ev_T d m (k + len) ls (v :: r) σ P) : ev_T d m k ls (.ref x :: r) σ P :=
  ev_T.step he (by simp only [ev_step, ev_r, hg]; rfl) h
theorem ev_T.geto {j len x n : Nat} {v : Value} (he : ev_at m k = some (.getfield j, len, .ref n)) (hx : x < 1000) (hg : ev_of x (n % 100000) = some v) (h : ev_T d m (k + len) ls (v :: r) σ P) : ev_T d m k ls (.ref x :: r) σ P :=
  ev_T.getf he (by unfold ev_getf; rw [if_pos hx]; exact hg) h
theorem ev_T.ifnull_r {o : Int} {len t x : Nat} (he : ev_at m k = some (.ifnull o, len, .ref t)) (hx : 400 ≤ x ∧ x < 454) (h : ev_T d m (k + len) ls r σ P) : ev_T d m k ls (.ref x :: r) σ P :=
  ev_T.step he (by simp only [ev_step, ev_q, ev_tg, hx, and_self, if_true]; rfl) h
theorem ev_T.ifnonnull_r {o : Int} {len t x : Nat} (he : ev_at m k = some (.ifnonnull o, len, .ref t)) (hx : 400 ≤ x ∧ x < 454) (h : ev_T d m t ls r σ P) : ev_T d m k ls (.ref x :: r) σ P :=
  ev_T.step he (by simp only [ev_step, ev_q, ev_tg, hx, and_self, if_true]; rfl) h
theorem ev_T.acmp_eq {o : Int} {len t x y : Nat} (he : ev_at m k = some (.if_acmp .eq o, len, .ref t)) (hx : 400 ≤ x ∧ x < 454) (hy : 400 ≤ y ∧ y < 454) (h1 : x = y → ev_T d m t ls r σ P) (h2 : ¬ x = y → ev_T d m (k + len) ls r σ P) : ev_T d m k ls (.ref y :: .ref x :: r) σ P := by
  by_cases c : x = y
  · subst c
    exact ev_T.step he (by simp [ev_step, ev_q, ev_tg, hx]; rfl) (h1 rfl)
  · exact ev_T.step he (by simp [ev_step, ev_q, ev_tg, hx, hy, c]; rfl) (h2 c)
theorem ev_T.acmp_ne {o : Int} {len t x y : Nat} (he : ev_at m k = some (.if_acmp .ne o, len, .ref t)) (hx : 400 ≤ x ∧ x < 454) (hy : 400 ≤ y ∧ y < 454) (h1 : x = y → ev_T d m (k + len) ls r σ P) (h2 : ¬ x = y → ev_T d m t ls r σ P) : ev_T d m k ls (.ref y :: .ref x :: r) σ P := by
  by_cases c : x = y
  · subst c
    exact ev_T.step he (by simp [ev_step, ev_q, ev_tg, hx]; rfl) (h1 rfl)
  · exact ev_T.step he (by simp [ev_step, ev_q, ev_tg, hx, hy, c]; rfl) (h2 c)
theorem ev_T.swd {dd lo hi : Int} {offs : Array Int} {len : Nat} {lk : Value} {x : Int32} {t : Nat} (he : ev_at m k = some (.tableswitch dd lo hi offs, len, lk)) (hd : x.toInt < lo ∨ hi < x.toInt) (ht : (if 0 ≤ (k : Int) + dd then some ((k : Int) + dd).toNat else none) = some t) (h : ev_T d m t ls r σ P) : ev_T d m k ls (.int x :: r) σ P :=
  ev_T.step he (by simp only [ev_step, ev_i, ev_sw, if_pos hd, ht]; rfl) h
theorem ev_T.cpy {j len a b na nb : Nat} {sp dp n : Int32} (he : ev_at m k = some (.invokestatic j, len, .null)) (hcat : ev_cat r ≤ 8) (ha : ¬ a < 1000) (hb : ¬ b < 1000) (hla : ev_len (1057, 55, I, A) a = some (0, na)) (hlb : ev_len (1057, 55, I, A) b = some (0, nb)) (hc : ev_cpok sp dp n na nb)
    (h : ev_T d m (k + len) ls r (1057, 55, I, ev_cp A a b sp dp n) P) : ev_T d m k ls (.int n :: .int dp :: .ref b :: .int sp :: .ref a :: r) (1057, 55, I, A) P := by
  refine ev_T.step he ?_ h
  obtain ⟨h1, h2, h3, h4, h5⟩ := hc
  simp only [ev_step, if_true, ev_copy, hla, hlb]
  rw [if_neg (fun q => q.elim ha (fun q => q.elim hb (fun q => absurd q (Nat.not_lt.mpr hcat)))), if_neg]
  · rfl
  · rintro (q | q | q | q | q)
    · exact h1 q
    · exact h2 q
    · exact h3 q
    · omega
    · omega
end EVT
end
section
/-! StemRules$Letters.size()I -/
set_option maxRecDepth 100000 in
theorem t_L_size_0 {d : Nat} {I A : Nat → Nat → Int32} {K : Int32 → (Nat → Nat → Int32) → (Nat → Nat → Int32) → Prop} {L : Nat} (hLL : ev_isL L)   
    (h : K (I L 1) I A) :
    ev_Bi d 30 0 [some (.ref L)] I A K :=
  by
    rcases hLL with rfl | rfl | rfl
    · exact ev_T.adv (k' := 4) (ls' := [some (.ref 1008)]) (st' := [.int (I 1008 1)]) (σ' := (1057, 55, I, A)) 2 rfl (ev_T.reti rfl rfl h)
    · exact ev_T.adv (k' := 4) (ls' := [some (.ref 1010)]) (st' := [.int (I 1010 1)]) (σ' := (1057, 55, I, A)) 2 rfl (ev_T.reti rfl rfl h)
    · exact ev_T.adv (k' := 4) (ls' := [some (.ref 1028)]) (st' := [.int (I 1028 1)]) (σ' := (1057, 55, I, A)) 2 rfl (ev_T.reti rfl rfl h)

/-! StemRules$Letters.at(I)C -/
set_option maxRecDepth 100000 in
theorem t_L_at_0 {d : Nat} {I A : Nat → Nat → Int32} {K : Int32 → (Nat → Nat → Int32) → (Nat → Nat → Int32) → Prop} {L : Nat} (hLL : ev_isL L) (x1 : Int32)  
    (h : ((x1 < 0 → K 0 I A) ∧ (¬ x1 < 0 → (((I L 1) ≤ x1 → K 0 I A) ∧ (¬ (I L 1) ≤ x1 → (vp_in x1 24 ∧ (ev_fit 3 (A (L + 1) (x1 : Int32).toNatClampNeg) = true ∧ K (A (L + 1) (x1 : Int32).toNatClampNeg) I A))))))) :
    ev_Bi d 31 0 [some (.ref L), some (.int x1)] I A K :=
  by
    rcases hLL with rfl | rfl | rfl
    · exact ev_T.adv (k' := 1) (ls' := [some (.ref 1008), some (.int x1)]) (st' := [.int x1]) (σ' := (1057, 55, I, A)) 1 rfl (ev_T.if_lt rfl (fun c2 => ev_T.adv (k' := 22) (ls' := [some (.ref 1008), some (.int x1)]) (st' := [.int 0]) (σ' := (1057, 55, I, A)) 1 rfl (ev_T.retz rfl rfl (by decide) (h.1 c2))) (fun c2 => ev_T.adv (k' := 9) (ls' := [some (.ref 1008), some (.int x1)]) (st' := [.int (I 1008 1), .int x1]) (σ' := (1057, 55, I, A)) 3 rfl (ev_T.icmp_ge rfl (fun c1 => ev_T.adv (k' := 22) (ls' := [some (.ref 1008), some (.int x1)]) (st' := [.int 0]) (σ' := (1057, 55, I, A)) 1 rfl (ev_T.retz rfl rfl (by decide) ((h.2 c2).1 c1))) (fun c1 => ev_T.adv (k' := 17) (ls' := [some (.ref 1008), some (.int x1)]) (st' := [.int x1, .ref (1008 + 1)]) (σ' := (1057, 55, I, A)) 3 rfl (ev_T.cald (v := .int (A (1008 + 1) (x1 : Int32).toNatClampNeg)) rfl ((h.2 c2).2 c1).1 rfl rfl (ev_T.adv (k' := 22) (ls' := [some (.ref 1008), some (.int x1)]) (st' := [.int (A (1008 + 1) (x1 : Int32).toNatClampNeg)]) (σ' := (1057, 55, I, A)) 1 rfl (ev_T.retz rfl rfl ((h.2 c2).2 c1).2.1 ((h.2 c2).2 c1).2.2)))))))
    · exact ev_T.adv (k' := 1) (ls' := [some (.ref 1010), some (.int x1)]) (st' := [.int x1]) (σ' := (1057, 55, I, A)) 1 rfl (ev_T.if_lt rfl (fun c2 => ev_T.adv (k' := 22) (ls' := [some (.ref 1010), some (.int x1)]) (st' := [.int 0]) (σ' := (1057, 55, I, A)) 1 rfl (ev_T.retz rfl rfl (by decide) (h.1 c2))) (fun c2 => ev_T.adv (k' := 9) (ls' := [some (.ref 1010), some (.int x1)]) (st' := [.int (I 1010 1), .int x1]) (σ' := (1057, 55, I, A)) 3 rfl (ev_T.icmp_ge rfl (fun c1 => ev_T.adv (k' := 22) (ls' := [some (.ref 1010), some (.int x1)]) (st' := [.int 0]) (σ' := (1057, 55, I, A)) 1 rfl (ev_T.retz rfl rfl (by decide) ((h.2 c2).1 c1))) (fun c1 => ev_T.adv (k' := 17) (ls' := [some (.ref 1010), some (.int x1)]) (st' := [.int x1, .ref (1010 + 1)]) (σ' := (1057, 55, I, A)) 3 rfl (ev_T.cald (v := .int (A (1010 + 1) (x1 : Int32).toNatClampNeg)) rfl ((h.2 c2).2 c1).1 rfl rfl (ev_T.adv (k' := 22) (ls' := [some (.ref 1010), some (.int x1)]) (st' := [.int (A (1010 + 1) (x1 : Int32).toNatClampNeg)]) (σ' := (1057, 55, I, A)) 1 rfl (ev_T.retz rfl rfl ((h.2 c2).2 c1).2.1 ((h.2 c2).2 c1).2.2)))))))
    · exact ev_T.adv (k' := 1) (ls' := [some (.ref 1028), some (.int x1)]) (st' := [.int x1]) (σ' := (1057, 55, I, A)) 1 rfl (ev_T.if_lt rfl (fun c2 => ev_T.adv (k' := 22) (ls' := [some (.ref 1028), some (.int x1)]) (st' := [.int 0]) (σ' := (1057, 55, I, A)) 1 rfl (ev_T.retz rfl rfl (by decide) (h.1 c2))) (fun c2 => ev_T.adv (k' := 9) (ls' := [some (.ref 1028), some (.int x1)]) (st' := [.int (I 1028 1), .int x1]) (σ' := (1057, 55, I, A)) 3 rfl (ev_T.icmp_ge rfl (fun c1 => ev_T.adv (k' := 22) (ls' := [some (.ref 1028), some (.int x1)]) (st' := [.int 0]) (σ' := (1057, 55, I, A)) 1 rfl (ev_T.retz rfl rfl (by decide) ((h.2 c2).1 c1))) (fun c1 => ev_T.adv (k' := 17) (ls' := [some (.ref 1028), some (.int x1)]) (st' := [.int x1, .ref (1028 + 1)]) (σ' := (1057, 55, I, A)) 3 rfl (ev_T.cald (v := .int (A (1028 + 1) (x1 : Int32).toNatClampNeg)) rfl ((h.2 c2).2 c1).1 rfl rfl (ev_T.adv (k' := 22) (ls' := [some (.ref 1028), some (.int x1)]) (st' := [.int (A (1028 + 1) (x1 : Int32).toNatClampNeg)]) (σ' := (1057, 55, I, A)) 1 rfl (ev_T.retz rfl rfl ((h.2 c2).2 c1).2.1 ((h.2 c2).2 c1).2.2)))))))

/-! StemRules$Letters.put(IC)V -/
set_option maxRecDepth 100000 in
theorem t_L_put_0 {d : Nat} {I A : Nat → Nat → Int32} {K : (Nat → Nat → Int32) → (Nat → Nat → Int32) → Prop} {L : Nat} (hLL : ev_isL L) (x1 : Int32) (x2 : Int32)  
    (h : ((x1 < 0 → K I A) ∧ (¬ x1 < 0 → (((I L 1) ≤ x1 → K I A) ∧ (¬ (I L 1) ≤ x1 → (vp_in x1 24 ∧ K I (ev_upd A (L + 1) (x1 : Int32).toNatClampNeg (vp_nar .char x2)))))))) :
    ev_Bv d 32 0 [some (.ref L), some (.int x1), some (.int x2)] I A K :=
  by
    rcases hLL with rfl | rfl | rfl
    · exact ev_T.adv (k' := 1) (ls' := [some (.ref 1008), some (.int x1), some (.int x2)]) (st' := [.int x1]) (σ' := (1057, 55, I, A)) 1 rfl (ev_T.if_lt rfl (fun c2 => ev_T.retv rfl rfl (h.1 c2)) (fun c2 => ev_T.adv (k' := 9) (ls' := [some (.ref 1008), some (.int x1), some (.int x2)]) (st' := [.int (I 1008 1), .int x1]) (σ' := (1057, 55, I, A)) 3 rfl (ev_T.icmp_ge rfl (fun c1 => ev_T.retv rfl rfl ((h.2 c2).1 c1)) (fun c1 => ev_T.adv (k' := 18) (ls' := [some (.ref 1008), some (.int x1), some (.int x2)]) (st' := [.int x2, .int x1, .ref (1008 + 1)]) (σ' := (1057, 55, I, A)) 4 rfl (ev_T.cast rfl ((h.2 c2).2 c1).1 (by decide) rfl (ev_T.retv rfl rfl ((h.2 c2).2 c1).2))))))
    · exact ev_T.adv (k' := 1) (ls' := [some (.ref 1010), some (.int x1), some (.int x2)]) (st' := [.int x1]) (σ' := (1057, 55, I, A)) 1 rfl (ev_T.if_lt rfl (fun c2 => ev_T.retv rfl rfl (h.1 c2)) (fun c2 => ev_T.adv (k' := 9) (ls' := [some (.ref 1010), some (.int x1), some (.int x2)]) (st' := [.int (I 1010 1), .int x1]) (σ' := (1057, 55, I, A)) 3 rfl (ev_T.icmp_ge rfl (fun c1 => ev_T.retv rfl rfl ((h.2 c2).1 c1)) (fun c1 => ev_T.adv (k' := 18) (ls' := [some (.ref 1010), some (.int x1), some (.int x2)]) (st' := [.int x2, .int x1, .ref (1010 + 1)]) (σ' := (1057, 55, I, A)) 4 rfl (ev_T.cast rfl ((h.2 c2).2 c1).1 (by decide) rfl (ev_T.retv rfl rfl ((h.2 c2).2 c1).2))))))
    · exact ev_T.adv (k' := 1) (ls' := [some (.ref 1028), some (.int x1), some (.int x2)]) (st' := [.int x1]) (σ' := (1057, 55, I, A)) 1 rfl (ev_T.if_lt rfl (fun c2 => ev_T.retv rfl rfl (h.1 c2)) (fun c2 => ev_T.adv (k' := 9) (ls' := [some (.ref 1028), some (.int x1), some (.int x2)]) (st' := [.int (I 1028 1), .int x1]) (σ' := (1057, 55, I, A)) 3 rfl (ev_T.icmp_ge rfl (fun c1 => ev_T.retv rfl rfl ((h.2 c2).1 c1)) (fun c1 => ev_T.adv (k' := 18) (ls' := [some (.ref 1028), some (.int x1), some (.int x2)]) (st' := [.int x2, .int x1, .ref (1028 + 1)]) (σ' := (1057, 55, I, A)) 4 rfl (ev_T.cast rfl ((h.2 c2).2 c1).1 (by decide) rfl (ev_T.retv rfl rfl ((h.2 c2).2 c1).2))))))

/-! StemRules$Letters.add(C)V -/
set_option maxRecDepth 100000 in
theorem t_L_add_0 {d : Nat} {I A : Nat → Nat → Int32} {K : (Nat → Nat → Int32) → (Nat → Nat → Int32) → Prop} {L : Nat} (hLL : ev_isL L) (x1 : Int32)  
    (h : (((24 : Int32) ≤ (I L 1) → K I A) ∧ (¬ (24 : Int32) ≤ (I L 1) → (vp_in (I L 1) 24 ∧ K (ev_upd I L 1 ((I L 1) + 1)) (ev_upd A (L + 1) ((I L 1) : Int32).toNatClampNeg (vp_nar .char x1)))))) :
    ev_Bv d 33 0 [some (.ref L), some (.int x1)] I A K :=
  by
    rcases hLL with rfl | rfl | rfl
    · exact ev_T.adv (k' := 6) (ls' := [some (.ref 1008), some (.int x1)]) (st' := [.int 24, .int (I 1008 1)]) (σ' := (1057, 55, I, A)) 3 rfl (ev_T.icmp_ge rfl (fun c1 => ev_T.retv rfl rfl (h.1 c1)) (fun c1 => ev_T.adv (k' := 18) (ls' := [some (.ref 1008), some (.int x1)]) (st' := [.int x1, .int (I 1008 1), .ref (1008 + 1)]) (σ' := (1057, 55, I, A)) 5 rfl (ev_T.cast rfl (h.2 c1).1 (by decide) rfl (ev_T.adv (k' := 29) (ls' := [some (.ref 1008), some (.int x1)]) (st' := []) (σ' := (1057, 55, (ev_upd I 1008 1 ((I 1008 1) + 1)), (ev_upd A (1008 + 1) ((I 1008 1) : Int32).toNatClampNeg (vp_nar .char x1)))) 6 rfl (ev_T.retv rfl rfl (h.2 c1).2)))))
    · exact ev_T.adv (k' := 6) (ls' := [some (.ref 1010), some (.int x1)]) (st' := [.int 24, .int (I 1010 1)]) (σ' := (1057, 55, I, A)) 3 rfl (ev_T.icmp_ge rfl (fun c1 => ev_T.retv rfl rfl (h.1 c1)) (fun c1 => ev_T.adv (k' := 18) (ls' := [some (.ref 1010), some (.int x1)]) (st' := [.int x1, .int (I 1010 1), .ref (1010 + 1)]) (σ' := (1057, 55, I, A)) 5 rfl (ev_T.cast rfl (h.2 c1).1 (by decide) rfl (ev_T.adv (k' := 29) (ls' := [some (.ref 1010), some (.int x1)]) (st' := []) (σ' := (1057, 55, (ev_upd I 1010 1 ((I 1010 1) + 1)), (ev_upd A (1010 + 1) ((I 1010 1) : Int32).toNatClampNeg (vp_nar .char x1)))) 6 rfl (ev_T.retv rfl rfl (h.2 c1).2)))))
    · exact ev_T.adv (k' := 6) (ls' := [some (.ref 1028), some (.int x1)]) (st' := [.int 24, .int (I 1028 1)]) (σ' := (1057, 55, I, A)) 3 rfl (ev_T.icmp_ge rfl (fun c1 => ev_T.retv rfl rfl (h.1 c1)) (fun c1 => ev_T.adv (k' := 18) (ls' := [some (.ref 1028), some (.int x1)]) (st' := [.int x1, .int (I 1028 1), .ref (1028 + 1)]) (σ' := (1057, 55, I, A)) 5 rfl (ev_T.cast rfl (h.2 c1).1 (by decide) rfl (ev_T.adv (k' := 29) (ls' := [some (.ref 1028), some (.int x1)]) (st' := []) (σ' := (1057, 55, (ev_upd I 1028 1 ((I 1028 1) + 1)), (ev_upd A (1028 + 1) ((I 1028 1) : Int32).toNatClampNeg (vp_nar .char x1)))) 6 rfl (ev_T.retv rfl rfl (h.2 c1).2)))))

/-! StemRules$Letters.shorten(I)V -/
set_option maxRecDepth 100000 in
theorem t_L_shorten_0 {d : Nat} {I A : Nat → Nat → Int32} {K : (Nat → Nat → Int32) → (Nat → Nat → Int32) → Prop} {L : Nat} (hLL : ev_isL L) (x1 : Int32)  
    (h : ((x1 < 0 → K I A) ∧ (¬ x1 < 0 → (((I L 1) ≤ x1 → K I A) ∧ (¬ (I L 1) ≤ x1 → K (ev_upd I L 1 x1) A))))) :
    ev_Bv d 34 0 [some (.ref L), some (.int x1)] I A K :=
  by
    rcases hLL with rfl | rfl | rfl
    · exact ev_T.adv (k' := 1) (ls' := [some (.ref 1008), some (.int x1)]) (st' := [.int x1]) (σ' := (1057, 55, I, A)) 1 rfl (ev_T.if_lt rfl (fun c2 => ev_T.retv rfl rfl (h.1 c2)) (fun c2 => ev_T.adv (k' := 9) (ls' := [some (.ref 1008), some (.int x1)]) (st' := [.int (I 1008 1), .int x1]) (σ' := (1057, 55, I, A)) 3 rfl (ev_T.icmp_ge rfl (fun c1 => ev_T.retv rfl rfl ((h.2 c2).1 c1)) (fun c1 => ev_T.adv (k' := 17) (ls' := [some (.ref 1008), some (.int x1)]) (st' := []) (σ' := (1057, 55, (ev_upd I 1008 1 x1), A)) 3 rfl (ev_T.retv rfl rfl ((h.2 c2).2 c1))))))
    · exact ev_T.adv (k' := 1) (ls' := [some (.ref 1010), some (.int x1)]) (st' := [.int x1]) (σ' := (1057, 55, I, A)) 1 rfl (ev_T.if_lt rfl (fun c2 => ev_T.retv rfl rfl (h.1 c2)) (fun c2 => ev_T.adv (k' := 9) (ls' := [some (.ref 1010), some (.int x1)]) (st' := [.int (I 1010 1), .int x1]) (σ' := (1057, 55, I, A)) 3 rfl (ev_T.icmp_ge rfl (fun c1 => ev_T.retv rfl rfl ((h.2 c2).1 c1)) (fun c1 => ev_T.adv (k' := 17) (ls' := [some (.ref 1010), some (.int x1)]) (st' := []) (σ' := (1057, 55, (ev_upd I 1010 1 x1), A)) 3 rfl (ev_T.retv rfl rfl ((h.2 c2).2 c1))))))
    · exact ev_T.adv (k' := 1) (ls' := [some (.ref 1028), some (.int x1)]) (st' := [.int x1]) (σ' := (1057, 55, I, A)) 1 rfl (ev_T.if_lt rfl (fun c2 => ev_T.retv rfl rfl (h.1 c2)) (fun c2 => ev_T.adv (k' := 9) (ls' := [some (.ref 1028), some (.int x1)]) (st' := [.int (I 1028 1), .int x1]) (σ' := (1057, 55, I, A)) 3 rfl (ev_T.icmp_ge rfl (fun c1 => ev_T.retv rfl rfl ((h.2 c2).1 c1)) (fun c1 => ev_T.adv (k' := 17) (ls' := [some (.ref 1028), some (.int x1)]) (st' := []) (σ' := (1057, 55, (ev_upd I 1028 1 x1), A)) 3 rfl (ev_T.retv rfl rfl ((h.2 c2).2 c1))))))

/-! StemRules$Letters.hasAt(ILjava/lang/String;)Z -/
set_option maxRecDepth 100000 in
theorem t_L_hasAt_0 {d : Nat} {I A : Nat → Nat → Int32} {K : Int32 → (Nat → Nat → Int32) → (Nat → Nat → Int32) → Prop} {L : Nat} (hLL : ev_isL L) (x1 : Int32) (x2 : Nat)  (hsx2 : x2 < 110)
    (h : ((x1 < 0 → K 0 I A) ∧ (¬ x1 < 0 → ev_Bi d 183 0 [some (.ref x2)] I A (fun z3 I1 A2 => (((x1 + z3) ≤ (I1 L 1) → ev_Bi (d + 1) 35 21 [some (.ref L), some (.int x1), some (.ref x2), some (.int 0)] I1 A2 K) ∧ (¬ (x1 + z3) ≤ (I1 L 1) → K 0 I1 A2)))))) :
    ev_Bi (d + 1) 35 0 [some (.ref L), some (.int x1), some (.ref x2), none] I A K :=
  by
    rcases hLL with rfl | rfl | rfl
    · exact ev_T.adv (k' := 1) (ls' := [some (.ref 1008), some (.int x1), some (.ref x2), none]) (st' := [.int x1]) (σ' := (1057, 55, I, A)) 1 rfl (ev_T.if_lt rfl (fun c6 => ev_T.adv (k' := 18) (ls' := [some (.ref 1008), some (.int x1), some (.ref x2), none]) (st' := [.int 0]) (σ' := (1057, 55, I, A)) 1 rfl (ev_T.retz rfl rfl (by decide) (h.1 c6))) (fun c6 => ev_T.adv (k' := 6) (ls' := [some (.ref 1008), some (.int x1), some (.ref x2), none]) (st' := [.ref x2, .int x1]) (σ' := (1057, 55, I, A)) 2 rfl (ev_T.calli (m' := 183) (as := [.ref x2]) (r := [.int x1]) (K' := fun z3 I1 A2 => (((x1 + z3) ≤ (I1 1008 1) → ev_Bi (d + 1) 35 21 [some (.ref 1008), some (.int x1), some (.ref x2), some (.int 0)] I1 A2 K) ∧ (¬ (x1 + z3) ≤ (I1 1008 1) → K 0 I1 A2))) rfl (ev_scall0 hsx2 rfl) rfl (h.2 c6) (fun z3 I1 A2 h4 => ev_T.adv (k' := 14) (ls' := [some (.ref 1008), some (.int x1), some (.ref x2), none]) (st' := [.int (I1 1008 1), .int (x1 + z3)]) (σ' := (1057, 55, I1, A2)) 3 rfl (ev_T.icmp_le rfl (fun c5 => ev_T.adv (k' := 21) (ls' := [some (.ref 1008), some (.int x1), some (.ref x2), some (.int 0)]) (st' := []) (σ' := (1057, 55, I1, A2)) 2 rfl ((h4.1 c5))) (fun c5 => ev_T.adv (k' := 18) (ls' := [some (.ref 1008), some (.int x1), some (.ref x2), none]) (st' := [.int 0]) (σ' := (1057, 55, I1, A2)) 1 rfl (ev_T.retz rfl rfl (by decide) (h4.2 c5))))))))
    · exact ev_T.adv (k' := 1) (ls' := [some (.ref 1010), some (.int x1), some (.ref x2), none]) (st' := [.int x1]) (σ' := (1057, 55, I, A)) 1 rfl (ev_T.if_lt rfl (fun c6 => ev_T.adv (k' := 18) (ls' := [some (.ref 1010), some (.int x1), some (.ref x2), none]) (st' := [.int 0]) (σ' := (1057, 55, I, A)) 1 rfl (ev_T.retz rfl rfl (by decide) (h.1 c6))) (fun c6 => ev_T.adv (k' := 6) (ls' := [some (.ref 1010), some (.int x1), some (.ref x2), none]) (st' := [.ref x2, .int x1]) (σ' := (1057, 55, I, A)) 2 rfl (ev_T.calli (m' := 183) (as := [.ref x2]) (r := [.int x1]) (K' := fun z3 I1 A2 => (((x1 + z3) ≤ (I1 1010 1) → ev_Bi (d + 1) 35 21 [some (.ref 1010), some (.int x1), some (.ref x2), some (.int 0)] I1 A2 K) ∧ (¬ (x1 + z3) ≤ (I1 1010 1) → K 0 I1 A2))) rfl (ev_scall0 hsx2 rfl) rfl (h.2 c6) (fun z3 I1 A2 h4 => ev_T.adv (k' := 14) (ls' := [some (.ref 1010), some (.int x1), some (.ref x2), none]) (st' := [.int (I1 1010 1), .int (x1 + z3)]) (σ' := (1057, 55, I1, A2)) 3 rfl (ev_T.icmp_le rfl (fun c5 => ev_T.adv (k' := 21) (ls' := [some (.ref 1010), some (.int x1), some (.ref x2), some (.int 0)]) (st' := []) (σ' := (1057, 55, I1, A2)) 2 rfl ((h4.1 c5))) (fun c5 => ev_T.adv (k' := 18) (ls' := [some (.ref 1010), some (.int x1), some (.ref x2), none]) (st' := [.int 0]) (σ' := (1057, 55, I1, A2)) 1 rfl (ev_T.retz rfl rfl (by decide) (h4.2 c5))))))))
    · exact ev_T.adv (k' := 1) (ls' := [some (.ref 1028), some (.int x1), some (.ref x2), none]) (st' := [.int x1]) (σ' := (1057, 55, I, A)) 1 rfl (ev_T.if_lt rfl (fun c6 => ev_T.adv (k' := 18) (ls' := [some (.ref 1028), some (.int x1), some (.ref x2), none]) (st' := [.int 0]) (σ' := (1057, 55, I, A)) 1 rfl (ev_T.retz rfl rfl (by decide) (h.1 c6))) (fun c6 => ev_T.adv (k' := 6) (ls' := [some (.ref 1028), some (.int x1), some (.ref x2), none]) (st' := [.ref x2, .int x1]) (σ' := (1057, 55, I, A)) 2 rfl (ev_T.calli (m' := 183) (as := [.ref x2]) (r := [.int x1]) (K' := fun z3 I1 A2 => (((x1 + z3) ≤ (I1 1028 1) → ev_Bi (d + 1) 35 21 [some (.ref 1028), some (.int x1), some (.ref x2), some (.int 0)] I1 A2 K) ∧ (¬ (x1 + z3) ≤ (I1 1028 1) → K 0 I1 A2))) rfl (ev_scall0 hsx2 rfl) rfl (h.2 c6) (fun z3 I1 A2 h4 => ev_T.adv (k' := 14) (ls' := [some (.ref 1028), some (.int x1), some (.ref x2), none]) (st' := [.int (I1 1028 1), .int (x1 + z3)]) (σ' := (1057, 55, I1, A2)) 3 rfl (ev_T.icmp_le rfl (fun c5 => ev_T.adv (k' := 21) (ls' := [some (.ref 1028), some (.int x1), some (.ref x2), some (.int 0)]) (st' := []) (σ' := (1057, 55, I1, A2)) 2 rfl ((h4.1 c5))) (fun c5 => ev_T.adv (k' := 18) (ls' := [some (.ref 1028), some (.int x1), some (.ref x2), none]) (st' := [.int 0]) (σ' := (1057, 55, I1, A2)) 1 rfl (ev_T.retz rfl rfl (by decide) (h4.2 c5))))))))
set_option maxRecDepth 100000 in
theorem t_L_hasAt_21 {d : Nat} {I A : Nat → Nat → Int32} {K : Int32 → (Nat → Nat → Int32) → (Nat → Nat → Int32) → Prop} {L : Nat} (hLL : ev_isL L) (x1 : Int32) (x2 : Nat) (x3 : Int32)  (hsx2 : x2 < 110)
    (h : ev_Bi d 183 0 [some (.ref x2)] I A (fun z3 I1 A2 => ((z3 ≤ x3 → K 1 I1 A2) ∧ (¬ z3 ≤ x3 → (vp_in (x1 + x3) 24 ∧ ev_Bi d 184 0 [some (.ref x2), some (.int x3)] I1 A2 (fun z7 I5 A6 => (((A2 (L + 1) ((x1 + x3) : Int32).toNatClampNeg) = z7 → ev_Bi (d + 1) 35 21 [some (.ref L), some (.int x1), some (.ref x2), some (.int (x3 + 1))] I5 A6 K) ∧ (¬ (A2 (L + 1) ((x1 + x3) : Int32).toNatClampNeg) = z7 → K 0 I5 A6)))))))) :
    ev_Bi (d + 1) 35 21 [some (.ref L), some (.int x1), some (.ref x2), some (.int x3)] I A K :=
  by
    rcases hLL with rfl | rfl | rfl
    · exact ev_T.adv (k' := 23) (ls' := [some (.ref 1008), some (.int x1), some (.ref x2), some (.int x3)]) (st' := [.ref x2, .int x3]) (σ' := (1057, 55, I, A)) 2 rfl (ev_T.calli (m' := 183) (as := [.ref x2]) (r := [.int x3]) (K' := fun z3 I1 A2 => ((z3 ≤ x3 → K 1 I1 A2) ∧ (¬ z3 ≤ x3 → (vp_in (x1 + x3) 24 ∧ ev_Bi d 184 0 [some (.ref x2), some (.int x3)] I1 A2 (fun z7 I5 A6 => (((A2 (1008 + 1) ((x1 + x3) : Int32).toNatClampNeg) = z7 → ev_Bi (d + 1) 35 21 [some (.ref 1008), some (.int x1), some (.ref x2), some (.int (x3 + 1))] I5 A6 K) ∧ (¬ (A2 (1008 + 1) ((x1 + x3) : Int32).toNatClampNeg) = z7 → K 0 I5 A6))))))) rfl (ev_scall0 hsx2 rfl) rfl h (fun z3 I1 A2 h4 => ev_T.icmp_ge rfl (fun c10 => ev_T.adv (k' := 54) (ls' := [some (.ref 1008), some (.int x1), some (.ref x2), some (.int x3)]) (st' := [.int 1]) (σ' := (1057, 55, I1, A2)) 1 rfl (ev_T.retz rfl rfl (by decide) (h4.1 c10))) (fun c10 => ev_T.adv (k' := 36) (ls' := [some (.ref 1008), some (.int x1), some (.ref x2), some (.int x3)]) (st' := [.int (x1 + x3), .ref (1008 + 1)]) (σ' := (1057, 55, I1, A2)) 5 rfl (ev_T.cald (v := .int (A2 (1008 + 1) ((x1 + x3) : Int32).toNatClampNeg)) rfl (h4.2 c10).1 rfl rfl (ev_T.adv (k' := 39) (ls' := [some (.ref 1008), some (.int x1), some (.ref x2), some (.int x3)]) (st' := [.int x3, .ref x2, .int (A2 (1008 + 1) ((x1 + x3) : Int32).toNatClampNeg)]) (σ' := (1057, 55, I1, A2)) 2 rfl (ev_T.calli (m' := 184) (as := [.ref x2, .int x3]) (r := [.int (A2 (1008 + 1) ((x1 + x3) : Int32).toNatClampNeg)]) (K' := fun z7 I5 A6 => (((A2 (1008 + 1) ((x1 + x3) : Int32).toNatClampNeg) = z7 → ev_Bi (d + 1) 35 21 [some (.ref 1008), some (.int x1), some (.ref x2), some (.int (x3 + 1))] I5 A6 K) ∧ (¬ (A2 (1008 + 1) ((x1 + x3) : Int32).toNatClampNeg) = z7 → K 0 I5 A6))) rfl (ev_scall1 hsx2 rfl) rfl (h4.2 c10).2 (fun z7 I5 A6 h8 => ev_T.icmp_eq rfl (fun c9 => ev_T.adv (k' := 21) (ls' := [some (.ref 1008), some (.int x1), some (.ref x2), some (.int (x3 + 1))]) (st' := []) (σ' := (1057, 55, I5, A6)) 2 rfl ((h8.1 c9))) (fun c9 => ev_T.adv (k' := 46) (ls' := [some (.ref 1008), some (.int x1), some (.ref x2), some (.int x3)]) (st' := [.int 0]) (σ' := (1057, 55, I5, A6)) 1 rfl (ev_T.retz rfl rfl (by decide) (h8.2 c9))))))))))
    · exact ev_T.adv (k' := 23) (ls' := [some (.ref 1010), some (.int x1), some (.ref x2), some (.int x3)]) (st' := [.ref x2, .int x3]) (σ' := (1057, 55, I, A)) 2 rfl (ev_T.calli (m' := 183) (as := [.ref x2]) (r := [.int x3]) (K' := fun z3 I1 A2 => ((z3 ≤ x3 → K 1 I1 A2) ∧ (¬ z3 ≤ x3 → (vp_in (x1 + x3) 24 ∧ ev_Bi d 184 0 [some (.ref x2), some (.int x3)] I1 A2 (fun z7 I5 A6 => (((A2 (1010 + 1) ((x1 + x3) : Int32).toNatClampNeg) = z7 → ev_Bi (d + 1) 35 21 [some (.ref 1010), some (.int x1), some (.ref x2), some (.int (x3 + 1))] I5 A6 K) ∧ (¬ (A2 (1010 + 1) ((x1 + x3) : Int32).toNatClampNeg) = z7 → K 0 I5 A6))))))) rfl (ev_scall0 hsx2 rfl) rfl h (fun z3 I1 A2 h4 => ev_T.icmp_ge rfl (fun c10 => ev_T.adv (k' := 54) (ls' := [some (.ref 1010), some (.int x1), some (.ref x2), some (.int x3)]) (st' := [.int 1]) (σ' := (1057, 55, I1, A2)) 1 rfl (ev_T.retz rfl rfl (by decide) (h4.1 c10))) (fun c10 => ev_T.adv (k' := 36) (ls' := [some (.ref 1010), some (.int x1), some (.ref x2), some (.int x3)]) (st' := [.int (x1 + x3), .ref (1010 + 1)]) (σ' := (1057, 55, I1, A2)) 5 rfl (ev_T.cald (v := .int (A2 (1010 + 1) ((x1 + x3) : Int32).toNatClampNeg)) rfl (h4.2 c10).1 rfl rfl (ev_T.adv (k' := 39) (ls' := [some (.ref 1010), some (.int x1), some (.ref x2), some (.int x3)]) (st' := [.int x3, .ref x2, .int (A2 (1010 + 1) ((x1 + x3) : Int32).toNatClampNeg)]) (σ' := (1057, 55, I1, A2)) 2 rfl (ev_T.calli (m' := 184) (as := [.ref x2, .int x3]) (r := [.int (A2 (1010 + 1) ((x1 + x3) : Int32).toNatClampNeg)]) (K' := fun z7 I5 A6 => (((A2 (1010 + 1) ((x1 + x3) : Int32).toNatClampNeg) = z7 → ev_Bi (d + 1) 35 21 [some (.ref 1010), some (.int x1), some (.ref x2), some (.int (x3 + 1))] I5 A6 K) ∧ (¬ (A2 (1010 + 1) ((x1 + x3) : Int32).toNatClampNeg) = z7 → K 0 I5 A6))) rfl (ev_scall1 hsx2 rfl) rfl (h4.2 c10).2 (fun z7 I5 A6 h8 => ev_T.icmp_eq rfl (fun c9 => ev_T.adv (k' := 21) (ls' := [some (.ref 1010), some (.int x1), some (.ref x2), some (.int (x3 + 1))]) (st' := []) (σ' := (1057, 55, I5, A6)) 2 rfl ((h8.1 c9))) (fun c9 => ev_T.adv (k' := 46) (ls' := [some (.ref 1010), some (.int x1), some (.ref x2), some (.int x3)]) (st' := [.int 0]) (σ' := (1057, 55, I5, A6)) 1 rfl (ev_T.retz rfl rfl (by decide) (h8.2 c9))))))))))
    · exact ev_T.adv (k' := 23) (ls' := [some (.ref 1028), some (.int x1), some (.ref x2), some (.int x3)]) (st' := [.ref x2, .int x3]) (σ' := (1057, 55, I, A)) 2 rfl (ev_T.calli (m' := 183) (as := [.ref x2]) (r := [.int x3]) (K' := fun z3 I1 A2 => ((z3 ≤ x3 → K 1 I1 A2) ∧ (¬ z3 ≤ x3 → (vp_in (x1 + x3) 24 ∧ ev_Bi d 184 0 [some (.ref x2), some (.int x3)] I1 A2 (fun z7 I5 A6 => (((A2 (1028 + 1) ((x1 + x3) : Int32).toNatClampNeg) = z7 → ev_Bi (d + 1) 35 21 [some (.ref 1028), some (.int x1), some (.ref x2), some (.int (x3 + 1))] I5 A6 K) ∧ (¬ (A2 (1028 + 1) ((x1 + x3) : Int32).toNatClampNeg) = z7 → K 0 I5 A6))))))) rfl (ev_scall0 hsx2 rfl) rfl h (fun z3 I1 A2 h4 => ev_T.icmp_ge rfl (fun c10 => ev_T.adv (k' := 54) (ls' := [some (.ref 1028), some (.int x1), some (.ref x2), some (.int x3)]) (st' := [.int 1]) (σ' := (1057, 55, I1, A2)) 1 rfl (ev_T.retz rfl rfl (by decide) (h4.1 c10))) (fun c10 => ev_T.adv (k' := 36) (ls' := [some (.ref 1028), some (.int x1), some (.ref x2), some (.int x3)]) (st' := [.int (x1 + x3), .ref (1028 + 1)]) (σ' := (1057, 55, I1, A2)) 5 rfl (ev_T.cald (v := .int (A2 (1028 + 1) ((x1 + x3) : Int32).toNatClampNeg)) rfl (h4.2 c10).1 rfl rfl (ev_T.adv (k' := 39) (ls' := [some (.ref 1028), some (.int x1), some (.ref x2), some (.int x3)]) (st' := [.int x3, .ref x2, .int (A2 (1028 + 1) ((x1 + x3) : Int32).toNatClampNeg)]) (σ' := (1057, 55, I1, A2)) 2 rfl (ev_T.calli (m' := 184) (as := [.ref x2, .int x3]) (r := [.int (A2 (1028 + 1) ((x1 + x3) : Int32).toNatClampNeg)]) (K' := fun z7 I5 A6 => (((A2 (1028 + 1) ((x1 + x3) : Int32).toNatClampNeg) = z7 → ev_Bi (d + 1) 35 21 [some (.ref 1028), some (.int x1), some (.ref x2), some (.int (x3 + 1))] I5 A6 K) ∧ (¬ (A2 (1028 + 1) ((x1 + x3) : Int32).toNatClampNeg) = z7 → K 0 I5 A6))) rfl (ev_scall1 hsx2 rfl) rfl (h4.2 c10).2 (fun z7 I5 A6 h8 => ev_T.icmp_eq rfl (fun c9 => ev_T.adv (k' := 21) (ls' := [some (.ref 1028), some (.int x1), some (.ref x2), some (.int (x3 + 1))]) (st' := []) (σ' := (1057, 55, I5, A6)) 2 rfl ((h8.1 c9))) (fun c9 => ev_T.adv (k' := 46) (ls' := [some (.ref 1028), some (.int x1), some (.ref x2), some (.int x3)]) (st' := [.int 0]) (σ' := (1057, 55, I5, A6)) 1 rfl (ev_T.retz rfl rfl (by decide) (h8.2 c9))))))))))

/-! StemRules$Letters.ends(Ljava/lang/String;)Z -/
set_option maxRecDepth 100000 in
theorem t_L_ends_0 {d : Nat} {I A : Nat → Nat → Int32} {K : Int32 → (Nat → Nat → Int32) → (Nat → Nat → Int32) → Prop} {L : Nat} (hLL : ev_isL L) (x1 : Nat)  (hsx1 : x1 < 110)
    (h : ev_Bi d 183 0 [some (.ref x1)] I A (fun z3 I1 A2 => ev_Bi d 35 0 [some (.ref L), some (.int ((I L 1) - z3)), some (.ref x1), none] I1 A2 (fun z7 I5 A6 => (ev_fit 2 z7 = true ∧ K z7 I5 A6)))) :
    ev_Bi (d + 1) 36 0 [some (.ref L), some (.ref x1)] I A K :=
  by
    rcases hLL with rfl | rfl | rfl
    · exact ev_T.adv (k' := 6) (ls' := [some (.ref 1008), some (.ref x1)]) (st' := [.ref x1, .int (I 1008 1), .ref 1008]) (σ' := (1057, 55, I, A)) 4 rfl (ev_T.calli (m' := 183) (as := [.ref x1]) (r := [.int (I 1008 1), .ref 1008]) (K' := fun z3 I1 A2 => ev_Bi d 35 0 [some (.ref 1008), some (.int ((I 1008 1) - z3)), some (.ref x1), none] I1 A2 (fun z7 I5 A6 => (ev_fit 2 z7 = true ∧ K z7 I5 A6))) rfl (ev_scall0 hsx1 rfl) rfl h (fun z3 I1 A2 h4 => ev_T.adv (k' := 11) (ls' := [some (.ref 1008), some (.ref x1)]) (st' := [.ref x1, .int ((I 1008 1) - z3), .ref 1008]) (σ' := (1057, 55, I1, A2)) 2 rfl (ev_T.calli (m' := 35) (as := [.ref 1008, .int ((I 1008 1) - z3), .ref x1]) (r := []) (K' := fun z7 I5 A6 => (ev_fit 2 z7 = true ∧ K z7 I5 A6)) rfl rfl rfl h4 (fun z7 I5 A6 h8 => ev_T.retz rfl rfl h8.1 h8.2))))
    · exact ev_T.adv (k' := 6) (ls' := [some (.ref 1010), some (.ref x1)]) (st' := [.ref x1, .int (I 1010 1), .ref 1010]) (σ' := (1057, 55, I, A)) 4 rfl (ev_T.calli (m' := 183) (as := [.ref x1]) (r := [.int (I 1010 1), .ref 1010]) (K' := fun z3 I1 A2 => ev_Bi d 35 0 [some (.ref 1010), some (.int ((I 1010 1) - z3)), some (.ref x1), none] I1 A2 (fun z7 I5 A6 => (ev_fit 2 z7 = true ∧ K z7 I5 A6))) rfl (ev_scall0 hsx1 rfl) rfl h (fun z3 I1 A2 h4 => ev_T.adv (k' := 11) (ls' := [some (.ref 1010), some (.ref x1)]) (st' := [.ref x1, .int ((I 1010 1) - z3), .ref 1010]) (σ' := (1057, 55, I1, A2)) 2 rfl (ev_T.calli (m' := 35) (as := [.ref 1010, .int ((I 1010 1) - z3), .ref x1]) (r := []) (K' := fun z7 I5 A6 => (ev_fit 2 z7 = true ∧ K z7 I5 A6)) rfl rfl rfl h4 (fun z7 I5 A6 h8 => ev_T.retz rfl rfl h8.1 h8.2))))
    · exact ev_T.adv (k' := 6) (ls' := [some (.ref 1028), some (.ref x1)]) (st' := [.ref x1, .int (I 1028 1), .ref 1028]) (σ' := (1057, 55, I, A)) 4 rfl (ev_T.calli (m' := 183) (as := [.ref x1]) (r := [.int (I 1028 1), .ref 1028]) (K' := fun z3 I1 A2 => ev_Bi d 35 0 [some (.ref 1028), some (.int ((I 1028 1) - z3)), some (.ref x1), none] I1 A2 (fun z7 I5 A6 => (ev_fit 2 z7 = true ∧ K z7 I5 A6))) rfl (ev_scall0 hsx1 rfl) rfl h (fun z3 I1 A2 h4 => ev_T.adv (k' := 11) (ls' := [some (.ref 1028), some (.ref x1)]) (st' := [.ref x1, .int ((I 1028 1) - z3), .ref 1028]) (σ' := (1057, 55, I1, A2)) 2 rfl (ev_T.calli (m' := 35) (as := [.ref 1028, .int ((I 1028 1) - z3), .ref x1]) (r := []) (K' := fun z7 I5 A6 => (ev_fit 2 z7 = true ∧ K z7 I5 A6)) rfl rfl rfl h4 (fun z7 I5 A6 h8 => ev_T.retz rfl rfl h8.1 h8.2))))

/-! StemRules$Letters.changeAt(ILjava/lang/String;Ljava/lang/String;)Z -/
set_option maxRecDepth 100000 in
theorem t_L_changeAt_0 {d : Nat} {I A : Nat → Nat → Int32} {K : Int32 → (Nat → Nat → Int32) → (Nat → Nat → Int32) → Prop} {L : Nat} (hLL : ev_isL L) (x1 : Int32) (x2 : Nat) (x3 : Nat)  
    (h : ev_Bi d 35 0 [some (.ref L), some (.int x1), some (.ref x2), none] I A (fun z3 I1 A2 => ((z3 = 0 → K 0 I1 A2) ∧ (¬ z3 = 0 → ev_Bi (d + 1) 37 14 [some (.ref L), some (.int x1), some (.ref x2), some (.ref x3), some (.int 0)] I1 A2 K)))) :
    ev_Bi (d + 1) 37 0 [some (.ref L), some (.int x1), some (.ref x2), some (.ref x3), none] I A K :=
  by
    rcases hLL with rfl | rfl | rfl
    · exact ev_T.adv (k' := 3) (ls' := [some (.ref 1008), some (.int x1), some (.ref x2), some (.ref x3), none]) (st' := [.ref x2, .int x1, .ref 1008]) (σ' := (1057, 55, I, A)) 3 rfl (ev_T.calli (m' := 35) (as := [.ref 1008, .int x1, .ref x2]) (r := []) (K' := fun z3 I1 A2 => ((z3 = 0 → K 0 I1 A2) ∧ (¬ z3 = 0 → ev_Bi (d + 1) 37 14 [some (.ref 1008), some (.int x1), some (.ref x2), some (.ref x3), some (.int 0)] I1 A2 K))) rfl rfl rfl h (fun z3 I1 A2 h4 => ev_T.if_ne rfl (fun c5 => ev_T.adv (k' := 10) (ls' := [some (.ref 1008), some (.int x1), some (.ref x2), some (.ref x3), none]) (st' := [.int 0]) (σ' := (1057, 55, I1, A2)) 1 rfl (ev_T.retz rfl rfl (by decide) (h4.1 c5))) (fun c5 => ev_T.adv (k' := 14) (ls' := [some (.ref 1008), some (.int x1), some (.ref x2), some (.ref x3), some (.int 0)]) (st' := []) (σ' := (1057, 55, I1, A2)) 2 rfl ((h4.2 c5)))))
    · exact ev_T.adv (k' := 3) (ls' := [some (.ref 1010), some (.int x1), some (.ref x2), some (.ref x3), none]) (st' := [.ref x2, .int x1, .ref 1010]) (σ' := (1057, 55, I, A)) 3 rfl (ev_T.calli (m' := 35) (as := [.ref 1010, .int x1, .ref x2]) (r := []) (K' := fun z3 I1 A2 => ((z3 = 0 → K 0 I1 A2) ∧ (¬ z3 = 0 → ev_Bi (d + 1) 37 14 [some (.ref 1010), some (.int x1), some (.ref x2), some (.ref x3), some (.int 0)] I1 A2 K))) rfl rfl rfl h (fun z3 I1 A2 h4 => ev_T.if_ne rfl (fun c5 => ev_T.adv (k' := 10) (ls' := [some (.ref 1010), some (.int x1), some (.ref x2), some (.ref x3), none]) (st' := [.int 0]) (σ' := (1057, 55, I1, A2)) 1 rfl (ev_T.retz rfl rfl (by decide) (h4.1 c5))) (fun c5 => ev_T.adv (k' := 14) (ls' := [some (.ref 1010), some (.int x1), some (.ref x2), some (.ref x3), some (.int 0)]) (st' := []) (σ' := (1057, 55, I1, A2)) 2 rfl ((h4.2 c5)))))
    · exact ev_T.adv (k' := 3) (ls' := [some (.ref 1028), some (.int x1), some (.ref x2), some (.ref x3), none]) (st' := [.ref x2, .int x1, .ref 1028]) (σ' := (1057, 55, I, A)) 3 rfl (ev_T.calli (m' := 35) (as := [.ref 1028, .int x1, .ref x2]) (r := []) (K' := fun z3 I1 A2 => ((z3 = 0 → K 0 I1 A2) ∧ (¬ z3 = 0 → ev_Bi (d + 1) 37 14 [some (.ref 1028), some (.int x1), some (.ref x2), some (.ref x3), some (.int 0)] I1 A2 K))) rfl rfl rfl h (fun z3 I1 A2 h4 => ev_T.if_ne rfl (fun c5 => ev_T.adv (k' := 10) (ls' := [some (.ref 1028), some (.int x1), some (.ref x2), some (.ref x3), none]) (st' := [.int 0]) (σ' := (1057, 55, I1, A2)) 1 rfl (ev_T.retz rfl rfl (by decide) (h4.1 c5))) (fun c5 => ev_T.adv (k' := 14) (ls' := [some (.ref 1028), some (.int x1), some (.ref x2), some (.ref x3), some (.int 0)]) (st' := []) (σ' := (1057, 55, I1, A2)) 2 rfl ((h4.2 c5)))))
set_option maxRecDepth 100000 in
theorem t_L_changeAt_14 {d : Nat} {I A : Nat → Nat → Int32} {K : Int32 → (Nat → Nat → Int32) → (Nat → Nat → Int32) → Prop} {L : Nat} (hLL : ev_isL L) (x1 : Int32) (x2 : Nat) (x3 : Nat) (x4 : Int32)  (hsx3 : x3 < 110)
    (h : ev_Bi d 183 0 [some (.ref x3)] I A (fun z3 I1 A2 => ((z3 ≤ x4 → K 1 I1 A2) ∧ (¬ z3 ≤ x4 → ev_Bi d 184 0 [some (.ref x3), some (.int x4)] I1 A2 (fun z7 I5 A6 => ev_Bv d 32 0 [some (.ref L), some (.int (x1 + x4)), some (.int z7)] I5 A6 (fun I9 A10 => ev_Bi (d + 1) 37 14 [some (.ref L), some (.int x1), some (.ref x2), some (.ref x3), some (.int (x4 + 1))] I9 A10 K)))))) :
    ev_Bi (d + 1) 37 14 [some (.ref L), some (.int x1), some (.ref x2), some (.ref x3), some (.int x4)] I A K :=
  by
    rcases hLL with rfl | rfl | rfl
    · exact ev_T.adv (k' := 17) (ls' := [some (.ref 1008), some (.int x1), some (.ref x2), some (.ref x3), some (.int x4)]) (st' := [.ref x3, .int x4]) (σ' := (1057, 55, I, A)) 2 rfl (ev_T.calli (m' := 183) (as := [.ref x3]) (r := [.int x4]) (K' := fun z3 I1 A2 => ((z3 ≤ x4 → K 1 I1 A2) ∧ (¬ z3 ≤ x4 → ev_Bi d 184 0 [some (.ref x3), some (.int x4)] I1 A2 (fun z7 I5 A6 => ev_Bv d 32 0 [some (.ref 1008), some (.int (x1 + x4)), some (.int z7)] I5 A6 (fun I9 A10 => ev_Bi (d + 1) 37 14 [some (.ref 1008), some (.int x1), some (.ref x2), some (.ref x3), some (.int (x4 + 1))] I9 A10 K))))) rfl (ev_scall0 hsx3 rfl) rfl h (fun z3 I1 A2 h4 => ev_T.icmp_ge rfl (fun c12 => ev_T.adv (k' := 44) (ls' := [some (.ref 1008), some (.int x1), some (.ref x2), some (.ref x3), some (.int x4)]) (st' := [.int 1]) (σ' := (1057, 55, I1, A2)) 1 rfl (ev_T.retz rfl rfl (by decide) (h4.1 c12))) (fun c12 => ev_T.adv (k' := 31) (ls' := [some (.ref 1008), some (.int x1), some (.ref x2), some (.ref x3), some (.int x4)]) (st' := [.int x4, .ref x3, .int (x1 + x4), .ref 1008]) (σ' := (1057, 55, I1, A2)) 6 rfl (ev_T.calli (m' := 184) (as := [.ref x3, .int x4]) (r := [.int (x1 + x4), .ref 1008]) (K' := fun z7 I5 A6 => ev_Bv d 32 0 [some (.ref 1008), some (.int (x1 + x4)), some (.int z7)] I5 A6 (fun I9 A10 => ev_Bi (d + 1) 37 14 [some (.ref 1008), some (.int x1), some (.ref x2), some (.ref x3), some (.int (x4 + 1))] I9 A10 K)) rfl (ev_scall1 hsx3 rfl) rfl (h4.2 c12) (fun z7 I5 A6 h8 => ev_T.callv (m' := 32) (as := [.ref 1008, .int (x1 + x4), .int z7]) (r := []) (K' := fun I9 A10 => ev_Bi (d + 1) 37 14 [some (.ref 1008), some (.int x1), some (.ref x2), some (.ref x3), some (.int (x4 + 1))] I9 A10 K) rfl rfl rfl h8 (fun I9 A10 h11 => ev_T.adv (k' := 14) (ls' := [some (.ref 1008), some (.int x1), some (.ref x2), some (.ref x3), some (.int (x4 + 1))]) (st' := []) (σ' := (1057, 55, I9, A10)) 2 rfl (h11)))))))
    · exact ev_T.adv (k' := 17) (ls' := [some (.ref 1010), some (.int x1), some (.ref x2), some (.ref x3), some (.int x4)]) (st' := [.ref x3, .int x4]) (σ' := (1057, 55, I, A)) 2 rfl (ev_T.calli (m' := 183) (as := [.ref x3]) (r := [.int x4]) (K' := fun z3 I1 A2 => ((z3 ≤ x4 → K 1 I1 A2) ∧ (¬ z3 ≤ x4 → ev_Bi d 184 0 [some (.ref x3), some (.int x4)] I1 A2 (fun z7 I5 A6 => ev_Bv d 32 0 [some (.ref 1010), some (.int (x1 + x4)), some (.int z7)] I5 A6 (fun I9 A10 => ev_Bi (d + 1) 37 14 [some (.ref 1010), some (.int x1), some (.ref x2), some (.ref x3), some (.int (x4 + 1))] I9 A10 K))))) rfl (ev_scall0 hsx3 rfl) rfl h (fun z3 I1 A2 h4 => ev_T.icmp_ge rfl (fun c12 => ev_T.adv (k' := 44) (ls' := [some (.ref 1010), some (.int x1), some (.ref x2), some (.ref x3), some (.int x4)]) (st' := [.int 1]) (σ' := (1057, 55, I1, A2)) 1 rfl (ev_T.retz rfl rfl (by decide) (h4.1 c12))) (fun c12 => ev_T.adv (k' := 31) (ls' := [some (.ref 1010), some (.int x1), some (.ref x2), some (.ref x3), some (.int x4)]) (st' := [.int x4, .ref x3, .int (x1 + x4), .ref 1010]) (σ' := (1057, 55, I1, A2)) 6 rfl (ev_T.calli (m' := 184) (as := [.ref x3, .int x4]) (r := [.int (x1 + x4), .ref 1010]) (K' := fun z7 I5 A6 => ev_Bv d 32 0 [some (.ref 1010), some (.int (x1 + x4)), some (.int z7)] I5 A6 (fun I9 A10 => ev_Bi (d + 1) 37 14 [some (.ref 1010), some (.int x1), some (.ref x2), some (.ref x3), some (.int (x4 + 1))] I9 A10 K)) rfl (ev_scall1 hsx3 rfl) rfl (h4.2 c12) (fun z7 I5 A6 h8 => ev_T.callv (m' := 32) (as := [.ref 1010, .int (x1 + x4), .int z7]) (r := []) (K' := fun I9 A10 => ev_Bi (d + 1) 37 14 [some (.ref 1010), some (.int x1), some (.ref x2), some (.ref x3), some (.int (x4 + 1))] I9 A10 K) rfl rfl rfl h8 (fun I9 A10 h11 => ev_T.adv (k' := 14) (ls' := [some (.ref 1010), some (.int x1), some (.ref x2), some (.ref x3), some (.int (x4 + 1))]) (st' := []) (σ' := (1057, 55, I9, A10)) 2 rfl (h11)))))))
    · exact ev_T.adv (k' := 17) (ls' := [some (.ref 1028), some (.int x1), some (.ref x2), some (.ref x3), some (.int x4)]) (st' := [.ref x3, .int x4]) (σ' := (1057, 55, I, A)) 2 rfl (ev_T.calli (m' := 183) (as := [.ref x3]) (r := [.int x4]) (K' := fun z3 I1 A2 => ((z3 ≤ x4 → K 1 I1 A2) ∧ (¬ z3 ≤ x4 → ev_Bi d 184 0 [some (.ref x3), some (.int x4)] I1 A2 (fun z7 I5 A6 => ev_Bv d 32 0 [some (.ref 1028), some (.int (x1 + x4)), some (.int z7)] I5 A6 (fun I9 A10 => ev_Bi (d + 1) 37 14 [some (.ref 1028), some (.int x1), some (.ref x2), some (.ref x3), some (.int (x4 + 1))] I9 A10 K))))) rfl (ev_scall0 hsx3 rfl) rfl h (fun z3 I1 A2 h4 => ev_T.icmp_ge rfl (fun c12 => ev_T.adv (k' := 44) (ls' := [some (.ref 1028), some (.int x1), some (.ref x2), some (.ref x3), some (.int x4)]) (st' := [.int 1]) (σ' := (1057, 55, I1, A2)) 1 rfl (ev_T.retz rfl rfl (by decide) (h4.1 c12))) (fun c12 => ev_T.adv (k' := 31) (ls' := [some (.ref 1028), some (.int x1), some (.ref x2), some (.ref x3), some (.int x4)]) (st' := [.int x4, .ref x3, .int (x1 + x4), .ref 1028]) (σ' := (1057, 55, I1, A2)) 6 rfl (ev_T.calli (m' := 184) (as := [.ref x3, .int x4]) (r := [.int (x1 + x4), .ref 1028]) (K' := fun z7 I5 A6 => ev_Bv d 32 0 [some (.ref 1028), some (.int (x1 + x4)), some (.int z7)] I5 A6 (fun I9 A10 => ev_Bi (d + 1) 37 14 [some (.ref 1028), some (.int x1), some (.ref x2), some (.ref x3), some (.int (x4 + 1))] I9 A10 K)) rfl (ev_scall1 hsx3 rfl) rfl (h4.2 c12) (fun z7 I5 A6 h8 => ev_T.callv (m' := 32) (as := [.ref 1028, .int (x1 + x4), .int z7]) (r := []) (K' := fun I9 A10 => ev_Bi (d + 1) 37 14 [some (.ref 1028), some (.int x1), some (.ref x2), some (.ref x3), some (.int (x4 + 1))] I9 A10 K) rfl rfl rfl h8 (fun I9 A10 h11 => ev_T.adv (k' := 14) (ls' := [some (.ref 1028), some (.int x1), some (.ref x2), some (.ref x3), some (.int (x4 + 1))]) (st' := []) (σ' := (1057, 55, I9, A10)) 2 rfl (h11)))))))

/-! StemRules$Letters.changeEnd(Ljava/lang/String;Ljava/lang/String;)Z -/
set_option maxRecDepth 100000 in
theorem t_L_changeEnd_0 {d : Nat} {I A : Nat → Nat → Int32} {K : Int32 → (Nat → Nat → Int32) → (Nat → Nat → Int32) → Prop} {L : Nat} (hLL : ev_isL L) (x1 : Nat) (x2 : Nat)  (hsx1 : x1 < 110)
    (h : ev_Bi d 36 0 [some (.ref L), some (.ref x1)] I A (fun z3 I1 A2 => ((z3 = 0 → K 0 I1 A2) ∧ (¬ z3 = 0 → ev_Bi d 183 0 [some (.ref x1)] I1 A2 (fun z7 I5 A6 => ev_Bv d 34 0 [some (.ref L), some (.int ((I1 L 1) - z7))] I5 A6 (fun I9 A10 => ev_Bi (d + 1) 38 25 [some (.ref L), some (.ref x1), some (.ref x2), some (.int 0)] I9 A10 K)))))) :
    ev_Bi (d + 1) 38 0 [some (.ref L), some (.ref x1), some (.ref x2), none] I A K :=
  by
    rcases hLL with rfl | rfl | rfl
    · exact ev_T.adv (k' := 2) (ls' := [some (.ref 1008), some (.ref x1), some (.ref x2), none]) (st' := [.ref x1, .ref 1008]) (σ' := (1057, 55, I, A)) 2 rfl (ev_T.calli (m' := 36) (as := [.ref 1008, .ref x1]) (r := []) (K' := fun z3 I1 A2 => ((z3 = 0 → K 0 I1 A2) ∧ (¬ z3 = 0 → ev_Bi d 183 0 [some (.ref x1)] I1 A2 (fun z7 I5 A6 => ev_Bv d 34 0 [some (.ref 1008), some (.int ((I1 1008 1) - z7))] I5 A6 (fun I9 A10 => ev_Bi (d + 1) 38 25 [some (.ref 1008), some (.ref x1), some (.ref x2), some (.int 0)] I9 A10 K))))) rfl rfl rfl h (fun z3 I1 A2 h4 => ev_T.if_ne rfl (fun c12 => ev_T.adv (k' := 9) (ls' := [some (.ref 1008), some (.ref x1), some (.ref x2), none]) (st' := [.int 0]) (σ' := (1057, 55, I1, A2)) 1 rfl (ev_T.retz rfl rfl (by decide) (h4.1 c12))) (fun c12 => ev_T.adv (k' := 16) (ls' := [some (.ref 1008), some (.ref x1), some (.ref x2), none]) (st' := [.ref x1, .int (I1 1008 1), .ref 1008]) (σ' := (1057, 55, I1, A2)) 4 rfl (ev_T.calli (m' := 183) (as := [.ref x1]) (r := [.int (I1 1008 1), .ref 1008]) (K' := fun z7 I5 A6 => ev_Bv d 34 0 [some (.ref 1008), some (.int ((I1 1008 1) - z7))] I5 A6 (fun I9 A10 => ev_Bi (d + 1) 38 25 [some (.ref 1008), some (.ref x1), some (.ref x2), some (.int 0)] I9 A10 K)) rfl (ev_scall0 hsx1 rfl) rfl (h4.2 c12) (fun z7 I5 A6 h8 => ev_T.adv (k' := 20) (ls' := [some (.ref 1008), some (.ref x1), some (.ref x2), none]) (st' := [.int ((I1 1008 1) - z7), .ref 1008]) (σ' := (1057, 55, I5, A6)) 1 rfl (ev_T.callv (m' := 34) (as := [.ref 1008, .int ((I1 1008 1) - z7)]) (r := []) (K' := fun I9 A10 => ev_Bi (d + 1) 38 25 [some (.ref 1008), some (.ref x1), some (.ref x2), some (.int 0)] I9 A10 K) rfl rfl rfl h8 (fun I9 A10 h11 => ev_T.adv (k' := 25) (ls' := [some (.ref 1008), some (.ref x1), some (.ref x2), some (.int 0)]) (st' := []) (σ' := (1057, 55, I9, A10)) 2 rfl (h11))))))))
    · exact ev_T.adv (k' := 2) (ls' := [some (.ref 1010), some (.ref x1), some (.ref x2), none]) (st' := [.ref x1, .ref 1010]) (σ' := (1057, 55, I, A)) 2 rfl (ev_T.calli (m' := 36) (as := [.ref 1010, .ref x1]) (r := []) (K' := fun z3 I1 A2 => ((z3 = 0 → K 0 I1 A2) ∧ (¬ z3 = 0 → ev_Bi d 183 0 [some (.ref x1)] I1 A2 (fun z7 I5 A6 => ev_Bv d 34 0 [some (.ref 1010), some (.int ((I1 1010 1) - z7))] I5 A6 (fun I9 A10 => ev_Bi (d + 1) 38 25 [some (.ref 1010), some (.ref x1), some (.ref x2), some (.int 0)] I9 A10 K))))) rfl rfl rfl h (fun z3 I1 A2 h4 => ev_T.if_ne rfl (fun c12 => ev_T.adv (k' := 9) (ls' := [some (.ref 1010), some (.ref x1), some (.ref x2), none]) (st' := [.int 0]) (σ' := (1057, 55, I1, A2)) 1 rfl (ev_T.retz rfl rfl (by decide) (h4.1 c12))) (fun c12 => ev_T.adv (k' := 16) (ls' := [some (.ref 1010), some (.ref x1), some (.ref x2), none]) (st' := [.ref x1, .int (I1 1010 1), .ref 1010]) (σ' := (1057, 55, I1, A2)) 4 rfl (ev_T.calli (m' := 183) (as := [.ref x1]) (r := [.int (I1 1010 1), .ref 1010]) (K' := fun z7 I5 A6 => ev_Bv d 34 0 [some (.ref 1010), some (.int ((I1 1010 1) - z7))] I5 A6 (fun I9 A10 => ev_Bi (d + 1) 38 25 [some (.ref 1010), some (.ref x1), some (.ref x2), some (.int 0)] I9 A10 K)) rfl (ev_scall0 hsx1 rfl) rfl (h4.2 c12) (fun z7 I5 A6 h8 => ev_T.adv (k' := 20) (ls' := [some (.ref 1010), some (.ref x1), some (.ref x2), none]) (st' := [.int ((I1 1010 1) - z7), .ref 1010]) (σ' := (1057, 55, I5, A6)) 1 rfl (ev_T.callv (m' := 34) (as := [.ref 1010, .int ((I1 1010 1) - z7)]) (r := []) (K' := fun I9 A10 => ev_Bi (d + 1) 38 25 [some (.ref 1010), some (.ref x1), some (.ref x2), some (.int 0)] I9 A10 K) rfl rfl rfl h8 (fun I9 A10 h11 => ev_T.adv (k' := 25) (ls' := [some (.ref 1010), some (.ref x1), some (.ref x2), some (.int 0)]) (st' := []) (σ' := (1057, 55, I9, A10)) 2 rfl (h11))))))))
    · exact ev_T.adv (k' := 2) (ls' := [some (.ref 1028), some (.ref x1), some (.ref x2), none]) (st' := [.ref x1, .ref 1028]) (σ' := (1057, 55, I, A)) 2 rfl (ev_T.calli (m' := 36) (as := [.ref 1028, .ref x1]) (r := []) (K' := fun z3 I1 A2 => ((z3 = 0 → K 0 I1 A2) ∧ (¬ z3 = 0 → ev_Bi d 183 0 [some (.ref x1)] I1 A2 (fun z7 I5 A6 => ev_Bv d 34 0 [some (.ref 1028), some (.int ((I1 1028 1) - z7))] I5 A6 (fun I9 A10 => ev_Bi (d + 1) 38 25 [some (.ref 1028), some (.ref x1), some (.ref x2), some (.int 0)] I9 A10 K))))) rfl rfl rfl h (fun z3 I1 A2 h4 => ev_T.if_ne rfl (fun c12 => ev_T.adv (k' := 9) (ls' := [some (.ref 1028), some (.ref x1), some (.ref x2), none]) (st' := [.int 0]) (σ' := (1057, 55, I1, A2)) 1 rfl (ev_T.retz rfl rfl (by decide) (h4.1 c12))) (fun c12 => ev_T.adv (k' := 16) (ls' := [some (.ref 1028), some (.ref x1), some (.ref x2), none]) (st' := [.ref x1, .int (I1 1028 1), .ref 1028]) (σ' := (1057, 55, I1, A2)) 4 rfl (ev_T.calli (m' := 183) (as := [.ref x1]) (r := [.int (I1 1028 1), .ref 1028]) (K' := fun z7 I5 A6 => ev_Bv d 34 0 [some (.ref 1028), some (.int ((I1 1028 1) - z7))] I5 A6 (fun I9 A10 => ev_Bi (d + 1) 38 25 [some (.ref 1028), some (.ref x1), some (.ref x2), some (.int 0)] I9 A10 K)) rfl (ev_scall0 hsx1 rfl) rfl (h4.2 c12) (fun z7 I5 A6 h8 => ev_T.adv (k' := 20) (ls' := [some (.ref 1028), some (.ref x1), some (.ref x2), none]) (st' := [.int ((I1 1028 1) - z7), .ref 1028]) (σ' := (1057, 55, I5, A6)) 1 rfl (ev_T.callv (m' := 34) (as := [.ref 1028, .int ((I1 1028 1) - z7)]) (r := []) (K' := fun I9 A10 => ev_Bi (d + 1) 38 25 [some (.ref 1028), some (.ref x1), some (.ref x2), some (.int 0)] I9 A10 K) rfl rfl rfl h8 (fun I9 A10 h11 => ev_T.adv (k' := 25) (ls' := [some (.ref 1028), some (.ref x1), some (.ref x2), some (.int 0)]) (st' := []) (σ' := (1057, 55, I9, A10)) 2 rfl (h11))))))))
set_option maxRecDepth 100000 in
theorem t_L_changeEnd_25 {d : Nat} {I A : Nat → Nat → Int32} {K : Int32 → (Nat → Nat → Int32) → (Nat → Nat → Int32) → Prop} {L : Nat} (hLL : ev_isL L) (x1 : Nat) (x2 : Nat) (x3 : Int32)  (hsx2 : x2 < 110)
    (h : ev_Bi d 183 0 [some (.ref x2)] I A (fun z3 I1 A2 => ((z3 ≤ x3 → K 1 I1 A2) ∧ (¬ z3 ≤ x3 → ev_Bi d 184 0 [some (.ref x2), some (.int x3)] I1 A2 (fun z7 I5 A6 => ev_Bv d 33 0 [some (.ref L), some (.int z7)] I5 A6 (fun I9 A10 => ev_Bi (d + 1) 38 25 [some (.ref L), some (.ref x1), some (.ref x2), some (.int (x3 + 1))] I9 A10 K)))))) :
    ev_Bi (d + 1) 38 25 [some (.ref L), some (.ref x1), some (.ref x2), some (.int x3)] I A K :=
  by
    rcases hLL with rfl | rfl | rfl
    · exact ev_T.adv (k' := 27) (ls' := [some (.ref 1008), some (.ref x1), some (.ref x2), some (.int x3)]) (st' := [.ref x2, .int x3]) (σ' := (1057, 55, I, A)) 2 rfl (ev_T.calli (m' := 183) (as := [.ref x2]) (r := [.int x3]) (K' := fun z3 I1 A2 => ((z3 ≤ x3 → K 1 I1 A2) ∧ (¬ z3 ≤ x3 → ev_Bi d 184 0 [some (.ref x2), some (.int x3)] I1 A2 (fun z7 I5 A6 => ev_Bv d 33 0 [some (.ref 1008), some (.int z7)] I5 A6 (fun I9 A10 => ev_Bi (d + 1) 38 25 [some (.ref 1008), some (.ref x1), some (.ref x2), some (.int (x3 + 1))] I9 A10 K))))) rfl (ev_scall0 hsx2 rfl) rfl h (fun z3 I1 A2 h4 => ev_T.icmp_ge rfl (fun c12 => ev_T.adv (k' := 49) (ls' := [some (.ref 1008), some (.ref x1), some (.ref x2), some (.int x3)]) (st' := [.int 1]) (σ' := (1057, 55, I1, A2)) 1 rfl (ev_T.retz rfl rfl (by decide) (h4.1 c12))) (fun c12 => ev_T.adv (k' := 36) (ls' := [some (.ref 1008), some (.ref x1), some (.ref x2), some (.int x3)]) (st' := [.int x3, .ref x2, .ref 1008]) (σ' := (1057, 55, I1, A2)) 3 rfl (ev_T.calli (m' := 184) (as := [.ref x2, .int x3]) (r := [.ref 1008]) (K' := fun z7 I5 A6 => ev_Bv d 33 0 [some (.ref 1008), some (.int z7)] I5 A6 (fun I9 A10 => ev_Bi (d + 1) 38 25 [some (.ref 1008), some (.ref x1), some (.ref x2), some (.int (x3 + 1))] I9 A10 K)) rfl (ev_scall1 hsx2 rfl) rfl (h4.2 c12) (fun z7 I5 A6 h8 => ev_T.callv (m' := 33) (as := [.ref 1008, .int z7]) (r := []) (K' := fun I9 A10 => ev_Bi (d + 1) 38 25 [some (.ref 1008), some (.ref x1), some (.ref x2), some (.int (x3 + 1))] I9 A10 K) rfl rfl rfl h8 (fun I9 A10 h11 => ev_T.adv (k' := 25) (ls' := [some (.ref 1008), some (.ref x1), some (.ref x2), some (.int (x3 + 1))]) (st' := []) (σ' := (1057, 55, I9, A10)) 2 rfl (h11)))))))
    · exact ev_T.adv (k' := 27) (ls' := [some (.ref 1010), some (.ref x1), some (.ref x2), some (.int x3)]) (st' := [.ref x2, .int x3]) (σ' := (1057, 55, I, A)) 2 rfl (ev_T.calli (m' := 183) (as := [.ref x2]) (r := [.int x3]) (K' := fun z3 I1 A2 => ((z3 ≤ x3 → K 1 I1 A2) ∧ (¬ z3 ≤ x3 → ev_Bi d 184 0 [some (.ref x2), some (.int x3)] I1 A2 (fun z7 I5 A6 => ev_Bv d 33 0 [some (.ref 1010), some (.int z7)] I5 A6 (fun I9 A10 => ev_Bi (d + 1) 38 25 [some (.ref 1010), some (.ref x1), some (.ref x2), some (.int (x3 + 1))] I9 A10 K))))) rfl (ev_scall0 hsx2 rfl) rfl h (fun z3 I1 A2 h4 => ev_T.icmp_ge rfl (fun c12 => ev_T.adv (k' := 49) (ls' := [some (.ref 1010), some (.ref x1), some (.ref x2), some (.int x3)]) (st' := [.int 1]) (σ' := (1057, 55, I1, A2)) 1 rfl (ev_T.retz rfl rfl (by decide) (h4.1 c12))) (fun c12 => ev_T.adv (k' := 36) (ls' := [some (.ref 1010), some (.ref x1), some (.ref x2), some (.int x3)]) (st' := [.int x3, .ref x2, .ref 1010]) (σ' := (1057, 55, I1, A2)) 3 rfl (ev_T.calli (m' := 184) (as := [.ref x2, .int x3]) (r := [.ref 1010]) (K' := fun z7 I5 A6 => ev_Bv d 33 0 [some (.ref 1010), some (.int z7)] I5 A6 (fun I9 A10 => ev_Bi (d + 1) 38 25 [some (.ref 1010), some (.ref x1), some (.ref x2), some (.int (x3 + 1))] I9 A10 K)) rfl (ev_scall1 hsx2 rfl) rfl (h4.2 c12) (fun z7 I5 A6 h8 => ev_T.callv (m' := 33) (as := [.ref 1010, .int z7]) (r := []) (K' := fun I9 A10 => ev_Bi (d + 1) 38 25 [some (.ref 1010), some (.ref x1), some (.ref x2), some (.int (x3 + 1))] I9 A10 K) rfl rfl rfl h8 (fun I9 A10 h11 => ev_T.adv (k' := 25) (ls' := [some (.ref 1010), some (.ref x1), some (.ref x2), some (.int (x3 + 1))]) (st' := []) (σ' := (1057, 55, I9, A10)) 2 rfl (h11)))))))
    · exact ev_T.adv (k' := 27) (ls' := [some (.ref 1028), some (.ref x1), some (.ref x2), some (.int x3)]) (st' := [.ref x2, .int x3]) (σ' := (1057, 55, I, A)) 2 rfl (ev_T.calli (m' := 183) (as := [.ref x2]) (r := [.int x3]) (K' := fun z3 I1 A2 => ((z3 ≤ x3 → K 1 I1 A2) ∧ (¬ z3 ≤ x3 → ev_Bi d 184 0 [some (.ref x2), some (.int x3)] I1 A2 (fun z7 I5 A6 => ev_Bv d 33 0 [some (.ref 1028), some (.int z7)] I5 A6 (fun I9 A10 => ev_Bi (d + 1) 38 25 [some (.ref 1028), some (.ref x1), some (.ref x2), some (.int (x3 + 1))] I9 A10 K))))) rfl (ev_scall0 hsx2 rfl) rfl h (fun z3 I1 A2 h4 => ev_T.icmp_ge rfl (fun c12 => ev_T.adv (k' := 49) (ls' := [some (.ref 1028), some (.ref x1), some (.ref x2), some (.int x3)]) (st' := [.int 1]) (σ' := (1057, 55, I1, A2)) 1 rfl (ev_T.retz rfl rfl (by decide) (h4.1 c12))) (fun c12 => ev_T.adv (k' := 36) (ls' := [some (.ref 1028), some (.ref x1), some (.ref x2), some (.int x3)]) (st' := [.int x3, .ref x2, .ref 1028]) (σ' := (1057, 55, I1, A2)) 3 rfl (ev_T.calli (m' := 184) (as := [.ref x2, .int x3]) (r := [.ref 1028]) (K' := fun z7 I5 A6 => ev_Bv d 33 0 [some (.ref 1028), some (.int z7)] I5 A6 (fun I9 A10 => ev_Bi (d + 1) 38 25 [some (.ref 1028), some (.ref x1), some (.ref x2), some (.int (x3 + 1))] I9 A10 K)) rfl (ev_scall1 hsx2 rfl) rfl (h4.2 c12) (fun z7 I5 A6 h8 => ev_T.callv (m' := 33) (as := [.ref 1028, .int z7]) (r := []) (K' := fun I9 A10 => ev_Bi (d + 1) 38 25 [some (.ref 1028), some (.ref x1), some (.ref x2), some (.int (x3 + 1))] I9 A10 K) rfl rfl rfl h8 (fun I9 A10 h11 => ev_T.adv (k' := 25) (ls' := [some (.ref 1028), some (.ref x1), some (.ref x2), some (.int (x3 + 1))]) (st' := []) (σ' := (1057, 55, I9, A10)) 2 rfl (h11)))))))

/-! StemRules$Tape.size()I -/
set_option maxRecDepth 100000 in
theorem t_T_size_0 {d : Nat} {I A : Nat → Nat → Int32} {K : Int32 → (Nat → Nat → Int32) → (Nat → Nat → Int32) → Prop}     
    (h : K (I 1001 1) I A) :
    ev_Bi d 59 0 [some (.ref 1001)] I A K :=
  ev_T.adv (k' := 4) (ls' := [some (.ref 1001)]) (st' := [.int (I 1001 1)]) (σ' := (1057, 55, I, A)) 2 rfl (ev_T.reti rfl rfl h)

/-! StemRules$Tape.hasRoomForFive()Z -/
set_option maxRecDepth 100000 in
theorem t_T_hasRoomForFive_0 {d : Nat} {I A : Nat → Nat → Int32} {K : Int32 → (Nat → Nat → Int32) → (Nat → Nat → Int32) → Prop}     
    (h : (((400 : Int32) < ((I 1001 1) + 20) → K 0 I A) ∧ (¬ (400 : Int32) < ((I 1001 1) + 20) → K 1 I A))) :
    ev_Bi d 60 0 [some (.ref 1001)] I A K :=
  ev_T.adv (k' := 10) (ls' := [some (.ref 1001)]) (st' := [.int 400, .int ((I 1001 1) + 20)]) (σ' := (1057, 55, I, A)) 5 rfl (ev_T.icmp_gt rfl (fun c1 => ev_T.adv (k' := 18) (ls' := [some (.ref 1001)]) (st' := [.int 0]) (σ' := (1057, 55, I, A)) 1 rfl (ev_T.retz rfl rfl (by decide) (h.1 c1))) (fun c1 => ev_T.adv (k' := 18) (ls' := [some (.ref 1001)]) (st' := [.int 1]) (σ' := (1057, 55, I, A)) 2 rfl (ev_T.retz rfl rfl (by decide) (h.2 c1))))

/-! StemRules$Tape.addNumber(I)V -/
set_option maxRecDepth 100000 in
theorem t_T_addNumber_0 {d : Nat} {I A : Nat → Nat → Int32} {K : (Nat → Nat → Int32) → (Nat → Nat → Int32) → Prop}   (x1 : Int32)  
    (h : ev_Bv d 61 3 [some (.ref 1001), some (.int x1), some (.int 24)] I A K) :
    ev_Bv d 61 0 [some (.ref 1001), some (.int x1), none] I A K :=
  ev_T.adv (k' := 3) (ls' := [some (.ref 1001), some (.int x1), some (.int 24)]) (st' := []) (σ' := (1057, 55, I, A)) 2 rfl (h)
set_option maxRecDepth 100000 in
theorem t_T_addNumber_3 {d : Nat} {I A : Nat → Nat → Int32} {K : (Nat → Nat → Int32) → (Nat → Nat → Int32) → Prop}   (x1 : Int32) (x2 : Int32)  
    (h : ((x2 < 0 → K I A) ∧ (¬ x2 < 0 → (((400 : Int32) ≤ (I 1001 1) → ev_Bv d 61 44 [some (.ref 1001), some (.int x1), some (.int x2)] I A K) ∧ (¬ (400 : Int32) ≤ (I 1001 1) → (vp_in (I 1001 1) 400 ∧ ev_Bv d 61 44 [some (.ref 1001), some (.int x1), some (.int x2)] (ev_upd I 1001 1 ((I 1001 1) + 1)) (ev_upd A 1002 ((I 1001 1) : Int32).toNatClampNeg (vp_nar .char (ev_i2c ((ev_ushr x1 x2) &&& 255)))) K)))))) :
    ev_Bv d 61 3 [some (.ref 1001), some (.int x1), some (.int x2)] I A K :=
  ev_T.adv (k' := 4) (ls' := [some (.ref 1001), some (.int x1), some (.int x2)]) (st' := [.int x2]) (σ' := (1057, 55, I, A)) 1 rfl (ev_T.if_lt rfl (fun c2 => ev_T.retv rfl rfl (h.1 c2)) (fun c2 => ev_T.adv (k' := 14) (ls' := [some (.ref 1001), some (.int x1), some (.int x2)]) (st' := [.int 400, .int (I 1001 1)]) (σ' := (1057, 55, I, A)) 3 rfl (ev_T.icmp_ge rfl (fun c1 => ((h.2 c2).1 c1)) (fun c1 => ev_T.adv (k' := 33) (ls' := [some (.ref 1001), some (.int x1), some (.int x2)]) (st' := [.int (ev_i2c ((ev_ushr x1 x2) &&& 255)), .int (I 1001 1), .ref 1002]) (σ' := (1057, 55, I, A)) 10 rfl (ev_T.cast rfl ((h.2 c2).2 c1).1 (by decide) rfl (ev_T.adv (k' := 44) (ls' := [some (.ref 1001), some (.int x1), some (.int x2)]) (st' := []) (σ' := (1057, 55, (ev_upd I 1001 1 ((I 1001 1) + 1)), (ev_upd A 1002 ((I 1001 1) : Int32).toNatClampNeg (vp_nar .char (ev_i2c ((ev_ushr x1 x2) &&& 255)))))) 6 rfl (((h.2 c2).2 c1).2)))))))
set_option maxRecDepth 100000 in
theorem t_T_addNumber_44 {d : Nat} {I A : Nat → Nat → Int32} {K : (Nat → Nat → Int32) → (Nat → Nat → Int32) → Prop}   (x1 : Int32) (x2 : Int32)  
    (h : ev_Bv d 61 3 [some (.ref 1001), some (.int x1), some (.int (x2 + (-8)))] I A K) :
    ev_Bv d 61 44 [some (.ref 1001), some (.int x1), some (.int x2)] I A K :=
  ev_T.adv (k' := 3) (ls' := [some (.ref 1001), some (.int x1), some (.int (x2 + (-8)))]) (st' := []) (σ' := (1057, 55, I, A)) 2 rfl (h)

/-! StemRules$Tape.keep(I)V -/
set_option maxRecDepth 100000 in
theorem t_T_keep_0 {d : Nat} {I A : Nat → Nat → Int32} {K : (Nat → Nat → Int32) → (Nat → Nat → Int32) → Prop}   (x1 : Int32)  
    (h : ((x1 < 0 → K I A) ∧ (¬ x1 < 0 → (((I 1001 1) ≤ x1 → K I A) ∧ (¬ (I 1001 1) ≤ x1 → K (ev_upd I 1001 1 x1) A))))) :
    ev_Bv d 62 0 [some (.ref 1001), some (.int x1)] I A K :=
  ev_T.adv (k' := 1) (ls' := [some (.ref 1001), some (.int x1)]) (st' := [.int x1]) (σ' := (1057, 55, I, A)) 1 rfl (ev_T.if_lt rfl (fun c2 => ev_T.retv rfl rfl (h.1 c2)) (fun c2 => ev_T.adv (k' := 9) (ls' := [some (.ref 1001), some (.int x1)]) (st' := [.int (I 1001 1), .int x1]) (σ' := (1057, 55, I, A)) 3 rfl (ev_T.icmp_ge rfl (fun c1 => ev_T.retv rfl rfl ((h.2 c2).1 c1)) (fun c1 => ev_T.adv (k' := 17) (ls' := [some (.ref 1001), some (.int x1)]) (st' := []) (σ' := (1057, 55, (ev_upd I 1001 1 x1), A)) 3 rfl (ev_T.retv rfl rfl ((h.2 c2).2 c1))))))

/-! StemRules$Tape.byteAt(I)C -/
set_option maxRecDepth 100000 in
theorem t_T_byteAt_0 {d : Nat} {I A : Nat → Nat → Int32} {K : Int32 → (Nat → Nat → Int32) → (Nat → Nat → Int32) → Prop}   (x1 : Int32)  
    (h : ((x1 < 0 → K 0 I A) ∧ (¬ x1 < 0 → (((I 1001 1) ≤ x1 → K 0 I A) ∧ (¬ (I 1001 1) ≤ x1 → (vp_in x1 400 ∧ (ev_fit 3 (A 1002 (x1 : Int32).toNatClampNeg) = true ∧ K (A 1002 (x1 : Int32).toNatClampNeg) I A))))))) :
    ev_Bi d 63 0 [some (.ref 1001), some (.int x1)] I A K :=
  ev_T.adv (k' := 1) (ls' := [some (.ref 1001), some (.int x1)]) (st' := [.int x1]) (σ' := (1057, 55, I, A)) 1 rfl (ev_T.if_lt rfl (fun c2 => ev_T.adv (k' := 22) (ls' := [some (.ref 1001), some (.int x1)]) (st' := [.int 0]) (σ' := (1057, 55, I, A)) 1 rfl (ev_T.retz rfl rfl (by decide) (h.1 c2))) (fun c2 => ev_T.adv (k' := 9) (ls' := [some (.ref 1001), some (.int x1)]) (st' := [.int (I 1001 1), .int x1]) (σ' := (1057, 55, I, A)) 3 rfl (ev_T.icmp_ge rfl (fun c1 => ev_T.adv (k' := 22) (ls' := [some (.ref 1001), some (.int x1)]) (st' := [.int 0]) (σ' := (1057, 55, I, A)) 1 rfl (ev_T.retz rfl rfl (by decide) ((h.2 c2).1 c1))) (fun c1 => ev_T.adv (k' := 17) (ls' := [some (.ref 1001), some (.int x1)]) (st' := [.int x1, .ref 1002]) (σ' := (1057, 55, I, A)) 3 rfl (ev_T.cald (v := .int (A 1002 (x1 : Int32).toNatClampNeg)) rfl ((h.2 c2).2 c1).1 rfl rfl (ev_T.adv (k' := 22) (ls' := [some (.ref 1001), some (.int x1)]) (st' := [.int (A 1002 (x1 : Int32).toNatClampNeg)]) (σ' := (1057, 55, I, A)) 1 rfl (ev_T.retz rfl rfl ((h.2 c2).2 c1).2.1 ((h.2 c2).2 c1).2.2)))))))

/-! StemRules$Tape.letterAt(I)C -/
set_option maxRecDepth 100000 in
theorem t_T_letterAt_0 {d : Nat} {I A : Nat → Nat → Int32} {K : Int32 → (Nat → Nat → Int32) → (Nat → Nat → Int32) → Prop}   (x1 : Int32)  
    (h : ev_Bi d 63 0 [some (.ref 1001), some (.int x1)] I A (fun z3 I1 A2 => ((z3 < 65 → ev_Bi (d + 1) 64 27 [some (.ref 1001), some (.int x1), some (.int z3)] I1 A2 K) ∧ (¬ z3 < 65 → (((90 : Int32) < z3 → ev_Bi (d + 1) 64 27 [some (.ref 1001), some (.int x1), some (.int z3)] I1 A2 K) ∧ (¬ (90 : Int32) < z3 → (ev_fit 3 (ev_i2c ((z3 - 65) + 97)) = true ∧ K (ev_i2c ((z3 - 65) + 97)) I1 A2))))))) :
    ev_Bi (d + 1) 64 0 [some (.ref 1001), some (.int x1), none] I A K :=
  ev_T.adv (k' := 2) (ls' := [some (.ref 1001), some (.int x1), none]) (st' := [.int x1, .ref 1001]) (σ' := (1057, 55, I, A)) 2 rfl (ev_T.calli (m' := 63) (as := [.ref 1001, .int x1]) (r := []) (K' := fun z3 I1 A2 => ((z3 < 65 → ev_Bi (d + 1) 64 27 [some (.ref 1001), some (.int x1), some (.int z3)] I1 A2 K) ∧ (¬ z3 < 65 → (((90 : Int32) < z3 → ev_Bi (d + 1) 64 27 [some (.ref 1001), some (.int x1), some (.int z3)] I1 A2 K) ∧ (¬ (90 : Int32) < z3 → (ev_fit 3 (ev_i2c ((z3 - 65) + 97)) = true ∧ K (ev_i2c ((z3 - 65) + 97)) I1 A2)))))) rfl rfl rfl h (fun z3 I1 A2 h4 => ev_T.adv (k' := 9) (ls' := [some (.ref 1001), some (.int x1), some (.int z3)]) (st' := [.int 65, .int z3]) (σ' := (1057, 55, I1, A2)) 3 rfl (ev_T.icmp_lt rfl (fun c6 => (h4.1 c6)) (fun c6 => ev_T.adv (k' := 15) (ls' := [some (.ref 1001), some (.int x1), some (.int z3)]) (st' := [.int 90, .int z3]) (σ' := (1057, 55, I1, A2)) 2 rfl (ev_T.icmp_gt rfl (fun c5 => ((h4.2 c6).1 c5)) (fun c5 => ev_T.adv (k' := 26) (ls' := [some (.ref 1001), some (.int x1), some (.int z3)]) (st' := [.int (ev_i2c ((z3 - 65) + 97))]) (σ' := (1057, 55, I1, A2)) 6 rfl (ev_T.retz rfl rfl ((h4.2 c6).2 c5).1 ((h4.2 c6).2 c5).2)))))))
set_option maxRecDepth 100000 in
theorem t_T_letterAt_27 {d : Nat} {I A : Nat → Nat → Int32} {K : Int32 → (Nat → Nat → Int32) → (Nat → Nat → Int32) → Prop}   (x1 : Int32) (x2 : Int32)  
    (h : ((x2 < 97 → K 0 I A) ∧ (¬ x2 < 97 → (((122 : Int32) < x2 → K 0 I A) ∧ (¬ (122 : Int32) < x2 → (ev_fit 3 x2 = true ∧ K x2 I A)))))) :
    ev_Bi (d + 1) 64 27 [some (.ref 1001), some (.int x1), some (.int x2)] I A K :=
  ev_T.adv (k' := 30) (ls' := [some (.ref 1001), some (.int x1), some (.int x2)]) (st' := [.int 97, .int x2]) (σ' := (1057, 55, I, A)) 2 rfl (ev_T.icmp_lt rfl (fun c2 => ev_T.adv (k' := 44) (ls' := [some (.ref 1001), some (.int x1), some (.int x2)]) (st' := [.int 0]) (σ' := (1057, 55, I, A)) 1 rfl (ev_T.retz rfl rfl (by decide) (h.1 c2))) (fun c2 => ev_T.adv (k' := 36) (ls' := [some (.ref 1001), some (.int x1), some (.int x2)]) (st' := [.int 122, .int x2]) (σ' := (1057, 55, I, A)) 2 rfl (ev_T.icmp_gt rfl (fun c1 => ev_T.adv (k' := 44) (ls' := [some (.ref 1001), some (.int x1), some (.int x2)]) (st' := [.int 0]) (σ' := (1057, 55, I, A)) 1 rfl (ev_T.retz rfl rfl (by decide) ((h.2 c2).1 c1))) (fun c1 => ev_T.adv (k' := 44) (ls' := [some (.ref 1001), some (.int x1), some (.int x2)]) (st' := [.int x2]) (σ' := (1057, 55, I, A)) 2 rfl (ev_T.retz rfl rfl ((h.2 c2).2 c1).1 ((h.2 c2).2 c1).2)))))

/-! StemRules$Tape.joinsAt(I)Z -/
set_option maxRecDepth 100000 in
theorem t_T_joinsAt_0 {d : Nat} {I A : Nat → Nat → Int32} {K : Int32 → (Nat → Nat → Int32) → (Nat → Nat → Int32) → Prop}   (x1 : Int32)  
    (h : ev_Bi d 63 0 [some (.ref 1001), some (.int x1)] I A (fun z3 I1 A2 => ((z3 = 39 → ev_Bi d 64 0 [some (.ref 1001), some (.int (x1 - 1)), none] I1 A2 (fun z7 I5 A6 => ((z7 = 0 → K 0 I5 A6) ∧ (¬ z7 = 0 → ev_Bi d 64 0 [some (.ref 1001), some (.int (x1 + 1)), none] I5 A6 (fun z11 I9 A10 => ((z11 = 0 → K 0 I9 A10) ∧ (¬ z11 = 0 → K 1 I9 A10))))))) ∧ (¬ z3 = 39 → K 0 I1 A2)))) :
    ev_Bi (d + 1) 65 0 [some (.ref 1001), some (.int x1)] I A K :=
  ev_T.adv (k' := 2) (ls' := [some (.ref 1001), some (.int x1)]) (st' := [.int x1, .ref 1001]) (σ' := (1057, 55, I, A)) 2 rfl (ev_T.calli (m' := 63) (as := [.ref 1001, .int x1]) (r := []) (K' := fun z3 I1 A2 => ((z3 = 39 → ev_Bi d 64 0 [some (.ref 1001), some (.int (x1 - 1)), none] I1 A2 (fun z7 I5 A6 => ((z7 = 0 → K 0 I5 A6) ∧ (¬ z7 = 0 → ev_Bi d 64 0 [some (.ref 1001), some (.int (x1 + 1)), none] I5 A6 (fun z11 I9 A10 => ((z11 = 0 → K 0 I9 A10) ∧ (¬ z11 = 0 → K 1 I9 A10))))))) ∧ (¬ z3 = 39 → K 0 I1 A2))) rfl rfl rfl h (fun z3 I1 A2 h4 => ev_T.adv (k' := 7) (ls' := [some (.ref 1001), some (.int x1)]) (st' := [.int 39, .int z3]) (σ' := (1057, 55, I1, A2)) 1 rfl (ev_T.icmp_ne rfl (fun c15 => ev_T.adv (k' := 14) (ls' := [some (.ref 1001), some (.int x1)]) (st' := [.int (x1 - 1), .ref 1001]) (σ' := (1057, 55, I1, A2)) 4 rfl (ev_T.calli (m' := 64) (as := [.ref 1001, .int (x1 - 1)]) (r := []) (K' := fun z7 I5 A6 => ((z7 = 0 → K 0 I5 A6) ∧ (¬ z7 = 0 → ev_Bi d 64 0 [some (.ref 1001), some (.int (x1 + 1)), none] I5 A6 (fun z11 I9 A10 => ((z11 = 0 → K 0 I9 A10) ∧ (¬ z11 = 0 → K 1 I9 A10)))))) rfl rfl rfl (h4.1 c15) (fun z7 I5 A6 h8 => ev_T.if_eq rfl (fun c14 => ev_T.adv (k' := 35) (ls' := [some (.ref 1001), some (.int x1)]) (st' := [.int 0]) (σ' := (1057, 55, I5, A6)) 1 rfl (ev_T.retz rfl rfl (by decide) (h8.1 c14))) (fun c14 => ev_T.adv (k' := 24) (ls' := [some (.ref 1001), some (.int x1)]) (st' := [.int (x1 + 1), .ref 1001]) (σ' := (1057, 55, I5, A6)) 4 rfl (ev_T.calli (m' := 64) (as := [.ref 1001, .int (x1 + 1)]) (r := []) (K' := fun z11 I9 A10 => ((z11 = 0 → K 0 I9 A10) ∧ (¬ z11 = 0 → K 1 I9 A10))) rfl rfl rfl (h8.2 c14) (fun z11 I9 A10 h12 => ev_T.if_eq rfl (fun c13 => ev_T.adv (k' := 35) (ls' := [some (.ref 1001), some (.int x1)]) (st' := [.int 0]) (σ' := (1057, 55, I9, A10)) 1 rfl (ev_T.retz rfl rfl (by decide) (h12.1 c13))) (fun c13 => ev_T.adv (k' := 35) (ls' := [some (.ref 1001), some (.int x1)]) (st' := [.int 1]) (σ' := (1057, 55, I9, A10)) 2 rfl (ev_T.retz rfl rfl (by decide) (h12.2 c13))))))))) (fun c15 => ev_T.adv (k' := 35) (ls' := [some (.ref 1001), some (.int x1)]) (st' := [.int 0]) (σ' := (1057, 55, I1, A2)) 1 rfl (ev_T.retz rfl rfl (by decide) (h4.2 c15))))))

/-! StemRules$Tape.copyAsWord(LStemRules$Letters;)Z -/
set_option maxRecDepth 100000 in
theorem t_T_copyAsWord_0 {d : Nat} {I A : Nat → Nat → Int32} {K : Int32 → (Nat → Nat → Int32) → (Nat → Nat → Int32) → Prop} {L : Nat} (hLL : ev_isL L)   
    (h : ev_Bv d 34 0 [some (.ref L), some (.int 0)] I A (fun I1 A2 => (((I1 1001 1) < 1 → K 0 I1 A2) ∧ (¬ (I1 1001 1) < 1 → (((I1 1001 1) ≤ 24 → ev_Bi (d + 1) 66 26 [some (.ref 1001), some (.ref L), some (.int 0), none] I1 A2 K) ∧ (¬ (I1 1001 1) ≤ 24 → K 0 I1 A2)))))) :
    ev_Bi (d + 1) 66 0 [some (.ref 1001), some (.ref L), none, none] I A K :=
  by
    rcases hLL with rfl | rfl | rfl
    · exact ev_T.adv (k' := 2) (ls' := [some (.ref 1001), some (.ref 1008), none, none]) (st' := [.int 0, .ref 1008]) (σ' := (1057, 55, I, A)) 2 rfl (ev_T.callv (m' := 34) (as := [.ref 1008, .int 0]) (r := []) (K' := fun I1 A2 => (((I1 1001 1) < 1 → K 0 I1 A2) ∧ (¬ (I1 1001 1) < 1 → (((I1 1001 1) ≤ 24 → ev_Bi (d + 1) 66 26 [some (.ref 1001), some (.ref 1008), some (.int 0), none] I1 A2 K) ∧ (¬ (I1 1001 1) ≤ 24 → K 0 I1 A2))))) rfl rfl rfl h (fun I1 A2 h3 => ev_T.adv (k' := 10) (ls' := [some (.ref 1001), some (.ref 1008), none, none]) (st' := [.int 1, .int (I1 1001 1)]) (σ' := (1057, 55, I1, A2)) 3 rfl (ev_T.icmp_lt rfl (fun c5 => ev_T.adv (k' := 23) (ls' := [some (.ref 1001), some (.ref 1008), none, none]) (st' := [.int 0]) (σ' := (1057, 55, I1, A2)) 1 rfl (ev_T.retz rfl rfl (by decide) (h3.1 c5))) (fun c5 => ev_T.adv (k' := 19) (ls' := [some (.ref 1001), some (.ref 1008), none, none]) (st' := [.int 24, .int (I1 1001 1)]) (σ' := (1057, 55, I1, A2)) 3 rfl (ev_T.icmp_le rfl (fun c4 => ev_T.adv (k' := 26) (ls' := [some (.ref 1001), some (.ref 1008), some (.int 0), none]) (st' := []) (σ' := (1057, 55, I1, A2)) 2 rfl (((h3.2 c5).1 c4))) (fun c4 => ev_T.adv (k' := 23) (ls' := [some (.ref 1001), some (.ref 1008), none, none]) (st' := [.int 0]) (σ' := (1057, 55, I1, A2)) 1 rfl (ev_T.retz rfl rfl (by decide) ((h3.2 c5).2 c4))))))))
    · exact ev_T.adv (k' := 2) (ls' := [some (.ref 1001), some (.ref 1010), none, none]) (st' := [.int 0, .ref 1010]) (σ' := (1057, 55, I, A)) 2 rfl (ev_T.callv (m' := 34) (as := [.ref 1010, .int 0]) (r := []) (K' := fun I1 A2 => (((I1 1001 1) < 1 → K 0 I1 A2) ∧ (¬ (I1 1001 1) < 1 → (((I1 1001 1) ≤ 24 → ev_Bi (d + 1) 66 26 [some (.ref 1001), some (.ref 1010), some (.int 0), none] I1 A2 K) ∧ (¬ (I1 1001 1) ≤ 24 → K 0 I1 A2))))) rfl rfl rfl h (fun I1 A2 h3 => ev_T.adv (k' := 10) (ls' := [some (.ref 1001), some (.ref 1010), none, none]) (st' := [.int 1, .int (I1 1001 1)]) (σ' := (1057, 55, I1, A2)) 3 rfl (ev_T.icmp_lt rfl (fun c5 => ev_T.adv (k' := 23) (ls' := [some (.ref 1001), some (.ref 1010), none, none]) (st' := [.int 0]) (σ' := (1057, 55, I1, A2)) 1 rfl (ev_T.retz rfl rfl (by decide) (h3.1 c5))) (fun c5 => ev_T.adv (k' := 19) (ls' := [some (.ref 1001), some (.ref 1010), none, none]) (st' := [.int 24, .int (I1 1001 1)]) (σ' := (1057, 55, I1, A2)) 3 rfl (ev_T.icmp_le rfl (fun c4 => ev_T.adv (k' := 26) (ls' := [some (.ref 1001), some (.ref 1010), some (.int 0), none]) (st' := []) (σ' := (1057, 55, I1, A2)) 2 rfl (((h3.2 c5).1 c4))) (fun c4 => ev_T.adv (k' := 23) (ls' := [some (.ref 1001), some (.ref 1010), none, none]) (st' := [.int 0]) (σ' := (1057, 55, I1, A2)) 1 rfl (ev_T.retz rfl rfl (by decide) ((h3.2 c5).2 c4))))))))
    · exact ev_T.adv (k' := 2) (ls' := [some (.ref 1001), some (.ref 1028), none, none]) (st' := [.int 0, .ref 1028]) (σ' := (1057, 55, I, A)) 2 rfl (ev_T.callv (m' := 34) (as := [.ref 1028, .int 0]) (r := []) (K' := fun I1 A2 => (((I1 1001 1) < 1 → K 0 I1 A2) ∧ (¬ (I1 1001 1) < 1 → (((I1 1001 1) ≤ 24 → ev_Bi (d + 1) 66 26 [some (.ref 1001), some (.ref 1028), some (.int 0), none] I1 A2 K) ∧ (¬ (I1 1001 1) ≤ 24 → K 0 I1 A2))))) rfl rfl rfl h (fun I1 A2 h3 => ev_T.adv (k' := 10) (ls' := [some (.ref 1001), some (.ref 1028), none, none]) (st' := [.int 1, .int (I1 1001 1)]) (σ' := (1057, 55, I1, A2)) 3 rfl (ev_T.icmp_lt rfl (fun c5 => ev_T.adv (k' := 23) (ls' := [some (.ref 1001), some (.ref 1028), none, none]) (st' := [.int 0]) (σ' := (1057, 55, I1, A2)) 1 rfl (ev_T.retz rfl rfl (by decide) (h3.1 c5))) (fun c5 => ev_T.adv (k' := 19) (ls' := [some (.ref 1001), some (.ref 1028), none, none]) (st' := [.int 24, .int (I1 1001 1)]) (σ' := (1057, 55, I1, A2)) 3 rfl (ev_T.icmp_le rfl (fun c4 => ev_T.adv (k' := 26) (ls' := [some (.ref 1001), some (.ref 1028), some (.int 0), none]) (st' := []) (σ' := (1057, 55, I1, A2)) 2 rfl (((h3.2 c5).1 c4))) (fun c4 => ev_T.adv (k' := 23) (ls' := [some (.ref 1001), some (.ref 1028), none, none]) (st' := [.int 0]) (σ' := (1057, 55, I1, A2)) 1 rfl (ev_T.retz rfl rfl (by decide) ((h3.2 c5).2 c4))))))))
set_option maxRecDepth 100000 in
theorem t_T_copyAsWord_26 {d : Nat} {I A : Nat → Nat → Int32} {K : Int32 → (Nat → Nat → Int32) → (Nat → Nat → Int32) → Prop} {L : Nat} (hLL : ev_isL L) (x2 : Int32) (o3 : Option Value)  
    (h : (((I 1001 1) ≤ x2 → K 1 I A) ∧ (¬ (I 1001 1) ≤ x2 → (vp_in x2 400 ∧ (((A 1002 (x2 : Int32).toNatClampNeg) < 97 → K 0 I A) ∧ (¬ (A 1002 (x2 : Int32).toNatClampNeg) < 97 → (((A 1002 (x2 : Int32).toNatClampNeg) ≤ 122 → ev_Bv d 33 0 [some (.ref L), some (.int (A 1002 (x2 : Int32).toNatClampNeg))] I A (fun I1 A2 => ev_Bi (d + 1) 66 26 [some (.ref 1001), some (.ref L), some (.int (x2 + 1)), some (.int (A 1002 (x2 : Int32).toNatClampNeg))] I1 A2 K)) ∧ (¬ (A 1002 (x2 : Int32).toNatClampNeg) ≤ 122 → K 0 I A)))))))) :
    ev_Bi (d + 1) 66 26 [some (.ref 1001), some (.ref L), some (.int x2), o3] I A K :=
  by
    rcases hLL with rfl | rfl | rfl
    · exact ev_T.adv (k' := 31) (ls' := [some (.ref 1001), some (.ref 1008), some (.int x2), o3]) (st' := [.int (I 1001 1), .int x2]) (σ' := (1057, 55, I, A)) 3 rfl (ev_T.icmp_ge rfl (fun c6 => ev_T.adv (k' := 67) (ls' := [some (.ref 1001), some (.ref 1008), some (.int x2), o3]) (st' := [.int 1]) (σ' := (1057, 55, I, A)) 1 rfl (ev_T.retz rfl rfl (by decide) (h.1 c6))) (fun c6 => ev_T.adv (k' := 39) (ls' := [some (.ref 1001), some (.ref 1008), some (.int x2), o3]) (st' := [.int x2, .ref 1002]) (σ' := (1057, 55, I, A)) 3 rfl (ev_T.cald (v := .int (A 1002 (x2 : Int32).toNatClampNeg)) rfl (h.2 c6).1 rfl rfl (ev_T.adv (k' := 44) (ls' := [some (.ref 1001), some (.ref 1008), some (.int x2), some (.int (A 1002 (x2 : Int32).toNatClampNeg))]) (st' := [.int 97, .int (A 1002 (x2 : Int32).toNatClampNeg)]) (σ' := (1057, 55, I, A)) 3 rfl (ev_T.icmp_lt rfl (fun c5 => ev_T.adv (k' := 54) (ls' := [some (.ref 1001), some (.ref 1008), some (.int x2), some (.int (A 1002 (x2 : Int32).toNatClampNeg))]) (st' := [.int 0]) (σ' := (1057, 55, I, A)) 1 rfl (ev_T.retz rfl rfl (by decide) ((h.2 c6).2.1 c5))) (fun c5 => ev_T.adv (k' := 50) (ls' := [some (.ref 1001), some (.ref 1008), some (.int x2), some (.int (A 1002 (x2 : Int32).toNatClampNeg))]) (st' := [.int 122, .int (A 1002 (x2 : Int32).toNatClampNeg)]) (σ' := (1057, 55, I, A)) 2 rfl (ev_T.icmp_le rfl (fun c4 => ev_T.adv (k' := 57) (ls' := [some (.ref 1001), some (.ref 1008), some (.int x2), some (.int (A 1002 (x2 : Int32).toNatClampNeg))]) (st' := [.int (A 1002 (x2 : Int32).toNatClampNeg), .ref 1008]) (σ' := (1057, 55, I, A)) 2 rfl (ev_T.callv (m' := 33) (as := [.ref 1008, .int (A 1002 (x2 : Int32).toNatClampNeg)]) (r := []) (K' := fun I1 A2 => ev_Bi (d + 1) 66 26 [some (.ref 1001), some (.ref 1008), some (.int (x2 + 1)), some (.int (A 1002 (x2 : Int32).toNatClampNeg))] I1 A2 K) rfl rfl rfl (((h.2 c6).2.2 c5).1 c4) (fun I1 A2 h3 => ev_T.adv (k' := 26) (ls' := [some (.ref 1001), some (.ref 1008), some (.int (x2 + 1)), some (.int (A 1002 (x2 : Int32).toNatClampNeg))]) (st' := []) (σ' := (1057, 55, I1, A2)) 2 rfl (h3)))) (fun c4 => ev_T.adv (k' := 54) (ls' := [some (.ref 1001), some (.ref 1008), some (.int x2), some (.int (A 1002 (x2 : Int32).toNatClampNeg))]) (st' := [.int 0]) (σ' := (1057, 55, I, A)) 1 rfl (ev_T.retz rfl rfl (by decide) (((h.2 c6).2.2 c5).2 c4))))))))))
    · exact ev_T.adv (k' := 31) (ls' := [some (.ref 1001), some (.ref 1010), some (.int x2), o3]) (st' := [.int (I 1001 1), .int x2]) (σ' := (1057, 55, I, A)) 3 rfl (ev_T.icmp_ge rfl (fun c6 => ev_T.adv (k' := 67) (ls' := [some (.ref 1001), some (.ref 1010), some (.int x2), o3]) (st' := [.int 1]) (σ' := (1057, 55, I, A)) 1 rfl (ev_T.retz rfl rfl (by decide) (h.1 c6))) (fun c6 => ev_T.adv (k' := 39) (ls' := [some (.ref 1001), some (.ref 1010), some (.int x2), o3]) (st' := [.int x2, .ref 1002]) (σ' := (1057, 55, I, A)) 3 rfl (ev_T.cald (v := .int (A 1002 (x2 : Int32).toNatClampNeg)) rfl (h.2 c6).1 rfl rfl (ev_T.adv (k' := 44) (ls' := [some (.ref 1001), some (.ref 1010), some (.int x2), some (.int (A 1002 (x2 : Int32).toNatClampNeg))]) (st' := [.int 97, .int (A 1002 (x2 : Int32).toNatClampNeg)]) (σ' := (1057, 55, I, A)) 3 rfl (ev_T.icmp_lt rfl (fun c5 => ev_T.adv (k' := 54) (ls' := [some (.ref 1001), some (.ref 1010), some (.int x2), some (.int (A 1002 (x2 : Int32).toNatClampNeg))]) (st' := [.int 0]) (σ' := (1057, 55, I, A)) 1 rfl (ev_T.retz rfl rfl (by decide) ((h.2 c6).2.1 c5))) (fun c5 => ev_T.adv (k' := 50) (ls' := [some (.ref 1001), some (.ref 1010), some (.int x2), some (.int (A 1002 (x2 : Int32).toNatClampNeg))]) (st' := [.int 122, .int (A 1002 (x2 : Int32).toNatClampNeg)]) (σ' := (1057, 55, I, A)) 2 rfl (ev_T.icmp_le rfl (fun c4 => ev_T.adv (k' := 57) (ls' := [some (.ref 1001), some (.ref 1010), some (.int x2), some (.int (A 1002 (x2 : Int32).toNatClampNeg))]) (st' := [.int (A 1002 (x2 : Int32).toNatClampNeg), .ref 1010]) (σ' := (1057, 55, I, A)) 2 rfl (ev_T.callv (m' := 33) (as := [.ref 1010, .int (A 1002 (x2 : Int32).toNatClampNeg)]) (r := []) (K' := fun I1 A2 => ev_Bi (d + 1) 66 26 [some (.ref 1001), some (.ref 1010), some (.int (x2 + 1)), some (.int (A 1002 (x2 : Int32).toNatClampNeg))] I1 A2 K) rfl rfl rfl (((h.2 c6).2.2 c5).1 c4) (fun I1 A2 h3 => ev_T.adv (k' := 26) (ls' := [some (.ref 1001), some (.ref 1010), some (.int (x2 + 1)), some (.int (A 1002 (x2 : Int32).toNatClampNeg))]) (st' := []) (σ' := (1057, 55, I1, A2)) 2 rfl (h3)))) (fun c4 => ev_T.adv (k' := 54) (ls' := [some (.ref 1001), some (.ref 1010), some (.int x2), some (.int (A 1002 (x2 : Int32).toNatClampNeg))]) (st' := [.int 0]) (σ' := (1057, 55, I, A)) 1 rfl (ev_T.retz rfl rfl (by decide) (((h.2 c6).2.2 c5).2 c4))))))))))
    · exact ev_T.adv (k' := 31) (ls' := [some (.ref 1001), some (.ref 1028), some (.int x2), o3]) (st' := [.int (I 1001 1), .int x2]) (σ' := (1057, 55, I, A)) 3 rfl (ev_T.icmp_ge rfl (fun c6 => ev_T.adv (k' := 67) (ls' := [some (.ref 1001), some (.ref 1028), some (.int x2), o3]) (st' := [.int 1]) (σ' := (1057, 55, I, A)) 1 rfl (ev_T.retz rfl rfl (by decide) (h.1 c6))) (fun c6 => ev_T.adv (k' := 39) (ls' := [some (.ref 1001), some (.ref 1028), some (.int x2), o3]) (st' := [.int x2, .ref 1002]) (σ' := (1057, 55, I, A)) 3 rfl (ev_T.cald (v := .int (A 1002 (x2 : Int32).toNatClampNeg)) rfl (h.2 c6).1 rfl rfl (ev_T.adv (k' := 44) (ls' := [some (.ref 1001), some (.ref 1028), some (.int x2), some (.int (A 1002 (x2 : Int32).toNatClampNeg))]) (st' := [.int 97, .int (A 1002 (x2 : Int32).toNatClampNeg)]) (σ' := (1057, 55, I, A)) 3 rfl (ev_T.icmp_lt rfl (fun c5 => ev_T.adv (k' := 54) (ls' := [some (.ref 1001), some (.ref 1028), some (.int x2), some (.int (A 1002 (x2 : Int32).toNatClampNeg))]) (st' := [.int 0]) (σ' := (1057, 55, I, A)) 1 rfl (ev_T.retz rfl rfl (by decide) ((h.2 c6).2.1 c5))) (fun c5 => ev_T.adv (k' := 50) (ls' := [some (.ref 1001), some (.ref 1028), some (.int x2), some (.int (A 1002 (x2 : Int32).toNatClampNeg))]) (st' := [.int 122, .int (A 1002 (x2 : Int32).toNatClampNeg)]) (σ' := (1057, 55, I, A)) 2 rfl (ev_T.icmp_le rfl (fun c4 => ev_T.adv (k' := 57) (ls' := [some (.ref 1001), some (.ref 1028), some (.int x2), some (.int (A 1002 (x2 : Int32).toNatClampNeg))]) (st' := [.int (A 1002 (x2 : Int32).toNatClampNeg), .ref 1028]) (σ' := (1057, 55, I, A)) 2 rfl (ev_T.callv (m' := 33) (as := [.ref 1028, .int (A 1002 (x2 : Int32).toNatClampNeg)]) (r := []) (K' := fun I1 A2 => ev_Bi (d + 1) 66 26 [some (.ref 1001), some (.ref 1028), some (.int (x2 + 1)), some (.int (A 1002 (x2 : Int32).toNatClampNeg))] I1 A2 K) rfl rfl rfl (((h.2 c6).2.2 c5).1 c4) (fun I1 A2 h3 => ev_T.adv (k' := 26) (ls' := [some (.ref 1001), some (.ref 1028), some (.int (x2 + 1)), some (.int (A 1002 (x2 : Int32).toNatClampNeg))]) (st' := []) (σ' := (1057, 55, I1, A2)) 2 rfl (h3)))) (fun c4 => ev_T.adv (k' := 54) (ls' := [some (.ref 1001), some (.ref 1028), some (.int x2), some (.int (A 1002 (x2 : Int32).toNatClampNeg))]) (st' := [.int 0]) (σ' := (1057, 55, I, A)) 1 rfl (ev_T.retz rfl rfl (by decide) (((h.2 c6).2.2 c5).2 c4))))))))))

/-! StemRules$Words.count()I -/
set_option maxRecDepth 100000 in
theorem t_W_count_0 {d : Nat} {I A : Nat → Nat → Int32} {K : Int32 → (Nat → Nat → Int32) → (Nat → Nat → Int32) → Prop}     
    (h : K (I 1003 4) I A) :
    ev_Bi d 77 0 [some (.ref 1003)] I A K :=
  ev_T.adv (k' := 4) (ls' := [some (.ref 1003)]) (st' := [.int (I 1003 4)]) (σ' := (1057, 55, I, A)) 2 rfl (ev_T.reti rfl rfl h)

/-! StemRules$Words.knows(I)Z -/
set_option maxRecDepth 100000 in
theorem t_W_knows_0 {d : Nat} {I A : Nat → Nat → Int32} {K : Int32 → (Nat → Nat → Int32) → (Nat → Nat → Int32) → Prop}   (x1 : Int32)  
    (h : ((x1 < 0 → K 0 I A) ∧ (¬ x1 < 0 → (((I 1003 4) ≤ x1 → K 0 I A) ∧ (¬ (I 1003 4) ≤ x1 → K 1 I A))))) :
    ev_Bi d 78 0 [some (.ref 1003), some (.int x1)] I A K :=
  ev_T.adv (k' := 1) (ls' := [some (.ref 1003), some (.int x1)]) (st' := [.int x1]) (σ' := (1057, 55, I, A)) 1 rfl (ev_T.if_lt rfl (fun c2 => ev_T.adv (k' := 17) (ls' := [some (.ref 1003), some (.int x1)]) (st' := [.int 0]) (σ' := (1057, 55, I, A)) 1 rfl (ev_T.retz rfl rfl (by decide) (h.1 c2))) (fun c2 => ev_T.adv (k' := 9) (ls' := [some (.ref 1003), some (.int x1)]) (st' := [.int (I 1003 4), .int x1]) (σ' := (1057, 55, I, A)) 3 rfl (ev_T.icmp_ge rfl (fun c1 => ev_T.adv (k' := 17) (ls' := [some (.ref 1003), some (.int x1)]) (st' := [.int 0]) (σ' := (1057, 55, I, A)) 1 rfl (ev_T.retz rfl rfl (by decide) ((h.2 c2).1 c1))) (fun c1 => ev_T.adv (k' := 17) (ls' := [some (.ref 1003), some (.int x1)]) (st' := [.int 1]) (σ' := (1057, 55, I, A)) 2 rfl (ev_T.retz rfl rfl (by decide) ((h.2 c2).2 c1))))))

/-! StemRules$Words.knowsOrNone(I)Z -/
set_option maxRecDepth 100000 in
theorem t_W_knowsOrNone_0 {d : Nat} {I A : Nat → Nat → Int32} {K : Int32 → (Nat → Nat → Int32) → (Nat → Nat → Int32) → Prop}   (x1 : Int32)  
    (h : ((x1 = (-5) → K 1 I A) ∧ (¬ x1 = (-5) → ev_Bi d 78 0 [some (.ref 1003), some (.int x1)] I A (fun z3 I1 A2 => ((z3 = 0 → K 0 I1 A2) ∧ (¬ z3 = 0 → K 1 I1 A2)))))) :
    ev_Bi (d + 1) 79 0 [some (.ref 1003), some (.int x1)] I A K :=
  ev_T.adv (k' := 3) (ls' := [some (.ref 1003), some (.int x1)]) (st' := [.int (-5), .int x1]) (σ' := (1057, 55, I, A)) 2 rfl (ev_T.icmp_eq rfl (fun c6 => ev_T.adv (k' := 19) (ls' := [some (.ref 1003), some (.int x1)]) (st' := [.int 1]) (σ' := (1057, 55, I, A)) 2 rfl (ev_T.retz rfl rfl (by decide) (h.1 c6))) (fun c6 => ev_T.adv (k' := 8) (ls' := [some (.ref 1003), some (.int x1)]) (st' := [.int x1, .ref 1003]) (σ' := (1057, 55, I, A)) 2 rfl (ev_T.calli (m' := 78) (as := [.ref 1003, .int x1]) (r := []) (K' := fun z3 I1 A2 => ((z3 = 0 → K 0 I1 A2) ∧ (¬ z3 = 0 → K 1 I1 A2))) rfl rfl rfl (h.2 c6) (fun z3 I1 A2 h4 => ev_T.if_eq rfl (fun c5 => ev_T.adv (k' := 19) (ls' := [some (.ref 1003), some (.int x1)]) (st' := [.int 0]) (σ' := (1057, 55, I1, A2)) 1 rfl (ev_T.retz rfl rfl (by decide) (h4.1 c5))) (fun c5 => ev_T.adv (k' := 19) (ls' := [some (.ref 1003), some (.int x1)]) (st' := [.int 1]) (σ' := (1057, 55, I1, A2)) 2 rfl (ev_T.retz rfl rfl (by decide) (h4.2 c5)))))))

/-! StemRules$Words.sizeOf(I)I -/
set_option maxRecDepth 100000 in
theorem t_W_sizeOf_0 {d : Nat} {I A : Nat → Nat → Int32} {K : Int32 → (Nat → Nat → Int32) → (Nat → Nat → Int32) → Prop}   (x1 : Int32)  
    (h : ev_Bi d 78 0 [some (.ref 1003), some (.int x1)] I A (fun z3 I1 A2 => ((z3 = 0 → K 0 I1 A2) ∧ (¬ z3 = 0 → (vp_in x1 150 ∧ K (A2 1005 (x1 : Int32).toNatClampNeg) I1 A2))))) :
    ev_Bi (d + 1) 80 0 [some (.ref 1003), some (.int x1)] I A K :=
  ev_T.adv (k' := 2) (ls' := [some (.ref 1003), some (.int x1)]) (st' := [.int x1, .ref 1003]) (σ' := (1057, 55, I, A)) 2 rfl (ev_T.calli (m' := 78) (as := [.ref 1003, .int x1]) (r := []) (K' := fun z3 I1 A2 => ((z3 = 0 → K 0 I1 A2) ∧ (¬ z3 = 0 → (vp_in x1 150 ∧ K (A2 1005 (x1 : Int32).toNatClampNeg) I1 A2)))) rfl rfl rfl h (fun z3 I1 A2 h4 => ev_T.if_eq rfl (fun c5 => ev_T.adv (k' := 18) (ls' := [some (.ref 1003), some (.int x1)]) (st' := [.int 0]) (σ' := (1057, 55, I1, A2)) 1 rfl (ev_T.reti rfl rfl (h4.1 c5))) (fun c5 => ev_T.adv (k' := 13) (ls' := [some (.ref 1003), some (.int x1)]) (st' := [.int x1, .ref 1005]) (σ' := (1057, 55, I1, A2)) 3 rfl (ev_T.iald (v := .int (A2 1005 (x1 : Int32).toNatClampNeg)) rfl (h4.2 c5).1 rfl rfl (ev_T.adv (k' := 18) (ls' := [some (.ref 1003), some (.int x1)]) (st' := [.int (A2 1005 (x1 : Int32).toNatClampNeg)]) (σ' := (1057, 55, I1, A2)) 1 rfl (ev_T.reti rfl rfl (h4.2 c5).2))))))

/-! StemRules$Words.copyTo(ILStemRules$Letters;)V -/
set_option maxRecDepth 100000 in
theorem t_W_copyTo_0 {d : Nat} {I A : Nat → Nat → Int32} {K : (Nat → Nat → Int32) → (Nat → Nat → Int32) → Prop} {L : Nat} (hLL : ev_isL L) (x1 : Int32)  
    (h : ev_Bv d 34 0 [some (.ref L), some (.int 0)] I A (fun I1 A2 => ev_Bv d 82 0 [some (.ref 1003), some (.int x1), some (.int 0), some (.ref L), none] I1 A2 (fun I4 A5 => K I4 A5))) :
    ev_Bv (d + 1) 81 0 [some (.ref 1003), some (.int x1), some (.ref L)] I A K :=
  by
    rcases hLL with rfl | rfl | rfl
    · exact ev_T.adv (k' := 2) (ls' := [some (.ref 1003), some (.int x1), some (.ref 1008)]) (st' := [.int 0, .ref 1008]) (σ' := (1057, 55, I, A)) 2 rfl (ev_T.callv (m' := 34) (as := [.ref 1008, .int 0]) (r := []) (K' := fun I1 A2 => ev_Bv d 82 0 [some (.ref 1003), some (.int x1), some (.int 0), some (.ref 1008), none] I1 A2 (fun I4 A5 => K I4 A5)) rfl rfl rfl h (fun I1 A2 h3 => ev_T.adv (k' := 9) (ls' := [some (.ref 1003), some (.int x1), some (.ref 1008)]) (st' := [.ref 1008, .int 0, .int x1, .ref 1003]) (σ' := (1057, 55, I1, A2)) 4 rfl (ev_T.callv (m' := 82) (as := [.ref 1003, .int x1, .int 0, .ref 1008]) (r := []) (K' := fun I4 A5 => K I4 A5) rfl rfl rfl h3 (fun I4 A5 h6 => ev_T.retv rfl rfl h6))))
    · exact ev_T.adv (k' := 2) (ls' := [some (.ref 1003), some (.int x1), some (.ref 1010)]) (st' := [.int 0, .ref 1010]) (σ' := (1057, 55, I, A)) 2 rfl (ev_T.callv (m' := 34) (as := [.ref 1010, .int 0]) (r := []) (K' := fun I1 A2 => ev_Bv d 82 0 [some (.ref 1003), some (.int x1), some (.int 0), some (.ref 1010), none] I1 A2 (fun I4 A5 => K I4 A5)) rfl rfl rfl h (fun I1 A2 h3 => ev_T.adv (k' := 9) (ls' := [some (.ref 1003), some (.int x1), some (.ref 1010)]) (st' := [.ref 1010, .int 0, .int x1, .ref 1003]) (σ' := (1057, 55, I1, A2)) 4 rfl (ev_T.callv (m' := 82) (as := [.ref 1003, .int x1, .int 0, .ref 1010]) (r := []) (K' := fun I4 A5 => K I4 A5) rfl rfl rfl h3 (fun I4 A5 h6 => ev_T.retv rfl rfl h6))))
    · exact ev_T.adv (k' := 2) (ls' := [some (.ref 1003), some (.int x1), some (.ref 1028)]) (st' := [.int 0, .ref 1028]) (σ' := (1057, 55, I, A)) 2 rfl (ev_T.callv (m' := 34) (as := [.ref 1028, .int 0]) (r := []) (K' := fun I1 A2 => ev_Bv d 82 0 [some (.ref 1003), some (.int x1), some (.int 0), some (.ref 1028), none] I1 A2 (fun I4 A5 => K I4 A5)) rfl rfl rfl h (fun I1 A2 h3 => ev_T.adv (k' := 9) (ls' := [some (.ref 1003), some (.int x1), some (.ref 1028)]) (st' := [.ref 1028, .int 0, .int x1, .ref 1003]) (σ' := (1057, 55, I1, A2)) 4 rfl (ev_T.callv (m' := 82) (as := [.ref 1003, .int x1, .int 0, .ref 1028]) (r := []) (K' := fun I4 A5 => K I4 A5) rfl rfl rfl h3 (fun I4 A5 h6 => ev_T.retv rfl rfl h6))))

/-! StemRules$Words.addTo(IILStemRules$Letters;)V -/
set_option maxRecDepth 100000 in
theorem t_W_addTo_0 {d : Nat} {I A : Nat → Nat → Int32} {K : (Nat → Nat → Int32) → (Nat → Nat → Int32) → Prop} {L : Nat} (hLL : ev_isL L) (x1 : Int32) (x2 : Int32)  
    (h : ev_Bi d 78 0 [some (.ref 1003), some (.int x1)] I A (fun z3 I1 A2 => ((z3 = 0 → K I1 A2) ∧ (¬ z3 = 0 → (((0 : Int32) ≤ x2 → ev_Bv (d + 1) 82 16 [some (.ref 1003), some (.int x1), some (.int x2), some (.ref L), some (.int x2)] I1 A2 K) ∧ (¬ (0 : Int32) ≤ x2 → K I1 A2)))))) :
    ev_Bv (d + 1) 82 0 [some (.ref 1003), some (.int x1), some (.int x2), some (.ref L), none] I A K :=
  by
    rcases hLL with rfl | rfl | rfl
    · exact ev_T.adv (k' := 2) (ls' := [some (.ref 1003), some (.int x1), some (.int x2), some (.ref 1008), none]) (st' := [.int x1, .ref 1003]) (σ' := (1057, 55, I, A)) 2 rfl (ev_T.calli (m' := 78) (as := [.ref 1003, .int x1]) (r := []) (K' := fun z3 I1 A2 => ((z3 = 0 → K I1 A2) ∧ (¬ z3 = 0 → (((0 : Int32) ≤ x2 → ev_Bv (d + 1) 82 16 [some (.ref 1003), some (.int x1), some (.int x2), some (.ref 1008), some (.int x2)] I1 A2 K) ∧ (¬ (0 : Int32) ≤ x2 → K I1 A2))))) rfl rfl rfl h (fun z3 I1 A2 h4 => ev_T.if_eq rfl (fun c6 => ev_T.retv rfl rfl (h4.1 c6)) (fun c6 => ev_T.adv (k' := 9) (ls' := [some (.ref 1003), some (.int x1), some (.int x2), some (.ref 1008), none]) (st' := [.int x2]) (σ' := (1057, 55, I1, A2)) 1 rfl (ev_T.if_ge rfl (fun c5 => ev_T.adv (k' := 16) (ls' := [some (.ref 1003), some (.int x1), some (.int x2), some (.ref 1008), some (.int x2)]) (st' := []) (σ' := (1057, 55, I1, A2)) 2 rfl (((h4.2 c6).1 c5))) (fun c5 => ev_T.retv rfl rfl ((h4.2 c6).2 c5))))))
    · exact ev_T.adv (k' := 2) (ls' := [some (.ref 1003), some (.int x1), some (.int x2), some (.ref 1010), none]) (st' := [.int x1, .ref 1003]) (σ' := (1057, 55, I, A)) 2 rfl (ev_T.calli (m' := 78) (as := [.ref 1003, .int x1]) (r := []) (K' := fun z3 I1 A2 => ((z3 = 0 → K I1 A2) ∧ (¬ z3 = 0 → (((0 : Int32) ≤ x2 → ev_Bv (d + 1) 82 16 [some (.ref 1003), some (.int x1), some (.int x2), some (.ref 1010), some (.int x2)] I1 A2 K) ∧ (¬ (0 : Int32) ≤ x2 → K I1 A2))))) rfl rfl rfl h (fun z3 I1 A2 h4 => ev_T.if_eq rfl (fun c6 => ev_T.retv rfl rfl (h4.1 c6)) (fun c6 => ev_T.adv (k' := 9) (ls' := [some (.ref 1003), some (.int x1), some (.int x2), some (.ref 1010), none]) (st' := [.int x2]) (σ' := (1057, 55, I1, A2)) 1 rfl (ev_T.if_ge rfl (fun c5 => ev_T.adv (k' := 16) (ls' := [some (.ref 1003), some (.int x1), some (.int x2), some (.ref 1010), some (.int x2)]) (st' := []) (σ' := (1057, 55, I1, A2)) 2 rfl (((h4.2 c6).1 c5))) (fun c5 => ev_T.retv rfl rfl ((h4.2 c6).2 c5))))))
    · exact ev_T.adv (k' := 2) (ls' := [some (.ref 1003), some (.int x1), some (.int x2), some (.ref 1028), none]) (st' := [.int x1, .ref 1003]) (σ' := (1057, 55, I, A)) 2 rfl (ev_T.calli (m' := 78) (as := [.ref 1003, .int x1]) (r := []) (K' := fun z3 I1 A2 => ((z3 = 0 → K I1 A2) ∧ (¬ z3 = 0 → (((0 : Int32) ≤ x2 → ev_Bv (d + 1) 82 16 [some (.ref 1003), some (.int x1), some (.int x2), some (.ref 1028), some (.int x2)] I1 A2 K) ∧ (¬ (0 : Int32) ≤ x2 → K I1 A2))))) rfl rfl rfl h (fun z3 I1 A2 h4 => ev_T.if_eq rfl (fun c6 => ev_T.retv rfl rfl (h4.1 c6)) (fun c6 => ev_T.adv (k' := 9) (ls' := [some (.ref 1003), some (.int x1), some (.int x2), some (.ref 1028), none]) (st' := [.int x2]) (σ' := (1057, 55, I1, A2)) 1 rfl (ev_T.if_ge rfl (fun c5 => ev_T.adv (k' := 16) (ls' := [some (.ref 1003), some (.int x1), some (.int x2), some (.ref 1028), some (.int x2)]) (st' := []) (σ' := (1057, 55, I1, A2)) 2 rfl (((h4.2 c6).1 c5))) (fun c5 => ev_T.retv rfl rfl ((h4.2 c6).2 c5))))))
set_option maxRecDepth 100000 in
theorem t_W_addTo_16 {d : Nat} {I A : Nat → Nat → Int32} {K : (Nat → Nat → Int32) → (Nat → Nat → Int32) → Prop} {L : Nat} (hLL : ev_isL L) (x1 : Int32) (x2 : Int32) (x4 : Int32)  
    (h : (vp_in x1 150 ∧ (((A 1005 (x1 : Int32).toNatClampNeg) ≤ x4 → K I A) ∧ (¬ (A 1005 (x1 : Int32).toNatClampNeg) ≤ x4 → (vp_in ((x1 * 24) + x4) 3600 ∧ ev_Bv d 33 0 [some (.ref L), some (.int (A 1004 (((x1 * 24) + x4) : Int32).toNatClampNeg))] I A (fun I1 A2 => ev_Bv (d + 1) 82 16 [some (.ref 1003), some (.int x1), some (.int x2), some (.ref L), some (.int (x4 + 1))] I1 A2 K)))))) :
    ev_Bv (d + 1) 82 16 [some (.ref 1003), some (.int x1), some (.int x2), some (.ref L), some (.int x4)] I A K :=
  by
    rcases hLL with rfl | rfl | rfl
    · exact ev_T.adv (k' := 23) (ls' := [some (.ref 1003), some (.int x1), some (.int x2), some (.ref 1008), some (.int x4)]) (st' := [.int x1, .ref 1005, .int x4]) (σ' := (1057, 55, I, A)) 4 rfl (ev_T.iald (v := .int (A 1005 (x1 : Int32).toNatClampNeg)) rfl h.1 rfl rfl (ev_T.icmp_ge rfl (fun c4 => ev_T.retv rfl rfl (h.2.1 c4)) (fun c4 => ev_T.adv (k' := 39) (ls' := [some (.ref 1003), some (.int x1), some (.int x2), some (.ref 1008), some (.int x4)]) (st' := [.int ((x1 * 24) + x4), .ref 1004, .ref 1008]) (σ' := (1057, 55, I, A)) 8 rfl (ev_T.cald (v := .int (A 1004 (((x1 * 24) + x4) : Int32).toNatClampNeg)) rfl (h.2.2 c4).1 rfl rfl (ev_T.callv (m' := 33) (as := [.ref 1008, .int (A 1004 (((x1 * 24) + x4) : Int32).toNatClampNeg)]) (r := []) (K' := fun I1 A2 => ev_Bv (d + 1) 82 16 [some (.ref 1003), some (.int x1), some (.int x2), some (.ref 1008), some (.int (x4 + 1))] I1 A2 K) rfl rfl rfl (h.2.2 c4).2 (fun I1 A2 h3 => ev_T.adv (k' := 16) (ls' := [some (.ref 1003), some (.int x1), some (.int x2), some (.ref 1008), some (.int (x4 + 1))]) (st' := []) (σ' := (1057, 55, I1, A2)) 2 rfl (h3)))))))
    · exact ev_T.adv (k' := 23) (ls' := [some (.ref 1003), some (.int x1), some (.int x2), some (.ref 1010), some (.int x4)]) (st' := [.int x1, .ref 1005, .int x4]) (σ' := (1057, 55, I, A)) 4 rfl (ev_T.iald (v := .int (A 1005 (x1 : Int32).toNatClampNeg)) rfl h.1 rfl rfl (ev_T.icmp_ge rfl (fun c4 => ev_T.retv rfl rfl (h.2.1 c4)) (fun c4 => ev_T.adv (k' := 39) (ls' := [some (.ref 1003), some (.int x1), some (.int x2), some (.ref 1010), some (.int x4)]) (st' := [.int ((x1 * 24) + x4), .ref 1004, .ref 1010]) (σ' := (1057, 55, I, A)) 8 rfl (ev_T.cald (v := .int (A 1004 (((x1 * 24) + x4) : Int32).toNatClampNeg)) rfl (h.2.2 c4).1 rfl rfl (ev_T.callv (m' := 33) (as := [.ref 1010, .int (A 1004 (((x1 * 24) + x4) : Int32).toNatClampNeg)]) (r := []) (K' := fun I1 A2 => ev_Bv (d + 1) 82 16 [some (.ref 1003), some (.int x1), some (.int x2), some (.ref 1010), some (.int (x4 + 1))] I1 A2 K) rfl rfl rfl (h.2.2 c4).2 (fun I1 A2 h3 => ev_T.adv (k' := 16) (ls' := [some (.ref 1003), some (.int x1), some (.int x2), some (.ref 1010), some (.int (x4 + 1))]) (st' := []) (σ' := (1057, 55, I1, A2)) 2 rfl (h3)))))))
    · exact ev_T.adv (k' := 23) (ls' := [some (.ref 1003), some (.int x1), some (.int x2), some (.ref 1028), some (.int x4)]) (st' := [.int x1, .ref 1005, .int x4]) (σ' := (1057, 55, I, A)) 4 rfl (ev_T.iald (v := .int (A 1005 (x1 : Int32).toNatClampNeg)) rfl h.1 rfl rfl (ev_T.icmp_ge rfl (fun c4 => ev_T.retv rfl rfl (h.2.1 c4)) (fun c4 => ev_T.adv (k' := 39) (ls' := [some (.ref 1003), some (.int x1), some (.int x2), some (.ref 1028), some (.int x4)]) (st' := [.int ((x1 * 24) + x4), .ref 1004, .ref 1028]) (σ' := (1057, 55, I, A)) 8 rfl (ev_T.cald (v := .int (A 1004 (((x1 * 24) + x4) : Int32).toNatClampNeg)) rfl (h.2.2 c4).1 rfl rfl (ev_T.callv (m' := 33) (as := [.ref 1028, .int (A 1004 (((x1 * 24) + x4) : Int32).toNatClampNeg)]) (r := []) (K' := fun I1 A2 => ev_Bv (d + 1) 82 16 [some (.ref 1003), some (.int x1), some (.int x2), some (.ref 1028), some (.int (x4 + 1))] I1 A2 K) rfl rfl rfl (h.2.2 c4).2 (fun I1 A2 h3 => ev_T.adv (k' := 16) (ls' := [some (.ref 1003), some (.int x1), some (.int x2), some (.ref 1028), some (.int (x4 + 1))]) (st' := []) (σ' := (1057, 55, I1, A2)) 2 rfl (h3)))))))

/-! StemRules$Words.standsAt(ILStemRules$Letters;I)Z -/
set_option maxRecDepth 100000 in
theorem t_W_standsAt_0 {d : Nat} {I A : Nat → Nat → Int32} {K : Int32 → (Nat → Nat → Int32) → (Nat → Nat → Int32) → Prop} {L : Nat} (hLL : ev_isL L) (x1 : Int32) (x3 : Int32)  
    (h : ev_Bi d 78 0 [some (.ref 1003), some (.int x1)] I A (fun z3 I1 A2 => ((z3 = 0 → K 0 I1 A2) ∧ (¬ z3 = 0 → ((x3 < 0 → K 0 I1 A2) ∧ (¬ x3 < 0 → (vp_in x1 150 ∧ ev_Bi d 30 0 [some (.ref L)] I1 A2 (fun z7 I5 A6 => (((x3 + (A2 1005 (x1 : Int32).toNatClampNeg)) ≤ z7 → ev_Bi (d + 1) 83 32 [some (.ref 1003), some (.int x1), some (.ref L), some (.int x3), some (.int 0)] I5 A6 K) ∧ (¬ (x3 + (A2 1005 (x1 : Int32).toNatClampNeg)) ≤ z7 → K 0 I5 A6)))))))))) :
    ev_Bi (d + 1) 83 0 [some (.ref 1003), some (.int x1), some (.ref L), some (.int x3), none] I A K :=
  by
    rcases hLL with rfl | rfl | rfl
    · exact ev_T.adv (k' := 2) (ls' := [some (.ref 1003), some (.int x1), some (.ref 1008), some (.int x3), none]) (st' := [.int x1, .ref 1003]) (σ' := (1057, 55, I, A)) 2 rfl (ev_T.calli (m' := 78) (as := [.ref 1003, .int x1]) (r := []) (K' := fun z3 I1 A2 => ((z3 = 0 → K 0 I1 A2) ∧ (¬ z3 = 0 → ((x3 < 0 → K 0 I1 A2) ∧ (¬ x3 < 0 → (vp_in x1 150 ∧ ev_Bi d 30 0 [some (.ref 1008)] I1 A2 (fun z7 I5 A6 => (((x3 + (A2 1005 (x1 : Int32).toNatClampNeg)) ≤ z7 → ev_Bi (d + 1) 83 32 [some (.ref 1003), some (.int x1), some (.ref 1008), some (.int x3), some (.int 0)] I5 A6 K) ∧ (¬ (x3 + (A2 1005 (x1 : Int32).toNatClampNeg)) ≤ z7 → K 0 I5 A6))))))))) rfl rfl rfl h (fun z3 I1 A2 h4 => ev_T.if_eq rfl (fun c11 => ev_T.adv (k' := 28) (ls' := [some (.ref 1003), some (.int x1), some (.ref 1008), some (.int x3), none]) (st' := [.int 0]) (σ' := (1057, 55, I1, A2)) 1 rfl (ev_T.retz rfl rfl (by decide) (h4.1 c11))) (fun c11 => ev_T.adv (k' := 9) (ls' := [some (.ref 1003), some (.int x1), some (.ref 1008), some (.int x3), none]) (st' := [.int x3]) (σ' := (1057, 55, I1, A2)) 1 rfl (ev_T.if_lt rfl (fun c10 => ev_T.adv (k' := 28) (ls' := [some (.ref 1003), some (.int x1), some (.ref 1008), some (.int x3), none]) (st' := [.int 0]) (σ' := (1057, 55, I1, A2)) 1 rfl (ev_T.retz rfl rfl (by decide) ((h4.2 c11).1 c10))) (fun c10 => ev_T.adv (k' := 18) (ls' := [some (.ref 1003), some (.int x1), some (.ref 1008), some (.int x3), none]) (st' := [.int x1, .ref 1005, .int x3]) (σ' := (1057, 55, I1, A2)) 4 rfl (ev_T.iald (v := .int (A2 1005 (x1 : Int32).toNatClampNeg)) rfl ((h4.2 c11).2 c10).1 rfl rfl (ev_T.adv (k' := 21) (ls' := [some (.ref 1003), some (.int x1), some (.ref 1008), some (.int x3), none]) (st' := [.ref 1008, .int (x3 + (A2 1005 (x1 : Int32).toNatClampNeg))]) (σ' := (1057, 55, I1, A2)) 2 rfl (ev_T.calli (m' := 30) (as := [.ref 1008]) (r := [.int (x3 + (A2 1005 (x1 : Int32).toNatClampNeg))]) (K' := fun z7 I5 A6 => (((x3 + (A2 1005 (x1 : Int32).toNatClampNeg)) ≤ z7 → ev_Bi (d + 1) 83 32 [some (.ref 1003), some (.int x1), some (.ref 1008), some (.int x3), some (.int 0)] I5 A6 K) ∧ (¬ (x3 + (A2 1005 (x1 : Int32).toNatClampNeg)) ≤ z7 → K 0 I5 A6))) rfl rfl rfl ((h4.2 c11).2 c10).2 (fun z7 I5 A6 h8 => ev_T.icmp_le rfl (fun c9 => ev_T.adv (k' := 32) (ls' := [some (.ref 1003), some (.int x1), some (.ref 1008), some (.int x3), some (.int 0)]) (st' := []) (σ' := (1057, 55, I5, A6)) 2 rfl ((h8.1 c9))) (fun c9 => ev_T.adv (k' := 28) (ls' := [some (.ref 1003), some (.int x1), some (.ref 1008), some (.int x3), none]) (st' := [.int 0]) (σ' := (1057, 55, I5, A6)) 1 rfl (ev_T.retz rfl rfl (by decide) (h8.2 c9))))))))))))
    · exact ev_T.adv (k' := 2) (ls' := [some (.ref 1003), some (.int x1), some (.ref 1010), some (.int x3), none]) (st' := [.int x1, .ref 1003]) (σ' := (1057, 55, I, A)) 2 rfl (ev_T.calli (m' := 78) (as := [.ref 1003, .int x1]) (r := []) (K' := fun z3 I1 A2 => ((z3 = 0 → K 0 I1 A2) ∧ (¬ z3 = 0 → ((x3 < 0 → K 0 I1 A2) ∧ (¬ x3 < 0 → (vp_in x1 150 ∧ ev_Bi d 30 0 [some (.ref 1010)] I1 A2 (fun z7 I5 A6 => (((x3 + (A2 1005 (x1 : Int32).toNatClampNeg)) ≤ z7 → ev_Bi (d + 1) 83 32 [some (.ref 1003), some (.int x1), some (.ref 1010), some (.int x3), some (.int 0)] I5 A6 K) ∧ (¬ (x3 + (A2 1005 (x1 : Int32).toNatClampNeg)) ≤ z7 → K 0 I5 A6))))))))) rfl rfl rfl h (fun z3 I1 A2 h4 => ev_T.if_eq rfl (fun c11 => ev_T.adv (k' := 28) (ls' := [some (.ref 1003), some (.int x1), some (.ref 1010), some (.int x3), none]) (st' := [.int 0]) (σ' := (1057, 55, I1, A2)) 1 rfl (ev_T.retz rfl rfl (by decide) (h4.1 c11))) (fun c11 => ev_T.adv (k' := 9) (ls' := [some (.ref 1003), some (.int x1), some (.ref 1010), some (.int x3), none]) (st' := [.int x3]) (σ' := (1057, 55, I1, A2)) 1 rfl (ev_T.if_lt rfl (fun c10 => ev_T.adv (k' := 28) (ls' := [some (.ref 1003), some (.int x1), some (.ref 1010), some (.int x3), none]) (st' := [.int 0]) (σ' := (1057, 55, I1, A2)) 1 rfl (ev_T.retz rfl rfl (by decide) ((h4.2 c11).1 c10))) (fun c10 => ev_T.adv (k' := 18) (ls' := [some (.ref 1003), some (.int x1), some (.ref 1010), some (.int x3), none]) (st' := [.int x1, .ref 1005, .int x3]) (σ' := (1057, 55, I1, A2)) 4 rfl (ev_T.iald (v := .int (A2 1005 (x1 : Int32).toNatClampNeg)) rfl ((h4.2 c11).2 c10).1 rfl rfl (ev_T.adv (k' := 21) (ls' := [some (.ref 1003), some (.int x1), some (.ref 1010), some (.int x3), none]) (st' := [.ref 1010, .int (x3 + (A2 1005 (x1 : Int32).toNatClampNeg))]) (σ' := (1057, 55, I1, A2)) 2 rfl (ev_T.calli (m' := 30) (as := [.ref 1010]) (r := [.int (x3 + (A2 1005 (x1 : Int32).toNatClampNeg))]) (K' := fun z7 I5 A6 => (((x3 + (A2 1005 (x1 : Int32).toNatClampNeg)) ≤ z7 → ev_Bi (d + 1) 83 32 [some (.ref 1003), some (.int x1), some (.ref 1010), some (.int x3), some (.int 0)] I5 A6 K) ∧ (¬ (x3 + (A2 1005 (x1 : Int32).toNatClampNeg)) ≤ z7 → K 0 I5 A6))) rfl rfl rfl ((h4.2 c11).2 c10).2 (fun z7 I5 A6 h8 => ev_T.icmp_le rfl (fun c9 => ev_T.adv (k' := 32) (ls' := [some (.ref 1003), some (.int x1), some (.ref 1010), some (.int x3), some (.int 0)]) (st' := []) (σ' := (1057, 55, I5, A6)) 2 rfl ((h8.1 c9))) (fun c9 => ev_T.adv (k' := 28) (ls' := [some (.ref 1003), some (.int x1), some (.ref 1010), some (.int x3), none]) (st' := [.int 0]) (σ' := (1057, 55, I5, A6)) 1 rfl (ev_T.retz rfl rfl (by decide) (h8.2 c9))))))))))))
    · exact ev_T.adv (k' := 2) (ls' := [some (.ref 1003), some (.int x1), some (.ref 1028), some (.int x3), none]) (st' := [.int x1, .ref 1003]) (σ' := (1057, 55, I, A)) 2 rfl (ev_T.calli (m' := 78) (as := [.ref 1003, .int x1]) (r := []) (K' := fun z3 I1 A2 => ((z3 = 0 → K 0 I1 A2) ∧ (¬ z3 = 0 → ((x3 < 0 → K 0 I1 A2) ∧ (¬ x3 < 0 → (vp_in x1 150 ∧ ev_Bi d 30 0 [some (.ref 1028)] I1 A2 (fun z7 I5 A6 => (((x3 + (A2 1005 (x1 : Int32).toNatClampNeg)) ≤ z7 → ev_Bi (d + 1) 83 32 [some (.ref 1003), some (.int x1), some (.ref 1028), some (.int x3), some (.int 0)] I5 A6 K) ∧ (¬ (x3 + (A2 1005 (x1 : Int32).toNatClampNeg)) ≤ z7 → K 0 I5 A6))))))))) rfl rfl rfl h (fun z3 I1 A2 h4 => ev_T.if_eq rfl (fun c11 => ev_T.adv (k' := 28) (ls' := [some (.ref 1003), some (.int x1), some (.ref 1028), some (.int x3), none]) (st' := [.int 0]) (σ' := (1057, 55, I1, A2)) 1 rfl (ev_T.retz rfl rfl (by decide) (h4.1 c11))) (fun c11 => ev_T.adv (k' := 9) (ls' := [some (.ref 1003), some (.int x1), some (.ref 1028), some (.int x3), none]) (st' := [.int x3]) (σ' := (1057, 55, I1, A2)) 1 rfl (ev_T.if_lt rfl (fun c10 => ev_T.adv (k' := 28) (ls' := [some (.ref 1003), some (.int x1), some (.ref 1028), some (.int x3), none]) (st' := [.int 0]) (σ' := (1057, 55, I1, A2)) 1 rfl (ev_T.retz rfl rfl (by decide) ((h4.2 c11).1 c10))) (fun c10 => ev_T.adv (k' := 18) (ls' := [some (.ref 1003), some (.int x1), some (.ref 1028), some (.int x3), none]) (st' := [.int x1, .ref 1005, .int x3]) (σ' := (1057, 55, I1, A2)) 4 rfl (ev_T.iald (v := .int (A2 1005 (x1 : Int32).toNatClampNeg)) rfl ((h4.2 c11).2 c10).1 rfl rfl (ev_T.adv (k' := 21) (ls' := [some (.ref 1003), some (.int x1), some (.ref 1028), some (.int x3), none]) (st' := [.ref 1028, .int (x3 + (A2 1005 (x1 : Int32).toNatClampNeg))]) (σ' := (1057, 55, I1, A2)) 2 rfl (ev_T.calli (m' := 30) (as := [.ref 1028]) (r := [.int (x3 + (A2 1005 (x1 : Int32).toNatClampNeg))]) (K' := fun z7 I5 A6 => (((x3 + (A2 1005 (x1 : Int32).toNatClampNeg)) ≤ z7 → ev_Bi (d + 1) 83 32 [some (.ref 1003), some (.int x1), some (.ref 1028), some (.int x3), some (.int 0)] I5 A6 K) ∧ (¬ (x3 + (A2 1005 (x1 : Int32).toNatClampNeg)) ≤ z7 → K 0 I5 A6))) rfl rfl rfl ((h4.2 c11).2 c10).2 (fun z7 I5 A6 h8 => ev_T.icmp_le rfl (fun c9 => ev_T.adv (k' := 32) (ls' := [some (.ref 1003), some (.int x1), some (.ref 1028), some (.int x3), some (.int 0)]) (st' := []) (σ' := (1057, 55, I5, A6)) 2 rfl ((h8.1 c9))) (fun c9 => ev_T.adv (k' := 28) (ls' := [some (.ref 1003), some (.int x1), some (.ref 1028), some (.int x3), none]) (st' := [.int 0]) (σ' := (1057, 55, I5, A6)) 1 rfl (ev_T.retz rfl rfl (by decide) (h8.2 c9))))))))))))
set_option maxRecDepth 100000 in
theorem t_W_standsAt_32 {d : Nat} {I A : Nat → Nat → Int32} {K : Int32 → (Nat → Nat → Int32) → (Nat → Nat → Int32) → Prop} {L : Nat} (hLL : ev_isL L) (x1 : Int32) (x3 : Int32) (x4 : Int32)  
    (h : (vp_in x1 150 ∧ (((A 1005 (x1 : Int32).toNatClampNeg) ≤ x4 → K 1 I A) ∧ (¬ (A 1005 (x1 : Int32).toNatClampNeg) ≤ x4 → (vp_in ((x1 * 24) + x4) 3600 ∧ ev_Bi d 31 0 [some (.ref L), some (.int (x3 + x4))] I A (fun z3 I1 A2 => (((A 1004 (((x1 * 24) + x4) : Int32).toNatClampNeg) = z3 → ev_Bi (d + 1) 83 32 [some (.ref 1003), some (.int x1), some (.ref L), some (.int x3), some (.int (x4 + 1))] I1 A2 K) ∧ (¬ (A 1004 (((x1 * 24) + x4) : Int32).toNatClampNeg) = z3 → K 0 I1 A2)))))))) :
    ev_Bi (d + 1) 83 32 [some (.ref 1003), some (.int x1), some (.ref L), some (.int x3), some (.int x4)] I A K :=
  by
    rcases hLL with rfl | rfl | rfl
    · exact ev_T.adv (k' := 39) (ls' := [some (.ref 1003), some (.int x1), some (.ref 1008), some (.int x3), some (.int x4)]) (st' := [.int x1, .ref 1005, .int x4]) (σ' := (1057, 55, I, A)) 4 rfl (ev_T.iald (v := .int (A 1005 (x1 : Int32).toNatClampNeg)) rfl h.1 rfl rfl (ev_T.icmp_ge rfl (fun c6 => ev_T.adv (k' := 75) (ls' := [some (.ref 1003), some (.int x1), some (.ref 1008), some (.int x3), some (.int x4)]) (st' := [.int 1]) (σ' := (1057, 55, I, A)) 1 rfl (ev_T.retz rfl rfl (by decide) (h.2.1 c6))) (fun c6 => ev_T.adv (k' := 54) (ls' := [some (.ref 1003), some (.int x1), some (.ref 1008), some (.int x3), some (.int x4)]) (st' := [.int ((x1 * 24) + x4), .ref 1004]) (σ' := (1057, 55, I, A)) 7 rfl (ev_T.cald (v := .int (A 1004 (((x1 * 24) + x4) : Int32).toNatClampNeg)) rfl (h.2.2 c6).1 rfl rfl (ev_T.adv (k' := 60) (ls' := [some (.ref 1003), some (.int x1), some (.ref 1008), some (.int x3), some (.int x4)]) (st' := [.int (x3 + x4), .ref 1008, .int (A 1004 (((x1 * 24) + x4) : Int32).toNatClampNeg)]) (σ' := (1057, 55, I, A)) 4 rfl (ev_T.calli (m' := 31) (as := [.ref 1008, .int (x3 + x4)]) (r := [.int (A 1004 (((x1 * 24) + x4) : Int32).toNatClampNeg)]) (K' := fun z3 I1 A2 => (((A 1004 (((x1 * 24) + x4) : Int32).toNatClampNeg) = z3 → ev_Bi (d + 1) 83 32 [some (.ref 1003), some (.int x1), some (.ref 1008), some (.int x3), some (.int (x4 + 1))] I1 A2 K) ∧ (¬ (A 1004 (((x1 * 24) + x4) : Int32).toNatClampNeg) = z3 → K 0 I1 A2))) rfl rfl rfl (h.2.2 c6).2 (fun z3 I1 A2 h4 => ev_T.icmp_eq rfl (fun c5 => ev_T.adv (k' := 32) (ls' := [some (.ref 1003), some (.int x1), some (.ref 1008), some (.int x3), some (.int (x4 + 1))]) (st' := []) (σ' := (1057, 55, I1, A2)) 2 rfl ((h4.1 c5))) (fun c5 => ev_T.adv (k' := 67) (ls' := [some (.ref 1003), some (.int x1), some (.ref 1008), some (.int x3), some (.int x4)]) (st' := [.int 0]) (σ' := (1057, 55, I1, A2)) 1 rfl (ev_T.retz rfl rfl (by decide) (h4.2 c5))))))))))
    · exact ev_T.adv (k' := 39) (ls' := [some (.ref 1003), some (.int x1), some (.ref 1010), some (.int x3), some (.int x4)]) (st' := [.int x1, .ref 1005, .int x4]) (σ' := (1057, 55, I, A)) 4 rfl (ev_T.iald (v := .int (A 1005 (x1 : Int32).toNatClampNeg)) rfl h.1 rfl rfl (ev_T.icmp_ge rfl (fun c6 => ev_T.adv (k' := 75) (ls' := [some (.ref 1003), some (.int x1), some (.ref 1010), some (.int x3), some (.int x4)]) (st' := [.int 1]) (σ' := (1057, 55, I, A)) 1 rfl (ev_T.retz rfl rfl (by decide) (h.2.1 c6))) (fun c6 => ev_T.adv (k' := 54) (ls' := [some (.ref 1003), some (.int x1), some (.ref 1010), some (.int x3), some (.int x4)]) (st' := [.int ((x1 * 24) + x4), .ref 1004]) (σ' := (1057, 55, I, A)) 7 rfl (ev_T.cald (v := .int (A 1004 (((x1 * 24) + x4) : Int32).toNatClampNeg)) rfl (h.2.2 c6).1 rfl rfl (ev_T.adv (k' := 60) (ls' := [some (.ref 1003), some (.int x1), some (.ref 1010), some (.int x3), some (.int x4)]) (st' := [.int (x3 + x4), .ref 1010, .int (A 1004 (((x1 * 24) + x4) : Int32).toNatClampNeg)]) (σ' := (1057, 55, I, A)) 4 rfl (ev_T.calli (m' := 31) (as := [.ref 1010, .int (x3 + x4)]) (r := [.int (A 1004 (((x1 * 24) + x4) : Int32).toNatClampNeg)]) (K' := fun z3 I1 A2 => (((A 1004 (((x1 * 24) + x4) : Int32).toNatClampNeg) = z3 → ev_Bi (d + 1) 83 32 [some (.ref 1003), some (.int x1), some (.ref 1010), some (.int x3), some (.int (x4 + 1))] I1 A2 K) ∧ (¬ (A 1004 (((x1 * 24) + x4) : Int32).toNatClampNeg) = z3 → K 0 I1 A2))) rfl rfl rfl (h.2.2 c6).2 (fun z3 I1 A2 h4 => ev_T.icmp_eq rfl (fun c5 => ev_T.adv (k' := 32) (ls' := [some (.ref 1003), some (.int x1), some (.ref 1010), some (.int x3), some (.int (x4 + 1))]) (st' := []) (σ' := (1057, 55, I1, A2)) 2 rfl ((h4.1 c5))) (fun c5 => ev_T.adv (k' := 67) (ls' := [some (.ref 1003), some (.int x1), some (.ref 1010), some (.int x3), some (.int x4)]) (st' := [.int 0]) (σ' := (1057, 55, I1, A2)) 1 rfl (ev_T.retz rfl rfl (by decide) (h4.2 c5))))))))))
    · exact ev_T.adv (k' := 39) (ls' := [some (.ref 1003), some (.int x1), some (.ref 1028), some (.int x3), some (.int x4)]) (st' := [.int x1, .ref 1005, .int x4]) (σ' := (1057, 55, I, A)) 4 rfl (ev_T.iald (v := .int (A 1005 (x1 : Int32).toNatClampNeg)) rfl h.1 rfl rfl (ev_T.icmp_ge rfl (fun c6 => ev_T.adv (k' := 75) (ls' := [some (.ref 1003), some (.int x1), some (.ref 1028), some (.int x3), some (.int x4)]) (st' := [.int 1]) (σ' := (1057, 55, I, A)) 1 rfl (ev_T.retz rfl rfl (by decide) (h.2.1 c6))) (fun c6 => ev_T.adv (k' := 54) (ls' := [some (.ref 1003), some (.int x1), some (.ref 1028), some (.int x3), some (.int x4)]) (st' := [.int ((x1 * 24) + x4), .ref 1004]) (σ' := (1057, 55, I, A)) 7 rfl (ev_T.cald (v := .int (A 1004 (((x1 * 24) + x4) : Int32).toNatClampNeg)) rfl (h.2.2 c6).1 rfl rfl (ev_T.adv (k' := 60) (ls' := [some (.ref 1003), some (.int x1), some (.ref 1028), some (.int x3), some (.int x4)]) (st' := [.int (x3 + x4), .ref 1028, .int (A 1004 (((x1 * 24) + x4) : Int32).toNatClampNeg)]) (σ' := (1057, 55, I, A)) 4 rfl (ev_T.calli (m' := 31) (as := [.ref 1028, .int (x3 + x4)]) (r := [.int (A 1004 (((x1 * 24) + x4) : Int32).toNatClampNeg)]) (K' := fun z3 I1 A2 => (((A 1004 (((x1 * 24) + x4) : Int32).toNatClampNeg) = z3 → ev_Bi (d + 1) 83 32 [some (.ref 1003), some (.int x1), some (.ref 1028), some (.int x3), some (.int (x4 + 1))] I1 A2 K) ∧ (¬ (A 1004 (((x1 * 24) + x4) : Int32).toNatClampNeg) = z3 → K 0 I1 A2))) rfl rfl rfl (h.2.2 c6).2 (fun z3 I1 A2 h4 => ev_T.icmp_eq rfl (fun c5 => ev_T.adv (k' := 32) (ls' := [some (.ref 1003), some (.int x1), some (.ref 1028), some (.int x3), some (.int (x4 + 1))]) (st' := []) (σ' := (1057, 55, I1, A2)) 2 rfl ((h4.1 c5))) (fun c5 => ev_T.adv (k' := 67) (ls' := [some (.ref 1003), some (.int x1), some (.ref 1028), some (.int x3), some (.int x4)]) (st' := [.int 0]) (σ' := (1057, 55, I1, A2)) 1 rfl (ev_T.retz rfl rfl (by decide) (h4.2 c5))))))))))

/-! StemRules$Words.standsBehind(ILStemRules$Letters;)Z -/
set_option maxRecDepth 100000 in
theorem t_W_standsBehind_0 {d : Nat} {I A : Nat → Nat → Int32} {K : Int32 → (Nat → Nat → Int32) → (Nat → Nat → Int32) → Prop} {L : Nat} (hLL : ev_isL L) (x1 : Int32)  
    (h : ev_Bi d 30 0 [some (.ref L)] I A (fun z3 I1 A2 => ev_Bi d 80 0 [some (.ref 1003), some (.int x1)] I1 A2 (fun z7 I5 A6 => ev_Bi d 83 0 [some (.ref 1003), some (.int x1), some (.ref L), some (.int (z3 - z7)), none] I5 A6 (fun z11 I9 A10 => (ev_fit 2 z11 = true ∧ K z11 I9 A10))))) :
    ev_Bi (d + 1) 84 0 [some (.ref 1003), some (.int x1), some (.ref L)] I A K :=
  by
    rcases hLL with rfl | rfl | rfl
    · exact ev_T.adv (k' := 4) (ls' := [some (.ref 1003), some (.int x1), some (.ref 1008)]) (st' := [.ref 1008, .ref 1008, .int x1, .ref 1003]) (σ' := (1057, 55, I, A)) 4 rfl (ev_T.calli (m' := 30) (as := [.ref 1008]) (r := [.ref 1008, .int x1, .ref 1003]) (K' := fun z3 I1 A2 => ev_Bi d 80 0 [some (.ref 1003), some (.int x1)] I1 A2 (fun z7 I5 A6 => ev_Bi d 83 0 [some (.ref 1003), some (.int x1), some (.ref 1008), some (.int (z3 - z7)), none] I5 A6 (fun z11 I9 A10 => (ev_fit 2 z11 = true ∧ K z11 I9 A10)))) rfl rfl rfl h (fun z3 I1 A2 h4 => ev_T.adv (k' := 9) (ls' := [some (.ref 1003), some (.int x1), some (.ref 1008)]) (st' := [.int x1, .ref 1003, .int z3, .ref 1008, .int x1, .ref 1003]) (σ' := (1057, 55, I1, A2)) 2 rfl (ev_T.calli (m' := 80) (as := [.ref 1003, .int x1]) (r := [.int z3, .ref 1008, .int x1, .ref 1003]) (K' := fun z7 I5 A6 => ev_Bi d 83 0 [some (.ref 1003), some (.int x1), some (.ref 1008), some (.int (z3 - z7)), none] I5 A6 (fun z11 I9 A10 => (ev_fit 2 z11 = true ∧ K z11 I9 A10))) rfl rfl rfl h4 (fun z7 I5 A6 h8 => ev_T.adv (k' := 13) (ls' := [some (.ref 1003), some (.int x1), some (.ref 1008)]) (st' := [.int (z3 - z7), .ref 1008, .int x1, .ref 1003]) (σ' := (1057, 55, I5, A6)) 1 rfl (ev_T.calli (m' := 83) (as := [.ref 1003, .int x1, .ref 1008, .int (z3 - z7)]) (r := []) (K' := fun z11 I9 A10 => (ev_fit 2 z11 = true ∧ K z11 I9 A10)) rfl rfl rfl h8 (fun z11 I9 A10 h12 => ev_T.retz rfl rfl h12.1 h12.2))))))
    · exact ev_T.adv (k' := 4) (ls' := [some (.ref 1003), some (.int x1), some (.ref 1010)]) (st' := [.ref 1010, .ref 1010, .int x1, .ref 1003]) (σ' := (1057, 55, I, A)) 4 rfl (ev_T.calli (m' := 30) (as := [.ref 1010]) (r := [.ref 1010, .int x1, .ref 1003]) (K' := fun z3 I1 A2 => ev_Bi d 80 0 [some (.ref 1003), some (.int x1)] I1 A2 (fun z7 I5 A6 => ev_Bi d 83 0 [some (.ref 1003), some (.int x1), some (.ref 1010), some (.int (z3 - z7)), none] I5 A6 (fun z11 I9 A10 => (ev_fit 2 z11 = true ∧ K z11 I9 A10)))) rfl rfl rfl h (fun z3 I1 A2 h4 => ev_T.adv (k' := 9) (ls' := [some (.ref 1003), some (.int x1), some (.ref 1010)]) (st' := [.int x1, .ref 1003, .int z3, .ref 1010, .int x1, .ref 1003]) (σ' := (1057, 55, I1, A2)) 2 rfl (ev_T.calli (m' := 80) (as := [.ref 1003, .int x1]) (r := [.int z3, .ref 1010, .int x1, .ref 1003]) (K' := fun z7 I5 A6 => ev_Bi d 83 0 [some (.ref 1003), some (.int x1), some (.ref 1010), some (.int (z3 - z7)), none] I5 A6 (fun z11 I9 A10 => (ev_fit 2 z11 = true ∧ K z11 I9 A10))) rfl rfl rfl h4 (fun z7 I5 A6 h8 => ev_T.adv (k' := 13) (ls' := [some (.ref 1003), some (.int x1), some (.ref 1010)]) (st' := [.int (z3 - z7), .ref 1010, .int x1, .ref 1003]) (σ' := (1057, 55, I5, A6)) 1 rfl (ev_T.calli (m' := 83) (as := [.ref 1003, .int x1, .ref 1010, .int (z3 - z7)]) (r := []) (K' := fun z11 I9 A10 => (ev_fit 2 z11 = true ∧ K z11 I9 A10)) rfl rfl rfl h8 (fun z11 I9 A10 h12 => ev_T.retz rfl rfl h12.1 h12.2))))))
    · exact ev_T.adv (k' := 4) (ls' := [some (.ref 1003), some (.int x1), some (.ref 1028)]) (st' := [.ref 1028, .ref 1028, .int x1, .ref 1003]) (σ' := (1057, 55, I, A)) 4 rfl (ev_T.calli (m' := 30) (as := [.ref 1028]) (r := [.ref 1028, .int x1, .ref 1003]) (K' := fun z3 I1 A2 => ev_Bi d 80 0 [some (.ref 1003), some (.int x1)] I1 A2 (fun z7 I5 A6 => ev_Bi d 83 0 [some (.ref 1003), some (.int x1), some (.ref 1028), some (.int (z3 - z7)), none] I5 A6 (fun z11 I9 A10 => (ev_fit 2 z11 = true ∧ K z11 I9 A10)))) rfl rfl rfl h (fun z3 I1 A2 h4 => ev_T.adv (k' := 9) (ls' := [some (.ref 1003), some (.int x1), some (.ref 1028)]) (st' := [.int x1, .ref 1003, .int z3, .ref 1028, .int x1, .ref 1003]) (σ' := (1057, 55, I1, A2)) 2 rfl (ev_T.calli (m' := 80) (as := [.ref 1003, .int x1]) (r := [.int z3, .ref 1028, .int x1, .ref 1003]) (K' := fun z7 I5 A6 => ev_Bi d 83 0 [some (.ref 1003), some (.int x1), some (.ref 1028), some (.int (z3 - z7)), none] I5 A6 (fun z11 I9 A10 => (ev_fit 2 z11 = true ∧ K z11 I9 A10))) rfl rfl rfl h4 (fun z7 I5 A6 h8 => ev_T.adv (k' := 13) (ls' := [some (.ref 1003), some (.int x1), some (.ref 1028)]) (st' := [.int (z3 - z7), .ref 1028, .int x1, .ref 1003]) (σ' := (1057, 55, I5, A6)) 1 rfl (ev_T.calli (m' := 83) (as := [.ref 1003, .int x1, .ref 1028, .int (z3 - z7)]) (r := []) (K' := fun z11 I9 A10 => (ev_fit 2 z11 = true ∧ K z11 I9 A10)) rfl rfl rfl h8 (fun z11 I9 A10 h12 => ev_T.retz rfl rfl h12.1 h12.2))))))

/-! StemRules$Words.find(LStemRules$Letters;)I -/
set_option maxRecDepth 100000 in
theorem t_W_find_0 {d : Nat} {I A : Nat → Nat → Int32} {K : Int32 → (Nat → Nat → Int32) → (Nat → Nat → Int32) → Prop} {L : Nat} (hLL : ev_isL L)   
    (h : ev_Bi (d + 1) 85 2 [some (.ref 1003), some (.ref L), some (.int 0)] I A K) :
    ev_Bi (d + 1) 85 0 [some (.ref 1003), some (.ref L), none] I A K :=
  by
    rcases hLL with rfl | rfl | rfl
    · exact ev_T.adv (k' := 2) (ls' := [some (.ref 1003), some (.ref 1008), some (.int 0)]) (st' := []) (σ' := (1057, 55, I, A)) 2 rfl (h)
    · exact ev_T.adv (k' := 2) (ls' := [some (.ref 1003), some (.ref 1010), some (.int 0)]) (st' := []) (σ' := (1057, 55, I, A)) 2 rfl (h)
    · exact ev_T.adv (k' := 2) (ls' := [some (.ref 1003), some (.ref 1028), some (.int 0)]) (st' := []) (σ' := (1057, 55, I, A)) 2 rfl (h)
set_option maxRecDepth 100000 in
theorem t_W_find_2 {d : Nat} {I A : Nat → Nat → Int32} {K : Int32 → (Nat → Nat → Int32) → (Nat → Nat → Int32) → Prop} {L : Nat} (hLL : ev_isL L) (x2 : Int32)  
    (h : (((I 1003 4) ≤ x2 → K (-5) I A) ∧ (¬ (I 1003 4) ≤ x2 → (vp_in x2 150 ∧ ev_Bi d 30 0 [some (.ref L)] I A (fun z3 I1 A2 => (((A 1005 (x2 : Int32).toNatClampNeg) = z3 → ev_Bi d 83 0 [some (.ref 1003), some (.int x2), some (.ref L), some (.int 0), none] I1 A2 (fun z7 I5 A6 => ((z7 = 0 → ev_Bi (d + 1) 85 35 [some (.ref 1003), some (.ref L), some (.int x2)] I5 A6 K) ∧ (¬ z7 = 0 → K x2 I5 A6)))) ∧ (¬ (A 1005 (x2 : Int32).toNatClampNeg) = z3 → ev_Bi (d + 1) 85 35 [some (.ref 1003), some (.ref L), some (.int x2)] I1 A2 K))))))) :
    ev_Bi (d + 1) 85 2 [some (.ref 1003), some (.ref L), some (.int x2)] I A K :=
  by
    rcases hLL with rfl | rfl | rfl
    · exact ev_T.adv (k' := 7) (ls' := [some (.ref 1003), some (.ref 1008), some (.int x2)]) (st' := [.int (I 1003 4), .int x2]) (σ' := (1057, 55, I, A)) 3 rfl (ev_T.icmp_ge rfl (fun c11 => ev_T.adv (k' := 43) (ls' := [some (.ref 1003), some (.ref 1008), some (.int x2)]) (st' := [.int (-5)]) (σ' := (1057, 55, I, A)) 1 rfl (ev_T.reti rfl rfl (h.1 c11))) (fun c11 => ev_T.adv (k' := 15) (ls' := [some (.ref 1003), some (.ref 1008), some (.int x2)]) (st' := [.int x2, .ref 1005]) (σ' := (1057, 55, I, A)) 3 rfl (ev_T.iald (v := .int (A 1005 (x2 : Int32).toNatClampNeg)) rfl (h.2 c11).1 rfl rfl (ev_T.adv (k' := 17) (ls' := [some (.ref 1003), some (.ref 1008), some (.int x2)]) (st' := [.ref 1008, .int (A 1005 (x2 : Int32).toNatClampNeg)]) (σ' := (1057, 55, I, A)) 1 rfl (ev_T.calli (m' := 30) (as := [.ref 1008]) (r := [.int (A 1005 (x2 : Int32).toNatClampNeg)]) (K' := fun z3 I1 A2 => (((A 1005 (x2 : Int32).toNatClampNeg) = z3 → ev_Bi d 83 0 [some (.ref 1003), some (.int x2), some (.ref 1008), some (.int 0), none] I1 A2 (fun z7 I5 A6 => ((z7 = 0 → ev_Bi (d + 1) 85 35 [some (.ref 1003), some (.ref 1008), some (.int x2)] I5 A6 K) ∧ (¬ z7 = 0 → K x2 I5 A6)))) ∧ (¬ (A 1005 (x2 : Int32).toNatClampNeg) = z3 → ev_Bi (d + 1) 85 35 [some (.ref 1003), some (.ref 1008), some (.int x2)] I1 A2 K))) rfl rfl rfl (h.2 c11).2 (fun z3 I1 A2 h4 => ev_T.icmp_ne rfl (fun c10 => ev_T.adv (k' := 27) (ls' := [some (.ref 1003), some (.ref 1008), some (.int x2)]) (st' := [.int 0, .ref 1008, .int x2, .ref 1003]) (σ' := (1057, 55, I1, A2)) 4 rfl (ev_T.calli (m' := 83) (as := [.ref 1003, .int x2, .ref 1008, .int 0]) (r := []) (K' := fun z7 I5 A6 => ((z7 = 0 → ev_Bi (d + 1) 85 35 [some (.ref 1003), some (.ref 1008), some (.int x2)] I5 A6 K) ∧ (¬ z7 = 0 → K x2 I5 A6))) rfl rfl rfl (h4.1 c10) (fun z7 I5 A6 h8 => ev_T.if_eq rfl (fun c9 => (h8.1 c9)) (fun c9 => ev_T.adv (k' := 34) (ls' := [some (.ref 1003), some (.ref 1008), some (.int x2)]) (st' := [.int x2]) (σ' := (1057, 55, I5, A6)) 1 rfl (ev_T.reti rfl rfl (h8.2 c9)))))) (fun c10 => (h4.2 c10))))))))
    · exact ev_T.adv (k' := 7) (ls' := [some (.ref 1003), some (.ref 1010), some (.int x2)]) (st' := [.int (I 1003 4), .int x2]) (σ' := (1057, 55, I, A)) 3 rfl (ev_T.icmp_ge rfl (fun c11 => ev_T.adv (k' := 43) (ls' := [some (.ref 1003), some (.ref 1010), some (.int x2)]) (st' := [.int (-5)]) (σ' := (1057, 55, I, A)) 1 rfl (ev_T.reti rfl rfl (h.1 c11))) (fun c11 => ev_T.adv (k' := 15) (ls' := [some (.ref 1003), some (.ref 1010), some (.int x2)]) (st' := [.int x2, .ref 1005]) (σ' := (1057, 55, I, A)) 3 rfl (ev_T.iald (v := .int (A 1005 (x2 : Int32).toNatClampNeg)) rfl (h.2 c11).1 rfl rfl (ev_T.adv (k' := 17) (ls' := [some (.ref 1003), some (.ref 1010), some (.int x2)]) (st' := [.ref 1010, .int (A 1005 (x2 : Int32).toNatClampNeg)]) (σ' := (1057, 55, I, A)) 1 rfl (ev_T.calli (m' := 30) (as := [.ref 1010]) (r := [.int (A 1005 (x2 : Int32).toNatClampNeg)]) (K' := fun z3 I1 A2 => (((A 1005 (x2 : Int32).toNatClampNeg) = z3 → ev_Bi d 83 0 [some (.ref 1003), some (.int x2), some (.ref 1010), some (.int 0), none] I1 A2 (fun z7 I5 A6 => ((z7 = 0 → ev_Bi (d + 1) 85 35 [some (.ref 1003), some (.ref 1010), some (.int x2)] I5 A6 K) ∧ (¬ z7 = 0 → K x2 I5 A6)))) ∧ (¬ (A 1005 (x2 : Int32).toNatClampNeg) = z3 → ev_Bi (d + 1) 85 35 [some (.ref 1003), some (.ref 1010), some (.int x2)] I1 A2 K))) rfl rfl rfl (h.2 c11).2 (fun z3 I1 A2 h4 => ev_T.icmp_ne rfl (fun c10 => ev_T.adv (k' := 27) (ls' := [some (.ref 1003), some (.ref 1010), some (.int x2)]) (st' := [.int 0, .ref 1010, .int x2, .ref 1003]) (σ' := (1057, 55, I1, A2)) 4 rfl (ev_T.calli (m' := 83) (as := [.ref 1003, .int x2, .ref 1010, .int 0]) (r := []) (K' := fun z7 I5 A6 => ((z7 = 0 → ev_Bi (d + 1) 85 35 [some (.ref 1003), some (.ref 1010), some (.int x2)] I5 A6 K) ∧ (¬ z7 = 0 → K x2 I5 A6))) rfl rfl rfl (h4.1 c10) (fun z7 I5 A6 h8 => ev_T.if_eq rfl (fun c9 => (h8.1 c9)) (fun c9 => ev_T.adv (k' := 34) (ls' := [some (.ref 1003), some (.ref 1010), some (.int x2)]) (st' := [.int x2]) (σ' := (1057, 55, I5, A6)) 1 rfl (ev_T.reti rfl rfl (h8.2 c9)))))) (fun c10 => (h4.2 c10))))))))
    · exact ev_T.adv (k' := 7) (ls' := [some (.ref 1003), some (.ref 1028), some (.int x2)]) (st' := [.int (I 1003 4), .int x2]) (σ' := (1057, 55, I, A)) 3 rfl (ev_T.icmp_ge rfl (fun c11 => ev_T.adv (k' := 43) (ls' := [some (.ref 1003), some (.ref 1028), some (.int x2)]) (st' := [.int (-5)]) (σ' := (1057, 55, I, A)) 1 rfl (ev_T.reti rfl rfl (h.1 c11))) (fun c11 => ev_T.adv (k' := 15) (ls' := [some (.ref 1003), some (.ref 1028), some (.int x2)]) (st' := [.int x2, .ref 1005]) (σ' := (1057, 55, I, A)) 3 rfl (ev_T.iald (v := .int (A 1005 (x2 : Int32).toNatClampNeg)) rfl (h.2 c11).1 rfl rfl (ev_T.adv (k' := 17) (ls' := [some (.ref 1003), some (.ref 1028), some (.int x2)]) (st' := [.ref 1028, .int (A 1005 (x2 : Int32).toNatClampNeg)]) (σ' := (1057, 55, I, A)) 1 rfl (ev_T.calli (m' := 30) (as := [.ref 1028]) (r := [.int (A 1005 (x2 : Int32).toNatClampNeg)]) (K' := fun z3 I1 A2 => (((A 1005 (x2 : Int32).toNatClampNeg) = z3 → ev_Bi d 83 0 [some (.ref 1003), some (.int x2), some (.ref 1028), some (.int 0), none] I1 A2 (fun z7 I5 A6 => ((z7 = 0 → ev_Bi (d + 1) 85 35 [some (.ref 1003), some (.ref 1028), some (.int x2)] I5 A6 K) ∧ (¬ z7 = 0 → K x2 I5 A6)))) ∧ (¬ (A 1005 (x2 : Int32).toNatClampNeg) = z3 → ev_Bi (d + 1) 85 35 [some (.ref 1003), some (.ref 1028), some (.int x2)] I1 A2 K))) rfl rfl rfl (h.2 c11).2 (fun z3 I1 A2 h4 => ev_T.icmp_ne rfl (fun c10 => ev_T.adv (k' := 27) (ls' := [some (.ref 1003), some (.ref 1028), some (.int x2)]) (st' := [.int 0, .ref 1028, .int x2, .ref 1003]) (σ' := (1057, 55, I1, A2)) 4 rfl (ev_T.calli (m' := 83) (as := [.ref 1003, .int x2, .ref 1028, .int 0]) (r := []) (K' := fun z7 I5 A6 => ((z7 = 0 → ev_Bi (d + 1) 85 35 [some (.ref 1003), some (.ref 1028), some (.int x2)] I5 A6 K) ∧ (¬ z7 = 0 → K x2 I5 A6))) rfl rfl rfl (h4.1 c10) (fun z7 I5 A6 h8 => ev_T.if_eq rfl (fun c9 => (h8.1 c9)) (fun c9 => ev_T.adv (k' := 34) (ls' := [some (.ref 1003), some (.ref 1028), some (.int x2)]) (st' := [.int x2]) (σ' := (1057, 55, I5, A6)) 1 rfl (ev_T.reti rfl rfl (h8.2 c9)))))) (fun c10 => (h4.2 c10))))))))
set_option maxRecDepth 100000 in
theorem t_W_find_35 {d : Nat} {I A : Nat → Nat → Int32} {K : Int32 → (Nat → Nat → Int32) → (Nat → Nat → Int32) → Prop} {L : Nat} (hLL : ev_isL L) (x2 : Int32)  
    (h : ev_Bi (d + 1) 85 2 [some (.ref 1003), some (.ref L), some (.int (x2 + 1))] I A K) :
    ev_Bi (d + 1) 85 35 [some (.ref 1003), some (.ref L), some (.int x2)] I A K :=
  by
    rcases hLL with rfl | rfl | rfl
    · exact ev_T.adv (k' := 2) (ls' := [some (.ref 1003), some (.ref 1008), some (.int (x2 + 1))]) (st' := []) (σ' := (1057, 55, I, A)) 2 rfl (h)
    · exact ev_T.adv (k' := 2) (ls' := [some (.ref 1003), some (.ref 1010), some (.int (x2 + 1))]) (st' := []) (σ' := (1057, 55, I, A)) 2 rfl (h)
    · exact ev_T.adv (k' := 2) (ls' := [some (.ref 1003), some (.ref 1028), some (.int (x2 + 1))]) (st' := []) (σ' := (1057, 55, I, A)) 2 rfl (h)

/-! StemRules$Words.learn(LStemRules$Letters;)I -/
set_option maxRecDepth 100000 in
theorem t_W_learn_0 {d : Nat} {I A : Nat → Nat → Int32} {K : Int32 → (Nat → Nat → Int32) → (Nat → Nat → Int32) → Prop} {L : Nat} (hLL : ev_isL L)   
    (h : ev_Bi d 85 0 [some (.ref 1003), some (.ref L), none] I A (fun z3 I1 A2 => ((z3 = (-5) → (((I1 1003 4) < 150 → ev_Bi d 30 0 [some (.ref L)] (ev_upd I1 1003 4 ((I1 1003 4) + 1)) A2 (fun z7 I5 A6 => (vp_in (I1 1003 4) 150 ∧ ev_Bi (d + 1) 86 54 [some (.ref 1003), some (.ref L), some (.int (I1 1003 4)), some (.int 0)] I5 (ev_upd A6 1005 ((I1 1003 4) : Int32).toNatClampNeg z7) K))) ∧ (¬ (I1 1003 4) < 150 → K (-4) I1 A2))) ∧ (¬ z3 = (-5) → K z3 I1 A2)))) :
    ev_Bi (d + 1) 86 0 [some (.ref 1003), some (.ref L), none, none] I A K :=
  by
    rcases hLL with rfl | rfl | rfl
    · exact ev_T.adv (k' := 2) (ls' := [some (.ref 1003), some (.ref 1008), none, none]) (st' := [.ref 1008, .ref 1003]) (σ' := (1057, 55, I, A)) 2 rfl (ev_T.calli (m' := 85) (as := [.ref 1003, .ref 1008]) (r := []) (K' := fun z3 I1 A2 => ((z3 = (-5) → (((I1 1003 4) < 150 → ev_Bi d 30 0 [some (.ref 1008)] (ev_upd I1 1003 4 ((I1 1003 4) + 1)) A2 (fun z7 I5 A6 => (vp_in (I1 1003 4) 150 ∧ ev_Bi (d + 1) 86 54 [some (.ref 1003), some (.ref 1008), some (.int (I1 1003 4)), some (.int 0)] I5 (ev_upd A6 1005 ((I1 1003 4) : Int32).toNatClampNeg z7) K))) ∧ (¬ (I1 1003 4) < 150 → K (-4) I1 A2))) ∧ (¬ z3 = (-5) → K z3 I1 A2))) rfl rfl rfl h (fun z3 I1 A2 h4 => ev_T.adv (k' := 9) (ls' := [some (.ref 1003), some (.ref 1008), some (.int z3), none]) (st' := [.int (-5), .int z3]) (σ' := (1057, 55, I1, A2)) 3 rfl (ev_T.icmp_eq rfl (fun c10 => ev_T.adv (k' := 21) (ls' := [some (.ref 1003), some (.ref 1008), some (.int z3), none]) (st' := [.int 150, .int (I1 1003 4)]) (σ' := (1057, 55, I1, A2)) 3 rfl (ev_T.icmp_lt rfl (fun c9 => ev_T.adv (k' := 48) (ls' := [some (.ref 1003), some (.ref 1008), some (.int (I1 1003 4)), none]) (st' := [.ref 1008, .int (I1 1003 4), .ref 1005]) (σ' := (1057, 55, (ev_upd I1 1003 4 ((I1 1003 4) + 1)), A2)) 13 rfl (ev_T.calli (m' := 30) (as := [.ref 1008]) (r := [.int (I1 1003 4), .ref 1005]) (K' := fun z7 I5 A6 => (vp_in (I1 1003 4) 150 ∧ ev_Bi (d + 1) 86 54 [some (.ref 1003), some (.ref 1008), some (.int (I1 1003 4)), some (.int 0)] I5 (ev_upd A6 1005 ((I1 1003 4) : Int32).toNatClampNeg z7) K)) rfl rfl rfl ((h4.1 c10).1 c9) (fun z7 I5 A6 h8 => ev_T.iast rfl h8.1 (by decide) rfl (ev_T.adv (k' := 54) (ls' := [some (.ref 1003), some (.ref 1008), some (.int (I1 1003 4)), some (.int 0)]) (st' := []) (σ' := (1057, 55, I5, (ev_upd A6 1005 ((I1 1003 4) : Int32).toNatClampNeg z7))) 2 rfl (h8.2))))) (fun c9 => ev_T.adv (k' := 26) (ls' := [some (.ref 1003), some (.ref 1008), some (.int z3), none]) (st' := [.int (-4)]) (σ' := (1057, 55, I1, A2)) 1 rfl (ev_T.reti rfl rfl ((h4.1 c10).2 c9))))) (fun c10 => ev_T.adv (k' := 13) (ls' := [some (.ref 1003), some (.ref 1008), some (.int z3), none]) (st' := [.int z3]) (σ' := (1057, 55, I1, A2)) 1 rfl (ev_T.reti rfl rfl (h4.2 c10))))))
    · exact ev_T.adv (k' := 2) (ls' := [some (.ref 1003), some (.ref 1010), none, none]) (st' := [.ref 1010, .ref 1003]) (σ' := (1057, 55, I, A)) 2 rfl (ev_T.calli (m' := 85) (as := [.ref 1003, .ref 1010]) (r := []) (K' := fun z3 I1 A2 => ((z3 = (-5) → (((I1 1003 4) < 150 → ev_Bi d 30 0 [some (.ref 1010)] (ev_upd I1 1003 4 ((I1 1003 4) + 1)) A2 (fun z7 I5 A6 => (vp_in (I1 1003 4) 150 ∧ ev_Bi (d + 1) 86 54 [some (.ref 1003), some (.ref 1010), some (.int (I1 1003 4)), some (.int 0)] I5 (ev_upd A6 1005 ((I1 1003 4) : Int32).toNatClampNeg z7) K))) ∧ (¬ (I1 1003 4) < 150 → K (-4) I1 A2))) ∧ (¬ z3 = (-5) → K z3 I1 A2))) rfl rfl rfl h (fun z3 I1 A2 h4 => ev_T.adv (k' := 9) (ls' := [some (.ref 1003), some (.ref 1010), some (.int z3), none]) (st' := [.int (-5), .int z3]) (σ' := (1057, 55, I1, A2)) 3 rfl (ev_T.icmp_eq rfl (fun c10 => ev_T.adv (k' := 21) (ls' := [some (.ref 1003), some (.ref 1010), some (.int z3), none]) (st' := [.int 150, .int (I1 1003 4)]) (σ' := (1057, 55, I1, A2)) 3 rfl (ev_T.icmp_lt rfl (fun c9 => ev_T.adv (k' := 48) (ls' := [some (.ref 1003), some (.ref 1010), some (.int (I1 1003 4)), none]) (st' := [.ref 1010, .int (I1 1003 4), .ref 1005]) (σ' := (1057, 55, (ev_upd I1 1003 4 ((I1 1003 4) + 1)), A2)) 13 rfl (ev_T.calli (m' := 30) (as := [.ref 1010]) (r := [.int (I1 1003 4), .ref 1005]) (K' := fun z7 I5 A6 => (vp_in (I1 1003 4) 150 ∧ ev_Bi (d + 1) 86 54 [some (.ref 1003), some (.ref 1010), some (.int (I1 1003 4)), some (.int 0)] I5 (ev_upd A6 1005 ((I1 1003 4) : Int32).toNatClampNeg z7) K)) rfl rfl rfl ((h4.1 c10).1 c9) (fun z7 I5 A6 h8 => ev_T.iast rfl h8.1 (by decide) rfl (ev_T.adv (k' := 54) (ls' := [some (.ref 1003), some (.ref 1010), some (.int (I1 1003 4)), some (.int 0)]) (st' := []) (σ' := (1057, 55, I5, (ev_upd A6 1005 ((I1 1003 4) : Int32).toNatClampNeg z7))) 2 rfl (h8.2))))) (fun c9 => ev_T.adv (k' := 26) (ls' := [some (.ref 1003), some (.ref 1010), some (.int z3), none]) (st' := [.int (-4)]) (σ' := (1057, 55, I1, A2)) 1 rfl (ev_T.reti rfl rfl ((h4.1 c10).2 c9))))) (fun c10 => ev_T.adv (k' := 13) (ls' := [some (.ref 1003), some (.ref 1010), some (.int z3), none]) (st' := [.int z3]) (σ' := (1057, 55, I1, A2)) 1 rfl (ev_T.reti rfl rfl (h4.2 c10))))))
    · exact ev_T.adv (k' := 2) (ls' := [some (.ref 1003), some (.ref 1028), none, none]) (st' := [.ref 1028, .ref 1003]) (σ' := (1057, 55, I, A)) 2 rfl (ev_T.calli (m' := 85) (as := [.ref 1003, .ref 1028]) (r := []) (K' := fun z3 I1 A2 => ((z3 = (-5) → (((I1 1003 4) < 150 → ev_Bi d 30 0 [some (.ref 1028)] (ev_upd I1 1003 4 ((I1 1003 4) + 1)) A2 (fun z7 I5 A6 => (vp_in (I1 1003 4) 150 ∧ ev_Bi (d + 1) 86 54 [some (.ref 1003), some (.ref 1028), some (.int (I1 1003 4)), some (.int 0)] I5 (ev_upd A6 1005 ((I1 1003 4) : Int32).toNatClampNeg z7) K))) ∧ (¬ (I1 1003 4) < 150 → K (-4) I1 A2))) ∧ (¬ z3 = (-5) → K z3 I1 A2))) rfl rfl rfl h (fun z3 I1 A2 h4 => ev_T.adv (k' := 9) (ls' := [some (.ref 1003), some (.ref 1028), some (.int z3), none]) (st' := [.int (-5), .int z3]) (σ' := (1057, 55, I1, A2)) 3 rfl (ev_T.icmp_eq rfl (fun c10 => ev_T.adv (k' := 21) (ls' := [some (.ref 1003), some (.ref 1028), some (.int z3), none]) (st' := [.int 150, .int (I1 1003 4)]) (σ' := (1057, 55, I1, A2)) 3 rfl (ev_T.icmp_lt rfl (fun c9 => ev_T.adv (k' := 48) (ls' := [some (.ref 1003), some (.ref 1028), some (.int (I1 1003 4)), none]) (st' := [.ref 1028, .int (I1 1003 4), .ref 1005]) (σ' := (1057, 55, (ev_upd I1 1003 4 ((I1 1003 4) + 1)), A2)) 13 rfl (ev_T.calli (m' := 30) (as := [.ref 1028]) (r := [.int (I1 1003 4), .ref 1005]) (K' := fun z7 I5 A6 => (vp_in (I1 1003 4) 150 ∧ ev_Bi (d + 1) 86 54 [some (.ref 1003), some (.ref 1028), some (.int (I1 1003 4)), some (.int 0)] I5 (ev_upd A6 1005 ((I1 1003 4) : Int32).toNatClampNeg z7) K)) rfl rfl rfl ((h4.1 c10).1 c9) (fun z7 I5 A6 h8 => ev_T.iast rfl h8.1 (by decide) rfl (ev_T.adv (k' := 54) (ls' := [some (.ref 1003), some (.ref 1028), some (.int (I1 1003 4)), some (.int 0)]) (st' := []) (σ' := (1057, 55, I5, (ev_upd A6 1005 ((I1 1003 4) : Int32).toNatClampNeg z7))) 2 rfl (h8.2))))) (fun c9 => ev_T.adv (k' := 26) (ls' := [some (.ref 1003), some (.ref 1028), some (.int z3), none]) (st' := [.int (-4)]) (σ' := (1057, 55, I1, A2)) 1 rfl (ev_T.reti rfl rfl ((h4.1 c10).2 c9))))) (fun c10 => ev_T.adv (k' := 13) (ls' := [some (.ref 1003), some (.ref 1028), some (.int z3), none]) (st' := [.int z3]) (σ' := (1057, 55, I1, A2)) 1 rfl (ev_T.reti rfl rfl (h4.2 c10))))))
set_option maxRecDepth 100000 in
theorem t_W_learn_54 {d : Nat} {I A : Nat → Nat → Int32} {K : Int32 → (Nat → Nat → Int32) → (Nat → Nat → Int32) → Prop} {L : Nat} (hLL : ev_isL L) (x2 : Int32) (x3 : Int32)  
    (h : ev_Bi d 30 0 [some (.ref L)] I A (fun z3 I1 A2 => ((z3 ≤ x3 → (vp_in x2 150 ∧ K x2 I1 (ev_upd A2 1006 (x2 : Int32).toNatClampNeg (-5)))) ∧ (¬ z3 ≤ x3 → ev_Bi d 31 0 [some (.ref L), some (.int x3)] I1 A2 (fun z7 I5 A6 => (vp_in ((x2 * 24) + x3) 3600 ∧ ev_Bi (d + 1) 86 54 [some (.ref 1003), some (.ref L), some (.int x2), some (.int (x3 + 1))] I5 (ev_upd A6 1004 (((x2 * 24) + x3) : Int32).toNatClampNeg (vp_nar .char z7)) K)))))) :
    ev_Bi (d + 1) 86 54 [some (.ref 1003), some (.ref L), some (.int x2), some (.int x3)] I A K :=
  by
    rcases hLL with rfl | rfl | rfl
    · exact ev_T.adv (k' := 56) (ls' := [some (.ref 1003), some (.ref 1008), some (.int x2), some (.int x3)]) (st' := [.ref 1008, .int x3]) (σ' := (1057, 55, I, A)) 2 rfl (ev_T.calli (m' := 30) (as := [.ref 1008]) (r := [.int x3]) (K' := fun z3 I1 A2 => ((z3 ≤ x3 → (vp_in x2 150 ∧ K x2 I1 (ev_upd A2 1006 (x2 : Int32).toNatClampNeg (-5)))) ∧ (¬ z3 ≤ x3 → ev_Bi d 31 0 [some (.ref 1008), some (.int x3)] I1 A2 (fun z7 I5 A6 => (vp_in ((x2 * 24) + x3) 3600 ∧ ev_Bi (d + 1) 86 54 [some (.ref 1003), some (.ref 1008), some (.int x2), some (.int (x3 + 1))] I5 (ev_upd A6 1004 (((x2 * 24) + x3) : Int32).toNatClampNeg (vp_nar .char z7)) K))))) rfl rfl rfl h (fun z3 I1 A2 h4 => ev_T.icmp_ge rfl (fun c9 => ev_T.adv (k' := 91) (ls' := [some (.ref 1003), some (.ref 1008), some (.int x2), some (.int x3)]) (st' := [.int (-5), .int x2, .ref 1006]) (σ' := (1057, 55, I1, A2)) 4 rfl (ev_T.iast rfl (h4.1 c9).1 (by decide) rfl (ev_T.adv (k' := 93) (ls' := [some (.ref 1003), some (.ref 1008), some (.int x2), some (.int x3)]) (st' := [.int x2]) (σ' := (1057, 55, I1, (ev_upd A2 1006 (x2 : Int32).toNatClampNeg (-5)))) 1 rfl (ev_T.reti rfl rfl (h4.1 c9).2)))) (fun c9 => ev_T.adv (k' := 74) (ls' := [some (.ref 1003), some (.ref 1008), some (.int x2), some (.int x3)]) (st' := [.int x3, .ref 1008, .int ((x2 * 24) + x3), .ref 1004]) (σ' := (1057, 55, I1, A2)) 9 rfl (ev_T.calli (m' := 31) (as := [.ref 1008, .int x3]) (r := [.int ((x2 * 24) + x3), .ref 1004]) (K' := fun z7 I5 A6 => (vp_in ((x2 * 24) + x3) 3600 ∧ ev_Bi (d + 1) 86 54 [some (.ref 1003), some (.ref 1008), some (.int x2), some (.int (x3 + 1))] I5 (ev_upd A6 1004 (((x2 * 24) + x3) : Int32).toNatClampNeg (vp_nar .char z7)) K)) rfl rfl rfl (h4.2 c9) (fun z7 I5 A6 h8 => ev_T.cast rfl h8.1 (by decide) rfl (ev_T.adv (k' := 54) (ls' := [some (.ref 1003), some (.ref 1008), some (.int x2), some (.int (x3 + 1))]) (st' := []) (σ' := (1057, 55, I5, (ev_upd A6 1004 (((x2 * 24) + x3) : Int32).toNatClampNeg (vp_nar .char z7)))) 2 rfl (h8.2)))))))
    · exact ev_T.adv (k' := 56) (ls' := [some (.ref 1003), some (.ref 1010), some (.int x2), some (.int x3)]) (st' := [.ref 1010, .int x3]) (σ' := (1057, 55, I, A)) 2 rfl (ev_T.calli (m' := 30) (as := [.ref 1010]) (r := [.int x3]) (K' := fun z3 I1 A2 => ((z3 ≤ x3 → (vp_in x2 150 ∧ K x2 I1 (ev_upd A2 1006 (x2 : Int32).toNatClampNeg (-5)))) ∧ (¬ z3 ≤ x3 → ev_Bi d 31 0 [some (.ref 1010), some (.int x3)] I1 A2 (fun z7 I5 A6 => (vp_in ((x2 * 24) + x3) 3600 ∧ ev_Bi (d + 1) 86 54 [some (.ref 1003), some (.ref 1010), some (.int x2), some (.int (x3 + 1))] I5 (ev_upd A6 1004 (((x2 * 24) + x3) : Int32).toNatClampNeg (vp_nar .char z7)) K))))) rfl rfl rfl h (fun z3 I1 A2 h4 => ev_T.icmp_ge rfl (fun c9 => ev_T.adv (k' := 91) (ls' := [some (.ref 1003), some (.ref 1010), some (.int x2), some (.int x3)]) (st' := [.int (-5), .int x2, .ref 1006]) (σ' := (1057, 55, I1, A2)) 4 rfl (ev_T.iast rfl (h4.1 c9).1 (by decide) rfl (ev_T.adv (k' := 93) (ls' := [some (.ref 1003), some (.ref 1010), some (.int x2), some (.int x3)]) (st' := [.int x2]) (σ' := (1057, 55, I1, (ev_upd A2 1006 (x2 : Int32).toNatClampNeg (-5)))) 1 rfl (ev_T.reti rfl rfl (h4.1 c9).2)))) (fun c9 => ev_T.adv (k' := 74) (ls' := [some (.ref 1003), some (.ref 1010), some (.int x2), some (.int x3)]) (st' := [.int x3, .ref 1010, .int ((x2 * 24) + x3), .ref 1004]) (σ' := (1057, 55, I1, A2)) 9 rfl (ev_T.calli (m' := 31) (as := [.ref 1010, .int x3]) (r := [.int ((x2 * 24) + x3), .ref 1004]) (K' := fun z7 I5 A6 => (vp_in ((x2 * 24) + x3) 3600 ∧ ev_Bi (d + 1) 86 54 [some (.ref 1003), some (.ref 1010), some (.int x2), some (.int (x3 + 1))] I5 (ev_upd A6 1004 (((x2 * 24) + x3) : Int32).toNatClampNeg (vp_nar .char z7)) K)) rfl rfl rfl (h4.2 c9) (fun z7 I5 A6 h8 => ev_T.cast rfl h8.1 (by decide) rfl (ev_T.adv (k' := 54) (ls' := [some (.ref 1003), some (.ref 1010), some (.int x2), some (.int (x3 + 1))]) (st' := []) (σ' := (1057, 55, I5, (ev_upd A6 1004 (((x2 * 24) + x3) : Int32).toNatClampNeg (vp_nar .char z7)))) 2 rfl (h8.2)))))))
    · exact ev_T.adv (k' := 56) (ls' := [some (.ref 1003), some (.ref 1028), some (.int x2), some (.int x3)]) (st' := [.ref 1028, .int x3]) (σ' := (1057, 55, I, A)) 2 rfl (ev_T.calli (m' := 30) (as := [.ref 1028]) (r := [.int x3]) (K' := fun z3 I1 A2 => ((z3 ≤ x3 → (vp_in x2 150 ∧ K x2 I1 (ev_upd A2 1006 (x2 : Int32).toNatClampNeg (-5)))) ∧ (¬ z3 ≤ x3 → ev_Bi d 31 0 [some (.ref 1028), some (.int x3)] I1 A2 (fun z7 I5 A6 => (vp_in ((x2 * 24) + x3) 3600 ∧ ev_Bi (d + 1) 86 54 [some (.ref 1003), some (.ref 1028), some (.int x2), some (.int (x3 + 1))] I5 (ev_upd A6 1004 (((x2 * 24) + x3) : Int32).toNatClampNeg (vp_nar .char z7)) K))))) rfl rfl rfl h (fun z3 I1 A2 h4 => ev_T.icmp_ge rfl (fun c9 => ev_T.adv (k' := 91) (ls' := [some (.ref 1003), some (.ref 1028), some (.int x2), some (.int x3)]) (st' := [.int (-5), .int x2, .ref 1006]) (σ' := (1057, 55, I1, A2)) 4 rfl (ev_T.iast rfl (h4.1 c9).1 (by decide) rfl (ev_T.adv (k' := 93) (ls' := [some (.ref 1003), some (.ref 1028), some (.int x2), some (.int x3)]) (st' := [.int x2]) (σ' := (1057, 55, I1, (ev_upd A2 1006 (x2 : Int32).toNatClampNeg (-5)))) 1 rfl (ev_T.reti rfl rfl (h4.1 c9).2)))) (fun c9 => ev_T.adv (k' := 74) (ls' := [some (.ref 1003), some (.ref 1028), some (.int x2), some (.int x3)]) (st' := [.int x3, .ref 1028, .int ((x2 * 24) + x3), .ref 1004]) (σ' := (1057, 55, I1, A2)) 9 rfl (ev_T.calli (m' := 31) (as := [.ref 1028, .int x3]) (r := [.int ((x2 * 24) + x3), .ref 1004]) (K' := fun z7 I5 A6 => (vp_in ((x2 * 24) + x3) 3600 ∧ ev_Bi (d + 1) 86 54 [some (.ref 1003), some (.ref 1028), some (.int x2), some (.int (x3 + 1))] I5 (ev_upd A6 1004 (((x2 * 24) + x3) : Int32).toNatClampNeg (vp_nar .char z7)) K)) rfl rfl rfl (h4.2 c9) (fun z7 I5 A6 h8 => ev_T.cast rfl h8.1 (by decide) rfl (ev_T.adv (k' := 54) (ls' := [some (.ref 1003), some (.ref 1028), some (.int x2), some (.int (x3 + 1))]) (st' := []) (σ' := (1057, 55, I5, (ev_upd A6 1004 (((x2 * 24) + x3) : Int32).toNatClampNeg (vp_nar .char z7)))) 2 rfl (h8.2)))))))

/-! StemRules$Words.forgetFrom(I)V -/
set_option maxRecDepth 100000 in
theorem t_W_forgetFrom_0 {d : Nat} {I A : Nat → Nat → Int32} {K : (Nat → Nat → Int32) → (Nat → Nat → Int32) → Prop}   (x1 : Int32)  
    (h : ((x1 < 0 → K I A) ∧ (¬ x1 < 0 → (((I 1003 4) ≤ x1 → K I A) ∧ (¬ (I 1003 4) ≤ x1 → K (ev_upd I 1003 4 x1) A))))) :
    ev_Bv d 87 0 [some (.ref 1003), some (.int x1)] I A K :=
  ev_T.adv (k' := 1) (ls' := [some (.ref 1003), some (.int x1)]) (st' := [.int x1]) (σ' := (1057, 55, I, A)) 1 rfl (ev_T.if_lt rfl (fun c2 => ev_T.retv rfl rfl (h.1 c2)) (fun c2 => ev_T.adv (k' := 9) (ls' := [some (.ref 1003), some (.int x1)]) (st' := [.int (I 1003 4), .int x1]) (σ' := (1057, 55, I, A)) 3 rfl (ev_T.icmp_ge rfl (fun c1 => ev_T.retv rfl rfl ((h.2 c2).1 c1)) (fun c1 => ev_T.adv (k' := 17) (ls' := [some (.ref 1003), some (.int x1)]) (st' := []) (σ' := (1057, 55, (ev_upd I 1003 4 x1), A)) 3 rfl (ev_T.retv rfl rfl ((h.2 c2).2 c1))))))

/-! StemRules$Words.isMarked(II)Z -/
set_option maxRecDepth 100000 in
theorem t_W_isMarked_0 {d : Nat} {I A : Nat → Nat → Int32} {K : Int32 → (Nat → Nat → Int32) → (Nat → Nat → Int32) → Prop}   (x1 : Int32) (x2 : Int32)  
    (h : ((x1 < 0 → K 0 I A) ∧ (¬ x1 < 0 → (((3 : Int32) ≤ x1 → K 0 I A) ∧ (¬ (3 : Int32) ≤ x1 → ev_Bi d 78 0 [some (.ref 1003), some (.int x2)] I A (fun z3 I1 A2 => ((z3 = 0 → K 0 I1 A2) ∧ (¬ z3 = 0 → (vp_in ((x2 * 3) + x1) 450 ∧ (((A2 1007 (((x2 * 3) + x1) : Int32).toNatClampNeg) = 0 → K 0 I1 A2) ∧ (¬ (A2 1007 (((x2 * 3) + x1) : Int32).toNatClampNeg) = 0 → K 1 I1 A2))))))))))) :
    ev_Bi (d + 1) 88 0 [some (.ref 1003), some (.int x1), some (.int x2)] I A K :=
  ev_T.adv (k' := 1) (ls' := [some (.ref 1003), some (.int x1), some (.int x2)]) (st' := [.int x1]) (σ' := (1057, 55, I, A)) 1 rfl (ev_T.if_lt rfl (fun c8 => ev_T.adv (k' := 35) (ls' := [some (.ref 1003), some (.int x1), some (.int x2)]) (st' := [.int 0]) (σ' := (1057, 55, I, A)) 1 rfl (ev_T.retz rfl rfl (by decide) (h.1 c8))) (fun c8 => ev_T.adv (k' := 6) (ls' := [some (.ref 1003), some (.int x1), some (.int x2)]) (st' := [.int 3, .int x1]) (σ' := (1057, 55, I, A)) 2 rfl (ev_T.icmp_ge rfl (fun c7 => ev_T.adv (k' := 35) (ls' := [some (.ref 1003), some (.int x1), some (.int x2)]) (st' := [.int 0]) (σ' := (1057, 55, I, A)) 1 rfl (ev_T.retz rfl rfl (by decide) ((h.2 c8).1 c7))) (fun c7 => ev_T.adv (k' := 11) (ls' := [some (.ref 1003), some (.int x1), some (.int x2)]) (st' := [.int x2, .ref 1003]) (σ' := (1057, 55, I, A)) 2 rfl (ev_T.calli (m' := 78) (as := [.ref 1003, .int x2]) (r := []) (K' := fun z3 I1 A2 => ((z3 = 0 → K 0 I1 A2) ∧ (¬ z3 = 0 → (vp_in ((x2 * 3) + x1) 450 ∧ (((A2 1007 (((x2 * 3) + x1) : Int32).toNatClampNeg) = 0 → K 0 I1 A2) ∧ (¬ (A2 1007 (((x2 * 3) + x1) : Int32).toNatClampNeg) = 0 → K 1 I1 A2)))))) rfl rfl rfl ((h.2 c8).2 c7) (fun z3 I1 A2 h4 => ev_T.if_eq rfl (fun c6 => ev_T.adv (k' := 35) (ls' := [some (.ref 1003), some (.int x1), some (.int x2)]) (st' := [.int 0]) (σ' := (1057, 55, I1, A2)) 1 rfl (ev_T.retz rfl rfl (by decide) (h4.1 c6))) (fun c6 => ev_T.adv (k' := 26) (ls' := [some (.ref 1003), some (.int x1), some (.int x2)]) (st' := [.int ((x2 * 3) + x1), .ref 1007]) (σ' := (1057, 55, I1, A2)) 7 rfl (ev_T.zald (v := .int (A2 1007 (((x2 * 3) + x1) : Int32).toNatClampNeg)) rfl (h4.2 c6).1 rfl rfl (ev_T.if_eq rfl (fun c5 => ev_T.adv (k' := 35) (ls' := [some (.ref 1003), some (.int x1), some (.int x2)]) (st' := [.int 0]) (σ' := (1057, 55, I1, A2)) 1 rfl (ev_T.retz rfl rfl (by decide) ((h4.2 c6).2.1 c5))) (fun c5 => ev_T.adv (k' := 35) (ls' := [some (.ref 1003), some (.int x1), some (.int x2)]) (st' := [.int 1]) (σ' := (1057, 55, I1, A2)) 2 rfl (ev_T.retz rfl rfl (by decide) ((h4.2 c6).2.2 c5))))))))))))

/-! StemRules$Words.setMark(IIZ)V -/
set_option maxRecDepth 100000 in
theorem t_W_setMark_0 {d : Nat} {I A : Nat → Nat → Int32} {K : (Nat → Nat → Int32) → (Nat → Nat → Int32) → Prop}   (x1 : Int32) (x2 : Int32) (x3 : Int32)  
    (h : ((x1 < 0 → K I A) ∧ (¬ x1 < 0 → (((3 : Int32) ≤ x1 → K I A) ∧ (¬ (3 : Int32) ≤ x1 → ev_Bi d 78 0 [some (.ref 1003), some (.int x2)] I A (fun z3 I1 A2 => ((z3 = 0 → K I1 A2) ∧ (¬ z3 = 0 → (vp_in ((x2 * 3) + x1) 450 ∧ K I1 (ev_upd A2 1007 (((x2 * 3) + x1) : Int32).toNatClampNeg (vp_nar .boolean x3))))))))))) :
    ev_Bv (d + 1) 89 0 [some (.ref 1003), some (.int x1), some (.int x2), some (.int x3)] I A K :=
  ev_T.adv (k' := 1) (ls' := [some (.ref 1003), some (.int x1), some (.int x2), some (.int x3)]) (st' := [.int x1]) (σ' := (1057, 55, I, A)) 1 rfl (ev_T.if_lt rfl (fun c7 => ev_T.retv rfl rfl (h.1 c7)) (fun c7 => ev_T.adv (k' := 6) (ls' := [some (.ref 1003), some (.int x1), some (.int x2), some (.int x3)]) (st' := [.int 3, .int x1]) (σ' := (1057, 55, I, A)) 2 rfl (ev_T.icmp_ge rfl (fun c6 => ev_T.retv rfl rfl ((h.2 c7).1 c6)) (fun c6 => ev_T.adv (k' := 11) (ls' := [some (.ref 1003), some (.int x1), some (.int x2), some (.int x3)]) (st' := [.int x2, .ref 1003]) (σ' := (1057, 55, I, A)) 2 rfl (ev_T.calli (m' := 78) (as := [.ref 1003, .int x2]) (r := []) (K' := fun z3 I1 A2 => ((z3 = 0 → K I1 A2) ∧ (¬ z3 = 0 → (vp_in ((x2 * 3) + x1) 450 ∧ K I1 (ev_upd A2 1007 (((x2 * 3) + x1) : Int32).toNatClampNeg (vp_nar .boolean x3)))))) rfl rfl rfl ((h.2 c7).2 c6) (fun z3 I1 A2 h4 => ev_T.if_eq rfl (fun c5 => ev_T.retv rfl rfl (h4.1 c5)) (fun c5 => ev_T.adv (k' := 27) (ls' := [some (.ref 1003), some (.int x1), some (.int x2), some (.int x3)]) (st' := [.int x3, .int ((x2 * 3) + x1), .ref 1007]) (σ' := (1057, 55, I1, A2)) 8 rfl (ev_T.zast rfl (h4.2 c5).1 (by decide) rfl (ev_T.retv rfl rfl (h4.2 c5).2)))))))))

/-! StemRules$Words.pairOf(I)I -/
set_option maxRecDepth 100000 in
theorem t_W_pairOf_0 {d : Nat} {I A : Nat → Nat → Int32} {K : Int32 → (Nat → Nat → Int32) → (Nat → Nat → Int32) → Prop}   (x1 : Int32)  
    (h : ev_Bi d 78 0 [some (.ref 1003), some (.int x1)] I A (fun z3 I1 A2 => ((z3 = 0 → K (-5) I1 A2) ∧ (¬ z3 = 0 → (vp_in x1 150 ∧ K (A2 1006 (x1 : Int32).toNatClampNeg) I1 A2))))) :
    ev_Bi (d + 1) 90 0 [some (.ref 1003), some (.int x1)] I A K :=
  ev_T.adv (k' := 2) (ls' := [some (.ref 1003), some (.int x1)]) (st' := [.int x1, .ref 1003]) (σ' := (1057, 55, I, A)) 2 rfl (ev_T.calli (m' := 78) (as := [.ref 1003, .int x1]) (r := []) (K' := fun z3 I1 A2 => ((z3 = 0 → K (-5) I1 A2) ∧ (¬ z3 = 0 → (vp_in x1 150 ∧ K (A2 1006 (x1 : Int32).toNatClampNeg) I1 A2)))) rfl rfl rfl h (fun z3 I1 A2 h4 => ev_T.if_eq rfl (fun c5 => ev_T.adv (k' := 19) (ls' := [some (.ref 1003), some (.int x1)]) (st' := [.int (-5)]) (σ' := (1057, 55, I1, A2)) 1 rfl (ev_T.reti rfl rfl (h4.1 c5))) (fun c5 => ev_T.adv (k' := 13) (ls' := [some (.ref 1003), some (.int x1)]) (st' := [.int x1, .ref 1006]) (σ' := (1057, 55, I1, A2)) 3 rfl (ev_T.iald (v := .int (A2 1006 (x1 : Int32).toNatClampNeg)) rfl (h4.2 c5).1 rfl rfl (ev_T.adv (k' := 19) (ls' := [some (.ref 1003), some (.int x1)]) (st' := [.int (A2 1006 (x1 : Int32).toNatClampNeg)]) (σ' := (1057, 55, I1, A2)) 1 rfl (ev_T.reti rfl rfl (h4.2 c5).2))))))

/-! StemRules$Words.setPair(II)V -/
set_option maxRecDepth 100000 in
theorem t_W_setPair_0 {d : Nat} {I A : Nat → Nat → Int32} {K : (Nat → Nat → Int32) → (Nat → Nat → Int32) → Prop}   (x1 : Int32) (x2 : Int32)  
    (h : ev_Bi d 78 0 [some (.ref 1003), some (.int x1)] I A (fun z3 I1 A2 => ((z3 = 0 → K I1 A2) ∧ (¬ z3 = 0 → (vp_in x1 150 ∧ K I1 (ev_upd A2 1006 (x1 : Int32).toNatClampNeg x2)))))) :
    ev_Bv (d + 1) 91 0 [some (.ref 1003), some (.int x1), some (.int x2)] I A K :=
  ev_T.adv (k' := 2) (ls' := [some (.ref 1003), some (.int x1), some (.int x2)]) (st' := [.int x1, .ref 1003]) (σ' := (1057, 55, I, A)) 2 rfl (ev_T.calli (m' := 78) (as := [.ref 1003, .int x1]) (r := []) (K' := fun z3 I1 A2 => ((z3 = 0 → K I1 A2) ∧ (¬ z3 = 0 → (vp_in x1 150 ∧ K I1 (ev_upd A2 1006 (x1 : Int32).toNatClampNeg x2))))) rfl rfl rfl h (fun z3 I1 A2 h4 => ev_T.if_eq rfl (fun c5 => ev_T.retv rfl rfl (h4.1 c5)) (fun c5 => ev_T.adv (k' := 14) (ls' := [some (.ref 1003), some (.int x1), some (.int x2)]) (st' := [.int x2, .int x1, .ref 1006]) (σ' := (1057, 55, I1, A2)) 4 rfl (ev_T.iast rfl (h4.2 c5).1 (by decide) rfl (ev_T.retv rfl rfl (h4.2 c5).2)))))
end
section
/-! StemRules.feed(IIIII)I -/
set_option maxRecDepth 100000 in
theorem t_S_feed_0 {d : Nat} {I A : Nat → Nat → Int32} {K : Int32 → (Nat → Nat → Int32) → (Nat → Nat → Int32) → Prop}   (x1 : Int32) (x2 : Int32) (x3 : Int32) (x4 : Int32) (x5 : Int32)  
    (h : ev_Bi d 60 0 [some (.ref 1001)] I A (fun z3 I1 A2 => ((z3 = 0 → K (-4) I1 A2) ∧ (¬ z3 = 0 → ev_Bv d 61 0 [some (.ref 1001), some (.int x1), none] I1 A2 (fun I5 A6 => ev_Bv d 61 0 [some (.ref 1001), some (.int x2), none] I5 A6 (fun I8 A9 => ev_Bv d 61 0 [some (.ref 1001), some (.int x3), none] I8 A9 (fun I11 A12 => ev_Bv d 61 0 [some (.ref 1001), some (.int x4), none] I11 A12 (fun I14 A15 => ev_Bv d 61 0 [some (.ref 1001), some (.int x5), none] I14 A15 (fun I17 A18 => ev_Bi d 59 0 [some (.ref 1001)] I17 A18 (fun z22 I20 A21 => K z22 I20 A21)))))))))) :
    ev_Bi (d + 1) 93 0 [some (.ref 1000), some (.int x1), some (.int x2), some (.int x3), some (.int x4), some (.int x5)] I A K :=
  ev_T.adv (k' := 4) (ls' := [some (.ref 1000), some (.int x1), some (.int x2), some (.int x3), some (.int x4), some (.int x5)]) (st' := [.ref 1001]) (σ' := (1057, 55, I, A)) 2 rfl (ev_T.calli (m' := 60) (as := [.ref 1001]) (r := []) (K' := fun z3 I1 A2 => ((z3 = 0 → K (-4) I1 A2) ∧ (¬ z3 = 0 → ev_Bv d 61 0 [some (.ref 1001), some (.int x1), none] I1 A2 (fun I5 A6 => ev_Bv d 61 0 [some (.ref 1001), some (.int x2), none] I5 A6 (fun I8 A9 => ev_Bv d 61 0 [some (.ref 1001), some (.int x3), none] I8 A9 (fun I11 A12 => ev_Bv d 61 0 [some (.ref 1001), some (.int x4), none] I11 A12 (fun I14 A15 => ev_Bv d 61 0 [some (.ref 1001), some (.int x5), none] I14 A15 (fun I17 A18 => ev_Bi d 59 0 [some (.ref 1001)] I17 A18 (fun z22 I20 A21 => K z22 I20 A21))))))))) rfl rfl rfl h (fun z3 I1 A2 h4 => ev_T.if_ne rfl (fun c24 => ev_T.adv (k' := 12) (ls' := [some (.ref 1000), some (.int x1), some (.int x2), some (.int x3), some (.int x4), some (.int x5)]) (st' := [.int (-4)]) (σ' := (1057, 55, I1, A2)) 1 rfl (ev_T.reti rfl rfl (h4.1 c24))) (fun c24 => ev_T.adv (k' := 18) (ls' := [some (.ref 1000), some (.int x1), some (.int x2), some (.int x3), some (.int x4), some (.int x5)]) (st' := [.int x1, .ref 1001]) (σ' := (1057, 55, I1, A2)) 3 rfl (ev_T.callv (m' := 61) (as := [.ref 1001, .int x1]) (r := []) (K' := fun I5 A6 => ev_Bv d 61 0 [some (.ref 1001), some (.int x2), none] I5 A6 (fun I8 A9 => ev_Bv d 61 0 [some (.ref 1001), some (.int x3), none] I8 A9 (fun I11 A12 => ev_Bv d 61 0 [some (.ref 1001), some (.int x4), none] I11 A12 (fun I14 A15 => ev_Bv d 61 0 [some (.ref 1001), some (.int x5), none] I14 A15 (fun I17 A18 => ev_Bi d 59 0 [some (.ref 1001)] I17 A18 (fun z22 I20 A21 => K z22 I20 A21)))))) rfl rfl rfl (h4.2 c24) (fun I5 A6 h7 => ev_T.adv (k' := 26) (ls' := [some (.ref 1000), some (.int x1), some (.int x2), some (.int x3), some (.int x4), some (.int x5)]) (st' := [.int x2, .ref 1001]) (σ' := (1057, 55, I5, A6)) 3 rfl (ev_T.callv (m' := 61) (as := [.ref 1001, .int x2]) (r := []) (K' := fun I8 A9 => ev_Bv d 61 0 [some (.ref 1001), some (.int x3), none] I8 A9 (fun I11 A12 => ev_Bv d 61 0 [some (.ref 1001), some (.int x4), none] I11 A12 (fun I14 A15 => ev_Bv d 61 0 [some (.ref 1001), some (.int x5), none] I14 A15 (fun I17 A18 => ev_Bi d 59 0 [some (.ref 1001)] I17 A18 (fun z22 I20 A21 => K z22 I20 A21))))) rfl rfl rfl h7 (fun I8 A9 h10 => ev_T.adv (k' := 34) (ls' := [some (.ref 1000), some (.int x1), some (.int x2), some (.int x3), some (.int x4), some (.int x5)]) (st' := [.int x3, .ref 1001]) (σ' := (1057, 55, I8, A9)) 3 rfl (ev_T.callv (m' := 61) (as := [.ref 1001, .int x3]) (r := []) (K' := fun I11 A12 => ev_Bv d 61 0 [some (.ref 1001), some (.int x4), none] I11 A12 (fun I14 A15 => ev_Bv d 61 0 [some (.ref 1001), some (.int x5), none] I14 A15 (fun I17 A18 => ev_Bi d 59 0 [some (.ref 1001)] I17 A18 (fun z22 I20 A21 => K z22 I20 A21)))) rfl rfl rfl h10 (fun I11 A12 h13 => ev_T.adv (k' := 43) (ls' := [some (.ref 1000), some (.int x1), some (.int x2), some (.int x3), some (.int x4), some (.int x5)]) (st' := [.int x4, .ref 1001]) (σ' := (1057, 55, I11, A12)) 3 rfl (ev_T.callv (m' := 61) (as := [.ref 1001, .int x4]) (r := []) (K' := fun I14 A15 => ev_Bv d 61 0 [some (.ref 1001), some (.int x5), none] I14 A15 (fun I17 A18 => ev_Bi d 59 0 [some (.ref 1001)] I17 A18 (fun z22 I20 A21 => K z22 I20 A21))) rfl rfl rfl h13 (fun I14 A15 h16 => ev_T.adv (k' := 52) (ls' := [some (.ref 1000), some (.int x1), some (.int x2), some (.int x3), some (.int x4), some (.int x5)]) (st' := [.int x5, .ref 1001]) (σ' := (1057, 55, I14, A15)) 3 rfl (ev_T.callv (m' := 61) (as := [.ref 1001, .int x5]) (r := []) (K' := fun I17 A18 => ev_Bi d 59 0 [some (.ref 1001)] I17 A18 (fun z22 I20 A21 => K z22 I20 A21)) rfl rfl rfl h16 (fun I17 A18 h19 => ev_T.adv (k' := 59) (ls' := [some (.ref 1000), some (.int x1), some (.int x2), some (.int x3), some (.int x4), some (.int x5)]) (st' := [.ref 1001]) (σ' := (1057, 55, I17, A18)) 2 rfl (ev_T.calli (m' := 59) (as := [.ref 1001]) (r := []) (K' := fun z22 I20 A21 => K z22 I20 A21) rfl rfl rfl h19 (fun z22 I20 A21 h23 => ev_T.reti rfl rfl h23)))))))))))))))

/-! StemRules.cut(I)I -/
set_option maxRecDepth 100000 in
theorem t_S_cut_0 {d : Nat} {I A : Nat → Nat → Int32} {K : Int32 → (Nat → Nat → Int32) → (Nat → Nat → Int32) → Prop}   (x1 : Int32)  
    (h : ev_Bi d 59 0 [some (.ref 1001)] I A (fun z3 I1 A2 => ((x1 < 0 → K (-2) I1 A2) ∧ (¬ x1 < 0 → ((x1 ≤ z3 → ev_Bv d 62 0 [some (.ref 1001), some (.int x1)] I1 A2 (fun I5 A6 => K (z3 - x1) I5 A6)) ∧ (¬ x1 ≤ z3 → K (-2) I1 A2)))))) :
    ev_Bi (d + 1) 94 0 [some (.ref 1000), some (.int x1), none] I A K :=
  ev_T.adv (k' := 4) (ls' := [some (.ref 1000), some (.int x1), none]) (st' := [.ref 1001]) (σ' := (1057, 55, I, A)) 2 rfl (ev_T.calli (m' := 59) (as := [.ref 1001]) (r := []) (K' := fun z3 I1 A2 => ((x1 < 0 → K (-2) I1 A2) ∧ (¬ x1 < 0 → ((x1 ≤ z3 → ev_Bv d 62 0 [some (.ref 1001), some (.int x1)] I1 A2 (fun I5 A6 => K (z3 - x1) I5 A6)) ∧ (¬ x1 ≤ z3 → K (-2) I1 A2))))) rfl rfl rfl h (fun z3 I1 A2 h4 => ev_T.adv (k' := 9) (ls' := [some (.ref 1000), some (.int x1), some (.int z3)]) (st' := [.int x1]) (σ' := (1057, 55, I1, A2)) 2 rfl (ev_T.if_lt rfl (fun c9 => ev_T.adv (k' := 19) (ls' := [some (.ref 1000), some (.int x1), some (.int z3)]) (st' := [.int (-2)]) (σ' := (1057, 55, I1, A2)) 1 rfl (ev_T.reti rfl rfl (h4.1 c9))) (fun c9 => ev_T.adv (k' := 14) (ls' := [some (.ref 1000), some (.int x1), some (.int z3)]) (st' := [.int z3, .int x1]) (σ' := (1057, 55, I1, A2)) 2 rfl (ev_T.icmp_le rfl (fun c8 => ev_T.adv (k' := 25) (ls' := [some (.ref 1000), some (.int x1), some (.int z3)]) (st' := [.int x1, .ref 1001]) (σ' := (1057, 55, I1, A2)) 3 rfl (ev_T.callv (m' := 62) (as := [.ref 1001, .int x1]) (r := []) (K' := fun I5 A6 => K (z3 - x1) I5 A6) rfl rfl rfl ((h4.2 c9).1 c8) (fun I5 A6 h7 => ev_T.adv (k' := 31) (ls' := [some (.ref 1000), some (.int x1), some (.int z3)]) (st' := [.int (z3 - x1)]) (σ' := (1057, 55, I5, A6)) 3 rfl (ev_T.reti rfl rfl h7)))) (fun c8 => ev_T.adv (k' := 19) (ls' := [some (.ref 1000), some (.int x1), some (.int z3)]) (st' := [.int (-2)]) (σ' := (1057, 55, I1, A2)) 1 rfl (ev_T.reti rfl rfl ((h4.2 c9).2 c8))))))))

/-! StemRules.out(I)I -/
set_option maxRecDepth 100000 in
theorem t_S_out_0 {d : Nat} {I A : Nat → Nat → Int32} {K : Int32 → (Nat → Nat → Int32) → (Nat → Nat → Int32) → Prop}   (x1 : Int32)  
    (h : ((x1 = (-1) → ev_Bi d 30 0 [some (.ref 1008)] I A (fun z3 I1 A2 => K z3 I1 A2)) ∧ (¬ x1 = (-1) → ((x1 < 0 → K (-2) I A) ∧ (¬ x1 < 0 → ev_Bi d 30 0 [some (.ref 1008)] I A (fun z7 I5 A6 => ((z7 ≤ x1 → K (-2) I5 A6) ∧ (¬ z7 ≤ x1 → ev_Bi d 31 0 [some (.ref 1008), some (.int x1)] I5 A6 (fun z11 I9 A10 => K z11 I9 A10))))))))) :
    ev_Bi (d + 1) 95 0 [some (.ref 1000), some (.int x1)] I A K :=
  ev_T.adv (k' := 2) (ls' := [some (.ref 1000), some (.int x1)]) (st' := [.int (-1), .int x1]) (σ' := (1057, 55, I, A)) 2 rfl (ev_T.icmp_ne rfl (fun c15 => ev_T.adv (k' := 9) (ls' := [some (.ref 1000), some (.int x1)]) (st' := [.ref 1008]) (σ' := (1057, 55, I, A)) 2 rfl (ev_T.calli (m' := 30) (as := [.ref 1008]) (r := []) (K' := fun z3 I1 A2 => K z3 I1 A2) rfl rfl rfl (h.1 c15) (fun z3 I1 A2 h4 => ev_T.reti rfl rfl h4))) (fun c15 => ev_T.adv (k' := 14) (ls' := [some (.ref 1000), some (.int x1)]) (st' := [.int x1]) (σ' := (1057, 55, I, A)) 1 rfl (ev_T.if_lt rfl (fun c14 => ev_T.adv (k' := 41) (ls' := [some (.ref 1000), some (.int x1)]) (st' := [.int (-2)]) (σ' := (1057, 55, I, A)) 1 rfl (ev_T.reti rfl rfl ((h.2 c15).1 c14))) (fun c14 => ev_T.adv (k' := 22) (ls' := [some (.ref 1000), some (.int x1)]) (st' := [.ref 1008, .int x1]) (σ' := (1057, 55, I, A)) 3 rfl (ev_T.calli (m' := 30) (as := [.ref 1008]) (r := [.int x1]) (K' := fun z7 I5 A6 => ((z7 ≤ x1 → K (-2) I5 A6) ∧ (¬ z7 ≤ x1 → ev_Bi d 31 0 [some (.ref 1008), some (.int x1)] I5 A6 (fun z11 I9 A10 => K z11 I9 A10)))) rfl rfl rfl ((h.2 c15).2 c14) (fun z7 I5 A6 h8 => ev_T.icmp_ge rfl (fun c13 => ev_T.adv (k' := 41) (ls' := [some (.ref 1000), some (.int x1)]) (st' := [.int (-2)]) (σ' := (1057, 55, I5, A6)) 1 rfl (ev_T.reti rfl rfl (h8.1 c13))) (fun c13 => ev_T.adv (k' := 33) (ls' := [some (.ref 1000), some (.int x1)]) (st' := [.int x1, .ref 1008]) (σ' := (1057, 55, I5, A6)) 3 rfl (ev_T.calli (m' := 31) (as := [.ref 1008, .int x1]) (r := []) (K' := fun z11 I9 A10 => K z11 I9 A10) rfl rfl rfl (h8.2 c13) (fun z11 I9 A10 h12 => ev_T.adv (k' := 41) (ls' := [some (.ref 1000), some (.int x1)]) (st' := [.int z11]) (σ' := (1057, 55, I9, A10)) 1 rfl (ev_T.reti rfl rfl h12))))))))))

/-! StemRules.word()I -/
set_option maxRecDepth 100000 in
theorem t_S_word_0 {d : Nat} {I A : Nat → Nat → Int32} {K : Int32 → (Nat → Nat → Int32) → (Nat → Nat → Int32) → Prop}     
    (h : ev_Bi d 66 0 [some (.ref 1001), some (.ref 1010), none, none] I A (fun z3 I1 A2 => ev_Bv d 62 0 [some (.ref 1001), some (.int 0)] I1 A2 (fun I5 A6 => ((z3 = 0 → K (-2) I5 A6) ∧ (¬ z3 = 0 → ev_Bi d 86 0 [some (.ref 1003), some (.ref 1010), none, none] I5 A6 (fun z10 I8 A9 => K z10 I8 A9)))))) :
    ev_Bi (d + 1) 96 0 [some (.ref 1000), none] I A K :=
  ev_T.adv (k' := 8) (ls' := [some (.ref 1000), none]) (st' := [.ref 1010, .ref 1001]) (σ' := (1057, 55, I, A)) 4 rfl (ev_T.calli (m' := 66) (as := [.ref 1001, .ref 1010]) (r := []) (K' := fun z3 I1 A2 => ev_Bv d 62 0 [some (.ref 1001), some (.int 0)] I1 A2 (fun I5 A6 => ((z3 = 0 → K (-2) I5 A6) ∧ (¬ z3 = 0 → ev_Bi d 86 0 [some (.ref 1003), some (.ref 1010), none, none] I5 A6 (fun z10 I8 A9 => K z10 I8 A9))))) rfl rfl rfl h (fun z3 I1 A2 h4 => ev_T.adv (k' := 17) (ls' := [some (.ref 1000), some (.int z3)]) (st' := [.int 0, .ref 1001]) (σ' := (1057, 55, I1, A2)) 4 rfl (ev_T.callv (m' := 62) (as := [.ref 1001, .int 0]) (r := []) (K' := fun I5 A6 => ((z3 = 0 → K (-2) I5 A6) ∧ (¬ z3 = 0 → ev_Bi d 86 0 [some (.ref 1003), some (.ref 1010), none, none] I5 A6 (fun z10 I8 A9 => K z10 I8 A9)))) rfl rfl rfl h4 (fun I5 A6 h7 => ev_T.adv (k' := 21) (ls' := [some (.ref 1000), some (.int z3)]) (st' := [.int z3]) (σ' := (1057, 55, I5, A6)) 1 rfl (ev_T.if_eq rfl (fun c12 => ev_T.adv (k' := 40) (ls' := [some (.ref 1000), some (.int z3)]) (st' := [.int (-2)]) (σ' := (1057, 55, I5, A6)) 1 rfl (ev_T.reti rfl rfl (h7.1 c12))) (fun c12 => ev_T.adv (k' := 32) (ls' := [some (.ref 1000), some (.int z3)]) (st' := [.ref 1010, .ref 1003]) (σ' := (1057, 55, I5, A6)) 4 rfl (ev_T.calli (m' := 86) (as := [.ref 1003, .ref 1010]) (r := []) (K' := fun z10 I8 A9 => K z10 I8 A9) rfl rfl rfl (h7.2 c12) (fun z10 I8 A9 h11 => ev_T.adv (k' := 40) (ls' := [some (.ref 1000), some (.int z3)]) (st' := [.int z10]) (σ' := (1057, 55, I8, A9)) 1 rfl (ev_T.reti rfl rfl h11)))))))))

/-! StemRules.spell(I)I -/
set_option maxRecDepth 100000 in
theorem t_S_spell_0 {d : Nat} {I A : Nat → Nat → Int32} {K : Int32 → (Nat → Nat → Int32) → (Nat → Nat → Int32) → Prop}   (x1 : Int32)  
    (h : ev_Bi d 78 0 [some (.ref 1003), some (.int x1)] I A (fun z3 I1 A2 => ((z3 = 0 → K (-1) I1 A2) ∧ (¬ z3 = 0 → ev_Bv d 81 0 [some (.ref 1003), some (.int x1), some (.ref 1008)] I1 A2 (fun I5 A6 => ev_Bi d 30 0 [some (.ref 1008)] I5 A6 (fun z10 I8 A9 => K z10 I8 A9)))))) :
    ev_Bi (d + 1) 97 0 [some (.ref 1000), some (.int x1)] I A K :=
  ev_T.adv (k' := 5) (ls' := [some (.ref 1000), some (.int x1)]) (st' := [.int x1, .ref 1003]) (σ' := (1057, 55, I, A)) 3 rfl (ev_T.calli (m' := 78) (as := [.ref 1003, .int x1]) (r := []) (K' := fun z3 I1 A2 => ((z3 = 0 → K (-1) I1 A2) ∧ (¬ z3 = 0 → ev_Bv d 81 0 [some (.ref 1003), some (.int x1), some (.ref 1008)] I1 A2 (fun I5 A6 => ev_Bi d 30 0 [some (.ref 1008)] I5 A6 (fun z10 I8 A9 => K z10 I8 A9))))) rfl rfl rfl h (fun z3 I1 A2 h4 => ev_T.if_ne rfl (fun c12 => ev_T.adv (k' := 12) (ls' := [some (.ref 1000), some (.int x1)]) (st' := [.int (-1)]) (σ' := (1057, 55, I1, A2)) 1 rfl (ev_T.reti rfl rfl (h4.1 c12))) (fun c12 => ev_T.adv (k' := 22) (ls' := [some (.ref 1000), some (.int x1)]) (st' := [.ref 1008, .int x1, .ref 1003]) (σ' := (1057, 55, I1, A2)) 5 rfl (ev_T.callv (m' := 81) (as := [.ref 1003, .int x1, .ref 1008]) (r := []) (K' := fun I5 A6 => ev_Bi d 30 0 [some (.ref 1008)] I5 A6 (fun z10 I8 A9 => K z10 I8 A9)) rfl rfl rfl (h4.2 c12) (fun I5 A6 h7 => ev_T.adv (k' := 29) (ls' := [some (.ref 1000), some (.int x1)]) (st' := [.ref 1008]) (σ' := (1057, 55, I5, A6)) 2 rfl (ev_T.calli (m' := 30) (as := [.ref 1008]) (r := []) (K' := fun z10 I8 A9 => K z10 I8 A9) rfl rfl rfl h7 (fun z10 I8 A9 h11 => ev_T.reti rfl rfl h11)))))))

/-! StemRules.stem(II)I -/
set_option maxRecDepth 100000 in
theorem t_S_stem_0 {d : Nat} {I A : Nat → Nat → Int32} {K : Int32 → (Nat → Nat → Int32) → (Nat → Nat → Int32) → Prop}   (x1 : Int32) (x2 : Int32)  
    (h : ev_Bi d 78 0 [some (.ref 1003), some (.int x2)] I A (fun z3 I1 A2 => ((z3 = 0 → K (-1) I1 A2) ∧ (¬ z3 = 0 → ev_Bi d 113 0 [some (.int x1)] I1 A2 (fun z7 I5 A6 => ((z7 = 0 → K (-2) I5 A6) ∧ (¬ z7 = 0 → ev_Bv d 114 0 [some (.ref 1000), some (.int x1), some (.int x2), some (.ref 1008), none] I5 A6 (fun I9 A10 => ev_Bi d 30 0 [some (.ref 1008)] I9 A10 (fun z14 I12 A13 => K z14 I12 A13))))))))) :
    ev_Bi (d + 1) 98 0 [some (.ref 1000), some (.int x1), some (.int x2)] I A K :=
  ev_T.adv (k' := 5) (ls' := [some (.ref 1000), some (.int x1), some (.int x2)]) (st' := [.int x2, .ref 1003]) (σ' := (1057, 55, I, A)) 3 rfl (ev_T.calli (m' := 78) (as := [.ref 1003, .int x2]) (r := []) (K' := fun z3 I1 A2 => ((z3 = 0 → K (-1) I1 A2) ∧ (¬ z3 = 0 → ev_Bi d 113 0 [some (.int x1)] I1 A2 (fun z7 I5 A6 => ((z7 = 0 → K (-2) I5 A6) ∧ (¬ z7 = 0 → ev_Bv d 114 0 [some (.ref 1000), some (.int x1), some (.int x2), some (.ref 1008), none] I5 A6 (fun I9 A10 => ev_Bi d 30 0 [some (.ref 1008)] I9 A10 (fun z14 I12 A13 => K z14 I12 A13)))))))) rfl rfl rfl h (fun z3 I1 A2 h4 => ev_T.if_ne rfl (fun c17 => ev_T.adv (k' := 12) (ls' := [some (.ref 1000), some (.int x1), some (.int x2)]) (st' := [.int (-1)]) (σ' := (1057, 55, I1, A2)) 1 rfl (ev_T.reti rfl rfl (h4.1 c17))) (fun c17 => ev_T.adv (k' := 14) (ls' := [some (.ref 1000), some (.int x1), some (.int x2)]) (st' := [.int x1]) (σ' := (1057, 55, I1, A2)) 1 rfl (ev_T.calli (m' := 113) (as := [.int x1]) (r := []) (K' := fun z7 I5 A6 => ((z7 = 0 → K (-2) I5 A6) ∧ (¬ z7 = 0 → ev_Bv d 114 0 [some (.ref 1000), some (.int x1), some (.int x2), some (.ref 1008), none] I5 A6 (fun I9 A10 => ev_Bi d 30 0 [some (.ref 1008)] I9 A10 (fun z14 I12 A13 => K z14 I12 A13))))) rfl rfl rfl (h4.2 c17) (fun z7 I5 A6 h8 => ev_T.if_ne rfl (fun c16 => ev_T.adv (k' := 22) (ls' := [some (.ref 1000), some (.int x1), some (.int x2)]) (st' := [.int (-2)]) (σ' := (1057, 55, I5, A6)) 1 rfl (ev_T.reti rfl rfl (h8.1 c16))) (fun c16 => ev_T.adv (k' := 30) (ls' := [some (.ref 1000), some (.int x1), some (.int x2)]) (st' := [.ref 1008, .int x2, .int x1, .ref 1000]) (σ' := (1057, 55, I5, A6)) 5 rfl (ev_T.callv (m' := 114) (as := [.ref 1000, .int x1, .int x2, .ref 1008]) (r := []) (K' := fun I9 A10 => ev_Bi d 30 0 [some (.ref 1008)] I9 A10 (fun z14 I12 A13 => K z14 I12 A13)) rfl rfl rfl (h8.2 c16) (fun I9 A10 h11 => ev_T.adv (k' := 37) (ls' := [some (.ref 1000), some (.int x1), some (.int x2)]) (st' := [.ref 1008]) (σ' := (1057, 55, I9, A10)) 2 rfl (ev_T.calli (m' := 30) (as := [.ref 1008]) (r := []) (K' := fun z14 I12 A13 => K z14 I12 A13) rfl rfl rfl h11 (fun z14 I12 A13 h15 => ev_T.reti rfl rfl h15))))))))))

/-! StemRules.step(II)I -/
set_option maxRecDepth 100000 in
theorem t_S_step_0 {d : Nat} {I A : Nat → Nat → Int32} {K : Int32 → (Nat → Nat → Int32) → (Nat → Nat → Int32) → Prop}   (x1 : Int32) (x2 : Int32)  
    (h : ev_Bi d 78 0 [some (.ref 1003), some (.int x1)] I A (fun z3 I1 A2 => ((z3 = 0 → K (-1) I1 A2) ∧ (¬ z3 = 0 → ((x2 < 0 → K (-2) I1 A2) ∧ (¬ x2 < 0 → ((x2 ≤ 7 → ev_Bv d 81 0 [some (.ref 1003), some (.int x1), some (.ref 1008)] I1 A2 (fun I5 A6 => ev_Bv d 46 0 [some (.ref 1008), some (.int x2), none, none, none] I5 A6 (fun I8 A9 => ev_Bi d 30 0 [some (.ref 1008)] I8 A9 (fun z13 I11 A12 => K z13 I11 A12)))) ∧ (¬ x2 ≤ 7 → K (-2) I1 A2)))))))) :
    ev_Bi (d + 1) 99 0 [some (.ref 1000), some (.int x1), some (.int x2)] I A K :=
  ev_T.adv (k' := 5) (ls' := [some (.ref 1000), some (.int x1), some (.int x2)]) (st' := [.int x1, .ref 1003]) (σ' := (1057, 55, I, A)) 3 rfl (ev_T.calli (m' := 78) (as := [.ref 1003, .int x1]) (r := []) (K' := fun z3 I1 A2 => ((z3 = 0 → K (-1) I1 A2) ∧ (¬ z3 = 0 → ((x2 < 0 → K (-2) I1 A2) ∧ (¬ x2 < 0 → ((x2 ≤ 7 → ev_Bv d 81 0 [some (.ref 1003), some (.int x1), some (.ref 1008)] I1 A2 (fun I5 A6 => ev_Bv d 46 0 [some (.ref 1008), some (.int x2), none, none, none] I5 A6 (fun I8 A9 => ev_Bi d 30 0 [some (.ref 1008)] I8 A9 (fun z13 I11 A12 => K z13 I11 A12)))) ∧ (¬ x2 ≤ 7 → K (-2) I1 A2))))))) rfl rfl rfl h (fun z3 I1 A2 h4 => ev_T.if_ne rfl (fun c17 => ev_T.adv (k' := 12) (ls' := [some (.ref 1000), some (.int x1), some (.int x2)]) (st' := [.int (-1)]) (σ' := (1057, 55, I1, A2)) 1 rfl (ev_T.reti rfl rfl (h4.1 c17))) (fun c17 => ev_T.adv (k' := 14) (ls' := [some (.ref 1000), some (.int x1), some (.int x2)]) (st' := [.int x2]) (σ' := (1057, 55, I1, A2)) 1 rfl (ev_T.if_lt rfl (fun c16 => ev_T.adv (k' := 25) (ls' := [some (.ref 1000), some (.int x1), some (.int x2)]) (st' := [.int (-2)]) (σ' := (1057, 55, I1, A2)) 1 rfl (ev_T.reti rfl rfl ((h4.2 c17).1 c16))) (fun c16 => ev_T.adv (k' := 20) (ls' := [some (.ref 1000), some (.int x1), some (.int x2)]) (st' := [.int 7, .int x2]) (σ' := (1057, 55, I1, A2)) 2 rfl (ev_T.icmp_le rfl (fun c15 => ev_T.adv (k' := 35) (ls' := [some (.ref 1000), some (.int x1), some (.int x2)]) (st' := [.ref 1008, .int x1, .ref 1003]) (σ' := (1057, 55, I1, A2)) 5 rfl (ev_T.callv (m' := 81) (as := [.ref 1003, .int x1, .ref 1008]) (r := []) (K' := fun I5 A6 => ev_Bv d 46 0 [some (.ref 1008), some (.int x2), none, none, none] I5 A6 (fun I8 A9 => ev_Bi d 30 0 [some (.ref 1008)] I8 A9 (fun z13 I11 A12 => K z13 I11 A12))) rfl rfl rfl (((h4.2 c17).2 c16).1 c15) (fun I5 A6 h7 => ev_T.adv (k' := 43) (ls' := [some (.ref 1000), some (.int x1), some (.int x2)]) (st' := [.int x2, .ref 1008]) (σ' := (1057, 55, I5, A6)) 3 rfl (ev_T.callv (m' := 46) (as := [.ref 1008, .int x2]) (r := []) (K' := fun I8 A9 => ev_Bi d 30 0 [some (.ref 1008)] I8 A9 (fun z13 I11 A12 => K z13 I11 A12)) rfl rfl rfl h7 (fun I8 A9 h10 => ev_T.adv (k' := 50) (ls' := [some (.ref 1000), some (.int x1), some (.int x2)]) (st' := [.ref 1008]) (σ' := (1057, 55, I8, A9)) 2 rfl (ev_T.calli (m' := 30) (as := [.ref 1008]) (r := []) (K' := fun z13 I11 A12 => K z13 I11 A12) rfl rfl rfl h10 (fun z13 I11 A12 h14 => ev_T.reti rfl rfl h14))))))) (fun c15 => ev_T.adv (k' := 25) (ls' := [some (.ref 1000), some (.int x1), some (.int x2)]) (st' := [.int (-2)]) (σ' := (1057, 55, I1, A2)) 1 rfl (ev_T.reti rfl rfl (((h4.2 c17).2 c16).2 c15)))))))))

/-! StemRules.measure(I)I -/
set_option maxRecDepth 100000 in
theorem t_S_measure_0 {d : Nat} {I A : Nat → Nat → Int32} {K : Int32 → (Nat → Nat → Int32) → (Nat → Nat → Int32) → Prop}   (x1 : Int32)  
    (h : ev_Bi d 78 0 [some (.ref 1003), some (.int x1)] I A (fun z3 I1 A2 => ((z3 = 0 → K (-1) I1 A2) ∧ (¬ z3 = 0 → ev_Bv d 81 0 [some (.ref 1003), some (.int x1), some (.ref 1010)] I1 A2 (fun I5 A6 => ev_Bi d 47 0 [some (.ref 1010), none, none, none, none] I5 A6 (fun z10 I8 A9 => ev_Bi d 30 0 [some (.ref 1010)] I8 A9 (fun z14 I12 A13 => ev_Bi d 48 0 [some (.int z10), some (.int z14)] I12 A13 (fun z18 I16 A17 => K z18 I16 A17)))))))) :
    ev_Bi (d + 1) 100 0 [some (.ref 1000), some (.int x1)] I A K :=
  ev_T.adv (k' := 5) (ls' := [some (.ref 1000), some (.int x1)]) (st' := [.int x1, .ref 1003]) (σ' := (1057, 55, I, A)) 3 rfl (ev_T.calli (m' := 78) (as := [.ref 1003, .int x1]) (r := []) (K' := fun z3 I1 A2 => ((z3 = 0 → K (-1) I1 A2) ∧ (¬ z3 = 0 → ev_Bv d 81 0 [some (.ref 1003), some (.int x1), some (.ref 1010)] I1 A2 (fun I5 A6 => ev_Bi d 47 0 [some (.ref 1010), none, none, none, none] I5 A6 (fun z10 I8 A9 => ev_Bi d 30 0 [some (.ref 1010)] I8 A9 (fun z14 I12 A13 => ev_Bi d 48 0 [some (.int z10), some (.int z14)] I12 A13 (fun z18 I16 A17 => K z18 I16 A17))))))) rfl rfl rfl h (fun z3 I1 A2 h4 => ev_T.if_ne rfl (fun c20 => ev_T.adv (k' := 12) (ls' := [some (.ref 1000), some (.int x1)]) (st' := [.int (-1)]) (σ' := (1057, 55, I1, A2)) 1 rfl (ev_T.reti rfl rfl (h4.1 c20))) (fun c20 => ev_T.adv (k' := 22) (ls' := [some (.ref 1000), some (.int x1)]) (st' := [.ref 1010, .int x1, .ref 1003]) (σ' := (1057, 55, I1, A2)) 5 rfl (ev_T.callv (m' := 81) (as := [.ref 1003, .int x1, .ref 1010]) (r := []) (K' := fun I5 A6 => ev_Bi d 47 0 [some (.ref 1010), none, none, none, none] I5 A6 (fun z10 I8 A9 => ev_Bi d 30 0 [some (.ref 1010)] I8 A9 (fun z14 I12 A13 => ev_Bi d 48 0 [some (.int z10), some (.int z14)] I12 A13 (fun z18 I16 A17 => K z18 I16 A17)))) rfl rfl rfl (h4.2 c20) (fun I5 A6 h7 => ev_T.adv (k' := 29) (ls' := [some (.ref 1000), some (.int x1)]) (st' := [.ref 1010]) (σ' := (1057, 55, I5, A6)) 2 rfl (ev_T.calli (m' := 47) (as := [.ref 1010]) (r := []) (K' := fun z10 I8 A9 => ev_Bi d 30 0 [some (.ref 1010)] I8 A9 (fun z14 I12 A13 => ev_Bi d 48 0 [some (.int z10), some (.int z14)] I12 A13 (fun z18 I16 A17 => K z18 I16 A17))) rfl rfl rfl h7 (fun z10 I8 A9 h11 => ev_T.adv (k' := 36) (ls' := [some (.ref 1000), some (.int x1)]) (st' := [.ref 1010, .int z10]) (σ' := (1057, 55, I8, A9)) 2 rfl (ev_T.calli (m' := 30) (as := [.ref 1010]) (r := [.int z10]) (K' := fun z14 I12 A13 => ev_Bi d 48 0 [some (.int z10), some (.int z14)] I12 A13 (fun z18 I16 A17 => K z18 I16 A17)) rfl rfl rfl h11 (fun z14 I12 A13 h15 => ev_T.calli (m' := 48) (as := [.int z10, .int z14]) (r := []) (K' := fun z18 I16 A17 => K z18 I16 A17) rfl rfl rfl h15 (fun z18 I16 A17 h19 => ev_T.reti rfl rfl h19))))))))))

/-! StemRules.mark(IIZ)I -/
set_option maxRecDepth 100000 in
theorem t_S_mark_0 {d : Nat} {I A : Nat → Nat → Int32} {K : Int32 → (Nat → Nat → Int32) → (Nat → Nat → Int32) → Prop}   (x1 : Int32) (x2 : Int32) (x3 : Int32)  
    (h : ev_Bi d 78 0 [some (.ref 1003), some (.int x2)] I A (fun z3 I1 A2 => ((z3 = 0 → K (-1) I1 A2) ∧ (¬ z3 = 0 → ((x1 < 0 → K (-2) I1 A2) ∧ (¬ x1 < 0 → ((x1 < 3 → ev_Bi d 88 0 [some (.ref 1003), some (.int x1), some (.int x2)] I1 A2 (fun z7 I5 A6 => ((z7 = x3 → K 0 I5 A6) ∧ (¬ z7 = x3 → ev_Bv d 89 0 [some (.ref 1003), some (.int x1), some (.int x2), some (.int x3)] I5 A6 (fun I9 A10 => K 1 I9 A10))))) ∧ (¬ x1 < 3 → K (-2) I1 A2)))))))) :
    ev_Bi (d + 1) 101 0 [some (.ref 1000), some (.int x1), some (.int x2), some (.int x3)] I A K :=
  ev_T.adv (k' := 5) (ls' := [some (.ref 1000), some (.int x1), some (.int x2), some (.int x3)]) (st' := [.int x2, .ref 1003]) (σ' := (1057, 55, I, A)) 3 rfl (ev_T.calli (m' := 78) (as := [.ref 1003, .int x2]) (r := []) (K' := fun z3 I1 A2 => ((z3 = 0 → K (-1) I1 A2) ∧ (¬ z3 = 0 → ((x1 < 0 → K (-2) I1 A2) ∧ (¬ x1 < 0 → ((x1 < 3 → ev_Bi d 88 0 [some (.ref 1003), some (.int x1), some (.int x2)] I1 A2 (fun z7 I5 A6 => ((z7 = x3 → K 0 I5 A6) ∧ (¬ z7 = x3 → ev_Bv d 89 0 [some (.ref 1003), some (.int x1), some (.int x2), some (.int x3)] I5 A6 (fun I9 A10 => K 1 I9 A10))))) ∧ (¬ x1 < 3 → K (-2) I1 A2))))))) rfl rfl rfl h (fun z3 I1 A2 h4 => ev_T.if_ne rfl (fun c15 => ev_T.adv (k' := 12) (ls' := [some (.ref 1000), some (.int x1), some (.int x2), some (.int x3)]) (st' := [.int (-1)]) (σ' := (1057, 55, I1, A2)) 1 rfl (ev_T.reti rfl rfl (h4.1 c15))) (fun c15 => ev_T.adv (k' := 14) (ls' := [some (.ref 1000), some (.int x1), some (.int x2), some (.int x3)]) (st' := [.int x1]) (σ' := (1057, 55, I1, A2)) 1 rfl (ev_T.if_lt rfl (fun c14 => ev_T.adv (k' := 24) (ls' := [some (.ref 1000), some (.int x1), some (.int x2), some (.int x3)]) (st' := [.int (-2)]) (σ' := (1057, 55, I1, A2)) 1 rfl (ev_T.reti rfl rfl ((h4.2 c15).1 c14))) (fun c14 => ev_T.adv (k' := 19) (ls' := [some (.ref 1000), some (.int x1), some (.int x2), some (.int x3)]) (st' := [.int 3, .int x1]) (σ' := (1057, 55, I1, A2)) 2 rfl (ev_T.icmp_lt rfl (fun c13 => ev_T.adv (k' := 31) (ls' := [some (.ref 1000), some (.int x1), some (.int x2), some (.int x3)]) (st' := [.int x2, .int x1, .ref 1003]) (σ' := (1057, 55, I1, A2)) 4 rfl (ev_T.calli (m' := 88) (as := [.ref 1003, .int x1, .int x2]) (r := []) (K' := fun z7 I5 A6 => ((z7 = x3 → K 0 I5 A6) ∧ (¬ z7 = x3 → ev_Bv d 89 0 [some (.ref 1003), some (.int x1), some (.int x2), some (.int x3)] I5 A6 (fun I9 A10 => K 1 I9 A10)))) rfl rfl rfl (((h4.2 c15).2 c14).1 c13) (fun z7 I5 A6 h8 => ev_T.adv (k' := 35) (ls' := [some (.ref 1000), some (.int x1), some (.int x2), some (.int x3)]) (st' := [.int x3, .int z7]) (σ' := (1057, 55, I5, A6)) 1 rfl (ev_T.icmp_ne rfl (fun c12 => ev_T.adv (k' := 39) (ls' := [some (.ref 1000), some (.int x1), some (.int x2), some (.int x3)]) (st' := [.int 0]) (σ' := (1057, 55, I5, A6)) 1 rfl (ev_T.reti rfl rfl (h8.1 c12))) (fun c12 => ev_T.adv (k' := 47) (ls' := [some (.ref 1000), some (.int x1), some (.int x2), some (.int x3)]) (st' := [.int x3, .int x2, .int x1, .ref 1003]) (σ' := (1057, 55, I5, A6)) 5 rfl (ev_T.callv (m' := 89) (as := [.ref 1003, .int x1, .int x2, .int x3]) (r := []) (K' := fun I9 A10 => K 1 I9 A10) rfl rfl rfl (h8.2 c12) (fun I9 A10 h11 => ev_T.adv (k' := 51) (ls' := [some (.ref 1000), some (.int x1), some (.int x2), some (.int x3)]) (st' := [.int 1]) (σ' := (1057, 55, I9, A10)) 1 rfl (ev_T.reti rfl rfl h11)))))))) (fun c13 => ev_T.adv (k' := 24) (ls' := [some (.ref 1000), some (.int x1), some (.int x2), some (.int x3)]) (st' := [.int (-2)]) (σ' := (1057, 55, I1, A2)) 1 rfl (ev_T.reti rfl rfl (((h4.2 c15).2 c14).2 c13)))))))))

/-! StemRules.pair(II)I -/
set_option maxRecDepth 100000 in
theorem t_S_pair_0 {d : Nat} {I A : Nat → Nat → Int32} {K : Int32 → (Nat → Nat → Int32) → (Nat → Nat → Int32) → Prop}   (x1 : Int32) (x2 : Int32)  
    (h : ev_Bi d 78 0 [some (.ref 1003), some (.int x1)] I A (fun z3 I1 A2 => ((z3 = 0 → K (-1) I1 A2) ∧ (¬ z3 = 0 → ev_Bi d 79 0 [some (.ref 1003), some (.int x2)] I1 A2 (fun z7 I5 A6 => ((z7 = 0 → K (-1) I5 A6) ∧ (¬ z7 = 0 → ev_Bi d 90 0 [some (.ref 1003), some (.int x1)] I5 A6 (fun z11 I9 A10 => ev_Bv d 91 0 [some (.ref 1003), some (.int x1), some (.int x2)] I9 A10 (fun I13 A14 => K z11 I13 A14))))))))) :
    ev_Bi (d + 1) 102 0 [some (.ref 1000), some (.int x1), some (.int x2), none] I A K :=
  ev_T.adv (k' := 5) (ls' := [some (.ref 1000), some (.int x1), some (.int x2), none]) (st' := [.int x1, .ref 1003]) (σ' := (1057, 55, I, A)) 3 rfl (ev_T.calli (m' := 78) (as := [.ref 1003, .int x1]) (r := []) (K' := fun z3 I1 A2 => ((z3 = 0 → K (-1) I1 A2) ∧ (¬ z3 = 0 → ev_Bi d 79 0 [some (.ref 1003), some (.int x2)] I1 A2 (fun z7 I5 A6 => ((z7 = 0 → K (-1) I5 A6) ∧ (¬ z7 = 0 → ev_Bi d 90 0 [some (.ref 1003), some (.int x1)] I5 A6 (fun z11 I9 A10 => ev_Bv d 91 0 [some (.ref 1003), some (.int x1), some (.int x2)] I9 A10 (fun I13 A14 => K z11 I13 A14)))))))) rfl rfl rfl h (fun z3 I1 A2 h4 => ev_T.if_eq rfl (fun c17 => ev_T.adv (k' := 23) (ls' := [some (.ref 1000), some (.int x1), some (.int x2), none]) (st' := [.int (-1)]) (σ' := (1057, 55, I1, A2)) 1 rfl (ev_T.reti rfl rfl (h4.1 c17))) (fun c17 => ev_T.adv (k' := 16) (ls' := [some (.ref 1000), some (.int x1), some (.int x2), none]) (st' := [.int x2, .ref 1003]) (σ' := (1057, 55, I1, A2)) 3 rfl (ev_T.calli (m' := 79) (as := [.ref 1003, .int x2]) (r := []) (K' := fun z7 I5 A6 => ((z7 = 0 → K (-1) I5 A6) ∧ (¬ z7 = 0 → ev_Bi d 90 0 [some (.ref 1003), some (.int x1)] I5 A6 (fun z11 I9 A10 => ev_Bv d 91 0 [some (.ref 1003), some (.int x1), some (.int x2)] I9 A10 (fun I13 A14 => K z11 I13 A14))))) rfl rfl rfl (h4.2 c17) (fun z7 I5 A6 h8 => ev_T.if_ne rfl (fun c16 => ev_T.adv (k' := 23) (ls' := [some (.ref 1000), some (.int x1), some (.int x2), none]) (st' := [.int (-1)]) (σ' := (1057, 55, I5, A6)) 1 rfl (ev_T.reti rfl rfl (h8.1 c16))) (fun c16 => ev_T.adv (k' := 29) (ls' := [some (.ref 1000), some (.int x1), some (.int x2), none]) (st' := [.int x1, .ref 1003]) (σ' := (1057, 55, I5, A6)) 3 rfl (ev_T.calli (m' := 90) (as := [.ref 1003, .int x1]) (r := []) (K' := fun z11 I9 A10 => ev_Bv d 91 0 [some (.ref 1003), some (.int x1), some (.int x2)] I9 A10 (fun I13 A14 => K z11 I13 A14)) rfl rfl rfl (h8.2 c16) (fun z11 I9 A10 h12 => ev_T.adv (k' := 39) (ls' := [some (.ref 1000), some (.int x1), some (.int x2), some (.int z11)]) (st' := [.int x2, .int x1, .ref 1003]) (σ' := (1057, 55, I9, A10)) 5 rfl (ev_T.callv (m' := 91) (as := [.ref 1003, .int x1, .int x2]) (r := []) (K' := fun I13 A14 => K z11 I13 A14) rfl rfl rfl h12 (fun I13 A14 h15 => ev_T.adv (k' := 43) (ls' := [some (.ref 1000), some (.int x1), some (.int x2), some (.int z11)]) (st' := [.int z11]) (σ' := (1057, 55, I13, A14)) 1 rfl (ev_T.reti rfl rfl h15)))))))))))

/-! StemRules.row(IZIIZ)I -/
set_option maxRecDepth 100000 in
theorem t_S_row_0 {d : Nat} {I A : Nat → Nat → Int32} {K : Int32 → (Nat → Nat → Int32) → (Nat → Nat → Int32) → Prop}   (x1 : Int32) (x2 : Int32) (x3 : Int32) (x4 : Int32) (x5 : Int32)  
    (h : ev_Bi d 78 0 [some (.ref 1003), some (.int x1)] I A (fun z3 I1 A2 => ((z3 = 0 → K (-1) I1 A2) ∧ (¬ z3 = 0 → ev_Bi d 79 0 [some (.ref 1003), some (.int x4)] I1 A2 (fun z7 I5 A6 => ((z7 = 0 → K (-1) I5 A6) ∧ (¬ z7 = 0 → ev_Bi d 80 0 [some (.ref 1003), some (.int x1)] I5 A6 (fun z11 I9 A10 => (((8 : Int32) < z11 → K (-2) I9 A10) ∧ (¬ (8 : Int32) < z11 → ev_Bi d 80 0 [some (.ref 1003), some (.int x4)] I9 A10 (fun z15 I13 A14 => (((4 : Int32) < z15 → K (-2) I13 A14) ∧ (¬ (4 : Int32) < z15 → ((x3 < 0 → K (-2) I13 A14) ∧ (¬ x3 < 0 → ((x3 ≤ 8 → ev_Bi d 17 0 [some (.ref 1012), some (.int x1), some (.int x2), some (.int x3), some (.int x4), some (.int x5)] I13 A14 (fun z19 I17 A18 => K z19 I17 A18)) ∧ (¬ x3 ≤ 8 → K (-2) I13 A14))))))))))))))))) :
    ev_Bi (d + 1) 103 0 [some (.ref 1000), some (.int x1), some (.int x2), some (.int x3), some (.int x4), some (.int x5)] I A K :=
  ev_T.adv (k' := 5) (ls' := [some (.ref 1000), some (.int x1), some (.int x2), some (.int x3), some (.int x4), some (.int x5)]) (st' := [.int x1, .ref 1003]) (σ' := (1057, 55, I, A)) 3 rfl (ev_T.calli (m' := 78) (as := [.ref 1003, .int x1]) (r := []) (K' := fun z3 I1 A2 => ((z3 = 0 → K (-1) I1 A2) ∧ (¬ z3 = 0 → ev_Bi d 79 0 [some (.ref 1003), some (.int x4)] I1 A2 (fun z7 I5 A6 => ((z7 = 0 → K (-1) I5 A6) ∧ (¬ z7 = 0 → ev_Bi d 80 0 [some (.ref 1003), some (.int x1)] I5 A6 (fun z11 I9 A10 => (((8 : Int32) < z11 → K (-2) I9 A10) ∧ (¬ (8 : Int32) < z11 → ev_Bi d 80 0 [some (.ref 1003), some (.int x4)] I9 A10 (fun z15 I13 A14 => (((4 : Int32) < z15 → K (-2) I13 A14) ∧ (¬ (4 : Int32) < z15 → ((x3 < 0 → K (-2) I13 A14) ∧ (¬ x3 < 0 → ((x3 ≤ 8 → ev_Bi d 17 0 [some (.ref 1012), some (.int x1), some (.int x2), some (.int x3), some (.int x4), some (.int x5)] I13 A14 (fun z19 I17 A18 => K z19 I17 A18)) ∧ (¬ x3 ≤ 8 → K (-2) I13 A14)))))))))))))))) rfl rfl rfl h (fun z3 I1 A2 h4 => ev_T.if_eq rfl (fun c26 => ev_T.adv (k' := 24) (ls' := [some (.ref 1000), some (.int x1), some (.int x2), some (.int x3), some (.int x4), some (.int x5)]) (st' := [.int (-1)]) (σ' := (1057, 55, I1, A2)) 1 rfl (ev_T.reti rfl rfl (h4.1 c26))) (fun c26 => ev_T.adv (k' := 17) (ls' := [some (.ref 1000), some (.int x1), some (.int x2), some (.int x3), some (.int x4), some (.int x5)]) (st' := [.int x4, .ref 1003]) (σ' := (1057, 55, I1, A2)) 3 rfl (ev_T.calli (m' := 79) (as := [.ref 1003, .int x4]) (r := []) (K' := fun z7 I5 A6 => ((z7 = 0 → K (-1) I5 A6) ∧ (¬ z7 = 0 → ev_Bi d 80 0 [some (.ref 1003), some (.int x1)] I5 A6 (fun z11 I9 A10 => (((8 : Int32) < z11 → K (-2) I9 A10) ∧ (¬ (8 : Int32) < z11 → ev_Bi d 80 0 [some (.ref 1003), some (.int x4)] I9 A10 (fun z15 I13 A14 => (((4 : Int32) < z15 → K (-2) I13 A14) ∧ (¬ (4 : Int32) < z15 → ((x3 < 0 → K (-2) I13 A14) ∧ (¬ x3 < 0 → ((x3 ≤ 8 → ev_Bi d 17 0 [some (.ref 1012), some (.int x1), some (.int x2), some (.int x3), some (.int x4), some (.int x5)] I13 A14 (fun z19 I17 A18 => K z19 I17 A18)) ∧ (¬ x3 ≤ 8 → K (-2) I13 A14))))))))))))) rfl rfl rfl (h4.2 c26) (fun z7 I5 A6 h8 => ev_T.if_ne rfl (fun c25 => ev_T.adv (k' := 24) (ls' := [some (.ref 1000), some (.int x1), some (.int x2), some (.int x3), some (.int x4), some (.int x5)]) (st' := [.int (-1)]) (σ' := (1057, 55, I5, A6)) 1 rfl (ev_T.reti rfl rfl (h8.1 c25))) (fun c25 => ev_T.adv (k' := 30) (ls' := [some (.ref 1000), some (.int x1), some (.int x2), some (.int x3), some (.int x4), some (.int x5)]) (st' := [.int x1, .ref 1003]) (σ' := (1057, 55, I5, A6)) 3 rfl (ev_T.calli (m' := 80) (as := [.ref 1003, .int x1]) (r := []) (K' := fun z11 I9 A10 => (((8 : Int32) < z11 → K (-2) I9 A10) ∧ (¬ (8 : Int32) < z11 → ev_Bi d 80 0 [some (.ref 1003), some (.int x4)] I9 A10 (fun z15 I13 A14 => (((4 : Int32) < z15 → K (-2) I13 A14) ∧ (¬ (4 : Int32) < z15 → ((x3 < 0 → K (-2) I13 A14) ∧ (¬ x3 < 0 → ((x3 ≤ 8 → ev_Bi d 17 0 [some (.ref 1012), some (.int x1), some (.int x2), some (.int x3), some (.int x4), some (.int x5)] I13 A14 (fun z19 I17 A18 => K z19 I17 A18)) ∧ (¬ x3 ≤ 8 → K (-2) I13 A14)))))))))) rfl rfl rfl (h8.2 c25) (fun z11 I9 A10 h12 => ev_T.adv (k' := 35) (ls' := [some (.ref 1000), some (.int x1), some (.int x2), some (.int x3), some (.int x4), some (.int x5)]) (st' := [.int 8, .int z11]) (σ' := (1057, 55, I9, A10)) 1 rfl (ev_T.icmp_gt rfl (fun c24 => ev_T.adv (k' := 63) (ls' := [some (.ref 1000), some (.int x1), some (.int x2), some (.int x3), some (.int x4), some (.int x5)]) (st' := [.int (-2)]) (σ' := (1057, 55, I9, A10)) 1 rfl (ev_T.reti rfl rfl (h12.1 c24))) (fun c24 => ev_T.adv (k' := 44) (ls' := [some (.ref 1000), some (.int x1), some (.int x2), some (.int x3), some (.int x4), some (.int x5)]) (st' := [.int x4, .ref 1003]) (σ' := (1057, 55, I9, A10)) 3 rfl (ev_T.calli (m' := 80) (as := [.ref 1003, .int x4]) (r := []) (K' := fun z15 I13 A14 => (((4 : Int32) < z15 → K (-2) I13 A14) ∧ (¬ (4 : Int32) < z15 → ((x3 < 0 → K (-2) I13 A14) ∧ (¬ x3 < 0 → ((x3 ≤ 8 → ev_Bi d 17 0 [some (.ref 1012), some (.int x1), some (.int x2), some (.int x3), some (.int x4), some (.int x5)] I13 A14 (fun z19 I17 A18 => K z19 I17 A18)) ∧ (¬ x3 ≤ 8 → K (-2) I13 A14))))))) rfl rfl rfl (h12.2 c24) (fun z15 I13 A14 h16 => ev_T.adv (k' := 48) (ls' := [some (.ref 1000), some (.int x1), some (.int x2), some (.int x3), some (.int x4), some (.int x5)]) (st' := [.int 4, .int z15]) (σ' := (1057, 55, I13, A14)) 1 rfl (ev_T.icmp_gt rfl (fun c23 => ev_T.adv (k' := 63) (ls' := [some (.ref 1000), some (.int x1), some (.int x2), some (.int x3), some (.int x4), some (.int x5)]) (st' := [.int (-2)]) (σ' := (1057, 55, I13, A14)) 1 rfl (ev_T.reti rfl rfl (h16.1 c23))) (fun c23 => ev_T.adv (k' := 52) (ls' := [some (.ref 1000), some (.int x1), some (.int x2), some (.int x3), some (.int x4), some (.int x5)]) (st' := [.int x3]) (σ' := (1057, 55, I13, A14)) 1 rfl (ev_T.if_lt rfl (fun c22 => ev_T.adv (k' := 63) (ls' := [some (.ref 1000), some (.int x1), some (.int x2), some (.int x3), some (.int x4), some (.int x5)]) (st' := [.int (-2)]) (σ' := (1057, 55, I13, A14)) 1 rfl (ev_T.reti rfl rfl ((h16.2 c23).1 c22))) (fun c22 => ev_T.adv (k' := 58) (ls' := [some (.ref 1000), some (.int x1), some (.int x2), some (.int x3), some (.int x4), some (.int x5)]) (st' := [.int 8, .int x3]) (σ' := (1057, 55, I13, A14)) 2 rfl (ev_T.icmp_le rfl (fun c21 => ev_T.adv (k' := 75) (ls' := [some (.ref 1000), some (.int x1), some (.int x2), some (.int x3), some (.int x4), some (.int x5)]) (st' := [.int x5, .int x4, .int x3, .int x2, .int x1, .ref 1012]) (σ' := (1057, 55, I13, A14)) 7 rfl (ev_T.calli (m' := 17) (as := [.ref 1012, .int x1, .int x2, .int x3, .int x4, .int x5]) (r := []) (K' := fun z19 I17 A18 => K z19 I17 A18) rfl rfl rfl (((h16.2 c23).2 c22).1 c21) (fun z19 I17 A18 h20 => ev_T.reti rfl rfl h20))) (fun c21 => ev_T.adv (k' := 63) (ls' := [some (.ref 1000), some (.int x1), some (.int x2), some (.int x3), some (.int x4), some (.int x5)]) (st' := [.int (-2)]) (σ' := (1057, 55, I13, A14)) 1 rfl (ev_T.reti rfl rfl (((h16.2 c23).2 c22).2 c21))))))))))))))))))))

/-! StemRules.rowless()I -/
set_option maxRecDepth 100000 in
theorem t_S_rowless_0 {d : Nat} {I A : Nat → Nat → Int32} {K : Int32 → (Nat → Nat → Int32) → (Nat → Nat → Int32) → Prop}     
    (h : ev_Bi d 15 0 [some (.ref 1012)] I A (fun z3 I1 A2 => ev_Bv d 16 0 [some (.ref 1012)] I1 A2 (fun I5 A6 => K z3 I5 A6))) :
    ev_Bi (d + 1) 104 0 [some (.ref 1000), none] I A K :=
  ev_T.adv (k' := 4) (ls' := [some (.ref 1000), none]) (st' := [.ref 1012]) (σ' := (1057, 55, I, A)) 2 rfl (ev_T.calli (m' := 15) (as := [.ref 1012]) (r := []) (K' := fun z3 I1 A2 => ev_Bv d 16 0 [some (.ref 1012)] I1 A2 (fun I5 A6 => K z3 I5 A6)) rfl rfl rfl h (fun z3 I1 A2 h4 => ev_T.adv (k' := 12) (ls' := [some (.ref 1000), some (.int z3)]) (st' := [.ref 1012]) (σ' := (1057, 55, I1, A2)) 3 rfl (ev_T.callv (m' := 16) (as := [.ref 1012]) (r := []) (K' := fun I5 A6 => K z3 I5 A6) rfl rfl rfl h4 (fun I5 A6 h7 => ev_T.adv (k' := 16) (ls' := [some (.ref 1000), some (.int z3)]) (st' := [.int z3]) (σ' := (1057, 55, I5, A6)) 1 rfl (ev_T.reti rfl rfl h7)))))

/-! StemRules.affix(ZII)I -/
set_option maxRecDepth 100000 in
theorem t_S_affix_0 {d : Nat} {I A : Nat → Nat → Int32} {K : Int32 → (Nat → Nat → Int32) → (Nat → Nat → Int32) → Prop}   (x1 : Int32) (x2 : Int32) (x3 : Int32)  
    (h : ev_Bi d 78 0 [some (.ref 1003), some (.int x2)] I A (fun z3 I1 A2 => ((z3 = 0 → K (-1) I1 A2) ∧ (¬ z3 = 0 → ev_Bi d 79 0 [some (.ref 1003), some (.int x3)] I1 A2 (fun z7 I5 A6 => ((z7 = 0 → K (-1) I5 A6) ∧ (¬ z7 = 0 → ev_Bi d 80 0 [some (.ref 1003), some (.int x2)] I5 A6 (fun z11 I9 A10 => (((8 : Int32) < z11 → K (-2) I9 A10) ∧ (¬ (8 : Int32) < z11 → ev_Bi d 80 0 [some (.ref 1003), some (.int x3)] I9 A10 (fun z15 I13 A14 => ((z15 ≤ 8 → ev_Bi d 2 0 [some (.ref 1018), some (.int x1), some (.int x2), some (.int x3)] I13 A14 (fun z19 I17 A18 => K z19 I17 A18)) ∧ (¬ z15 ≤ 8 → K (-2) I13 A14))))))))))))) :
    ev_Bi (d + 1) 105 0 [some (.ref 1000), some (.int x1), some (.int x2), some (.int x3)] I A K :=
  ev_T.adv (k' := 5) (ls' := [some (.ref 1000), some (.int x1), some (.int x2), some (.int x3)]) (st' := [.int x2, .ref 1003]) (σ' := (1057, 55, I, A)) 3 rfl (ev_T.calli (m' := 78) (as := [.ref 1003, .int x2]) (r := []) (K' := fun z3 I1 A2 => ((z3 = 0 → K (-1) I1 A2) ∧ (¬ z3 = 0 → ev_Bi d 79 0 [some (.ref 1003), some (.int x3)] I1 A2 (fun z7 I5 A6 => ((z7 = 0 → K (-1) I5 A6) ∧ (¬ z7 = 0 → ev_Bi d 80 0 [some (.ref 1003), some (.int x2)] I5 A6 (fun z11 I9 A10 => (((8 : Int32) < z11 → K (-2) I9 A10) ∧ (¬ (8 : Int32) < z11 → ev_Bi d 80 0 [some (.ref 1003), some (.int x3)] I9 A10 (fun z15 I13 A14 => ((z15 ≤ 8 → ev_Bi d 2 0 [some (.ref 1018), some (.int x1), some (.int x2), some (.int x3)] I13 A14 (fun z19 I17 A18 => K z19 I17 A18)) ∧ (¬ z15 ≤ 8 → K (-2) I13 A14)))))))))))) rfl rfl rfl h (fun z3 I1 A2 h4 => ev_T.if_eq rfl (fun c24 => ev_T.adv (k' := 23) (ls' := [some (.ref 1000), some (.int x1), some (.int x2), some (.int x3)]) (st' := [.int (-1)]) (σ' := (1057, 55, I1, A2)) 1 rfl (ev_T.reti rfl rfl (h4.1 c24))) (fun c24 => ev_T.adv (k' := 16) (ls' := [some (.ref 1000), some (.int x1), some (.int x2), some (.int x3)]) (st' := [.int x3, .ref 1003]) (σ' := (1057, 55, I1, A2)) 3 rfl (ev_T.calli (m' := 79) (as := [.ref 1003, .int x3]) (r := []) (K' := fun z7 I5 A6 => ((z7 = 0 → K (-1) I5 A6) ∧ (¬ z7 = 0 → ev_Bi d 80 0 [some (.ref 1003), some (.int x2)] I5 A6 (fun z11 I9 A10 => (((8 : Int32) < z11 → K (-2) I9 A10) ∧ (¬ (8 : Int32) < z11 → ev_Bi d 80 0 [some (.ref 1003), some (.int x3)] I9 A10 (fun z15 I13 A14 => ((z15 ≤ 8 → ev_Bi d 2 0 [some (.ref 1018), some (.int x1), some (.int x2), some (.int x3)] I13 A14 (fun z19 I17 A18 => K z19 I17 A18)) ∧ (¬ z15 ≤ 8 → K (-2) I13 A14))))))))) rfl rfl rfl (h4.2 c24) (fun z7 I5 A6 h8 => ev_T.if_ne rfl (fun c23 => ev_T.adv (k' := 23) (ls' := [some (.ref 1000), some (.int x1), some (.int x2), some (.int x3)]) (st' := [.int (-1)]) (σ' := (1057, 55, I5, A6)) 1 rfl (ev_T.reti rfl rfl (h8.1 c23))) (fun c23 => ev_T.adv (k' := 29) (ls' := [some (.ref 1000), some (.int x1), some (.int x2), some (.int x3)]) (st' := [.int x2, .ref 1003]) (σ' := (1057, 55, I5, A6)) 3 rfl (ev_T.calli (m' := 80) (as := [.ref 1003, .int x2]) (r := []) (K' := fun z11 I9 A10 => (((8 : Int32) < z11 → K (-2) I9 A10) ∧ (¬ (8 : Int32) < z11 → ev_Bi d 80 0 [some (.ref 1003), some (.int x3)] I9 A10 (fun z15 I13 A14 => ((z15 ≤ 8 → ev_Bi d 2 0 [some (.ref 1018), some (.int x1), some (.int x2), some (.int x3)] I13 A14 (fun z19 I17 A18 => K z19 I17 A18)) ∧ (¬ z15 ≤ 8 → K (-2) I13 A14)))))) rfl rfl rfl (h8.2 c23) (fun z11 I9 A10 h12 => ev_T.adv (k' := 34) (ls' := [some (.ref 1000), some (.int x1), some (.int x2), some (.int x3)]) (st' := [.int 8, .int z11]) (σ' := (1057, 55, I9, A10)) 1 rfl (ev_T.icmp_gt rfl (fun c22 => ev_T.adv (k' := 52) (ls' := [some (.ref 1000), some (.int x1), some (.int x2), some (.int x3)]) (st' := [.int (-2)]) (σ' := (1057, 55, I9, A10)) 1 rfl (ev_T.reti rfl rfl (h12.1 c22))) (fun c22 => ev_T.adv (k' := 42) (ls' := [some (.ref 1000), some (.int x1), some (.int x2), some (.int x3)]) (st' := [.int x3, .ref 1003]) (σ' := (1057, 55, I9, A10)) 3 rfl (ev_T.calli (m' := 80) (as := [.ref 1003, .int x3]) (r := []) (K' := fun z15 I13 A14 => ((z15 ≤ 8 → ev_Bi d 2 0 [some (.ref 1018), some (.int x1), some (.int x2), some (.int x3)] I13 A14 (fun z19 I17 A18 => K z19 I17 A18)) ∧ (¬ z15 ≤ 8 → K (-2) I13 A14))) rfl rfl rfl (h12.2 c22) (fun z15 I13 A14 h16 => ev_T.adv (k' := 47) (ls' := [some (.ref 1000), some (.int x1), some (.int x2), some (.int x3)]) (st' := [.int 8, .int z15]) (σ' := (1057, 55, I13, A14)) 1 rfl (ev_T.icmp_le rfl (fun c21 => ev_T.adv (k' := 60) (ls' := [some (.ref 1000), some (.int x1), some (.int x2), some (.int x3)]) (st' := [.int x3, .int x2, .int x1, .ref 1018]) (σ' := (1057, 55, I13, A14)) 5 rfl (ev_T.calli (m' := 2) (as := [.ref 1018, .int x1, .int x2, .int x3]) (r := []) (K' := fun z19 I17 A18 => K z19 I17 A18) rfl rfl rfl (h16.1 c21) (fun z19 I17 A18 h20 => ev_T.reti rfl rfl h20))) (fun c21 => ev_T.adv (k' := 52) (ls' := [some (.ref 1000), some (.int x1), some (.int x2), some (.int x3)]) (st' := [.int (-2)]) (σ' := (1057, 55, I13, A14)) 1 rfl (ev_T.reti rfl rfl (h16.2 c21))))))))))))))))

/-! StemRules.base(II)I -/
set_option maxRecDepth 100000 in
theorem t_S_base_0 {d : Nat} {I A : Nat → Nat → Int32} {K : Int32 → (Nat → Nat → Int32) → (Nat → Nat → Int32) → Prop}   (x1 : Int32) (x2 : Int32)  
    (h : ev_Bi d 78 0 [some (.ref 1003), some (.int x1)] I A (fun z3 I1 A2 => ((z3 = 0 → K (-1) I1 A2) ∧ (¬ z3 = 0 → ev_Bv d 3 0 [some (.ref 1018), some (.int x1), some (.ref 1003), some (.ref 1010), none] I1 A2 (fun I5 A6 => ev_Bi d 4 0 [some (.ref 1018), some (.int x2)] I5 A6 (fun z10 I8 A9 => K z10 I8 A9)))))) :
    ev_Bi (d + 1) 106 0 [some (.ref 1000), some (.int x1), some (.int x2)] I A K :=
  ev_T.adv (k' := 5) (ls' := [some (.ref 1000), some (.int x1), some (.int x2)]) (st' := [.int x1, .ref 1003]) (σ' := (1057, 55, I, A)) 3 rfl (ev_T.calli (m' := 78) (as := [.ref 1003, .int x1]) (r := []) (K' := fun z3 I1 A2 => ((z3 = 0 → K (-1) I1 A2) ∧ (¬ z3 = 0 → ev_Bv d 3 0 [some (.ref 1018), some (.int x1), some (.ref 1003), some (.ref 1010), none] I1 A2 (fun I5 A6 => ev_Bi d 4 0 [some (.ref 1018), some (.int x2)] I5 A6 (fun z10 I8 A9 => K z10 I8 A9))))) rfl rfl rfl h (fun z3 I1 A2 h4 => ev_T.if_ne rfl (fun c12 => ev_T.adv (k' := 12) (ls' := [some (.ref 1000), some (.int x1), some (.int x2)]) (st' := [.int (-1)]) (σ' := (1057, 55, I1, A2)) 1 rfl (ev_T.reti rfl rfl (h4.1 c12))) (fun c12 => ev_T.adv (k' := 26) (ls' := [some (.ref 1000), some (.int x1), some (.int x2)]) (st' := [.ref 1010, .ref 1003, .int x1, .ref 1018]) (σ' := (1057, 55, I1, A2)) 7 rfl (ev_T.callv (m' := 3) (as := [.ref 1018, .int x1, .ref 1003, .ref 1010]) (r := []) (K' := fun I5 A6 => ev_Bi d 4 0 [some (.ref 1018), some (.int x2)] I5 A6 (fun z10 I8 A9 => K z10 I8 A9)) rfl rfl rfl (h4.2 c12) (fun I5 A6 h7 => ev_T.adv (k' := 34) (ls' := [some (.ref 1000), some (.int x1), some (.int x2)]) (st' := [.int x2, .ref 1018]) (σ' := (1057, 55, I5, A6)) 3 rfl (ev_T.calli (m' := 4) (as := [.ref 1018, .int x2]) (r := []) (K' := fun z10 I8 A9 => K z10 I8 A9) rfl rfl rfl h7 (fun z10 I8 A9 h11 => ev_T.reti rfl rfl h11)))))))

/-! StemRules.least(I)I -/
set_option maxRecDepth 100000 in
theorem t_S_least_0 {d : Nat} {I A : Nat → Nat → Int32} {K : Int32 → (Nat → Nat → Int32) → (Nat → Nat → Int32) → Prop}   (x1 : Int32)  
    (h : ((x1 < 2 → K (-2) I A) ∧ (¬ x1 < 2 → ((x1 ≤ 12 → ev_Bi d 40 0 [some (.ref 1023), some (.int x1), none] I A (fun z3 I1 A2 => K z3 I1 A2)) ∧ (¬ x1 ≤ 12 → K (-2) I A))))) :
    ev_Bi (d + 1) 107 0 [some (.ref 1000), some (.int x1)] I A K :=
  ev_T.adv (k' := 2) (ls' := [some (.ref 1000), some (.int x1)]) (st' := [.int 2, .int x1]) (σ' := (1057, 55, I, A)) 2 rfl (ev_T.icmp_lt rfl (fun c6 => ev_T.adv (k' := 13) (ls' := [some (.ref 1000), some (.int x1)]) (st' := [.int (-2)]) (σ' := (1057, 55, I, A)) 1 rfl (ev_T.reti rfl rfl (h.1 c6))) (fun c6 => ev_T.adv (k' := 8) (ls' := [some (.ref 1000), some (.int x1)]) (st' := [.int 12, .int x1]) (σ' := (1057, 55, I, A)) 2 rfl (ev_T.icmp_le rfl (fun c5 => ev_T.adv (k' := 19) (ls' := [some (.ref 1000), some (.int x1)]) (st' := [.int x1, .ref 1023]) (σ' := (1057, 55, I, A)) 3 rfl (ev_T.calli (m' := 40) (as := [.ref 1023, .int x1]) (r := []) (K' := fun z3 I1 A2 => K z3 I1 A2) rfl rfl rfl ((h.2 c6).1 c5) (fun z3 I1 A2 h4 => ev_T.reti rfl rfl h4))) (fun c5 => ev_T.adv (k' := 13) (ls' := [some (.ref 1000), some (.int x1)]) (st' := [.int (-2)]) (σ' := (1057, 55, I, A)) 1 rfl (ev_T.reti rfl rfl ((h.2 c6).2 c5))))))

/-! StemRules.part(II)I -/
set_option maxRecDepth 100000 in
theorem t_S_part_0 {d : Nat} {I A : Nat → Nat → Int32} {K : Int32 → (Nat → Nat → Int32) → (Nat → Nat → Int32) → Prop}   (x1 : Int32) (x2 : Int32)  
    (h : ev_Bi d 78 0 [some (.ref 1003), some (.int x1)] I A (fun z3 I1 A2 => ((z3 = 0 → K (-1) I1 A2) ∧ (¬ z3 = 0 → ev_Bv d 81 0 [some (.ref 1003), some (.int x1), some (.ref 1010)] I1 A2 (fun I5 A6 => ev_Bv d 41 0 [some (.ref 1023), some (.ref 1010), some (.ref 1003), none, none] I5 A6 (fun I8 A9 => ((x2 = (-1) → ev_Bi d 42 0 [some (.ref 1023)] I8 A9 (fun z13 I11 A12 => K z13 I11 A12)) ∧ (¬ x2 = (-1) → ev_Bi d 43 0 [some (.ref 1023), some (.int x2), none, none] I8 A9 (fun z17 I15 A16 => K z17 I15 A16))))))))) :
    ev_Bi (d + 1) 108 0 [some (.ref 1000), some (.int x1), some (.int x2)] I A K :=
  ev_T.adv (k' := 5) (ls' := [some (.ref 1000), some (.int x1), some (.int x2)]) (st' := [.int x1, .ref 1003]) (σ' := (1057, 55, I, A)) 3 rfl (ev_T.calli (m' := 78) (as := [.ref 1003, .int x1]) (r := []) (K' := fun z3 I1 A2 => ((z3 = 0 → K (-1) I1 A2) ∧ (¬ z3 = 0 → ev_Bv d 81 0 [some (.ref 1003), some (.int x1), some (.ref 1010)] I1 A2 (fun I5 A6 => ev_Bv d 41 0 [some (.ref 1023), some (.ref 1010), some (.ref 1003), none, none] I5 A6 (fun I8 A9 => ((x2 = (-1) → ev_Bi d 42 0 [some (.ref 1023)] I8 A9 (fun z13 I11 A12 => K z13 I11 A12)) ∧ (¬ x2 = (-1) → ev_Bi d 43 0 [some (.ref 1023), some (.int x2), none, none] I8 A9 (fun z17 I15 A16 => K z17 I15 A16)))))))) rfl rfl rfl h (fun z3 I1 A2 h4 => ev_T.if_ne rfl (fun c20 => ev_T.adv (k' := 12) (ls' := [some (.ref 1000), some (.int x1), some (.int x2)]) (st' := [.int (-1)]) (σ' := (1057, 55, I1, A2)) 1 rfl (ev_T.reti rfl rfl (h4.1 c20))) (fun c20 => ev_T.adv (k' := 22) (ls' := [some (.ref 1000), some (.int x1), some (.int x2)]) (st' := [.ref 1010, .int x1, .ref 1003]) (σ' := (1057, 55, I1, A2)) 5 rfl (ev_T.callv (m' := 81) (as := [.ref 1003, .int x1, .ref 1010]) (r := []) (K' := fun I5 A6 => ev_Bv d 41 0 [some (.ref 1023), some (.ref 1010), some (.ref 1003), none, none] I5 A6 (fun I8 A9 => ((x2 = (-1) → ev_Bi d 42 0 [some (.ref 1023)] I8 A9 (fun z13 I11 A12 => K z13 I11 A12)) ∧ (¬ x2 = (-1) → ev_Bi d 43 0 [some (.ref 1023), some (.int x2), none, none] I8 A9 (fun z17 I15 A16 => K z17 I15 A16))))) rfl rfl rfl (h4.2 c20) (fun I5 A6 h7 => ev_T.adv (k' := 37) (ls' := [some (.ref 1000), some (.int x1), some (.int x2)]) (st' := [.ref 1003, .ref 1010, .ref 1023]) (σ' := (1057, 55, I5, A6)) 6 rfl (ev_T.callv (m' := 41) (as := [.ref 1023, .ref 1010, .ref 1003]) (r := []) (K' := fun I8 A9 => ((x2 = (-1) → ev_Bi d 42 0 [some (.ref 1023)] I8 A9 (fun z13 I11 A12 => K z13 I11 A12)) ∧ (¬ x2 = (-1) → ev_Bi d 43 0 [some (.ref 1023), some (.int x2), none, none] I8 A9 (fun z17 I15 A16 => K z17 I15 A16)))) rfl rfl rfl h7 (fun I8 A9 h10 => ev_T.adv (k' := 42) (ls' := [some (.ref 1000), some (.int x1), some (.int x2)]) (st' := [.int (-1), .int x2]) (σ' := (1057, 55, I8, A9)) 2 rfl (ev_T.icmp_ne rfl (fun c19 => ev_T.adv (k' := 49) (ls' := [some (.ref 1000), some (.int x1), some (.int x2)]) (st' := [.ref 1023]) (σ' := (1057, 55, I8, A9)) 2 rfl (ev_T.calli (m' := 42) (as := [.ref 1023]) (r := []) (K' := fun z13 I11 A12 => K z13 I11 A12) rfl rfl rfl (h10.1 c19) (fun z13 I11 A12 h14 => ev_T.adv (k' := 63) (ls' := [some (.ref 1000), some (.int x1), some (.int x2)]) (st' := [.int z13]) (σ' := (1057, 55, I11, A12)) 1 rfl (ev_T.reti rfl rfl h14)))) (fun c19 => ev_T.adv (k' := 60) (ls' := [some (.ref 1000), some (.int x1), some (.int x2)]) (st' := [.int x2, .ref 1023]) (σ' := (1057, 55, I8, A9)) 3 rfl (ev_T.calli (m' := 43) (as := [.ref 1023, .int x2]) (r := []) (K' := fun z17 I15 A16 => K z17 I15 A16) rfl rfl rfl (h10.2 c19) (fun z17 I15 A16 h18 => ev_T.reti rfl rfl h18)))))))))))

/-! StemRules.key(II)I -/
set_option maxRecDepth 100000 in
theorem t_S_key_0 {d : Nat} {I A : Nat → Nat → Int32} {K : Int32 → (Nat → Nat → Int32) → (Nat → Nat → Int32) → Prop}   (x1 : Int32) (x2 : Int32)  
    (h : ev_Bi d 78 0 [some (.ref 1003), some (.int x2)] I A (fun z3 I1 A2 => ((z3 = 0 → K (-1) I1 A2) ∧ (¬ z3 = 0 → ((x1 = 0 → ev_Bi (d + 1) 109 25 [some (.ref 1000), some (.int x1), some (.int x2)] I1 A2 K) ∧ (¬ x1 = 0 → ((x1 = 1 → ev_Bi (d + 1) 109 25 [some (.ref 1000), some (.int x1), some (.int x2)] I1 A2 K) ∧ (¬ x1 = 1 → K (-2) I1 A2)))))))) :
    ev_Bi (d + 1) 109 0 [some (.ref 1000), some (.int x1), some (.int x2)] I A K :=
  ev_T.adv (k' := 5) (ls' := [some (.ref 1000), some (.int x1), some (.int x2)]) (st' := [.int x2, .ref 1003]) (σ' := (1057, 55, I, A)) 3 rfl (ev_T.calli (m' := 78) (as := [.ref 1003, .int x2]) (r := []) (K' := fun z3 I1 A2 => ((z3 = 0 → K (-1) I1 A2) ∧ (¬ z3 = 0 → ((x1 = 0 → ev_Bi (d + 1) 109 25 [some (.ref 1000), some (.int x1), some (.int x2)] I1 A2 K) ∧ (¬ x1 = 0 → ((x1 = 1 → ev_Bi (d + 1) 109 25 [some (.ref 1000), some (.int x1), some (.int x2)] I1 A2 K) ∧ (¬ x1 = 1 → K (-2) I1 A2))))))) rfl rfl rfl h (fun z3 I1 A2 h4 => ev_T.if_ne rfl (fun c7 => ev_T.adv (k' := 12) (ls' := [some (.ref 1000), some (.int x1), some (.int x2)]) (st' := [.int (-1)]) (σ' := (1057, 55, I1, A2)) 1 rfl (ev_T.reti rfl rfl (h4.1 c7))) (fun c7 => ev_T.adv (k' := 14) (ls' := [some (.ref 1000), some (.int x1), some (.int x2)]) (st' := [.int x1]) (σ' := (1057, 55, I1, A2)) 1 rfl (ev_T.if_eq rfl (fun c6 => ((h4.2 c7).1 c6)) (fun c6 => ev_T.adv (k' := 19) (ls' := [some (.ref 1000), some (.int x1), some (.int x2)]) (st' := [.int 1, .int x1]) (σ' := (1057, 55, I1, A2)) 2 rfl (ev_T.icmp_eq rfl (fun c5 => (((h4.2 c7).2 c6).1 c5)) (fun c5 => ev_T.adv (k' := 24) (ls' := [some (.ref 1000), some (.int x1), some (.int x2)]) (st' := [.int (-2)]) (σ' := (1057, 55, I1, A2)) 1 rfl (ev_T.reti rfl rfl (((h4.2 c7).2 c6).2 c5)))))))))
set_option maxRecDepth 100000 in
theorem t_S_key_25 {d : Nat} {I A : Nat → Nat → Int32} {K : Int32 → (Nat → Nat → Int32) → (Nat → Nat → Int32) → Prop}   (x1 : Int32) (x2 : Int32)  
    (h : ev_Bv d 81 0 [some (.ref 1003), some (.int x2), some (.ref 1010)] I A (fun I1 A2 => ((x1 = 0 → ev_Bv d 21 0 [some (.ref 1010), some (.ref 1008), none, none, none, none] I1 A2 (fun I4 A5 => ev_Bi (d + 1) 109 66 [some (.ref 1000), some (.int x1), some (.int x2)] I4 A5 K)) ∧ (¬ x1 = 0 → ev_Bv d 22 0 [some (.ref 1010), some (.ref 1008), none] I1 A2 (fun I7 A8 => ev_Bi (d + 1) 109 66 [some (.ref 1000), some (.int x1), some (.int x2)] I7 A8 K))))) :
    ev_Bi (d + 1) 109 25 [some (.ref 1000), some (.int x1), some (.int x2)] I A K :=
  ev_T.adv (k' := 34) (ls' := [some (.ref 1000), some (.int x1), some (.int x2)]) (st' := [.ref 1010, .int x2, .ref 1003]) (σ' := (1057, 55, I, A)) 5 rfl (ev_T.callv (m' := 81) (as := [.ref 1003, .int x2, .ref 1010]) (r := []) (K' := fun I1 A2 => ((x1 = 0 → ev_Bv d 21 0 [some (.ref 1010), some (.ref 1008), none, none, none, none] I1 A2 (fun I4 A5 => ev_Bi (d + 1) 109 66 [some (.ref 1000), some (.int x1), some (.int x2)] I4 A5 K)) ∧ (¬ x1 = 0 → ev_Bv d 22 0 [some (.ref 1010), some (.ref 1008), none] I1 A2 (fun I7 A8 => ev_Bi (d + 1) 109 66 [some (.ref 1000), some (.int x1), some (.int x2)] I7 A8 K)))) rfl rfl rfl h (fun I1 A2 h3 => ev_T.adv (k' := 38) (ls' := [some (.ref 1000), some (.int x1), some (.int x2)]) (st' := [.int x1]) (σ' := (1057, 55, I1, A2)) 1 rfl (ev_T.if_ne rfl (fun c10 => ev_T.adv (k' := 49) (ls' := [some (.ref 1000), some (.int x1), some (.int x2)]) (st' := [.ref 1008, .ref 1010]) (σ' := (1057, 55, I1, A2)) 4 rfl (ev_T.callv (m' := 21) (as := [.ref 1010, .ref 1008]) (r := []) (K' := fun I4 A5 => ev_Bi (d + 1) 109 66 [some (.ref 1000), some (.int x1), some (.int x2)] I4 A5 K) rfl rfl rfl (h3.1 c10) (fun I4 A5 h6 => ev_T.adv (k' := 66) (ls' := [some (.ref 1000), some (.int x1), some (.int x2)]) (st' := []) (σ' := (1057, 55, I4, A5)) 1 rfl (h6)))) (fun c10 => ev_T.adv (k' := 63) (ls' := [some (.ref 1000), some (.int x1), some (.int x2)]) (st' := [.ref 1008, .ref 1010]) (σ' := (1057, 55, I1, A2)) 4 rfl (ev_T.callv (m' := 22) (as := [.ref 1010, .ref 1008]) (r := []) (K' := fun I7 A8 => ev_Bi (d + 1) 109 66 [some (.ref 1000), some (.int x1), some (.int x2)] I7 A8 K) rfl rfl rfl (h3.2 c10) (fun I7 A8 h9 => h9))))))
set_option maxRecDepth 100000 in
theorem t_S_key_66 {d : Nat} {I A : Nat → Nat → Int32} {K : Int32 → (Nat → Nat → Int32) → (Nat → Nat → Int32) → Prop}   (x1 : Int32) (x2 : Int32)  
    (h : ev_Bi d 30 0 [some (.ref 1008)] I A (fun z3 I1 A2 => K z3 I1 A2)) :
    ev_Bi (d + 1) 109 66 [some (.ref 1000), some (.int x1), some (.int x2)] I A K :=
  ev_T.adv (k' := 70) (ls' := [some (.ref 1000), some (.int x1), some (.int x2)]) (st' := [.ref 1008]) (σ' := (1057, 55, I, A)) 2 rfl (ev_T.calli (m' := 30) (as := [.ref 1008]) (r := []) (K' := fun z3 I1 A2 => K z3 I1 A2) rfl rfl rfl h (fun z3 I1 A2 h4 => ev_T.reti rfl rfl h4))

/-! StemRules.text(I)I -/
set_option maxRecDepth 100000 in
theorem t_S_text_0 {d : Nat} {I A : Nat → Nat → Int32} {K : Int32 → (Nat → Nat → Int32) → (Nat → Nat → Int32) → Prop}   (x1 : Int32)  
    (h : ev_Bi d 113 0 [some (.int x1)] I A (fun z3 I1 A2 => ((z3 = 0 → ev_Bv d 62 0 [some (.ref 1001), some (.int 0)] I1 A2 (fun I5 A6 => K (-2) I5 A6)) ∧ (¬ z3 = 0 → ev_Bi d 77 0 [some (.ref 1003)] I1 A2 (fun z10 I8 A9 => ev_Bv d 11 0 [some (.ref 1027)] I8 A9 (fun I12 A13 => ev_Bv d 71 0 [some (.ref 1030)] I12 A13 (fun I15 A16 => ev_Bi (d + 1) 110 45 [some (.ref 1000), some (.int x1), some (.int z10), some (.int 1), some (.int 0)] I15 A16 K))))))) :
    ev_Bi (d + 1) 110 0 [some (.ref 1000), some (.int x1), none, none, none] I A K :=
  ev_T.adv (k' := 1) (ls' := [some (.ref 1000), some (.int x1), none, none, none]) (st' := [.int x1]) (σ' := (1057, 55, I, A)) 1 rfl (ev_T.calli (m' := 113) (as := [.int x1]) (r := []) (K' := fun z3 I1 A2 => ((z3 = 0 → ev_Bv d 62 0 [some (.ref 1001), some (.int 0)] I1 A2 (fun I5 A6 => K (-2) I5 A6)) ∧ (¬ z3 = 0 → ev_Bi d 77 0 [some (.ref 1003)] I1 A2 (fun z10 I8 A9 => ev_Bv d 11 0 [some (.ref 1027)] I8 A9 (fun I12 A13 => ev_Bv d 71 0 [some (.ref 1030)] I12 A13 (fun I15 A16 => ev_Bi (d + 1) 110 45 [some (.ref 1000), some (.int x1), some (.int z10), some (.int 1), some (.int 0)] I15 A16 K)))))) rfl rfl rfl h (fun z3 I1 A2 h4 => ev_T.if_ne rfl (fun c18 => ev_T.adv (k' := 12) (ls' := [some (.ref 1000), some (.int x1), none, none, none]) (st' := [.int 0, .ref 1001]) (σ' := (1057, 55, I1, A2)) 3 rfl (ev_T.callv (m' := 62) (as := [.ref 1001, .int 0]) (r := []) (K' := fun I5 A6 => K (-2) I5 A6) rfl rfl rfl (h4.1 c18) (fun I5 A6 h7 => ev_T.adv (k' := 17) (ls' := [some (.ref 1000), some (.int x1), none, none, none]) (st' := [.int (-2)]) (σ' := (1057, 55, I5, A6)) 1 rfl (ev_T.reti rfl rfl h7)))) (fun c18 => ev_T.adv (k' := 22) (ls' := [some (.ref 1000), some (.int x1), none, none, none]) (st' := [.ref 1003]) (σ' := (1057, 55, I1, A2)) 2 rfl (ev_T.calli (m' := 77) (as := [.ref 1003]) (r := []) (K' := fun z10 I8 A9 => ev_Bv d 11 0 [some (.ref 1027)] I8 A9 (fun I12 A13 => ev_Bv d 71 0 [some (.ref 1030)] I12 A13 (fun I15 A16 => ev_Bi (d + 1) 110 45 [some (.ref 1000), some (.int x1), some (.int z10), some (.int 1), some (.int 0)] I15 A16 K))) rfl rfl rfl (h4.2 c18) (fun z10 I8 A9 h11 => ev_T.adv (k' := 32) (ls' := [some (.ref 1000), some (.int x1), some (.int z10), some (.int 1), none]) (st' := [.ref 1027]) (σ' := (1057, 55, I8, A9)) 5 rfl (ev_T.callv (m' := 11) (as := [.ref 1027]) (r := []) (K' := fun I12 A13 => ev_Bv d 71 0 [some (.ref 1030)] I12 A13 (fun I15 A16 => ev_Bi (d + 1) 110 45 [some (.ref 1000), some (.int x1), some (.int z10), some (.int 1), some (.int 0)] I15 A16 K)) rfl rfl rfl h11 (fun I12 A13 h14 => ev_T.adv (k' := 39) (ls' := [some (.ref 1000), some (.int x1), some (.int z10), some (.int 1), none]) (st' := [.ref 1030]) (σ' := (1057, 55, I12, A13)) 2 rfl (ev_T.callv (m' := 71) (as := [.ref 1030]) (r := []) (K' := fun I15 A16 => ev_Bi (d + 1) 110 45 [some (.ref 1000), some (.int x1), some (.int z10), some (.int 1), some (.int 0)] I15 A16 K) rfl rfl rfl h14 (fun I15 A16 h17 => ev_T.adv (k' := 45) (ls' := [some (.ref 1000), some (.int x1), some (.int z10), some (.int 1), some (.int 0)]) (st' := []) (σ' := (1057, 55, I15, A16)) 2 rfl (h17))))))))))
set_option maxRecDepth 100000 in
theorem t_S_text_45 {d : Nat} {I A : Nat → Nat → Int32} {K : Int32 → (Nat → Nat → Int32) → (Nat → Nat → Int32) → Prop}   (x1 : Int32) (x2 : Int32) (x3 : Int32) (x4 : Int32)  
    (h : (((400 : Int32) ≤ x4 → ev_Bi (d + 1) 110 93 [some (.ref 1000), some (.int x1), some (.int x2), some (.int x3), some (.int x4)] I A K) ∧ (¬ (400 : Int32) ≤ x4 → ((x3 = 0 → ev_Bi (d + 1) 110 93 [some (.ref 1000), some (.int x1), some (.int x2), some (.int x3), some (.int x4)] I A K) ∧ (¬ x3 = 0 → ev_Bi d 72 0 [some (.ref 1030)] I A (fun z3 I1 A2 => ((z3 = 0 → ev_Bi (d + 1) 110 93 [some (.ref 1000), some (.int x1), some (.int x2), some (.int x3), some (.int x4)] I1 A2 K) ∧ (¬ z3 = 0 → ev_Bi d 12 0 [some (.ref 1027), some (.ref 1001)] I1 A2 (fun z7 I5 A6 => ((z7 = 0 → ev_Bi (d + 1) 110 93 [some (.ref 1000), some (.int x1), some (.int x2), some (.int x3), some (.int x4)] I5 A6 K) ∧ (¬ z7 = 0 → ev_Bi d 116 0 [some (.ref 1000), some (.int x1), none, none, none] I5 A6 (fun z11 I9 A10 => ev_Bi (d + 1) 110 45 [some (.ref 1000), some (.int x1), some (.int x2), some (.int z11), some (.int (x4 + 1))] I9 A10 K)))))))))))) :
    ev_Bi (d + 1) 110 45 [some (.ref 1000), some (.int x1), some (.int x2), some (.int x3), some (.int x4)] I A K :=
  ev_T.adv (k' := 50) (ls' := [some (.ref 1000), some (.int x1), some (.int x2), some (.int x3), some (.int x4)]) (st' := [.int 400, .int x4]) (σ' := (1057, 55, I, A)) 2 rfl (ev_T.icmp_ge rfl (fun c16 => (h.1 c16)) (fun c16 => ev_T.adv (k' := 54) (ls' := [some (.ref 1000), some (.int x1), some (.int x2), some (.int x3), some (.int x4)]) (st' := [.int x3]) (σ' := (1057, 55, I, A)) 1 rfl (ev_T.if_eq rfl (fun c15 => ((h.2 c16).1 c15)) (fun c15 => ev_T.adv (k' := 61) (ls' := [some (.ref 1000), some (.int x1), some (.int x2), some (.int x3), some (.int x4)]) (st' := [.ref 1030]) (σ' := (1057, 55, I, A)) 2 rfl (ev_T.calli (m' := 72) (as := [.ref 1030]) (r := []) (K' := fun z3 I1 A2 => ((z3 = 0 → ev_Bi (d + 1) 110 93 [some (.ref 1000), some (.int x1), some (.int x2), some (.int x3), some (.int x4)] I1 A2 K) ∧ (¬ z3 = 0 → ev_Bi d 12 0 [some (.ref 1027), some (.ref 1001)] I1 A2 (fun z7 I5 A6 => ((z7 = 0 → ev_Bi (d + 1) 110 93 [some (.ref 1000), some (.int x1), some (.int x2), some (.int x3), some (.int x4)] I5 A6 K) ∧ (¬ z7 = 0 → ev_Bi d 116 0 [some (.ref 1000), some (.int x1), none, none, none] I5 A6 (fun z11 I9 A10 => ev_Bi (d + 1) 110 45 [some (.ref 1000), some (.int x1), some (.int x2), some (.int z11), some (.int (x4 + 1))] I9 A10 K))))))) rfl rfl rfl ((h.2 c16).2 c15) (fun z3 I1 A2 h4 => ev_T.if_eq rfl (fun c14 => (h4.1 c14)) (fun c14 => ev_T.adv (k' := 75) (ls' := [some (.ref 1000), some (.int x1), some (.int x2), some (.int x3), some (.int x4)]) (st' := [.ref 1001, .ref 1027]) (σ' := (1057, 55, I1, A2)) 4 rfl (ev_T.calli (m' := 12) (as := [.ref 1027, .ref 1001]) (r := []) (K' := fun z7 I5 A6 => ((z7 = 0 → ev_Bi (d + 1) 110 93 [some (.ref 1000), some (.int x1), some (.int x2), some (.int x3), some (.int x4)] I5 A6 K) ∧ (¬ z7 = 0 → ev_Bi d 116 0 [some (.ref 1000), some (.int x1), none, none, none] I5 A6 (fun z11 I9 A10 => ev_Bi (d + 1) 110 45 [some (.ref 1000), some (.int x1), some (.int x2), some (.int z11), some (.int (x4 + 1))] I9 A10 K)))) rfl rfl rfl (h4.2 c14) (fun z7 I5 A6 h8 => ev_T.if_eq rfl (fun c13 => (h8.1 c13)) (fun c13 => ev_T.adv (k' := 83) (ls' := [some (.ref 1000), some (.int x1), some (.int x2), some (.int x3), some (.int x4)]) (st' := [.int x1, .ref 1000]) (σ' := (1057, 55, I5, A6)) 2 rfl (ev_T.calli (m' := 116) (as := [.ref 1000, .int x1]) (r := []) (K' := fun z11 I9 A10 => ev_Bi (d + 1) 110 45 [some (.ref 1000), some (.int x1), some (.int x2), some (.int z11), some (.int (x4 + 1))] I9 A10 K) rfl rfl rfl (h8.2 c13) (fun z11 I9 A10 h12 => ev_T.adv (k' := 45) (ls' := [some (.ref 1000), some (.int x1), some (.int x2), some (.int z11), some (.int (x4 + 1))]) (st' := []) (σ' := (1057, 55, I9, A10)) 3 rfl (h12)))))))))))))
set_option maxRecDepth 100000 in
theorem t_S_text_93 {d : Nat} {I A : Nat → Nat → Int32} {K : Int32 → (Nat → Nat → Int32) → (Nat → Nat → Int32) → Prop}   (x1 : Int32) (x2 : Int32) (x3 : Int32) (x4 : Int32)  
    (h : ev_Bv d 62 0 [some (.ref 1001), some (.int 0)] I A (fun I1 A2 => ((x3 = 0 → ev_Bv d 87 0 [some (.ref 1003), some (.int x2)] I1 A2 (fun I4 A5 => K (-4) I4 A5)) ∧ (¬ x3 = 0 → ev_Bv d 75 0 [some (.ref 1030)] I1 A2 (fun I7 A8 => ev_Bi d 68 0 [some (.ref 1030)] I7 A8 (fun z12 I10 A11 => K z12 I10 A11)))))) :
    ev_Bi (d + 1) 110 93 [some (.ref 1000), some (.int x1), some (.int x2), some (.int x3), some (.int x4)] I A K :=
  ev_T.adv (k' := 98) (ls' := [some (.ref 1000), some (.int x1), some (.int x2), some (.int x3), some (.int x4)]) (st' := [.int 0, .ref 1001]) (σ' := (1057, 55, I, A)) 3 rfl (ev_T.callv (m' := 62) (as := [.ref 1001, .int 0]) (r := []) (K' := fun I1 A2 => ((x3 = 0 → ev_Bv d 87 0 [some (.ref 1003), some (.int x2)] I1 A2 (fun I4 A5 => K (-4) I4 A5)) ∧ (¬ x3 = 0 → ev_Bv d 75 0 [some (.ref 1030)] I1 A2 (fun I7 A8 => ev_Bi d 68 0 [some (.ref 1030)] I7 A8 (fun z12 I10 A11 => K z12 I10 A11))))) rfl rfl rfl h (fun I1 A2 h3 => ev_T.adv (k' := 102) (ls' := [some (.ref 1000), some (.int x1), some (.int x2), some (.int x3), some (.int x4)]) (st' := [.int x3]) (σ' := (1057, 55, I1, A2)) 1 rfl (ev_T.if_ne rfl (fun c14 => ev_T.adv (k' := 110) (ls' := [some (.ref 1000), some (.int x1), some (.int x2), some (.int x3), some (.int x4)]) (st' := [.int x2, .ref 1003]) (σ' := (1057, 55, I1, A2)) 3 rfl (ev_T.callv (m' := 87) (as := [.ref 1003, .int x2]) (r := []) (K' := fun I4 A5 => K (-4) I4 A5) rfl rfl rfl (h3.1 c14) (fun I4 A5 h6 => ev_T.adv (k' := 115) (ls' := [some (.ref 1000), some (.int x1), some (.int x2), some (.int x3), some (.int x4)]) (st' := [.int (-4)]) (σ' := (1057, 55, I4, A5)) 1 rfl (ev_T.reti rfl rfl h6)))) (fun c14 => ev_T.adv (k' := 120) (ls' := [some (.ref 1000), some (.int x1), some (.int x2), some (.int x3), some (.int x4)]) (st' := [.ref 1030]) (σ' := (1057, 55, I1, A2)) 2 rfl (ev_T.callv (m' := 75) (as := [.ref 1030]) (r := []) (K' := fun I7 A8 => ev_Bi d 68 0 [some (.ref 1030)] I7 A8 (fun z12 I10 A11 => K z12 I10 A11)) rfl rfl rfl (h3.2 c14) (fun I7 A8 h9 => ev_T.adv (k' := 127) (ls' := [some (.ref 1000), some (.int x1), some (.int x2), some (.int x3), some (.int x4)]) (st' := [.ref 1030]) (σ' := (1057, 55, I7, A8)) 2 rfl (ev_T.calli (m' := 68) (as := [.ref 1030]) (r := []) (K' := fun z12 I10 A11 => K z12 I10 A11) rfl rfl rfl h9 (fun z12 I10 A11 h13 => ev_T.reti rfl rfl h13))))))))

/-! StemRules.token(II)I -/
set_option maxRecDepth 100000 in
theorem t_S_token_0 {d : Nat} {I A : Nat → Nat → Int32} {K : Int32 → (Nat → Nat → Int32) → (Nat → Nat → Int32) → Prop}   (x1 : Int32) (x2 : Int32)  
    (h : ((x2 < 0 → K (-2) I A) ∧ (¬ x2 < 0 → ((x2 < 5 → ev_Bi d 70 0 [some (.ref 1030), some (.int x1), some (.int x2), none] I A (fun z3 I1 A2 => K z3 I1 A2)) ∧ (¬ x2 < 5 → K (-2) I A))))) :
    ev_Bi (d + 1) 111 0 [some (.ref 1000), some (.int x1), some (.int x2)] I A K :=
  ev_T.adv (k' := 1) (ls' := [some (.ref 1000), some (.int x1), some (.int x2)]) (st' := [.int x2]) (σ' := (1057, 55, I, A)) 1 rfl (ev_T.if_lt rfl (fun c6 => ev_T.adv (k' := 11) (ls' := [some (.ref 1000), some (.int x1), some (.int x2)]) (st' := [.int (-2)]) (σ' := (1057, 55, I, A)) 1 rfl (ev_T.reti rfl rfl (h.1 c6))) (fun c6 => ev_T.adv (k' := 6) (ls' := [some (.ref 1000), some (.int x1), some (.int x2)]) (st' := [.int 5, .int x2]) (σ' := (1057, 55, I, A)) 2 rfl (ev_T.icmp_lt rfl (fun c5 => ev_T.adv (k' := 18) (ls' := [some (.ref 1000), some (.int x1), some (.int x2)]) (st' := [.int x2, .int x1, .ref 1030]) (σ' := (1057, 55, I, A)) 4 rfl (ev_T.calli (m' := 70) (as := [.ref 1030, .int x1, .int x2]) (r := []) (K' := fun z3 I1 A2 => K z3 I1 A2) rfl rfl rfl ((h.2 c6).1 c5) (fun z3 I1 A2 h4 => ev_T.reti rfl rfl h4))) (fun c5 => ev_T.adv (k' := 11) (ls' := [some (.ref 1000), some (.int x1), some (.int x2)]) (st' := [.int (-2)]) (σ' := (1057, 55, I, A)) 1 rfl (ev_T.reti rfl rfl ((h.2 c6).2 c5))))))

/-! StemRules.told(I)I -/
set_option maxRecDepth 100000 in
theorem t_S_told_0 {d : Nat} {I A : Nat → Nat → Int32} {K : Int32 → (Nat → Nat → Int32) → (Nat → Nat → Int32) → Prop}   (x1 : Int32)  
    (h : ev_Bis (d + 1) 112 1 [some (.ref 1000), some (.int x1)] [.int x1] I A K) :
    ev_Bi (d + 1) 112 0 [some (.ref 1000), some (.int x1)] I A K :=
  ev_T.adv (k' := 1) (ls' := [some (.ref 1000), some (.int x1)]) (st' := [.int x1]) (σ' := (1057, 55, I, A)) 1 rfl (h)
set_option maxRecDepth 100000 in
theorem t_S_told_1s0 {d : Nat} {I A : Nat → Nat → Int32} {K : Int32 → (Nat → Nat → Int32) → (Nat → Nat → Int32) → Prop}   (x1 : Int32)  
    (h : ev_Bi d 77 0 [some (.ref 1003)] I A (fun z3 I1 A2 => K z3 I1 A2)) :
    ev_Bis (d + 1) 112 1 [some (.ref 1000), some (.int x1)] [.int 0] I A K :=
  ev_T.adv 1 rfl (ev_T.adv (k' := 44) (ls' := [some (.ref 1000), some (.int x1)]) (st' := [.ref 1003]) (σ' := (1057, 55, I, A)) 2 rfl (ev_T.calli (m' := 77) (as := [.ref 1003]) (r := []) (K' := fun z3 I1 A2 => K z3 I1 A2) rfl rfl rfl h (fun z3 I1 A2 h4 => ev_T.reti rfl rfl h4)))
set_option maxRecDepth 100000 in
theorem t_S_told_1s1 {d : Nat} {I A : Nat → Nat → Int32} {K : Int32 → (Nat → Nat → Int32) → (Nat → Nat → Int32) → Prop}   (x1 : Int32)  
    (h : ev_Bi d 68 0 [some (.ref 1030)] I A (fun z3 I1 A2 => K z3 I1 A2)) :
    ev_Bis (d + 1) 112 1 [some (.ref 1000), some (.int x1)] [.int 1] I A K :=
  ev_T.adv 1 rfl (ev_T.adv (k' := 52) (ls' := [some (.ref 1000), some (.int x1)]) (st' := [.ref 1030]) (σ' := (1057, 55, I, A)) 2 rfl (ev_T.calli (m' := 68) (as := [.ref 1030]) (r := []) (K' := fun z3 I1 A2 => K z3 I1 A2) rfl rfl rfl h (fun z3 I1 A2 h4 => ev_T.reti rfl rfl h4)))
set_option maxRecDepth 100000 in
theorem t_S_told_1s2 {d : Nat} {I A : Nat → Nat → Int32} {K : Int32 → (Nat → Nat → Int32) → (Nat → Nat → Int32) → Prop}   (x1 : Int32)  
    (h : ev_Bi d 15 0 [some (.ref 1012)] I A (fun z3 I1 A2 => K z3 I1 A2)) :
    ev_Bis (d + 1) 112 1 [some (.ref 1000), some (.int x1)] [.int 2] I A K :=
  ev_T.adv 1 rfl (ev_T.adv (k' := 60) (ls' := [some (.ref 1000), some (.int x1)]) (st' := [.ref 1012]) (σ' := (1057, 55, I, A)) 2 rfl (ev_T.calli (m' := 15) (as := [.ref 1012]) (r := []) (K' := fun z3 I1 A2 => K z3 I1 A2) rfl rfl rfl h (fun z3 I1 A2 h4 => ev_T.reti rfl rfl h4)))
set_option maxRecDepth 100000 in
theorem t_S_told_1s3 {d : Nat} {I A : Nat → Nat → Int32} {K : Int32 → (Nat → Nat → Int32) → (Nat → Nat → Int32) → Prop}   (x1 : Int32)  
    (h : ev_Bi d 1 0 [some (.ref 1018)] I A (fun z3 I1 A2 => K z3 I1 A2)) :
    ev_Bis (d + 1) 112 1 [some (.ref 1000), some (.int x1)] [.int 3] I A K :=
  ev_T.adv 1 rfl (ev_T.adv (k' := 68) (ls' := [some (.ref 1000), some (.int x1)]) (st' := [.ref 1018]) (σ' := (1057, 55, I, A)) 2 rfl (ev_T.calli (m' := 1) (as := [.ref 1018]) (r := []) (K' := fun z3 I1 A2 => K z3 I1 A2) rfl rfl rfl h (fun z3 I1 A2 h4 => ev_T.reti rfl rfl h4)))
set_option maxRecDepth 100000 in
theorem t_S_told_1s4 {d : Nat} {I A : Nat → Nat → Int32} {K : Int32 → (Nat → Nat → Int32) → (Nat → Nat → Int32) → Prop}   (x1 : Int32)  
    (h : ev_Bi d 69 0 [some (.ref 1030)] I A (fun z3 I1 A2 => K z3 I1 A2)) :
    ev_Bis (d + 1) 112 1 [some (.ref 1000), some (.int x1)] [.int 4] I A K :=
  ev_T.adv 1 rfl (ev_T.adv (k' := 76) (ls' := [some (.ref 1000), some (.int x1)]) (st' := [.ref 1030]) (σ' := (1057, 55, I, A)) 2 rfl (ev_T.calli (m' := 69) (as := [.ref 1030]) (r := []) (K' := fun z3 I1 A2 => K z3 I1 A2) rfl rfl rfl h (fun z3 I1 A2 h4 => ev_T.reti rfl rfl h4)))
set_option maxRecDepth 100000 in
theorem t_S_told_1s5 {d : Nat} {I A : Nat → Nat → Int32} {K : Int32 → (Nat → Nat → Int32) → (Nat → Nat → Int32) → Prop}   (x1 : Int32)  
    (h : ev_Bi d 59 0 [some (.ref 1001)] I A (fun z3 I1 A2 => K z3 I1 A2)) :
    ev_Bis (d + 1) 112 1 [some (.ref 1000), some (.int x1)] [.int 5] I A K :=
  ev_T.adv 1 rfl (ev_T.adv (k' := 84) (ls' := [some (.ref 1000), some (.int x1)]) (st' := [.ref 1001]) (σ' := (1057, 55, I, A)) 2 rfl (ev_T.calli (m' := 59) (as := [.ref 1001]) (r := []) (K' := fun z3 I1 A2 => K z3 I1 A2) rfl rfl rfl h (fun z3 I1 A2 h4 => ev_T.reti rfl rfl h4)))
set_option maxRecDepth 100000 in
theorem t_S_told_1sd {d : Nat} {I A : Nat → Nat → Int32} {K : Int32 → (Nat → Nat → Int32) → (Nat → Nat → Int32) → Prop}   (x1 : Int32) (x : Int32)  (hd : x.toInt < 0 ∨ 5 < x.toInt)
    (h : K (-2) I A) :
    ev_Bis (d + 1) 112 1 [some (.ref 1000), some (.int x1)] [.int x] I A K :=
  ev_T.swd rfl hd rfl (ev_T.adv (k' := 90) (ls' := [some (.ref 1000), some (.int x1)]) (st' := [.int (-2)]) (σ' := (1057, 55, I, A)) 1 rfl (ev_T.reti rfl rfl h))

/-! StemRules.isStemmer(I)Z -/
set_option maxRecDepth 100000 in
theorem t_S_isStemmer_0 {d : Nat} {I A : Nat → Nat → Int32} {K : Int32 → (Nat → Nat → Int32) → (Nat → Nat → Int32) → Prop}   (x0 : Int32)  
    (h : ((x0 < 0 → K 0 I A) ∧ (¬ x0 < 0 → (((3 : Int32) < x0 → K 0 I A) ∧ (¬ (3 : Int32) < x0 → K 1 I A))))) :
    ev_Bi d 113 0 [some (.int x0)] I A K :=
  ev_T.adv (k' := 1) (ls' := [some (.int x0)]) (st' := [.int x0]) (σ' := (1057, 55, I, A)) 1 rfl (ev_T.if_lt rfl (fun c2 => ev_T.adv (k' := 14) (ls' := [some (.int x0)]) (st' := [.int 0]) (σ' := (1057, 55, I, A)) 1 rfl (ev_T.retz rfl rfl (by decide) (h.1 c2))) (fun c2 => ev_T.adv (k' := 6) (ls' := [some (.int x0)]) (st' := [.int 3, .int x0]) (σ' := (1057, 55, I, A)) 2 rfl (ev_T.icmp_gt rfl (fun c1 => ev_T.adv (k' := 14) (ls' := [some (.int x0)]) (st' := [.int 0]) (σ' := (1057, 55, I, A)) 1 rfl (ev_T.retz rfl rfl (by decide) ((h.2 c2).1 c1))) (fun c1 => ev_T.adv (k' := 14) (ls' := [some (.int x0)]) (st' := [.int 1]) (σ' := (1057, 55, I, A)) 2 rfl (ev_T.retz rfl rfl (by decide) ((h.2 c2).2 c1))))))

/-! StemRules.layStem(IILStemRules$Letters;)V -/
set_option maxRecDepth 100000 in
theorem t_S_layStem_0 {d : Nat} {I A : Nat → Nat → Int32} {K : (Nat → Nat → Int32) → (Nat → Nat → Int32) → Prop} {L : Nat} (hLL : ev_isL L) (x1 : Int32) (x2 : Int32)  
    (h : ev_Bv d 81 0 [some (.ref 1003), some (.int x2), some (.ref L)] I A (fun I1 A2 => ((x1 = 0 → K I1 A2) ∧ (¬ x1 = 0 → ev_Bi d 88 0 [some (.ref 1003), some (.int 0), some (.int x2)] I1 A2 (fun z6 I4 A5 => ((z6 = 0 → ev_Bi d 90 0 [some (.ref 1003), some (.int x2)] I4 A5 (fun z10 I8 A9 => ((z10 = (-5) → ((x1 = 1 → ev_Bv d 115 0 [some (.ref L)] I8 A9 (fun I12 A13 => K I12 A13)) ∧ (¬ x1 = 1 → ((x1 = 2 → ev_Bv d 46 0 [some (.ref L), some (.int 7), none, none, none] I8 A9 (fun I15 A16 => K I15 A16)) ∧ (¬ x1 = 2 → ev_Bv d 18 0 [some (.ref 1012), some (.ref L), some (.ref 1003), none, none] I8 A9 (fun I18 A19 => K I18 A19)))))) ∧ (¬ z10 = (-5) → ev_Bv d 81 0 [some (.ref 1003), some (.int z10), some (.ref L)] I8 A9 (fun I23 A24 => K I23 A24))))) ∧ (¬ z6 = 0 → K I4 A5))))))) :
    ev_Bv (d + 1) 114 0 [some (.ref 1000), some (.int x1), some (.int x2), some (.ref L), none] I A K :=
  by
    rcases hLL with rfl | rfl | rfl
    · exact ev_T.adv (k' := 6) (ls' := [some (.ref 1000), some (.int x1), some (.int x2), some (.ref 1008), none]) (st' := [.ref 1008, .int x2, .ref 1003]) (σ' := (1057, 55, I, A)) 4 rfl (ev_T.callv (m' := 81) (as := [.ref 1003, .int x2, .ref 1008]) (r := []) (K' := fun I1 A2 => ((x1 = 0 → K I1 A2) ∧ (¬ x1 = 0 → ev_Bi d 88 0 [some (.ref 1003), some (.int 0), some (.int x2)] I1 A2 (fun z6 I4 A5 => ((z6 = 0 → ev_Bi d 90 0 [some (.ref 1003), some (.int x2)] I4 A5 (fun z10 I8 A9 => ((z10 = (-5) → ((x1 = 1 → ev_Bv d 115 0 [some (.ref 1008)] I8 A9 (fun I12 A13 => K I12 A13)) ∧ (¬ x1 = 1 → ((x1 = 2 → ev_Bv d 46 0 [some (.ref 1008), some (.int 7), none, none, none] I8 A9 (fun I15 A16 => K I15 A16)) ∧ (¬ x1 = 2 → ev_Bv d 18 0 [some (.ref 1012), some (.ref 1008), some (.ref 1003), none, none] I8 A9 (fun I18 A19 => K I18 A19)))))) ∧ (¬ z10 = (-5) → ev_Bv d 81 0 [some (.ref 1003), some (.int z10), some (.ref 1008)] I8 A9 (fun I23 A24 => K I23 A24))))) ∧ (¬ z6 = 0 → K I4 A5)))))) rfl rfl rfl h (fun I1 A2 h3 => ev_T.adv (k' := 10) (ls' := [some (.ref 1000), some (.int x1), some (.int x2), some (.ref 1008), none]) (st' := [.int x1]) (σ' := (1057, 55, I1, A2)) 1 rfl (ev_T.if_eq rfl (fun c28 => ev_T.retv rfl rfl (h3.1 c28)) (fun c28 => ev_T.adv (k' := 19) (ls' := [some (.ref 1000), some (.int x1), some (.int x2), some (.ref 1008), none]) (st' := [.int x2, .int 0, .ref 1003]) (σ' := (1057, 55, I1, A2)) 4 rfl (ev_T.calli (m' := 88) (as := [.ref 1003, .int 0, .int x2]) (r := []) (K' := fun z6 I4 A5 => ((z6 = 0 → ev_Bi d 90 0 [some (.ref 1003), some (.int x2)] I4 A5 (fun z10 I8 A9 => ((z10 = (-5) → ((x1 = 1 → ev_Bv d 115 0 [some (.ref 1008)] I8 A9 (fun I12 A13 => K I12 A13)) ∧ (¬ x1 = 1 → ((x1 = 2 → ev_Bv d 46 0 [some (.ref 1008), some (.int 7), none, none, none] I8 A9 (fun I15 A16 => K I15 A16)) ∧ (¬ x1 = 2 → ev_Bv d 18 0 [some (.ref 1012), some (.ref 1008), some (.ref 1003), none, none] I8 A9 (fun I18 A19 => K I18 A19)))))) ∧ (¬ z10 = (-5) → ev_Bv d 81 0 [some (.ref 1003), some (.int z10), some (.ref 1008)] I8 A9 (fun I23 A24 => K I23 A24))))) ∧ (¬ z6 = 0 → K I4 A5))) rfl rfl rfl (h3.2 c28) (fun z6 I4 A5 h7 => ev_T.if_eq rfl (fun c27 => ev_T.adv (k' := 31) (ls' := [some (.ref 1000), some (.int x1), some (.int x2), some (.ref 1008), none]) (st' := [.int x2, .ref 1003]) (σ' := (1057, 55, I4, A5)) 3 rfl (ev_T.calli (m' := 90) (as := [.ref 1003, .int x2]) (r := []) (K' := fun z10 I8 A9 => ((z10 = (-5) → ((x1 = 1 → ev_Bv d 115 0 [some (.ref 1008)] I8 A9 (fun I12 A13 => K I12 A13)) ∧ (¬ x1 = 1 → ((x1 = 2 → ev_Bv d 46 0 [some (.ref 1008), some (.int 7), none, none, none] I8 A9 (fun I15 A16 => K I15 A16)) ∧ (¬ x1 = 2 → ev_Bv d 18 0 [some (.ref 1012), some (.ref 1008), some (.ref 1003), none, none] I8 A9 (fun I18 A19 => K I18 A19)))))) ∧ (¬ z10 = (-5) → ev_Bv d 81 0 [some (.ref 1003), some (.int z10), some (.ref 1008)] I8 A9 (fun I23 A24 => K I23 A24)))) rfl rfl rfl (h7.1 c27) (fun z10 I8 A9 h11 => ev_T.adv (k' := 40) (ls' := [some (.ref 1000), some (.int x1), some (.int x2), some (.ref 1008), some (.int z10)]) (st' := [.int (-5), .int z10]) (σ' := (1057, 55, I8, A9)) 3 rfl (ev_T.icmp_eq rfl (fun c26 => ev_T.adv (k' := 58) (ls' := [some (.ref 1000), some (.int x1), some (.int x2), some (.ref 1008), some (.int z10)]) (st' := [.int 1, .int x1]) (σ' := (1057, 55, I8, A9)) 2 rfl (ev_T.icmp_ne rfl (fun c22 => ev_T.adv (k' := 62) (ls' := [some (.ref 1000), some (.int x1), some (.int x2), some (.ref 1008), some (.int z10)]) (st' := [.ref 1008]) (σ' := (1057, 55, I8, A9)) 1 rfl (ev_T.callv (m' := 115) (as := [.ref 1008]) (r := []) (K' := fun I12 A13 => K I12 A13) rfl rfl rfl ((h11.1 c26).1 c22) (fun I12 A13 h14 => ev_T.adv (k' := 94) (ls' := [some (.ref 1000), some (.int x1), some (.int x2), some (.ref 1008), some (.int z10)]) (st' := []) (σ' := (1057, 55, I12, A13)) 1 rfl (ev_T.retv rfl rfl h14)))) (fun c22 => ev_T.adv (k' := 70) (ls' := [some (.ref 1000), some (.int x1), some (.int x2), some (.ref 1008), some (.int z10)]) (st' := [.int 2, .int x1]) (σ' := (1057, 55, I8, A9)) 2 rfl (ev_T.icmp_ne rfl (fun c21 => ev_T.adv (k' := 76) (ls' := [some (.ref 1000), some (.int x1), some (.int x2), some (.ref 1008), some (.int z10)]) (st' := [.int 7, .ref 1008]) (σ' := (1057, 55, I8, A9)) 2 rfl (ev_T.callv (m' := 46) (as := [.ref 1008, .int 7]) (r := []) (K' := fun I15 A16 => K I15 A16) rfl rfl rfl (((h11.1 c26).2 c22).1 c21) (fun I15 A16 h17 => ev_T.adv (k' := 94) (ls' := [some (.ref 1000), some (.int x1), some (.int x2), some (.ref 1008), some (.int z10)]) (st' := []) (σ' := (1057, 55, I15, A16)) 1 rfl (ev_T.retv rfl rfl h17)))) (fun c21 => ev_T.adv (k' := 91) (ls' := [some (.ref 1000), some (.int x1), some (.int x2), some (.ref 1008), some (.int z10)]) (st' := [.ref 1003, .ref 1008, .ref 1012]) (σ' := (1057, 55, I8, A9)) 5 rfl (ev_T.callv (m' := 18) (as := [.ref 1012, .ref 1008, .ref 1003]) (r := []) (K' := fun I18 A19 => K I18 A19) rfl rfl rfl (((h11.1 c26).2 c22).2 c21) (fun I18 A19 h20 => ev_T.retv rfl rfl h20))))))) (fun c26 => ev_T.adv (k' := 50) (ls' := [some (.ref 1000), some (.int x1), some (.int x2), some (.ref 1008), some (.int z10)]) (st' := [.ref 1008, .int z10, .ref 1003]) (σ' := (1057, 55, I8, A9)) 4 rfl (ev_T.callv (m' := 81) (as := [.ref 1003, .int z10, .ref 1008]) (r := []) (K' := fun I23 A24 => K I23 A24) rfl rfl rfl (h11.2 c26) (fun I23 A24 h25 => ev_T.adv (k' := 94) (ls' := [some (.ref 1000), some (.int x1), some (.int x2), some (.ref 1008), some (.int z10)]) (st' := []) (σ' := (1057, 55, I23, A24)) 1 rfl (ev_T.retv rfl rfl h25)))))))) (fun c27 => ev_T.retv rfl rfl (h7.2 c27))))))))
    · exact ev_T.adv (k' := 6) (ls' := [some (.ref 1000), some (.int x1), some (.int x2), some (.ref 1010), none]) (st' := [.ref 1010, .int x2, .ref 1003]) (σ' := (1057, 55, I, A)) 4 rfl (ev_T.callv (m' := 81) (as := [.ref 1003, .int x2, .ref 1010]) (r := []) (K' := fun I1 A2 => ((x1 = 0 → K I1 A2) ∧ (¬ x1 = 0 → ev_Bi d 88 0 [some (.ref 1003), some (.int 0), some (.int x2)] I1 A2 (fun z6 I4 A5 => ((z6 = 0 → ev_Bi d 90 0 [some (.ref 1003), some (.int x2)] I4 A5 (fun z10 I8 A9 => ((z10 = (-5) → ((x1 = 1 → ev_Bv d 115 0 [some (.ref 1010)] I8 A9 (fun I12 A13 => K I12 A13)) ∧ (¬ x1 = 1 → ((x1 = 2 → ev_Bv d 46 0 [some (.ref 1010), some (.int 7), none, none, none] I8 A9 (fun I15 A16 => K I15 A16)) ∧ (¬ x1 = 2 → ev_Bv d 18 0 [some (.ref 1012), some (.ref 1010), some (.ref 1003), none, none] I8 A9 (fun I18 A19 => K I18 A19)))))) ∧ (¬ z10 = (-5) → ev_Bv d 81 0 [some (.ref 1003), some (.int z10), some (.ref 1010)] I8 A9 (fun I23 A24 => K I23 A24))))) ∧ (¬ z6 = 0 → K I4 A5)))))) rfl rfl rfl h (fun I1 A2 h3 => ev_T.adv (k' := 10) (ls' := [some (.ref 1000), some (.int x1), some (.int x2), some (.ref 1010), none]) (st' := [.int x1]) (σ' := (1057, 55, I1, A2)) 1 rfl (ev_T.if_eq rfl (fun c28 => ev_T.retv rfl rfl (h3.1 c28)) (fun c28 => ev_T.adv (k' := 19) (ls' := [some (.ref 1000), some (.int x1), some (.int x2), some (.ref 1010), none]) (st' := [.int x2, .int 0, .ref 1003]) (σ' := (1057, 55, I1, A2)) 4 rfl (ev_T.calli (m' := 88) (as := [.ref 1003, .int 0, .int x2]) (r := []) (K' := fun z6 I4 A5 => ((z6 = 0 → ev_Bi d 90 0 [some (.ref 1003), some (.int x2)] I4 A5 (fun z10 I8 A9 => ((z10 = (-5) → ((x1 = 1 → ev_Bv d 115 0 [some (.ref 1010)] I8 A9 (fun I12 A13 => K I12 A13)) ∧ (¬ x1 = 1 → ((x1 = 2 → ev_Bv d 46 0 [some (.ref 1010), some (.int 7), none, none, none] I8 A9 (fun I15 A16 => K I15 A16)) ∧ (¬ x1 = 2 → ev_Bv d 18 0 [some (.ref 1012), some (.ref 1010), some (.ref 1003), none, none] I8 A9 (fun I18 A19 => K I18 A19)))))) ∧ (¬ z10 = (-5) → ev_Bv d 81 0 [some (.ref 1003), some (.int z10), some (.ref 1010)] I8 A9 (fun I23 A24 => K I23 A24))))) ∧ (¬ z6 = 0 → K I4 A5))) rfl rfl rfl (h3.2 c28) (fun z6 I4 A5 h7 => ev_T.if_eq rfl (fun c27 => ev_T.adv (k' := 31) (ls' := [some (.ref 1000), some (.int x1), some (.int x2), some (.ref 1010), none]) (st' := [.int x2, .ref 1003]) (σ' := (1057, 55, I4, A5)) 3 rfl (ev_T.calli (m' := 90) (as := [.ref 1003, .int x2]) (r := []) (K' := fun z10 I8 A9 => ((z10 = (-5) → ((x1 = 1 → ev_Bv d 115 0 [some (.ref 1010)] I8 A9 (fun I12 A13 => K I12 A13)) ∧ (¬ x1 = 1 → ((x1 = 2 → ev_Bv d 46 0 [some (.ref 1010), some (.int 7), none, none, none] I8 A9 (fun I15 A16 => K I15 A16)) ∧ (¬ x1 = 2 → ev_Bv d 18 0 [some (.ref 1012), some (.ref 1010), some (.ref 1003), none, none] I8 A9 (fun I18 A19 => K I18 A19)))))) ∧ (¬ z10 = (-5) → ev_Bv d 81 0 [some (.ref 1003), some (.int z10), some (.ref 1010)] I8 A9 (fun I23 A24 => K I23 A24)))) rfl rfl rfl (h7.1 c27) (fun z10 I8 A9 h11 => ev_T.adv (k' := 40) (ls' := [some (.ref 1000), some (.int x1), some (.int x2), some (.ref 1010), some (.int z10)]) (st' := [.int (-5), .int z10]) (σ' := (1057, 55, I8, A9)) 3 rfl (ev_T.icmp_eq rfl (fun c26 => ev_T.adv (k' := 58) (ls' := [some (.ref 1000), some (.int x1), some (.int x2), some (.ref 1010), some (.int z10)]) (st' := [.int 1, .int x1]) (σ' := (1057, 55, I8, A9)) 2 rfl (ev_T.icmp_ne rfl (fun c22 => ev_T.adv (k' := 62) (ls' := [some (.ref 1000), some (.int x1), some (.int x2), some (.ref 1010), some (.int z10)]) (st' := [.ref 1010]) (σ' := (1057, 55, I8, A9)) 1 rfl (ev_T.callv (m' := 115) (as := [.ref 1010]) (r := []) (K' := fun I12 A13 => K I12 A13) rfl rfl rfl ((h11.1 c26).1 c22) (fun I12 A13 h14 => ev_T.adv (k' := 94) (ls' := [some (.ref 1000), some (.int x1), some (.int x2), some (.ref 1010), some (.int z10)]) (st' := []) (σ' := (1057, 55, I12, A13)) 1 rfl (ev_T.retv rfl rfl h14)))) (fun c22 => ev_T.adv (k' := 70) (ls' := [some (.ref 1000), some (.int x1), some (.int x2), some (.ref 1010), some (.int z10)]) (st' := [.int 2, .int x1]) (σ' := (1057, 55, I8, A9)) 2 rfl (ev_T.icmp_ne rfl (fun c21 => ev_T.adv (k' := 76) (ls' := [some (.ref 1000), some (.int x1), some (.int x2), some (.ref 1010), some (.int z10)]) (st' := [.int 7, .ref 1010]) (σ' := (1057, 55, I8, A9)) 2 rfl (ev_T.callv (m' := 46) (as := [.ref 1010, .int 7]) (r := []) (K' := fun I15 A16 => K I15 A16) rfl rfl rfl (((h11.1 c26).2 c22).1 c21) (fun I15 A16 h17 => ev_T.adv (k' := 94) (ls' := [some (.ref 1000), some (.int x1), some (.int x2), some (.ref 1010), some (.int z10)]) (st' := []) (σ' := (1057, 55, I15, A16)) 1 rfl (ev_T.retv rfl rfl h17)))) (fun c21 => ev_T.adv (k' := 91) (ls' := [some (.ref 1000), some (.int x1), some (.int x2), some (.ref 1010), some (.int z10)]) (st' := [.ref 1003, .ref 1010, .ref 1012]) (σ' := (1057, 55, I8, A9)) 5 rfl (ev_T.callv (m' := 18) (as := [.ref 1012, .ref 1010, .ref 1003]) (r := []) (K' := fun I18 A19 => K I18 A19) rfl rfl rfl (((h11.1 c26).2 c22).2 c21) (fun I18 A19 h20 => ev_T.retv rfl rfl h20))))))) (fun c26 => ev_T.adv (k' := 50) (ls' := [some (.ref 1000), some (.int x1), some (.int x2), some (.ref 1010), some (.int z10)]) (st' := [.ref 1010, .int z10, .ref 1003]) (σ' := (1057, 55, I8, A9)) 4 rfl (ev_T.callv (m' := 81) (as := [.ref 1003, .int z10, .ref 1010]) (r := []) (K' := fun I23 A24 => K I23 A24) rfl rfl rfl (h11.2 c26) (fun I23 A24 h25 => ev_T.adv (k' := 94) (ls' := [some (.ref 1000), some (.int x1), some (.int x2), some (.ref 1010), some (.int z10)]) (st' := []) (σ' := (1057, 55, I23, A24)) 1 rfl (ev_T.retv rfl rfl h25)))))))) (fun c27 => ev_T.retv rfl rfl (h7.2 c27))))))))
    · exact ev_T.adv (k' := 6) (ls' := [some (.ref 1000), some (.int x1), some (.int x2), some (.ref 1028), none]) (st' := [.ref 1028, .int x2, .ref 1003]) (σ' := (1057, 55, I, A)) 4 rfl (ev_T.callv (m' := 81) (as := [.ref 1003, .int x2, .ref 1028]) (r := []) (K' := fun I1 A2 => ((x1 = 0 → K I1 A2) ∧ (¬ x1 = 0 → ev_Bi d 88 0 [some (.ref 1003), some (.int 0), some (.int x2)] I1 A2 (fun z6 I4 A5 => ((z6 = 0 → ev_Bi d 90 0 [some (.ref 1003), some (.int x2)] I4 A5 (fun z10 I8 A9 => ((z10 = (-5) → ((x1 = 1 → ev_Bv d 115 0 [some (.ref 1028)] I8 A9 (fun I12 A13 => K I12 A13)) ∧ (¬ x1 = 1 → ((x1 = 2 → ev_Bv d 46 0 [some (.ref 1028), some (.int 7), none, none, none] I8 A9 (fun I15 A16 => K I15 A16)) ∧ (¬ x1 = 2 → ev_Bv d 18 0 [some (.ref 1012), some (.ref 1028), some (.ref 1003), none, none] I8 A9 (fun I18 A19 => K I18 A19)))))) ∧ (¬ z10 = (-5) → ev_Bv d 81 0 [some (.ref 1003), some (.int z10), some (.ref 1028)] I8 A9 (fun I23 A24 => K I23 A24))))) ∧ (¬ z6 = 0 → K I4 A5)))))) rfl rfl rfl h (fun I1 A2 h3 => ev_T.adv (k' := 10) (ls' := [some (.ref 1000), some (.int x1), some (.int x2), some (.ref 1028), none]) (st' := [.int x1]) (σ' := (1057, 55, I1, A2)) 1 rfl (ev_T.if_eq rfl (fun c28 => ev_T.retv rfl rfl (h3.1 c28)) (fun c28 => ev_T.adv (k' := 19) (ls' := [some (.ref 1000), some (.int x1), some (.int x2), some (.ref 1028), none]) (st' := [.int x2, .int 0, .ref 1003]) (σ' := (1057, 55, I1, A2)) 4 rfl (ev_T.calli (m' := 88) (as := [.ref 1003, .int 0, .int x2]) (r := []) (K' := fun z6 I4 A5 => ((z6 = 0 → ev_Bi d 90 0 [some (.ref 1003), some (.int x2)] I4 A5 (fun z10 I8 A9 => ((z10 = (-5) → ((x1 = 1 → ev_Bv d 115 0 [some (.ref 1028)] I8 A9 (fun I12 A13 => K I12 A13)) ∧ (¬ x1 = 1 → ((x1 = 2 → ev_Bv d 46 0 [some (.ref 1028), some (.int 7), none, none, none] I8 A9 (fun I15 A16 => K I15 A16)) ∧ (¬ x1 = 2 → ev_Bv d 18 0 [some (.ref 1012), some (.ref 1028), some (.ref 1003), none, none] I8 A9 (fun I18 A19 => K I18 A19)))))) ∧ (¬ z10 = (-5) → ev_Bv d 81 0 [some (.ref 1003), some (.int z10), some (.ref 1028)] I8 A9 (fun I23 A24 => K I23 A24))))) ∧ (¬ z6 = 0 → K I4 A5))) rfl rfl rfl (h3.2 c28) (fun z6 I4 A5 h7 => ev_T.if_eq rfl (fun c27 => ev_T.adv (k' := 31) (ls' := [some (.ref 1000), some (.int x1), some (.int x2), some (.ref 1028), none]) (st' := [.int x2, .ref 1003]) (σ' := (1057, 55, I4, A5)) 3 rfl (ev_T.calli (m' := 90) (as := [.ref 1003, .int x2]) (r := []) (K' := fun z10 I8 A9 => ((z10 = (-5) → ((x1 = 1 → ev_Bv d 115 0 [some (.ref 1028)] I8 A9 (fun I12 A13 => K I12 A13)) ∧ (¬ x1 = 1 → ((x1 = 2 → ev_Bv d 46 0 [some (.ref 1028), some (.int 7), none, none, none] I8 A9 (fun I15 A16 => K I15 A16)) ∧ (¬ x1 = 2 → ev_Bv d 18 0 [some (.ref 1012), some (.ref 1028), some (.ref 1003), none, none] I8 A9 (fun I18 A19 => K I18 A19)))))) ∧ (¬ z10 = (-5) → ev_Bv d 81 0 [some (.ref 1003), some (.int z10), some (.ref 1028)] I8 A9 (fun I23 A24 => K I23 A24)))) rfl rfl rfl (h7.1 c27) (fun z10 I8 A9 h11 => ev_T.adv (k' := 40) (ls' := [some (.ref 1000), some (.int x1), some (.int x2), some (.ref 1028), some (.int z10)]) (st' := [.int (-5), .int z10]) (σ' := (1057, 55, I8, A9)) 3 rfl (ev_T.icmp_eq rfl (fun c26 => ev_T.adv (k' := 58) (ls' := [some (.ref 1000), some (.int x1), some (.int x2), some (.ref 1028), some (.int z10)]) (st' := [.int 1, .int x1]) (σ' := (1057, 55, I8, A9)) 2 rfl (ev_T.icmp_ne rfl (fun c22 => ev_T.adv (k' := 62) (ls' := [some (.ref 1000), some (.int x1), some (.int x2), some (.ref 1028), some (.int z10)]) (st' := [.ref 1028]) (σ' := (1057, 55, I8, A9)) 1 rfl (ev_T.callv (m' := 115) (as := [.ref 1028]) (r := []) (K' := fun I12 A13 => K I12 A13) rfl rfl rfl ((h11.1 c26).1 c22) (fun I12 A13 h14 => ev_T.adv (k' := 94) (ls' := [some (.ref 1000), some (.int x1), some (.int x2), some (.ref 1028), some (.int z10)]) (st' := []) (σ' := (1057, 55, I12, A13)) 1 rfl (ev_T.retv rfl rfl h14)))) (fun c22 => ev_T.adv (k' := 70) (ls' := [some (.ref 1000), some (.int x1), some (.int x2), some (.ref 1028), some (.int z10)]) (st' := [.int 2, .int x1]) (σ' := (1057, 55, I8, A9)) 2 rfl (ev_T.icmp_ne rfl (fun c21 => ev_T.adv (k' := 76) (ls' := [some (.ref 1000), some (.int x1), some (.int x2), some (.ref 1028), some (.int z10)]) (st' := [.int 7, .ref 1028]) (σ' := (1057, 55, I8, A9)) 2 rfl (ev_T.callv (m' := 46) (as := [.ref 1028, .int 7]) (r := []) (K' := fun I15 A16 => K I15 A16) rfl rfl rfl (((h11.1 c26).2 c22).1 c21) (fun I15 A16 h17 => ev_T.adv (k' := 94) (ls' := [some (.ref 1000), some (.int x1), some (.int x2), some (.ref 1028), some (.int z10)]) (st' := []) (σ' := (1057, 55, I15, A16)) 1 rfl (ev_T.retv rfl rfl h17)))) (fun c21 => ev_T.adv (k' := 91) (ls' := [some (.ref 1000), some (.int x1), some (.int x2), some (.ref 1028), some (.int z10)]) (st' := [.ref 1003, .ref 1028, .ref 1012]) (σ' := (1057, 55, I8, A9)) 5 rfl (ev_T.callv (m' := 18) (as := [.ref 1012, .ref 1028, .ref 1003]) (r := []) (K' := fun I18 A19 => K I18 A19) rfl rfl rfl (((h11.1 c26).2 c22).2 c21) (fun I18 A19 h20 => ev_T.retv rfl rfl h20))))))) (fun c26 => ev_T.adv (k' := 50) (ls' := [some (.ref 1000), some (.int x1), some (.int x2), some (.ref 1028), some (.int z10)]) (st' := [.ref 1028, .int z10, .ref 1003]) (σ' := (1057, 55, I8, A9)) 4 rfl (ev_T.callv (m' := 81) (as := [.ref 1003, .int z10, .ref 1028]) (r := []) (K' := fun I23 A24 => K I23 A24) rfl rfl rfl (h11.2 c26) (fun I23 A24 h25 => ev_T.adv (k' := 94) (ls' := [some (.ref 1000), some (.int x1), some (.int x2), some (.ref 1028), some (.int z10)]) (st' := []) (σ' := (1057, 55, I23, A24)) 1 rfl (ev_T.retv rfl rfl h25)))))))) (fun c27 => ev_T.retv rfl rfl (h7.2 c27))))))))

/-! StemRules.dropPlural(LStemRules$Letters;)V -/
set_option maxRecDepth 100000 in
theorem t_S_dropPlural_0 {d : Nat} {I A : Nat → Nat → Int32} {K : (Nat → Nat → Int32) → (Nat → Nat → Int32) → Prop} {L : Nat} (hLL : ev_isL L)   
    (h : ev_Bi d 30 0 [some (.ref L)] I A (fun z3 I1 A2 => ((z3 = 1 → K I1 A2) ∧ (¬ z3 = 1 → ev_Bi d 36 0 [some (.ref L), some (.ref 0)] I1 A2 (fun z7 I5 A6 => ((z7 = 0 → ev_Bv (d + 1) 115 48 [some (.ref L)] I5 A6 K) ∧ (¬ z7 = 0 → ev_Bi d 36 0 [some (.ref L), some (.ref 1)] I5 A6 (fun z11 I9 A10 => ((z11 = 0 → ev_Bi d 36 0 [some (.ref L), some (.ref 2)] I9 A10 (fun z15 I13 A14 => ((z15 = 0 → ev_Bi d 38 0 [some (.ref L), some (.ref 0), some (.ref 3), none] I13 A14 (fun z19 I17 A18 => K I17 A18)) ∧ (¬ z15 = 0 → ev_Bv (d + 1) 115 48 [some (.ref L)] I13 A14 K)))) ∧ (¬ z11 = 0 → ev_Bv (d + 1) 115 48 [some (.ref L)] I9 A10 K)))))))))) :
    ev_Bv (d + 1) 115 0 [some (.ref L)] I A K :=
  by
    rcases hLL with rfl | rfl | rfl
    · exact ev_T.adv (k' := 1) (ls' := [some (.ref 1008)]) (st' := [.ref 1008]) (σ' := (1057, 55, I, A)) 1 rfl (ev_T.calli (m' := 30) (as := [.ref 1008]) (r := []) (K' := fun z3 I1 A2 => ((z3 = 1 → K I1 A2) ∧ (¬ z3 = 1 → ev_Bi d 36 0 [some (.ref 1008), some (.ref 0)] I1 A2 (fun z7 I5 A6 => ((z7 = 0 → ev_Bv (d + 1) 115 48 [some (.ref 1008)] I5 A6 K) ∧ (¬ z7 = 0 → ev_Bi d 36 0 [some (.ref 1008), some (.ref 1)] I5 A6 (fun z11 I9 A10 => ((z11 = 0 → ev_Bi d 36 0 [some (.ref 1008), some (.ref 2)] I9 A10 (fun z15 I13 A14 => ((z15 = 0 → ev_Bi d 38 0 [some (.ref 1008), some (.ref 0), some (.ref 3), none] I13 A14 (fun z19 I17 A18 => K I17 A18)) ∧ (¬ z15 = 0 → ev_Bv (d + 1) 115 48 [some (.ref 1008)] I13 A14 K)))) ∧ (¬ z11 = 0 → ev_Bv (d + 1) 115 48 [some (.ref 1008)] I9 A10 K))))))))) rfl rfl rfl h (fun z3 I1 A2 h4 => ev_T.adv (k' := 5) (ls' := [some (.ref 1008)]) (st' := [.int 1, .int z3]) (σ' := (1057, 55, I1, A2)) 1 rfl (ev_T.icmp_ne rfl (fun c24 => ev_T.retv rfl rfl (h4.1 c24)) (fun c24 => ev_T.adv (k' := 12) (ls' := [some (.ref 1008)]) (st' := [.ref 0, .ref 1008]) (σ' := (1057, 55, I1, A2)) 2 rfl (ev_T.calli (m' := 36) (as := [.ref 1008, .ref 0]) (r := []) (K' := fun z7 I5 A6 => ((z7 = 0 → ev_Bv (d + 1) 115 48 [some (.ref 1008)] I5 A6 K) ∧ (¬ z7 = 0 → ev_Bi d 36 0 [some (.ref 1008), some (.ref 1)] I5 A6 (fun z11 I9 A10 => ((z11 = 0 → ev_Bi d 36 0 [some (.ref 1008), some (.ref 2)] I9 A10 (fun z15 I13 A14 => ((z15 = 0 → ev_Bi d 38 0 [some (.ref 1008), some (.ref 0), some (.ref 3), none] I13 A14 (fun z19 I17 A18 => K I17 A18)) ∧ (¬ z15 = 0 → ev_Bv (d + 1) 115 48 [some (.ref 1008)] I13 A14 K)))) ∧ (¬ z11 = 0 → ev_Bv (d + 1) 115 48 [some (.ref 1008)] I9 A10 K)))))) rfl rfl rfl (h4.2 c24) (fun z7 I5 A6 h8 => ev_T.if_eq rfl (fun c23 => (h8.1 c23)) (fun c23 => ev_T.adv (k' := 21) (ls' := [some (.ref 1008)]) (st' := [.ref 1, .ref 1008]) (σ' := (1057, 55, I5, A6)) 2 rfl (ev_T.calli (m' := 36) (as := [.ref 1008, .ref 1]) (r := []) (K' := fun z11 I9 A10 => ((z11 = 0 → ev_Bi d 36 0 [some (.ref 1008), some (.ref 2)] I9 A10 (fun z15 I13 A14 => ((z15 = 0 → ev_Bi d 38 0 [some (.ref 1008), some (.ref 0), some (.ref 3), none] I13 A14 (fun z19 I17 A18 => K I17 A18)) ∧ (¬ z15 = 0 → ev_Bv (d + 1) 115 48 [some (.ref 1008)] I13 A14 K)))) ∧ (¬ z11 = 0 → ev_Bv (d + 1) 115 48 [some (.ref 1008)] I9 A10 K))) rfl rfl rfl (h8.2 c23) (fun z11 I9 A10 h12 => ev_T.if_ne rfl (fun c22 => ev_T.adv (k' := 30) (ls' := [some (.ref 1008)]) (st' := [.ref 2, .ref 1008]) (σ' := (1057, 55, I9, A10)) 2 rfl (ev_T.calli (m' := 36) (as := [.ref 1008, .ref 2]) (r := []) (K' := fun z15 I13 A14 => ((z15 = 0 → ev_Bi d 38 0 [some (.ref 1008), some (.ref 0), some (.ref 3), none] I13 A14 (fun z19 I17 A18 => K I17 A18)) ∧ (¬ z15 = 0 → ev_Bv (d + 1) 115 48 [some (.ref 1008)] I13 A14 K))) rfl rfl rfl (h12.1 c22) (fun z15 I13 A14 h16 => ev_T.if_ne rfl (fun c21 => ev_T.adv (k' := 41) (ls' := [some (.ref 1008)]) (st' := [.ref 3, .ref 0, .ref 1008]) (σ' := (1057, 55, I13, A14)) 3 rfl (ev_T.calli (m' := 38) (as := [.ref 1008, .ref 0, .ref 3]) (r := []) (K' := fun z19 I17 A18 => K I17 A18) rfl rfl rfl (h16.1 c21) (fun z19 I17 A18 h20 => ev_T.adv (k' := 132) (ls' := [some (.ref 1008)]) (st' := []) (σ' := (1057, 55, I17, A18)) 2 rfl (ev_T.retv rfl rfl h20)))) (fun c21 => (h16.2 c21))))) (fun c22 => (h12.2 c22)))))))))))
    · exact ev_T.adv (k' := 1) (ls' := [some (.ref 1010)]) (st' := [.ref 1010]) (σ' := (1057, 55, I, A)) 1 rfl (ev_T.calli (m' := 30) (as := [.ref 1010]) (r := []) (K' := fun z3 I1 A2 => ((z3 = 1 → K I1 A2) ∧ (¬ z3 = 1 → ev_Bi d 36 0 [some (.ref 1010), some (.ref 0)] I1 A2 (fun z7 I5 A6 => ((z7 = 0 → ev_Bv (d + 1) 115 48 [some (.ref 1010)] I5 A6 K) ∧ (¬ z7 = 0 → ev_Bi d 36 0 [some (.ref 1010), some (.ref 1)] I5 A6 (fun z11 I9 A10 => ((z11 = 0 → ev_Bi d 36 0 [some (.ref 1010), some (.ref 2)] I9 A10 (fun z15 I13 A14 => ((z15 = 0 → ev_Bi d 38 0 [some (.ref 1010), some (.ref 0), some (.ref 3), none] I13 A14 (fun z19 I17 A18 => K I17 A18)) ∧ (¬ z15 = 0 → ev_Bv (d + 1) 115 48 [some (.ref 1010)] I13 A14 K)))) ∧ (¬ z11 = 0 → ev_Bv (d + 1) 115 48 [some (.ref 1010)] I9 A10 K))))))))) rfl rfl rfl h (fun z3 I1 A2 h4 => ev_T.adv (k' := 5) (ls' := [some (.ref 1010)]) (st' := [.int 1, .int z3]) (σ' := (1057, 55, I1, A2)) 1 rfl (ev_T.icmp_ne rfl (fun c24 => ev_T.retv rfl rfl (h4.1 c24)) (fun c24 => ev_T.adv (k' := 12) (ls' := [some (.ref 1010)]) (st' := [.ref 0, .ref 1010]) (σ' := (1057, 55, I1, A2)) 2 rfl (ev_T.calli (m' := 36) (as := [.ref 1010, .ref 0]) (r := []) (K' := fun z7 I5 A6 => ((z7 = 0 → ev_Bv (d + 1) 115 48 [some (.ref 1010)] I5 A6 K) ∧ (¬ z7 = 0 → ev_Bi d 36 0 [some (.ref 1010), some (.ref 1)] I5 A6 (fun z11 I9 A10 => ((z11 = 0 → ev_Bi d 36 0 [some (.ref 1010), some (.ref 2)] I9 A10 (fun z15 I13 A14 => ((z15 = 0 → ev_Bi d 38 0 [some (.ref 1010), some (.ref 0), some (.ref 3), none] I13 A14 (fun z19 I17 A18 => K I17 A18)) ∧ (¬ z15 = 0 → ev_Bv (d + 1) 115 48 [some (.ref 1010)] I13 A14 K)))) ∧ (¬ z11 = 0 → ev_Bv (d + 1) 115 48 [some (.ref 1010)] I9 A10 K)))))) rfl rfl rfl (h4.2 c24) (fun z7 I5 A6 h8 => ev_T.if_eq rfl (fun c23 => (h8.1 c23)) (fun c23 => ev_T.adv (k' := 21) (ls' := [some (.ref 1010)]) (st' := [.ref 1, .ref 1010]) (σ' := (1057, 55, I5, A6)) 2 rfl (ev_T.calli (m' := 36) (as := [.ref 1010, .ref 1]) (r := []) (K' := fun z11 I9 A10 => ((z11 = 0 → ev_Bi d 36 0 [some (.ref 1010), some (.ref 2)] I9 A10 (fun z15 I13 A14 => ((z15 = 0 → ev_Bi d 38 0 [some (.ref 1010), some (.ref 0), some (.ref 3), none] I13 A14 (fun z19 I17 A18 => K I17 A18)) ∧ (¬ z15 = 0 → ev_Bv (d + 1) 115 48 [some (.ref 1010)] I13 A14 K)))) ∧ (¬ z11 = 0 → ev_Bv (d + 1) 115 48 [some (.ref 1010)] I9 A10 K))) rfl rfl rfl (h8.2 c23) (fun z11 I9 A10 h12 => ev_T.if_ne rfl (fun c22 => ev_T.adv (k' := 30) (ls' := [some (.ref 1010)]) (st' := [.ref 2, .ref 1010]) (σ' := (1057, 55, I9, A10)) 2 rfl (ev_T.calli (m' := 36) (as := [.ref 1010, .ref 2]) (r := []) (K' := fun z15 I13 A14 => ((z15 = 0 → ev_Bi d 38 0 [some (.ref 1010), some (.ref 0), some (.ref 3), none] I13 A14 (fun z19 I17 A18 => K I17 A18)) ∧ (¬ z15 = 0 → ev_Bv (d + 1) 115 48 [some (.ref 1010)] I13 A14 K))) rfl rfl rfl (h12.1 c22) (fun z15 I13 A14 h16 => ev_T.if_ne rfl (fun c21 => ev_T.adv (k' := 41) (ls' := [some (.ref 1010)]) (st' := [.ref 3, .ref 0, .ref 1010]) (σ' := (1057, 55, I13, A14)) 3 rfl (ev_T.calli (m' := 38) (as := [.ref 1010, .ref 0, .ref 3]) (r := []) (K' := fun z19 I17 A18 => K I17 A18) rfl rfl rfl (h16.1 c21) (fun z19 I17 A18 h20 => ev_T.adv (k' := 132) (ls' := [some (.ref 1010)]) (st' := []) (σ' := (1057, 55, I17, A18)) 2 rfl (ev_T.retv rfl rfl h20)))) (fun c21 => (h16.2 c21))))) (fun c22 => (h12.2 c22)))))))))))
    · exact ev_T.adv (k' := 1) (ls' := [some (.ref 1028)]) (st' := [.ref 1028]) (σ' := (1057, 55, I, A)) 1 rfl (ev_T.calli (m' := 30) (as := [.ref 1028]) (r := []) (K' := fun z3 I1 A2 => ((z3 = 1 → K I1 A2) ∧ (¬ z3 = 1 → ev_Bi d 36 0 [some (.ref 1028), some (.ref 0)] I1 A2 (fun z7 I5 A6 => ((z7 = 0 → ev_Bv (d + 1) 115 48 [some (.ref 1028)] I5 A6 K) ∧ (¬ z7 = 0 → ev_Bi d 36 0 [some (.ref 1028), some (.ref 1)] I5 A6 (fun z11 I9 A10 => ((z11 = 0 → ev_Bi d 36 0 [some (.ref 1028), some (.ref 2)] I9 A10 (fun z15 I13 A14 => ((z15 = 0 → ev_Bi d 38 0 [some (.ref 1028), some (.ref 0), some (.ref 3), none] I13 A14 (fun z19 I17 A18 => K I17 A18)) ∧ (¬ z15 = 0 → ev_Bv (d + 1) 115 48 [some (.ref 1028)] I13 A14 K)))) ∧ (¬ z11 = 0 → ev_Bv (d + 1) 115 48 [some (.ref 1028)] I9 A10 K))))))))) rfl rfl rfl h (fun z3 I1 A2 h4 => ev_T.adv (k' := 5) (ls' := [some (.ref 1028)]) (st' := [.int 1, .int z3]) (σ' := (1057, 55, I1, A2)) 1 rfl (ev_T.icmp_ne rfl (fun c24 => ev_T.retv rfl rfl (h4.1 c24)) (fun c24 => ev_T.adv (k' := 12) (ls' := [some (.ref 1028)]) (st' := [.ref 0, .ref 1028]) (σ' := (1057, 55, I1, A2)) 2 rfl (ev_T.calli (m' := 36) (as := [.ref 1028, .ref 0]) (r := []) (K' := fun z7 I5 A6 => ((z7 = 0 → ev_Bv (d + 1) 115 48 [some (.ref 1028)] I5 A6 K) ∧ (¬ z7 = 0 → ev_Bi d 36 0 [some (.ref 1028), some (.ref 1)] I5 A6 (fun z11 I9 A10 => ((z11 = 0 → ev_Bi d 36 0 [some (.ref 1028), some (.ref 2)] I9 A10 (fun z15 I13 A14 => ((z15 = 0 → ev_Bi d 38 0 [some (.ref 1028), some (.ref 0), some (.ref 3), none] I13 A14 (fun z19 I17 A18 => K I17 A18)) ∧ (¬ z15 = 0 → ev_Bv (d + 1) 115 48 [some (.ref 1028)] I13 A14 K)))) ∧ (¬ z11 = 0 → ev_Bv (d + 1) 115 48 [some (.ref 1028)] I9 A10 K)))))) rfl rfl rfl (h4.2 c24) (fun z7 I5 A6 h8 => ev_T.if_eq rfl (fun c23 => (h8.1 c23)) (fun c23 => ev_T.adv (k' := 21) (ls' := [some (.ref 1028)]) (st' := [.ref 1, .ref 1028]) (σ' := (1057, 55, I5, A6)) 2 rfl (ev_T.calli (m' := 36) (as := [.ref 1028, .ref 1]) (r := []) (K' := fun z11 I9 A10 => ((z11 = 0 → ev_Bi d 36 0 [some (.ref 1028), some (.ref 2)] I9 A10 (fun z15 I13 A14 => ((z15 = 0 → ev_Bi d 38 0 [some (.ref 1028), some (.ref 0), some (.ref 3), none] I13 A14 (fun z19 I17 A18 => K I17 A18)) ∧ (¬ z15 = 0 → ev_Bv (d + 1) 115 48 [some (.ref 1028)] I13 A14 K)))) ∧ (¬ z11 = 0 → ev_Bv (d + 1) 115 48 [some (.ref 1028)] I9 A10 K))) rfl rfl rfl (h8.2 c23) (fun z11 I9 A10 h12 => ev_T.if_ne rfl (fun c22 => ev_T.adv (k' := 30) (ls' := [some (.ref 1028)]) (st' := [.ref 2, .ref 1028]) (σ' := (1057, 55, I9, A10)) 2 rfl (ev_T.calli (m' := 36) (as := [.ref 1028, .ref 2]) (r := []) (K' := fun z15 I13 A14 => ((z15 = 0 → ev_Bi d 38 0 [some (.ref 1028), some (.ref 0), some (.ref 3), none] I13 A14 (fun z19 I17 A18 => K I17 A18)) ∧ (¬ z15 = 0 → ev_Bv (d + 1) 115 48 [some (.ref 1028)] I13 A14 K))) rfl rfl rfl (h12.1 c22) (fun z15 I13 A14 h16 => ev_T.if_ne rfl (fun c21 => ev_T.adv (k' := 41) (ls' := [some (.ref 1028)]) (st' := [.ref 3, .ref 0, .ref 1028]) (σ' := (1057, 55, I13, A14)) 3 rfl (ev_T.calli (m' := 38) (as := [.ref 1028, .ref 0, .ref 3]) (r := []) (K' := fun z19 I17 A18 => K I17 A18) rfl rfl rfl (h16.1 c21) (fun z19 I17 A18 h20 => ev_T.adv (k' := 132) (ls' := [some (.ref 1028)]) (st' := []) (σ' := (1057, 55, I17, A18)) 2 rfl (ev_T.retv rfl rfl h20)))) (fun c21 => (h16.2 c21))))) (fun c22 => (h12.2 c22)))))))))))
set_option maxRecDepth 100000 in
theorem t_S_dropPlural_48 {d : Nat} {I A : Nat → Nat → Int32} {K : (Nat → Nat → Int32) → (Nat → Nat → Int32) → Prop} {L : Nat} (hLL : ev_isL L)   
    (h : ev_Bi d 36 0 [some (.ref L), some (.ref 4)] I A (fun z3 I1 A2 => ((z3 = 0 → ev_Bv (d + 1) 115 96 [some (.ref L)] I1 A2 K) ∧ (¬ z3 = 0 → ev_Bi d 36 0 [some (.ref L), some (.ref 5)] I1 A2 (fun z7 I5 A6 => ((z7 = 0 → ev_Bi d 36 0 [some (.ref L), some (.ref 6)] I5 A6 (fun z11 I9 A10 => ((z11 = 0 → ev_Bi d 36 0 [some (.ref L), some (.ref 7)] I9 A10 (fun z15 I13 A14 => ((z15 = 0 → ev_Bi d 38 0 [some (.ref L), some (.ref 4), some (.ref 8), none] I13 A14 (fun z19 I17 A18 => K I17 A18)) ∧ (¬ z15 = 0 → ev_Bv (d + 1) 115 96 [some (.ref L)] I13 A14 K)))) ∧ (¬ z11 = 0 → ev_Bv (d + 1) 115 96 [some (.ref L)] I9 A10 K)))) ∧ (¬ z7 = 0 → ev_Bv (d + 1) 115 96 [some (.ref L)] I5 A6 K))))))) :
    ev_Bv (d + 1) 115 48 [some (.ref L)] I A K :=
  by
    rcases hLL with rfl | rfl | rfl
    · exact ev_T.adv (k' := 51) (ls' := [some (.ref 1008)]) (st' := [.ref 4, .ref 1008]) (σ' := (1057, 55, I, A)) 2 rfl (ev_T.calli (m' := 36) (as := [.ref 1008, .ref 4]) (r := []) (K' := fun z3 I1 A2 => ((z3 = 0 → ev_Bv (d + 1) 115 96 [some (.ref 1008)] I1 A2 K) ∧ (¬ z3 = 0 → ev_Bi d 36 0 [some (.ref 1008), some (.ref 5)] I1 A2 (fun z7 I5 A6 => ((z7 = 0 → ev_Bi d 36 0 [some (.ref 1008), some (.ref 6)] I5 A6 (fun z11 I9 A10 => ((z11 = 0 → ev_Bi d 36 0 [some (.ref 1008), some (.ref 7)] I9 A10 (fun z15 I13 A14 => ((z15 = 0 → ev_Bi d 38 0 [some (.ref 1008), some (.ref 4), some (.ref 8), none] I13 A14 (fun z19 I17 A18 => K I17 A18)) ∧ (¬ z15 = 0 → ev_Bv (d + 1) 115 96 [some (.ref 1008)] I13 A14 K)))) ∧ (¬ z11 = 0 → ev_Bv (d + 1) 115 96 [some (.ref 1008)] I9 A10 K)))) ∧ (¬ z7 = 0 → ev_Bv (d + 1) 115 96 [some (.ref 1008)] I5 A6 K)))))) rfl rfl rfl h (fun z3 I1 A2 h4 => ev_T.if_eq rfl (fun c24 => (h4.1 c24)) (fun c24 => ev_T.adv (k' := 60) (ls' := [some (.ref 1008)]) (st' := [.ref 5, .ref 1008]) (σ' := (1057, 55, I1, A2)) 2 rfl (ev_T.calli (m' := 36) (as := [.ref 1008, .ref 5]) (r := []) (K' := fun z7 I5 A6 => ((z7 = 0 → ev_Bi d 36 0 [some (.ref 1008), some (.ref 6)] I5 A6 (fun z11 I9 A10 => ((z11 = 0 → ev_Bi d 36 0 [some (.ref 1008), some (.ref 7)] I9 A10 (fun z15 I13 A14 => ((z15 = 0 → ev_Bi d 38 0 [some (.ref 1008), some (.ref 4), some (.ref 8), none] I13 A14 (fun z19 I17 A18 => K I17 A18)) ∧ (¬ z15 = 0 → ev_Bv (d + 1) 115 96 [some (.ref 1008)] I13 A14 K)))) ∧ (¬ z11 = 0 → ev_Bv (d + 1) 115 96 [some (.ref 1008)] I9 A10 K)))) ∧ (¬ z7 = 0 → ev_Bv (d + 1) 115 96 [some (.ref 1008)] I5 A6 K))) rfl rfl rfl (h4.2 c24) (fun z7 I5 A6 h8 => ev_T.if_ne rfl (fun c23 => ev_T.adv (k' := 69) (ls' := [some (.ref 1008)]) (st' := [.ref 6, .ref 1008]) (σ' := (1057, 55, I5, A6)) 2 rfl (ev_T.calli (m' := 36) (as := [.ref 1008, .ref 6]) (r := []) (K' := fun z11 I9 A10 => ((z11 = 0 → ev_Bi d 36 0 [some (.ref 1008), some (.ref 7)] I9 A10 (fun z15 I13 A14 => ((z15 = 0 → ev_Bi d 38 0 [some (.ref 1008), some (.ref 4), some (.ref 8), none] I13 A14 (fun z19 I17 A18 => K I17 A18)) ∧ (¬ z15 = 0 → ev_Bv (d + 1) 115 96 [some (.ref 1008)] I13 A14 K)))) ∧ (¬ z11 = 0 → ev_Bv (d + 1) 115 96 [some (.ref 1008)] I9 A10 K))) rfl rfl rfl (h8.1 c23) (fun z11 I9 A10 h12 => ev_T.if_ne rfl (fun c22 => ev_T.adv (k' := 78) (ls' := [some (.ref 1008)]) (st' := [.ref 7, .ref 1008]) (σ' := (1057, 55, I9, A10)) 2 rfl (ev_T.calli (m' := 36) (as := [.ref 1008, .ref 7]) (r := []) (K' := fun z15 I13 A14 => ((z15 = 0 → ev_Bi d 38 0 [some (.ref 1008), some (.ref 4), some (.ref 8), none] I13 A14 (fun z19 I17 A18 => K I17 A18)) ∧ (¬ z15 = 0 → ev_Bv (d + 1) 115 96 [some (.ref 1008)] I13 A14 K))) rfl rfl rfl (h12.1 c22) (fun z15 I13 A14 h16 => ev_T.if_ne rfl (fun c21 => ev_T.adv (k' := 89) (ls' := [some (.ref 1008)]) (st' := [.ref 8, .ref 4, .ref 1008]) (σ' := (1057, 55, I13, A14)) 3 rfl (ev_T.calli (m' := 38) (as := [.ref 1008, .ref 4, .ref 8]) (r := []) (K' := fun z19 I17 A18 => K I17 A18) rfl rfl rfl (h16.1 c21) (fun z19 I17 A18 h20 => ev_T.adv (k' := 132) (ls' := [some (.ref 1008)]) (st' := []) (σ' := (1057, 55, I17, A18)) 2 rfl (ev_T.retv rfl rfl h20)))) (fun c21 => (h16.2 c21))))) (fun c22 => (h12.2 c22))))) (fun c23 => (h8.2 c23)))))))
    · exact ev_T.adv (k' := 51) (ls' := [some (.ref 1010)]) (st' := [.ref 4, .ref 1010]) (σ' := (1057, 55, I, A)) 2 rfl (ev_T.calli (m' := 36) (as := [.ref 1010, .ref 4]) (r := []) (K' := fun z3 I1 A2 => ((z3 = 0 → ev_Bv (d + 1) 115 96 [some (.ref 1010)] I1 A2 K) ∧ (¬ z3 = 0 → ev_Bi d 36 0 [some (.ref 1010), some (.ref 5)] I1 A2 (fun z7 I5 A6 => ((z7 = 0 → ev_Bi d 36 0 [some (.ref 1010), some (.ref 6)] I5 A6 (fun z11 I9 A10 => ((z11 = 0 → ev_Bi d 36 0 [some (.ref 1010), some (.ref 7)] I9 A10 (fun z15 I13 A14 => ((z15 = 0 → ev_Bi d 38 0 [some (.ref 1010), some (.ref 4), some (.ref 8), none] I13 A14 (fun z19 I17 A18 => K I17 A18)) ∧ (¬ z15 = 0 → ev_Bv (d + 1) 115 96 [some (.ref 1010)] I13 A14 K)))) ∧ (¬ z11 = 0 → ev_Bv (d + 1) 115 96 [some (.ref 1010)] I9 A10 K)))) ∧ (¬ z7 = 0 → ev_Bv (d + 1) 115 96 [some (.ref 1010)] I5 A6 K)))))) rfl rfl rfl h (fun z3 I1 A2 h4 => ev_T.if_eq rfl (fun c24 => (h4.1 c24)) (fun c24 => ev_T.adv (k' := 60) (ls' := [some (.ref 1010)]) (st' := [.ref 5, .ref 1010]) (σ' := (1057, 55, I1, A2)) 2 rfl (ev_T.calli (m' := 36) (as := [.ref 1010, .ref 5]) (r := []) (K' := fun z7 I5 A6 => ((z7 = 0 → ev_Bi d 36 0 [some (.ref 1010), some (.ref 6)] I5 A6 (fun z11 I9 A10 => ((z11 = 0 → ev_Bi d 36 0 [some (.ref 1010), some (.ref 7)] I9 A10 (fun z15 I13 A14 => ((z15 = 0 → ev_Bi d 38 0 [some (.ref 1010), some (.ref 4), some (.ref 8), none] I13 A14 (fun z19 I17 A18 => K I17 A18)) ∧ (¬ z15 = 0 → ev_Bv (d + 1) 115 96 [some (.ref 1010)] I13 A14 K)))) ∧ (¬ z11 = 0 → ev_Bv (d + 1) 115 96 [some (.ref 1010)] I9 A10 K)))) ∧ (¬ z7 = 0 → ev_Bv (d + 1) 115 96 [some (.ref 1010)] I5 A6 K))) rfl rfl rfl (h4.2 c24) (fun z7 I5 A6 h8 => ev_T.if_ne rfl (fun c23 => ev_T.adv (k' := 69) (ls' := [some (.ref 1010)]) (st' := [.ref 6, .ref 1010]) (σ' := (1057, 55, I5, A6)) 2 rfl (ev_T.calli (m' := 36) (as := [.ref 1010, .ref 6]) (r := []) (K' := fun z11 I9 A10 => ((z11 = 0 → ev_Bi d 36 0 [some (.ref 1010), some (.ref 7)] I9 A10 (fun z15 I13 A14 => ((z15 = 0 → ev_Bi d 38 0 [some (.ref 1010), some (.ref 4), some (.ref 8), none] I13 A14 (fun z19 I17 A18 => K I17 A18)) ∧ (¬ z15 = 0 → ev_Bv (d + 1) 115 96 [some (.ref 1010)] I13 A14 K)))) ∧ (¬ z11 = 0 → ev_Bv (d + 1) 115 96 [some (.ref 1010)] I9 A10 K))) rfl rfl rfl (h8.1 c23) (fun z11 I9 A10 h12 => ev_T.if_ne rfl (fun c22 => ev_T.adv (k' := 78) (ls' := [some (.ref 1010)]) (st' := [.ref 7, .ref 1010]) (σ' := (1057, 55, I9, A10)) 2 rfl (ev_T.calli (m' := 36) (as := [.ref 1010, .ref 7]) (r := []) (K' := fun z15 I13 A14 => ((z15 = 0 → ev_Bi d 38 0 [some (.ref 1010), some (.ref 4), some (.ref 8), none] I13 A14 (fun z19 I17 A18 => K I17 A18)) ∧ (¬ z15 = 0 → ev_Bv (d + 1) 115 96 [some (.ref 1010)] I13 A14 K))) rfl rfl rfl (h12.1 c22) (fun z15 I13 A14 h16 => ev_T.if_ne rfl (fun c21 => ev_T.adv (k' := 89) (ls' := [some (.ref 1010)]) (st' := [.ref 8, .ref 4, .ref 1010]) (σ' := (1057, 55, I13, A14)) 3 rfl (ev_T.calli (m' := 38) (as := [.ref 1010, .ref 4, .ref 8]) (r := []) (K' := fun z19 I17 A18 => K I17 A18) rfl rfl rfl (h16.1 c21) (fun z19 I17 A18 h20 => ev_T.adv (k' := 132) (ls' := [some (.ref 1010)]) (st' := []) (σ' := (1057, 55, I17, A18)) 2 rfl (ev_T.retv rfl rfl h20)))) (fun c21 => (h16.2 c21))))) (fun c22 => (h12.2 c22))))) (fun c23 => (h8.2 c23)))))))
    · exact ev_T.adv (k' := 51) (ls' := [some (.ref 1028)]) (st' := [.ref 4, .ref 1028]) (σ' := (1057, 55, I, A)) 2 rfl (ev_T.calli (m' := 36) (as := [.ref 1028, .ref 4]) (r := []) (K' := fun z3 I1 A2 => ((z3 = 0 → ev_Bv (d + 1) 115 96 [some (.ref 1028)] I1 A2 K) ∧ (¬ z3 = 0 → ev_Bi d 36 0 [some (.ref 1028), some (.ref 5)] I1 A2 (fun z7 I5 A6 => ((z7 = 0 → ev_Bi d 36 0 [some (.ref 1028), some (.ref 6)] I5 A6 (fun z11 I9 A10 => ((z11 = 0 → ev_Bi d 36 0 [some (.ref 1028), some (.ref 7)] I9 A10 (fun z15 I13 A14 => ((z15 = 0 → ev_Bi d 38 0 [some (.ref 1028), some (.ref 4), some (.ref 8), none] I13 A14 (fun z19 I17 A18 => K I17 A18)) ∧ (¬ z15 = 0 → ev_Bv (d + 1) 115 96 [some (.ref 1028)] I13 A14 K)))) ∧ (¬ z11 = 0 → ev_Bv (d + 1) 115 96 [some (.ref 1028)] I9 A10 K)))) ∧ (¬ z7 = 0 → ev_Bv (d + 1) 115 96 [some (.ref 1028)] I5 A6 K)))))) rfl rfl rfl h (fun z3 I1 A2 h4 => ev_T.if_eq rfl (fun c24 => (h4.1 c24)) (fun c24 => ev_T.adv (k' := 60) (ls' := [some (.ref 1028)]) (st' := [.ref 5, .ref 1028]) (σ' := (1057, 55, I1, A2)) 2 rfl (ev_T.calli (m' := 36) (as := [.ref 1028, .ref 5]) (r := []) (K' := fun z7 I5 A6 => ((z7 = 0 → ev_Bi d 36 0 [some (.ref 1028), some (.ref 6)] I5 A6 (fun z11 I9 A10 => ((z11 = 0 → ev_Bi d 36 0 [some (.ref 1028), some (.ref 7)] I9 A10 (fun z15 I13 A14 => ((z15 = 0 → ev_Bi d 38 0 [some (.ref 1028), some (.ref 4), some (.ref 8), none] I13 A14 (fun z19 I17 A18 => K I17 A18)) ∧ (¬ z15 = 0 → ev_Bv (d + 1) 115 96 [some (.ref 1028)] I13 A14 K)))) ∧ (¬ z11 = 0 → ev_Bv (d + 1) 115 96 [some (.ref 1028)] I9 A10 K)))) ∧ (¬ z7 = 0 → ev_Bv (d + 1) 115 96 [some (.ref 1028)] I5 A6 K))) rfl rfl rfl (h4.2 c24) (fun z7 I5 A6 h8 => ev_T.if_ne rfl (fun c23 => ev_T.adv (k' := 69) (ls' := [some (.ref 1028)]) (st' := [.ref 6, .ref 1028]) (σ' := (1057, 55, I5, A6)) 2 rfl (ev_T.calli (m' := 36) (as := [.ref 1028, .ref 6]) (r := []) (K' := fun z11 I9 A10 => ((z11 = 0 → ev_Bi d 36 0 [some (.ref 1028), some (.ref 7)] I9 A10 (fun z15 I13 A14 => ((z15 = 0 → ev_Bi d 38 0 [some (.ref 1028), some (.ref 4), some (.ref 8), none] I13 A14 (fun z19 I17 A18 => K I17 A18)) ∧ (¬ z15 = 0 → ev_Bv (d + 1) 115 96 [some (.ref 1028)] I13 A14 K)))) ∧ (¬ z11 = 0 → ev_Bv (d + 1) 115 96 [some (.ref 1028)] I9 A10 K))) rfl rfl rfl (h8.1 c23) (fun z11 I9 A10 h12 => ev_T.if_ne rfl (fun c22 => ev_T.adv (k' := 78) (ls' := [some (.ref 1028)]) (st' := [.ref 7, .ref 1028]) (σ' := (1057, 55, I9, A10)) 2 rfl (ev_T.calli (m' := 36) (as := [.ref 1028, .ref 7]) (r := []) (K' := fun z15 I13 A14 => ((z15 = 0 → ev_Bi d 38 0 [some (.ref 1028), some (.ref 4), some (.ref 8), none] I13 A14 (fun z19 I17 A18 => K I17 A18)) ∧ (¬ z15 = 0 → ev_Bv (d + 1) 115 96 [some (.ref 1028)] I13 A14 K))) rfl rfl rfl (h12.1 c22) (fun z15 I13 A14 h16 => ev_T.if_ne rfl (fun c21 => ev_T.adv (k' := 89) (ls' := [some (.ref 1028)]) (st' := [.ref 8, .ref 4, .ref 1028]) (σ' := (1057, 55, I13, A14)) 3 rfl (ev_T.calli (m' := 38) (as := [.ref 1028, .ref 4, .ref 8]) (r := []) (K' := fun z19 I17 A18 => K I17 A18) rfl rfl rfl (h16.1 c21) (fun z19 I17 A18 h20 => ev_T.adv (k' := 132) (ls' := [some (.ref 1028)]) (st' := []) (σ' := (1057, 55, I17, A18)) 2 rfl (ev_T.retv rfl rfl h20)))) (fun c21 => (h16.2 c21))))) (fun c22 => (h12.2 c22))))) (fun c23 => (h8.2 c23)))))))
set_option maxRecDepth 100000 in
theorem t_S_dropPlural_96 {d : Nat} {I A : Nat → Nat → Int32} {K : (Nat → Nat → Int32) → (Nat → Nat → Int32) → Prop} {L : Nat} (hLL : ev_isL L)   
    (h : ev_Bi d 36 0 [some (.ref L), some (.ref 9)] I A (fun z3 I1 A2 => ((z3 = 0 → K I1 A2) ∧ (¬ z3 = 0 → ev_Bi d 36 0 [some (.ref L), some (.ref 10)] I1 A2 (fun z7 I5 A6 => ((z7 = 0 → ev_Bi d 36 0 [some (.ref L), some (.ref 11)] I5 A6 (fun z11 I9 A10 => ((z11 = 0 → ev_Bi d 38 0 [some (.ref L), some (.ref 9), some (.ref 12), none] I9 A10 (fun z15 I13 A14 => K I13 A14)) ∧ (¬ z11 = 0 → K I9 A10)))) ∧ (¬ z7 = 0 → K I5 A6))))))) :
    ev_Bv (d + 1) 115 96 [some (.ref L)] I A K :=
  by
    rcases hLL with rfl | rfl | rfl
    · exact ev_T.adv (k' := 99) (ls' := [some (.ref 1008)]) (st' := [.ref 9, .ref 1008]) (σ' := (1057, 55, I, A)) 2 rfl (ev_T.calli (m' := 36) (as := [.ref 1008, .ref 9]) (r := []) (K' := fun z3 I1 A2 => ((z3 = 0 → K I1 A2) ∧ (¬ z3 = 0 → ev_Bi d 36 0 [some (.ref 1008), some (.ref 10)] I1 A2 (fun z7 I5 A6 => ((z7 = 0 → ev_Bi d 36 0 [some (.ref 1008), some (.ref 11)] I5 A6 (fun z11 I9 A10 => ((z11 = 0 → ev_Bi d 38 0 [some (.ref 1008), some (.ref 9), some (.ref 12), none] I9 A10 (fun z15 I13 A14 => K I13 A14)) ∧ (¬ z11 = 0 → K I9 A10)))) ∧ (¬ z7 = 0 → K I5 A6)))))) rfl rfl rfl h (fun z3 I1 A2 h4 => ev_T.if_eq rfl (fun c19 => ev_T.retv rfl rfl (h4.1 c19)) (fun c19 => ev_T.adv (k' := 108) (ls' := [some (.ref 1008)]) (st' := [.ref 10, .ref 1008]) (σ' := (1057, 55, I1, A2)) 2 rfl (ev_T.calli (m' := 36) (as := [.ref 1008, .ref 10]) (r := []) (K' := fun z7 I5 A6 => ((z7 = 0 → ev_Bi d 36 0 [some (.ref 1008), some (.ref 11)] I5 A6 (fun z11 I9 A10 => ((z11 = 0 → ev_Bi d 38 0 [some (.ref 1008), some (.ref 9), some (.ref 12), none] I9 A10 (fun z15 I13 A14 => K I13 A14)) ∧ (¬ z11 = 0 → K I9 A10)))) ∧ (¬ z7 = 0 → K I5 A6))) rfl rfl rfl (h4.2 c19) (fun z7 I5 A6 h8 => ev_T.if_ne rfl (fun c18 => ev_T.adv (k' := 117) (ls' := [some (.ref 1008)]) (st' := [.ref 11, .ref 1008]) (σ' := (1057, 55, I5, A6)) 2 rfl (ev_T.calli (m' := 36) (as := [.ref 1008, .ref 11]) (r := []) (K' := fun z11 I9 A10 => ((z11 = 0 → ev_Bi d 38 0 [some (.ref 1008), some (.ref 9), some (.ref 12), none] I9 A10 (fun z15 I13 A14 => K I13 A14)) ∧ (¬ z11 = 0 → K I9 A10))) rfl rfl rfl (h8.1 c18) (fun z11 I9 A10 h12 => ev_T.if_ne rfl (fun c17 => ev_T.adv (k' := 128) (ls' := [some (.ref 1008)]) (st' := [.ref 12, .ref 9, .ref 1008]) (σ' := (1057, 55, I9, A10)) 3 rfl (ev_T.calli (m' := 38) (as := [.ref 1008, .ref 9, .ref 12]) (r := []) (K' := fun z15 I13 A14 => K I13 A14) rfl rfl rfl (h12.1 c17) (fun z15 I13 A14 h16 => ev_T.adv (k' := 132) (ls' := [some (.ref 1008)]) (st' := []) (σ' := (1057, 55, I13, A14)) 1 rfl (ev_T.retv rfl rfl h16)))) (fun c17 => ev_T.retv rfl rfl (h12.2 c17))))) (fun c18 => ev_T.retv rfl rfl (h8.2 c18)))))))
    · exact ev_T.adv (k' := 99) (ls' := [some (.ref 1010)]) (st' := [.ref 9, .ref 1010]) (σ' := (1057, 55, I, A)) 2 rfl (ev_T.calli (m' := 36) (as := [.ref 1010, .ref 9]) (r := []) (K' := fun z3 I1 A2 => ((z3 = 0 → K I1 A2) ∧ (¬ z3 = 0 → ev_Bi d 36 0 [some (.ref 1010), some (.ref 10)] I1 A2 (fun z7 I5 A6 => ((z7 = 0 → ev_Bi d 36 0 [some (.ref 1010), some (.ref 11)] I5 A6 (fun z11 I9 A10 => ((z11 = 0 → ev_Bi d 38 0 [some (.ref 1010), some (.ref 9), some (.ref 12), none] I9 A10 (fun z15 I13 A14 => K I13 A14)) ∧ (¬ z11 = 0 → K I9 A10)))) ∧ (¬ z7 = 0 → K I5 A6)))))) rfl rfl rfl h (fun z3 I1 A2 h4 => ev_T.if_eq rfl (fun c19 => ev_T.retv rfl rfl (h4.1 c19)) (fun c19 => ev_T.adv (k' := 108) (ls' := [some (.ref 1010)]) (st' := [.ref 10, .ref 1010]) (σ' := (1057, 55, I1, A2)) 2 rfl (ev_T.calli (m' := 36) (as := [.ref 1010, .ref 10]) (r := []) (K' := fun z7 I5 A6 => ((z7 = 0 → ev_Bi d 36 0 [some (.ref 1010), some (.ref 11)] I5 A6 (fun z11 I9 A10 => ((z11 = 0 → ev_Bi d 38 0 [some (.ref 1010), some (.ref 9), some (.ref 12), none] I9 A10 (fun z15 I13 A14 => K I13 A14)) ∧ (¬ z11 = 0 → K I9 A10)))) ∧ (¬ z7 = 0 → K I5 A6))) rfl rfl rfl (h4.2 c19) (fun z7 I5 A6 h8 => ev_T.if_ne rfl (fun c18 => ev_T.adv (k' := 117) (ls' := [some (.ref 1010)]) (st' := [.ref 11, .ref 1010]) (σ' := (1057, 55, I5, A6)) 2 rfl (ev_T.calli (m' := 36) (as := [.ref 1010, .ref 11]) (r := []) (K' := fun z11 I9 A10 => ((z11 = 0 → ev_Bi d 38 0 [some (.ref 1010), some (.ref 9), some (.ref 12), none] I9 A10 (fun z15 I13 A14 => K I13 A14)) ∧ (¬ z11 = 0 → K I9 A10))) rfl rfl rfl (h8.1 c18) (fun z11 I9 A10 h12 => ev_T.if_ne rfl (fun c17 => ev_T.adv (k' := 128) (ls' := [some (.ref 1010)]) (st' := [.ref 12, .ref 9, .ref 1010]) (σ' := (1057, 55, I9, A10)) 3 rfl (ev_T.calli (m' := 38) (as := [.ref 1010, .ref 9, .ref 12]) (r := []) (K' := fun z15 I13 A14 => K I13 A14) rfl rfl rfl (h12.1 c17) (fun z15 I13 A14 h16 => ev_T.adv (k' := 132) (ls' := [some (.ref 1010)]) (st' := []) (σ' := (1057, 55, I13, A14)) 1 rfl (ev_T.retv rfl rfl h16)))) (fun c17 => ev_T.retv rfl rfl (h12.2 c17))))) (fun c18 => ev_T.retv rfl rfl (h8.2 c18)))))))
    · exact ev_T.adv (k' := 99) (ls' := [some (.ref 1028)]) (st' := [.ref 9, .ref 1028]) (σ' := (1057, 55, I, A)) 2 rfl (ev_T.calli (m' := 36) (as := [.ref 1028, .ref 9]) (r := []) (K' := fun z3 I1 A2 => ((z3 = 0 → K I1 A2) ∧ (¬ z3 = 0 → ev_Bi d 36 0 [some (.ref 1028), some (.ref 10)] I1 A2 (fun z7 I5 A6 => ((z7 = 0 → ev_Bi d 36 0 [some (.ref 1028), some (.ref 11)] I5 A6 (fun z11 I9 A10 => ((z11 = 0 → ev_Bi d 38 0 [some (.ref 1028), some (.ref 9), some (.ref 12), none] I9 A10 (fun z15 I13 A14 => K I13 A14)) ∧ (¬ z11 = 0 → K I9 A10)))) ∧ (¬ z7 = 0 → K I5 A6)))))) rfl rfl rfl h (fun z3 I1 A2 h4 => ev_T.if_eq rfl (fun c19 => ev_T.retv rfl rfl (h4.1 c19)) (fun c19 => ev_T.adv (k' := 108) (ls' := [some (.ref 1028)]) (st' := [.ref 10, .ref 1028]) (σ' := (1057, 55, I1, A2)) 2 rfl (ev_T.calli (m' := 36) (as := [.ref 1028, .ref 10]) (r := []) (K' := fun z7 I5 A6 => ((z7 = 0 → ev_Bi d 36 0 [some (.ref 1028), some (.ref 11)] I5 A6 (fun z11 I9 A10 => ((z11 = 0 → ev_Bi d 38 0 [some (.ref 1028), some (.ref 9), some (.ref 12), none] I9 A10 (fun z15 I13 A14 => K I13 A14)) ∧ (¬ z11 = 0 → K I9 A10)))) ∧ (¬ z7 = 0 → K I5 A6))) rfl rfl rfl (h4.2 c19) (fun z7 I5 A6 h8 => ev_T.if_ne rfl (fun c18 => ev_T.adv (k' := 117) (ls' := [some (.ref 1028)]) (st' := [.ref 11, .ref 1028]) (σ' := (1057, 55, I5, A6)) 2 rfl (ev_T.calli (m' := 36) (as := [.ref 1028, .ref 11]) (r := []) (K' := fun z11 I9 A10 => ((z11 = 0 → ev_Bi d 38 0 [some (.ref 1028), some (.ref 9), some (.ref 12), none] I9 A10 (fun z15 I13 A14 => K I13 A14)) ∧ (¬ z11 = 0 → K I9 A10))) rfl rfl rfl (h8.1 c18) (fun z11 I9 A10 h12 => ev_T.if_ne rfl (fun c17 => ev_T.adv (k' := 128) (ls' := [some (.ref 1028)]) (st' := [.ref 12, .ref 9, .ref 1028]) (σ' := (1057, 55, I9, A10)) 3 rfl (ev_T.calli (m' := 38) (as := [.ref 1028, .ref 9, .ref 12]) (r := []) (K' := fun z15 I13 A14 => K I13 A14) rfl rfl rfl (h12.1 c17) (fun z15 I13 A14 h16 => ev_T.adv (k' := 132) (ls' := [some (.ref 1028)]) (st' := []) (σ' := (1057, 55, I13, A14)) 1 rfl (ev_T.retv rfl rfl h16)))) (fun c17 => ev_T.retv rfl rfl (h12.2 c17))))) (fun c18 => ev_T.retv rfl rfl (h8.2 c18)))))))

/-! StemRules.takePiece(I)Z -/
set_option maxRecDepth 100000 in
theorem t_S_takePiece_0 {d : Nat} {I A : Nat → Nat → Int32} {K : Int32 → (Nat → Nat → Int32) → (Nat → Nat → Int32) → Prop}   (x1 : Int32)  
    (h : ev_Bi d 73 0 [some (.ref 1030)] I A (fun z3 I1 A2 => ev_Br d 8 0 [some (.ref 1027)] I1 A2 (fun z7 I5 A6 => (z7 = some 1028 ∧ ev_Bi d 86 0 [some (.ref 1003), some (.ref 1028), none, none] I5 A6 (fun z11 I9 A10 => ((z11 = (-4) → K 0 I9 A10) ∧ (¬ z11 = (-4) → ev_Bi d 88 0 [some (.ref 1003), some (.int 1), some (.int z11)] I9 A10 (fun z15 I13 A14 => ((z15 = 0 → ev_Bv d 114 0 [some (.ref 1000), some (.int x1), some (.int z11), some (.ref 1010), none] I13 A14 (fun I17 A18 => ev_Bi d 86 0 [some (.ref 1003), some (.ref 1010), none, none] I17 A18 (fun z22 I20 A21 => ((z22 = (-4) → K 0 I20 A21) ∧ (¬ z22 = (-4) → ev_Bi d 9 0 [some (.ref 1027)] I20 A21 (fun z26 I24 A25 => ev_Bi d 10 0 [some (.ref 1027)] I24 A25 (fun z30 I28 A29 => ev_Bv d 74 0 [some (.ref 1030), some (.int z3), some (.int z26), some (.int z30), some (.int z11), some (.int z22), none] I28 A29 (fun I32 A33 => K 1 I32 A33)))))))) ∧ (¬ z15 = 0 → K 1 I13 A14)))))))))) :
    ev_Bi (d + 1) 116 0 [some (.ref 1000), some (.int x1), none, none, none] I A K :=
  ev_T.adv (k' := 4) (ls' := [some (.ref 1000), some (.int x1), none, none, none]) (st' := [.ref 1030]) (σ' := (1057, 55, I, A)) 2 rfl (ev_T.calli (m' := 73) (as := [.ref 1030]) (r := []) (K' := fun z3 I1 A2 => ev_Br d 8 0 [some (.ref 1027)] I1 A2 (fun z7 I5 A6 => (z7 = some 1028 ∧ ev_Bi d 86 0 [some (.ref 1003), some (.ref 1028), none, none] I5 A6 (fun z11 I9 A10 => ((z11 = (-4) → K 0 I9 A10) ∧ (¬ z11 = (-4) → ev_Bi d 88 0 [some (.ref 1003), some (.int 1), some (.int z11)] I9 A10 (fun z15 I13 A14 => ((z15 = 0 → ev_Bv d 114 0 [some (.ref 1000), some (.int x1), some (.int z11), some (.ref 1010), none] I13 A14 (fun I17 A18 => ev_Bi d 86 0 [some (.ref 1003), some (.ref 1010), none, none] I17 A18 (fun z22 I20 A21 => ((z22 = (-4) → K 0 I20 A21) ∧ (¬ z22 = (-4) → ev_Bi d 9 0 [some (.ref 1027)] I20 A21 (fun z26 I24 A25 => ev_Bi d 10 0 [some (.ref 1027)] I24 A25 (fun z30 I28 A29 => ev_Bv d 74 0 [some (.ref 1030), some (.int z3), some (.int z26), some (.int z30), some (.int z11), some (.int z22), none] I28 A29 (fun I32 A33 => K 1 I32 A33)))))))) ∧ (¬ z15 = 0 → K 1 I13 A14))))))))) rfl rfl rfl h (fun z3 I1 A2 h4 => ev_T.adv (k' := 16) (ls' := [some (.ref 1000), some (.int x1), some (.int z3), none, none]) (st' := [.ref 1027, .ref 1003]) (σ' := (1057, 55, I1, A2)) 5 rfl (ev_T.callr (m' := 8) (as := [.ref 1027]) (r := [.ref 1003]) (K' := fun z7 I5 A6 => (z7 = some 1028 ∧ ev_Bi d 86 0 [some (.ref 1003), some (.ref 1028), none, none] I5 A6 (fun z11 I9 A10 => ((z11 = (-4) → K 0 I9 A10) ∧ (¬ z11 = (-4) → ev_Bi d 88 0 [some (.ref 1003), some (.int 1), some (.int z11)] I9 A10 (fun z15 I13 A14 => ((z15 = 0 → ev_Bv d 114 0 [some (.ref 1000), some (.int x1), some (.int z11), some (.ref 1010), none] I13 A14 (fun I17 A18 => ev_Bi d 86 0 [some (.ref 1003), some (.ref 1010), none, none] I17 A18 (fun z22 I20 A21 => ((z22 = (-4) → K 0 I20 A21) ∧ (¬ z22 = (-4) → ev_Bi d 9 0 [some (.ref 1027)] I20 A21 (fun z26 I24 A25 => ev_Bi d 10 0 [some (.ref 1027)] I24 A25 (fun z30 I28 A29 => ev_Bv d 74 0 [some (.ref 1030), some (.int z3), some (.int z26), some (.int z30), some (.int z11), some (.int z22), none] I28 A29 (fun I32 A33 => K 1 I32 A33)))))))) ∧ (¬ z15 = 0 → K 1 I13 A14)))))))) rfl rfl rfl h4 (fun z7 I5 A6 h8 => by obtain ⟨rfl, h8⟩ := h8; exact ev_T.calli (m' := 86) (as := [.ref 1003, .ref 1028]) (r := []) (K' := fun z11 I9 A10 => ((z11 = (-4) → K 0 I9 A10) ∧ (¬ z11 = (-4) → ev_Bi d 88 0 [some (.ref 1003), some (.int 1), some (.int z11)] I9 A10 (fun z15 I13 A14 => ((z15 = 0 → ev_Bv d 114 0 [some (.ref 1000), some (.int x1), some (.int z11), some (.ref 1010), none] I13 A14 (fun I17 A18 => ev_Bi d 86 0 [some (.ref 1003), some (.ref 1010), none, none] I17 A18 (fun z22 I20 A21 => ((z22 = (-4) → K 0 I20 A21) ∧ (¬ z22 = (-4) → ev_Bi d 9 0 [some (.ref 1027)] I20 A21 (fun z26 I24 A25 => ev_Bi d 10 0 [some (.ref 1027)] I24 A25 (fun z30 I28 A29 => ev_Bv d 74 0 [some (.ref 1030), some (.int z3), some (.int z26), some (.int z30), some (.int z11), some (.int z22), none] I28 A29 (fun I32 A33 => K 1 I32 A33)))))))) ∧ (¬ z15 = 0 → K 1 I13 A14)))))) rfl rfl rfl h8 (fun z11 I9 A10 h12 => ev_T.adv (k' := 26) (ls' := [some (.ref 1000), some (.int x1), some (.int z3), some (.int z11), none]) (st' := [.int (-4), .int z11]) (σ' := (1057, 55, I9, A10)) 3 rfl (ev_T.icmp_ne rfl (fun c37 => ev_T.adv (k' := 30) (ls' := [some (.ref 1000), some (.int x1), some (.int z3), some (.int z11), none]) (st' := [.int 0]) (σ' := (1057, 55, I9, A10)) 1 rfl (ev_T.retz rfl rfl (by decide) (h12.1 c37))) (fun c37 => ev_T.adv (k' := 37) (ls' := [some (.ref 1000), some (.int x1), some (.int z3), some (.int z11), none]) (st' := [.int z11, .int 1, .ref 1003]) (σ' := (1057, 55, I9, A10)) 4 rfl (ev_T.calli (m' := 88) (as := [.ref 1003, .int 1, .int z11]) (r := []) (K' := fun z15 I13 A14 => ((z15 = 0 → ev_Bv d 114 0 [some (.ref 1000), some (.int x1), some (.int z11), some (.ref 1010), none] I13 A14 (fun I17 A18 => ev_Bi d 86 0 [some (.ref 1003), some (.ref 1010), none, none] I17 A18 (fun z22 I20 A21 => ((z22 = (-4) → K 0 I20 A21) ∧ (¬ z22 = (-4) → ev_Bi d 9 0 [some (.ref 1027)] I20 A21 (fun z26 I24 A25 => ev_Bi d 10 0 [some (.ref 1027)] I24 A25 (fun z30 I28 A29 => ev_Bv d 74 0 [some (.ref 1030), some (.int z3), some (.int z26), some (.int z30), some (.int z11), some (.int z22), none] I28 A29 (fun I32 A33 => K 1 I32 A33)))))))) ∧ (¬ z15 = 0 → K 1 I13 A14))) rfl rfl rfl (h12.2 c37) (fun z15 I13 A14 h16 => ev_T.if_eq rfl (fun c36 => ev_T.adv (k' := 52) (ls' := [some (.ref 1000), some (.int x1), some (.int z3), some (.int z11), none]) (st' := [.ref 1010, .int z11, .int x1, .ref 1000]) (σ' := (1057, 55, I13, A14)) 5 rfl (ev_T.callv (m' := 114) (as := [.ref 1000, .int x1, .int z11, .ref 1010]) (r := []) (K' := fun I17 A18 => ev_Bi d 86 0 [some (.ref 1003), some (.ref 1010), none, none] I17 A18 (fun z22 I20 A21 => ((z22 = (-4) → K 0 I20 A21) ∧ (¬ z22 = (-4) → ev_Bi d 9 0 [some (.ref 1027)] I20 A21 (fun z26 I24 A25 => ev_Bi d 10 0 [some (.ref 1027)] I24 A25 (fun z30 I28 A29 => ev_Bv d 74 0 [some (.ref 1030), some (.int z3), some (.int z26), some (.int z30), some (.int z11), some (.int z22), none] I28 A29 (fun I32 A33 => K 1 I32 A33))))))) rfl rfl rfl (h16.1 c36) (fun I17 A18 h19 => ev_T.adv (k' := 63) (ls' := [some (.ref 1000), some (.int x1), some (.int z3), some (.int z11), none]) (st' := [.ref 1010, .ref 1003]) (σ' := (1057, 55, I17, A18)) 4 rfl (ev_T.calli (m' := 86) (as := [.ref 1003, .ref 1010]) (r := []) (K' := fun z22 I20 A21 => ((z22 = (-4) → K 0 I20 A21) ∧ (¬ z22 = (-4) → ev_Bi d 9 0 [some (.ref 1027)] I20 A21 (fun z26 I24 A25 => ev_Bi d 10 0 [some (.ref 1027)] I24 A25 (fun z30 I28 A29 => ev_Bv d 74 0 [some (.ref 1030), some (.int z3), some (.int z26), some (.int z30), some (.int z11), some (.int z22), none] I28 A29 (fun I32 A33 => K 1 I32 A33)))))) rfl rfl rfl h19 (fun z22 I20 A21 h23 => ev_T.adv (k' := 72) (ls' := [some (.ref 1000), some (.int x1), some (.int z3), some (.int z11), some (.int z22)]) (st' := [.int (-4), .int z22]) (σ' := (1057, 55, I20, A21)) 3 rfl (ev_T.icmp_ne rfl (fun c35 => ev_T.adv (k' := 76) (ls' := [some (.ref 1000), some (.int x1), some (.int z3), some (.int z11), some (.int z22)]) (st' := [.int 0]) (σ' := (1057, 55, I20, A21)) 1 rfl (ev_T.retz rfl rfl (by decide) (h23.1 c35))) (fun c35 => ev_T.adv (k' := 86) (ls' := [some (.ref 1000), some (.int x1), some (.int z3), some (.int z11), some (.int z22)]) (st' := [.ref 1027, .int z3, .ref 1030]) (σ' := (1057, 55, I20, A21)) 5 rfl (ev_T.calli (m' := 9) (as := [.ref 1027]) (r := [.int z3, .ref 1030]) (K' := fun z26 I24 A25 => ev_Bi d 10 0 [some (.ref 1027)] I24 A25 (fun z30 I28 A29 => ev_Bv d 74 0 [some (.ref 1030), some (.int z3), some (.int z26), some (.int z30), some (.int z11), some (.int z22), none] I28 A29 (fun I32 A33 => K 1 I32 A33))) rfl rfl rfl (h23.2 c35) (fun z26 I24 A25 h27 => ev_T.adv (k' := 93) (ls' := [some (.ref 1000), some (.int x1), some (.int z3), some (.int z11), some (.int z22)]) (st' := [.ref 1027, .int z26, .int z3, .ref 1030]) (σ' := (1057, 55, I24, A25)) 2 rfl (ev_T.calli (m' := 10) (as := [.ref 1027]) (r := [.int z26, .int z3, .ref 1030]) (K' := fun z30 I28 A29 => ev_Bv d 74 0 [some (.ref 1030), some (.int z3), some (.int z26), some (.int z30), some (.int z11), some (.int z22), none] I28 A29 (fun I32 A33 => K 1 I32 A33)) rfl rfl rfl h27 (fun z30 I28 A29 h31 => ev_T.adv (k' := 99) (ls' := [some (.ref 1000), some (.int x1), some (.int z3), some (.int z11), some (.int z22)]) (st' := [.int z22, .int z11, .int z30, .int z26, .int z3, .ref 1030]) (σ' := (1057, 55, I28, A29)) 2 rfl (ev_T.callv (m' := 74) (as := [.ref 1030, .int z3, .int z26, .int z30, .int z11, .int z22]) (r := []) (K' := fun I32 A33 => K 1 I32 A33) rfl rfl rfl h31 (fun I32 A33 h34 => ev_T.adv (k' := 103) (ls' := [some (.ref 1000), some (.int x1), some (.int z3), some (.int z11), some (.int z22)]) (st' := [.int 1]) (σ' := (1057, 55, I32, A33)) 1 rfl (ev_T.retz rfl rfl (by decide) h34)))))))))))))) (fun c36 => ev_T.adv (k' := 44) (ls' := [some (.ref 1000), some (.int x1), some (.int z3), some (.int z11), none]) (st' := [.int 1]) (σ' := (1057, 55, I13, A14)) 1 rfl (ev_T.retz rfl rfl (by decide) (h16.2 c36))))))))))))

/-! StemRules.isVowel(C)Z -/
set_option maxRecDepth 100000 in
theorem t_S_isVowel_0 {d : Nat} {I A : Nat → Nat → Int32} {K : Int32 → (Nat → Nat → Int32) → (Nat → Nat → Int32) → Prop}   (x0 : Int32)  
    (h : ((x0 = 97 → K 1 I A) ∧ (¬ x0 = 97 → ((x0 = 101 → K 1 I A) ∧ (¬ x0 = 101 → ((x0 = 105 → K 1 I A) ∧ (¬ x0 = 105 → ((x0 = 111 → K 1 I A) ∧ (¬ x0 = 111 → ((x0 = 117 → K 1 I A) ∧ (¬ x0 = 117 → K 0 I A))))))))))) :
    ev_Bi d 117 0 [some (.int x0)] I A K :=
  ev_T.adv (k' := 3) (ls' := [some (.int x0)]) (st' := [.int 97, .int x0]) (σ' := (1057, 55, I, A)) 2 rfl (ev_T.icmp_eq rfl (fun c5 => ev_T.adv (k' := 35) (ls' := [some (.int x0)]) (st' := [.int 1]) (σ' := (1057, 55, I, A)) 2 rfl (ev_T.retz rfl rfl (by decide) (h.1 c5))) (fun c5 => ev_T.adv (k' := 9) (ls' := [some (.int x0)]) (st' := [.int 101, .int x0]) (σ' := (1057, 55, I, A)) 2 rfl (ev_T.icmp_eq rfl (fun c4 => ev_T.adv (k' := 35) (ls' := [some (.int x0)]) (st' := [.int 1]) (σ' := (1057, 55, I, A)) 2 rfl (ev_T.retz rfl rfl (by decide) ((h.2 c5).1 c4))) (fun c4 => ev_T.adv (k' := 15) (ls' := [some (.int x0)]) (st' := [.int 105, .int x0]) (σ' := (1057, 55, I, A)) 2 rfl (ev_T.icmp_eq rfl (fun c3 => ev_T.adv (k' := 35) (ls' := [some (.int x0)]) (st' := [.int 1]) (σ' := (1057, 55, I, A)) 2 rfl (ev_T.retz rfl rfl (by decide) (((h.2 c5).2 c4).1 c3))) (fun c3 => ev_T.adv (k' := 21) (ls' := [some (.int x0)]) (st' := [.int 111, .int x0]) (σ' := (1057, 55, I, A)) 2 rfl (ev_T.icmp_eq rfl (fun c2 => ev_T.adv (k' := 35) (ls' := [some (.int x0)]) (st' := [.int 1]) (σ' := (1057, 55, I, A)) 2 rfl (ev_T.retz rfl rfl (by decide) ((((h.2 c5).2 c4).2 c3).1 c2))) (fun c2 => ev_T.adv (k' := 27) (ls' := [some (.int x0)]) (st' := [.int 117, .int x0]) (σ' := (1057, 55, I, A)) 2 rfl (ev_T.icmp_ne rfl (fun c1 => ev_T.adv (k' := 35) (ls' := [some (.int x0)]) (st' := [.int 1]) (σ' := (1057, 55, I, A)) 2 rfl (ev_T.retz rfl rfl (by decide) (((((h.2 c5).2 c4).2 c3).2 c2).1 c1))) (fun c1 => ev_T.adv (k' := 35) (ls' := [some (.int x0)]) (st' := [.int 0]) (σ' := (1057, 55, I, A)) 1 rfl (ev_T.retz rfl rfl (by decide) (((((h.2 c5).2 c4).2 c3).2 c2).2 c1))))))))))))

/-! java/lang/Integer.bitCount(I)I -/
set_option maxRecDepth 100000 in
theorem t_J_bitCount_0 {d : Nat} {I A : Nat → Nat → Int32} {K : Int32 → (Nat → Nat → Int32) → (Nat → Nat → Int32) → Prop}   (x0 : Int32)  
    (h : K ((((((((x0 - ((ev_ushr x0 1) &&& 1431655765)) &&& 858993459) + ((ev_ushr (x0 - ((ev_ushr x0 1) &&& 1431655765)) 2) &&& 858993459)) + (ev_ushr (((x0 - ((ev_ushr x0 1) &&& 1431655765)) &&& 858993459) + ((ev_ushr (x0 - ((ev_ushr x0 1) &&& 1431655765)) 2) &&& 858993459)) 4)) &&& 252645135) + (ev_ushr (((((x0 - ((ev_ushr x0 1) &&& 1431655765)) &&& 858993459) + ((ev_ushr (x0 - ((ev_ushr x0 1) &&& 1431655765)) 2) &&& 858993459)) + (ev_ushr (((x0 - ((ev_ushr x0 1) &&& 1431655765)) &&& 858993459) + ((ev_ushr (x0 - ((ev_ushr x0 1) &&& 1431655765)) 2) &&& 858993459)) 4)) &&& 252645135) 8)) + (ev_ushr ((((((x0 - ((ev_ushr x0 1) &&& 1431655765)) &&& 858993459) + ((ev_ushr (x0 - ((ev_ushr x0 1) &&& 1431655765)) 2) &&& 858993459)) + (ev_ushr (((x0 - ((ev_ushr x0 1) &&& 1431655765)) &&& 858993459) + ((ev_ushr (x0 - ((ev_ushr x0 1) &&& 1431655765)) 2) &&& 858993459)) 4)) &&& 252645135) + (ev_ushr (((((x0 - ((ev_ushr x0 1) &&& 1431655765)) &&& 858993459) + ((ev_ushr (x0 - ((ev_ushr x0 1) &&& 1431655765)) 2) &&& 858993459)) + (ev_ushr (((x0 - ((ev_ushr x0 1) &&& 1431655765)) &&& 858993459) + ((ev_ushr (x0 - ((ev_ushr x0 1) &&& 1431655765)) 2) &&& 858993459)) 4)) &&& 252645135) 8)) 16)) &&& 63) I A) :
    ev_Bi d 182 0 [some (.int x0)] I A K :=
  ev_T.adv (k' := 52) (ls' := [some (.int (((((((x0 - ((ev_ushr x0 1) &&& 1431655765)) &&& 858993459) + ((ev_ushr (x0 - ((ev_ushr x0 1) &&& 1431655765)) 2) &&& 858993459)) + (ev_ushr (((x0 - ((ev_ushr x0 1) &&& 1431655765)) &&& 858993459) + ((ev_ushr (x0 - ((ev_ushr x0 1) &&& 1431655765)) 2) &&& 858993459)) 4)) &&& 252645135) + (ev_ushr (((((x0 - ((ev_ushr x0 1) &&& 1431655765)) &&& 858993459) + ((ev_ushr (x0 - ((ev_ushr x0 1) &&& 1431655765)) 2) &&& 858993459)) + (ev_ushr (((x0 - ((ev_ushr x0 1) &&& 1431655765)) &&& 858993459) + ((ev_ushr (x0 - ((ev_ushr x0 1) &&& 1431655765)) 2) &&& 858993459)) 4)) &&& 252645135) 8)) + (ev_ushr ((((((x0 - ((ev_ushr x0 1) &&& 1431655765)) &&& 858993459) + ((ev_ushr (x0 - ((ev_ushr x0 1) &&& 1431655765)) 2) &&& 858993459)) + (ev_ushr (((x0 - ((ev_ushr x0 1) &&& 1431655765)) &&& 858993459) + ((ev_ushr (x0 - ((ev_ushr x0 1) &&& 1431655765)) 2) &&& 858993459)) 4)) &&& 252645135) + (ev_ushr (((((x0 - ((ev_ushr x0 1) &&& 1431655765)) &&& 858993459) + ((ev_ushr (x0 - ((ev_ushr x0 1) &&& 1431655765)) 2) &&& 858993459)) + (ev_ushr (((x0 - ((ev_ushr x0 1) &&& 1431655765)) &&& 858993459) + ((ev_ushr (x0 - ((ev_ushr x0 1) &&& 1431655765)) 2) &&& 858993459)) 4)) &&& 252645135) 8)) 16)))]) (st' := [.int ((((((((x0 - ((ev_ushr x0 1) &&& 1431655765)) &&& 858993459) + ((ev_ushr (x0 - ((ev_ushr x0 1) &&& 1431655765)) 2) &&& 858993459)) + (ev_ushr (((x0 - ((ev_ushr x0 1) &&& 1431655765)) &&& 858993459) + ((ev_ushr (x0 - ((ev_ushr x0 1) &&& 1431655765)) 2) &&& 858993459)) 4)) &&& 252645135) + (ev_ushr (((((x0 - ((ev_ushr x0 1) &&& 1431655765)) &&& 858993459) + ((ev_ushr (x0 - ((ev_ushr x0 1) &&& 1431655765)) 2) &&& 858993459)) + (ev_ushr (((x0 - ((ev_ushr x0 1) &&& 1431655765)) &&& 858993459) + ((ev_ushr (x0 - ((ev_ushr x0 1) &&& 1431655765)) 2) &&& 858993459)) 4)) &&& 252645135) 8)) + (ev_ushr ((((((x0 - ((ev_ushr x0 1) &&& 1431655765)) &&& 858993459) + ((ev_ushr (x0 - ((ev_ushr x0 1) &&& 1431655765)) 2) &&& 858993459)) + (ev_ushr (((x0 - ((ev_ushr x0 1) &&& 1431655765)) &&& 858993459) + ((ev_ushr (x0 - ((ev_ushr x0 1) &&& 1431655765)) 2) &&& 858993459)) 4)) &&& 252645135) + (ev_ushr (((((x0 - ((ev_ushr x0 1) &&& 1431655765)) &&& 858993459) + ((ev_ushr (x0 - ((ev_ushr x0 1) &&& 1431655765)) 2) &&& 858993459)) + (ev_ushr (((x0 - ((ev_ushr x0 1) &&& 1431655765)) &&& 858993459) + ((ev_ushr (x0 - ((ev_ushr x0 1) &&& 1431655765)) 2) &&& 858993459)) 4)) &&& 252645135) 8)) 16)) &&& 63)]) (σ' := (1057, 55, I, A)) 41 rfl (ev_T.reti rfl rfl h)

/-! java/lang/String.length()I -/
set_option maxRecDepth 100000 in
theorem t_J_length_0 {d : Nat} {I A : Nat → Nat → Int32} {K : Int32 → (Nat → Nat → Int32) → (Nat → Nat → Int32) → Prop}   (x0 : Nat) (z1 : Nat) (hg2 : x0 < 1000 ∧ ev_of x0 1280 = some (.ref z1))
    (h : ev_Bis (d + 1) 183 4 [some (.ref x0)] [.ref z1] I A K) :
    ev_Bi (d + 1) 183 0 [some (.ref x0)] I A K :=
  ev_T.adv (k' := 1) (ls' := [some (.ref x0)]) (st' := [.ref x0]) (σ' := (1057, 55, I, A)) 1 rfl (ev_T.geto rfl hg2.1 hg2.2 (h))

/-! java/lang/String.charAt(I)C -/
set_option maxRecDepth 100000 in
theorem t_J_charAt_0 {d : Nat} {I A : Nat → Nat → Int32} {K : Int32 → (Nat → Nat → Int32) → (Nat → Nat → Int32) → Prop}   (x0 : Nat) (x1 : Int32) (z5 : Nat) (z7 : Nat) (hsx0 : x0 < 110) (hg6 : x0 < 1000 ∧ ev_of x0 1280 = some (.ref z5)) (hg8 : x0 < 1000 ∧ ev_of x0 1280 = some (.ref z7))
    (h : ev_Bi d 186 0 [some (.ref x0)] I A (fun z3 I1 A2 => ((z3 = 0 → False) ∧ (¬ z3 = 0 → ev_Bi d 188 0 [some (.ref z7), some (.int x1)] I1 A2 (fun z11 I9 A10 => (ev_fit 3 z11 = true ∧ K z11 I9 A10)))))) :
    ev_Bi (d + 1) 184 0 [some (.ref x0), some (.int x1)] I A K :=
  ev_T.adv (k' := 1) (ls' := [some (.ref x0), some (.int x1)]) (st' := [.ref x0]) (σ' := (1057, 55, I, A)) 1 rfl (ev_T.calli (m' := 186) (as := [.ref x0]) (r := []) (K' := fun z3 I1 A2 => ((z3 = 0 → False) ∧ (¬ z3 = 0 → ev_Bi d 188 0 [some (.ref z7), some (.int x1)] I1 A2 (fun z11 I9 A10 => (ev_fit 3 z11 = true ∧ K z11 I9 A10))))) rfl (ev_scall0 hsx0 rfl) rfl h (fun z3 I1 A2 h4 => ev_T.if_eq rfl (fun c13 => ev_T.adv (k' := 17) (ls' := [some (.ref x0), some (.int x1)]) (st' := [.ref x0]) (σ' := (1057, 55, I1, A2)) 1 rfl (ev_T.geto rfl hg6.1 hg6.2 ((h4.1 c13).elim))) (fun c13 => ev_T.adv (k' := 8) (ls' := [some (.ref x0), some (.int x1)]) (st' := [.ref x0]) (σ' := (1057, 55, I1, A2)) 1 rfl (ev_T.geto rfl hg8.1 hg8.2 (ev_T.adv (k' := 12) (ls' := [some (.ref x0), some (.int x1)]) (st' := [.int x1, .ref z7]) (σ' := (1057, 55, I1, A2)) 1 rfl (ev_T.calli (m' := 188) (as := [.ref z7, .int x1]) (r := []) (K' := fun z11 I9 A10 => (ev_fit 3 z11 = true ∧ K z11 I9 A10)) rfl rfl rfl (h4.2 c13) (fun z11 I9 A10 h12 => ev_T.retz rfl rfl h12.1 h12.2)))))))

/-! java/lang/String.coder()B -/
set_option maxRecDepth 100000 in
theorem t_J_coder_0 {d : Nat} {I A : Nat → Nat → Int32} {K : Int32 → (Nat → Nat → Int32) → (Nat → Nat → Int32) → Prop}   (x0 : Nat) (z1 : Int32) (hg2 : x0 < 1000 ∧ ev_of x0 1281 = some (.int z1))
    (h : (ev_fit 6 z1 = true ∧ K z1 I A)) :
    ev_Bi d 185 0 [some (.ref x0)] I A K :=
  ev_T.adv (k' := 7) (ls' := [some (.ref x0)]) (st' := [.ref x0]) (σ' := (1057, 55, I, A)) 3 rfl (ev_T.geto rfl hg2.1 hg2.2 (ev_T.adv (k' := 14) (ls' := [some (.ref x0)]) (st' := [.int z1]) (σ' := (1057, 55, I, A)) 1 rfl (ev_T.retz rfl rfl h.1 h.2)))

/-! java/lang/String.isLatin1()Z -/
set_option maxRecDepth 100000 in
theorem t_J_isLatin1_0 {d : Nat} {I A : Nat → Nat → Int32} {K : Int32 → (Nat → Nat → Int32) → (Nat → Nat → Int32) → Prop}   (x0 : Nat) (z1 : Int32) (hg2 : x0 < 1000 ∧ ev_of x0 1281 = some (.int z1))
    (h : ((z1 = 0 → K 1 I A) ∧ (¬ z1 = 0 → K 0 I A))) :
    ev_Bi d 186 0 [some (.ref x0)] I A K :=
  ev_T.adv (k' := 7) (ls' := [some (.ref x0)]) (st' := [.ref x0]) (σ' := (1057, 55, I, A)) 3 rfl (ev_T.geto rfl hg2.1 hg2.2 (ev_T.if_ne rfl (fun c3 => ev_T.adv (k' := 18) (ls' := [some (.ref x0)]) (st' := [.int 1]) (σ' := (1057, 55, I, A)) 2 rfl (ev_T.retz rfl rfl (by decide) (h.1 c3))) (fun c3 => ev_T.adv (k' := 18) (ls' := [some (.ref x0)]) (st' := [.int 0]) (σ' := (1057, 55, I, A)) 1 rfl (ev_T.retz rfl rfl (by decide) (h.2 c3)))))

/-! java/lang/String.checkIndex(II)V -/
set_option maxRecDepth 100000 in
theorem t_J_checkIndex_0 {d : Nat} {I A : Nat → Nat → Int32} {K : (Nat → Nat → Int32) → (Nat → Nat → Int32) → Prop}   (x0 : Int32) (x1 : Int32)  
    (h : ev_Bi d 189 0 [some (.int x0), some (.int x1), some (.ref 503)] I A (fun z3 I1 A2 => K I1 A2)) :
    ev_Bv (d + 1) 187 0 [some (.int x0), some (.int x1)] I A K :=
  ev_T.adv (k' := 5) (ls' := [some (.int x0), some (.int x1)]) (st' := [.ref 503, .int x1, .int x0]) (σ' := (1057, 55, I, A)) 3 rfl (ev_T.calli (m' := 189) (as := [.int x0, .int x1, .ref 503]) (r := []) (K' := fun z3 I1 A2 => K I1 A2) rfl rfl rfl h (fun z3 I1 A2 h4 => ev_T.adv (k' := 9) (ls' := [some (.int x0), some (.int x1)]) (st' := []) (σ' := (1057, 55, I1, A2)) 1 rfl (ev_T.retv rfl rfl h4)))

/-! java/lang/StringLatin1.charAt([BI)C -/
set_option maxRecDepth 100000 in
theorem t_J1_charAt_0 {d : Nat} {I A : Nat → Nat → Int32} {K : Int32 → (Nat → Nat → Int32) → (Nat → Nat → Int32) → Prop}   (x0 : Nat) (x1 : Int32)  
    (h : ev_Bis (d + 1) 188 2 [some (.ref x0), some (.int x1)] [.ref x0, .int x1] I A K) :
    ev_Bi (d + 1) 188 0 [some (.ref x0), some (.int x1)] I A K :=
  ev_T.adv (k' := 2) (ls' := [some (.ref x0), some (.int x1)]) (st' := [.ref x0, .int x1]) (σ' := (1057, 55, I, A)) 2 rfl (h)

/-! jdk/internal/util/Preconditions.checkIndex(IILjava/util/function/BiFunction;)I -/
set_option maxRecDepth 100000 in
theorem t_J3_checkIndex_0 {d : Nat} {I A : Nat → Nat → Int32} {K : Int32 → (Nat → Nat → Int32) → (Nat → Nat → Int32) → Prop}   (x0 : Int32) (x1 : Int32) (x2 : Nat)  
    (h : ((x0 < 0 → ev_Bi d 189 9 [some (.int x0), some (.int x1), some (.ref x2)] I A K) ∧ (¬ x0 < 0 → ((x0 < x1 → K x0 I A) ∧ (¬ x0 < x1 → ev_Bi d 189 9 [some (.int x0), some (.int x1), some (.ref x2)] I A K))))) :
    ev_Bi d 189 0 [some (.int x0), some (.int x1), some (.ref x2)] I A K :=
  ev_T.adv (k' := 1) (ls' := [some (.int x0), some (.int x1), some (.ref x2)]) (st' := [.int x0]) (σ' := (1057, 55, I, A)) 1 rfl (ev_T.if_lt rfl (fun c2 => (h.1 c2)) (fun c2 => ev_T.adv (k' := 6) (ls' := [some (.int x0), some (.int x1), some (.ref x2)]) (st' := [.int x1, .int x0]) (σ' := (1057, 55, I, A)) 2 rfl (ev_T.icmp_lt rfl (fun c1 => ev_T.adv (k' := 17) (ls' := [some (.int x0), some (.int x1), some (.ref x2)]) (st' := [.int x0]) (σ' := (1057, 55, I, A)) 1 rfl (ev_T.reti rfl rfl ((h.2 c2).1 c1))) (fun c1 => ((h.2 c2).2 c1)))))
set_option maxRecDepth 100000 in
theorem t_J3_checkIndex_9 {d : Nat} {I A : Nat → Nat → Int32} {K : Int32 → (Nat → Nat → Int32) → (Nat → Nat → Int32) → Prop}   (x0 : Int32) (x1 : Int32) (x2 : Nat)  
    (h : False) :
    ev_Bi d 189 9 [some (.int x0), some (.int x1), some (.ref x2)] I A K :=
  h.elim
end
section
/-! NUMBERS AND BUFFERS -/
theorem nI_lit (n : Nat) : (OfNat.ofNat n : Int32) = nI n := rfl
theorem nI_sub {a b : Nat} (h : b ≤ a) : nI a - nI b = nI (a - b) := by
  have h1 : nI a = nI (a - b) + nI b := by rw [nI_add]; congr 1; omega
  rw [h1, Int32.add_sub_cancel]
theorem nI_mul (a b : Nat) : nI a * nI b = nI (a * b) := (Int32.ofNat_mul a b).symm
theorem nI_neg {n : Nat} (h : n < 2 ^ 31) {x : Int32} (hx : x < 0) : ¬ nI n = x := by
  intro e
  rw [← e] at hx
  exact nI_pos h hx
theorem nI_subneg {a b : Nat} (ha : a < b) (hb : b < 2 ^ 31) : nI a - nI b < 0 := by
  have h1 : (nI a - nI b).toInt = (a : Int) - b := by
    rw [Int32.toInt_sub, nI_toInt (by omega), nI_toInt hb]
    exact Int.bmod_eq_of_le (by simp; omega) (by simp; omega)
  rw [Int32.lt_iff_toInt_lt, h1, Int32.toInt_zero]
  omega
theorem vp_in_iff {n N : Nat} (hn : n < 2 ^ 31) (hN : N < 2 ^ 31) : vp_in (nI n) N ↔ n < N := by
  constructor
  · intro h
    rcases Nat.lt_or_ge n N with g | g
    · exact g
    · exfalso
      apply h
      right
      rw [nI_clamp hn]
      exact g
  · intro h
    exact vp_in_nI h hN
theorem ev_fit3 {n : Nat} (h : n < 65536) : ev_fit 3 (nI n) = true := by
  simp only [ev_fit, Bool.and_eq_true, decide_eq_true_eq]
  exact ⟨nI_pos' (by omega), (nI_leI (b := 65535) (by omega) (by omega)).mpr (by omega)⟩
theorem ev_fit3_nar {x : Int32} (h : ev_fit 3 x = true) : vp_nar .char x = x := by
  simp only [ev_fit, Bool.and_eq_true, decide_eq_true_eq] at h
  show x.toUInt32.toUInt16.toUInt32.toInt32 = x
  exact ev_char h.1 h.2
theorem ev_nar_b0 : vp_nar .boolean 0 = 0 := by decide
theorem ev_nar_b1 : vp_nar .boolean 1 = 1 := by decide
/-- the text of a constant -/
abbrev tx (x : Nat) : List Int32 := ev_txs.getD x []
theorem tx_ok : ∀ l ∈ ev_txs, l.length ≤ 8 ∧ ∀ b ∈ l, ev_i2c (b &&& 255) = b ∧ ev_fit 3 b = true := by decide +kernel
theorem tx_len (x : Nat) : (tx x).length ≤ 8 := by
  unfold tx
  rw [List.getD_eq_getElem?_getD]
  cases h : ev_txs[x]? with
  | none => simp
  | some l => exact (tx_ok l (List.mem_of_getElem? h)).1
theorem tx_mem {x : Nat} {b : Int32} (h : b ∈ tx x) : ev_i2c (b &&& 255) = b ∧ ev_fit 3 b = true := by
  unfold tx at h
  rw [List.getD_eq_getElem?_getD] at h
  cases hc : ev_txs[x]? with
  | none => rw [hc] at h; cases h
  | some l => rw [hc] at h; exact (tx_ok l (List.mem_of_getElem? hc)).2 b h
theorem getD_mem {l : List Int32} {i : Nat} (h : i < l.length) : l.getD i 0 ∈ l := by
  rw [List.getD_eq_getElem?_getD, List.getElem?_eq_getElem h]
  exact List.getElem_mem h
/-- a buffer of Letters holds w -/
def bu (I A : Nat → Nat → Int32) (L : Nat) (w : List Int32) : Prop := I L 1 = nI w.length ∧ w.length ≤ 24 ∧ (∀ j, j < w.length → A (L + 1) j = w.getD j 0) ∧ ∀ b ∈ w, ev_fit 3 b = true
/-- nothing but that buffer has changed -/
def fr (L : Nat) (I A I' A' : Nat → Nat → Int32) : Prop := (∀ x k, x ≠ L → I' x k = I x k) ∧ ∀ x j, x ≠ L + 1 → A' x j = A x j
theorem fr.rf {L : Nat} {I A : Nat → Nat → Int32} : fr L I A I A := ⟨fun _ _ _ => rfl, fun _ _ _ => rfl⟩
theorem fr.tr {L : Nat} {I A I' A' I2 A2 : Nat → Nat → Int32} (h : fr L I A I' A') (g : fr L I' A' I2 A2) : fr L I A I2 A2 := ⟨fun x k hx => (g.1 x k hx).trans (h.1 x k hx), fun x j hx => (g.2 x j hx).trans (h.2 x j hx)⟩
theorem fr.iu {L k : Nat} {v : Int32} {I A : Nat → Nat → Int32} : fr L I A (ev_upd I L k v) A := ⟨fun x k hx => ev_upd_ne hx k, fun _ _ _ => rfl⟩
theorem fr.au {L k : Nat} {v : Int32} {I A : Nat → Nat → Int32} : fr L I A I (ev_upd A (L + 1) k v) := ⟨fun _ _ _ => rfl, fun x j hx => ev_upd_ne hx j⟩
theorem bu.lt {I A : Nat → Nat → Int32} {L : Nat} {w : List Int32} (h : bu I A L w) : w.length < 2 ^ 31 := by
  have := h.2.1
  omega
theorem ev_upd_eq {f : Nat → Nat → Int32} {a k : Nat} {v : Int32} : ev_upd f a k v a k = v := by simp [ev_upd]
theorem isL_ne {L : Nat} (h : ev_isL L) : L + 1 ≠ L := by omega
theorem getD_app1 {w : List Int32} {c : Int32} {j : Nat} : (w ++ [c]).getD j 0 = if j = w.length then c else w.getD j 0 := by
  rw [List.getD_eq_getElem?_getD, List.getD_eq_getElem?_getD]
  by_cases h : j < w.length
  · rw [List.getElem?_append_left h, if_neg (by omega)]
  · rw [List.getElem?_append_right (by omega)]
    by_cases h2 : j = w.length
    · subst h2
      simp
    · rw [if_neg h2, List.getElem?_eq_none (by simp; omega), List.getElem?_eq_none (by omega)]
end
section
/-! STRINGS AND LETTERS: contracts -/
section CTR
variable {d : Nat} {I A : Nat → Nat → Int32}
theorem of_val {x : Nat} (hx : x < 110) : x < 1000 ∧ ev_of x 1280 = some (.ref (200 + x)) := ⟨by omega, by simp [ev_of, hx]⟩
theorem of_cod {x : Nat} (hx : x < 110) : x < 1000 ∧ ev_of x 1281 = some (.int 0) := ⟨by omega, by simp [ev_of, hx]⟩
theorem oa_txt (σ : ev_M) {x : Nat} (hx : x < 110) : ev_len σ (200 + x) = some (3, (tx x).length) ∧ ∀ j, ev_get σ (200 + x) j = .int ((tx x).getD j 0) := by
  have h : ev_oa σ (200 + x) = some (3, (tx x).length, fun j => .int ((tx x).getD j 0)) := by
    unfold ev_oa
    rw [if_neg (by omega), if_neg (by omega), if_neg (by omega), if_pos (by omega), show 200 + x - 200 = x by omega]
  refine ⟨?_, fun j => ?_⟩
  · unfold ev_len
    rw [if_pos (by omega), h]
  · unfold ev_get
    rw [if_pos (by omega), h]
theorem shr0 (x : Int32) : x >>> ((0 : Int32) &&& 31) = x := by
  have : ((0 : Int32) &&& 31) = 0 := by decide
  rw [this]
  exact Int32.shiftRight_zero
set_option maxRecDepth 100000 in
theorem c_length {K : Int32 → (Nat → Nat → Int32) → (Nat → Nat → Int32) → Prop} {x : Nat} (hx : x < 110) (h : K (nI (tx x).length) I A) : ev_Bi (d + 1) 183 0 [some (.ref x)] I A K := by
  refine t_J_length_0 x (200 + x) (of_val hx) ?_
  refine ev_T.step (k' := 5) (ls' := [some (.ref x)]) (st' := [.int (nI (tx x).length)]) (σ' := (1057, 55, I, A)) rfl (by simp only [ev_step, ev_r, (oa_txt (1057, 55, I, A) hx).1]; rfl) ?_
  refine ev_T.adv (k' := 6) (ls' := [some (.ref x)]) (st' := [.ref x, .int (nI (tx x).length)]) (σ' := (1057, 55, I, A)) 1 rfl ?_
  refine ev_T.calli (m' := 185) (as := [.ref x]) (r := [.int (nI (tx x).length)]) (K' := fun z I' A' => z = 0 ∧ I' = I ∧ A' = A) rfl (ev_scall0 hx rfl) rfl (t_J_coder_0 x 0 (of_cod hx) ⟨rfl, rfl, rfl, rfl⟩) ?_
  rintro z I' A' ⟨rfl, rfl, rfl⟩
  refine ev_T.adv (k' := 10) (ls' := [some (.ref x)]) (st' := [.int (nI (tx x).length >>> ((0 : Int32) &&& 31))]) (σ' := (1057, 55, I', A')) 1 rfl ?_
  rw [shr0]
  exact ev_T.reti rfl rfl h
set_option maxRecDepth 100000 in
theorem c_charAt {K : Int32 → (Nat → Nat → Int32) → (Nat → Nat → Int32) → Prop} {x i : Nat} (hx : x < 110) (hi : i < (tx x).length) (h : K ((tx x).getD i 0) I A) : ev_Bi (d + 4) 184 0 [some (.ref x), some (.int (nI i))] I A K := by
  have hl := tx_len x
  have hm := tx_mem (getD_mem hi)
  refine t_J_charAt_0 x (nI i) (200 + x) (200 + x) hx (of_val hx) (of_val hx) ?_
  refine t_J_isLatin1_0 x 0 (of_cod hx) ⟨fun _ => ⟨fun c => absurd c (by decide), fun _ => ?_⟩, fun c => absurd rfl c⟩
  refine t_J1_charAt_0 (200 + x) (nI i) ?_
  refine ev_T.step (k' := 3) (ls' := [some (.ref (200 + x)), some (.int (nI i))]) (st' := [.int (nI (tx x).length), .int (nI i)]) (σ' := (1057, 55, I, A)) rfl (by simp only [ev_step, ev_r, (oa_txt (1057, 55, I, A) hx).1]; rfl) ?_
  refine ev_T.callv (m' := 187) (as := [.int (nI i), .int (nI (tx x).length)]) (r := []) (K' := fun I' A' => I' = I ∧ A' = A) rfl rfl rfl (t_J_checkIndex_0 _ _ (t_J3_checkIndex_0 _ _ _ ⟨fun c => absurd c (nI_pos (by omega)), fun _ => ⟨fun _ => ⟨rfl, rfl⟩, fun c => absurd (nI_lt hi (by omega)) c⟩⟩)) ?_
  rintro I' A' ⟨rfl, rfl⟩
  refine ev_T.adv (k' := 8) (ls' := [some (.ref (200 + x)), some (.int (nI i))]) (st' := [.int (nI i), .ref (200 + x)]) (σ' := (1057, 55, I', A')) 2 rfl ?_
  refine ev_T.zald (v := .int ((tx x).getD i 0)) (n := (tx x).length) rfl (vp_in_nI hi (by omega)) (by rw [if_pos (by omega)]; exact (oa_txt _ hx).1) (by rw [(oa_txt _ hx).2, nI_clamp (by omega)]) ?_
  refine ev_T.adv (k' := 14) (ls' := [some (.ref (200 + x)), some (.int (nI i))]) (st' := [.int (ev_i2c ((tx x).getD i 0 &&& 255))]) (σ' := (1057, 55, I', A')) 3 rfl ?_
  rw [hm.1]
  exact ev_T.retz rfl rfl hm.2 ⟨_, _, _, rfl, rfl, hm.2, h⟩
end CTR
end
section
/-! THE CONSTRUCTORS, and the law's first rows -/
set_option maxRecDepth 1000000 in
set_option maxHeartbeats 4000000 in
theorem ev_kS (I A : Nat → Nat → Int32) : ev_run 120 13 92 0 [some (.ref 1000)] [] (1001, 0, I, A) = some (none, (1033, 32, ev_upd I 1023 0 3, A)) := rfl
set_option maxRecDepth 1000000 in
set_option maxHeartbeats 4000000 in
theorem ev_kM (I A : Nat → Nat → Int32) : ev_run 120 13 118 0 [some (.ref 1033)] [] (1034, 32, I, A) = some (none, (1057, 55, ev_upd I 1033 19 3, A)) := rfl
abbrev ev_I0 (L : Nat) : Nat → Nat → Int32 := fun x k => if x = 502 then (if k = 0 then Int32.ofNat L else 0) else 0
abbrev ev_A0 (xs : Nat → Int32) : Nat → Nat → Int32 := fun x j => if x = 502 then xs j else 0
set_option maxRecDepth 1000000 in
theorem ev_first {I A : Nat → Nat → Int32} {P : Option Value → ev_M → Prop} (h : ev_T 14 190 18 [some (.ref 502), some (.ref 1000), some (.ref 1033), some (.int 0)] [] (1057, 55, ev_upd (ev_upd I 1023 0 3) 1033 19 3, A) P) :
    ev_T 14 190 0 [some (.ref 502), none, none, none] [] (1000, 0, I, A) P := by
  refine ev_T.adv (k' := 4) (ls' := [some (.ref 502), none, none, none]) (st' := [.ref 1000, .ref 1000]) (σ' := (1001, 0, I, A)) 2 rfl ?_
  refine ev_T.calls (m' := 92) (as := [.ref 1000]) (r := [.ref 1000]) (P' := fun v σ' => v = none ∧ σ' = (1033, 32, ev_upd I 1023 0 3, A)) rfl rfl ⟨120, _, _, ev_kS I A, rfl, rfl⟩ ?_
  rintro v σ' ⟨rfl, rfl⟩
  refine ev_T.adv (k' := 12) (ls' := [some (.ref 502), some (.ref 1000), none, none]) (st' := [.ref 1033, .ref 1033]) (σ' := (1034, 32, ev_upd I 1023 0 3, A)) 3 rfl ?_
  refine ev_T.calls (m' := 118) (as := [.ref 1033]) (r := [.ref 1033]) (P' := fun v σ' => v = none ∧ σ' = (1057, 55, ev_upd (ev_upd I 1023 0 3) 1033 19 3, A)) rfl rfl ⟨120, _, _, ev_kM _ A, rfl, rfl⟩ ?_
  rintro v σ' ⟨rfl, rfl⟩
  exact ev_T.adv (k' := 18) (ls' := [some (.ref 502), some (.ref 1000), some (.ref 1033), some (.int 0)]) (st' := []) (σ' := (1057, 55, ev_upd (ev_upd I 1023 0 3) 1033 19 3, A)) 3 rfl h
end
section
/-! THE LAW'S LOOP -/
theorem ev_main {L : Nat} (hL : L ≤ 3072) (xs : Nat → Int32) : ev_T 14 190 18 [some (.ref 502), some (.ref 1000), some (.ref 1033), some (.int 0)] [] (1057, 55, ev_upd (ev_upd (ev_I0 L) 1023 0 3) 1033 19 3, ev_A0 xs) (ev_Pi (fun z I A => z = 1)) := sorry
end
section
/-! THE CLAIM OUT OF ONE WALK OF THE LAW'S BODY. Your part is whole_start (and what it stands on); all else here is the same for every law, but numbers. -/
def R_law : String := "StemRulesLaw"
def lw_P (b : Addr) (xs : List Int32) (args : Array Value) (s : State) : Prop := args = #[.ref b] ∧ s.IntsAt b xs ∧ xs.length ≤ 3072 ∧ (Jvm.Cond.and given_1 narrow_1).before args s = true
def lw_Q (_ : Array Value) (s : State) (o : Outcome) (t : State) : Prop := o = .returned (some (.int 1)) ∧ Framed s o t [] 57 12214
def lw_Z (below : List Frame) (a : Array Value) (s : State) : State → Prop := fun t => ∃ o, t.status = .running ∧ Ended t below o ∧ lw_Q a s o t
/-- the law's own end, with 1 on the stack, nothing written that was there before, its room as the claim has it -/
theorem lw_ret {p : Program} {l : Launch} {e : Env} {s : State} {m : MethodId} {below : List Frame} {meth : Method} {c : Code} {b : Nat} (hx : p.tables.exec = Jvm.exec) (hb : c.code = code) (hr : meth.sig.returnType = ret) (hlocks : meth.locks = false) {pc : Nat} {H : Heap} {ls : Array Slot} (hdg : decode code pc = .ok (.ireturn, 1)) : W p l e room_1 s m #[Value.ref b] below meth c H [] 57 12214 (lw_Z below #[Value.ref b] s) (F0 m pc ls [.int 1]) := by
  intro T hT X
  obtain ⟨fs, hret, hrun, hended, hW, hframe⟩ := X.leave (v := some (.int 1)) (hlocks := hlocks) (fun h => by rw [hr] at h; cases h)
  have hmeth' : T.vm.method? m = some meth := X.method'
  refine ⟨T.setFrames fs, ?_, .returned (some (.int 1)), hrun, hended, rfl, ⟨_, rfl⟩, hW, hframe⟩
  jvm_step X.here [X.here.top, hx, hb, hdg, hmeth', hr, ret, narrow_b1]
  (try refine ⟨rfl, ?_⟩); (try refine ⟨rfl, ?_⟩)
  first | (intro acts; rw [hret _ acts rfl rfl rfl]) | rw [hret _ _ rfl rfl rfl]
  exact Steps.refl _
/-- what holds at the law's entry: the machine, the code, the tables' words (any of lw_tbl by 'hts w (by decide +kernel)'), the script of L ints xs at the cell b, what the Statement gives of the start (any of its parts by flat_of_before) -/
def lw_At (p : Program) (s : State) (m : MethodId) (meth : Method) (c : Code) (b L : Nat) (xs : Nat → Int32) : Prop :=
  p.tables.exec = Jvm.exec ∧ c.code = code ∧ meth.sig.returnType = ret ∧ c.maxLocals = 4 ∧ s.vm.findClass R_law = some m.cls ∧ (∀ w ∈ lw_tbl, w.before #[Value.ref b] s = true) ∧ va_X b L xs s s.heap ∧ b < s.heap.size ∧ meth.locks = false ∧ (Jvm.Cond.and given_1 narrow_1).before #[Value.ref b] s = true ∧ meth.name = "law"

theorem ev_slots : ev_sl 1057 - ev_sl 1000 = 12214 := by decide +kernel
set_option maxRecDepth 100000 in
set_option maxHeartbeats 4000000 in
theorem whole_start {p : Program} {e : Env} {s : State} {m : MethodId} {below : List Frame} {meth : Method} {c : Code} (l : Launch) {b L : Nat} {xs : Nat → Int32} (hL : L ≤ 3072) (C0 : lw_At p s m meth c b L xs) : W p l e room_1 s m #[Value.ref b] below meth c s.heap [] 0 0 (lw_Z below #[Value.ref b] s) (entryFrame m ([Value.ref b] : List Value).toArray 4) := by
  obtain ⟨hx, hb, hr, hml, hown, hts, hX, hbl, hlocks, hgv, hname⟩ := C0
  obtain ⟨V, dC, dI, dA, hV, hV502, hTB, hK, hO, hOA⟩ := ev_start hts hX hbl (by omega) hgv
  obtain ⟨n, v, σ', hrun, z, I, A, rfl, rfl, rfl⟩ := ev_first (ev_main hL xs)
  have hN : ev_New V s.heap.size dC dI dA (1000, 0, ev_I0 L, ev_A0 xs) s.heap := by
    refine ⟨Nat.le_refl _, rfl, fun x h1 h2 => absurd h2 (Nat.not_lt.mpr h1), fun x hx0 k => ⟨?_, ?_, ?_⟩⟩
    · simp [ev_Rf]
    · have h1 : x ≠ 502 := by
        have : 1000 ≤ x := hx0
        omega
      show (if x = 502 then (if k = 0 then Int32.ofNat L else 0) else 0) = 0
      rw [if_neg h1]
    · have h1 : x ≠ 502 := by
        have : 1000 ≤ x := hx0
        omega
      show (if x = 502 then xs k else 0) = 0
      rw [if_neg h1]
  have hA : ev_OA V s.heap.size (1000, 0, ev_I0 L, ev_A0 xs) s s.heap := hOA _ rfl (fun j _ => rfl)
  have hls : ev_ls V 4 [some (.ref 502), none, none, none] ((lg_sl ([Value.ref b]) ++ List.replicate (4 - (lg_sl ([Value.ref b])).length) Slot.unset).toArray) := by
    have h1 := ev_entry_ls hV (m := 190) (as := [.ref 502]) (Nat.le_of_ble_eq_true rfl) rfl
    rw [show ([Value.ref 502] : List Value).map (ev_av V) = [Value.ref b] by simp [ev_av, hV502]] at h1
    exact h1
  have hq : ev_nm[190]? = some (x, cL_law, ret) := rfl
  rw [lg_entry_eq]
  have key := ev_sound (dC := dC) (dI := dI) (dA := dA) ev_hok ev_hmok l hV n 14 190 0 [some (.ref 502), none, none, none] [] (1000, 0, ev_I0 L, ev_A0 xs) (some (.int 1)) (1057, 55, I, A) hrun p e room_1 s m #[Value.ref b] below meth c s.heap [] (lw_Z below #[Value.ref b] s) _ 1000 (x, cL_law, ret) hq hx hb hml hown hname hTB hK hO
    (Nat.le_of_ble_eq_true rfl) (Nat.le_of_ble_eq_true rfl) (Nat.le_refl _) (Nat.le_of_ble_eq_true rfl) (by dsimp only; rw [ev_slots]; exact Nat.le_of_ble_eq_true rfl) hN hA va_S.rf hls ?_
  · rw [Nat.sub_self, Nat.sub_self] at key
    exact key
  · intro k2 lsR' H' locs' hd hvo hN' hS'
    refine va_forget (fun q hq => hS'.2.2 q hq) ?_
    dsimp only
    rw [ev_slots]
    exact lw_ret hx hb hr hlocks hd
-- ===== YOUR PART ENDS =====
set_option maxHeartbeats 4000000 in
theorem lw_walk (l : Launch) (b : Addr) (xs : List Int32) : MetFree l x (headSpec (Jvm.Cond.code x code maxLocals ret :: tables_1) room_1) (lw_P b xs) (fun _ _ _ _ _ => True) lw_Q := by
  refine MetFree.of_bodyS (code := code) (maxLocals := maxLocals) (ret := ret) (by decide) ?_ ?_
  · intro args s m h hn
    obtain ⟨meth, c, h1, h2, h3, h4, h5, h6, -, -⟩ := Cond.code_spec hn (atoms_spec (ws := Jvm.Cond.code x code maxLocals ret :: tables_1) h _ List.mem_cons_self)
    exact ⟨meth, c, h1, h2, h3, h4, h5, h6⟩
  · intro p e s m args below meth c s₁ B hml0 hP _
    obtain ⟨rfl, hx, hbd, hgv⟩ := hP
    obtain ⟨scr, harrAt, hlist, hof, hsmall⟩ := hx
    obtain ⟨hcb, hkn, -, -⟩ := State.arrayAt?_spec harrAt
    have hown : s.vm.findClass R_law = some m.cls := findClass_of_methodNamed B.named
    have hts0 : ∀ c ∈ (Jvm.Cond.code x code maxLocals ret :: tables_1), c.before #[Value.ref b] s = true := atoms_spec (ws := Jvm.Cond.code x code maxLocals ret :: tables_1) B.pre
    have hts : ∀ w ∈ lw_tbl, w.before #[Value.ref b] s = true := k2_hts_sels lw_privs (fun w hw => hts0 w (List.mem_cons_of_mem _ hw)) lw_privs_ok
    have hml : c.maxLocals = 4 := B.maxLocals_eq (hts0 _ List.mem_cons_self)
    have X₀ : Stand p l e room_1 s m #[Value.ref b] below meth c s₁ [] 0 0 := Stand.of_body B
    have hh0 : s₁.heap = s.heap := by rw [B.state]; rfl
    have hsz : scr.slots.size = xs.length := by rw [← Array.length_toList, hlist, List.length_map]
    have hval : ∀ j : Nat, j < xs.length → scr.slots[j]? = some (.int (xs.getD j 0)) := fun j hj => by
      rw [← Array.getElem?_toList, hlist]
      simp [hj]
    have hbl : b < s.heap.size := (Array.getElem?_eq_some_iff.mp hcb).1
    have hX : va_X b xs.length (fun j => xs.getD j 0) s s.heap := ⟨scr, hcb, hof, hkn, hsz, hval⟩
    have K : W p l e room_1 s m #[Value.ref b] below meth c s₁.heap [] 0 0 (lw_Z below #[Value.ref b] s) (entryFrame m ([Value.ref b] : List Value).toArray 4) := by
      rw [hh0]
      exact whole_start l hbd ⟨B.exec, B.bytes, B.returns, hml, hown, hts, hX, hbl, B.notSynchronized, hgv, (name_of_methodNamed B.named B.method).1⟩
    obtain ⟨t, a1, o, b1, b2, b3⟩ := K s₁ rfl X₀
    exact ⟨t, o, a1, b1, b2, b3⟩
theorem lw_pre_spec {args : Array Value} {s : State} (h : (Jvm.Cond.and given_1 narrow_1).before args s = true) (hr : rest_1_c.before args s = true) : ∃ (b : Addr) (xs : List Int32), lw_P b xs args s := by
  have hs := flat_of_before _ h
  have hq := flat_of_before _ hr
  have hc : (Cond.count 1).before args s = true := hs _ (by decide +kernel)
  have harr : (Cond.arrayOf (.arg 0) .int).before args s = true := hs _ (by decide +kernel)
  have hle : (Cond.le (.length (.arg 0)) (.int 3072)).before args s = true := hs _ (by decide +kernel)
  have hlen : (Cond.isInt (.length (.arg 0))).before args s = true := hq _ (by decide +kernel)
  have hall : (Cond.all (.arg 0) (.isInt (.elem (.arg 0) (.index 0)))).before args s = true := hq _ (by decide +kernel)
  obtain ⟨b, xs, hb, hx⟩ := State.ints_of_pre rfl harr hlen hall
  have hsm : xs.length < 2 ^ 31 := hx.choose_spec.2.2.2
  have hev : (Term.length (.arg 0)).eval args s none [] s = some (.int xs.length.toInt32) := hx.length_eval hb
  have hv := Cond.le_ints hev (show (Term.int 3072).eval args s none [] s = some (.int 3072) from rfl)
  have hd : xs.length.toInt32 ≤ 3072 := by
    simpa [Cond.before, Cond.holds, hv] using hle
  have hN : xs.length ≤ 3072 := (Int32.ofNat_le_ofNat hsm (by decide)).mp (show Int32.ofNat xs.length ≤ Int32.ofNat 3072 from hd)
  exact ⟨b, xs, Cond.one_arg hc (show args[0]? = some (.ref b) from hb), hx, hN, h⟩
theorem lw_comes (l : Launch) : Comes l x (Jvm.Cond.code x code maxLocals ret :: tables_1) room_1 (fun tb e args s => Calls_1 tb e args s ∧ rest_1 tb e args s ∧ Pre_1 tb e args s)
    (fun _ _ args s o t => lw_Q args s o t) := by
  intro p e ha hc hk s m args below hf hfit hheap happ hpre
  obtain ⟨b, xs, hP⟩ := lw_pre_spec hpre.2.2 hpre.2.1
  obtain ⟨k, o, h1, h2, h3, hQ⟩ := lw_walk l b xs p e ha hc hk s m args below hf ((Spec.applies_iff_loose hf).mp happ).1 hP trivial
  exact ⟨k, o, h1, h2, h3, hQ⟩
theorem lw_frame {s t : State} {o : Outcome} {args : Array Value} (h : Framed s o t [] 57 12214) :
    Framed s o t (fieldLocs frame_1_writes args s ++ arrayLocs frame_1_arrays args s ++ staticLocs frame_1_statics s) 57 12214 := h
theorem lw_limb (L : Cond) (hL : ∀ (args : Array Value) (s t : State), L.after args s (.returned (some (.int 1))) t = true) :
    ArmFor flags0 classFile x code maxLocals ret World_1 tables_1 room_1 Calls_1 rest_1 Pre_1
      (fun tb e a s o t => postC L tb e a s o t ∧ Framed s o t (fieldLocs frame_1_writes a s ++ arrayLocs frame_1_arrays a s ++ staticLocs frame_1_statics s) 57 12214) := by
  intro l _ _ _ p e ha hc hk s m args below hf hfit hheap happ hpre
  obtain ⟨k, o, h1, h2, h3, rfl, hF⟩ := lw_comes l p e ha hc hk s m args below hf hfit hheap happ hpre
  exact ⟨k, _, h1, h2, h3, hL args s _, lw_frame hF⟩
theorem i_vc : Claimed_1_1 ∧ Claimed_1_2 := ⟨lw_limb limb_1_1 (fun args s t => by simp [limb_1_1, Cond.after, Cond.holds, Cond.value]), lw_limb limb_1_2 (fun args s t => Cond.after_iff.mpr (by
  first | (rw [show limb_1_2 = Cond.eq .result (.int 1) from rfl, Cond.eq_ints (x := 1) (y := 1) rfl rfl]; simp; done) | (simp [limb_1_2, Cond.value, Term.eval]; done)))⟩
end
