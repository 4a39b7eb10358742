abbrev c_Asm (dA : Nat → ClassId) (o b : Nat → Nat) (σ : CS) : List va_W := [[(o 144, .inr (10, [.ref (o 0), .ref (o 16), .ref (o 32), .ref (o 48), .ref (o 64), .ref (o 80), .ref (o 96), .ref (o 112), .ref (o 128), .int (σ.1 0)]))]]
abbrev w_Asm (dA : Nat → ClassId) (o b i : Nat → Nat) (sG sR sL sX sE sY sF sN sT sP sI : CS) : List va_W := [[(o 144, .inr (10, [.ref (o 0), .ref (o 16), .ref (o 32), .ref (o 48), .ref (o 64), .ref (o 80), .ref (o 96), .ref (o 112), .ref (o 128), .int (sG.1 0)]))], [(o 112, .inr (8, [.ref (o 16), .ref (o 32), .ref (o 64), .ref (o 96)]))], [(o 80, .inr (6, [.ref (o 0), .ref (o 16), .ref (o 32), .ref (o 48), .int (sL.1 0)]))], [(o 0, .inr (1, [.int (sX.1 0), .ref (b 0)]))], [(b 0, .inl (dA 2, sX.2.2 0, .inl (sX.2.1 0)))], [(o 128, .inr (9, [.ref (o 129), .ref (o 130), .int (sE.1 0), .ref (o 64), .ref (o 96), .ref (o 48)]))], [(o 129, .inr (1, [.int (sE.1 100), .ref (b 129)]))], [(b 129, .inl (dA 2, sE.2.2 0, .inl (sE.2.1 0)))], [(o 130, .inr (1, [.int (sE.1 101), .ref (b 130)]))], [(b 130, .inl (dA 2, sE.2.2 1, .inl (sE.2.1 1)))], [(o 48, .inr (1, [.int (sY.1 0), .ref (b 48)]))], [(b 48, .inl (dA 2, sY.2.2 0, .inl (sY.2.1 0)))], [(o 96, .inr (7, [.int (sF.1 0), .int (sF.1 1), .ref (o 16), .ref (o 32), .ref (o 64), .ref (o 97), .ref (o 98), .ref (o 99), .ref (o 100), .int (sF.1 2), .int (sF.1 3), .int (sF.1 4), .int (sF.1 5)]))], [(o 97, .inr (1, [.int (sF.1 100), .ref (b 97)]))], [(b 97, .inl (dA 2, sF.2.2 0, .inl (sF.2.1 0)))], [(o 98, .inr (1, [.int (sF.1 101), .ref (b 98)]))], [(b 98, .inl (dA 2, sF.2.2 1, .inl (sF.2.1 1)))], [(o 99, .inr (1, [.int (sF.1 102), .ref (b 99)]))], [(b 99, .inl (dA 2, sF.2.2 2, .inl (sF.2.1 2)))], [(o 100, .inr (1, [.int (sF.1 103), .ref (b 100)]))], [(b 100, .inl (dA 2, sF.2.2 3, .inl (sF.2.1 3)))], [(o 16, .inr (2, [.ref (o 17), .ref (o 18), .ref (o 19), .ref (o 20), .ref (o 21), .int (sN.1 1), .int (sN.1 2), .int (sN.1 3), .ref (b 26), .ref (o 22), .ref (o 23), .ref (o 24), .ref (o 25), .int (sN.1 4), .int (sN.1 0)]))], [(o 17, .inr (1, [.int (sN.1 100), .ref (b 17)]))], [(b 17, .inl (dA 2, sN.2.2 0, .inl (sN.2.1 0)))], [(o 18, .inr (1, [.int (sN.1 101), .ref (b 18)]))], [(b 18, .inl (dA 2, sN.2.2 1, .inl (sN.2.1 1)))], [(o 19, .inr (1, [.int (sN.1 102), .ref (b 19)]))], [(b 19, .inl (dA 2, sN.2.2 2, .inl (sN.2.1 2)))], [(o 20, .inr (1, [.int (sN.1 103), .ref (b 20)]))], [(b 20, .inl (dA 2, sN.2.2 3, .inl (sN.2.1 3)))], [(o 21, .inr (1, [.int (sN.1 104), .ref (b 21)]))], [(b 21, .inl (dA 2, sN.2.2 4, .inl (sN.2.1 4)))], [(o 22, .inr (1, [.int (sN.1 105), .ref (b 22)]))], [(b 22, .inl (dA 2, sN.2.2 5, .inl (sN.2.1 5)))], [(o 23, .inr (1, [.int (sN.1 106), .ref (b 23)]))], [(b 23, .inl (dA 2, sN.2.2 6, .inl (sN.2.1 6)))], [(o 24, .inr (1, [.int (sN.1 107), .ref (b 24)]))], [(b 24, .inl (dA 2, sN.2.2 7, .inl (sN.2.1 7)))], [(o 25, .inr (1, [.int (sN.1 108), .ref (b 25)]))], [(b 25, .inl (dA 2, sN.2.2 8, .inl (sN.2.1 8)))], [(b 26, .inl (dA 2, sN.2.2 20, .inl (sN.2.1 20)))], [(o 32, .inr (3, [.int (sT.1 0), .int (sT.1 1), .int (sT.1 2), .ref (b 32), .ref (b 33), .ref (b 34)]))], [(b 32, .inl (dA 2, sT.2.2 0, .inl (sT.2.1 0)))], [(b 33, .inl (dA 2, sT.2.2 1, .inl (sT.2.1 1)))], [(b 34, .inl (dA 2, sT.2.2 2, .inl (sT.2.1 2)))], [(o 64, .inr (5, [.ref (o 65), .int (sP.1 0), .int (sP.1 1), .int (sP.1 2), .int (sP.1 3), .int (sP.1 4), .int (sP.1 5), .int (sP.1 6), .int (sP.1 7), .ref (o 66), .ref (o 68), .ref (b 67)]))], [(o 65, .inr (1, [.int (sP.1 100), .ref (b 65)]))], [(b 65, .inl (dA 2, sP.2.2 0, .inl (sP.2.1 0)))], [(b 67, .inl (dA 2, sP.2.2 20, .inl (sP.2.1 20)))], [(o 66, .inr (11, [.ref (lref o b sI), .int (nI (sI.2.2 0)), .int (sI.1 0)]))], larr dA b i sI, pool o i sI]
theorem qsc_50 : Cond.selects "LineAssembler" (⟨"LineAssembler", "isLabel", "(I)Z"⟩ : MethodName) ⟨"LineAssembler", "isLabel", "(I)Z"⟩ ∈ lw_gd := lw_gds (List.mem_of_getElem? (i := 50) (by decide +kernel)) (by decide +kernel)
theorem qc_1 : (Jvm.Cond.initialized "LineAssembler") ∈ lw_gd := uc_0 (List.mem_of_getElem? (i := 1) (by decide +kernel)) (by decide +kernel)
theorem qc_54 : (Jvm.Cond.fieldLink "LineAssembler" (80 : Nat) "LineAssembler$Row" "count" "I") ∈ lw_gd := uc_0 (List.mem_of_getElem? (i := 54) (by decide +kernel)) (by decide +kernel)
theorem qc_277 : (Jvm.Cond.fieldLink "LineAssembler" (106 : Nat) "LineAssembler$Tokens" "lines" "I") ∈ lw_gd := uc_1 (List.mem_of_getElem? (i := 37) (by decide +kernel)) (by decide +kernel)
theorem qc_347 : (Jvm.Cond.fieldLink "LineAssembler" (174 : Nat) "LineAssembler$Item" "word" "I") ∈ lw_gd := uc_1 (List.mem_of_getElem? (i := 107) (by decide +kernel)) (by decide +kernel)
theorem qc_386 : (Jvm.Cond.fieldLink "LineAssembler" (137 : Nat) "LineAssembler$Program" "labels" "LLineAssembler$Row;") ∈ lw_gd := uc_1 (List.mem_of_getElem? (i := 146) (by decide +kernel)) (by decide +kernel)
theorem qc_388 : (Jvm.Cond.fieldLink "LineAssembler" (140 : Nat) "LineAssembler$Program" "constants" "I") ∈ lw_gd := uc_1 (List.mem_of_getElem? (i := 148) (by decide +kernel)) (by decide +kernel)
theorem qc_394 : (Jvm.Cond.fieldLink "LineAssembler" (131 : Nat) "LineAssembler$Program" "textEnd" "I") ∈ lw_gd := uc_1 (List.mem_of_getElem? (i := 154) (by decide +kernel)) (by decide +kernel)
theorem qc_396 : (Jvm.Cond.fieldLink "LineAssembler" (134 : Nat) "LineAssembler$Program" "dataBegin" "I") ∈ lw_gd := uc_1 (List.mem_of_getElem? (i := 156) (by decide +kernel)) (by decide +kernel)
theorem qc_533 : (Jvm.Cond.fieldLink "LineAssembler" (156 : Nat) "LineAssembler$Encoder" "image" "LLineAssembler$Row;") ∈ lw_gd := uc_2 (List.mem_of_getElem? (i := 53) (by decide +kernel)) (by decide +kernel)
theorem qc_535 : (Jvm.Cond.fieldLink "LineAssembler" (188 : Nat) "LineAssembler$Encoder" "lines" "LLineAssembler$Row;") ∈ lw_gd := uc_2 (List.mem_of_getElem? (i := 55) (by decide +kernel)) (by decide +kernel)
theorem qc_537 : (Jvm.Cond.fieldLink "LineAssembler" (143 : Nat) "LineAssembler$Encoder" "rounds" "I") ∈ lw_gd := uc_2 (List.mem_of_getElem? (i := 57) (by decide +kernel)) (by decide +kernel)
theorem qc_554 : (Jvm.Cond.fieldLink "LineAssembler" (10 : Nat) "LineAssembler" "text" "LLineAssembler$Row;") ∈ lw_gd := uc_2 (List.mem_of_getElem? (i := 74) (by decide +kernel)) (by decide +kernel)
theorem qc_555 : (Jvm.Cond.fieldLink "LineAssembler" (19 : Nat) "LineAssembler" "names" "LLineAssembler$Names;") ∈ lw_gd := uc_2 (List.mem_of_getElem? (i := 75) (by decide +kernel)) (by decide +kernel)
theorem qc_556 : (Jvm.Cond.fieldLink "LineAssembler" (26 : Nat) "LineAssembler" "tokens" "LLineAssembler$Tokens;") ∈ lw_gd := uc_2 (List.mem_of_getElem? (i := 76) (by decide +kernel)) (by decide +kernel)
theorem qc_558 : (Jvm.Cond.fieldLink "LineAssembler" (36 : Nat) "LineAssembler" "program" "LLineAssembler$Program;") ∈ lw_gd := uc_2 (List.mem_of_getElem? (i := 78) (by decide +kernel)) (by decide +kernel)
theorem qc_559 : (Jvm.Cond.fieldLink "LineAssembler" (45 : Nat) "LineAssembler" "lexer" "LLineAssembler$Lexer;") ∈ lw_gd := uc_2 (List.mem_of_getElem? (i := 79) (by decide +kernel)) (by decide +kernel)
theorem qc_560 : (Jvm.Cond.fieldLink "LineAssembler" (54 : Nat) "LineAssembler" "formulas" "LLineAssembler$Formulas;") ∈ lw_gd := uc_2 (List.mem_of_getElem? (i := 80) (by decide +kernel)) (by decide +kernel)
theorem qc_561 : (Jvm.Cond.fieldLink "LineAssembler" (63 : Nat) "LineAssembler" "parser" "LLineAssembler$Parser;") ∈ lw_gd := uc_2 (List.mem_of_getElem? (i := 81) (by decide +kernel)) (by decide +kernel)
theorem qc_562 : (Jvm.Cond.fieldLink "LineAssembler" (72 : Nat) "LineAssembler" "encoder" "LLineAssembler$Encoder;") ∈ lw_gd := uc_2 (List.mem_of_getElem? (i := 82) (by decide +kernel)) (by decide +kernel)
theorem qc_563 : (Jvm.Cond.fieldLink "LineAssembler" (76 : Nat) "LineAssembler" "assembled" "Z") ∈ lw_gd := uc_2 (List.mem_of_getElem? (i := 83) (by decide +kernel)) (by decide +kernel)
theorem qc_589 : (Jvm.Cond.constant "LineAssembler" (84 : Nat) (65536 : Int32)) ∈ lw_gd := uc_2 (List.mem_of_getElem? (i := 109) (by decide +kernel)) (by decide +kernel)
theorem qc_590 : (Jvm.Cond.methodLink "LineAssembler" (85 : Nat) ({ cls := "LineAssembler", name := "isOfText", desc := "(I)Z" } : Jvm.MethodName)) ∈ lw_gd := uc_2 (List.mem_of_getElem? (i := 110) (by decide +kernel)) (by decide +kernel)
theorem qc_591 : (Jvm.Cond.static ({ cls := "LineAssembler", name := "isOfText", desc := "(I)Z" } : Jvm.MethodName)) ∈ lw_gd := uc_2 (List.mem_of_getElem? (i := 111) (by decide +kernel)) (by decide +kernel)
theorem qc_592 : (Jvm.Cond.code ({ cls := "LineAssembler", name := "isOfText", desc := "(I)Z" } : Jvm.MethodName) prog_1_method_12_code (1 : Nat) (Option.some Jvm.ClassFile.FieldType.boolean)) ∈ lw_gd := uc_2 (List.mem_of_getElem? (i := 112) (by decide +kernel)) (by decide +kernel)
theorem qc_593 : (Jvm.Cond.methodLink "LineAssembler" (89 : Nat) ({ cls := "LineAssembler$Row", name := "add", desc := "(I)V" } : Jvm.MethodName)) ∈ lw_gd := uc_2 (List.mem_of_getElem? (i := 113) (by decide +kernel)) (by decide +kernel)
theorem qc_598 : (Jvm.Cond.methodLink "LineAssembler" (93 : Nat) ({ cls := "LineAssembler$Row", name := "cut", desc := "(I)V" } : Jvm.MethodName)) ∈ lw_gd := uc_2 (List.mem_of_getElem? (i := 118) (by decide +kernel)) (by decide +kernel)
theorem qc_603 : (Jvm.Cond.methodLink "LineAssembler" (96 : Nat) ({ cls := "LineAssembler$Names", name := "forget", desc := "()V" } : Jvm.MethodName)) ∈ lw_gd := uc_2 (List.mem_of_getElem? (i := 123) (by decide +kernel)) (by decide +kernel)
theorem qc_604 : (Jvm.Cond.instanceMethod ({ cls := "LineAssembler$Names", name := "forget", desc := "()V" } : Jvm.MethodName)) ∈ lw_gd := uc_2 (List.mem_of_getElem? (i := 124) (by decide +kernel)) (by decide +kernel)
theorem qc_605 : (Jvm.Cond.selects "LineAssembler$Names" ({ cls := "LineAssembler$Names", name := "forget", desc := "()V" } : Jvm.MethodName) ({ cls := "LineAssembler$Names", name := "forget", desc := "()V" } : Jvm.MethodName)) ∈ lw_gd := uc_2 (List.mem_of_getElem? (i := 125) (by decide +kernel)) (by decide +kernel)
theorem qc_606 : (Jvm.Cond.code ({ cls := "LineAssembler$Names", name := "forget", desc := "()V" } : Jvm.MethodName) prog_7_method_4_code (3 : Nat) (Option.none : Option Jvm.ClassFile.FieldType)) ∈ lw_gd := uc_2 (List.mem_of_getElem? (i := 126) (by decide +kernel)) (by decide +kernel)
theorem qc_915 : (Jvm.Cond.methodLink "LineAssembler" (99 : Nat) ({ cls := "LineAssembler$Program", name := "empty", desc := "()V" } : Jvm.MethodName)) ∈ lw_gd := uc_3 (List.mem_of_getElem? (i := 195) (by decide +kernel)) (by decide +kernel)
theorem qc_916 : (Jvm.Cond.instanceMethod ({ cls := "LineAssembler$Program", name := "empty", desc := "()V" } : Jvm.MethodName)) ∈ lw_gd := uc_3 (List.mem_of_getElem? (i := 196) (by decide +kernel)) (by decide +kernel)
theorem qc_917 : (Jvm.Cond.selects "LineAssembler$Program" ({ cls := "LineAssembler$Program", name := "empty", desc := "()V" } : Jvm.MethodName) ({ cls := "LineAssembler$Program", name := "empty", desc := "()V" } : Jvm.MethodName)) ∈ lw_gd := uc_3 (List.mem_of_getElem? (i := 197) (by decide +kernel)) (by decide +kernel)
theorem qc_918 : (Jvm.Cond.code ({ cls := "LineAssembler$Program", name := "empty", desc := "()V" } : Jvm.MethodName) prog_10_method_2_code (2 : Nat) (Option.none : Option Jvm.ClassFile.FieldType)) ∈ lw_gd := uc_3 (List.mem_of_getElem? (i := 198) (by decide +kernel)) (by decide +kernel)
theorem qc_991 : (Jvm.Cond.methodLink "LineAssembler" (102 : Nat) ({ cls := "LineAssembler$Formulas", name := "empty", desc := "()V" } : Jvm.MethodName)) ∈ lw_gd := uc_4 (List.mem_of_getElem? (i := 31) (by decide +kernel)) (by decide +kernel)
theorem qc_992 : (Jvm.Cond.instanceMethod ({ cls := "LineAssembler$Formulas", name := "empty", desc := "()V" } : Jvm.MethodName)) ∈ lw_gd := uc_4 (List.mem_of_getElem? (i := 32) (by decide +kernel)) (by decide +kernel)
theorem qc_993 : (Jvm.Cond.selects "LineAssembler$Formulas" ({ cls := "LineAssembler$Formulas", name := "empty", desc := "()V" } : Jvm.MethodName) ({ cls := "LineAssembler$Formulas", name := "empty", desc := "()V" } : Jvm.MethodName)) ∈ lw_gd := uc_4 (List.mem_of_getElem? (i := 33) (by decide +kernel)) (by decide +kernel)
theorem qc_994 : (Jvm.Cond.code ({ cls := "LineAssembler$Formulas", name := "empty", desc := "()V" } : Jvm.MethodName) prog_4_method_2_code (1 : Nat) (Option.none : Option Jvm.ClassFile.FieldType)) ∈ lw_gd := uc_4 (List.mem_of_getElem? (i := 34) (by decide +kernel)) (by decide +kernel)
theorem qc_1000 : (Jvm.Cond.methodLink "LineAssembler" (103 : Nat) ({ cls := "LineAssembler$Lexer", name := "readAll", desc := "()V" } : Jvm.MethodName)) ∈ lw_gd := uc_4 (List.mem_of_getElem? (i := 40) (by decide +kernel)) (by decide +kernel)
theorem qc_1001 : (Jvm.Cond.instanceMethod ({ cls := "LineAssembler$Lexer", name := "readAll", desc := "()V" } : Jvm.MethodName)) ∈ lw_gd := uc_4 (List.mem_of_getElem? (i := 41) (by decide +kernel)) (by decide +kernel)
theorem qc_1002 : (Jvm.Cond.selects "LineAssembler$Lexer" ({ cls := "LineAssembler$Lexer", name := "readAll", desc := "()V" } : Jvm.MethodName) ({ cls := "LineAssembler$Lexer", name := "readAll", desc := "()V" } : Jvm.MethodName)) ∈ lw_gd := uc_4 (List.mem_of_getElem? (i := 42) (by decide +kernel)) (by decide +kernel)
theorem qc_1003 : (Jvm.Cond.code ({ cls := "LineAssembler$Lexer", name := "readAll", desc := "()V" } : Jvm.MethodName) prog_6_method_2_code (3 : Nat) (Option.none : Option Jvm.ClassFile.FieldType)) ∈ lw_gd := uc_4 (List.mem_of_getElem? (i := 43) (by decide +kernel)) (by decide +kernel)
theorem qc_1071 : (Jvm.Cond.methodLink "LineAssembler" (109 : Nat) ({ cls := "LineAssembler$Parser", name := "readLine", desc := "(I)I" } : Jvm.MethodName)) ∈ lw_gd := uc_4 (List.mem_of_getElem? (i := 111) (by decide +kernel)) (by decide +kernel)
theorem qc_1072 : (Jvm.Cond.instanceMethod ({ cls := "LineAssembler$Parser", name := "readLine", desc := "(I)I" } : Jvm.MethodName)) ∈ lw_gd := uc_4 (List.mem_of_getElem? (i := 112) (by decide +kernel)) (by decide +kernel)
theorem qc_1073 : (Jvm.Cond.selects "LineAssembler$Parser" ({ cls := "LineAssembler$Parser", name := "readLine", desc := "(I)I" } : Jvm.MethodName) ({ cls := "LineAssembler$Parser", name := "readLine", desc := "(I)I" } : Jvm.MethodName)) ∈ lw_gd := uc_4 (List.mem_of_getElem? (i := 113) (by decide +kernel)) (by decide +kernel)
theorem qc_1074 : (Jvm.Cond.code ({ cls := "LineAssembler$Parser", name := "readLine", desc := "(I)I" } : Jvm.MethodName) prog_9_method_2_code (4 : Nat) (Option.some Jvm.ClassFile.FieldType.int)) ∈ lw_gd := uc_4 (List.mem_of_getElem? (i := 114) (by decide +kernel)) (by decide +kernel)
theorem qc_1322 : (Jvm.Cond.methodLink "LineAssembler" (113 : Nat) ({ cls := "LineAssembler$Encoder", name := "settle", desc := "()V" } : Jvm.MethodName)) ∈ lw_gd := uc_5 (List.mem_of_getElem? (i := 122) (by decide +kernel)) (by decide +kernel)
theorem qc_1323 : (Jvm.Cond.instanceMethod ({ cls := "LineAssembler$Encoder", name := "settle", desc := "()V" } : Jvm.MethodName)) ∈ lw_gd := uc_5 (List.mem_of_getElem? (i := 123) (by decide +kernel)) (by decide +kernel)
theorem qc_1324 : (Jvm.Cond.selects "LineAssembler$Encoder" ({ cls := "LineAssembler$Encoder", name := "settle", desc := "()V" } : Jvm.MethodName) ({ cls := "LineAssembler$Encoder", name := "settle", desc := "()V" } : Jvm.MethodName)) ∈ lw_gd := uc_5 (List.mem_of_getElem? (i := 124) (by decide +kernel)) (by decide +kernel)
theorem qc_1325 : (Jvm.Cond.code ({ cls := "LineAssembler$Encoder", name := "settle", desc := "()V" } : Jvm.MethodName) prog_2_method_2_code (2 : Nat) (Option.none : Option Jvm.ClassFile.FieldType)) ∈ lw_gd := uc_5 (List.mem_of_getElem? (i := 125) (by decide +kernel)) (by decide +kernel)
theorem qc_1348 : (Jvm.Cond.methodLink "LineAssembler" (116 : Nat) ({ cls := "LineAssembler$Program", name := "end", desc := "()I" } : Jvm.MethodName)) ∈ lw_gd := uc_5 (List.mem_of_getElem? (i := 148) (by decide +kernel)) (by decide +kernel)
theorem qc_1352 : (Jvm.Cond.constant "LineAssembler" (120 : Nat) (32768 : Int32)) ∈ lw_gd := uc_5 (List.mem_of_getElem? (i := 152) (by decide +kernel)) (by decide +kernel)
theorem qc_1353 : (Jvm.Cond.methodLink "LineAssembler" (121 : Nat) ({ cls := "LineAssembler$Encoder", name := "encodeAll", desc := "()I" } : Jvm.MethodName)) ∈ lw_gd := uc_5 (List.mem_of_getElem? (i := 153) (by decide +kernel)) (by decide +kernel)
theorem qc_1354 : (Jvm.Cond.instanceMethod ({ cls := "LineAssembler$Encoder", name := "encodeAll", desc := "()I" } : Jvm.MethodName)) ∈ lw_gd := uc_5 (List.mem_of_getElem? (i := 154) (by decide +kernel)) (by decide +kernel)
theorem qc_1355 : (Jvm.Cond.selects "LineAssembler$Encoder" ({ cls := "LineAssembler$Encoder", name := "encodeAll", desc := "()I" } : Jvm.MethodName) ({ cls := "LineAssembler$Encoder", name := "encodeAll", desc := "()I" } : Jvm.MethodName)) ∈ lw_gd := uc_5 (List.mem_of_getElem? (i := 155) (by decide +kernel)) (by decide +kernel)
theorem qc_1356 : (Jvm.Cond.code ({ cls := "LineAssembler$Encoder", name := "encodeAll", desc := "()I" } : Jvm.MethodName) prog_2_method_5_code (5 : Nat) (Option.some Jvm.ClassFile.FieldType.int)) ∈ lw_gd := uc_5 (List.mem_of_getElem? (i := 156) (by decide +kernel)) (by decide +kernel)
theorem qc_1399 : (Jvm.Cond.methodLink "LineAssembler" (159 : Nat) ({ cls := "LineAssembler$Row", name := "get", desc := "(I)I" } : Jvm.MethodName)) ∈ lw_gd := uc_5 (List.mem_of_getElem? (i := 199) (by decide +kernel)) (by decide +kernel)
theorem qc_1404 : (Jvm.Cond.methodLink "LineAssembler" (167 : Nat) ({ cls := "LineAssembler$Program", name := "addressOf", desc := "(I)I" } : Jvm.MethodName)) ∈ lw_gd := uc_5 (List.mem_of_getElem? (i := 204) (by decide +kernel)) (by decide +kernel)
theorem qc_1461 : (Jvm.Cond.methodLink "LineAssembler" (162 : Nat) ({ cls := "LineAssembler", name := "isLabel", desc := "(I)Z" } : Jvm.MethodName)) ∈ lw_gd := uc_6 (List.mem_of_getElem? (i := 21) (by decide +kernel)) (by decide +kernel)
theorem qc_1463 : (Jvm.Cond.instanceMethod ({ cls := "LineAssembler", name := "isLabel", desc := "(I)Z" } : Jvm.MethodName)) ∈ lw_gd := uc_6 (List.mem_of_getElem? (i := 23) (by decide +kernel)) (by decide +kernel)
theorem qc_1464 : (Jvm.Cond.code ({ cls := "LineAssembler", name := "isLabel", desc := "(I)Z" } : Jvm.MethodName) prog_1_method_11_code (2 : Nat) (Option.some Jvm.ClassFile.FieldType.boolean)) ∈ lw_gd := uc_6 (List.mem_of_getElem? (i := 24) (by decide +kernel)) (by decide +kernel)
theorem qc_1473 : (Jvm.Cond.methodLink "LineAssembler" (170 : Nat) ({ cls := "LineAssembler$Program", name := "find", desc := "(I)LLineAssembler$Item;" } : Jvm.MethodName)) ∈ lw_gd := uc_6 (List.mem_of_getElem? (i := 33) (by decide +kernel)) (by decide +kernel)
theorem qc_1474 : (Jvm.Cond.methodLink "LineAssembler" (179 : Nat) ({ cls := "LineAssembler$Names", name := "lengthOf", desc := "(I)I" } : Jvm.MethodName)) ∈ lw_gd := uc_6 (List.mem_of_getElem? (i := 34) (by decide +kernel)) (by decide +kernel)
theorem qc_1476 : (Jvm.Cond.methodLink "LineAssembler" (184 : Nat) ({ cls := "LineAssembler$Names", name := "letterOf", desc := "(II)I" } : Jvm.MethodName)) ∈ lw_gd := uc_6 (List.mem_of_getElem? (i := 36) (by decide +kernel)) (by decide +kernel)
abbrev cC_Asm_isLabel : ByteArray := prog_1_method_11_code
def yC_Asm_isLabel : MethodName := ⟨R_Asm, "isLabel", "(I)Z"⟩
theorem dC_Asm_isLabel_0 : decode cC_Asm_isLabel 0 = .ok (.aload_n 0, 1) := by decide +kernel
theorem dC_Asm_isLabel_1 : decode cC_Asm_isLabel 1 = .ok (.getfield 76, 3) := by decide +kernel
theorem dC_Asm_isLabel_4 : decode cC_Asm_isLabel 4 = .ok (.ifCond .eq (25), 3) := by decide +kernel
theorem dC_Asm_isLabel_7 : decode cC_Asm_isLabel 7 = .ok (.iload_n 1, 1) := by decide +kernel
theorem dC_Asm_isLabel_8 : decode cC_Asm_isLabel 8 = .ok (.ifCond .lt (21), 3) := by decide +kernel
theorem dC_Asm_isLabel_11 : decode cC_Asm_isLabel 11 = .ok (.iload_n 1, 1) := by decide +kernel
theorem dC_Asm_isLabel_12 : decode cC_Asm_isLabel 12 = .ok (.aload_n 0, 1) := by decide +kernel
theorem dC_Asm_isLabel_13 : decode cC_Asm_isLabel 13 = .ok (.getfield 36, 3) := by decide +kernel
theorem dC_Asm_isLabel_16 : decode cC_Asm_isLabel 16 = .ok (.getfield 137, 3) := by decide +kernel
theorem dC_Asm_isLabel_19 : decode cC_Asm_isLabel 19 = .ok (.getfield 80, 3) := by decide +kernel
theorem dC_Asm_isLabel_22 : decode cC_Asm_isLabel 22 = .ok (.if_icmp .ge (7), 3) := by decide +kernel
theorem dC_Asm_isLabel_25 : decode cC_Asm_isLabel 25 = .ok (.iconst (1), 1) := by decide +kernel
theorem dC_Asm_isLabel_26 : decode cC_Asm_isLabel 26 = .ok (.goto (4), 3) := by decide +kernel
theorem dC_Asm_isLabel_29 : decode cC_Asm_isLabel 29 = .ok (.iconst (0), 1) := by decide +kernel
theorem dC_Asm_isLabel_30 : decode cC_Asm_isLabel 30 = .ok (.ireturn, 1) := by decide +kernel
abbrev cC_Asm_feed : ByteArray := prog_1_method_2_code
def yC_Asm_feed : MethodName := ⟨R_Asm, "feed", "(JI)Z"⟩
theorem dC_Asm_feed_0 : decode cC_Asm_feed 0 = .ok (.iload_n 3, 1) := by decide +kernel
theorem dC_Asm_feed_1 : decode cC_Asm_feed 1 = .ok (.iconst (1), 1) := by decide +kernel
theorem dC_Asm_feed_2 : decode cC_Asm_feed 2 = .ok (.if_icmp .lt (23), 3) := by decide +kernel
theorem dC_Asm_feed_5 : decode cC_Asm_feed 5 = .ok (.iload_n 3, 1) := by decide +kernel
theorem dC_Asm_feed_6 : decode cC_Asm_feed 6 = .ok (.bipush (8), 2) := by decide +kernel
theorem dC_Asm_feed_8 : decode cC_Asm_feed 8 = .ok (.if_icmp .gt (17), 3) := by decide +kernel
theorem dC_Asm_feed_11 : decode cC_Asm_feed 11 = .ok (.aload_n 0, 1) := by decide +kernel
theorem dC_Asm_feed_12 : decode cC_Asm_feed 12 = .ok (.getfield 10, 3) := by decide +kernel
theorem dC_Asm_feed_15 : decode cC_Asm_feed 15 = .ok (.getfield 80, 3) := by decide +kernel
theorem dC_Asm_feed_18 : decode cC_Asm_feed 18 = .ok (.ldc 84, 2) := by decide +kernel
theorem dC_Asm_feed_20 : decode cC_Asm_feed 20 = .ok (.iload_n 3, 1) := by decide +kernel
theorem dC_Asm_feed_21 : decode cC_Asm_feed 21 = .ok (.isub, 1) := by decide +kernel
theorem dC_Asm_feed_22 : decode cC_Asm_feed 22 = .ok (.if_icmp .le (5), 3) := by decide +kernel
theorem dC_Asm_feed_25 : decode cC_Asm_feed 25 = .ok (.iconst (0), 1) := by decide +kernel
theorem dC_Asm_feed_26 : decode cC_Asm_feed 26 = .ok (.ireturn, 1) := by decide +kernel
theorem dC_Asm_feed_27 : decode cC_Asm_feed 27 = .ok (.iconst (0), 1) := by decide +kernel
theorem dC_Asm_feed_28 : decode cC_Asm_feed 28 = .ok (.istore 4, 2) := by decide +kernel
theorem dC_Asm_feed_30 : decode cC_Asm_feed 30 = .ok (.iload 4, 2) := by decide +kernel
theorem dC_Asm_feed_32 : decode cC_Asm_feed 32 = .ok (.iload_n 3, 1) := by decide +kernel
theorem dC_Asm_feed_33 : decode cC_Asm_feed 33 = .ok (.if_icmp .ge (29), 3) := by decide +kernel
theorem dC_Asm_feed_36 : decode cC_Asm_feed 36 = .ok (.lload_n 1, 1) := by decide +kernel
theorem dC_Asm_feed_37 : decode cC_Asm_feed 37 = .ok (.bipush (8), 2) := by decide +kernel
theorem dC_Asm_feed_39 : decode cC_Asm_feed 39 = .ok (.iload 4, 2) := by decide +kernel
theorem dC_Asm_feed_41 : decode cC_Asm_feed 41 = .ok (.imul, 1) := by decide +kernel
theorem dC_Asm_feed_42 : decode cC_Asm_feed 42 = .ok (.lushr, 1) := by decide +kernel
theorem dC_Asm_feed_43 : decode cC_Asm_feed 43 = .ok (.l2i, 1) := by decide +kernel
theorem dC_Asm_feed_44 : decode cC_Asm_feed 44 = .ok (.sipush (255), 3) := by decide +kernel
theorem dC_Asm_feed_47 : decode cC_Asm_feed 47 = .ok (.iand, 1) := by decide +kernel
theorem dC_Asm_feed_48 : decode cC_Asm_feed 48 = .ok (.invokestatic 85, 3) := by decide +kernel
theorem dC_Asm_feed_51 : decode cC_Asm_feed 51 = .ok (.ifCond .ne (5), 3) := by decide +kernel
theorem dC_Asm_feed_54 : decode cC_Asm_feed 54 = .ok (.iconst (0), 1) := by decide +kernel
theorem dC_Asm_feed_55 : decode cC_Asm_feed 55 = .ok (.ireturn, 1) := by decide +kernel
theorem dC_Asm_feed_56 : decode cC_Asm_feed 56 = .ok (.iinc 4 (1), 3) := by decide +kernel
theorem dC_Asm_feed_59 : decode cC_Asm_feed 59 = .ok (.goto (-29), 3) := by decide +kernel
theorem dC_Asm_feed_62 : decode cC_Asm_feed 62 = .ok (.iload_n 3, 1) := by decide +kernel
theorem dC_Asm_feed_63 : decode cC_Asm_feed 63 = .ok (.iconst (1), 1) := by decide +kernel
theorem dC_Asm_feed_64 : decode cC_Asm_feed 64 = .ok (.isub, 1) := by decide +kernel
theorem dC_Asm_feed_65 : decode cC_Asm_feed 65 = .ok (.istore 4, 2) := by decide +kernel
theorem dC_Asm_feed_67 : decode cC_Asm_feed 67 = .ok (.iload 4, 2) := by decide +kernel
theorem dC_Asm_feed_69 : decode cC_Asm_feed 69 = .ok (.ifCond .lt (28), 3) := by decide +kernel
theorem dC_Asm_feed_72 : decode cC_Asm_feed 72 = .ok (.aload_n 0, 1) := by decide +kernel
theorem dC_Asm_feed_73 : decode cC_Asm_feed 73 = .ok (.getfield 10, 3) := by decide +kernel
theorem dC_Asm_feed_76 : decode cC_Asm_feed 76 = .ok (.lload_n 1, 1) := by decide +kernel
theorem dC_Asm_feed_77 : decode cC_Asm_feed 77 = .ok (.bipush (8), 2) := by decide +kernel
theorem dC_Asm_feed_79 : decode cC_Asm_feed 79 = .ok (.iload 4, 2) := by decide +kernel
theorem dC_Asm_feed_81 : decode cC_Asm_feed 81 = .ok (.imul, 1) := by decide +kernel
theorem dC_Asm_feed_82 : decode cC_Asm_feed 82 = .ok (.lushr, 1) := by decide +kernel
theorem dC_Asm_feed_83 : decode cC_Asm_feed 83 = .ok (.l2i, 1) := by decide +kernel
theorem dC_Asm_feed_84 : decode cC_Asm_feed 84 = .ok (.sipush (255), 3) := by decide +kernel
theorem dC_Asm_feed_87 : decode cC_Asm_feed 87 = .ok (.iand, 1) := by decide +kernel
theorem dC_Asm_feed_88 : decode cC_Asm_feed 88 = .ok (.invokevirtual 89, 3) := by decide +kernel
theorem dC_Asm_feed_91 : decode cC_Asm_feed 91 = .ok (.iinc 4 (-1), 3) := by decide +kernel
theorem dC_Asm_feed_94 : decode cC_Asm_feed 94 = .ok (.goto (-27), 3) := by decide +kernel
theorem dC_Asm_feed_97 : decode cC_Asm_feed 97 = .ok (.iconst (1), 1) := by decide +kernel
theorem dC_Asm_feed_98 : decode cC_Asm_feed 98 = .ok (.ireturn, 1) := by decide +kernel
abbrev cC_Asm_clear : ByteArray := prog_1_method_3_code
def yC_Asm_clear : MethodName := ⟨R_Asm, "clear", "()I"⟩
theorem dC_Asm_clear_0 : decode cC_Asm_clear 0 = .ok (.aload_n 0, 1) := by decide +kernel
theorem dC_Asm_clear_1 : decode cC_Asm_clear 1 = .ok (.getfield 10, 3) := by decide +kernel
theorem dC_Asm_clear_4 : decode cC_Asm_clear 4 = .ok (.getfield 80, 3) := by decide +kernel
theorem dC_Asm_clear_7 : decode cC_Asm_clear 7 = .ok (.istore_n 1, 1) := by decide +kernel
theorem dC_Asm_clear_8 : decode cC_Asm_clear 8 = .ok (.aload_n 0, 1) := by decide +kernel
theorem dC_Asm_clear_9 : decode cC_Asm_clear 9 = .ok (.getfield 10, 3) := by decide +kernel
theorem dC_Asm_clear_12 : decode cC_Asm_clear 12 = .ok (.iconst (0), 1) := by decide +kernel
theorem dC_Asm_clear_13 : decode cC_Asm_clear 13 = .ok (.invokevirtual 93, 3) := by decide +kernel
theorem dC_Asm_clear_16 : decode cC_Asm_clear 16 = .ok (.iload_n 1, 1) := by decide +kernel
theorem dC_Asm_clear_17 : decode cC_Asm_clear 17 = .ok (.ireturn, 1) := by decide +kernel
abbrev cC_Asm_line : ByteArray := prog_1_method_9_code
def yC_Asm_line : MethodName := ⟨R_Asm, "line", "(I)I"⟩
theorem dC_Asm_line_0 : decode cC_Asm_line 0 = .ok (.aload_n 0, 1) := by decide +kernel
theorem dC_Asm_line_1 : decode cC_Asm_line 1 = .ok (.getfield 76, 3) := by decide +kernel
theorem dC_Asm_line_4 : decode cC_Asm_line 4 = .ok (.ifCond .eq (32), 3) := by decide +kernel
theorem dC_Asm_line_7 : decode cC_Asm_line 7 = .ok (.iload_n 1, 1) := by decide +kernel
theorem dC_Asm_line_8 : decode cC_Asm_line 8 = .ok (.ifCond .lt (28), 3) := by decide +kernel
theorem dC_Asm_line_11 : decode cC_Asm_line 11 = .ok (.iload_n 1, 1) := by decide +kernel
theorem dC_Asm_line_12 : decode cC_Asm_line 12 = .ok (.aload_n 0, 1) := by decide +kernel
theorem dC_Asm_line_13 : decode cC_Asm_line 13 = .ok (.getfield 36, 3) := by decide +kernel
theorem dC_Asm_line_16 : decode cC_Asm_line 16 = .ok (.invokevirtual 116, 3) := by decide +kernel
theorem dC_Asm_line_19 : decode cC_Asm_line 19 = .ok (.if_icmp .ge (17), 3) := by decide +kernel
theorem dC_Asm_line_22 : decode cC_Asm_line 22 = .ok (.aload_n 0, 1) := by decide +kernel
theorem dC_Asm_line_23 : decode cC_Asm_line 23 = .ok (.getfield 72, 3) := by decide +kernel
theorem dC_Asm_line_26 : decode cC_Asm_line 26 = .ok (.getfield 188, 3) := by decide +kernel
theorem dC_Asm_line_29 : decode cC_Asm_line 29 = .ok (.iload_n 1, 1) := by decide +kernel
theorem dC_Asm_line_30 : decode cC_Asm_line 30 = .ok (.invokevirtual 159, 3) := by decide +kernel
theorem dC_Asm_line_33 : decode cC_Asm_line 33 = .ok (.goto (4), 3) := by decide +kernel
theorem dC_Asm_line_36 : decode cC_Asm_line 36 = .ok (.iconst (0), 1) := by decide +kernel
theorem dC_Asm_line_37 : decode cC_Asm_line 37 = .ok (.ireturn, 1) := by decide +kernel
abbrev cC_Asm_before : ByteArray := prog_1_method_10_code
def yC_Asm_before : MethodName := ⟨R_Asm, "before", "(I)I"⟩
theorem dC_Asm_before_0 : decode cC_Asm_before 0 = .ok (.iconst (-1), 1) := by decide +kernel
theorem dC_Asm_before_1 : decode cC_Asm_before 1 = .ok (.istore_n 2, 1) := by decide +kernel
theorem dC_Asm_before_2 : decode cC_Asm_before 2 = .ok (.iconst (0), 1) := by decide +kernel
theorem dC_Asm_before_3 : decode cC_Asm_before 3 = .ok (.istore_n 3, 1) := by decide +kernel
theorem dC_Asm_before_4 : decode cC_Asm_before 4 = .ok (.aload_n 0, 1) := by decide +kernel
theorem dC_Asm_before_5 : decode cC_Asm_before 5 = .ok (.getfield 76, 3) := by decide +kernel
theorem dC_Asm_before_8 : decode cC_Asm_before 8 = .ok (.ifCond .eq (16), 3) := by decide +kernel
theorem dC_Asm_before_11 : decode cC_Asm_before 11 = .ok (.aload_n 0, 1) := by decide +kernel
theorem dC_Asm_before_12 : decode cC_Asm_before 12 = .ok (.getfield 36, 3) := by decide +kernel
theorem dC_Asm_before_15 : decode cC_Asm_before 15 = .ok (.getfield 137, 3) := by decide +kernel
theorem dC_Asm_before_18 : decode cC_Asm_before 18 = .ok (.getfield 80, 3) := by decide +kernel
theorem dC_Asm_before_21 : decode cC_Asm_before 21 = .ok (.goto (4), 3) := by decide +kernel
theorem dC_Asm_before_24 : decode cC_Asm_before 24 = .ok (.iconst (0), 1) := by decide +kernel
theorem dC_Asm_before_25 : decode cC_Asm_before 25 = .ok (.istore 4, 2) := by decide +kernel
theorem dC_Asm_before_27 : decode cC_Asm_before 27 = .ok (.iconst (0), 1) := by decide +kernel
theorem dC_Asm_before_28 : decode cC_Asm_before 28 = .ok (.istore 5, 2) := by decide +kernel
theorem dC_Asm_before_30 : decode cC_Asm_before 30 = .ok (.iload 5, 2) := by decide +kernel
theorem dC_Asm_before_32 : decode cC_Asm_before 32 = .ok (.iload 4, 2) := by decide +kernel
theorem dC_Asm_before_34 : decode cC_Asm_before 34 = .ok (.if_icmp .ge (48), 3) := by decide +kernel
theorem dC_Asm_before_37 : decode cC_Asm_before 37 = .ok (.aload_n 0, 1) := by decide +kernel
theorem dC_Asm_before_38 : decode cC_Asm_before 38 = .ok (.getfield 36, 3) := by decide +kernel
theorem dC_Asm_before_41 : decode cC_Asm_before 41 = .ok (.aload_n 0, 1) := by decide +kernel
theorem dC_Asm_before_42 : decode cC_Asm_before 42 = .ok (.getfield 36, 3) := by decide +kernel
theorem dC_Asm_before_45 : decode cC_Asm_before 45 = .ok (.getfield 137, 3) := by decide +kernel
theorem dC_Asm_before_48 : decode cC_Asm_before 48 = .ok (.iload 5, 2) := by decide +kernel
theorem dC_Asm_before_50 : decode cC_Asm_before 50 = .ok (.invokevirtual 159, 3) := by decide +kernel
theorem dC_Asm_before_53 : decode cC_Asm_before 53 = .ok (.invokevirtual 167, 3) := by decide +kernel
theorem dC_Asm_before_56 : decode cC_Asm_before 56 = .ok (.istore 6, 2) := by decide +kernel
theorem dC_Asm_before_58 : decode cC_Asm_before 58 = .ok (.iload 6, 2) := by decide +kernel
theorem dC_Asm_before_60 : decode cC_Asm_before 60 = .ok (.iload_n 1, 1) := by decide +kernel
theorem dC_Asm_before_61 : decode cC_Asm_before 61 = .ok (.if_icmp .gt (15), 3) := by decide +kernel
theorem dC_Asm_before_64 : decode cC_Asm_before 64 = .ok (.iload 6, 2) := by decide +kernel
theorem dC_Asm_before_66 : decode cC_Asm_before 66 = .ok (.iload_n 3, 1) := by decide +kernel
theorem dC_Asm_before_67 : decode cC_Asm_before 67 = .ok (.if_icmp .lt (9), 3) := by decide +kernel
theorem dC_Asm_before_70 : decode cC_Asm_before 70 = .ok (.iload 5, 2) := by decide +kernel
theorem dC_Asm_before_72 : decode cC_Asm_before 72 = .ok (.istore_n 2, 1) := by decide +kernel
theorem dC_Asm_before_73 : decode cC_Asm_before 73 = .ok (.iload 6, 2) := by decide +kernel
theorem dC_Asm_before_75 : decode cC_Asm_before 75 = .ok (.istore_n 3, 1) := by decide +kernel
theorem dC_Asm_before_76 : decode cC_Asm_before 76 = .ok (.iinc 5 (1), 3) := by decide +kernel
theorem dC_Asm_before_79 : decode cC_Asm_before 79 = .ok (.goto (-49), 3) := by decide +kernel
theorem dC_Asm_before_82 : decode cC_Asm_before 82 = .ok (.iload_n 2, 1) := by decide +kernel
theorem dC_Asm_before_83 : decode cC_Asm_before 83 = .ok (.ireturn, 1) := by decide +kernel
abbrev cC_Asm_assemble : ByteArray := prog_1_method_4_code
def yC_Asm_assemble : MethodName := ⟨R_Asm, "assemble", "()I"⟩
theorem dC_Asm_assemble_0 : decode cC_Asm_assemble 0 = .ok (.aload_n 0, 1) := by decide +kernel
theorem dC_Asm_assemble_1 : decode cC_Asm_assemble 1 = .ok (.iconst (0), 1) := by decide +kernel
theorem dC_Asm_assemble_2 : decode cC_Asm_assemble 2 = .ok (.putfield 76, 3) := by decide +kernel
theorem dC_Asm_assemble_5 : decode cC_Asm_assemble 5 = .ok (.aload_n 0, 1) := by decide +kernel
theorem dC_Asm_assemble_6 : decode cC_Asm_assemble 6 = .ok (.getfield 19, 3) := by decide +kernel
theorem dC_Asm_assemble_9 : decode cC_Asm_assemble 9 = .ok (.invokevirtual 96, 3) := by decide +kernel
theorem dC_Asm_assemble_12 : decode cC_Asm_assemble 12 = .ok (.aload_n 0, 1) := by decide +kernel
theorem dC_Asm_assemble_13 : decode cC_Asm_assemble 13 = .ok (.getfield 36, 3) := by decide +kernel
theorem dC_Asm_assemble_16 : decode cC_Asm_assemble 16 = .ok (.invokevirtual 99, 3) := by decide +kernel
theorem dC_Asm_assemble_19 : decode cC_Asm_assemble 19 = .ok (.aload_n 0, 1) := by decide +kernel
theorem dC_Asm_assemble_20 : decode cC_Asm_assemble 20 = .ok (.getfield 54, 3) := by decide +kernel
theorem dC_Asm_assemble_23 : decode cC_Asm_assemble 23 = .ok (.invokevirtual 102, 3) := by decide +kernel
theorem dC_Asm_assemble_26 : decode cC_Asm_assemble 26 = .ok (.aload_n 0, 1) := by decide +kernel
theorem dC_Asm_assemble_27 : decode cC_Asm_assemble 27 = .ok (.getfield 45, 3) := by decide +kernel
theorem dC_Asm_assemble_30 : decode cC_Asm_assemble 30 = .ok (.invokevirtual 103, 3) := by decide +kernel
theorem dC_Asm_assemble_33 : decode cC_Asm_assemble 33 = .ok (.iconst (0), 1) := by decide +kernel
theorem dC_Asm_assemble_34 : decode cC_Asm_assemble 34 = .ok (.istore_n 1, 1) := by decide +kernel
theorem dC_Asm_assemble_35 : decode cC_Asm_assemble 35 = .ok (.iconst (1), 1) := by decide +kernel
theorem dC_Asm_assemble_36 : decode cC_Asm_assemble 36 = .ok (.istore_n 2, 1) := by decide +kernel
theorem dC_Asm_assemble_37 : decode cC_Asm_assemble 37 = .ok (.iload_n 2, 1) := by decide +kernel
theorem dC_Asm_assemble_38 : decode cC_Asm_assemble 38 = .ok (.aload_n 0, 1) := by decide +kernel
theorem dC_Asm_assemble_39 : decode cC_Asm_assemble 39 = .ok (.getfield 26, 3) := by decide +kernel
theorem dC_Asm_assemble_42 : decode cC_Asm_assemble 42 = .ok (.getfield 106, 3) := by decide +kernel
theorem dC_Asm_assemble_45 : decode cC_Asm_assemble 45 = .ok (.if_icmp .gt (33), 3) := by decide +kernel
theorem dC_Asm_assemble_48 : decode cC_Asm_assemble 48 = .ok (.iload_n 1, 1) := by decide +kernel
theorem dC_Asm_assemble_49 : decode cC_Asm_assemble 49 = .ok (.ifCond .ne (29), 3) := by decide +kernel
theorem dC_Asm_assemble_52 : decode cC_Asm_assemble 52 = .ok (.aload_n 0, 1) := by decide +kernel
theorem dC_Asm_assemble_53 : decode cC_Asm_assemble 53 = .ok (.getfield 63, 3) := by decide +kernel
theorem dC_Asm_assemble_56 : decode cC_Asm_assemble 56 = .ok (.iload_n 2, 1) := by decide +kernel
theorem dC_Asm_assemble_57 : decode cC_Asm_assemble 57 = .ok (.invokevirtual 109, 3) := by decide +kernel
theorem dC_Asm_assemble_60 : decode cC_Asm_assemble 60 = .ok (.istore_n 3, 1) := by decide +kernel
theorem dC_Asm_assemble_61 : decode cC_Asm_assemble 61 = .ok (.iload_n 3, 1) := by decide +kernel
theorem dC_Asm_assemble_62 : decode cC_Asm_assemble 62 = .ok (.ifCond .eq (10), 3) := by decide +kernel
theorem dC_Asm_assemble_65 : decode cC_Asm_assemble 65 = .ok (.iload_n 3, 1) := by decide +kernel
theorem dC_Asm_assemble_66 : decode cC_Asm_assemble 66 = .ok (.bipush (16), 2) := by decide +kernel
theorem dC_Asm_assemble_68 : decode cC_Asm_assemble 68 = .ok (.iload_n 2, 1) := by decide +kernel
theorem dC_Asm_assemble_69 : decode cC_Asm_assemble 69 = .ok (.imul, 1) := by decide +kernel
theorem dC_Asm_assemble_70 : decode cC_Asm_assemble 70 = .ok (.iadd, 1) := by decide +kernel
theorem dC_Asm_assemble_71 : decode cC_Asm_assemble 71 = .ok (.istore_n 1, 1) := by decide +kernel
theorem dC_Asm_assemble_72 : decode cC_Asm_assemble 72 = .ok (.iinc 2 (1), 3) := by decide +kernel
theorem dC_Asm_assemble_75 : decode cC_Asm_assemble 75 = .ok (.goto (-38), 3) := by decide +kernel
theorem dC_Asm_assemble_78 : decode cC_Asm_assemble 78 = .ok (.iload_n 1, 1) := by decide +kernel
theorem dC_Asm_assemble_79 : decode cC_Asm_assemble 79 = .ok (.ifCond .ne (35), 3) := by decide +kernel
theorem dC_Asm_assemble_82 : decode cC_Asm_assemble 82 = .ok (.aload_n 0, 1) := by decide +kernel
theorem dC_Asm_assemble_83 : decode cC_Asm_assemble 83 = .ok (.getfield 72, 3) := by decide +kernel
theorem dC_Asm_assemble_86 : decode cC_Asm_assemble 86 = .ok (.invokevirtual 113, 3) := by decide +kernel
theorem dC_Asm_assemble_89 : decode cC_Asm_assemble 89 = .ok (.aload_n 0, 1) := by decide +kernel
theorem dC_Asm_assemble_90 : decode cC_Asm_assemble 90 = .ok (.getfield 36, 3) := by decide +kernel
theorem dC_Asm_assemble_93 : decode cC_Asm_assemble 93 = .ok (.invokevirtual 116, 3) := by decide +kernel
theorem dC_Asm_assemble_96 : decode cC_Asm_assemble 96 = .ok (.ldc 120, 2) := by decide +kernel
theorem dC_Asm_assemble_98 : decode cC_Asm_assemble 98 = .ok (.if_icmp .le (8), 3) := by decide +kernel
theorem dC_Asm_assemble_101 : decode cC_Asm_assemble 101 = .ok (.bipush (7), 2) := by decide +kernel
theorem dC_Asm_assemble_103 : decode cC_Asm_assemble 103 = .ok (.goto (10), 3) := by decide +kernel
theorem dC_Asm_assemble_106 : decode cC_Asm_assemble 106 = .ok (.aload_n 0, 1) := by decide +kernel
theorem dC_Asm_assemble_107 : decode cC_Asm_assemble 107 = .ok (.getfield 72, 3) := by decide +kernel
theorem dC_Asm_assemble_110 : decode cC_Asm_assemble 110 = .ok (.invokevirtual 121, 3) := by decide +kernel
theorem dC_Asm_assemble_113 : decode cC_Asm_assemble 113 = .ok (.istore_n 1, 1) := by decide +kernel
theorem dC_Asm_assemble_114 : decode cC_Asm_assemble 114 = .ok (.aload_n 0, 1) := by decide +kernel
theorem dC_Asm_assemble_115 : decode cC_Asm_assemble 115 = .ok (.iload_n 1, 1) := by decide +kernel
theorem dC_Asm_assemble_116 : decode cC_Asm_assemble 116 = .ok (.ifCond .ne (7), 3) := by decide +kernel
theorem dC_Asm_assemble_119 : decode cC_Asm_assemble 119 = .ok (.iconst (1), 1) := by decide +kernel
theorem dC_Asm_assemble_120 : decode cC_Asm_assemble 120 = .ok (.goto (4), 3) := by decide +kernel
theorem dC_Asm_assemble_123 : decode cC_Asm_assemble 123 = .ok (.iconst (0), 1) := by decide +kernel
theorem dC_Asm_assemble_124 : decode cC_Asm_assemble 124 = .ok (.putfield 76, 3) := by decide +kernel
theorem dC_Asm_assemble_127 : decode cC_Asm_assemble 127 = .ok (.iload_n 1, 1) := by decide +kernel
theorem dC_Asm_assemble_128 : decode cC_Asm_assemble 128 = .ok (.ireturn, 1) := by decide +kernel
abbrev cC_Asm_size : ByteArray := prog_1_method_5_code
def yC_Asm_size : MethodName := ⟨R_Asm, "size", "(I)I"⟩
theorem dC_Asm_size_0 : decode cC_Asm_size 0 = .ok (.aload_n 0, 1) := by decide +kernel
theorem dC_Asm_size_1 : decode cC_Asm_size 1 = .ok (.getfield 76, 3) := by decide +kernel
theorem dC_Asm_size_4 : decode cC_Asm_size 4 = .ok (.ifCond .ne (13), 3) := by decide +kernel
theorem dC_Asm_size_7 : decode cC_Asm_size 7 = .ok (.new 124, 3) := by decide +kernel
theorem dC_Asm_size_17 : decode cC_Asm_size 17 = .ok (.iload_n 1, 1) := by decide +kernel
theorem dC_Asm_size_18 : decode cC_Asm_size 18 = .ok (.tableswitch (89) (0) (5) #[38, 46, 54, 62, 73, 81], 38) := by decide +kernel
theorem dC_Asm_size_56 : decode cC_Asm_size 56 = .ok (.aload_n 0, 1) := by decide +kernel
theorem dC_Asm_size_57 : decode cC_Asm_size 57 = .ok (.getfield 36, 3) := by decide +kernel
theorem dC_Asm_size_60 : decode cC_Asm_size 60 = .ok (.getfield 131, 3) := by decide +kernel
theorem dC_Asm_size_63 : decode cC_Asm_size 63 = .ok (.ireturn, 1) := by decide +kernel
theorem dC_Asm_size_64 : decode cC_Asm_size 64 = .ok (.aload_n 0, 1) := by decide +kernel
theorem dC_Asm_size_65 : decode cC_Asm_size 65 = .ok (.getfield 36, 3) := by decide +kernel
theorem dC_Asm_size_68 : decode cC_Asm_size 68 = .ok (.getfield 134, 3) := by decide +kernel
theorem dC_Asm_size_71 : decode cC_Asm_size 71 = .ok (.ireturn, 1) := by decide +kernel
theorem dC_Asm_size_72 : decode cC_Asm_size 72 = .ok (.aload_n 0, 1) := by decide +kernel
theorem dC_Asm_size_73 : decode cC_Asm_size 73 = .ok (.getfield 36, 3) := by decide +kernel
theorem dC_Asm_size_76 : decode cC_Asm_size 76 = .ok (.invokevirtual 116, 3) := by decide +kernel
theorem dC_Asm_size_79 : decode cC_Asm_size 79 = .ok (.ireturn, 1) := by decide +kernel
theorem dC_Asm_size_80 : decode cC_Asm_size 80 = .ok (.aload_n 0, 1) := by decide +kernel
theorem dC_Asm_size_81 : decode cC_Asm_size 81 = .ok (.getfield 36, 3) := by decide +kernel
theorem dC_Asm_size_84 : decode cC_Asm_size 84 = .ok (.getfield 137, 3) := by decide +kernel
theorem dC_Asm_size_87 : decode cC_Asm_size 87 = .ok (.getfield 80, 3) := by decide +kernel
theorem dC_Asm_size_90 : decode cC_Asm_size 90 = .ok (.ireturn, 1) := by decide +kernel
theorem dC_Asm_size_91 : decode cC_Asm_size 91 = .ok (.aload_n 0, 1) := by decide +kernel
theorem dC_Asm_size_92 : decode cC_Asm_size 92 = .ok (.getfield 36, 3) := by decide +kernel
theorem dC_Asm_size_95 : decode cC_Asm_size 95 = .ok (.getfield 140, 3) := by decide +kernel
theorem dC_Asm_size_98 : decode cC_Asm_size 98 = .ok (.ireturn, 1) := by decide +kernel
theorem dC_Asm_size_99 : decode cC_Asm_size 99 = .ok (.aload_n 0, 1) := by decide +kernel
theorem dC_Asm_size_100 : decode cC_Asm_size 100 = .ok (.getfield 72, 3) := by decide +kernel
theorem dC_Asm_size_103 : decode cC_Asm_size 103 = .ok (.getfield 143, 3) := by decide +kernel
theorem dC_Asm_size_106 : decode cC_Asm_size 106 = .ok (.ireturn, 1) := by decide +kernel
theorem dC_Asm_size_107 : decode cC_Asm_size 107 = .ok (.new 146, 3) := by decide +kernel
abbrev cC_Asm_byteAt : ByteArray := prog_1_method_6_code
def yC_Asm_byteAt : MethodName := ⟨R_Asm, "byteAt", "(I)I"⟩
theorem dC_Asm_byteAt_0 : decode cC_Asm_byteAt 0 = .ok (.aload_n 0, 1) := by decide +kernel
theorem dC_Asm_byteAt_1 : decode cC_Asm_byteAt 1 = .ok (.getfield 76, 3) := by decide +kernel
theorem dC_Asm_byteAt_4 : decode cC_Asm_byteAt 4 = .ok (.ifCond .eq (18), 3) := by decide +kernel
theorem dC_Asm_byteAt_7 : decode cC_Asm_byteAt 7 = .ok (.iload_n 1, 1) := by decide +kernel
theorem dC_Asm_byteAt_8 : decode cC_Asm_byteAt 8 = .ok (.ifCond .lt (14), 3) := by decide +kernel
theorem dC_Asm_byteAt_11 : decode cC_Asm_byteAt 11 = .ok (.iload_n 1, 1) := by decide +kernel
theorem dC_Asm_byteAt_12 : decode cC_Asm_byteAt 12 = .ok (.aload_n 0, 1) := by decide +kernel
theorem dC_Asm_byteAt_13 : decode cC_Asm_byteAt 13 = .ok (.getfield 36, 3) := by decide +kernel
theorem dC_Asm_byteAt_16 : decode cC_Asm_byteAt 16 = .ok (.invokevirtual 116, 3) := by decide +kernel
theorem dC_Asm_byteAt_19 : decode cC_Asm_byteAt 19 = .ok (.if_icmp .lt (13), 3) := by decide +kernel
theorem dC_Asm_byteAt_22 : decode cC_Asm_byteAt 22 = .ok (.new 151, 3) := by decide +kernel
theorem dC_Asm_byteAt_32 : decode cC_Asm_byteAt 32 = .ok (.aload_n 0, 1) := by decide +kernel
theorem dC_Asm_byteAt_33 : decode cC_Asm_byteAt 33 = .ok (.getfield 72, 3) := by decide +kernel
theorem dC_Asm_byteAt_36 : decode cC_Asm_byteAt 36 = .ok (.getfield 156, 3) := by decide +kernel
theorem dC_Asm_byteAt_39 : decode cC_Asm_byteAt 39 = .ok (.iload_n 1, 1) := by decide +kernel
theorem dC_Asm_byteAt_40 : decode cC_Asm_byteAt 40 = .ok (.invokevirtual 159, 3) := by decide +kernel
theorem dC_Asm_byteAt_43 : decode cC_Asm_byteAt 43 = .ok (.ireturn, 1) := by decide +kernel
abbrev cC_Asm_address : ByteArray := prog_1_method_7_code
def yC_Asm_address : MethodName := ⟨R_Asm, "address", "(I)I"⟩
theorem dC_Asm_address_0 : decode cC_Asm_address 0 = .ok (.aload_n 0, 1) := by decide +kernel
theorem dC_Asm_address_1 : decode cC_Asm_address 1 = .ok (.iload_n 1, 1) := by decide +kernel
theorem dC_Asm_address_2 : decode cC_Asm_address 2 = .ok (.invokevirtual 162, 3) := by decide +kernel
theorem dC_Asm_address_5 : decode cC_Asm_address 5 = .ok (.ifCond .ne (13), 3) := by decide +kernel
theorem dC_Asm_address_8 : decode cC_Asm_address 8 = .ok (.new 151, 3) := by decide +kernel
theorem dC_Asm_address_18 : decode cC_Asm_address 18 = .ok (.aload_n 0, 1) := by decide +kernel
theorem dC_Asm_address_19 : decode cC_Asm_address 19 = .ok (.getfield 36, 3) := by decide +kernel
theorem dC_Asm_address_22 : decode cC_Asm_address 22 = .ok (.aload_n 0, 1) := by decide +kernel
theorem dC_Asm_address_23 : decode cC_Asm_address 23 = .ok (.getfield 36, 3) := by decide +kernel
theorem dC_Asm_address_26 : decode cC_Asm_address 26 = .ok (.getfield 137, 3) := by decide +kernel
theorem dC_Asm_address_29 : decode cC_Asm_address 29 = .ok (.iload_n 1, 1) := by decide +kernel
theorem dC_Asm_address_30 : decode cC_Asm_address 30 = .ok (.invokevirtual 159, 3) := by decide +kernel
theorem dC_Asm_address_33 : decode cC_Asm_address 33 = .ok (.invokevirtual 167, 3) := by decide +kernel
theorem dC_Asm_address_36 : decode cC_Asm_address 36 = .ok (.ireturn, 1) := by decide +kernel
abbrev cC_Asm_letter : ByteArray := prog_1_method_8_code
def yC_Asm_letter : MethodName := ⟨R_Asm, "letter", "(II)C"⟩
theorem dC_Asm_letter_0 : decode cC_Asm_letter 0 = .ok (.aload_n 0, 1) := by decide +kernel
theorem dC_Asm_letter_1 : decode cC_Asm_letter 1 = .ok (.iload_n 1, 1) := by decide +kernel
theorem dC_Asm_letter_2 : decode cC_Asm_letter 2 = .ok (.invokevirtual 162, 3) := by decide +kernel
theorem dC_Asm_letter_5 : decode cC_Asm_letter 5 = .ok (.ifCond .eq (27), 3) := by decide +kernel
theorem dC_Asm_letter_8 : decode cC_Asm_letter 8 = .ok (.aload_n 0, 1) := by decide +kernel
theorem dC_Asm_letter_9 : decode cC_Asm_letter 9 = .ok (.getfield 36, 3) := by decide +kernel
theorem dC_Asm_letter_12 : decode cC_Asm_letter 12 = .ok (.aload_n 0, 1) := by decide +kernel
theorem dC_Asm_letter_13 : decode cC_Asm_letter 13 = .ok (.getfield 36, 3) := by decide +kernel
theorem dC_Asm_letter_16 : decode cC_Asm_letter 16 = .ok (.getfield 137, 3) := by decide +kernel
theorem dC_Asm_letter_19 : decode cC_Asm_letter 19 = .ok (.iload_n 1, 1) := by decide +kernel
theorem dC_Asm_letter_20 : decode cC_Asm_letter 20 = .ok (.invokevirtual 159, 3) := by decide +kernel
theorem dC_Asm_letter_23 : decode cC_Asm_letter 23 = .ok (.invokevirtual 170, 3) := by decide +kernel
theorem dC_Asm_letter_26 : decode cC_Asm_letter 26 = .ok (.getfield 174, 3) := by decide +kernel
theorem dC_Asm_letter_29 : decode cC_Asm_letter 29 = .ok (.goto (4), 3) := by decide +kernel
theorem dC_Asm_letter_32 : decode cC_Asm_letter 32 = .ok (.iconst (-1), 1) := by decide +kernel
theorem dC_Asm_letter_33 : decode cC_Asm_letter 33 = .ok (.istore_n 3, 1) := by decide +kernel
theorem dC_Asm_letter_34 : decode cC_Asm_letter 34 = .ok (.iload_n 2, 1) := by decide +kernel
theorem dC_Asm_letter_35 : decode cC_Asm_letter 35 = .ok (.ifCond .lt (15), 3) := by decide +kernel
theorem dC_Asm_letter_38 : decode cC_Asm_letter 38 = .ok (.iload_n 2, 1) := by decide +kernel
theorem dC_Asm_letter_39 : decode cC_Asm_letter 39 = .ok (.aload_n 0, 1) := by decide +kernel
theorem dC_Asm_letter_40 : decode cC_Asm_letter 40 = .ok (.getfield 19, 3) := by decide +kernel
theorem dC_Asm_letter_43 : decode cC_Asm_letter 43 = .ok (.iload_n 3, 1) := by decide +kernel
theorem dC_Asm_letter_44 : decode cC_Asm_letter 44 = .ok (.invokevirtual 179, 3) := by decide +kernel
theorem dC_Asm_letter_47 : decode cC_Asm_letter 47 = .ok (.if_icmp .lt (13), 3) := by decide +kernel
theorem dC_Asm_letter_50 : decode cC_Asm_letter 50 = .ok (.new 151, 3) := by decide +kernel
theorem dC_Asm_letter_60 : decode cC_Asm_letter 60 = .ok (.aload_n 0, 1) := by decide +kernel
theorem dC_Asm_letter_61 : decode cC_Asm_letter 61 = .ok (.getfield 19, 3) := by decide +kernel
theorem dC_Asm_letter_64 : decode cC_Asm_letter 64 = .ok (.iload_n 3, 1) := by decide +kernel
theorem dC_Asm_letter_65 : decode cC_Asm_letter 65 = .ok (.iload_n 2, 1) := by decide +kernel
theorem dC_Asm_letter_66 : decode cC_Asm_letter 66 = .ok (.invokevirtual 184, 3) := by decide +kernel
theorem dC_Asm_letter_69 : decode cC_Asm_letter 69 = .ok (.i2c, 1) := by decide +kernel
theorem dC_Asm_letter_70 : decode cC_Asm_letter 70 = .ok (.ireturn, 1) := by decide +kernel
theorem gC_Asm_89 : GoodIn lw_gd (wsV R_Asm 89 R_Row yC_Row_add (.code yC_Row_add cC_Row_add 2 none :: lw_gd)) := lw_GV qc_75 qc_593 qc_73 qc_74 qc_2
theorem gC_Asm_93 : GoodIn lw_gd (wsV R_Asm 93 R_Row yC_Row_cut (.code yC_Row_cut cC_Row_cut 2 none :: lw_gd)) := lw_GV qc_182 qc_598 qc_180 qc_181 qc_2
theorem gC_Asm_96 : GoodIn lw_gd (wsV R_Asm 96 R_Nam yC_Nam_forget (.code yC_Nam_forget cC_Nam_forget 3 none :: lw_gd)) := lw_GV qc_606 qc_603 qc_604 qc_605 qc_3
theorem gC_Asm_99 : GoodIn lw_gd (wsV R_Asm 99 R_Prg yC_Prg_empty (.code yC_Prg_empty cC_Prg_empty 2 none :: lw_gd)) := lw_GV qc_918 qc_915 qc_916 qc_917 qc_14
theorem gC_Asm_102 : GoodIn lw_gd (wsV R_Asm 102 R_Frm yC_Frm_empty (.code yC_Frm_empty cC_Frm_empty 1 none :: lw_gd)) := lw_GV qc_994 qc_991 qc_992 qc_993 qc_20
theorem gC_Asm_103 : GoodIn lw_gd (wsV R_Asm 103 R_Lex yC_Lex_readAll (.code yC_Lex_readAll cC_Lex_readAll 3 none :: lw_gd)) := lw_GV qc_1003 qc_1000 qc_1001 qc_1002 qc_19
theorem gC_Asm_109 : GoodIn lw_gd (wsV R_Asm 109 R_Par yC_Par_readLine (.code yC_Par_readLine cC_Par_readLine 4 (some .int) :: lw_gd)) := lw_GV qc_1074 qc_1071 qc_1072 qc_1073 qc_21
theorem gC_Asm_113 : GoodIn lw_gd (wsV R_Asm 113 R_Enc yC_Enc_settle (.code yC_Enc_settle cC_Enc_settle 2 none :: lw_gd)) := lw_GV qc_1325 qc_1322 qc_1323 qc_1324 qc_22
theorem gC_Asm_116 : GoodIn lw_gd (wsV R_Asm 116 R_Prg yC_Prg_end (.code yC_Prg_end cC_Prg_end 1 (some .int) :: lw_gd)) := lw_GV qc_1351 qc_1348 qc_1349 qc_1350 qc_14
theorem gC_Asm_121 : GoodIn lw_gd (wsV R_Asm 121 R_Enc yC_Enc_encodeAll (.code yC_Enc_encodeAll cC_Enc_encodeAll 5 (some .int) :: lw_gd)) := lw_GV qc_1356 qc_1353 qc_1354 qc_1355 qc_22
theorem gC_Asm_159 : GoodIn lw_gd (wsV R_Asm 159 R_Row yC_Row_get (.code yC_Row_get cC_Row_get 2 (some .int) :: lw_gd)) := lw_GV qc_170 qc_1399 qc_168 qc_169 qc_2
theorem gC_Asm_162 : GoodIn lw_gd (wsV R_Asm 162 R_Asm yC_Asm_isLabel (.code yC_Asm_isLabel cC_Asm_isLabel 2 (some .boolean) :: lw_gd)) := lw_GV qc_1464 qc_1461 qc_1463 qsc_50 qc_1
theorem gC_Asm_167 : GoodIn lw_gd (wsV R_Asm 167 R_Prg yC_Prg_addressOf (.code yC_Prg_addressOf cC_Prg_addressOf 3 (some .int) :: lw_gd)) := lw_GV qc_1182 qc_1404 qc_1180 qc_1181 qc_14
theorem gC_Asm_170 : GoodIn lw_gd (wsV R_Asm 170 R_Prg yC_Prg_find (.code yC_Prg_find cC_Prg_find 2 (some (.object "LineAssembler$Item")) :: lw_gd)) := lw_GV qc_1102 qc_1473 qc_1100 qc_1101 qc_14
theorem gC_Asm_179 : GoodIn lw_gd (wsV R_Asm 179 R_Nam yC_Nam_lengthOf (.code yC_Nam_lengthOf cC_Nam_lengthOf 2 (some .int) :: lw_gd)) := lw_GV qc_174 qc_1474 qc_172 qc_173 qc_3
theorem gC_Asm_184 : GoodIn lw_gd (wsV R_Asm 184 R_Nam yC_Nam_letterOf (.code yC_Nam_letterOf cC_Nam_letterOf 3 (some .int) :: lw_gd)) := lw_GV qc_178 qc_1476 qc_176 qc_177 qc_3
section
variable {p : Program} {l : Launch} {e : Env} {s : State} {m : MethodId} {args : Array Value} {below : List Frame} {meth : Method} {c : Code} {D : va_G} {dA : Nat → ClassId} {z : Nat → Nat} {o b i : Nat → Nat} {A : Nat → Prop}
def C_Asm_isLabel_30 (t0 : Int32) (sG : CS) (sR : CS) (sL : CS) (sX : CS) (sE : CS) (sY : CS) (sF : CS) (sN : CS) (sT : CS) (sP : CS) (sI : CS) : Option Int32 :=
  gd (isB t0) (some t0)
set_option maxHeartbeats 4000000 in
set_option maxRecDepth 100000 in
theorem bC_Asm_isLabel_30  {r : Int32} (C : CxC R_Asm p s m args meth c cC_Asm_isLabel 2 (some .boolean) D dA (zz o) A) (t0 : Int32) (sG : CS) (sR : CS) (sL : CS) (sX : CS) (sE : CS) (sY : CS) (sF : CS) (sN : CS) (sT : CS) (sP : CS) (sI : CS) (hM : C_Asm_isLabel_30  t0 sG sR sL sX sE sY sF sN sT sP sI = some r) (hW : WdC D A s (w_Asm dA o b i sG sR sL sX sE sY sF sN sT sP sI) s.heap []) (ls : Array Slot) (hl : lv_has ls 2 []) : W p l e (rmC 0 0 0 0) s m args below meth c s.heap [] 0 0 (MQ below (QS (some (.int r))) args s 0 0 (fun _ => False)) (F0 m 30 ls [.int t0]) := by
  have hx := C.1.1
  have hb := C.1.2.1
  have hown := C.1.2.2.2.2.1
  have hT := C.1.2.2.2.2.2.1
  unfold C_Asm_isLabel_30 at hM
  obtain ⟨hg1, hM⟩ := gd_some hM
  obtain rfl := sm_i hM
  exact x_retSz (pc := 30) C.1 rfl hg1 dC_Asm_isLabel_30
def C_Asm_isLabel_29  (sG : CS) (sR : CS) (sL : CS) (sX : CS) (sE : CS) (sY : CS) (sF : CS) (sN : CS) (sT : CS) (sP : CS) (sI : CS) : Option Int32 :=
  C_Asm_isLabel_30  (0 : Int32) sG sR sL sX sE sY sF sN sT sP sI
set_option maxHeartbeats 4000000 in
set_option maxRecDepth 100000 in
theorem bC_Asm_isLabel_29  {r : Int32} (C : CxC R_Asm p s m args meth c cC_Asm_isLabel 2 (some .boolean) D dA (zz o) A)  (sG : CS) (sR : CS) (sL : CS) (sX : CS) (sE : CS) (sY : CS) (sF : CS) (sN : CS) (sT : CS) (sP : CS) (sI : CS) (hM : C_Asm_isLabel_29   sG sR sL sX sE sY sF sN sT sP sI = some r) (hW : WdC D A s (w_Asm dA o b i sG sR sL sX sE sY sF sN sT sP sI) s.heap []) (ls : Array Slot) (hl : lv_has ls 2 []) : W p l e (rmC 0 0 0 0) s m args below meth c s.heap [] 0 0 (MQ below (QS (some (.int r))) args s 0 0 (fun _ => False)) (F0 m 29 ls []) := by
  have hx := C.1.1
  have hb := C.1.2.1
  have hown := C.1.2.2.2.2.1
  have hT := C.1.2.2.2.2.2.1
  unfold C_Asm_isLabel_29 at hM
  refine lv_iconst (pc := 29) (v := 0) hx hb dC_Asm_isLabel_29 (by decide) ?_
  exact bC_Asm_isLabel_30  C  _ _ _ _ _ _ _ _ _ _ _ _ hM hW _ (lv_sub hl [] rfl)
def C_Asm_isLabel (x1 : Int32) (sG : CS) (sR : CS) (sL : CS) (sX : CS) (sE : CS) (sY : CS) (sF : CS) (sN : CS) (sT : CS) (sP : CS) (sI : CS) : Option Int32 :=
  (if (sG.1 0) = 0 then C_Asm_isLabel_29  sG sR sL sX sE sY sF sN sT sP sI else (if x1 < 0 then C_Asm_isLabel_29  sG sR sL sX sE sY sF sN sT sP sI else (if (sP.1 100) ≤ x1 then C_Asm_isLabel_29  sG sR sL sX sE sY sF sN sT sP sI else C_Asm_isLabel_30  (1 : Int32) sG sR sL sX sE sY sF sN sT sP sI)))
set_option maxHeartbeats 4000000 in
set_option maxRecDepth 100000 in
theorem bC_Asm_isLabel_0  {r : Int32} (C : CxC R_Asm p s m args meth c cC_Asm_isLabel 2 (some .boolean) D dA (zz o) A) (x1 : Int32) (sG : CS) (sR : CS) (sL : CS) (sX : CS) (sE : CS) (sY : CS) (sF : CS) (sN : CS) (sT : CS) (sP : CS) (sI : CS) (hM : C_Asm_isLabel  x1 sG sR sL sX sE sY sF sN sT sP sI = some r) (hW : WdC D A s (w_Asm dA o b i sG sR sL sX sE sY sF sN sT sP sI) s.heap []) (ls : Array Slot) (hl : lv_has ls 2 [(0, .ref (o 144)), (1, .int x1)]) : W p l e (rmC 0 0 0 0) s m args below meth c s.heap [] 0 0 (MQ below (QS (some (.int r))) args s 0 0 (fun _ => False)) (F0 m 0 ls []) := by
  have hx := C.1.1
  have hb := C.1.2.1
  have hown := C.1.2.2.2.2.1
  have hT := C.1.2.2.2.2.2.1
  unfold C_Asm_isLabel at hM
  refine lv_aload_n (pc := 0) hx hb dC_Asm_isLabel_0 rfl (lv_at hl 0 rfl) ?_
  refine x_getC (pc := 1) C hW 0 rfl (ci := 10) rfl i_Asm 9 (by decide) qc_563 rfl rfl dC_Asm_isLabel_1 ?_
  refine lv_if_eq (pc := 4) (tgt := 29) hx hb dC_Asm_isLabel_4 (by decide) (fun hc => ?_) (fun hc => ?_)
  · replace hM := it_t hc hM
    exact bC_Asm_isLabel_29  C  _ _ _ _ _ _ _ _ _ _ _ hM hW _ (lv_sub hl [] rfl)
  · replace hM := it_f hc hM
    refine lv_iload_n (pc := 7) hx hb dC_Asm_isLabel_7 rfl (lv_at hl 1 rfl) ?_
    refine lv_if_lt (pc := 8) (tgt := 29) hx hb dC_Asm_isLabel_8 (by decide) (fun hc => ?_) (fun hc => ?_)
    · replace hM := it_t hc hM
      exact bC_Asm_isLabel_29  C  _ _ _ _ _ _ _ _ _ _ _ hM hW _ (lv_sub hl [] rfl)
    · replace hM := it_f hc hM
      refine lv_iload_n (pc := 11) hx hb dC_Asm_isLabel_11 rfl (lv_at hl 1 rfl) ?_
      refine lv_aload_n (pc := 12) hx hb dC_Asm_isLabel_12 rfl (lv_at hl 0 rfl) ?_
      refine x_getC (pc := 13) C hW 0 rfl (ci := 10) rfl i_Asm 4 (by decide) qc_558 rfl rfl dC_Asm_isLabel_13 ?_
      refine x_getC (pc := 16) C hW 45 rfl (ci := 5) rfl i_Prg 0 (by decide) qc_386 rfl rfl dC_Asm_isLabel_16 ?_
      refine x_getC (pc := 19) C hW 46 rfl (ci := 1) rfl i_Row 0 (by decide) qc_54 rfl rfl dC_Asm_isLabel_19 ?_
      refine lv_icmp_ge (pc := 22) (tgt := 29) hx hb dC_Asm_isLabel_22 (by decide) (fun hc => ?_) (fun hc => ?_)
      · replace hM := it_t hc hM
        exact bC_Asm_isLabel_29  C  _ _ _ _ _ _ _ _ _ _ _ hM hW _ (lv_sub hl [] rfl)
      · replace hM := it_f hc hM
        refine lv_iconst (pc := 25) (v := 1) hx hb dC_Asm_isLabel_25 (by decide) ?_
        refine lv_goto (pc := 26) (tgt := 30) hx hb dC_Asm_isLabel_26 (by decide) ?_
        exact bC_Asm_isLabel_30  C  _ _ _ _ _ _ _ _ _ _ _ _ hM hW _ (lv_sub hl [] rfl)
theorem kC_Asm_isLabel (l : Launch) (D : va_G) (dA : Nat → ClassId) (o b i : Nat → Nat) (x1 : Int32) (sG : CS) (sR : CS) (sL : CS) (sX : CS) (sE : CS) (sY : CS) (sF : CS) (sN : CS) (sT : CS) (sP : CS) (sI : CS) {r : Int32} (hM : C_Asm_isLabel x1 sG sR sL sX sE sY sF sN sT sP sI = some r) : KQ l D dA (zz o) yC_Asm_isLabel cC_Asm_isLabel 2 (some .boolean) 0 0 (w_Asm dA o b i sG sR sL sX sE sY sF sN sT sP sI) [.ref (o 144), .int x1] (some (.int r)) := x_enterQ (by decide +kernel) (Nat.le_of_ble_eq_true rfl) (fun p e s m args below meth c A C hW ls hl => bC_Asm_isLabel_0 C x1 sG sR sL sX sE sY sF sN sT sP sI hM hW ls hl)
def C_Asm_feed_25 (N : Nat)  (sG : CS) (sR : CS) (sL : CS) (sX : CS) (sE : CS) (sY : CS) (sF : CS) (sN : CS) (sT : CS) (sP : CS) (sI : CS) : Option ((Int32 × CS) × (Nat × Nat)) :=
  some (((0 : Int32), sX), (0, 0))
set_option maxHeartbeats 4000000 in
set_option maxRecDepth 100000 in
theorem bC_Asm_feed_25 (N : Nat)  {r : Int32} {u : CS} {DC DS : Nat} (C : CxC R_Asm p s m args meth c cC_Asm_feed 5 (some .boolean) D dA (zz o) A)  (sG : CS) (sR : CS) (sL : CS) (sX : CS) (sE : CS) (sY : CS) (sF : CS) (sN : CS) (sT : CS) (sP : CS) (sI : CS) (dc ds kc ks : Nat) (hM : C_Asm_feed_25 N   sG sR sL sX sE sY sF sN sT sP sI = some ((r, u), (dc, ds))) (hdc : kc + dc ≤ DC) (hds : ks + ds ≤ DS) (b : Nat → Nat) (H : Heap) (locs : List Loc) (hW : WdC D A s (w_Asm dA o b i sG sR sL sX sE sY sF sN sT sP sI) H locs) (ls : Array Slot) (hl : lv_has ls 5 []) : W p l e (rmC 3 123 DC DS) s m args below meth c H locs kc ks (MQ below (QC D A (fun Ws' ov => ∃ b' : Nat → Nat, Ws' = (w_Asm dA o b' i sG sR sL u sE sY sF sN sT sP sI) ∧ ov = (some (.int r)))) args s DC DS A) (F0 m 25 ls []) := by
  have hx := C.1.1
  have hb := C.1.2.1
  have hown := C.1.2.2.2.2.1
  have hT := C.1.2.2.2.2.2.1
  unfold C_Asm_feed_25 at hM
  refine lv_iconst (pc := 25) (v := 0) hx hb dC_Asm_feed_25 (by decide) ?_
  obtain ⟨rfl, rfl, rfl, rfl⟩ := sm_q hM
  exact x_retCz (pc := 26) C rfl rfl hW ⟨_, rfl, rfl⟩ (by omega) (by omega) dC_Asm_feed_26
def C_Asm_feed_67 (N : Nat)  : Nat → Int64 → Int32 → CS → CS → CS → CS → CS → CS → CS → CS → CS → CS → CS → Option ((Int32 × CS) × (Nat × Nat))
  | 0 => fun _ _ _ _ _ _ _ _ _ _ _ _ _ => none
  | n + 1 => fun z1 x4 sG sR sL sX sE sY sF sN sT sP sI => (if x4 < 0 then some (((1 : Int32), sX), (0, 0)) else ct (C_Row_add  (((jushl z1 ((8 : Int32) * x4)).toInt32) &&& (255 : Int32)) sX) (fun r1 u2 => (C_Asm_feed_67 N  n) z1 (x4 + (-1 : Int32)) sG sR sL u2 sE sY sF sN sT sP sI))
set_option maxHeartbeats 4000000 in
set_option maxRecDepth 100000 in
theorem bC_Asm_feed_67 (N : Nat)  {r : Int32} {u : CS} {DC DS : Nat} (C : CxC R_Asm p s m args meth c cC_Asm_feed 5 (some .boolean) D dA (zz o) A) : ∀ (n : Nat) (z1 : Int64) (x4 : Int32) (sG : CS) (sR : CS) (sL : CS) (sX : CS) (sE : CS) (sY : CS) (sF : CS) (sN : CS) (sT : CS) (sP : CS) (sI : CS) (dc ds kc ks : Nat) , C_Asm_feed_67 N  n z1 x4 sG sR sL sX sE sY sF sN sT sP sI = some ((r, u), (dc, ds)) → ∀ (hdc : kc + dc ≤ DC) (hds : ks + ds ≤ DS) (b : Nat → Nat) (H : Heap) (locs : List Loc) (hW : WdC D A s (w_Asm dA o b i sG sR sL sX sE sY sF sN sT sP sI) H locs) (ls : Array Slot) (hl : lv_has ls 5 [(0, .ref (o 144)), (1, .long z1), (4, .int x4)]), W p l e (rmC 3 123 DC DS) s m args below meth c H locs kc ks (MQ below (QC D A (fun Ws' ov => ∃ b' : Nat → Nat, Ws' = (w_Asm dA o b' i sG sR sL u sE sY sF sN sT sP sI) ∧ ov = (some (.int r)))) args s DC DS A) (F0 m 67 ls []) := by
  have hx := C.1.1
  have hb := C.1.2.1
  have hown := C.1.2.2.2.2.1
  have hT := C.1.2.2.2.2.2.1
  intro n
  induction n with
  | zero => intro z1 x4 sG sR sL sX sE sY sF sN sT sP sI dc ds kc ks hM; cases hM
  | succ n hrec67 =>
    intro z1 x4 sG sR sL sX sE sY sF sN sT sP sI dc ds kc ks hM hdc hds b H locs hW ls hl
    rw [C_Asm_feed_67] at hM
    refine lv_iload (pc := 67) hx hb dC_Asm_feed_67 (lv_at hl 2 rfl) ?_
    refine lv_if_lt (pc := 69) (tgt := 97) hx hb dC_Asm_feed_69 (by decide) (fun hc => ?_) (fun hc => ?_)
    · replace hM := it_t hc hM
      refine lv_iconst (pc := 97) (v := 1) hx hb dC_Asm_feed_97 (by decide) ?_
      obtain ⟨rfl, rfl, rfl, rfl⟩ := sm_q hM
      exact x_retCz (pc := 98) C rfl rfl hW ⟨_, rfl, rfl⟩ (by omega) (by omega) dC_Asm_feed_98
    · replace hM := it_f hc hM
      refine lv_aload_n (pc := 72) hx hb dC_Asm_feed_72 rfl (lv_at hl 0 rfl) ?_
      refine x_getC (pc := 73) C hW 0 rfl (ci := 10) rfl i_Asm 0 (by decide) qc_554 rfl rfl dC_Asm_feed_73 ?_
      refine lv_lload_n (pc := 76) hx hb dC_Asm_feed_76 rfl (lv_at hl 1 rfl) ?_
      refine lv_bipush (pc := 77) (v := 8) hx hb dC_Asm_feed_77 (by decide) ?_
      refine lv_iload (pc := 79) hx hb dC_Asm_feed_79 (lv_at hl 2 rfl) ?_
      refine lv_imul (pc := 81) hx hb dC_Asm_feed_81 ?_
      refine lv_lushr (pc := 82) (v := jushl z1 ((8 : Int32) * x4)) hx hb dC_Asm_feed_82 rfl ?_
      refine lv_l2i (pc := 83) (v := (jushl z1 ((8 : Int32) * x4)).toInt32) hx hb dC_Asm_feed_83 rfl ?_
      refine lv_sipush (pc := 84) (v := 255) hx hb dC_Asm_feed_84 (by decide) ?_
      refine lv_iand (pc := 87) hx hb dC_Asm_feed_87 ?_
      obtain ⟨r1, u2, da3, ea4, db5, eb6, hr1, hM, hqda3, hpda3⟩ := ct_some hM
      refine x_callC (pc := 88) (n' := 52) C hW (kC_Row_add l D dA (zz o) (fun _ => o 0) (fun _ => b 0)  (((jushl z1 ((8 : Int32) * x4)).toInt32) &&& (255 : Int32)) sX hr1) [3, 4, 0, 1, 2, 5, 6, 7, 8, 9, 10, 11, 12, 13, 14, 15, 16, 17, 18, 19, 20, 21, 22, 23, 24, 25, 26, 27, 28, 29, 30, 31, 32, 33, 34, 35, 36, 37, 38, 39, 40, 41, 42, 43, 44, 45, 46, 47, 48, 49, 50, 51] rfl (by decide +kernel) rfl (ci := 1) rfl (q0 := 3) rfl gC_Asm_89 ⟨rfl, by decide, by decide, by decide +kernel⟩ ⟨Nat.le_of_ble_eq_true rfl, Nat.le_of_ble_eq_true rfl⟩ ⟨show _ + da3 ≤ DC by omega, show _ + ea4 ≤ DS by omega⟩ (As := [.int (((jushl z1 ((8 : Int32) * x4)).toInt32) &&& (255 : Int32))]) (n := 1) rfl hl.1 rfl (Nat.le_of_ble_eq_true rfl) dC_Asm_feed_88 (fun Wc' ov H locs hPo hWn => ?_)
      obtain ⟨b7, rfl, rfl⟩ := hPo
      have hW := hWn (w_Asm dA o (uN b 0 (b7 0)) i sG sR sL u2 sE sY sF sN sT sP sI) rfl rfl
      generalize uN b 0 (b7 0) = b at hW
      refine lv_iinc (pc := 91) (v := x4 + (-1 : Int32)) (lv' := [(4, .int (x4 + (-1 : Int32))), (0, .ref (o 144)), (1, .long z1)]) hx hb dC_Asm_feed_91 hl (k := 2) rfl rfl (by decide) rfl (fun ls hl => ?_)
      refine lv_goto (pc := 94) (tgt := 67) hx hb dC_Asm_feed_94 (by decide) ?_
      exact hrec67 _ _ _ _ _ _ _ _ _ _ _ _ _ _ _ _ _ hM (by omega) (by omega) _ _ _ hW _ (lv_sub hl [1, 2, 0] rfl)
def C_Asm_feed_30 (N : Nat)  : Nat → Int64 → Int32 → Int32 → CS → CS → CS → CS → CS → CS → CS → CS → CS → CS → CS → Option ((Int32 × CS) × (Nat × Nat))
  | 0 => fun _ _ _ _ _ _ _ _ _ _ _ _ _ _ => none
  | n + 1 => fun z1 x3 x4 sG sR sL sX sE sY sF sN sT sP sI => (if x3 ≤ x4 then C_Asm_feed_67 N  N z1 (x3 - (1 : Int32)) sG sR sL sX sE sY sF sN sT sP sI else cr (C_Asm_isOfText  (((jushl z1 ((8 : Int32) * x4)).toInt32) &&& (255 : Int32))) (fun r1 => (if r1 = 0 then some (((0 : Int32), sX), (0, 0)) else (C_Asm_feed_30 N  n) z1 x3 (x4 + (1 : Int32)) sG sR sL sX sE sY sF sN sT sP sI)))
set_option maxHeartbeats 4000000 in
set_option maxRecDepth 100000 in
theorem bC_Asm_feed_30 (N : Nat)  {r : Int32} {u : CS} {DC DS : Nat} (C : CxC R_Asm p s m args meth c cC_Asm_feed 5 (some .boolean) D dA (zz o) A) : ∀ (n : Nat) (z1 : Int64) (x3 : Int32) (x4 : Int32) (sG : CS) (sR : CS) (sL : CS) (sX : CS) (sE : CS) (sY : CS) (sF : CS) (sN : CS) (sT : CS) (sP : CS) (sI : CS) (dc ds kc ks : Nat) , C_Asm_feed_30 N  n z1 x3 x4 sG sR sL sX sE sY sF sN sT sP sI = some ((r, u), (dc, ds)) → ∀ (hdc : kc + dc ≤ DC) (hds : ks + ds ≤ DS) (b : Nat → Nat) (H : Heap) (locs : List Loc) (hW : WdC D A s (w_Asm dA o b i sG sR sL sX sE sY sF sN sT sP sI) H locs) (ls : Array Slot) (hl : lv_has ls 5 [(0, .ref (o 144)), (1, .long z1), (3, .int x3), (4, .int x4)]), W p l e (rmC 3 123 DC DS) s m args below meth c H locs kc ks (MQ below (QC D A (fun Ws' ov => ∃ b' : Nat → Nat, Ws' = (w_Asm dA o b' i sG sR sL u sE sY sF sN sT sP sI) ∧ ov = (some (.int r)))) args s DC DS A) (F0 m 30 ls []) := by
  have hx := C.1.1
  have hb := C.1.2.1
  have hown := C.1.2.2.2.2.1
  have hT := C.1.2.2.2.2.2.1
  intro n
  induction n with
  | zero => intro z1 x3 x4 sG sR sL sX sE sY sF sN sT sP sI dc ds kc ks hM; cases hM
  | succ n hrec30 =>
    intro z1 x3 x4 sG sR sL sX sE sY sF sN sT sP sI dc ds kc ks hM hdc hds b H locs hW ls hl
    rw [C_Asm_feed_30] at hM
    refine lv_iload (pc := 30) hx hb dC_Asm_feed_30 (lv_at hl 3 rfl) ?_
    refine lv_iload_n (pc := 32) hx hb dC_Asm_feed_32 rfl (lv_at hl 2 rfl) ?_
    refine lv_icmp_ge (pc := 33) (tgt := 62) hx hb dC_Asm_feed_33 (by decide) (fun hc => ?_) (fun hc => ?_)
    · replace hM := it_t hc hM
      refine lv_iload_n (pc := 62) hx hb dC_Asm_feed_62 rfl (lv_at hl 2 rfl) ?_
      refine lv_iconst (pc := 63) (v := 1) hx hb dC_Asm_feed_63 (by decide) ?_
      refine lv_isub (pc := 64) hx hb dC_Asm_feed_64 ?_
      refine lv_istore (pc := 65) (lv' := [(4, .int (x3 - (1 : Int32))), (0, .ref (o 144)), (1, .long z1), (3, .int x3)]) hx hb dC_Asm_feed_65 hl (by decide) rfl (fun ls hl => ?_)
      exact bC_Asm_feed_67 N  C  N _ _ _ _ _ _ _ _ _ _ _ _ _ _ _ _ _ hM (by omega) (by omega) _ _ _ hW _ (lv_sub hl [1, 2, 0] rfl)
    · replace hM := it_f hc hM
      refine lv_lload_n (pc := 36) hx hb dC_Asm_feed_36 rfl (lv_at hl 1 rfl) ?_
      refine lv_bipush (pc := 37) (v := 8) hx hb dC_Asm_feed_37 (by decide) ?_
      refine lv_iload (pc := 39) hx hb dC_Asm_feed_39 (lv_at hl 3 rfl) ?_
      refine lv_imul (pc := 41) hx hb dC_Asm_feed_41 ?_
      refine lv_lushr (pc := 42) (v := jushl z1 ((8 : Int32) * x4)) hx hb dC_Asm_feed_42 rfl ?_
      refine lv_l2i (pc := 43) (v := (jushl z1 ((8 : Int32) * x4)).toInt32) hx hb dC_Asm_feed_43 rfl ?_
      refine lv_sipush (pc := 44) (v := 255) hx hb dC_Asm_feed_44 (by decide) ?_
      refine lv_iand (pc := 47) hx hb dC_Asm_feed_47 ?_
      obtain ⟨r1, hr1, hM⟩ := cr_some hM
      refine x_callU (pc := 48) (ov := some (.int r1)) C.1 (kC_Asm_isOfText l  (((jushl z1 ((8 : Int32) * x4)).toInt32) &&& (255 : Int32)) hr1) qc_592 qc_590 qc_591 qc_1 ⟨by decide, by decide, by decide +kernel⟩ ⟨rfl, rfl⟩ ⟨Nat.le_of_ble_eq_true rfl, Nat.le_of_ble_eq_true rfl⟩ ⟨show _ ≤ DC by omega, show _ ≤ DS by omega⟩ (As := [.int (((jushl z1 ((8 : Int32) * x4)).toInt32) &&& (255 : Int32))]) (n := 1) rfl hl.1 rfl (Nat.le_of_ble_eq_true rfl) dC_Asm_feed_48 ?_
      refine lv_if_ne (pc := 51) (tgt := 56) hx hb dC_Asm_feed_51 (by decide) (fun hc => ?_) (fun hc => ?_)
      · replace hM := it_f hc hM
        refine lv_iinc (pc := 56) (v := x4 + (1 : Int32)) (lv' := [(4, .int (x4 + (1 : Int32))), (0, .ref (o 144)), (1, .long z1), (3, .int x3)]) hx hb dC_Asm_feed_56 hl (k := 3) rfl rfl (by decide) rfl (fun ls hl => ?_)
        refine lv_goto (pc := 59) (tgt := 30) hx hb dC_Asm_feed_59 (by decide) ?_
        exact hrec30 _ _ _ _ _ _ _ _ _ _ _ _ _ _ _ _ _ _ hM (by omega) (by omega) _ _ _ hW _ (lv_sub hl [1, 2, 3, 0] rfl)
      · replace hM := it_t hc hM
        refine lv_iconst (pc := 54) (v := 0) hx hb dC_Asm_feed_54 (by decide) ?_
        obtain ⟨rfl, rfl, rfl, rfl⟩ := sm_q hM
        exact x_retCz (pc := 55) C rfl rfl hW ⟨_, rfl, rfl⟩ (by omega) (by omega) dC_Asm_feed_55
def C_Asm_feed (N : Nat) (z1 : Int64) (x3 : Int32) (sG : CS) (sR : CS) (sL : CS) (sX : CS) (sE : CS) (sY : CS) (sF : CS) (sN : CS) (sT : CS) (sP : CS) (sI : CS) : Option ((Int32 × CS) × (Nat × Nat)) :=
  (if x3 < (1 : Int32) then C_Asm_feed_25 N  sG sR sL sX sE sY sF sN sT sP sI else (if (8 : Int32) < x3 then C_Asm_feed_25 N  sG sR sL sX sE sY sF sN sT sP sI else (if (sX.1 0) ≤ ((65536 : Int32) - x3) then C_Asm_feed_30 N  N z1 x3 (0 : Int32) sG sR sL sX sE sY sF sN sT sP sI else C_Asm_feed_25 N  sG sR sL sX sE sY sF sN sT sP sI)))
set_option maxHeartbeats 4000000 in
set_option maxRecDepth 100000 in
theorem bC_Asm_feed_0 (N : Nat)  {r : Int32} {u : CS} {DC DS : Nat} (C : CxC R_Asm p s m args meth c cC_Asm_feed 5 (some .boolean) D dA (zz o) A) (z1 : Int64) (x3 : Int32) (sG : CS) (sR : CS) (sL : CS) (sX : CS) (sE : CS) (sY : CS) (sF : CS) (sN : CS) (sT : CS) (sP : CS) (sI : CS) (dc ds kc ks : Nat) (hM : C_Asm_feed N  z1 x3 sG sR sL sX sE sY sF sN sT sP sI = some ((r, u), (dc, ds))) (hdc : kc + dc ≤ DC) (hds : ks + ds ≤ DS) (b : Nat → Nat) (H : Heap) (locs : List Loc) (hW : WdC D A s (w_Asm dA o b i sG sR sL sX sE sY sF sN sT sP sI) H locs) (ls : Array Slot) (hl : lv_has ls 5 [(0, .ref (o 144)), (1, .long z1), (3, .int x3)]) : W p l e (rmC 3 123 DC DS) s m args below meth c H locs kc ks (MQ below (QC D A (fun Ws' ov => ∃ b' : Nat → Nat, Ws' = (w_Asm dA o b' i sG sR sL u sE sY sF sN sT sP sI) ∧ ov = (some (.int r)))) args s DC DS A) (F0 m 0 ls []) := by
  have hx := C.1.1
  have hb := C.1.2.1
  have hown := C.1.2.2.2.2.1
  have hT := C.1.2.2.2.2.2.1
  unfold C_Asm_feed at hM
  refine lv_iload_n (pc := 0) hx hb dC_Asm_feed_0 rfl (lv_at hl 2 rfl) ?_
  refine lv_iconst (pc := 1) (v := 1) hx hb dC_Asm_feed_1 (by decide) ?_
  refine lv_icmp_lt (pc := 2) (tgt := 25) hx hb dC_Asm_feed_2 (by decide) (fun hc => ?_) (fun hc => ?_)
  · replace hM := it_t hc hM
    exact bC_Asm_feed_25 N  C  _ _ _ _ _ _ _ _ _ _ _ _ _ _ _ hM (by omega) (by omega) _ _ _ hW _ (lv_sub hl [] rfl)
  · replace hM := it_f hc hM
    refine lv_iload_n (pc := 5) hx hb dC_Asm_feed_5 rfl (lv_at hl 2 rfl) ?_
    refine lv_bipush (pc := 6) (v := 8) hx hb dC_Asm_feed_6 (by decide) ?_
    refine lv_icmp_gt (pc := 8) (tgt := 25) hx hb dC_Asm_feed_8 (by decide) (fun hc => ?_) (fun hc => ?_)
    · replace hM := it_t hc hM
      exact bC_Asm_feed_25 N  C  _ _ _ _ _ _ _ _ _ _ _ _ _ _ _ hM (by omega) (by omega) _ _ _ hW _ (lv_sub hl [] rfl)
    · replace hM := it_f hc hM
      refine lv_aload_n (pc := 11) hx hb dC_Asm_feed_11 rfl (lv_at hl 0 rfl) ?_
      refine x_getC (pc := 12) C hW 0 rfl (ci := 10) rfl i_Asm 0 (by decide) qc_554 rfl rfl dC_Asm_feed_12 ?_
      refine x_getC (pc := 15) C hW 3 rfl (ci := 1) rfl i_Row 0 (by decide) qc_54 rfl rfl dC_Asm_feed_15 ?_
      refine lv_ldc (pc := 18) (v := 65536) hx hb hown (hT _ qc_589) dC_Asm_feed_18 ?_
      refine lv_iload_n (pc := 20) hx hb dC_Asm_feed_20 rfl (lv_at hl 2 rfl) ?_
      refine lv_isub (pc := 21) hx hb dC_Asm_feed_21 ?_
      refine lv_icmp_le (pc := 22) (tgt := 27) hx hb dC_Asm_feed_22 (by decide) (fun hc => ?_) (fun hc => ?_)
      · replace hM := it_t hc hM
        refine lv_iconst (pc := 27) (v := 0) hx hb dC_Asm_feed_27 (by decide) ?_
        refine lv_istore (pc := 28) (lv' := [(4, .int (0 : Int32)), (0, .ref (o 144)), (1, .long z1), (3, .int x3)]) hx hb dC_Asm_feed_28 hl (by decide) rfl (fun ls hl => ?_)
        exact bC_Asm_feed_30 N  C  N _ _ _ _ _ _ _ _ _ _ _ _ _ _ _ _ _ _ hM (by omega) (by omega) _ _ _ hW _ (lv_sub hl [1, 2, 3, 0] rfl)
      · replace hM := it_f hc hM
        exact bC_Asm_feed_25 N  C  _ _ _ _ _ _ _ _ _ _ _ _ _ _ _ hM (by omega) (by omega) _ _ _ hW _ (lv_sub hl [] rfl)
theorem kC_Asm_feed (l : Launch) (D : va_G) (dA : Nat → ClassId) (o b i : Nat → Nat) (N : Nat) (z1 : Int64) (x3 : Int32) (sG : CS) (sR : CS) (sL : CS) (sX : CS) (sE : CS) (sY : CS) (sF : CS) (sN : CS) (sT : CS) (sP : CS) (sI : CS) {r : Int32} {u : CS} {dc ds : Nat} (hM : C_Asm_feed N z1 x3 sG sR sL sX sE sY sF sN sT sP sI = some ((r, u), (dc, ds))) : KC l D dA (zz o) yC_Asm_feed cC_Asm_feed 5 (some .boolean) 3 123 dc ds (w_Asm dA o b i sG sR sL sX sE sY sF sN sT sP sI) [.ref (o 144), .long z1, .int x3] (fun Ws' ov => ∃ b' : Nat → Nat, Ws' = (w_Asm dA o b' i sG sR sL u sE sY sF sN sT sP sI) ∧ ov = (some (.int r))) := x_enterC (by decide +kernel) (Nat.le_of_ble_eq_true rfl) (fun p e s m args below meth c A C _ hW ls hl => bC_Asm_feed_0 N C z1 x3 sG sR sL sX sE sY sF sN sT sP sI dc ds 0 0 hM (by omega) (by omega) b s.heap [] hW ls hl)
def C_Asm_clear  (sG : CS) (sR : CS) (sL : CS) (sX : CS) (sE : CS) (sY : CS) (sF : CS) (sN : CS) (sT : CS) (sP : CS) (sI : CS) : Option (Int32 × CS) :=
  cl (C_Row_cut  (0 : Int32) sX) (fun r1 u2 => some (sX.1 0, u2))
set_option maxHeartbeats 4000000 in
set_option maxRecDepth 100000 in
theorem bC_Asm_clear_0  {r : Int32} {u : CS} (C : CxC R_Asm p s m args meth c cC_Asm_clear 2 (some .int) D dA (zz o) A)  (sG : CS) (sR : CS) (sL : CS) (sX : CS) (sE : CS) (sY : CS) (sF : CS) (sN : CS) (sT : CS) (sP : CS) (sI : CS) (hM : C_Asm_clear   sG sR sL sX sE sY sF sN sT sP sI = some (r, u)) (H : Heap) (locs : List Loc) (hW : WdC D A s (w_Asm dA o b i sG sR sL sX sE sY sF sN sT sP sI) H locs) (ls : Array Slot) (hl : lv_has ls 2 [(0, .ref (o 144))]) : W p l e (rmC 1 21 0 0) s m args below meth c H locs 0 0 (MQ below (QC D A (fun Ws' ov => Ws' = (w_Asm dA o b i sG sR sL u sE sY sF sN sT sP sI) ∧ ov = (some (.int r)))) args s 0 0 A) (F0 m 0 ls []) := by
  have hx := C.1.1
  have hb := C.1.2.1
  have hown := C.1.2.2.2.2.1
  have hT := C.1.2.2.2.2.2.1
  unfold C_Asm_clear at hM
  refine lv_aload_n (pc := 0) hx hb dC_Asm_clear_0 rfl (lv_at hl 0 rfl) ?_
  refine x_getC (pc := 1) C hW 0 rfl (ci := 10) rfl i_Asm 0 (by decide) qc_554 rfl rfl dC_Asm_clear_1 ?_
  refine x_getC (pc := 4) C hW 3 rfl (ci := 1) rfl i_Row 0 (by decide) qc_54 rfl rfl dC_Asm_clear_4 ?_
  refine lv_istore_n (pc := 7) (lv' := [(1, .int (sX.1 0)), (0, .ref (o 144))]) hx hb dC_Asm_clear_7 rfl hl (by decide) rfl (fun ls hl => ?_)
  refine lv_aload_n (pc := 8) hx hb dC_Asm_clear_8 rfl (lv_at hl 1 rfl) ?_
  refine x_getC (pc := 9) C hW 0 rfl (ci := 10) rfl i_Asm 0 (by decide) qc_554 rfl rfl dC_Asm_clear_9 ?_
  refine lv_iconst (pc := 12) (v := 0) hx hb dC_Asm_clear_12 (by decide) ?_
  obtain ⟨r1, u2, hr1, hM⟩ := cl_some hM
  refine x_callC (pc := 13) (n' := 52) C hW (kC_Row_cut l D dA (zz o) (fun _ => o 0) (fun _ => b 0)  (0 : Int32) sX hr1) [3, 4, 0, 1, 2, 5, 6, 7, 8, 9, 10, 11, 12, 13, 14, 15, 16, 17, 18, 19, 20, 21, 22, 23, 24, 25, 26, 27, 28, 29, 30, 31, 32, 33, 34, 35, 36, 37, 38, 39, 40, 41, 42, 43, 44, 45, 46, 47, 48, 49, 50, 51] rfl (by decide +kernel) rfl (ci := 1) rfl (q0 := 3) rfl gC_Asm_93 ⟨rfl, by decide, by decide, by decide +kernel⟩ ⟨Nat.le_of_ble_eq_true rfl, Nat.le_of_ble_eq_true rfl⟩ ⟨Nat.le_refl _, Nat.le_refl _⟩ (As := [.int (0 : Int32)]) (n := 1) rfl hl.1 rfl (Nat.le_of_ble_eq_true rfl) dC_Asm_clear_13 (fun Wc' ov H locs hPo hWn => ?_)
  obtain ⟨rfl, rfl⟩ := hPo
  have hW := hWn (w_Asm dA o b i sG sR sL u2 sE sY sF sN sT sP sI) rfl rfl
  refine lv_iload_n (pc := 16) hx hb dC_Asm_clear_16 rfl (lv_at hl 0 rfl) ?_
  obtain ⟨rfl, rfl⟩ := sm_p hM
  exact x_retCi (pc := 17) C rfl hW ⟨rfl, rfl⟩ (Nat.le_refl 0) (Nat.le_refl 0) dC_Asm_clear_17
theorem kC_Asm_clear (l : Launch) (D : va_G) (dA : Nat → ClassId) (o b i : Nat → Nat)  (sG : CS) (sR : CS) (sL : CS) (sX : CS) (sE : CS) (sY : CS) (sF : CS) (sN : CS) (sT : CS) (sP : CS) (sI : CS) {r : Int32} {u : CS} (hM : C_Asm_clear  sG sR sL sX sE sY sF sN sT sP sI = some (r, u)) : KC l D dA (zz o) yC_Asm_clear cC_Asm_clear 2 (some .int) 1 21 0 0 (w_Asm dA o b i sG sR sL sX sE sY sF sN sT sP sI) [.ref (o 144)] (fun Ws' ov => Ws' = (w_Asm dA o b i sG sR sL u sE sY sF sN sT sP sI) ∧ ov = (some (.int r))) := x_enterC (by decide +kernel) (Nat.le_of_ble_eq_true rfl) (fun p e s m args below meth c A C _ hW ls hl => bC_Asm_clear_0 C  sG sR sL sX sE sY sF sN sT sP sI hM s.heap [] hW ls hl)
def C_Asm_line_37 (t0 : Int32) (sG : CS) (sR : CS) (sL : CS) (sX : CS) (sE : CS) (sY : CS) (sF : CS) (sN : CS) (sT : CS) (sP : CS) (sI : CS) : Option Int32 :=
  some t0
set_option maxHeartbeats 4000000 in
set_option maxRecDepth 100000 in
theorem bC_Asm_line_37  {r : Int32} (C : CxC R_Asm p s m args meth c cC_Asm_line 2 (some .int) D dA (zz o) A) (t0 : Int32) (sG : CS) (sR : CS) (sL : CS) (sX : CS) (sE : CS) (sY : CS) (sF : CS) (sN : CS) (sT : CS) (sP : CS) (sI : CS) (hM : C_Asm_line_37  t0 sG sR sL sX sE sY sF sN sT sP sI = some r) (hW : WdC D A s (w_Asm dA o b i sG sR sL sX sE sY sF sN sT sP sI) s.heap []) (ls : Array Slot) (hl : lv_has ls 2 []) : W p l e (rmC 1 21 0 0) s m args below meth c s.heap [] 0 0 (MQ below (QS (some (.int r))) args s 0 0 (fun _ => False)) (F0 m 37 ls [.int t0]) := by
  have hx := C.1.1
  have hb := C.1.2.1
  have hown := C.1.2.2.2.2.1
  have hT := C.1.2.2.2.2.2.1
  unfold C_Asm_line_37 at hM
  obtain rfl := sm_i hM
  exact x_retS (pc := 37) C.1 rfl dC_Asm_line_37
def C_Asm_line_36  (sG : CS) (sR : CS) (sL : CS) (sX : CS) (sE : CS) (sY : CS) (sF : CS) (sN : CS) (sT : CS) (sP : CS) (sI : CS) : Option Int32 :=
  C_Asm_line_37  (0 : Int32) sG sR sL sX sE sY sF sN sT sP sI
set_option maxHeartbeats 4000000 in
set_option maxRecDepth 100000 in
theorem bC_Asm_line_36  {r : Int32} (C : CxC R_Asm p s m args meth c cC_Asm_line 2 (some .int) D dA (zz o) A)  (sG : CS) (sR : CS) (sL : CS) (sX : CS) (sE : CS) (sY : CS) (sF : CS) (sN : CS) (sT : CS) (sP : CS) (sI : CS) (hM : C_Asm_line_36   sG sR sL sX sE sY sF sN sT sP sI = some r) (hW : WdC D A s (w_Asm dA o b i sG sR sL sX sE sY sF sN sT sP sI) s.heap []) (ls : Array Slot) (hl : lv_has ls 2 []) : W p l e (rmC 1 21 0 0) s m args below meth c s.heap [] 0 0 (MQ below (QS (some (.int r))) args s 0 0 (fun _ => False)) (F0 m 36 ls []) := by
  have hx := C.1.1
  have hb := C.1.2.1
  have hown := C.1.2.2.2.2.1
  have hT := C.1.2.2.2.2.2.1
  unfold C_Asm_line_36 at hM
  refine lv_iconst (pc := 36) (v := 0) hx hb dC_Asm_line_36 (by decide) ?_
  exact bC_Asm_line_37  C  _ _ _ _ _ _ _ _ _ _ _ _ hM hW _ (lv_sub hl [] rfl)
def C_Asm_line (x1 : Int32) (sG : CS) (sR : CS) (sL : CS) (sX : CS) (sE : CS) (sY : CS) (sF : CS) (sN : CS) (sT : CS) (sP : CS) (sI : CS) : Option Int32 :=
  (if (sG.1 0) = 0 then C_Asm_line_36  sG sR sL sX sE sY sF sN sT sP sI else (if x1 < 0 then C_Asm_line_36  sG sR sL sX sE sY sF sN sT sP sI else cr (C_Prg_end  sP sI) (fun r1 => (if r1 ≤ x1 then C_Asm_line_36  sG sR sL sX sE sY sF sN sT sP sI else cr (C_Row_get  x1 (rg sE 1)) (fun r2 => C_Asm_line_37  r2 sG sR sL sX sE sY sF sN sT sP sI)))))
set_option maxHeartbeats 4000000 in
set_option maxRecDepth 100000 in
theorem bC_Asm_line_0  {r : Int32} (C : CxC R_Asm p s m args meth c cC_Asm_line 2 (some .int) D dA (zz o) A) (x1 : Int32) (sG : CS) (sR : CS) (sL : CS) (sX : CS) (sE : CS) (sY : CS) (sF : CS) (sN : CS) (sT : CS) (sP : CS) (sI : CS) (hM : C_Asm_line  x1 sG sR sL sX sE sY sF sN sT sP sI = some r) (hW : WdC D A s (w_Asm dA o b i sG sR sL sX sE sY sF sN sT sP sI) s.heap []) (ls : Array Slot) (hl : lv_has ls 2 [(0, .ref (o 144)), (1, .int x1)]) : W p l e (rmC 1 21 0 0) s m args below meth c s.heap [] 0 0 (MQ below (QS (some (.int r))) args s 0 0 (fun _ => False)) (F0 m 0 ls []) := by
  have hx := C.1.1
  have hb := C.1.2.1
  have hown := C.1.2.2.2.2.1
  have hT := C.1.2.2.2.2.2.1
  unfold C_Asm_line at hM
  refine lv_aload_n (pc := 0) hx hb dC_Asm_line_0 rfl (lv_at hl 0 rfl) ?_
  refine x_getC (pc := 1) C hW 0 rfl (ci := 10) rfl i_Asm 9 (by decide) qc_563 rfl rfl dC_Asm_line_1 ?_
  refine lv_if_eq (pc := 4) (tgt := 36) hx hb dC_Asm_line_4 (by decide) (fun hc => ?_) (fun hc => ?_)
  · replace hM := it_t hc hM
    exact bC_Asm_line_36  C  _ _ _ _ _ _ _ _ _ _ _ hM hW _ (lv_sub hl [] rfl)
  · replace hM := it_f hc hM
    refine lv_iload_n (pc := 7) hx hb dC_Asm_line_7 rfl (lv_at hl 1 rfl) ?_
    refine lv_if_lt (pc := 8) (tgt := 36) hx hb dC_Asm_line_8 (by decide) (fun hc => ?_) (fun hc => ?_)
    · replace hM := it_t hc hM
      exact bC_Asm_line_36  C  _ _ _ _ _ _ _ _ _ _ _ hM hW _ (lv_sub hl [] rfl)
    · replace hM := it_f hc hM
      refine lv_iload_n (pc := 11) hx hb dC_Asm_line_11 rfl (lv_at hl 1 rfl) ?_
      refine lv_aload_n (pc := 12) hx hb dC_Asm_line_12 rfl (lv_at hl 0 rfl) ?_
      refine x_getC (pc := 13) C hW 0 rfl (ci := 10) rfl i_Asm 4 (by decide) qc_558 rfl rfl dC_Asm_line_13 ?_
      obtain ⟨r1, hr1, hM⟩ := cr_some hM
      refine x_callQ (pc := 16) (n' := 52) (ov := some (.int r1)) C hW (kC_Prg_end l D dA o b i  sP sI hr1) [45, 46, 47, 48, 49, 50, 51, 0, 1, 2, 3, 4, 5, 6, 7, 8, 9, 10, 11, 12, 13, 14, 15, 16, 17, 18, 19, 20, 21, 22, 23, 24, 25, 26, 27, 28, 29, 30, 31, 32, 33, 34, 35, 36, 37, 38, 39, 40, 41, 42, 43, 44] rfl (by decide +kernel) rfl (ci := 5) rfl (q0 := 45) rfl gC_Asm_116 ⟨rfl, by decide, by decide, by decide +kernel⟩ ⟨Nat.le_of_ble_eq_true rfl, Nat.le_of_ble_eq_true rfl⟩ ⟨Nat.le_refl _, Nat.le_refl _⟩ (As := []) (n := 0) rfl hl.1 rfl (Nat.le_of_ble_eq_true rfl) dC_Asm_line_16 ?_
      refine lv_icmp_ge (pc := 19) (tgt := 36) hx hb dC_Asm_line_19 (by decide) (fun hc => ?_) (fun hc => ?_)
      · replace hM := it_t hc hM
        exact bC_Asm_line_36  C  _ _ _ _ _ _ _ _ _ _ _ hM hW _ (lv_sub hl [] rfl)
      · replace hM := it_f hc hM
        refine lv_aload_n (pc := 22) hx hb dC_Asm_line_22 rfl (lv_at hl 0 rfl) ?_
        refine x_getC (pc := 23) C hW 0 rfl (ci := 10) rfl i_Asm 8 (by decide) qc_562 rfl rfl dC_Asm_line_23 ?_
        refine x_getC (pc := 26) C hW 5 rfl (ci := 9) rfl i_Enc 1 (by decide) qc_535 rfl rfl dC_Asm_line_26 ?_
        refine lv_iload_n (pc := 29) hx hb dC_Asm_line_29 rfl (lv_at hl 1 rfl) ?_
        obtain ⟨r2, hr2, hM⟩ := cr_some hM
        refine x_callQ (pc := 30) (n' := 52) (ov := some (.int r2)) C hW (kC_Row_get l D dA (zz o) (fun _ => o 130) (fun _ => b 130)  x1 (rg sE 1) hr2) [8, 9, 0, 1, 2, 3, 4, 5, 6, 7, 10, 11, 12, 13, 14, 15, 16, 17, 18, 19, 20, 21, 22, 23, 24, 25, 26, 27, 28, 29, 30, 31, 32, 33, 34, 35, 36, 37, 38, 39, 40, 41, 42, 43, 44, 45, 46, 47, 48, 49, 50, 51] rfl (by decide +kernel) rfl (ci := 1) rfl (q0 := 8) rfl gC_Asm_159 ⟨rfl, by decide, by decide, by decide +kernel⟩ ⟨Nat.le_of_ble_eq_true rfl, Nat.le_of_ble_eq_true rfl⟩ ⟨Nat.le_refl _, Nat.le_refl _⟩ (As := [.int x1]) (n := 1) rfl hl.1 rfl (Nat.le_of_ble_eq_true rfl) dC_Asm_line_30 ?_
        refine lv_goto (pc := 33) (tgt := 37) hx hb dC_Asm_line_33 (by decide) ?_
        exact bC_Asm_line_37  C  _ _ _ _ _ _ _ _ _ _ _ _ hM hW _ (lv_sub hl [] rfl)
theorem kC_Asm_line (l : Launch) (D : va_G) (dA : Nat → ClassId) (o b i : Nat → Nat) (x1 : Int32) (sG : CS) (sR : CS) (sL : CS) (sX : CS) (sE : CS) (sY : CS) (sF : CS) (sN : CS) (sT : CS) (sP : CS) (sI : CS) {r : Int32} (hM : C_Asm_line x1 sG sR sL sX sE sY sF sN sT sP sI = some r) : KQ l D dA (zz o) yC_Asm_line cC_Asm_line 2 (some .int) 1 21 (w_Asm dA o b i sG sR sL sX sE sY sF sN sT sP sI) [.ref (o 144), .int x1] (some (.int r)) := x_enterQ (by decide +kernel) (Nat.le_of_ble_eq_true rfl) (fun p e s m args below meth c A C hW ls hl => bC_Asm_line_0 C x1 sG sR sL sX sE sY sF sN sT sP sI hM hW ls hl)
def C_Asm_before_76 (N : Nat) (rec30 : Int32 → Int32 → Int32 → Int32 → Int32 → CS → CS → CS → CS → CS → CS → CS → CS → CS → CS → CS → Option Int32) (x1 : Int32) (x2 : Int32) (x3 : Int32) (x4 : Int32) (x5 : Int32) (sG : CS) (sR : CS) (sL : CS) (sX : CS) (sE : CS) (sY : CS) (sF : CS) (sN : CS) (sT : CS) (sP : CS) (sI : CS) : Option Int32 :=
  rec30 x1 x2 x3 x4 (x5 + (1 : Int32)) sG sR sL sX sE sY sF sN sT sP sI
set_option maxHeartbeats 4000000 in
set_option maxRecDepth 100000 in
theorem bC_Asm_before_76 (N : Nat) (rec30 : Int32 → Int32 → Int32 → Int32 → Int32 → CS → CS → CS → CS → CS → CS → CS → CS → CS → CS → CS → Option Int32) {r : Int32} (C : CxC R_Asm p s m args meth c cC_Asm_before 7 (some .int) D dA (zz o) A) (hrec30 : ∀ (x1 : Int32) (x2 : Int32) (x3 : Int32) (x4 : Int32) (x5 : Int32) (sG : CS) (sR : CS) (sL : CS) (sX : CS) (sE : CS) (sY : CS) (sF : CS) (sN : CS) (sT : CS) (sP : CS) (sI : CS) , rec30 x1 x2 x3 x4 x5 sG sR sL sX sE sY sF sN sT sP sI = some r → ∀ (hW : WdC D A s (w_Asm dA o b i sG sR sL sX sE sY sF sN sT sP sI) s.heap []) (ls : Array Slot) (hl : lv_has ls 7 [(0, .ref (o 144)), (1, .int x1), (2, .int x2), (3, .int x3), (4, .int x4), (5, .int x5)]), W p l e (rmC 4 142 0 0) s m args below meth c s.heap [] 0 0 (MQ below (QS (some (.int r))) args s 0 0 (fun _ => False)) (F0 m 30 ls [])) (x1 : Int32) (x2 : Int32) (x3 : Int32) (x4 : Int32) (x5 : Int32) (sG : CS) (sR : CS) (sL : CS) (sX : CS) (sE : CS) (sY : CS) (sF : CS) (sN : CS) (sT : CS) (sP : CS) (sI : CS) (hM : C_Asm_before_76 N rec30 x1 x2 x3 x4 x5 sG sR sL sX sE sY sF sN sT sP sI = some r) (hW : WdC D A s (w_Asm dA o b i sG sR sL sX sE sY sF sN sT sP sI) s.heap []) (ls : Array Slot) (hl : lv_has ls 7 [(0, .ref (o 144)), (1, .int x1), (2, .int x2), (3, .int x3), (4, .int x4), (5, .int x5)]) : W p l e (rmC 4 142 0 0) s m args below meth c s.heap [] 0 0 (MQ below (QS (some (.int r))) args s 0 0 (fun _ => False)) (F0 m 76 ls []) := by
  have hx := C.1.1
  have hb := C.1.2.1
  have hown := C.1.2.2.2.2.1
  have hT := C.1.2.2.2.2.2.1
  unfold C_Asm_before_76 at hM
  refine lv_iinc (pc := 76) (v := x5 + (1 : Int32)) (lv' := [(5, .int (x5 + (1 : Int32))), (0, .ref (o 144)), (1, .int x1), (2, .int x2), (3, .int x3), (4, .int x4)]) hx hb dC_Asm_before_76 hl (k := 5) rfl rfl (by decide) rfl (fun ls hl => ?_)
  refine lv_goto (pc := 79) (tgt := 30) hx hb dC_Asm_before_79 (by decide) ?_
  exact hrec30 _ _ _ _ _ _ _ _ _ _ _ _ _ _ _ _ hM hW _ (lv_sub hl [1, 2, 3, 4, 5, 0] rfl)
def C_Asm_before_30 (N : Nat)  : Nat → Int32 → Int32 → Int32 → Int32 → Int32 → CS → CS → CS → CS → CS → CS → CS → CS → CS → CS → CS → Option Int32
  | 0 => fun _ _ _ _ _ _ _ _ _ _ _ _ _ _ _ _ => none
  | n + 1 => fun x1 x2 x3 x4 x5 sG sR sL sX sE sY sF sN sT sP sI => (if x4 ≤ x5 then some x2 else cr (C_Row_get  x5 (rg sP 0)) (fun r1 => cr (C_Prg_addressOf  r1 sP sI) (fun r2 => (if x1 < r2 then C_Asm_before_76 N (C_Asm_before_30 N  n) x1 x2 x3 x4 x5 sG sR sL sX sE sY sF sN sT sP sI else (if r2 < x3 then C_Asm_before_76 N (C_Asm_before_30 N  n) x1 x2 x3 x4 x5 sG sR sL sX sE sY sF sN sT sP sI else C_Asm_before_76 N (C_Asm_before_30 N  n) x1 x5 r2 x4 x5 sG sR sL sX sE sY sF sN sT sP sI)))))
set_option maxHeartbeats 4000000 in
set_option maxRecDepth 100000 in
theorem bC_Asm_before_30 (N : Nat)  {r : Int32} (C : CxC R_Asm p s m args meth c cC_Asm_before 7 (some .int) D dA (zz o) A) : ∀ (n : Nat) (x1 : Int32) (x2 : Int32) (x3 : Int32) (x4 : Int32) (x5 : Int32) (sG : CS) (sR : CS) (sL : CS) (sX : CS) (sE : CS) (sY : CS) (sF : CS) (sN : CS) (sT : CS) (sP : CS) (sI : CS) , C_Asm_before_30 N  n x1 x2 x3 x4 x5 sG sR sL sX sE sY sF sN sT sP sI = some r → ∀ (hW : WdC D A s (w_Asm dA o b i sG sR sL sX sE sY sF sN sT sP sI) s.heap []) (ls : Array Slot) (hl : lv_has ls 7 [(0, .ref (o 144)), (1, .int x1), (2, .int x2), (3, .int x3), (4, .int x4), (5, .int x5)]), W p l e (rmC 4 142 0 0) s m args below meth c s.heap [] 0 0 (MQ below (QS (some (.int r))) args s 0 0 (fun _ => False)) (F0 m 30 ls []) := by
  have hx := C.1.1
  have hb := C.1.2.1
  have hown := C.1.2.2.2.2.1
  have hT := C.1.2.2.2.2.2.1
  intro n
  induction n with
  | zero => intro x1 x2 x3 x4 x5 sG sR sL sX sE sY sF sN sT sP sI hM; cases hM
  | succ n hrec30 =>
    intro x1 x2 x3 x4 x5 sG sR sL sX sE sY sF sN sT sP sI hM hW ls hl
    rw [C_Asm_before_30] at hM
    refine lv_iload (pc := 30) hx hb dC_Asm_before_30 (lv_at hl 5 rfl) ?_
    refine lv_iload (pc := 32) hx hb dC_Asm_before_32 (lv_at hl 4 rfl) ?_
    refine lv_icmp_ge (pc := 34) (tgt := 82) hx hb dC_Asm_before_34 (by decide) (fun hc => ?_) (fun hc => ?_)
    · replace hM := it_t hc hM
      refine lv_iload_n (pc := 82) hx hb dC_Asm_before_82 rfl (lv_at hl 2 rfl) ?_
      obtain rfl := sm_i hM
      exact x_retS (pc := 83) C.1 rfl dC_Asm_before_83
    · replace hM := it_f hc hM
      refine lv_aload_n (pc := 37) hx hb dC_Asm_before_37 rfl (lv_at hl 0 rfl) ?_
      refine x_getC (pc := 38) C hW 0 rfl (ci := 10) rfl i_Asm 4 (by decide) qc_558 rfl rfl dC_Asm_before_38 ?_
      refine lv_aload_n (pc := 41) hx hb dC_Asm_before_41 rfl (lv_at hl 0 rfl) ?_
      refine x_getC (pc := 42) C hW 0 rfl (ci := 10) rfl i_Asm 4 (by decide) qc_558 rfl rfl dC_Asm_before_42 ?_
      refine x_getC (pc := 45) C hW 45 rfl (ci := 5) rfl i_Prg 0 (by decide) qc_386 rfl rfl dC_Asm_before_45 ?_
      refine lv_iload (pc := 48) hx hb dC_Asm_before_48 (lv_at hl 5 rfl) ?_
      obtain ⟨r1, hr1, hM⟩ := cr_some hM
      refine x_callQ (pc := 50) (n' := 52) (ov := some (.int r1)) C hW (kC_Row_get l D dA (zz o) (fun _ => o 65) (fun _ => b 65)  x5 (rg sP 0) hr1) [46, 47, 0, 1, 2, 3, 4, 5, 6, 7, 8, 9, 10, 11, 12, 13, 14, 15, 16, 17, 18, 19, 20, 21, 22, 23, 24, 25, 26, 27, 28, 29, 30, 31, 32, 33, 34, 35, 36, 37, 38, 39, 40, 41, 42, 43, 44, 45, 48, 49, 50, 51] rfl (by decide +kernel) rfl (ci := 1) rfl (q0 := 46) rfl gC_Asm_159 ⟨rfl, by decide, by decide, by decide +kernel⟩ ⟨Nat.le_of_ble_eq_true rfl, Nat.le_of_ble_eq_true rfl⟩ ⟨Nat.le_refl _, Nat.le_refl _⟩ (As := [.int x5]) (n := 1) rfl hl.1 rfl (Nat.le_of_ble_eq_true rfl) dC_Asm_before_50 ?_
      obtain ⟨r2, hr2, hM⟩ := cr_some hM
      refine x_callQ (pc := 53) (n' := 52) (ov := some (.int r2)) C hW (kC_Prg_addressOf l D dA o b i  r1 sP sI hr2) [45, 46, 47, 48, 49, 50, 51, 0, 1, 2, 3, 4, 5, 6, 7, 8, 9, 10, 11, 12, 13, 14, 15, 16, 17, 18, 19, 20, 21, 22, 23, 24, 25, 26, 27, 28, 29, 30, 31, 32, 33, 34, 35, 36, 37, 38, 39, 40, 41, 42, 43, 44] rfl (by decide +kernel) rfl (ci := 5) rfl (q0 := 45) rfl gC_Asm_167 ⟨rfl, by decide, by decide, by decide +kernel⟩ ⟨Nat.le_of_ble_eq_true rfl, Nat.le_of_ble_eq_true rfl⟩ ⟨Nat.le_refl _, Nat.le_refl _⟩ (As := [.int r1]) (n := 1) rfl hl.1 rfl (Nat.le_of_ble_eq_true rfl) dC_Asm_before_53 ?_
      refine lv_istore (pc := 56) (lv' := [(6, .int r2), (0, .ref (o 144)), (1, .int x1), (2, .int x2), (3, .int x3), (4, .int x4), (5, .int x5)]) hx hb dC_Asm_before_56 hl (by decide) rfl (fun ls hl => ?_)
      refine lv_iload (pc := 58) hx hb dC_Asm_before_58 (lv_at hl 0 rfl) ?_
      refine lv_iload_n (pc := 60) hx hb dC_Asm_before_60 rfl (lv_at hl 2 rfl) ?_
      refine lv_icmp_gt (pc := 61) (tgt := 76) hx hb dC_Asm_before_61 (by decide) (fun hc => ?_) (fun hc => ?_)
      · replace hM := it_t hc hM
        exact bC_Asm_before_76 N _ C hrec30 _ _ _ _ _ _ _ _ _ _ _ _ _ _ _ _ hM hW _ (lv_sub hl [1, 2, 3, 4, 5, 6] rfl)
      · replace hM := it_f hc hM
        refine lv_iload (pc := 64) hx hb dC_Asm_before_64 (lv_at hl 0 rfl) ?_
        refine lv_iload_n (pc := 66) hx hb dC_Asm_before_66 rfl (lv_at hl 4 rfl) ?_
        refine lv_icmp_lt (pc := 67) (tgt := 76) hx hb dC_Asm_before_67 (by decide) (fun hc => ?_) (fun hc => ?_)
        · replace hM := it_t hc hM
          exact bC_Asm_before_76 N _ C hrec30 _ _ _ _ _ _ _ _ _ _ _ _ _ _ _ _ hM hW _ (lv_sub hl [1, 2, 3, 4, 5, 6] rfl)
        · replace hM := it_f hc hM
          refine lv_iload (pc := 70) hx hb dC_Asm_before_70 (lv_at hl 6 rfl) ?_
          refine lv_istore_n (pc := 72) (lv' := [(2, .int x5), (6, .int r2), (0, .ref (o 144)), (1, .int x1), (3, .int x3), (4, .int x4), (5, .int x5)]) hx hb dC_Asm_before_72 rfl hl (by decide) rfl (fun ls hl => ?_)
          refine lv_iload (pc := 73) hx hb dC_Asm_before_73 (lv_at hl 1 rfl) ?_
          refine lv_istore_n (pc := 75) (lv' := [(3, .int r2), (2, .int x5), (6, .int r2), (0, .ref (o 144)), (1, .int x1), (4, .int x4), (5, .int x5)]) hx hb dC_Asm_before_75 rfl hl (by decide) rfl (fun ls hl => ?_)
          exact bC_Asm_before_76 N _ C hrec30 _ _ _ _ _ _ _ _ _ _ _ _ _ _ _ _ hM hW _ (lv_sub hl [3, 4, 1, 0, 5, 6] rfl)
def C_Asm_before_25 (N : Nat) (x1 : Int32) (x2 : Int32) (x3 : Int32) (t0 : Int32) (sG : CS) (sR : CS) (sL : CS) (sX : CS) (sE : CS) (sY : CS) (sF : CS) (sN : CS) (sT : CS) (sP : CS) (sI : CS) : Option Int32 :=
  C_Asm_before_30 N  N x1 x2 x3 t0 (0 : Int32) sG sR sL sX sE sY sF sN sT sP sI
set_option maxHeartbeats 4000000 in
set_option maxRecDepth 100000 in
theorem bC_Asm_before_25 (N : Nat)  {r : Int32} (C : CxC R_Asm p s m args meth c cC_Asm_before 7 (some .int) D dA (zz o) A) (x1 : Int32) (x2 : Int32) (x3 : Int32) (t0 : Int32) (sG : CS) (sR : CS) (sL : CS) (sX : CS) (sE : CS) (sY : CS) (sF : CS) (sN : CS) (sT : CS) (sP : CS) (sI : CS) (hM : C_Asm_before_25 N  x1 x2 x3 t0 sG sR sL sX sE sY sF sN sT sP sI = some r) (hW : WdC D A s (w_Asm dA o b i sG sR sL sX sE sY sF sN sT sP sI) s.heap []) (ls : Array Slot) (hl : lv_has ls 7 [(0, .ref (o 144)), (1, .int x1), (2, .int x2), (3, .int x3)]) : W p l e (rmC 4 142 0 0) s m args below meth c s.heap [] 0 0 (MQ below (QS (some (.int r))) args s 0 0 (fun _ => False)) (F0 m 25 ls [.int t0]) := by
  have hx := C.1.1
  have hb := C.1.2.1
  have hown := C.1.2.2.2.2.1
  have hT := C.1.2.2.2.2.2.1
  unfold C_Asm_before_25 at hM
  refine lv_istore (pc := 25) (lv' := [(4, .int t0), (0, .ref (o 144)), (1, .int x1), (2, .int x2), (3, .int x3)]) hx hb dC_Asm_before_25 hl (by decide) rfl (fun ls hl => ?_)
  refine lv_iconst (pc := 27) (v := 0) hx hb dC_Asm_before_27 (by decide) ?_
  refine lv_istore (pc := 28) (lv' := [(5, .int (0 : Int32)), (4, .int t0), (0, .ref (o 144)), (1, .int x1), (2, .int x2), (3, .int x3)]) hx hb dC_Asm_before_28 hl (by decide) rfl (fun ls hl => ?_)
  exact bC_Asm_before_30 N  C  N _ _ _ _ _ _ _ _ _ _ _ _ _ _ _ _ hM hW _ (lv_sub hl [2, 3, 4, 5, 1, 0] rfl)
def C_Asm_before (N : Nat) (x1 : Int32) (sG : CS) (sR : CS) (sL : CS) (sX : CS) (sE : CS) (sY : CS) (sF : CS) (sN : CS) (sT : CS) (sP : CS) (sI : CS) : Option Int32 :=
  (if (sG.1 0) = 0 then C_Asm_before_25 N  x1 (-1 : Int32) (0 : Int32) (0 : Int32) sG sR sL sX sE sY sF sN sT sP sI else C_Asm_before_25 N  x1 (-1 : Int32) (0 : Int32) (sP.1 100) sG sR sL sX sE sY sF sN sT sP sI)
set_option maxHeartbeats 4000000 in
set_option maxRecDepth 100000 in
theorem bC_Asm_before_0 (N : Nat)  {r : Int32} (C : CxC R_Asm p s m args meth c cC_Asm_before 7 (some .int) D dA (zz o) A) (x1 : Int32) (sG : CS) (sR : CS) (sL : CS) (sX : CS) (sE : CS) (sY : CS) (sF : CS) (sN : CS) (sT : CS) (sP : CS) (sI : CS) (hM : C_Asm_before N  x1 sG sR sL sX sE sY sF sN sT sP sI = some r) (hW : WdC D A s (w_Asm dA o b i sG sR sL sX sE sY sF sN sT sP sI) s.heap []) (ls : Array Slot) (hl : lv_has ls 7 [(0, .ref (o 144)), (1, .int x1)]) : W p l e (rmC 4 142 0 0) s m args below meth c s.heap [] 0 0 (MQ below (QS (some (.int r))) args s 0 0 (fun _ => False)) (F0 m 0 ls []) := by
  have hx := C.1.1
  have hb := C.1.2.1
  have hown := C.1.2.2.2.2.1
  have hT := C.1.2.2.2.2.2.1
  unfold C_Asm_before at hM
  refine lv_iconst (pc := 0) (v := -1) hx hb dC_Asm_before_0 (by decide) ?_
  refine lv_istore_n (pc := 1) (lv' := [(2, .int (-1 : Int32)), (0, .ref (o 144)), (1, .int x1)]) hx hb dC_Asm_before_1 rfl hl (by decide) rfl (fun ls hl => ?_)
  refine lv_iconst (pc := 2) (v := 0) hx hb dC_Asm_before_2 (by decide) ?_
  refine lv_istore_n (pc := 3) (lv' := [(3, .int (0 : Int32)), (2, .int (-1 : Int32)), (0, .ref (o 144)), (1, .int x1)]) hx hb dC_Asm_before_3 rfl hl (by decide) rfl (fun ls hl => ?_)
  refine lv_aload_n (pc := 4) hx hb dC_Asm_before_4 rfl (lv_at hl 2 rfl) ?_
  refine x_getC (pc := 5) C hW 0 rfl (ci := 10) rfl i_Asm 9 (by decide) qc_563 rfl rfl dC_Asm_before_5 ?_
  refine lv_if_eq (pc := 8) (tgt := 24) hx hb dC_Asm_before_8 (by decide) (fun hc => ?_) (fun hc => ?_)
  · replace hM := it_t hc hM
    refine lv_iconst (pc := 24) (v := 0) hx hb dC_Asm_before_24 (by decide) ?_
    exact bC_Asm_before_25 N  C  _ _ _ _ _ _ _ _ _ _ _ _ _ _ _ hM hW _ (lv_sub hl [2, 3, 1, 0] rfl)
  · replace hM := it_f hc hM
    refine lv_aload_n (pc := 11) hx hb dC_Asm_before_11 rfl (lv_at hl 2 rfl) ?_
    refine x_getC (pc := 12) C hW 0 rfl (ci := 10) rfl i_Asm 4 (by decide) qc_558 rfl rfl dC_Asm_before_12 ?_
    refine x_getC (pc := 15) C hW 45 rfl (ci := 5) rfl i_Prg 0 (by decide) qc_386 rfl rfl dC_Asm_before_15 ?_
    refine x_getC (pc := 18) C hW 46 rfl (ci := 1) rfl i_Row 0 (by decide) qc_54 rfl rfl dC_Asm_before_18 ?_
    refine lv_goto (pc := 21) (tgt := 25) hx hb dC_Asm_before_21 (by decide) ?_
    exact bC_Asm_before_25 N  C  _ _ _ _ _ _ _ _ _ _ _ _ _ _ _ hM hW _ (lv_sub hl [2, 3, 1, 0] rfl)
theorem kC_Asm_before (l : Launch) (D : va_G) (dA : Nat → ClassId) (o b i : Nat → Nat) (N : Nat) (x1 : Int32) (sG : CS) (sR : CS) (sL : CS) (sX : CS) (sE : CS) (sY : CS) (sF : CS) (sN : CS) (sT : CS) (sP : CS) (sI : CS) {r : Int32} (hM : C_Asm_before N x1 sG sR sL sX sE sY sF sN sT sP sI = some r) : KQ l D dA (zz o) yC_Asm_before cC_Asm_before 7 (some .int) 4 142 (w_Asm dA o b i sG sR sL sX sE sY sF sN sT sP sI) [.ref (o 144), .int x1] (some (.int r)) := x_enterQ (by decide +kernel) (Nat.le_of_ble_eq_true rfl) (fun p e s m args below meth c A C hW ls hl => bC_Asm_before_0 N C x1 sG sR sL sX sE sY sF sN sT sP sI hM hW ls hl)
def C_Asm_assemble_124 (N : Nat) (x1 : Int32) (t1 : Int32) (sG : CS) (sR : CS) (sL : CS) (sX : CS) (sE : CS) (sY : CS) (sF : CS) (sN : CS) (sT : CS) (sP : CS) (sI : CS) : Option ((Int32 × (CS × CS × CS × CS × CS × CS × CS × CS × CS)) × (Nat × Nat)) :=
  gd (isB t1) (bnd (cF sG 0 t1) (fun sG2 => some ((x1, (sG2, sL, sE, sY, sF, sN, sT, sP, sI)), (0, 0))))
set_option maxHeartbeats 4000000 in
set_option maxRecDepth 100000 in
theorem bC_Asm_assemble_124 (N : Nat)  {r : Int32} {u : CS × CS × CS × CS × CS × CS × CS × CS × CS} {DC DS : Nat} (C : CxC R_Asm p s m args meth c cC_Asm_assemble 4 (some .int) D dA (zz o) A) (x1 : Int32) (t1 : Int32) (sG : CS) (sR : CS) (sL : CS) (sX : CS) (sE : CS) (sY : CS) (sF : CS) (sN : CS) (sT : CS) (sP : CS) (sI : CS) (dc ds kc ks : Nat) (hM : C_Asm_assemble_124 N  x1 t1 sG sR sL sX sE sY sF sN sT sP sI = some ((r, u), (dc, ds))) (hdc : kc + dc ≤ DC) (hds : ks + ds ≤ DS) (b i : Nat → Nat) (H : Heap) (locs : List Loc) (hW : WdC D A s (w_Asm dA o b i sG sR sL sX sE sY sF sN sT sP sI) H locs) (ls : Array Slot) (hl : lv_has ls 4 [(1, .int x1)]) : W p l e (rmC 12 425 DC DS) s m args below meth c H locs kc ks (MQ below (QC D A (fun Ws' ov => ∃ b' i' : Nat → Nat, Ws' = (w_Asm dA o b' i' u.1 sR u.2.1 sX u.2.2.1 u.2.2.2.1 u.2.2.2.2.1 u.2.2.2.2.2.1 u.2.2.2.2.2.2.1 u.2.2.2.2.2.2.2.1 u.2.2.2.2.2.2.2.2) ∧ ov = (some (.int r)))) args s DC DS A) (F0 m 124 ls [.int t1, .ref (o 144)]) := by
  have hx := C.1.1
  have hb := C.1.2.1
  have hown := C.1.2.2.2.2.1
  have hT := C.1.2.2.2.2.2.1
  unfold C_Asm_assemble_124 at hM
  obtain ⟨hg1, hM⟩ := gd_some hM
  refine x_putC (pc := 124) (ty := .boolean) (Ws' := (w_Asm dA o b i (cF sG 0 t1) sR sL sX sE sY sF sN sT sP sI)) C hW 0 rfl (ci := 10) rfl i_Asm tok_Asm n_Asm 9 (by decide) qc_563 rfl rfl (by decide +kernel) (isB_n hg1) (isB_f hg1) (Nat.le_of_ble_eq_true rfl) rfl dC_Asm_assemble_124 (fun H locs hW => ?_)
  obtain ⟨sG2, esG2, hM⟩ := bnd_some hM
  rw [← esG2] at hW
  refine lv_iload_n (pc := 127) hx hb dC_Asm_assemble_127 rfl (lv_at hl 0 rfl) ?_
  obtain ⟨rfl, rfl, rfl, rfl⟩ := sm_q hM
  exact x_retCi (pc := 128) C rfl hW ⟨_, _, rfl, rfl⟩ (by omega) (by omega) dC_Asm_assemble_128
def C_Asm_assemble_114 (N : Nat) (x1 : Int32) (sG : CS) (sR : CS) (sL : CS) (sX : CS) (sE : CS) (sY : CS) (sF : CS) (sN : CS) (sT : CS) (sP : CS) (sI : CS) : Option ((Int32 × (CS × CS × CS × CS × CS × CS × CS × CS × CS)) × (Nat × Nat)) :=
  (if x1 = 0 then C_Asm_assemble_124 N  x1 (1 : Int32) sG sR sL sX sE sY sF sN sT sP sI else C_Asm_assemble_124 N  x1 (0 : Int32) sG sR sL sX sE sY sF sN sT sP sI)
set_option maxHeartbeats 4000000 in
set_option maxRecDepth 100000 in
theorem bC_Asm_assemble_114 (N : Nat)  {r : Int32} {u : CS × CS × CS × CS × CS × CS × CS × CS × CS} {DC DS : Nat} (C : CxC R_Asm p s m args meth c cC_Asm_assemble 4 (some .int) D dA (zz o) A) (x1 : Int32) (sG : CS) (sR : CS) (sL : CS) (sX : CS) (sE : CS) (sY : CS) (sF : CS) (sN : CS) (sT : CS) (sP : CS) (sI : CS) (dc ds kc ks : Nat) (hM : C_Asm_assemble_114 N  x1 sG sR sL sX sE sY sF sN sT sP sI = some ((r, u), (dc, ds))) (hdc : kc + dc ≤ DC) (hds : ks + ds ≤ DS) (b i : Nat → Nat) (H : Heap) (locs : List Loc) (hW : WdC D A s (w_Asm dA o b i sG sR sL sX sE sY sF sN sT sP sI) H locs) (ls : Array Slot) (hl : lv_has ls 4 [(0, .ref (o 144)), (1, .int x1)]) : W p l e (rmC 12 425 DC DS) s m args below meth c H locs kc ks (MQ below (QC D A (fun Ws' ov => ∃ b' i' : Nat → Nat, Ws' = (w_Asm dA o b' i' u.1 sR u.2.1 sX u.2.2.1 u.2.2.2.1 u.2.2.2.2.1 u.2.2.2.2.2.1 u.2.2.2.2.2.2.1 u.2.2.2.2.2.2.2.1 u.2.2.2.2.2.2.2.2) ∧ ov = (some (.int r)))) args s DC DS A) (F0 m 114 ls []) := by
  have hx := C.1.1
  have hb := C.1.2.1
  have hown := C.1.2.2.2.2.1
  have hT := C.1.2.2.2.2.2.1
  unfold C_Asm_assemble_114 at hM
  refine lv_aload_n (pc := 114) hx hb dC_Asm_assemble_114 rfl (lv_at hl 0 rfl) ?_
  refine lv_iload_n (pc := 115) hx hb dC_Asm_assemble_115 rfl (lv_at hl 1 rfl) ?_
  refine lv_if_ne (pc := 116) (tgt := 123) hx hb dC_Asm_assemble_116 (by decide) (fun hc => ?_) (fun hc => ?_)
  · replace hM := it_f hc hM
    refine lv_iconst (pc := 123) (v := 0) hx hb dC_Asm_assemble_123 (by decide) ?_
    exact bC_Asm_assemble_124 N  C  _ _ _ _ _ _ _ _ _ _ _ _ _ _ _ _ _ hM (by omega) (by omega) _ _ _ _ hW _ (lv_sub hl [1] rfl)
  · replace hM := it_t hc hM
    refine lv_iconst (pc := 119) (v := 1) hx hb dC_Asm_assemble_119 (by decide) ?_
    refine lv_goto (pc := 120) (tgt := 124) hx hb dC_Asm_assemble_120 (by decide) ?_
    exact bC_Asm_assemble_124 N  C  _ _ _ _ _ _ _ _ _ _ _ _ _ _ _ _ _ hM (by omega) (by omega) _ _ _ _ hW _ (lv_sub hl [1] rfl)
def C_Asm_assemble_113 (N : Nat) (t0 : Int32) (sG : CS) (sR : CS) (sL : CS) (sX : CS) (sE : CS) (sY : CS) (sF : CS) (sN : CS) (sT : CS) (sP : CS) (sI : CS) : Option ((Int32 × (CS × CS × CS × CS × CS × CS × CS × CS × CS)) × (Nat × Nat)) :=
  C_Asm_assemble_114 N  t0 sG sR sL sX sE sY sF sN sT sP sI
set_option maxHeartbeats 4000000 in
set_option maxRecDepth 100000 in
theorem bC_Asm_assemble_113 (N : Nat)  {r : Int32} {u : CS × CS × CS × CS × CS × CS × CS × CS × CS} {DC DS : Nat} (C : CxC R_Asm p s m args meth c cC_Asm_assemble 4 (some .int) D dA (zz o) A) (t0 : Int32) (sG : CS) (sR : CS) (sL : CS) (sX : CS) (sE : CS) (sY : CS) (sF : CS) (sN : CS) (sT : CS) (sP : CS) (sI : CS) (dc ds kc ks : Nat) (hM : C_Asm_assemble_113 N  t0 sG sR sL sX sE sY sF sN sT sP sI = some ((r, u), (dc, ds))) (hdc : kc + dc ≤ DC) (hds : ks + ds ≤ DS) (b i : Nat → Nat) (H : Heap) (locs : List Loc) (hW : WdC D A s (w_Asm dA o b i sG sR sL sX sE sY sF sN sT sP sI) H locs) (ls : Array Slot) (hl : lv_has ls 4 [(0, .ref (o 144))]) : W p l e (rmC 12 425 DC DS) s m args below meth c H locs kc ks (MQ below (QC D A (fun Ws' ov => ∃ b' i' : Nat → Nat, Ws' = (w_Asm dA o b' i' u.1 sR u.2.1 sX u.2.2.1 u.2.2.2.1 u.2.2.2.2.1 u.2.2.2.2.2.1 u.2.2.2.2.2.2.1 u.2.2.2.2.2.2.2.1 u.2.2.2.2.2.2.2.2) ∧ ov = (some (.int r)))) args s DC DS A) (F0 m 113 ls [.int t0]) := by
  have hx := C.1.1
  have hb := C.1.2.1
  have hown := C.1.2.2.2.2.1
  have hT := C.1.2.2.2.2.2.1
  unfold C_Asm_assemble_113 at hM
  refine lv_istore_n (pc := 113) (lv' := [(1, .int t0), (0, .ref (o 144))]) hx hb dC_Asm_assemble_113 rfl hl (by decide) rfl (fun ls hl => ?_)
  exact bC_Asm_assemble_114 N  C  _ _ _ _ _ _ _ _ _ _ _ _ _ _ _ _ hM (by omega) (by omega) _ _ _ _ hW _ (lv_sub hl [1, 0] rfl)
def C_Asm_assemble_78 (N : Nat) (x1 : Int32) (sG : CS) (sR : CS) (sL : CS) (sX : CS) (sE : CS) (sY : CS) (sF : CS) (sN : CS) (sT : CS) (sP : CS) (sI : CS) : Option ((Int32 × (CS × CS × CS × CS × CS × CS × CS × CS × CS)) × (Nat × Nat)) :=
  (if x1 = 0 then ct (C_Enc_settle N sE sY sF sN sT sP sI) (fun r1 u2 => cr (C_Prg_end  u2.2.2.1 u2.2.2.2) (fun r8 => (if r8 ≤ (32768 : Int32) then ct (C_Enc_encodeAll N u2.1 sY u2.2.1 sN sT u2.2.2.1 u2.2.2.2) (fun r9 u10 => C_Asm_assemble_113 N  r9 sG sR sL sX u10.1 sY u10.2 sN sT u2.2.2.1 u2.2.2.2) else C_Asm_assemble_113 N  (7 : Int32) sG sR sL sX u2.1 sY u2.2.1 sN sT u2.2.2.1 u2.2.2.2))) else C_Asm_assemble_114 N  x1 sG sR sL sX sE sY sF sN sT sP sI)
set_option maxHeartbeats 4000000 in
set_option maxRecDepth 100000 in
theorem bC_Asm_assemble_78 (N : Nat)  {r : Int32} {u : CS × CS × CS × CS × CS × CS × CS × CS × CS} {DC DS : Nat} (C : CxC R_Asm p s m args meth c cC_Asm_assemble 4 (some .int) D dA (zz o) A) (x1 : Int32) (sG : CS) (sR : CS) (sL : CS) (sX : CS) (sE : CS) (sY : CS) (sF : CS) (sN : CS) (sT : CS) (sP : CS) (sI : CS) (dc ds kc ks : Nat) (hM : C_Asm_assemble_78 N  x1 sG sR sL sX sE sY sF sN sT sP sI = some ((r, u), (dc, ds))) (hdc : kc + dc ≤ DC) (hds : ks + ds ≤ DS) (b i : Nat → Nat) (H : Heap) (locs : List Loc) (hW : WdC D A s (w_Asm dA o b i sG sR sL sX sE sY sF sN sT sP sI) H locs) (ls : Array Slot) (hl : lv_has ls 4 [(0, .ref (o 144)), (1, .int x1)]) : W p l e (rmC 12 425 DC DS) s m args below meth c H locs kc ks (MQ below (QC D A (fun Ws' ov => ∃ b' i' : Nat → Nat, Ws' = (w_Asm dA o b' i' u.1 sR u.2.1 sX u.2.2.1 u.2.2.2.1 u.2.2.2.2.1 u.2.2.2.2.2.1 u.2.2.2.2.2.2.1 u.2.2.2.2.2.2.2.1 u.2.2.2.2.2.2.2.2) ∧ ov = (some (.int r)))) args s DC DS A) (F0 m 78 ls []) := by
  have hx := C.1.1
  have hb := C.1.2.1
  have hown := C.1.2.2.2.2.1
  have hT := C.1.2.2.2.2.2.1
  unfold C_Asm_assemble_78 at hM
  refine lv_iload_n (pc := 78) hx hb dC_Asm_assemble_78 rfl (lv_at hl 1 rfl) ?_
  refine lv_if_ne (pc := 79) (tgt := 114) hx hb dC_Asm_assemble_79 (by decide) (fun hc => ?_) (fun hc => ?_)
  · replace hM := it_f hc hM
    exact bC_Asm_assemble_114 N  C  _ _ _ _ _ _ _ _ _ _ _ _ _ _ _ _ hM (by omega) (by omega) _ _ _ _ hW _ (lv_sub hl [0, 1] rfl)
  · replace hM := it_t hc hM
    refine lv_aload_n (pc := 82) hx hb dC_Asm_assemble_82 rfl (lv_at hl 0 rfl) ?_
    refine x_getC (pc := 83) C hW 0 rfl (ci := 10) rfl i_Asm 8 (by decide) qc_562 rfl rfl dC_Asm_assemble_83 ?_
    obtain ⟨r1, u2, da3, ea4, db5, eb6, hr1, hM, hqda3, hpda3⟩ := ct_some hM
    refine x_callC (pc := 86) (n' := 52) C hW (kC_Enc_settle l D dA o b i N sE sY sF sN sT sP sI hr1) [5, 6, 7, 8, 9, 10, 11, 12, 13, 14, 15, 16, 17, 18, 19, 20, 21, 22, 23, 24, 25, 26, 27, 28, 29, 30, 31, 32, 33, 34, 35, 36, 37, 38, 39, 40, 41, 42, 43, 44, 45, 46, 47, 48, 49, 50, 51, 0, 1, 2, 3, 4] rfl (by decide +kernel) rfl (ci := 9) rfl (q0 := 5) rfl gC_Asm_113 ⟨rfl, by decide, by decide, by decide +kernel⟩ ⟨Nat.le_of_ble_eq_true rfl, Nat.le_of_ble_eq_true rfl⟩ ⟨show _ + da3 ≤ DC by omega, show _ + ea4 ≤ DS by omega⟩ (As := []) (n := 0) rfl hl.1 rfl (Nat.le_of_ble_eq_true rfl) dC_Asm_assemble_86 (fun Wc' ov H locs hPo hWn => ?_)
    obtain ⟨b7, rfl, rfl⟩ := hPo
    have hW := hWn (w_Asm dA o (mxs [1, 2, 3, 4, 6, 8] b7 b) i sG sR sL sX u2.1 sY u2.2.1 sN sT u2.2.2.1 u2.2.2.2) rfl rfl
    generalize mxs [1, 2, 3, 4, 6, 8] b7 b = b at hW
    refine lv_aload_n (pc := 89) hx hb dC_Asm_assemble_89 rfl (lv_at hl 0 rfl) ?_
    refine x_getC (pc := 90) C hW 0 rfl (ci := 10) rfl i_Asm 4 (by decide) qc_558 rfl rfl dC_Asm_assemble_90 ?_
    obtain ⟨r8, hr8, hM⟩ := cr_some hM
    refine x_callQ (pc := 93) (n' := 52) (ov := some (.int r8)) C hW (kC_Prg_end l D dA o b i  u2.2.2.1 u2.2.2.2 hr8) [45, 46, 47, 48, 49, 50, 51, 0, 1, 2, 3, 4, 5, 6, 7, 8, 9, 10, 11, 12, 13, 14, 15, 16, 17, 18, 19, 20, 21, 22, 23, 24, 25, 26, 27, 28, 29, 30, 31, 32, 33, 34, 35, 36, 37, 38, 39, 40, 41, 42, 43, 44] rfl (by decide +kernel) rfl (ci := 5) rfl (q0 := 45) rfl gC_Asm_116 ⟨rfl, by decide, by decide, by decide +kernel⟩ ⟨Nat.le_of_ble_eq_true rfl, Nat.le_of_ble_eq_true rfl⟩ ⟨show _ ≤ DC by omega, show _ ≤ DS by omega⟩ (As := []) (n := 0) rfl hl.1 rfl (Nat.le_of_ble_eq_true rfl) dC_Asm_assemble_93 ?_
    refine lv_ldc (pc := 96) (v := 32768) hx hb hown (hT _ qc_1352) dC_Asm_assemble_96 ?_
    refine lv_icmp_le (pc := 98) (tgt := 106) hx hb dC_Asm_assemble_98 (by decide) (fun hc => ?_) (fun hc => ?_)
    · replace hM := it_t hc hM
      refine lv_aload_n (pc := 106) hx hb dC_Asm_assemble_106 rfl (lv_at hl 0 rfl) ?_
      refine x_getC (pc := 107) C hW 0 rfl (ci := 10) rfl i_Asm 8 (by decide) qc_562 rfl rfl dC_Asm_assemble_107 ?_
      obtain ⟨r9, u10, da11, ea12, db13, eb14, hr9, hM, hqda11, hpda11⟩ := ct_some hM
      refine x_callC (pc := 110) (n' := 52) C hW (kC_Enc_encodeAll l D dA o b i N u2.1 sY u2.2.1 sN sT u2.2.2.1 u2.2.2.2 hr9) [5, 6, 7, 8, 9, 10, 11, 12, 13, 14, 15, 16, 17, 18, 19, 20, 21, 22, 23, 24, 25, 26, 27, 28, 29, 30, 31, 32, 33, 34, 35, 36, 37, 38, 39, 40, 41, 42, 43, 44, 45, 46, 47, 48, 49, 50, 51, 0, 1, 2, 3, 4] rfl (by decide +kernel) rfl (ci := 9) rfl (q0 := 5) rfl gC_Asm_121 ⟨rfl, by decide, by decide, by decide +kernel⟩ ⟨Nat.le_of_ble_eq_true rfl, Nat.le_of_ble_eq_true rfl⟩ ⟨show _ + da11 ≤ DC by omega, show _ + ea12 ≤ DS by omega⟩ (As := []) (n := 0) rfl hl.1 rfl (Nat.le_of_ble_eq_true rfl) dC_Asm_assemble_110 (fun Wc' ov H locs hPo hWn => ?_)
      obtain ⟨b15, rfl, rfl⟩ := hPo
      have hW := hWn (w_Asm dA o (mxs [1, 2, 3, 4, 6, 8] b15 b) i sG sR sL sX u10.1 sY u10.2 sN sT u2.2.2.1 u2.2.2.2) rfl rfl
      generalize mxs [1, 2, 3, 4, 6, 8] b15 b = b at hW
      exact bC_Asm_assemble_113 N  C  _ _ _ _ _ _ _ _ _ _ _ _ _ _ _ _ hM (by omega) (by omega) _ _ _ _ hW _ (lv_sub hl [0] rfl)
    · replace hM := it_f hc hM
      refine lv_bipush (pc := 101) (v := 7) hx hb dC_Asm_assemble_101 (by decide) ?_
      refine lv_goto (pc := 103) (tgt := 113) hx hb dC_Asm_assemble_103 (by decide) ?_
      exact bC_Asm_assemble_113 N  C  _ _ _ _ _ _ _ _ _ _ _ _ _ _ _ _ hM (by omega) (by omega) _ _ _ _ hW _ (lv_sub hl [0] rfl)
def C_Asm_assemble_72 (N : Nat) (rec37 : Int32 → Int32 → CS → CS → CS → CS → CS → CS → CS → CS → CS → CS → CS → Option ((Int32 × (CS × CS × CS × CS × CS × CS × CS × CS × CS)) × (Nat × Nat))) (x1 : Int32) (x2 : Int32) (sG : CS) (sR : CS) (sL : CS) (sX : CS) (sE : CS) (sY : CS) (sF : CS) (sN : CS) (sT : CS) (sP : CS) (sI : CS) : Option ((Int32 × (CS × CS × CS × CS × CS × CS × CS × CS × CS)) × (Nat × Nat)) :=
  rec37 x1 (x2 + (1 : Int32)) sG sR sL sX sE sY sF sN sT sP sI
set_option maxHeartbeats 4000000 in
set_option maxRecDepth 100000 in
theorem bC_Asm_assemble_72 (N : Nat) (rec37 : Int32 → Int32 → CS → CS → CS → CS → CS → CS → CS → CS → CS → CS → CS → Option ((Int32 × (CS × CS × CS × CS × CS × CS × CS × CS × CS)) × (Nat × Nat))) {r : Int32} {u : CS × CS × CS × CS × CS × CS × CS × CS × CS} {DC DS : Nat} (C : CxC R_Asm p s m args meth c cC_Asm_assemble 4 (some .int) D dA (zz o) A) (hrec37 : ∀ (x1 : Int32) (x2 : Int32) (sG : CS) (sR : CS) (sL : CS) (sX : CS) (sE : CS) (sY : CS) (sF : CS) (sN : CS) (sT : CS) (sP : CS) (sI : CS) (dc ds kc ks : Nat) , rec37 x1 x2 sG sR sL sX sE sY sF sN sT sP sI = some ((r, u), (dc, ds)) → ∀ (hdc : kc + dc ≤ DC) (hds : ks + ds ≤ DS) (b i : Nat → Nat) (H : Heap) (locs : List Loc) (hW : WdC D A s (w_Asm dA o b i sG sR sL sX sE sY sF sN sT sP sI) H locs) (ls : Array Slot) (hl : lv_has ls 4 [(0, .ref (o 144)), (1, .int x1), (2, .int x2)]), W p l e (rmC 12 425 DC DS) s m args below meth c H locs kc ks (MQ below (QC D A (fun Ws' ov => ∃ b' i' : Nat → Nat, Ws' = (w_Asm dA o b' i' u.1 sR u.2.1 sX u.2.2.1 u.2.2.2.1 u.2.2.2.2.1 u.2.2.2.2.2.1 u.2.2.2.2.2.2.1 u.2.2.2.2.2.2.2.1 u.2.2.2.2.2.2.2.2) ∧ ov = (some (.int r)))) args s DC DS A) (F0 m 37 ls [])) (x1 : Int32) (x2 : Int32) (sG : CS) (sR : CS) (sL : CS) (sX : CS) (sE : CS) (sY : CS) (sF : CS) (sN : CS) (sT : CS) (sP : CS) (sI : CS) (dc ds kc ks : Nat) (hM : C_Asm_assemble_72 N rec37 x1 x2 sG sR sL sX sE sY sF sN sT sP sI = some ((r, u), (dc, ds))) (hdc : kc + dc ≤ DC) (hds : ks + ds ≤ DS) (b i : Nat → Nat) (H : Heap) (locs : List Loc) (hW : WdC D A s (w_Asm dA o b i sG sR sL sX sE sY sF sN sT sP sI) H locs) (ls : Array Slot) (hl : lv_has ls 4 [(0, .ref (o 144)), (1, .int x1), (2, .int x2)]) : W p l e (rmC 12 425 DC DS) s m args below meth c H locs kc ks (MQ below (QC D A (fun Ws' ov => ∃ b' i' : Nat → Nat, Ws' = (w_Asm dA o b' i' u.1 sR u.2.1 sX u.2.2.1 u.2.2.2.1 u.2.2.2.2.1 u.2.2.2.2.2.1 u.2.2.2.2.2.2.1 u.2.2.2.2.2.2.2.1 u.2.2.2.2.2.2.2.2) ∧ ov = (some (.int r)))) args s DC DS A) (F0 m 72 ls []) := by
  have hx := C.1.1
  have hb := C.1.2.1
  have hown := C.1.2.2.2.2.1
  have hT := C.1.2.2.2.2.2.1
  unfold C_Asm_assemble_72 at hM
  refine lv_iinc (pc := 72) (v := x2 + (1 : Int32)) (lv' := [(2, .int (x2 + (1 : Int32))), (0, .ref (o 144)), (1, .int x1)]) hx hb dC_Asm_assemble_72 hl (k := 2) rfl rfl (by decide) rfl (fun ls hl => ?_)
  refine lv_goto (pc := 75) (tgt := 37) hx hb dC_Asm_assemble_75 (by decide) ?_
  exact hrec37 _ _ _ _ _ _ _ _ _ _ _ _ _ _ _ _ _ hM (by omega) (by omega) _ _ _ _ hW _ (lv_sub hl [1, 2, 0] rfl)
def C_Asm_assemble_37 (N : Nat)  : Nat → Int32 → Int32 → CS → CS → CS → CS → CS → CS → CS → CS → CS → CS → CS → Option ((Int32 × (CS × CS × CS × CS × CS × CS × CS × CS × CS)) × (Nat × Nat))
  | 0 => fun _ _ _ _ _ _ _ _ _ _ _ _ _ => none
  | n + 1 => fun x1 x2 sG sR sL sX sE sY sF sN sT sP sI => (if (sT.1 0) < x2 then C_Asm_assemble_78 N  x1 sG sR sL sX sE sY sF sN sT sP sI else (if x1 = 0 then ct (C_Par_readLine N x2 sR sF sN sT sP sI) (fun r1 u2 => (if r1 = 0 then C_Asm_assemble_72 N (C_Asm_assemble_37 N  n) x1 x2 sG sR sL sX sE sY u2.1 u2.2.1 u2.2.2.1 u2.2.2.2.1 u2.2.2.2.2 else C_Asm_assemble_72 N (C_Asm_assemble_37 N  n) (r1 + ((16 : Int32) * x2)) x2 sG sR sL sX sE sY u2.1 u2.2.1 u2.2.2.1 u2.2.2.2.1 u2.2.2.2.2)) else C_Asm_assemble_78 N  x1 sG sR sL sX sE sY sF sN sT sP sI))
set_option maxHeartbeats 4000000 in
set_option maxRecDepth 100000 in
theorem bC_Asm_assemble_37 (N : Nat)  {r : Int32} {u : CS × CS × CS × CS × CS × CS × CS × CS × CS} {DC DS : Nat} (C : CxC R_Asm p s m args meth c cC_Asm_assemble 4 (some .int) D dA (zz o) A) : ∀ (n : Nat) (x1 : Int32) (x2 : Int32) (sG : CS) (sR : CS) (sL : CS) (sX : CS) (sE : CS) (sY : CS) (sF : CS) (sN : CS) (sT : CS) (sP : CS) (sI : CS) (dc ds kc ks : Nat) , C_Asm_assemble_37 N  n x1 x2 sG sR sL sX sE sY sF sN sT sP sI = some ((r, u), (dc, ds)) → ∀ (hdc : kc + dc ≤ DC) (hds : ks + ds ≤ DS) (b i : Nat → Nat) (H : Heap) (locs : List Loc) (hW : WdC D A s (w_Asm dA o b i sG sR sL sX sE sY sF sN sT sP sI) H locs) (ls : Array Slot) (hl : lv_has ls 4 [(0, .ref (o 144)), (1, .int x1), (2, .int x2)]), W p l e (rmC 12 425 DC DS) s m args below meth c H locs kc ks (MQ below (QC D A (fun Ws' ov => ∃ b' i' : Nat → Nat, Ws' = (w_Asm dA o b' i' u.1 sR u.2.1 sX u.2.2.1 u.2.2.2.1 u.2.2.2.2.1 u.2.2.2.2.2.1 u.2.2.2.2.2.2.1 u.2.2.2.2.2.2.2.1 u.2.2.2.2.2.2.2.2) ∧ ov = (some (.int r)))) args s DC DS A) (F0 m 37 ls []) := by
  have hx := C.1.1
  have hb := C.1.2.1
  have hown := C.1.2.2.2.2.1
  have hT := C.1.2.2.2.2.2.1
  intro n
  induction n with
  | zero => intro x1 x2 sG sR sL sX sE sY sF sN sT sP sI dc ds kc ks hM; cases hM
  | succ n hrec37 =>
    intro x1 x2 sG sR sL sX sE sY sF sN sT sP sI dc ds kc ks hM hdc hds b i H locs hW ls hl
    rw [C_Asm_assemble_37] at hM
    refine lv_iload_n (pc := 37) hx hb dC_Asm_assemble_37 rfl (lv_at hl 2 rfl) ?_
    refine lv_aload_n (pc := 38) hx hb dC_Asm_assemble_38 rfl (lv_at hl 0 rfl) ?_
    refine x_getC (pc := 39) C hW 0 rfl (ci := 10) rfl i_Asm 2 (by decide) qc_556 rfl rfl dC_Asm_assemble_39 ?_
    refine x_getC (pc := 42) C hW 41 rfl (ci := 3) rfl i_Tok 0 (by decide) qc_277 rfl rfl dC_Asm_assemble_42 ?_
    refine lv_icmp_gt (pc := 45) (tgt := 78) hx hb dC_Asm_assemble_45 (by decide) (fun hc => ?_) (fun hc => ?_)
    · replace hM := it_t hc hM
      exact bC_Asm_assemble_78 N  C  _ _ _ _ _ _ _ _ _ _ _ _ _ _ _ _ hM (by omega) (by omega) _ _ _ _ hW _ (lv_sub hl [0, 1] rfl)
    · replace hM := it_f hc hM
      refine lv_iload_n (pc := 48) hx hb dC_Asm_assemble_48 rfl (lv_at hl 1 rfl) ?_
      refine lv_if_ne (pc := 49) (tgt := 78) hx hb dC_Asm_assemble_49 (by decide) (fun hc => ?_) (fun hc => ?_)
      · replace hM := it_f hc hM
        exact bC_Asm_assemble_78 N  C  _ _ _ _ _ _ _ _ _ _ _ _ _ _ _ _ hM (by omega) (by omega) _ _ _ _ hW _ (lv_sub hl [0, 1] rfl)
      · replace hM := it_t hc hM
        refine lv_aload_n (pc := 52) hx hb dC_Asm_assemble_52 rfl (lv_at hl 0 rfl) ?_
        refine x_getC (pc := 53) C hW 0 rfl (ci := 10) rfl i_Asm 7 (by decide) qc_561 rfl rfl dC_Asm_assemble_53 ?_
        refine lv_iload_n (pc := 56) hx hb dC_Asm_assemble_56 rfl (lv_at hl 2 rfl) ?_
        obtain ⟨r1, u2, da3, ea4, db5, eb6, hr1, hM, hqda3, hpda3⟩ := ct_some hM
        refine x_callC (pc := 57) (n' := 52) C hW (kC_Par_readLine l D dA o b i N x2 sR sF sN sT sP sI hr1) [1, 12, 13, 14, 15, 16, 17, 18, 19, 20, 21, 22, 23, 24, 25, 26, 27, 28, 29, 30, 31, 32, 33, 34, 35, 36, 37, 38, 39, 40, 41, 42, 43, 44, 45, 46, 47, 48, 49, 50, 51, 0, 2, 3, 4, 5, 6, 7, 8, 9, 10, 11] rfl (by decide +kernel) rfl (ci := 8) rfl (q0 := 1) rfl gC_Asm_109 ⟨rfl, by decide, by decide, by decide +kernel⟩ ⟨Nat.le_of_ble_eq_true rfl, Nat.le_of_ble_eq_true rfl⟩ ⟨show _ + da3 ≤ DC by omega, show _ + ea4 ≤ DS by omega⟩ (As := [.int x2]) (n := 1) rfl hl.1 rfl (Nat.le_of_ble_eq_true rfl) dC_Asm_assemble_57 (fun Wc' ov H locs hPo hWn => ?_)
        obtain ⟨b7, i, rfl, rfl⟩ := hPo
        have hW := hWn (w_Asm dA o (mxs [1, 2, 4, 6] b7 b) i sG sR sL sX sE sY u2.1 u2.2.1 u2.2.2.1 u2.2.2.2.1 u2.2.2.2.2) rfl rfl
        generalize mxs [1, 2, 4, 6] b7 b = b at hW
        refine lv_istore_n (pc := 60) (lv' := [(3, .int r1), (0, .ref (o 144)), (1, .int x1), (2, .int x2)]) hx hb dC_Asm_assemble_60 rfl hl (by decide) rfl (fun ls hl => ?_)
        refine lv_iload_n (pc := 61) hx hb dC_Asm_assemble_61 rfl (lv_at hl 0 rfl) ?_
        refine lv_if_eq (pc := 62) (tgt := 72) hx hb dC_Asm_assemble_62 (by decide) (fun hc => ?_) (fun hc => ?_)
        · replace hM := it_t hc hM
          exact bC_Asm_assemble_72 N _ C hrec37 _ _ _ _ _ _ _ _ _ _ _ _ _ _ _ _ _ hM (by omega) (by omega) _ _ _ _ hW _ (lv_sub hl [1, 2, 3] rfl)
        · replace hM := it_f hc hM
          refine lv_iload_n (pc := 65) hx hb dC_Asm_assemble_65 rfl (lv_at hl 0 rfl) ?_
          refine lv_bipush (pc := 66) (v := 16) hx hb dC_Asm_assemble_66 (by decide) ?_
          refine lv_iload_n (pc := 68) hx hb dC_Asm_assemble_68 rfl (lv_at hl 3 rfl) ?_
          refine lv_imul (pc := 69) hx hb dC_Asm_assemble_69 ?_
          refine lv_iadd (pc := 70) hx hb dC_Asm_assemble_70 ?_
          refine lv_istore_n (pc := 71) (lv' := [(1, .int (r1 + ((16 : Int32) * x2))), (3, .int r1), (0, .ref (o 144)), (2, .int x2)]) hx hb dC_Asm_assemble_71 rfl hl (by decide) rfl (fun ls hl => ?_)
          exact bC_Asm_assemble_72 N _ C hrec37 _ _ _ _ _ _ _ _ _ _ _ _ _ _ _ _ _ hM (by omega) (by omega) _ _ _ _ hW _ (lv_sub hl [2, 0, 3] rfl)
def C_Asm_assemble (N : Nat)  (sG : CS) (sR : CS) (sL : CS) (sX : CS) (sE : CS) (sY : CS) (sF : CS) (sN : CS) (sT : CS) (sP : CS) (sI : CS) : Option ((Int32 × (CS × CS × CS × CS × CS × CS × CS × CS × CS)) × (Nat × Nat)) :=
  bnd (cF sG 0 (0 : Int32)) (fun sG1 => cl (C_Nam_forget N sN) (fun r2 u3 => ct (C_Prg_empty N sP sI) (fun r4 u5 => cl (C_Frm_empty  sF u3 sT u5.1 u5.2) (fun r11 u12 => ct (C_Lex_readAll N sL sX sY u3 sT) (fun r13 u14 => C_Asm_assemble_37 N  N (0 : Int32) (1 : Int32) sG1 sR u14.1 sX sE u14.2.1 u12 u14.2.2.1 u14.2.2.2 u5.1 u5.2)))))
set_option maxHeartbeats 4000000 in
set_option maxRecDepth 100000 in
theorem bC_Asm_assemble_0 (N : Nat)  {r : Int32} {u : CS × CS × CS × CS × CS × CS × CS × CS × CS} {DC DS : Nat} (C : CxC R_Asm p s m args meth c cC_Asm_assemble 4 (some .int) D dA (zz o) A)  (sG : CS) (sR : CS) (sL : CS) (sX : CS) (sE : CS) (sY : CS) (sF : CS) (sN : CS) (sT : CS) (sP : CS) (sI : CS) (dc ds kc ks : Nat) (hM : C_Asm_assemble N   sG sR sL sX sE sY sF sN sT sP sI = some ((r, u), (dc, ds))) (hdc : kc + dc ≤ DC) (hds : ks + ds ≤ DS) (b i : Nat → Nat) (H : Heap) (locs : List Loc) (hW : WdC D A s (w_Asm dA o b i sG sR sL sX sE sY sF sN sT sP sI) H locs) (ls : Array Slot) (hl : lv_has ls 4 [(0, .ref (o 144))]) : W p l e (rmC 12 425 DC DS) s m args below meth c H locs kc ks (MQ below (QC D A (fun Ws' ov => ∃ b' i' : Nat → Nat, Ws' = (w_Asm dA o b' i' u.1 sR u.2.1 sX u.2.2.1 u.2.2.2.1 u.2.2.2.2.1 u.2.2.2.2.2.1 u.2.2.2.2.2.2.1 u.2.2.2.2.2.2.2.1 u.2.2.2.2.2.2.2.2) ∧ ov = (some (.int r)))) args s DC DS A) (F0 m 0 ls []) := by
  have hx := C.1.1
  have hb := C.1.2.1
  have hown := C.1.2.2.2.2.1
  have hT := C.1.2.2.2.2.2.1
  unfold C_Asm_assemble at hM
  refine lv_aload_n (pc := 0) hx hb dC_Asm_assemble_0 rfl (lv_at hl 0 rfl) ?_
  refine lv_iconst (pc := 1) (v := 0) hx hb dC_Asm_assemble_1 (by decide) ?_
  refine x_putC (pc := 2) (ty := .boolean) (Ws' := (w_Asm dA o b i (cF sG 0 (0 : Int32)) sR sL sX sE sY sF sN sT sP sI)) C hW 0 rfl (ci := 10) rfl i_Asm tok_Asm n_Asm 9 (by decide) qc_563 rfl rfl (by decide +kernel) rfl rfl (Nat.le_of_ble_eq_true rfl) rfl dC_Asm_assemble_2 (fun H locs hW => ?_)
  obtain ⟨sG1, esG1, hM⟩ := bnd_some hM
  rw [← esG1] at hW
  refine lv_aload_n (pc := 5) hx hb dC_Asm_assemble_5 rfl (lv_at hl 0 rfl) ?_
  refine x_getC (pc := 6) C hW 0 rfl (ci := 10) rfl i_Asm 1 (by decide) qc_555 rfl rfl dC_Asm_assemble_6 ?_
  obtain ⟨r2, u3, hr2, hM⟩ := cl_some hM
  refine x_callC (pc := 9) (n' := 52) C hW (kC_Nam_forget l D dA (zz o) o b N sN hr2) [21, 22, 23, 24, 25, 26, 27, 28, 29, 30, 31, 32, 33, 34, 35, 36, 37, 38, 39, 40, 0, 1, 2, 3, 4, 5, 6, 7, 8, 9, 10, 11, 12, 13, 14, 15, 16, 17, 18, 19, 20, 41, 42, 43, 44, 45, 46, 47, 48, 49, 50, 51] rfl (by decide +kernel) rfl (ci := 2) rfl (q0 := 21) rfl gC_Asm_96 ⟨rfl, by decide, by decide, by decide +kernel⟩ ⟨Nat.le_of_ble_eq_true rfl, Nat.le_of_ble_eq_true rfl⟩ ⟨show _ + 0 ≤ DC by omega, show _ + 0 ≤ DS by omega⟩ (As := []) (n := 0) rfl hl.1 rfl (Nat.le_of_ble_eq_true rfl) dC_Asm_assemble_9 (fun Wc' ov H locs hPo hWn => ?_)
  obtain ⟨rfl, rfl⟩ := hPo
  have hW := hWn (w_Asm dA o b i sG1 sR sL sX sE sY sF u3 sT sP sI) rfl rfl
  refine lv_aload_n (pc := 12) hx hb dC_Asm_assemble_12 rfl (lv_at hl 0 rfl) ?_
  refine x_getC (pc := 13) C hW 0 rfl (ci := 10) rfl i_Asm 4 (by decide) qc_558 rfl rfl dC_Asm_assemble_13 ?_
  obtain ⟨r4, u5, da6, ea7, db8, eb9, hr4, hM, hqda6, hpda6⟩ := ct_some hM
  refine x_callC (pc := 16) (n' := 52) C hW (kC_Prg_empty l D dA o b i N sP sI hr4) [45, 46, 47, 48, 49, 50, 51, 0, 1, 2, 3, 4, 5, 6, 7, 8, 9, 10, 11, 12, 13, 14, 15, 16, 17, 18, 19, 20, 21, 22, 23, 24, 25, 26, 27, 28, 29, 30, 31, 32, 33, 34, 35, 36, 37, 38, 39, 40, 41, 42, 43, 44] rfl (by decide +kernel) rfl (ci := 5) rfl (q0 := 45) rfl gC_Asm_99 ⟨rfl, by decide, by decide, by decide +kernel⟩ ⟨Nat.le_of_ble_eq_true rfl, Nat.le_of_ble_eq_true rfl⟩ ⟨show _ + da6 ≤ DC by omega, show _ + ea7 ≤ DS by omega⟩ (As := []) (n := 0) rfl hl.1 rfl (Nat.le_of_ble_eq_true rfl) dC_Asm_assemble_16 (fun Wc' ov H locs hPo hWn => ?_)
  obtain ⟨b10, i, rfl, rfl⟩ := hPo
  have hW := hWn (w_Asm dA o (mxs [4] b10 b) i sG1 sR sL sX sE sY sF u3 sT u5.1 u5.2) rfl rfl
  generalize mxs [4] b10 b = b at hW
  refine lv_aload_n (pc := 19) hx hb dC_Asm_assemble_19 rfl (lv_at hl 0 rfl) ?_
  refine x_getC (pc := 20) C hW 0 rfl (ci := 10) rfl i_Asm 6 (by decide) qc_560 rfl rfl dC_Asm_assemble_20 ?_
  obtain ⟨r11, u12, hr11, hM⟩ := cl_some hM
  refine x_callC (pc := 23) (n' := 52) C hW (kC_Frm_empty l D dA o b i  sF u3 sT u5.1 u5.2 hr11) [12, 13, 14, 15, 16, 17, 18, 19, 20, 21, 22, 23, 24, 25, 26, 27, 28, 29, 30, 31, 32, 33, 34, 35, 36, 37, 38, 39, 40, 41, 42, 43, 44, 45, 46, 47, 48, 49, 50, 51, 0, 1, 2, 3, 4, 5, 6, 7, 8, 9, 10, 11] rfl (by decide +kernel) rfl (ci := 7) rfl (q0 := 12) rfl gC_Asm_102 ⟨rfl, by decide, by decide, by decide +kernel⟩ ⟨Nat.le_of_ble_eq_true rfl, Nat.le_of_ble_eq_true rfl⟩ ⟨show _ + 0 ≤ DC by omega, show _ + 0 ≤ DS by omega⟩ (As := []) (n := 0) rfl hl.1 rfl (Nat.le_of_ble_eq_true rfl) dC_Asm_assemble_23 (fun Wc' ov H locs hPo hWn => ?_)
  obtain ⟨rfl, rfl⟩ := hPo
  have hW := hWn (w_Asm dA o b i sG1 sR sL sX sE sY u12 u3 sT u5.1 u5.2) rfl rfl
  refine lv_aload_n (pc := 26) hx hb dC_Asm_assemble_26 rfl (lv_at hl 0 rfl) ?_
  refine x_getC (pc := 27) C hW 0 rfl (ci := 10) rfl i_Asm 5 (by decide) qc_559 rfl rfl dC_Asm_assemble_27 ?_
  obtain ⟨r13, u14, da15, ea16, db17, eb18, hr13, hM, hqda15, hpda15⟩ := ct_some hM
  refine x_callC (pc := 30) (n' := 52) C hW (kC_Lex_readAll l D dA (zz o) o b N sL sX sY u3 sT hr13) [2, 3, 4, 10, 11, 21, 22, 23, 24, 25, 26, 27, 28, 29, 30, 31, 32, 33, 34, 35, 36, 37, 38, 39, 40, 41, 42, 43, 44, 0, 1, 5, 6, 7, 8, 9, 12, 13, 14, 15, 16, 17, 18, 19, 20, 45, 46, 47, 48, 49, 50, 51] rfl (by decide +kernel) rfl (ci := 6) rfl (q0 := 2) rfl gC_Asm_103 ⟨rfl, by decide, by decide, by decide +kernel⟩ ⟨Nat.le_of_ble_eq_true rfl, Nat.le_of_ble_eq_true rfl⟩ ⟨show _ + da15 ≤ DC by omega, show _ + ea16 ≤ DS by omega⟩ (As := []) (n := 0) rfl hl.1 rfl (Nat.le_of_ble_eq_true rfl) dC_Asm_assemble_30 (fun Wc' ov H locs hPo hWn => ?_)
  obtain ⟨b19, rfl, rfl⟩ := hPo
  have hW := hWn (w_Asm dA o (mxs [0, 1, 2, 3] b19 b) i sG1 sR u14.1 sX sE u14.2.1 u12 u14.2.2.1 u14.2.2.2 u5.1 u5.2) rfl rfl
  generalize mxs [0, 1, 2, 3] b19 b = b at hW
  refine lv_iconst (pc := 33) (v := 0) hx hb dC_Asm_assemble_33 (by decide) ?_
  refine lv_istore_n (pc := 34) (lv' := [(1, .int (0 : Int32)), (0, .ref (o 144))]) hx hb dC_Asm_assemble_34 rfl hl (by decide) rfl (fun ls hl => ?_)
  refine lv_iconst (pc := 35) (v := 1) hx hb dC_Asm_assemble_35 (by decide) ?_
  refine lv_istore_n (pc := 36) (lv' := [(2, .int (1 : Int32)), (1, .int (0 : Int32)), (0, .ref (o 144))]) hx hb dC_Asm_assemble_36 rfl hl (by decide) rfl (fun ls hl => ?_)
  exact bC_Asm_assemble_37 N  C  N _ _ _ _ _ _ _ _ _ _ _ _ _ _ _ _ _ hM (by omega) (by omega) _ _ _ _ hW _ (lv_sub hl [2, 1, 0] rfl)
theorem kC_Asm_assemble (l : Launch) (D : va_G) (dA : Nat → ClassId) (o b i : Nat → Nat) (N : Nat)  (sG : CS) (sR : CS) (sL : CS) (sX : CS) (sE : CS) (sY : CS) (sF : CS) (sN : CS) (sT : CS) (sP : CS) (sI : CS) {r : Int32} {u : CS × CS × CS × CS × CS × CS × CS × CS × CS} {dc ds : Nat} (hM : C_Asm_assemble N  sG sR sL sX sE sY sF sN sT sP sI = some ((r, u), (dc, ds))) : KC l D dA (zz o) yC_Asm_assemble cC_Asm_assemble 4 (some .int) 12 425 dc ds (w_Asm dA o b i sG sR sL sX sE sY sF sN sT sP sI) [.ref (o 144)] (fun Ws' ov => ∃ b' i' : Nat → Nat, Ws' = (w_Asm dA o b' i' u.1 sR u.2.1 sX u.2.2.1 u.2.2.2.1 u.2.2.2.2.1 u.2.2.2.2.2.1 u.2.2.2.2.2.2.1 u.2.2.2.2.2.2.2.1 u.2.2.2.2.2.2.2.2) ∧ ov = (some (.int r))) := x_enterC (by decide +kernel) (Nat.le_of_ble_eq_true rfl) (fun p e s m args below meth c A C _ hW ls hl => bC_Asm_assemble_0 N C  sG sR sL sX sE sY sF sN sT sP sI dc ds 0 0 hM (by omega) (by omega) b i s.heap [] hW ls hl)
def C_Asm_size (x1 : Int32) (sG : CS) (sR : CS) (sL : CS) (sX : CS) (sE : CS) (sY : CS) (sF : CS) (sN : CS) (sT : CS) (sP : CS) (sI : CS) : Option Int32 :=
  (if (sG.1 0) = 0 then none else (if x1 = (0 : Int32) then some (sP.1 2) else (if x1 = (1 : Int32) then some (sP.1 3) else (if x1 = (2 : Int32) then cr (C_Prg_end  sP sI) (fun r2 => some r2) else (if x1 = (3 : Int32) then some (sP.1 100) else (if x1 = (4 : Int32) then some (sP.1 0) else (if x1 = (5 : Int32) then some (sE.1 0) else none)))))))
set_option maxHeartbeats 4000000 in
set_option maxRecDepth 100000 in
theorem bC_Asm_size_0  {r : Int32} (C : CxC R_Asm p s m args meth c cC_Asm_size 2 (some .int) D dA (zz o) A) (x1 : Int32) (sG : CS) (sR : CS) (sL : CS) (sX : CS) (sE : CS) (sY : CS) (sF : CS) (sN : CS) (sT : CS) (sP : CS) (sI : CS) (hM : C_Asm_size  x1 sG sR sL sX sE sY sF sN sT sP sI = some r) (hW : WdC D A s (w_Asm dA o b i sG sR sL sX sE sY sF sN sT sP sI) s.heap []) (ls : Array Slot) (hl : lv_has ls 2 [(0, .ref (o 144)), (1, .int x1)]) : W p l e (rmC 1 20 0 0) s m args below meth c s.heap [] 0 0 (MQ below (QS (some (.int r))) args s 0 0 (fun _ => False)) (F0 m 0 ls []) := by
  have hx := C.1.1
  have hb := C.1.2.1
  have hown := C.1.2.2.2.2.1
  have hT := C.1.2.2.2.2.2.1
  unfold C_Asm_size at hM
  refine lv_aload_n (pc := 0) hx hb dC_Asm_size_0 rfl (lv_at hl 0 rfl) ?_
  refine x_getC (pc := 1) C hW 0 rfl (ci := 10) rfl i_Asm 9 (by decide) qc_563 rfl rfl dC_Asm_size_1 ?_
  refine lv_if_ne (pc := 4) (tgt := 17) hx hb dC_Asm_size_4 (by decide) (fun hc => ?_) (fun hc => ?_)
  · replace hM := it_f hc hM
    refine lv_iload_n (pc := 17) hx hb dC_Asm_size_17 rfl (lv_at hl 1 rfl) ?_
    by_cases k1_0 : x1 = (0 : Int32)
    · replace hM := it_t k1_0 hM
      refine lv_tableIn (pc := 18) (off := 38) (tgt := 56) hx hb dC_Asm_size_18 (by rw [k1_0]; decide) (by rw [k1_0]; decide) (by rw [k1_0]; decide) (by decide) ?_
      refine lv_aload_n (pc := 56) hx hb dC_Asm_size_56 rfl (lv_at hl 0 rfl) ?_
      refine x_getC (pc := 57) C hW 0 rfl (ci := 10) rfl i_Asm 4 (by decide) qc_558 rfl rfl dC_Asm_size_57 ?_
      refine x_getC (pc := 60) C hW 45 rfl (ci := 5) rfl i_Prg 3 (by decide) qc_394 rfl rfl dC_Asm_size_60 ?_
      obtain rfl := sm_i hM
      exact x_retS (pc := 63) C.1 rfl dC_Asm_size_63
    · replace hM := it_f k1_0 hM
      by_cases k1_1 : x1 = (1 : Int32)
      · replace hM := it_t k1_1 hM
        refine lv_tableIn (pc := 18) (off := 46) (tgt := 64) hx hb dC_Asm_size_18 (by rw [k1_1]; decide) (by rw [k1_1]; decide) (by rw [k1_1]; decide) (by decide) ?_
        refine lv_aload_n (pc := 64) hx hb dC_Asm_size_64 rfl (lv_at hl 0 rfl) ?_
        refine x_getC (pc := 65) C hW 0 rfl (ci := 10) rfl i_Asm 4 (by decide) qc_558 rfl rfl dC_Asm_size_65 ?_
        refine x_getC (pc := 68) C hW 45 rfl (ci := 5) rfl i_Prg 4 (by decide) qc_396 rfl rfl dC_Asm_size_68 ?_
        obtain rfl := sm_i hM
        exact x_retS (pc := 71) C.1 rfl dC_Asm_size_71
      · replace hM := it_f k1_1 hM
        by_cases k1_2 : x1 = (2 : Int32)
        · replace hM := it_t k1_2 hM
          refine lv_tableIn (pc := 18) (off := 54) (tgt := 72) hx hb dC_Asm_size_18 (by rw [k1_2]; decide) (by rw [k1_2]; decide) (by rw [k1_2]; decide) (by decide) ?_
          refine lv_aload_n (pc := 72) hx hb dC_Asm_size_72 rfl (lv_at hl 0 rfl) ?_
          refine x_getC (pc := 73) C hW 0 rfl (ci := 10) rfl i_Asm 4 (by decide) qc_558 rfl rfl dC_Asm_size_73 ?_
          obtain ⟨r2, hr2, hM⟩ := cr_some hM
          refine x_callQ (pc := 76) (n' := 52) (ov := some (.int r2)) C hW (kC_Prg_end l D dA o b i  sP sI hr2) [45, 46, 47, 48, 49, 50, 51, 0, 1, 2, 3, 4, 5, 6, 7, 8, 9, 10, 11, 12, 13, 14, 15, 16, 17, 18, 19, 20, 21, 22, 23, 24, 25, 26, 27, 28, 29, 30, 31, 32, 33, 34, 35, 36, 37, 38, 39, 40, 41, 42, 43, 44] rfl (by decide +kernel) rfl (ci := 5) rfl (q0 := 45) rfl gC_Asm_116 ⟨rfl, by decide, by decide, by decide +kernel⟩ ⟨Nat.le_of_ble_eq_true rfl, Nat.le_of_ble_eq_true rfl⟩ ⟨Nat.le_refl _, Nat.le_refl _⟩ (As := []) (n := 0) rfl hl.1 rfl (Nat.le_of_ble_eq_true rfl) dC_Asm_size_76 ?_
          obtain rfl := sm_i hM
          exact x_retS (pc := 79) C.1 rfl dC_Asm_size_79
        · replace hM := it_f k1_2 hM
          by_cases k1_3 : x1 = (3 : Int32)
          · replace hM := it_t k1_3 hM
            refine lv_tableIn (pc := 18) (off := 62) (tgt := 80) hx hb dC_Asm_size_18 (by rw [k1_3]; decide) (by rw [k1_3]; decide) (by rw [k1_3]; decide) (by decide) ?_
            refine lv_aload_n (pc := 80) hx hb dC_Asm_size_80 rfl (lv_at hl 0 rfl) ?_
            refine x_getC (pc := 81) C hW 0 rfl (ci := 10) rfl i_Asm 4 (by decide) qc_558 rfl rfl dC_Asm_size_81 ?_
            refine x_getC (pc := 84) C hW 45 rfl (ci := 5) rfl i_Prg 0 (by decide) qc_386 rfl rfl dC_Asm_size_84 ?_
            refine x_getC (pc := 87) C hW 46 rfl (ci := 1) rfl i_Row 0 (by decide) qc_54 rfl rfl dC_Asm_size_87 ?_
            obtain rfl := sm_i hM
            exact x_retS (pc := 90) C.1 rfl dC_Asm_size_90
          · replace hM := it_f k1_3 hM
            by_cases k1_4 : x1 = (4 : Int32)
            · replace hM := it_t k1_4 hM
              refine lv_tableIn (pc := 18) (off := 73) (tgt := 91) hx hb dC_Asm_size_18 (by rw [k1_4]; decide) (by rw [k1_4]; decide) (by rw [k1_4]; decide) (by decide) ?_
              refine lv_aload_n (pc := 91) hx hb dC_Asm_size_91 rfl (lv_at hl 0 rfl) ?_
              refine x_getC (pc := 92) C hW 0 rfl (ci := 10) rfl i_Asm 4 (by decide) qc_558 rfl rfl dC_Asm_size_92 ?_
              refine x_getC (pc := 95) C hW 45 rfl (ci := 5) rfl i_Prg 1 (by decide) qc_388 rfl rfl dC_Asm_size_95 ?_
              obtain rfl := sm_i hM
              exact x_retS (pc := 98) C.1 rfl dC_Asm_size_98
            · replace hM := it_f k1_4 hM
              by_cases k1_5 : x1 = (5 : Int32)
              · replace hM := it_t k1_5 hM
                refine lv_tableIn (pc := 18) (off := 81) (tgt := 99) hx hb dC_Asm_size_18 (by rw [k1_5]; decide) (by rw [k1_5]; decide) (by rw [k1_5]; decide) (by decide) ?_
                refine lv_aload_n (pc := 99) hx hb dC_Asm_size_99 rfl (lv_at hl 0 rfl) ?_
                refine x_getC (pc := 100) C hW 0 rfl (ci := 10) rfl i_Asm 8 (by decide) qc_562 rfl rfl dC_Asm_size_100 ?_
                refine x_getC (pc := 103) C hW 5 rfl (ci := 9) rfl i_Enc 2 (by decide) qc_537 rfl rfl dC_Asm_size_103 ?_
                obtain rfl := sm_i hM
                exact x_retS (pc := 106) C.1 rfl dC_Asm_size_106
              · replace hM := it_f k1_5 hM
                by_cases k1_o : x1.toInt < 0 ∨ 5 < x1.toInt
                · refine lv_tableOut (pc := 18) (tgt := 107) hx hb dC_Asm_size_18 k1_o (by decide) ?_
                  cases hM
                · refine lv_tableIn (pc := 18) (off := 89) (tgt := 107) hx hb dC_Asm_size_18 (fun z => k1_o (Or.inl z)) (fun z => k1_o (Or.inr z)) (lv_tdef 6 [(0 : Int32), (1 : Int32), (2 : Int32), (3 : Int32), (4 : Int32), (5 : Int32)] (fun z => k1_o (Or.inl z)) (fun z => k1_o (Or.inr z)) (List.forall_mem_cons.mpr ⟨k1_0, (List.forall_mem_cons.mpr ⟨k1_1, (List.forall_mem_cons.mpr ⟨k1_2, (List.forall_mem_cons.mpr ⟨k1_3, (List.forall_mem_cons.mpr ⟨k1_4, (List.forall_mem_cons.mpr ⟨k1_5, (fun _ h => by cases h)⟩)⟩)⟩)⟩)⟩)⟩) (by decide) (by decide +kernel)) (by decide) ?_
                  cases hM
  · replace hM := it_t hc hM
    cases hM
theorem kC_Asm_size (l : Launch) (D : va_G) (dA : Nat → ClassId) (o b i : Nat → Nat) (x1 : Int32) (sG : CS) (sR : CS) (sL : CS) (sX : CS) (sE : CS) (sY : CS) (sF : CS) (sN : CS) (sT : CS) (sP : CS) (sI : CS) {r : Int32} (hM : C_Asm_size x1 sG sR sL sX sE sY sF sN sT sP sI = some r) : KQ l D dA (zz o) yC_Asm_size cC_Asm_size 2 (some .int) 1 20 (w_Asm dA o b i sG sR sL sX sE sY sF sN sT sP sI) [.ref (o 144), .int x1] (some (.int r)) := x_enterQ (by decide +kernel) (Nat.le_of_ble_eq_true rfl) (fun p e s m args below meth c A C hW ls hl => bC_Asm_size_0 C x1 sG sR sL sX sE sY sF sN sT sP sI hM hW ls hl)
def C_Asm_byteAt_22  (sG : CS) (sR : CS) (sL : CS) (sX : CS) (sE : CS) (sY : CS) (sF : CS) (sN : CS) (sT : CS) (sP : CS) (sI : CS) : Option Int32 :=
  none
set_option maxHeartbeats 4000000 in
set_option maxRecDepth 100000 in
theorem bC_Asm_byteAt_22  {r : Int32} (C : CxC R_Asm p s m args meth c cC_Asm_byteAt 2 (some .int) D dA (zz o) A)  (sG : CS) (sR : CS) (sL : CS) (sX : CS) (sE : CS) (sY : CS) (sF : CS) (sN : CS) (sT : CS) (sP : CS) (sI : CS) (hM : C_Asm_byteAt_22   sG sR sL sX sE sY sF sN sT sP sI = some r) (hW : WdC D A s (w_Asm dA o b i sG sR sL sX sE sY sF sN sT sP sI) s.heap []) (ls : Array Slot) (hl : lv_has ls 2 []) : W p l e (rmC 1 21 0 0) s m args below meth c s.heap [] 0 0 (MQ below (QS (some (.int r))) args s 0 0 (fun _ => False)) (F0 m 22 ls []) := by
  have hx := C.1.1
  have hb := C.1.2.1
  have hown := C.1.2.2.2.2.1
  have hT := C.1.2.2.2.2.2.1
  unfold C_Asm_byteAt_22 at hM
  cases hM
def C_Asm_byteAt (x1 : Int32) (sG : CS) (sR : CS) (sL : CS) (sX : CS) (sE : CS) (sY : CS) (sF : CS) (sN : CS) (sT : CS) (sP : CS) (sI : CS) : Option Int32 :=
  (if (sG.1 0) = 0 then C_Asm_byteAt_22  sG sR sL sX sE sY sF sN sT sP sI else (if x1 < 0 then C_Asm_byteAt_22  sG sR sL sX sE sY sF sN sT sP sI else cr (C_Prg_end  sP sI) (fun r1 => (if x1 < r1 then cr (C_Row_get  x1 (rg sE 0)) (fun r2 => some r2) else C_Asm_byteAt_22  sG sR sL sX sE sY sF sN sT sP sI))))
set_option maxHeartbeats 4000000 in
set_option maxRecDepth 100000 in
theorem bC_Asm_byteAt_0  {r : Int32} (C : CxC R_Asm p s m args meth c cC_Asm_byteAt 2 (some .int) D dA (zz o) A) (x1 : Int32) (sG : CS) (sR : CS) (sL : CS) (sX : CS) (sE : CS) (sY : CS) (sF : CS) (sN : CS) (sT : CS) (sP : CS) (sI : CS) (hM : C_Asm_byteAt  x1 sG sR sL sX sE sY sF sN sT sP sI = some r) (hW : WdC D A s (w_Asm dA o b i sG sR sL sX sE sY sF sN sT sP sI) s.heap []) (ls : Array Slot) (hl : lv_has ls 2 [(0, .ref (o 144)), (1, .int x1)]) : W p l e (rmC 1 21 0 0) s m args below meth c s.heap [] 0 0 (MQ below (QS (some (.int r))) args s 0 0 (fun _ => False)) (F0 m 0 ls []) := by
  have hx := C.1.1
  have hb := C.1.2.1
  have hown := C.1.2.2.2.2.1
  have hT := C.1.2.2.2.2.2.1
  unfold C_Asm_byteAt at hM
  refine lv_aload_n (pc := 0) hx hb dC_Asm_byteAt_0 rfl (lv_at hl 0 rfl) ?_
  refine x_getC (pc := 1) C hW 0 rfl (ci := 10) rfl i_Asm 9 (by decide) qc_563 rfl rfl dC_Asm_byteAt_1 ?_
  refine lv_if_eq (pc := 4) (tgt := 22) hx hb dC_Asm_byteAt_4 (by decide) (fun hc => ?_) (fun hc => ?_)
  · replace hM := it_t hc hM
    exact bC_Asm_byteAt_22  C  _ _ _ _ _ _ _ _ _ _ _ hM hW _ (lv_sub hl [] rfl)
  · replace hM := it_f hc hM
    refine lv_iload_n (pc := 7) hx hb dC_Asm_byteAt_7 rfl (lv_at hl 1 rfl) ?_
    refine lv_if_lt (pc := 8) (tgt := 22) hx hb dC_Asm_byteAt_8 (by decide) (fun hc => ?_) (fun hc => ?_)
    · replace hM := it_t hc hM
      exact bC_Asm_byteAt_22  C  _ _ _ _ _ _ _ _ _ _ _ hM hW _ (lv_sub hl [] rfl)
    · replace hM := it_f hc hM
      refine lv_iload_n (pc := 11) hx hb dC_Asm_byteAt_11 rfl (lv_at hl 1 rfl) ?_
      refine lv_aload_n (pc := 12) hx hb dC_Asm_byteAt_12 rfl (lv_at hl 0 rfl) ?_
      refine x_getC (pc := 13) C hW 0 rfl (ci := 10) rfl i_Asm 4 (by decide) qc_558 rfl rfl dC_Asm_byteAt_13 ?_
      obtain ⟨r1, hr1, hM⟩ := cr_some hM
      refine x_callQ (pc := 16) (n' := 52) (ov := some (.int r1)) C hW (kC_Prg_end l D dA o b i  sP sI hr1) [45, 46, 47, 48, 49, 50, 51, 0, 1, 2, 3, 4, 5, 6, 7, 8, 9, 10, 11, 12, 13, 14, 15, 16, 17, 18, 19, 20, 21, 22, 23, 24, 25, 26, 27, 28, 29, 30, 31, 32, 33, 34, 35, 36, 37, 38, 39, 40, 41, 42, 43, 44] rfl (by decide +kernel) rfl (ci := 5) rfl (q0 := 45) rfl gC_Asm_116 ⟨rfl, by decide, by decide, by decide +kernel⟩ ⟨Nat.le_of_ble_eq_true rfl, Nat.le_of_ble_eq_true rfl⟩ ⟨Nat.le_refl _, Nat.le_refl _⟩ (As := []) (n := 0) rfl hl.1 rfl (Nat.le_of_ble_eq_true rfl) dC_Asm_byteAt_16 ?_
      refine lv_icmp_lt (pc := 19) (tgt := 32) hx hb dC_Asm_byteAt_19 (by decide) (fun hc => ?_) (fun hc => ?_)
      · replace hM := it_t hc hM
        refine lv_aload_n (pc := 32) hx hb dC_Asm_byteAt_32 rfl (lv_at hl 0 rfl) ?_
        refine x_getC (pc := 33) C hW 0 rfl (ci := 10) rfl i_Asm 8 (by decide) qc_562 rfl rfl dC_Asm_byteAt_33 ?_
        refine x_getC (pc := 36) C hW 5 rfl (ci := 9) rfl i_Enc 0 (by decide) qc_533 rfl rfl dC_Asm_byteAt_36 ?_
        refine lv_iload_n (pc := 39) hx hb dC_Asm_byteAt_39 rfl (lv_at hl 1 rfl) ?_
        obtain ⟨r2, hr2, hM⟩ := cr_some hM
        refine x_callQ (pc := 40) (n' := 52) (ov := some (.int r2)) C hW (kC_Row_get l D dA (zz o) (fun _ => o 129) (fun _ => b 129)  x1 (rg sE 0) hr2) [6, 7, 0, 1, 2, 3, 4, 5, 8, 9, 10, 11, 12, 13, 14, 15, 16, 17, 18, 19, 20, 21, 22, 23, 24, 25, 26, 27, 28, 29, 30, 31, 32, 33, 34, 35, 36, 37, 38, 39, 40, 41, 42, 43, 44, 45, 46, 47, 48, 49, 50, 51] rfl (by decide +kernel) rfl (ci := 1) rfl (q0 := 6) rfl gC_Asm_159 ⟨rfl, by decide, by decide, by decide +kernel⟩ ⟨Nat.le_of_ble_eq_true rfl, Nat.le_of_ble_eq_true rfl⟩ ⟨Nat.le_refl _, Nat.le_refl _⟩ (As := [.int x1]) (n := 1) rfl hl.1 rfl (Nat.le_of_ble_eq_true rfl) dC_Asm_byteAt_40 ?_
        obtain rfl := sm_i hM
        exact x_retS (pc := 43) C.1 rfl dC_Asm_byteAt_43
      · replace hM := it_f hc hM
        exact bC_Asm_byteAt_22  C  _ _ _ _ _ _ _ _ _ _ _ hM hW _ (lv_sub hl [] rfl)
theorem kC_Asm_byteAt (l : Launch) (D : va_G) (dA : Nat → ClassId) (o b i : Nat → Nat) (x1 : Int32) (sG : CS) (sR : CS) (sL : CS) (sX : CS) (sE : CS) (sY : CS) (sF : CS) (sN : CS) (sT : CS) (sP : CS) (sI : CS) {r : Int32} (hM : C_Asm_byteAt x1 sG sR sL sX sE sY sF sN sT sP sI = some r) : KQ l D dA (zz o) yC_Asm_byteAt cC_Asm_byteAt 2 (some .int) 1 21 (w_Asm dA o b i sG sR sL sX sE sY sF sN sT sP sI) [.ref (o 144), .int x1] (some (.int r)) := x_enterQ (by decide +kernel) (Nat.le_of_ble_eq_true rfl) (fun p e s m args below meth c A C hW ls hl => bC_Asm_byteAt_0 C x1 sG sR sL sX sE sY sF sN sT sP sI hM hW ls hl)
def C_Asm_address (x1 : Int32) (sG : CS) (sR : CS) (sL : CS) (sX : CS) (sE : CS) (sY : CS) (sF : CS) (sN : CS) (sT : CS) (sP : CS) (sI : CS) : Option Int32 :=
  cr (C_Asm_isLabel  x1 sG sR sL sX sE sY sF sN sT sP sI) (fun r1 => (if r1 = 0 then none else cr (C_Row_get  x1 (rg sP 0)) (fun r2 => cr (C_Prg_addressOf  r2 sP sI) (fun r3 => some r3))))
set_option maxHeartbeats 4000000 in
set_option maxRecDepth 100000 in
theorem bC_Asm_address_0  {r : Int32} (C : CxC R_Asm p s m args meth c cC_Asm_address 2 (some .int) D dA (zz o) A) (x1 : Int32) (sG : CS) (sR : CS) (sL : CS) (sX : CS) (sE : CS) (sY : CS) (sF : CS) (sN : CS) (sT : CS) (sP : CS) (sI : CS) (hM : C_Asm_address  x1 sG sR sL sX sE sY sF sN sT sP sI = some r) (hW : WdC D A s (w_Asm dA o b i sG sR sL sX sE sY sF sN sT sP sI) s.heap []) (ls : Array Slot) (hl : lv_has ls 2 [(0, .ref (o 144)), (1, .int x1)]) : W p l e (rmC 4 142 0 0) s m args below meth c s.heap [] 0 0 (MQ below (QS (some (.int r))) args s 0 0 (fun _ => False)) (F0 m 0 ls []) := by
  have hx := C.1.1
  have hb := C.1.2.1
  have hown := C.1.2.2.2.2.1
  have hT := C.1.2.2.2.2.2.1
  unfold C_Asm_address at hM
  refine lv_aload_n (pc := 0) hx hb dC_Asm_address_0 rfl (lv_at hl 0 rfl) ?_
  refine lv_iload_n (pc := 1) hx hb dC_Asm_address_1 rfl (lv_at hl 1 rfl) ?_
  obtain ⟨r1, hr1, hM⟩ := cr_some hM
  refine x_callQ (pc := 2) (n' := 52) (ov := some (.int r1)) C hW (kC_Asm_isLabel l D dA o b i  x1 sG sR sL sX sE sY sF sN sT sP sI hr1) [0, 1, 2, 3, 4, 5, 6, 7, 8, 9, 10, 11, 12, 13, 14, 15, 16, 17, 18, 19, 20, 21, 22, 23, 24, 25, 26, 27, 28, 29, 30, 31, 32, 33, 34, 35, 36, 37, 38, 39, 40, 41, 42, 43, 44, 45, 46, 47, 48, 49, 50, 51] rfl (by decide +kernel) rfl (ci := 10) rfl (q0 := 0) rfl gC_Asm_162 ⟨rfl, by decide, by decide, by decide +kernel⟩ ⟨Nat.le_of_ble_eq_true rfl, Nat.le_of_ble_eq_true rfl⟩ ⟨Nat.le_refl _, Nat.le_refl _⟩ (As := [.int x1]) (n := 1) rfl hl.1 rfl (Nat.le_of_ble_eq_true rfl) dC_Asm_address_2 ?_
  refine lv_if_ne (pc := 5) (tgt := 18) hx hb dC_Asm_address_5 (by decide) (fun hc => ?_) (fun hc => ?_)
  · replace hM := it_f hc hM
    refine lv_aload_n (pc := 18) hx hb dC_Asm_address_18 rfl (lv_at hl 0 rfl) ?_
    refine x_getC (pc := 19) C hW 0 rfl (ci := 10) rfl i_Asm 4 (by decide) qc_558 rfl rfl dC_Asm_address_19 ?_
    refine lv_aload_n (pc := 22) hx hb dC_Asm_address_22 rfl (lv_at hl 0 rfl) ?_
    refine x_getC (pc := 23) C hW 0 rfl (ci := 10) rfl i_Asm 4 (by decide) qc_558 rfl rfl dC_Asm_address_23 ?_
    refine x_getC (pc := 26) C hW 45 rfl (ci := 5) rfl i_Prg 0 (by decide) qc_386 rfl rfl dC_Asm_address_26 ?_
    refine lv_iload_n (pc := 29) hx hb dC_Asm_address_29 rfl (lv_at hl 1 rfl) ?_
    obtain ⟨r2, hr2, hM⟩ := cr_some hM
    refine x_callQ (pc := 30) (n' := 52) (ov := some (.int r2)) C hW (kC_Row_get l D dA (zz o) (fun _ => o 65) (fun _ => b 65)  x1 (rg sP 0) hr2) [46, 47, 0, 1, 2, 3, 4, 5, 6, 7, 8, 9, 10, 11, 12, 13, 14, 15, 16, 17, 18, 19, 20, 21, 22, 23, 24, 25, 26, 27, 28, 29, 30, 31, 32, 33, 34, 35, 36, 37, 38, 39, 40, 41, 42, 43, 44, 45, 48, 49, 50, 51] rfl (by decide +kernel) rfl (ci := 1) rfl (q0 := 46) rfl gC_Asm_159 ⟨rfl, by decide, by decide, by decide +kernel⟩ ⟨Nat.le_of_ble_eq_true rfl, Nat.le_of_ble_eq_true rfl⟩ ⟨Nat.le_refl _, Nat.le_refl _⟩ (As := [.int x1]) (n := 1) rfl hl.1 rfl (Nat.le_of_ble_eq_true rfl) dC_Asm_address_30 ?_
    obtain ⟨r3, hr3, hM⟩ := cr_some hM
    refine x_callQ (pc := 33) (n' := 52) (ov := some (.int r3)) C hW (kC_Prg_addressOf l D dA o b i  r2 sP sI hr3) [45, 46, 47, 48, 49, 50, 51, 0, 1, 2, 3, 4, 5, 6, 7, 8, 9, 10, 11, 12, 13, 14, 15, 16, 17, 18, 19, 20, 21, 22, 23, 24, 25, 26, 27, 28, 29, 30, 31, 32, 33, 34, 35, 36, 37, 38, 39, 40, 41, 42, 43, 44] rfl (by decide +kernel) rfl (ci := 5) rfl (q0 := 45) rfl gC_Asm_167 ⟨rfl, by decide, by decide, by decide +kernel⟩ ⟨Nat.le_of_ble_eq_true rfl, Nat.le_of_ble_eq_true rfl⟩ ⟨Nat.le_refl _, Nat.le_refl _⟩ (As := [.int r2]) (n := 1) rfl hl.1 rfl (Nat.le_of_ble_eq_true rfl) dC_Asm_address_33 ?_
    obtain rfl := sm_i hM
    exact x_retS (pc := 36) C.1 rfl dC_Asm_address_36
  · replace hM := it_t hc hM
    cases hM
theorem kC_Asm_address (l : Launch) (D : va_G) (dA : Nat → ClassId) (o b i : Nat → Nat) (x1 : Int32) (sG : CS) (sR : CS) (sL : CS) (sX : CS) (sE : CS) (sY : CS) (sF : CS) (sN : CS) (sT : CS) (sP : CS) (sI : CS) {r : Int32} (hM : C_Asm_address x1 sG sR sL sX sE sY sF sN sT sP sI = some r) : KQ l D dA (zz o) yC_Asm_address cC_Asm_address 2 (some .int) 4 142 (w_Asm dA o b i sG sR sL sX sE sY sF sN sT sP sI) [.ref (o 144), .int x1] (some (.int r)) := x_enterQ (by decide +kernel) (Nat.le_of_ble_eq_true rfl) (fun p e s m args below meth c A C hW ls hl => bC_Asm_address_0 C x1 sG sR sL sX sE sY sF sN sT sP sI hM hW ls hl)
def C_Asm_letter_50  (sG : CS) (sR : CS) (sL : CS) (sX : CS) (sE : CS) (sY : CS) (sF : CS) (sN : CS) (sT : CS) (sP : CS) (sI : CS) : Option Int32 :=
  none
set_option maxHeartbeats 4000000 in
set_option maxRecDepth 100000 in
theorem bC_Asm_letter_50  {r : Int32} (C : CxC R_Asm p s m args meth c cC_Asm_letter 4 (some .char) D dA (zz o) A)  (sG : CS) (sR : CS) (sL : CS) (sX : CS) (sE : CS) (sY : CS) (sF : CS) (sN : CS) (sT : CS) (sP : CS) (sI : CS) (hM : C_Asm_letter_50   sG sR sL sX sE sY sF sN sT sP sI = some r) (hW : WdC D A s (w_Asm dA o b i sG sR sL sX sE sY sF sN sT sP sI) s.heap []) (ls : Array Slot) (hl : lv_has ls 4 []) : W p l e (rmC 4 141 0 0) s m args below meth c s.heap [] 0 0 (MQ below (QS (some (.int r))) args s 0 0 (fun _ => False)) (F0 m 50 ls []) := by
  have hx := C.1.1
  have hb := C.1.2.1
  have hown := C.1.2.2.2.2.1
  have hT := C.1.2.2.2.2.2.1
  unfold C_Asm_letter_50 at hM
  cases hM
def C_Asm_letter_33 (x2 : Int32) (t0 : Int32) (sG : CS) (sR : CS) (sL : CS) (sX : CS) (sE : CS) (sY : CS) (sF : CS) (sN : CS) (sT : CS) (sP : CS) (sI : CS) : Option Int32 :=
  (if x2 < 0 then C_Asm_letter_50  sG sR sL sX sE sY sF sN sT sP sI else cr (C_Nam_lengthOf  t0 sN) (fun r1 => (if x2 < r1 then cr (C_Nam_letterOf  t0 x2 sN) (fun r2 => gd (isC ((r2.toUInt32 % 65536).toInt32)) (some ((r2.toUInt32 % 65536).toInt32))) else C_Asm_letter_50  sG sR sL sX sE sY sF sN sT sP sI)))
set_option maxHeartbeats 4000000 in
set_option maxRecDepth 100000 in
theorem bC_Asm_letter_33  {r : Int32} (C : CxC R_Asm p s m args meth c cC_Asm_letter 4 (some .char) D dA (zz o) A) (x2 : Int32) (t0 : Int32) (sG : CS) (sR : CS) (sL : CS) (sX : CS) (sE : CS) (sY : CS) (sF : CS) (sN : CS) (sT : CS) (sP : CS) (sI : CS) (hM : C_Asm_letter_33  x2 t0 sG sR sL sX sE sY sF sN sT sP sI = some r) (hW : WdC D A s (w_Asm dA o b i sG sR sL sX sE sY sF sN sT sP sI) s.heap []) (ls : Array Slot) (hl : lv_has ls 4 [(0, .ref (o 144)), (2, .int x2)]) : W p l e (rmC 4 141 0 0) s m args below meth c s.heap [] 0 0 (MQ below (QS (some (.int r))) args s 0 0 (fun _ => False)) (F0 m 33 ls [.int t0]) := by
  have hx := C.1.1
  have hb := C.1.2.1
  have hown := C.1.2.2.2.2.1
  have hT := C.1.2.2.2.2.2.1
  unfold C_Asm_letter_33 at hM
  refine lv_istore_n (pc := 33) (lv' := [(3, .int t0), (0, .ref (o 144)), (2, .int x2)]) hx hb dC_Asm_letter_33 rfl hl (by decide) rfl (fun ls hl => ?_)
  refine lv_iload_n (pc := 34) hx hb dC_Asm_letter_34 rfl (lv_at hl 2 rfl) ?_
  refine lv_if_lt (pc := 35) (tgt := 50) hx hb dC_Asm_letter_35 (by decide) (fun hc => ?_) (fun hc => ?_)
  · replace hM := it_t hc hM
    exact bC_Asm_letter_50  C  _ _ _ _ _ _ _ _ _ _ _ hM hW _ (lv_sub hl [] rfl)
  · replace hM := it_f hc hM
    refine lv_iload_n (pc := 38) hx hb dC_Asm_letter_38 rfl (lv_at hl 2 rfl) ?_
    refine lv_aload_n (pc := 39) hx hb dC_Asm_letter_39 rfl (lv_at hl 1 rfl) ?_
    refine x_getC (pc := 40) C hW 0 rfl (ci := 10) rfl i_Asm 1 (by decide) qc_555 rfl rfl dC_Asm_letter_40 ?_
    refine lv_iload_n (pc := 43) hx hb dC_Asm_letter_43 rfl (lv_at hl 0 rfl) ?_
    obtain ⟨r1, hr1, hM⟩ := cr_some hM
    refine x_callQ (pc := 44) (n' := 52) (ov := some (.int r1)) C hW (kC_Nam_lengthOf l D dA (zz o) o b  t0 sN hr1) [21, 22, 23, 24, 25, 26, 27, 28, 29, 30, 31, 32, 33, 34, 35, 36, 37, 38, 39, 40, 0, 1, 2, 3, 4, 5, 6, 7, 8, 9, 10, 11, 12, 13, 14, 15, 16, 17, 18, 19, 20, 41, 42, 43, 44, 45, 46, 47, 48, 49, 50, 51] rfl (by decide +kernel) rfl (ci := 2) rfl (q0 := 21) rfl gC_Asm_179 ⟨rfl, by decide, by decide, by decide +kernel⟩ ⟨Nat.le_of_ble_eq_true rfl, Nat.le_of_ble_eq_true rfl⟩ ⟨Nat.le_refl _, Nat.le_refl _⟩ (As := [.int t0]) (n := 1) rfl hl.1 rfl (Nat.le_of_ble_eq_true rfl) dC_Asm_letter_44 ?_
    refine lv_icmp_lt (pc := 47) (tgt := 60) hx hb dC_Asm_letter_47 (by decide) (fun hc => ?_) (fun hc => ?_)
    · replace hM := it_t hc hM
      refine lv_aload_n (pc := 60) hx hb dC_Asm_letter_60 rfl (lv_at hl 1 rfl) ?_
      refine x_getC (pc := 61) C hW 0 rfl (ci := 10) rfl i_Asm 1 (by decide) qc_555 rfl rfl dC_Asm_letter_61 ?_
      refine lv_iload_n (pc := 64) hx hb dC_Asm_letter_64 rfl (lv_at hl 0 rfl) ?_
      refine lv_iload_n (pc := 65) hx hb dC_Asm_letter_65 rfl (lv_at hl 2 rfl) ?_
      obtain ⟨r2, hr2, hM⟩ := cr_some hM
      refine x_callQ (pc := 66) (n' := 52) (ov := some (.int r2)) C hW (kC_Nam_letterOf l D dA (zz o) o b  t0 x2 sN hr2) [21, 22, 23, 24, 25, 26, 27, 28, 29, 30, 31, 32, 33, 34, 35, 36, 37, 38, 39, 40, 0, 1, 2, 3, 4, 5, 6, 7, 8, 9, 10, 11, 12, 13, 14, 15, 16, 17, 18, 19, 20, 41, 42, 43, 44, 45, 46, 47, 48, 49, 50, 51] rfl (by decide +kernel) rfl (ci := 2) rfl (q0 := 21) rfl gC_Asm_184 ⟨rfl, by decide, by decide, by decide +kernel⟩ ⟨Nat.le_of_ble_eq_true rfl, Nat.le_of_ble_eq_true rfl⟩ ⟨Nat.le_refl _, Nat.le_refl _⟩ (As := [.int t0, .int x2]) (n := 2) rfl hl.1 rfl (Nat.le_of_ble_eq_true rfl) dC_Asm_letter_66 ?_
      refine lv_i2c (pc := 69) (v := (r2.toUInt32 % 65536).toInt32) hx hb dC_Asm_letter_69 rfl ?_
      obtain ⟨hg3, hM⟩ := gd_some hM
      obtain rfl := sm_i hM
      exact x_retSn (pc := 70) C.1 rfl (isC_n hg3) dC_Asm_letter_70
    · replace hM := it_f hc hM
      exact bC_Asm_letter_50  C  _ _ _ _ _ _ _ _ _ _ _ hM hW _ (lv_sub hl [] rfl)
def C_Asm_letter (x1 : Int32) (x2 : Int32) (sG : CS) (sR : CS) (sL : CS) (sX : CS) (sE : CS) (sY : CS) (sF : CS) (sN : CS) (sT : CS) (sP : CS) (sI : CS) : Option Int32 :=
  cr (C_Asm_isLabel  x1 sG sR sL sX sE sY sF sN sT sP sI) (fun r1 => (if r1 = 0 then C_Asm_letter_33  x2 (-1 : Int32) sG sR sL sX sE sY sF sN sT sP sI else cr (C_Row_get  x1 (rg sP 0)) (fun r2 => cr (C_Prg_find  r2 sP sI) (fun r3 => gd (decide (r3 < sI.2.2 0 + 1)) (C_Asm_letter_33  x2 (sI.2.1 r3 3) sG sR sL sX sE sY sF sN sT sP sI)))))
set_option maxHeartbeats 4000000 in
set_option maxRecDepth 100000 in
theorem bC_Asm_letter_0  {r : Int32} (C : CxC R_Asm p s m args meth c cC_Asm_letter 4 (some .char) D dA (zz o) A) (x1 : Int32) (x2 : Int32) (sG : CS) (sR : CS) (sL : CS) (sX : CS) (sE : CS) (sY : CS) (sF : CS) (sN : CS) (sT : CS) (sP : CS) (sI : CS) (hM : C_Asm_letter  x1 x2 sG sR sL sX sE sY sF sN sT sP sI = some r) (hW : WdC D A s (w_Asm dA o b i sG sR sL sX sE sY sF sN sT sP sI) s.heap []) (ls : Array Slot) (hl : lv_has ls 4 [(0, .ref (o 144)), (1, .int x1), (2, .int x2)]) : W p l e (rmC 4 141 0 0) s m args below meth c s.heap [] 0 0 (MQ below (QS (some (.int r))) args s 0 0 (fun _ => False)) (F0 m 0 ls []) := by
  have hx := C.1.1
  have hb := C.1.2.1
  have hown := C.1.2.2.2.2.1
  have hT := C.1.2.2.2.2.2.1
  unfold C_Asm_letter at hM
  refine lv_aload_n (pc := 0) hx hb dC_Asm_letter_0 rfl (lv_at hl 0 rfl) ?_
  refine lv_iload_n (pc := 1) hx hb dC_Asm_letter_1 rfl (lv_at hl 1 rfl) ?_
  obtain ⟨r1, hr1, hM⟩ := cr_some hM
  refine x_callQ (pc := 2) (n' := 52) (ov := some (.int r1)) C hW (kC_Asm_isLabel l D dA o b i  x1 sG sR sL sX sE sY sF sN sT sP sI hr1) [0, 1, 2, 3, 4, 5, 6, 7, 8, 9, 10, 11, 12, 13, 14, 15, 16, 17, 18, 19, 20, 21, 22, 23, 24, 25, 26, 27, 28, 29, 30, 31, 32, 33, 34, 35, 36, 37, 38, 39, 40, 41, 42, 43, 44, 45, 46, 47, 48, 49, 50, 51] rfl (by decide +kernel) rfl (ci := 10) rfl (q0 := 0) rfl gC_Asm_162 ⟨rfl, by decide, by decide, by decide +kernel⟩ ⟨Nat.le_of_ble_eq_true rfl, Nat.le_of_ble_eq_true rfl⟩ ⟨Nat.le_refl _, Nat.le_refl _⟩ (As := [.int x1]) (n := 1) rfl hl.1 rfl (Nat.le_of_ble_eq_true rfl) dC_Asm_letter_2 ?_
  refine lv_if_eq (pc := 5) (tgt := 32) hx hb dC_Asm_letter_5 (by decide) (fun hc => ?_) (fun hc => ?_)
  · replace hM := it_t hc hM
    refine lv_iconst (pc := 32) (v := -1) hx hb dC_Asm_letter_32 (by decide) ?_
    exact bC_Asm_letter_33  C  _ _ _ _ _ _ _ _ _ _ _ _ _ hM hW _ (lv_sub hl [0, 2] rfl)
  · replace hM := it_f hc hM
    refine lv_aload_n (pc := 8) hx hb dC_Asm_letter_8 rfl (lv_at hl 0 rfl) ?_
    refine x_getC (pc := 9) C hW 0 rfl (ci := 10) rfl i_Asm 4 (by decide) qc_558 rfl rfl dC_Asm_letter_9 ?_
    refine lv_aload_n (pc := 12) hx hb dC_Asm_letter_12 rfl (lv_at hl 0 rfl) ?_
    refine x_getC (pc := 13) C hW 0 rfl (ci := 10) rfl i_Asm 4 (by decide) qc_558 rfl rfl dC_Asm_letter_13 ?_
    refine x_getC (pc := 16) C hW 45 rfl (ci := 5) rfl i_Prg 0 (by decide) qc_386 rfl rfl dC_Asm_letter_16 ?_
    refine lv_iload_n (pc := 19) hx hb dC_Asm_letter_19 rfl (lv_at hl 1 rfl) ?_
    obtain ⟨r2, hr2, hM⟩ := cr_some hM
    refine x_callQ (pc := 20) (n' := 52) (ov := some (.int r2)) C hW (kC_Row_get l D dA (zz o) (fun _ => o 65) (fun _ => b 65)  x1 (rg sP 0) hr2) [46, 47, 0, 1, 2, 3, 4, 5, 6, 7, 8, 9, 10, 11, 12, 13, 14, 15, 16, 17, 18, 19, 20, 21, 22, 23, 24, 25, 26, 27, 28, 29, 30, 31, 32, 33, 34, 35, 36, 37, 38, 39, 40, 41, 42, 43, 44, 45, 48, 49, 50, 51] rfl (by decide +kernel) rfl (ci := 1) rfl (q0 := 46) rfl gC_Asm_159 ⟨rfl, by decide, by decide, by decide +kernel⟩ ⟨Nat.le_of_ble_eq_true rfl, Nat.le_of_ble_eq_true rfl⟩ ⟨Nat.le_refl _, Nat.le_refl _⟩ (As := [.int x1]) (n := 1) rfl hl.1 rfl (Nat.le_of_ble_eq_true rfl) dC_Asm_letter_20 ?_
    obtain ⟨r3, hr3, hM⟩ := cr_some hM
    refine x_callQ (pc := 23) (n' := 52) (ov := some (.ref (pa o i r3))) C hW (kC_Prg_find l D dA o b i  r2 sP sI hr3) [45, 46, 47, 48, 49, 50, 51, 0, 1, 2, 3, 4, 5, 6, 7, 8, 9, 10, 11, 12, 13, 14, 15, 16, 17, 18, 19, 20, 21, 22, 23, 24, 25, 26, 27, 28, 29, 30, 31, 32, 33, 34, 35, 36, 37, 38, 39, 40, 41, 42, 43, 44] rfl (by decide +kernel) rfl (ci := 5) rfl (q0 := 45) rfl gC_Asm_170 ⟨rfl, by decide, by decide, by decide +kernel⟩ ⟨Nat.le_of_ble_eq_true rfl, Nat.le_of_ble_eq_true rfl⟩ ⟨Nat.le_refl _, Nat.le_refl _⟩ (As := [.int r2]) (n := 1) rfl hl.1 rfl (Nat.le_of_ble_eq_true rfl) dC_Asm_letter_23 ?_
    obtain ⟨hg4, hM⟩ := gd_some hM
    refine x_getI (pc := 26) C hW 51 rfl (of_decide_eq_true hg4) 3 (by decide) qc_347 rfl rfl dC_Asm_letter_26 ?_
    refine lv_goto (pc := 29) (tgt := 33) hx hb dC_Asm_letter_29 (by decide) ?_
    exact bC_Asm_letter_33  C  _ _ _ _ _ _ _ _ _ _ _ _ _ hM hW _ (lv_sub hl [0, 2] rfl)
theorem kC_Asm_letter (l : Launch) (D : va_G) (dA : Nat → ClassId) (o b i : Nat → Nat) (x1 : Int32) (x2 : Int32) (sG : CS) (sR : CS) (sL : CS) (sX : CS) (sE : CS) (sY : CS) (sF : CS) (sN : CS) (sT : CS) (sP : CS) (sI : CS) {r : Int32} (hM : C_Asm_letter x1 x2 sG sR sL sX sE sY sF sN sT sP sI = some r) : KQ l D dA (zz o) yC_Asm_letter cC_Asm_letter 4 (some .char) 4 141 (w_Asm dA o b i sG sR sL sX sE sY sF sN sT sP sI) [.ref (o 144), .int x1, .int x2] (some (.int r)) := x_enterQ (by decide +kernel) (Nat.le_of_ble_eq_true rfl) (fun p e s m args below meth c A C hW ls hl => bC_Asm_letter_0 C x1 x2 sG sR sL sX sE sY sF sN sT sP sI hM hW ls hl)
end
