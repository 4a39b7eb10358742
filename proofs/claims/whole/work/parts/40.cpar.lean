abbrev c_Par (dA : Nat → ClassId) (o b : Nat → Nat) (σ : CS) : List va_W := [[(o 112, .inr (8, [.ref (o 16), .ref (o 32), .ref (o 64), .ref (o 96)]))]]
abbrev w_Par (dA : Nat → ClassId) (o b i : Nat → Nat) (sR sF sN sT sP sI : CS) : List va_W := [[(o 112, .inr (8, [.ref (o 16), .ref (o 32), .ref (o 64), .ref (o 96)]))], [(o 96, .inr (7, [.int (sF.1 0), .int (sF.1 1), .ref (o 16), .ref (o 32), .ref (o 64), .ref (o 97), .ref (o 98), .ref (o 99), .ref (o 100), .int (sF.1 2), .int (sF.1 3), .int (sF.1 4), .int (sF.1 5)]))], [(o 97, .inr (1, [.int (sF.1 100), .ref (b 97)]))], [(b 97, .inl (dA 2, sF.2.2 0, .inl (sF.2.1 0)))], [(o 98, .inr (1, [.int (sF.1 101), .ref (b 98)]))], [(b 98, .inl (dA 2, sF.2.2 1, .inl (sF.2.1 1)))], [(o 99, .inr (1, [.int (sF.1 102), .ref (b 99)]))], [(b 99, .inl (dA 2, sF.2.2 2, .inl (sF.2.1 2)))], [(o 100, .inr (1, [.int (sF.1 103), .ref (b 100)]))], [(b 100, .inl (dA 2, sF.2.2 3, .inl (sF.2.1 3)))], [(o 16, .inr (2, [.ref (o 17), .ref (o 18), .ref (o 19), .ref (o 20), .ref (o 21), .int (sN.1 1), .int (sN.1 2), .int (sN.1 3), .ref (b 26), .ref (o 22), .ref (o 23), .ref (o 24), .ref (o 25), .int (sN.1 4), .int (sN.1 0)]))], [(o 17, .inr (1, [.int (sN.1 100), .ref (b 17)]))], [(b 17, .inl (dA 2, sN.2.2 0, .inl (sN.2.1 0)))], [(o 18, .inr (1, [.int (sN.1 101), .ref (b 18)]))], [(b 18, .inl (dA 2, sN.2.2 1, .inl (sN.2.1 1)))], [(o 19, .inr (1, [.int (sN.1 102), .ref (b 19)]))], [(b 19, .inl (dA 2, sN.2.2 2, .inl (sN.2.1 2)))], [(o 20, .inr (1, [.int (sN.1 103), .ref (b 20)]))], [(b 20, .inl (dA 2, sN.2.2 3, .inl (sN.2.1 3)))], [(o 21, .inr (1, [.int (sN.1 104), .ref (b 21)]))], [(b 21, .inl (dA 2, sN.2.2 4, .inl (sN.2.1 4)))], [(o 22, .inr (1, [.int (sN.1 105), .ref (b 22)]))], [(b 22, .inl (dA 2, sN.2.2 5, .inl (sN.2.1 5)))], [(o 23, .inr (1, [.int (sN.1 106), .ref (b 23)]))], [(b 23, .inl (dA 2, sN.2.2 6, .inl (sN.2.1 6)))], [(o 24, .inr (1, [.int (sN.1 107), .ref (b 24)]))], [(b 24, .inl (dA 2, sN.2.2 7, .inl (sN.2.1 7)))], [(o 25, .inr (1, [.int (sN.1 108), .ref (b 25)]))], [(b 25, .inl (dA 2, sN.2.2 8, .inl (sN.2.1 8)))], [(b 26, .inl (dA 2, sN.2.2 20, .inl (sN.2.1 20)))], [(o 32, .inr (3, [.int (sT.1 0), .int (sT.1 1), .int (sT.1 2), .ref (b 32), .ref (b 33), .ref (b 34)]))], [(b 32, .inl (dA 2, sT.2.2 0, .inl (sT.2.1 0)))], [(b 33, .inl (dA 2, sT.2.2 1, .inl (sT.2.1 1)))], [(b 34, .inl (dA 2, sT.2.2 2, .inl (sT.2.1 2)))], [(o 64, .inr (5, [.ref (o 65), .int (sP.1 0), .int (sP.1 1), .int (sP.1 2), .int (sP.1 3), .int (sP.1 4), .int (sP.1 5), .int (sP.1 6), .int (sP.1 7), .ref (o 66), .ref (o 68), .ref (b 67)]))], [(o 65, .inr (1, [.int (sP.1 100), .ref (b 65)]))], [(b 65, .inl (dA 2, sP.2.2 0, .inl (sP.2.1 0)))], [(b 67, .inl (dA 2, sP.2.2 20, .inl (sP.2.1 20)))], [(o 66, .inr (11, [.ref (lref o b sI), .int (nI (sI.2.2 0)), .int (sI.1 0)]))], larr dA b i sI, pool o i sI]
theorem qsc_22 : Cond.selects "LineAssembler$Parser" (⟨"LineAssembler$Parser", "isLabel", "()Z"⟩ : MethodName) ⟨"LineAssembler$Parser", "isLabel", "()Z"⟩ ∈ lw_gd := lw_gds (List.mem_of_getElem? (i := 22) (by decide +kernel)) (by decide +kernel)
theorem qsc_23 : Cond.selects "LineAssembler$Parser" (⟨"LineAssembler$Parser", "readLabel", "()I"⟩ : MethodName) ⟨"LineAssembler$Parser", "readLabel", "()I"⟩ ∈ lw_gd := lw_gds (List.mem_of_getElem? (i := 23) (by decide +kernel)) (by decide +kernel)
theorem qsc_24 : Cond.selects "LineAssembler$Parser" (⟨"LineAssembler$Parser", "readStatement", "()I"⟩ : MethodName) ⟨"LineAssembler$Parser", "readStatement", "()I"⟩ ∈ lw_gd := lw_gds (List.mem_of_getElem? (i := 24) (by decide +kernel)) (by decide +kernel)
theorem qsc_25 : Cond.selects "LineAssembler$Parser" (⟨"LineAssembler$Parser", "readEquate", "()I"⟩ : MethodName) ⟨"LineAssembler$Parser", "readEquate", "()I"⟩ ∈ lw_gd := lw_gds (List.mem_of_getElem? (i := 25) (by decide +kernel)) (by decide +kernel)
theorem qsc_26 : Cond.selects "LineAssembler$Parser" (⟨"LineAssembler$Parser", "readFixed", "(II)I"⟩ : MethodName) ⟨"LineAssembler$Parser", "readFixed", "(II)I"⟩ ∈ lw_gd := lw_gds (List.mem_of_getElem? (i := 26) (by decide +kernel)) (by decide +kernel)
theorem qsc_33 : Cond.selects "LineAssembler$Parser" (⟨"LineAssembler$Parser", "readNumbers", "(I)I"⟩ : MethodName) ⟨"LineAssembler$Parser", "readNumbers", "(I)I"⟩ ∈ lw_gd := lw_gds (List.mem_of_getElem? (i := 33) (by decide +kernel)) (by decide +kernel)
theorem qsc_34 : Cond.selects "LineAssembler$Parser" (⟨"LineAssembler$Parser", "readStrings", "(I)I"⟩ : MethodName) ⟨"LineAssembler$Parser", "readStrings", "(I)I"⟩ ∈ lw_gd := lw_gds (List.mem_of_getElem? (i := 34) (by decide +kernel)) (by decide +kernel)
theorem qsc_35 : Cond.selects "LineAssembler$Parser" (⟨"LineAssembler$Parser", "readSpace", "()I"⟩ : MethodName) ⟨"LineAssembler$Parser", "readSpace", "()I"⟩ ∈ lw_gd := lw_gds (List.mem_of_getElem? (i := 35) (by decide +kernel)) (by decide +kernel)
theorem qsc_36 : Cond.selects "LineAssembler$Parser" (⟨"LineAssembler$Parser", "readAlign", "()I"⟩ : MethodName) ⟨"LineAssembler$Parser", "readAlign", "()I"⟩ ∈ lw_gd := lw_gds (List.mem_of_getElem? (i := 36) (by decide +kernel)) (by decide +kernel)
theorem qsc_37 : Cond.selects "LineAssembler$Parser" (⟨"LineAssembler$Parser", "readLoad", "()I"⟩ : MethodName) ⟨"LineAssembler$Parser", "readLoad", "()I"⟩ ∈ lw_gd := lw_gds (List.mem_of_getElem? (i := 37) (by decide +kernel)) (by decide +kernel)
theorem qsc_38 : Cond.selects "LineAssembler$Parser" (⟨"LineAssembler$Parser", "readRegister", "(I)I"⟩ : MethodName) ⟨"LineAssembler$Parser", "readRegister", "(I)I"⟩ ∈ lw_gd := lw_gds (List.mem_of_getElem? (i := 38) (by decide +kernel)) (by decide +kernel)
theorem qsc_39 : Cond.selects "LineAssembler$Parser" (⟨"LineAssembler$Parser", "isRegister", "()Z"⟩ : MethodName) ⟨"LineAssembler$Parser", "isRegister", "()Z"⟩ ∈ lw_gd := lw_gds (List.mem_of_getElem? (i := 39) (by decide +kernel)) (by decide +kernel)
theorem qsc_40 : Cond.selects "LineAssembler$Parser" (⟨"LineAssembler$Parser", "addLoad", "(II)V"⟩ : MethodName) ⟨"LineAssembler$Parser", "addLoad", "(II)V"⟩ ∈ lw_gd := lw_gds (List.mem_of_getElem? (i := 40) (by decide +kernel)) (by decide +kernel)
theorem qsc_41 : Cond.selects "LineAssembler$Parser" (⟨"LineAssembler$Parser", "readShape", "(Ljava/lang/String;I)I"⟩ : MethodName) ⟨"LineAssembler$Parser", "readShape", "(Ljava/lang/String;I)I"⟩ ∈ lw_gd := lw_gds (List.mem_of_getElem? (i := 41) (by decide +kernel)) (by decide +kernel)
theorem qc_21 : (Jvm.Cond.initialized "LineAssembler$Parser") ∈ lw_gd := uc_0 (List.mem_of_getElem? (i := 21) (by decide +kernel)) (by decide +kernel)
theorem qc_220 : (Jvm.Cond.fieldLink "LineAssembler$Parser" (88 : Nat) "LineAssembler$Names" "operations" "LLineAssembler$Row;") ∈ lw_gd := uc_0 (List.mem_of_getElem? (i := 220) (by decide +kernel)) (by decide +kernel)
theorem qc_222 : (Jvm.Cond.fieldLink "LineAssembler$Parser" (189 : Nat) "LineAssembler$Names" "registers" "LLineAssembler$Row;") ∈ lw_gd := uc_0 (List.mem_of_getElem? (i := 222) (by decide +kernel)) (by decide +kernel)
theorem qc_224 : (Jvm.Cond.fieldLink "LineAssembler$Parser" (150 : Nat) "LineAssembler$Names" "orders" "LLineAssembler$Row;") ∈ lw_gd := uc_0 (List.mem_of_getElem? (i := 224) (by decide +kernel)) (by decide +kernel)
theorem qc_360 : (Jvm.Cond.fieldLink "LineAssembler$Parser" (181 : Nat) "LineAssembler$Item" "from" "I") ∈ lw_gd := uc_1 (List.mem_of_getElem? (i := 120) (by decide +kernel)) (by decide +kernel)
theorem qc_364 : (Jvm.Cond.fieldLink "LineAssembler$Parser" (186 : Nat) "LineAssembler$Item" "to" "I") ∈ lw_gd := uc_1 (List.mem_of_getElem? (i := 124) (by decide +kernel)) (by decide +kernel)
theorem qc_385 : (Jvm.Cond.fieldLink "LineAssembler$Parser" (76 : Nat) "LineAssembler$Program" "labels" "LLineAssembler$Row;") ∈ lw_gd := uc_1 (List.mem_of_getElem? (i := 145) (by decide +kernel)) (by decide +kernel)
theorem qc_389 : (Jvm.Cond.fieldLink "LineAssembler$Parser" (213 : Nat) "LineAssembler$Program" "constants" "I") ∈ lw_gd := uc_1 (List.mem_of_getElem? (i := 149) (by decide +kernel)) (by decide +kernel)
theorem qc_392 : (Jvm.Cond.fieldLink "LineAssembler$Parser" (69 : Nat) "LineAssembler$Program" "count" "I") ∈ lw_gd := uc_1 (List.mem_of_getElem? (i := 152) (by decide +kernel)) (by decide +kernel)
theorem qc_398 : (Jvm.Cond.fieldLink "LineAssembler$Parser" (27 : Nat) "LineAssembler$Program" "lineNumber" "I") ∈ lw_gd := uc_1 (List.mem_of_getElem? (i := 158) (by decide +kernel)) (by decide +kernel)
theorem qc_400 : (Jvm.Cond.fieldLink "LineAssembler$Parser" (106 : Nat) "LineAssembler$Program" "inData" "Z") ∈ lw_gd := uc_1 (List.mem_of_getElem? (i := 160) (by decide +kernel)) (by decide +kernel)
theorem qc_402 : (Jvm.Cond.fieldLink "LineAssembler$Parser" (100 : Nat) "LineAssembler$Program" "head" "I") ∈ lw_gd := uc_1 (List.mem_of_getElem? (i := 162) (by decide +kernel)) (by decide +kernel)
theorem qc_463 : (Jvm.Cond.fieldLink "LineAssembler$Parser" (195 : Nat) "LineAssembler$Formulas" "fixed" "Z") ∈ lw_gd := uc_1 (List.mem_of_getElem? (i := 223) (by decide +kernel)) (by decide +kernel)
theorem qc_466 : (Jvm.Cond.fieldLink "LineAssembler$Parser" (205 : Nat) "LineAssembler$Formulas" "result" "I") ∈ lw_gd := uc_1 (List.mem_of_getElem? (i := 226) (by decide +kernel)) (by decide +kernel)
theorem qc_511 : (Jvm.Cond.fieldLink "LineAssembler$Parser" (9 : Nat) "LineAssembler$Parser" "names" "LLineAssembler$Names;") ∈ lw_gd := uc_2 (List.mem_of_getElem? (i := 31) (by decide +kernel)) (by decide +kernel)
theorem qc_512 : (Jvm.Cond.fieldLink "LineAssembler$Parser" (15 : Nat) "LineAssembler$Parser" "tokens" "LLineAssembler$Tokens;") ∈ lw_gd := uc_2 (List.mem_of_getElem? (i := 32) (by decide +kernel)) (by decide +kernel)
theorem qc_513 : (Jvm.Cond.fieldLink "LineAssembler$Parser" (19 : Nat) "LineAssembler$Parser" "program" "LLineAssembler$Program;") ∈ lw_gd := uc_2 (List.mem_of_getElem? (i := 33) (by decide +kernel)) (by decide +kernel)
theorem qc_514 : (Jvm.Cond.fieldLink "LineAssembler$Parser" (23 : Nat) "LineAssembler$Parser" "formulas" "LLineAssembler$Formulas;") ∈ lw_gd := uc_2 (List.mem_of_getElem? (i := 34) (by decide +kernel)) (by decide +kernel)
theorem qc_1075 : (Jvm.Cond.methodLink "LineAssembler$Parser" (33 : Nat) ({ cls := "LineAssembler$Tokens", name := "left", desc := "()I" } : Jvm.MethodName)) ∈ lw_gd := uc_4 (List.mem_of_getElem? (i := 115) (by decide +kernel)) (by decide +kernel)
theorem qc_1079 : (Jvm.Cond.methodLink "LineAssembler$Parser" (39 : Nat) ({ cls := "LineAssembler$Parser", name := "isLabel", desc := "()Z" } : Jvm.MethodName)) ∈ lw_gd := uc_4 (List.mem_of_getElem? (i := 119) (by decide +kernel)) (by decide +kernel)
theorem qc_1081 : (Jvm.Cond.instanceMethod ({ cls := "LineAssembler$Parser", name := "isLabel", desc := "()Z" } : Jvm.MethodName)) ∈ lw_gd := uc_4 (List.mem_of_getElem? (i := 121) (by decide +kernel)) (by decide +kernel)
theorem qc_1082 : (Jvm.Cond.code ({ cls := "LineAssembler$Parser", name := "isLabel", desc := "()Z" } : Jvm.MethodName) prog_9_method_3_code (1 : Nat) (Option.some Jvm.ClassFile.FieldType.boolean)) ∈ lw_gd := uc_4 (List.mem_of_getElem? (i := 122) (by decide +kernel)) (by decide +kernel)
theorem qc_1083 : (Jvm.Cond.methodLink "LineAssembler$Parser" (46 : Nat) ({ cls := "LineAssembler$Tokens", name := "kind", desc := "(I)I" } : Jvm.MethodName)) ∈ lw_gd := uc_4 (List.mem_of_getElem? (i := 123) (by decide +kernel)) (by decide +kernel)
theorem qc_1087 : (Jvm.Cond.methodLink "LineAssembler$Parser" (43 : Nat) ({ cls := "LineAssembler$Parser", name := "readLabel", desc := "()I" } : Jvm.MethodName)) ∈ lw_gd := uc_4 (List.mem_of_getElem? (i := 127) (by decide +kernel)) (by decide +kernel)
theorem qc_1089 : (Jvm.Cond.instanceMethod ({ cls := "LineAssembler$Parser", name := "readLabel", desc := "()I" } : Jvm.MethodName)) ∈ lw_gd := uc_4 (List.mem_of_getElem? (i := 129) (by decide +kernel)) (by decide +kernel)
theorem qc_1090 : (Jvm.Cond.code ({ cls := "LineAssembler$Parser", name := "readLabel", desc := "()I" } : Jvm.MethodName) prog_9_method_4_code (3 : Nat) (Option.some Jvm.ClassFile.FieldType.int)) ∈ lw_gd := uc_4 (List.mem_of_getElem? (i := 130) (by decide +kernel)) (by decide +kernel)
theorem qc_1091 : (Jvm.Cond.methodLink "LineAssembler$Parser" (57 : Nat) ({ cls := "LineAssembler$Tokens", name := "value", desc := "(I)I" } : Jvm.MethodName)) ∈ lw_gd := uc_4 (List.mem_of_getElem? (i := 131) (by decide +kernel)) (by decide +kernel)
theorem qc_1095 : (Jvm.Cond.methodLink "LineAssembler$Parser" (60 : Nat) ({ cls := "LineAssembler$Program", name := "addNear", desc := "(I)V" } : Jvm.MethodName)) ∈ lw_gd := uc_4 (List.mem_of_getElem? (i := 135) (by decide +kernel)) (by decide +kernel)
theorem qc_1096 : (Jvm.Cond.instanceMethod ({ cls := "LineAssembler$Program", name := "addNear", desc := "(I)V" } : Jvm.MethodName)) ∈ lw_gd := uc_4 (List.mem_of_getElem? (i := 136) (by decide +kernel)) (by decide +kernel)
theorem qc_1097 : (Jvm.Cond.selects "LineAssembler$Program" ({ cls := "LineAssembler$Program", name := "addNear", desc := "(I)V" } : Jvm.MethodName) ({ cls := "LineAssembler$Program", name := "addNear", desc := "(I)V" } : Jvm.MethodName)) ∈ lw_gd := uc_4 (List.mem_of_getElem? (i := 137) (by decide +kernel)) (by decide +kernel)
theorem qc_1098 : (Jvm.Cond.code ({ cls := "LineAssembler$Program", name := "addNear", desc := "(I)V" } : Jvm.MethodName) prog_10_method_5_code (2 : Nat) (Option.none : Option Jvm.ClassFile.FieldType)) ∈ lw_gd := uc_4 (List.mem_of_getElem? (i := 138) (by decide +kernel)) (by decide +kernel)
theorem qc_1103 : (Jvm.Cond.methodLink "LineAssembler$Parser" (63 : Nat) ({ cls := "LineAssembler$Names", name := "isFree", desc := "(I)Z" } : Jvm.MethodName)) ∈ lw_gd := uc_4 (List.mem_of_getElem? (i := 143) (by decide +kernel)) (by decide +kernel)
theorem qc_1104 : (Jvm.Cond.instanceMethod ({ cls := "LineAssembler$Names", name := "isFree", desc := "(I)Z" } : Jvm.MethodName)) ∈ lw_gd := uc_4 (List.mem_of_getElem? (i := 144) (by decide +kernel)) (by decide +kernel)
theorem qc_1105 : (Jvm.Cond.selects "LineAssembler$Names" ({ cls := "LineAssembler$Names", name := "isFree", desc := "(I)Z" } : Jvm.MethodName) ({ cls := "LineAssembler$Names", name := "isFree", desc := "(I)Z" } : Jvm.MethodName)) ∈ lw_gd := uc_4 (List.mem_of_getElem? (i := 145) (by decide +kernel)) (by decide +kernel)
theorem qc_1106 : (Jvm.Cond.code ({ cls := "LineAssembler$Names", name := "isFree", desc := "(I)Z" } : Jvm.MethodName) prog_7_method_5_code (2 : Nat) (Option.some Jvm.ClassFile.FieldType.boolean)) ∈ lw_gd := uc_4 (List.mem_of_getElem? (i := 146) (by decide +kernel)) (by decide +kernel)
theorem qc_1107 : (Jvm.Cond.methodLink "LineAssembler$Parser" (72 : Nat) ({ cls := "LineAssembler$Names", name := "define", desc := "(III)V" } : Jvm.MethodName)) ∈ lw_gd := uc_4 (List.mem_of_getElem? (i := 147) (by decide +kernel)) (by decide +kernel)
theorem qc_1108 : (Jvm.Cond.instanceMethod ({ cls := "LineAssembler$Names", name := "define", desc := "(III)V" } : Jvm.MethodName)) ∈ lw_gd := uc_4 (List.mem_of_getElem? (i := 148) (by decide +kernel)) (by decide +kernel)
theorem qc_1109 : (Jvm.Cond.selects "LineAssembler$Names" ({ cls := "LineAssembler$Names", name := "define", desc := "(III)V" } : Jvm.MethodName) ({ cls := "LineAssembler$Names", name := "define", desc := "(III)V" } : Jvm.MethodName)) ∈ lw_gd := uc_4 (List.mem_of_getElem? (i := 149) (by decide +kernel)) (by decide +kernel)
theorem qc_1110 : (Jvm.Cond.code ({ cls := "LineAssembler$Names", name := "define", desc := "(III)V" } : Jvm.MethodName) prog_7_method_6_code (4 : Nat) (Option.none : Option Jvm.ClassFile.FieldType)) ∈ lw_gd := uc_4 (List.mem_of_getElem? (i := 150) (by decide +kernel)) (by decide +kernel)
theorem qc_1115 : (Jvm.Cond.methodLink "LineAssembler$Parser" (80 : Nat) ({ cls := "LineAssembler$Row", name := "add", desc := "(I)V" } : Jvm.MethodName)) ∈ lw_gd := uc_4 (List.mem_of_getElem? (i := 155) (by decide +kernel)) (by decide +kernel)
theorem qc_1116 : (Jvm.Cond.methodLink "LineAssembler$Parser" (85 : Nat) ({ cls := "LineAssembler$Program", name := "add", desc := "(III)LLineAssembler$Item;" } : Jvm.MethodName)) ∈ lw_gd := uc_4 (List.mem_of_getElem? (i := 156) (by decide +kernel)) (by decide +kernel)
theorem qc_1117 : (Jvm.Cond.methodLink "LineAssembler$Parser" (53 : Nat) ({ cls := "LineAssembler$Tokens", name := "skip", desc := "(I)V" } : Jvm.MethodName)) ∈ lw_gd := uc_4 (List.mem_of_getElem? (i := 157) (by decide +kernel)) (by decide +kernel)
theorem qc_1122 : (Jvm.Cond.methodLink "LineAssembler$Parser" (50 : Nat) ({ cls := "LineAssembler$Parser", name := "readStatement", desc := "()I" } : Jvm.MethodName)) ∈ lw_gd := uc_4 (List.mem_of_getElem? (i := 162) (by decide +kernel)) (by decide +kernel)
theorem qc_1124 : (Jvm.Cond.instanceMethod ({ cls := "LineAssembler$Parser", name := "readStatement", desc := "()I" } : Jvm.MethodName)) ∈ lw_gd := uc_4 (List.mem_of_getElem? (i := 164) (by decide +kernel)) (by decide +kernel)
theorem qc_1125 : (Jvm.Cond.code ({ cls := "LineAssembler$Parser", name := "readStatement", desc := "()I" } : Jvm.MethodName) prog_9_method_5_code (4 : Nat) (Option.some Jvm.ClassFile.FieldType.int)) ∈ lw_gd := uc_4 (List.mem_of_getElem? (i := 165) (by decide +kernel)) (by decide +kernel)
theorem qc_1126 : (Jvm.Cond.methodLink "LineAssembler$Parser" (91 : Nat) ({ cls := "LineAssembler$Row", name := "get", desc := "(I)I" } : Jvm.MethodName)) ∈ lw_gd := uc_4 (List.mem_of_getElem? (i := 166) (by decide +kernel)) (by decide +kernel)
theorem qc_1128 : (Jvm.Cond.methodLink "LineAssembler$Parser" (110 : Nat) ({ cls := "LineAssembler$Parser", name := "readEquate", desc := "()I" } : Jvm.MethodName)) ∈ lw_gd := uc_4 (List.mem_of_getElem? (i := 168) (by decide +kernel)) (by decide +kernel)
theorem qc_1130 : (Jvm.Cond.instanceMethod ({ cls := "LineAssembler$Parser", name := "readEquate", desc := "()I" } : Jvm.MethodName)) ∈ lw_gd := uc_4 (List.mem_of_getElem? (i := 170) (by decide +kernel)) (by decide +kernel)
theorem qc_1131 : (Jvm.Cond.code ({ cls := "LineAssembler$Parser", name := "readEquate", desc := "()I" } : Jvm.MethodName) prog_9_method_10_code (3 : Nat) (Option.some Jvm.ClassFile.FieldType.int)) ∈ lw_gd := uc_4 (List.mem_of_getElem? (i := 171) (by decide +kernel)) (by decide +kernel)
theorem qc_1132 : (Jvm.Cond.constant "LineAssembler$Parser" (208 : Nat) (-2147483648 : Int32)) ∈ lw_gd := uc_4 (List.mem_of_getElem? (i := 172) (by decide +kernel)) (by decide +kernel)
theorem qc_1133 : (Jvm.Cond.constant "LineAssembler$Parser" (209 : Nat) (2147483647 : Int32)) ∈ lw_gd := uc_4 (List.mem_of_getElem? (i := 173) (by decide +kernel)) (by decide +kernel)
theorem qc_1134 : (Jvm.Cond.methodLink "LineAssembler$Parser" (210 : Nat) ({ cls := "LineAssembler$Parser", name := "readFixed", desc := "(II)I" } : Jvm.MethodName)) ∈ lw_gd := uc_4 (List.mem_of_getElem? (i := 174) (by decide +kernel)) (by decide +kernel)
theorem qc_1136 : (Jvm.Cond.instanceMethod ({ cls := "LineAssembler$Parser", name := "readFixed", desc := "(II)I" } : Jvm.MethodName)) ∈ lw_gd := uc_4 (List.mem_of_getElem? (i := 176) (by decide +kernel)) (by decide +kernel)
theorem qc_1137 : (Jvm.Cond.code ({ cls := "LineAssembler$Parser", name := "readFixed", desc := "(II)I" } : Jvm.MethodName) prog_9_method_9_code (5 : Nat) (Option.some Jvm.ClassFile.FieldType.int)) ∈ lw_gd := uc_4 (List.mem_of_getElem? (i := 177) (by decide +kernel)) (by decide +kernel)
theorem qc_1138 : (Jvm.Cond.methodLink "LineAssembler$Parser" (153 : Nat) ({ cls := "LineAssembler$Formulas", name := "end", desc := "()I" } : Jvm.MethodName)) ∈ lw_gd := uc_4 (List.mem_of_getElem? (i := 178) (by decide +kernel)) (by decide +kernel)
theorem qc_1139 : (Jvm.Cond.instanceMethod ({ cls := "LineAssembler$Formulas", name := "end", desc := "()I" } : Jvm.MethodName)) ∈ lw_gd := uc_4 (List.mem_of_getElem? (i := 179) (by decide +kernel)) (by decide +kernel)
theorem qc_1140 : (Jvm.Cond.selects "LineAssembler$Formulas" ({ cls := "LineAssembler$Formulas", name := "end", desc := "()I" } : Jvm.MethodName) ({ cls := "LineAssembler$Formulas", name := "end", desc := "()I" } : Jvm.MethodName)) ∈ lw_gd := uc_4 (List.mem_of_getElem? (i := 180) (by decide +kernel)) (by decide +kernel)
theorem qc_1141 : (Jvm.Cond.code ({ cls := "LineAssembler$Formulas", name := "end", desc := "()I" } : Jvm.MethodName) prog_4_method_3_code (1 : Nat) (Option.some Jvm.ClassFile.FieldType.int)) ∈ lw_gd := uc_4 (List.mem_of_getElem? (i := 181) (by decide +kernel)) (by decide +kernel)
theorem qc_1142 : (Jvm.Cond.methodLink "LineAssembler$Parser" (174 : Nat) ({ cls := "LineAssembler$Formulas", name := "compile", desc := "()Z" } : Jvm.MethodName)) ∈ lw_gd := uc_4 (List.mem_of_getElem? (i := 182) (by decide +kernel)) (by decide +kernel)
theorem qc_1143 : (Jvm.Cond.instanceMethod ({ cls := "LineAssembler$Formulas", name := "compile", desc := "()Z" } : Jvm.MethodName)) ∈ lw_gd := uc_4 (List.mem_of_getElem? (i := 183) (by decide +kernel)) (by decide +kernel)
theorem qc_1144 : (Jvm.Cond.selects "LineAssembler$Formulas" ({ cls := "LineAssembler$Formulas", name := "compile", desc := "()Z" } : Jvm.MethodName) ({ cls := "LineAssembler$Formulas", name := "compile", desc := "()Z" } : Jvm.MethodName)) ∈ lw_gd := uc_4 (List.mem_of_getElem? (i := 184) (by decide +kernel)) (by decide +kernel)
theorem qc_1145 : (Jvm.Cond.code ({ cls := "LineAssembler$Formulas", name := "compile", desc := "()Z" } : Jvm.MethodName) prog_4_method_5_code (4 : Nat) (Option.some Jvm.ClassFile.FieldType.boolean)) ∈ lw_gd := uc_4 (List.mem_of_getElem? (i := 185) (by decide +kernel)) (by decide +kernel)
theorem qc_1171 : (Jvm.Cond.methodLink "LineAssembler$Parser" (198 : Nat) ({ cls := "LineAssembler$Formulas", name := "evaluate", desc := "(III)I" } : Jvm.MethodName)) ∈ lw_gd := uc_4 (List.mem_of_getElem? (i := 211) (by decide +kernel)) (by decide +kernel)
theorem qc_1200 : (Jvm.Cond.methodLink "LineAssembler$Parser" (202 : Nat) ({ cls := "LineAssembler$Formulas", name := "dropFrom", desc := "(I)V" } : Jvm.MethodName)) ∈ lw_gd := uc_5 (List.mem_of_getElem? (i := 0) (by decide +kernel)) (by decide +kernel)
theorem qc_1201 : (Jvm.Cond.methodLink "LineAssembler$Parser" (116 : Nat) ({ cls := "LineAssembler$Parser", name := "readNumbers", desc := "(I)I" } : Jvm.MethodName)) ∈ lw_gd := uc_5 (List.mem_of_getElem? (i := 1) (by decide +kernel)) (by decide +kernel)
theorem qc_1203 : (Jvm.Cond.instanceMethod ({ cls := "LineAssembler$Parser", name := "readNumbers", desc := "(I)I" } : Jvm.MethodName)) ∈ lw_gd := uc_5 (List.mem_of_getElem? (i := 3) (by decide +kernel)) (by decide +kernel)
theorem qc_1204 : (Jvm.Cond.code ({ cls := "LineAssembler$Parser", name := "readNumbers", desc := "(I)I" } : Jvm.MethodName) prog_9_method_11_code (6 : Nat) (Option.some Jvm.ClassFile.FieldType.int)) ∈ lw_gd := uc_5 (List.mem_of_getElem? (i := 4) (by decide +kernel)) (by decide +kernel)
theorem qc_1205 : (Jvm.Cond.methodLink "LineAssembler$Parser" (119 : Nat) ({ cls := "LineAssembler$Parser", name := "readStrings", desc := "(I)I" } : Jvm.MethodName)) ∈ lw_gd := uc_5 (List.mem_of_getElem? (i := 5) (by decide +kernel)) (by decide +kernel)
theorem qc_1207 : (Jvm.Cond.instanceMethod ({ cls := "LineAssembler$Parser", name := "readStrings", desc := "(I)I" } : Jvm.MethodName)) ∈ lw_gd := uc_5 (List.mem_of_getElem? (i := 7) (by decide +kernel)) (by decide +kernel)
theorem qc_1208 : (Jvm.Cond.code ({ cls := "LineAssembler$Parser", name := "readStrings", desc := "(I)I" } : Jvm.MethodName) prog_9_method_12_code (4 : Nat) (Option.some Jvm.ClassFile.FieldType.int)) ∈ lw_gd := uc_5 (List.mem_of_getElem? (i := 8) (by decide +kernel)) (by decide +kernel)
theorem qc_1209 : (Jvm.Cond.methodLink "LineAssembler$Parser" (216 : Nat) ({ cls := "LineAssembler$Tokens", name := "length", desc := "()I" } : Jvm.MethodName)) ∈ lw_gd := uc_5 (List.mem_of_getElem? (i := 9) (by decide +kernel)) (by decide +kernel)
theorem qc_1210 : (Jvm.Cond.instanceMethod ({ cls := "LineAssembler$Tokens", name := "length", desc := "()I" } : Jvm.MethodName)) ∈ lw_gd := uc_5 (List.mem_of_getElem? (i := 10) (by decide +kernel)) (by decide +kernel)
theorem qc_1211 : (Jvm.Cond.selects "LineAssembler$Tokens" ({ cls := "LineAssembler$Tokens", name := "length", desc := "()I" } : Jvm.MethodName) ({ cls := "LineAssembler$Tokens", name := "length", desc := "()I" } : Jvm.MethodName)) ∈ lw_gd := uc_5 (List.mem_of_getElem? (i := 11) (by decide +kernel)) (by decide +kernel)
theorem qc_1212 : (Jvm.Cond.code ({ cls := "LineAssembler$Tokens", name := "length", desc := "()I" } : Jvm.MethodName) prog_12_method_8_code (1 : Nat) (Option.some Jvm.ClassFile.FieldType.int)) ∈ lw_gd := uc_5 (List.mem_of_getElem? (i := 12) (by decide +kernel)) (by decide +kernel)
theorem qc_1213 : (Jvm.Cond.methodLink "LineAssembler$Parser" (122 : Nat) ({ cls := "LineAssembler$Parser", name := "readSpace", desc := "()I" } : Jvm.MethodName)) ∈ lw_gd := uc_5 (List.mem_of_getElem? (i := 13) (by decide +kernel)) (by decide +kernel)
theorem qc_1215 : (Jvm.Cond.instanceMethod ({ cls := "LineAssembler$Parser", name := "readSpace", desc := "()I" } : Jvm.MethodName)) ∈ lw_gd := uc_5 (List.mem_of_getElem? (i := 15) (by decide +kernel)) (by decide +kernel)
theorem qc_1216 : (Jvm.Cond.code ({ cls := "LineAssembler$Parser", name := "readSpace", desc := "()I" } : Jvm.MethodName) prog_9_method_13_code (2 : Nat) (Option.some Jvm.ClassFile.FieldType.int)) ∈ lw_gd := uc_5 (List.mem_of_getElem? (i := 16) (by decide +kernel)) (by decide +kernel)
theorem qc_1217 : (Jvm.Cond.constant "LineAssembler$Parser" (217 : Nat) (32768 : Int32)) ∈ lw_gd := uc_5 (List.mem_of_getElem? (i := 17) (by decide +kernel)) (by decide +kernel)
theorem qc_1218 : (Jvm.Cond.methodLink "LineAssembler$Parser" (125 : Nat) ({ cls := "LineAssembler$Parser", name := "readAlign", desc := "()I" } : Jvm.MethodName)) ∈ lw_gd := uc_5 (List.mem_of_getElem? (i := 18) (by decide +kernel)) (by decide +kernel)
theorem qc_1220 : (Jvm.Cond.instanceMethod ({ cls := "LineAssembler$Parser", name := "readAlign", desc := "()I" } : Jvm.MethodName)) ∈ lw_gd := uc_5 (List.mem_of_getElem? (i := 20) (by decide +kernel)) (by decide +kernel)
theorem qc_1221 : (Jvm.Cond.code ({ cls := "LineAssembler$Parser", name := "readAlign", desc := "()I" } : Jvm.MethodName) prog_9_method_14_code (2 : Nat) (Option.some Jvm.ClassFile.FieldType.int)) ∈ lw_gd := uc_5 (List.mem_of_getElem? (i := 21) (by decide +kernel)) (by decide +kernel)
theorem qc_1222 : (Jvm.Cond.methodLink "LineAssembler$Parser" (128 : Nat) ({ cls := "LineAssembler$Parser", name := "readLoad", desc := "()I" } : Jvm.MethodName)) ∈ lw_gd := uc_5 (List.mem_of_getElem? (i := 22) (by decide +kernel)) (by decide +kernel)
theorem qc_1224 : (Jvm.Cond.instanceMethod ({ cls := "LineAssembler$Parser", name := "readLoad", desc := "()I" } : Jvm.MethodName)) ∈ lw_gd := uc_5 (List.mem_of_getElem? (i := 24) (by decide +kernel)) (by decide +kernel)
theorem qc_1225 : (Jvm.Cond.code ({ cls := "LineAssembler$Parser", name := "readLoad", desc := "()I" } : Jvm.MethodName) prog_9_method_15_code (3 : Nat) (Option.some Jvm.ClassFile.FieldType.int)) ∈ lw_gd := uc_5 (List.mem_of_getElem? (i := 25) (by decide +kernel)) (by decide +kernel)
theorem qc_1226 : (Jvm.Cond.methodLink "LineAssembler$Parser" (171 : Nat) ({ cls := "LineAssembler$Parser", name := "readRegister", desc := "(I)I" } : Jvm.MethodName)) ∈ lw_gd := uc_5 (List.mem_of_getElem? (i := 26) (by decide +kernel)) (by decide +kernel)
theorem qc_1228 : (Jvm.Cond.instanceMethod ({ cls := "LineAssembler$Parser", name := "readRegister", desc := "(I)I" } : Jvm.MethodName)) ∈ lw_gd := uc_5 (List.mem_of_getElem? (i := 28) (by decide +kernel)) (by decide +kernel)
theorem qc_1229 : (Jvm.Cond.code ({ cls := "LineAssembler$Parser", name := "readRegister", desc := "(I)I" } : Jvm.MethodName) prog_9_method_8_code (4 : Nat) (Option.some Jvm.ClassFile.FieldType.int)) ∈ lw_gd := uc_5 (List.mem_of_getElem? (i := 29) (by decide +kernel)) (by decide +kernel)
theorem qc_1230 : (Jvm.Cond.methodLink "LineAssembler$Parser" (131 : Nat) ({ cls := "LineAssembler$Parser", name := "isRegister", desc := "()Z" } : Jvm.MethodName)) ∈ lw_gd := uc_5 (List.mem_of_getElem? (i := 30) (by decide +kernel)) (by decide +kernel)
theorem qc_1232 : (Jvm.Cond.instanceMethod ({ cls := "LineAssembler$Parser", name := "isRegister", desc := "()Z" } : Jvm.MethodName)) ∈ lw_gd := uc_5 (List.mem_of_getElem? (i := 32) (by decide +kernel)) (by decide +kernel)
theorem qc_1233 : (Jvm.Cond.code ({ cls := "LineAssembler$Parser", name := "isRegister", desc := "()Z" } : Jvm.MethodName) prog_9_method_7_code (1 : Nat) (Option.some Jvm.ClassFile.FieldType.boolean)) ∈ lw_gd := uc_5 (List.mem_of_getElem? (i := 33) (by decide +kernel)) (by decide +kernel)
theorem qc_1234 : (Jvm.Cond.methodLink "LineAssembler$Parser" (192 : Nat) ({ cls := "LineAssembler$Fields", name := "registerBits", desc := "(II)I" } : Jvm.MethodName)) ∈ lw_gd := uc_5 (List.mem_of_getElem? (i := 34) (by decide +kernel)) (by decide +kernel)
theorem qc_1235 : (Jvm.Cond.static ({ cls := "LineAssembler$Fields", name := "registerBits", desc := "(II)I" } : Jvm.MethodName)) ∈ lw_gd := uc_5 (List.mem_of_getElem? (i := 35) (by decide +kernel)) (by decide +kernel)
theorem qc_1236 : (Jvm.Cond.code ({ cls := "LineAssembler$Fields", name := "registerBits", desc := "(II)I" } : Jvm.MethodName) prog_3_method_3_code (3 : Nat) (Option.some Jvm.ClassFile.FieldType.int)) ∈ lw_gd := uc_5 (List.mem_of_getElem? (i := 36) (by decide +kernel)) (by decide +kernel)
theorem qc_1237 : (Jvm.Cond.methodLink "LineAssembler$Parser" (218 : Nat) ({ cls := "LineAssembler$Parser", name := "addLoad", desc := "(II)V" } : Jvm.MethodName)) ∈ lw_gd := uc_5 (List.mem_of_getElem? (i := 37) (by decide +kernel)) (by decide +kernel)
theorem qc_1239 : (Jvm.Cond.instanceMethod ({ cls := "LineAssembler$Parser", name := "addLoad", desc := "(II)V" } : Jvm.MethodName)) ∈ lw_gd := uc_5 (List.mem_of_getElem? (i := 39) (by decide +kernel)) (by decide +kernel)
theorem qc_1240 : (Jvm.Cond.code ({ cls := "LineAssembler$Parser", name := "addLoad", desc := "(II)V" } : Jvm.MethodName) prog_9_method_16_code (4 : Nat) (Option.none : Option Jvm.ClassFile.FieldType)) ∈ lw_gd := uc_5 (List.mem_of_getElem? (i := 40) (by decide +kernel)) (by decide +kernel)
theorem qc_1241 : (Jvm.Cond.methodLink "LineAssembler$Parser" (222 : Nat) ({ cls := "LineAssembler$Fields", name := "fits", desc := "(II)Z" } : Jvm.MethodName)) ∈ lw_gd := uc_5 (List.mem_of_getElem? (i := 41) (by decide +kernel)) (by decide +kernel)
theorem qc_1250 : (Jvm.Cond.methodLink "LineAssembler$Parser" (226 : Nat) ({ cls := "LineAssembler$Fields", name := "scatter", desc := "(II)I" } : Jvm.MethodName)) ∈ lw_gd := uc_5 (List.mem_of_getElem? (i := 50) (by decide +kernel)) (by decide +kernel)
theorem qc_1260 : (Jvm.Cond.methodLink "LineAssembler$Parser" (136 : Nat) ({ cls := "LineAssembler$Parser", name := "readShape", desc := "(Ljava/lang/String;I)I" } : Jvm.MethodName)) ∈ lw_gd := uc_5 (List.mem_of_getElem? (i := 60) (by decide +kernel)) (by decide +kernel)
theorem qc_1262 : (Jvm.Cond.instanceMethod ({ cls := "LineAssembler$Parser", name := "readShape", desc := "(Ljava/lang/String;I)I" } : Jvm.MethodName)) ∈ lw_gd := uc_5 (List.mem_of_getElem? (i := 62) (by decide +kernel)) (by decide +kernel)
theorem qc_1263 : (Jvm.Cond.code ({ cls := "LineAssembler$Parser", name := "readShape", desc := "(Ljava/lang/String;I)I" } : Jvm.MethodName) prog_9_method_6_code (9 : Nat) (Option.some Jvm.ClassFile.FieldType.int)) ∈ lw_gd := uc_5 (List.mem_of_getElem? (i := 63) (by decide +kernel)) (by decide +kernel)
theorem qc_1264 : (Jvm.Cond.methodLink "LineAssembler$Parser" (158 : Nat) ({ cls := "java/lang/String", name := "length", desc := "()I" } : Jvm.MethodName)) ∈ lw_gd := uc_5 (List.mem_of_getElem? (i := 64) (by decide +kernel)) (by decide +kernel)
theorem qc_1265 : (Jvm.Cond.methodLink "LineAssembler$Parser" (163 : Nat) ({ cls := "java/lang/String", name := "charAt", desc := "(I)C" } : Jvm.MethodName)) ∈ lw_gd := uc_5 (List.mem_of_getElem? (i := 65) (by decide +kernel)) (by decide +kernel)
theorem qc_1266 : (Jvm.Cond.methodLink "LineAssembler$Parser" (167 : Nat) ({ cls := "LineAssembler$Fields", name := "isRegister", desc := "(I)Z" } : Jvm.MethodName)) ∈ lw_gd := uc_5 (List.mem_of_getElem? (i := 66) (by decide +kernel)) (by decide +kernel)
theorem qc_1267 : (Jvm.Cond.static ({ cls := "LineAssembler$Fields", name := "isRegister", desc := "(I)Z" } : Jvm.MethodName)) ∈ lw_gd := uc_5 (List.mem_of_getElem? (i := 67) (by decide +kernel)) (by decide +kernel)
theorem qc_1268 : (Jvm.Cond.code ({ cls := "LineAssembler$Fields", name := "isRegister", desc := "(I)Z" } : Jvm.MethodName) prog_3_method_2_code (1 : Nat) (Option.some Jvm.ClassFile.FieldType.boolean)) ∈ lw_gd := uc_5 (List.mem_of_getElem? (i := 68) (by decide +kernel)) (by decide +kernel)
theorem qc_1316 : (Jvm.Cond.methodLink "LineAssembler$Parser" (177 : Nat) ({ cls := "LineAssembler$Fields", name := "firstLength", desc := "(II)I" } : Jvm.MethodName)) ∈ lw_gd := uc_5 (List.mem_of_getElem? (i := 116) (by decide +kernel)) (by decide +kernel)
theorem qc_1317 : (Jvm.Cond.static ({ cls := "LineAssembler$Fields", name := "firstLength", desc := "(II)I" } : Jvm.MethodName)) ∈ lw_gd := uc_5 (List.mem_of_getElem? (i := 117) (by decide +kernel)) (by decide +kernel)
theorem qc_1318 : (Jvm.Cond.code ({ cls := "LineAssembler$Fields", name := "firstLength", desc := "(II)I" } : Jvm.MethodName) prog_3_method_4_code (2 : Nat) (Option.some Jvm.ClassFile.FieldType.int)) ∈ lw_gd := uc_5 (List.mem_of_getElem? (i := 118) (by decide +kernel)) (by decide +kernel)
theorem qc_2197 : (Jvm.Cond.fieldLink "LineAssembler$Parser" (103 : Nat) "LineAssembler$Op" "role" "I") ∈ lw_gd := uc_9 (List.mem_of_getElem? (i := 37) (by decide +kernel)) (by decide +kernel)
theorem qc_2198 : (Jvm.Cond.fieldLink "LineAssembler$Parser" (113 : Nat) "LineAssembler$Op" "word" "I") ∈ lw_gd := uc_9 (List.mem_of_getElem? (i := 38) (by decide +kernel)) (by decide +kernel)
theorem qc_2199 : (Jvm.Cond.fieldLink "LineAssembler$Parser" (146 : Nat) "LineAssembler$Op" "shape" "Ljava/lang/String;") ∈ lw_gd := uc_9 (List.mem_of_getElem? (i := 39) (by decide +kernel)) (by decide +kernel)
abbrev cC_Par_isLabel : ByteArray := prog_9_method_3_code
def yC_Par_isLabel : MethodName := ⟨R_Par, "isLabel", "()Z"⟩
theorem dC_Par_isLabel_0 : decode cC_Par_isLabel 0 = .ok (.aload_n 0, 1) := by decide +kernel
theorem dC_Par_isLabel_1 : decode cC_Par_isLabel 1 = .ok (.getfield 15, 3) := by decide +kernel
theorem dC_Par_isLabel_4 : decode cC_Par_isLabel 4 = .ok (.iconst (0), 1) := by decide +kernel
theorem dC_Par_isLabel_5 : decode cC_Par_isLabel 5 = .ok (.invokevirtual 46, 3) := by decide +kernel
theorem dC_Par_isLabel_8 : decode cC_Par_isLabel 8 = .ok (.ifCond .eq (20), 3) := by decide +kernel
theorem dC_Par_isLabel_11 : decode cC_Par_isLabel 11 = .ok (.aload_n 0, 1) := by decide +kernel
theorem dC_Par_isLabel_12 : decode cC_Par_isLabel 12 = .ok (.getfield 15, 3) := by decide +kernel
theorem dC_Par_isLabel_15 : decode cC_Par_isLabel 15 = .ok (.iconst (1), 1) := by decide +kernel
theorem dC_Par_isLabel_16 : decode cC_Par_isLabel 16 = .ok (.invokevirtual 46, 3) := by decide +kernel
theorem dC_Par_isLabel_19 : decode cC_Par_isLabel 19 = .ok (.bipush (58), 2) := by decide +kernel
theorem dC_Par_isLabel_21 : decode cC_Par_isLabel 21 = .ok (.if_icmp .ne (7), 3) := by decide +kernel
theorem dC_Par_isLabel_24 : decode cC_Par_isLabel 24 = .ok (.iconst (1), 1) := by decide +kernel
theorem dC_Par_isLabel_25 : decode cC_Par_isLabel 25 = .ok (.goto (4), 3) := by decide +kernel
theorem dC_Par_isLabel_28 : decode cC_Par_isLabel 28 = .ok (.iconst (0), 1) := by decide +kernel
theorem dC_Par_isLabel_29 : decode cC_Par_isLabel 29 = .ok (.ireturn, 1) := by decide +kernel
abbrev cC_Par_isRegister : ByteArray := prog_9_method_7_code
def yC_Par_isRegister : MethodName := ⟨R_Par, "isRegister", "()Z"⟩
theorem dC_Par_isRegister_0 : decode cC_Par_isRegister 0 = .ok (.aload_n 0, 1) := by decide +kernel
theorem dC_Par_isRegister_1 : decode cC_Par_isRegister 1 = .ok (.getfield 15, 3) := by decide +kernel
theorem dC_Par_isRegister_4 : decode cC_Par_isRegister 4 = .ok (.iconst (0), 1) := by decide +kernel
theorem dC_Par_isRegister_5 : decode cC_Par_isRegister 5 = .ok (.invokevirtual 46, 3) := by decide +kernel
theorem dC_Par_isRegister_8 : decode cC_Par_isRegister 8 = .ok (.iconst (2), 1) := by decide +kernel
theorem dC_Par_isRegister_9 : decode cC_Par_isRegister 9 = .ok (.if_icmp .ne (28), 3) := by decide +kernel
theorem dC_Par_isRegister_12 : decode cC_Par_isRegister 12 = .ok (.aload_n 0, 1) := by decide +kernel
theorem dC_Par_isRegister_13 : decode cC_Par_isRegister 13 = .ok (.getfield 9, 3) := by decide +kernel
theorem dC_Par_isRegister_16 : decode cC_Par_isRegister 16 = .ok (.getfield 189, 3) := by decide +kernel
theorem dC_Par_isRegister_19 : decode cC_Par_isRegister 19 = .ok (.aload_n 0, 1) := by decide +kernel
theorem dC_Par_isRegister_20 : decode cC_Par_isRegister 20 = .ok (.getfield 15, 3) := by decide +kernel
theorem dC_Par_isRegister_23 : decode cC_Par_isRegister 23 = .ok (.iconst (0), 1) := by decide +kernel
theorem dC_Par_isRegister_24 : decode cC_Par_isRegister 24 = .ok (.invokevirtual 57, 3) := by decide +kernel
theorem dC_Par_isRegister_27 : decode cC_Par_isRegister 27 = .ok (.invokevirtual 91, 3) := by decide +kernel
theorem dC_Par_isRegister_30 : decode cC_Par_isRegister 30 = .ok (.ifCond .le (7), 3) := by decide +kernel
theorem dC_Par_isRegister_33 : decode cC_Par_isRegister 33 = .ok (.iconst (1), 1) := by decide +kernel
theorem dC_Par_isRegister_34 : decode cC_Par_isRegister 34 = .ok (.goto (4), 3) := by decide +kernel
theorem dC_Par_isRegister_37 : decode cC_Par_isRegister 37 = .ok (.iconst (0), 1) := by decide +kernel
theorem dC_Par_isRegister_38 : decode cC_Par_isRegister 38 = .ok (.ireturn, 1) := by decide +kernel
abbrev cC_Par_readRegister : ByteArray := prog_9_method_8_code
def yC_Par_readRegister : MethodName := ⟨R_Par, "readRegister", "(I)I"⟩
theorem dC_Par_readRegister_0 : decode cC_Par_readRegister 0 = .ok (.aload_n 0, 1) := by decide +kernel
theorem dC_Par_readRegister_1 : decode cC_Par_readRegister 1 = .ok (.getfield 15, 3) := by decide +kernel
theorem dC_Par_readRegister_4 : decode cC_Par_readRegister 4 = .ok (.iconst (0), 1) := by decide +kernel
theorem dC_Par_readRegister_5 : decode cC_Par_readRegister 5 = .ok (.invokevirtual 46, 3) := by decide +kernel
theorem dC_Par_readRegister_8 : decode cC_Par_readRegister 8 = .ok (.istore_n 2, 1) := by decide +kernel
theorem dC_Par_readRegister_9 : decode cC_Par_readRegister 9 = .ok (.iload_n 2, 1) := by decide +kernel
theorem dC_Par_readRegister_10 : decode cC_Par_readRegister 10 = .ok (.ifCond .eq (8), 3) := by decide +kernel
theorem dC_Par_readRegister_13 : decode cC_Par_readRegister 13 = .ok (.iload_n 2, 1) := by decide +kernel
theorem dC_Par_readRegister_14 : decode cC_Par_readRegister 14 = .ok (.iconst (1), 1) := by decide +kernel
theorem dC_Par_readRegister_15 : decode cC_Par_readRegister 15 = .ok (.if_icmp .ne (5), 3) := by decide +kernel
theorem dC_Par_readRegister_18 : decode cC_Par_readRegister 18 = .ok (.iconst (-1), 1) := by decide +kernel
theorem dC_Par_readRegister_19 : decode cC_Par_readRegister 19 = .ok (.ireturn, 1) := by decide +kernel
theorem dC_Par_readRegister_20 : decode cC_Par_readRegister 20 = .ok (.aload_n 0, 1) := by decide +kernel
theorem dC_Par_readRegister_21 : decode cC_Par_readRegister 21 = .ok (.invokevirtual 131, 3) := by decide +kernel
theorem dC_Par_readRegister_24 : decode cC_Par_readRegister 24 = .ok (.ifCond .eq (30), 3) := by decide +kernel
theorem dC_Par_readRegister_27 : decode cC_Par_readRegister 27 = .ok (.iload_n 1, 1) := by decide +kernel
theorem dC_Par_readRegister_28 : decode cC_Par_readRegister 28 = .ok (.aload_n 0, 1) := by decide +kernel
theorem dC_Par_readRegister_29 : decode cC_Par_readRegister 29 = .ok (.getfield 9, 3) := by decide +kernel
theorem dC_Par_readRegister_32 : decode cC_Par_readRegister 32 = .ok (.getfield 189, 3) := by decide +kernel
theorem dC_Par_readRegister_35 : decode cC_Par_readRegister 35 = .ok (.aload_n 0, 1) := by decide +kernel
theorem dC_Par_readRegister_36 : decode cC_Par_readRegister 36 = .ok (.getfield 15, 3) := by decide +kernel
theorem dC_Par_readRegister_39 : decode cC_Par_readRegister 39 = .ok (.iconst (0), 1) := by decide +kernel
theorem dC_Par_readRegister_40 : decode cC_Par_readRegister 40 = .ok (.invokevirtual 57, 3) := by decide +kernel
theorem dC_Par_readRegister_43 : decode cC_Par_readRegister 43 = .ok (.invokevirtual 91, 3) := by decide +kernel
theorem dC_Par_readRegister_46 : decode cC_Par_readRegister 46 = .ok (.iconst (1), 1) := by decide +kernel
theorem dC_Par_readRegister_47 : decode cC_Par_readRegister 47 = .ok (.isub, 1) := by decide +kernel
theorem dC_Par_readRegister_48 : decode cC_Par_readRegister 48 = .ok (.invokestatic 192, 3) := by decide +kernel
theorem dC_Par_readRegister_51 : decode cC_Par_readRegister 51 = .ok (.goto (4), 3) := by decide +kernel
theorem dC_Par_readRegister_54 : decode cC_Par_readRegister 54 = .ok (.iconst (-1), 1) := by decide +kernel
theorem dC_Par_readRegister_55 : decode cC_Par_readRegister 55 = .ok (.istore_n 3, 1) := by decide +kernel
theorem dC_Par_readRegister_56 : decode cC_Par_readRegister 56 = .ok (.iload_n 3, 1) := by decide +kernel
theorem dC_Par_readRegister_57 : decode cC_Par_readRegister 57 = .ok (.ifCond .ge (6), 3) := by decide +kernel
theorem dC_Par_readRegister_60 : decode cC_Par_readRegister 60 = .ok (.bipush (-3), 2) := by decide +kernel
theorem dC_Par_readRegister_62 : decode cC_Par_readRegister 62 = .ok (.ireturn, 1) := by decide +kernel
theorem dC_Par_readRegister_63 : decode cC_Par_readRegister 63 = .ok (.aload_n 0, 1) := by decide +kernel
theorem dC_Par_readRegister_64 : decode cC_Par_readRegister 64 = .ok (.getfield 15, 3) := by decide +kernel
theorem dC_Par_readRegister_67 : decode cC_Par_readRegister 67 = .ok (.iconst (1), 1) := by decide +kernel
theorem dC_Par_readRegister_68 : decode cC_Par_readRegister 68 = .ok (.invokevirtual 53, 3) := by decide +kernel
theorem dC_Par_readRegister_71 : decode cC_Par_readRegister 71 = .ok (.iload_n 3, 1) := by decide +kernel
theorem dC_Par_readRegister_72 : decode cC_Par_readRegister 72 = .ok (.ireturn, 1) := by decide +kernel
abbrev cC_Par_readFixed : ByteArray := prog_9_method_9_code
def yC_Par_readFixed : MethodName := ⟨R_Par, "readFixed", "(II)I"⟩
theorem dC_Par_readFixed_0 : decode cC_Par_readFixed 0 = .ok (.aload_n 0, 1) := by decide +kernel
theorem dC_Par_readFixed_1 : decode cC_Par_readFixed 1 = .ok (.getfield 23, 3) := by decide +kernel
theorem dC_Par_readFixed_4 : decode cC_Par_readFixed 4 = .ok (.invokevirtual 153, 3) := by decide +kernel
theorem dC_Par_readFixed_7 : decode cC_Par_readFixed 7 = .ok (.istore_n 3, 1) := by decide +kernel
theorem dC_Par_readFixed_8 : decode cC_Par_readFixed 8 = .ok (.aload_n 0, 1) := by decide +kernel
theorem dC_Par_readFixed_9 : decode cC_Par_readFixed 9 = .ok (.getfield 23, 3) := by decide +kernel
theorem dC_Par_readFixed_12 : decode cC_Par_readFixed 12 = .ok (.invokevirtual 174, 3) := by decide +kernel
theorem dC_Par_readFixed_15 : decode cC_Par_readFixed 15 = .ok (.ifCond .ne (5), 3) := by decide +kernel
theorem dC_Par_readFixed_18 : decode cC_Par_readFixed 18 = .ok (.iconst (1), 1) := by decide +kernel
theorem dC_Par_readFixed_19 : decode cC_Par_readFixed 19 = .ok (.ireturn, 1) := by decide +kernel
theorem dC_Par_readFixed_20 : decode cC_Par_readFixed 20 = .ok (.aload_n 0, 1) := by decide +kernel
theorem dC_Par_readFixed_21 : decode cC_Par_readFixed 21 = .ok (.getfield 23, 3) := by decide +kernel
theorem dC_Par_readFixed_24 : decode cC_Par_readFixed 24 = .ok (.getfield 195, 3) := by decide +kernel
theorem dC_Par_readFixed_27 : decode cC_Par_readFixed 27 = .ok (.ifCond .ne (5), 3) := by decide +kernel
theorem dC_Par_readFixed_30 : decode cC_Par_readFixed 30 = .ok (.iconst (5), 1) := by decide +kernel
theorem dC_Par_readFixed_31 : decode cC_Par_readFixed 31 = .ok (.ireturn, 1) := by decide +kernel
theorem dC_Par_readFixed_32 : decode cC_Par_readFixed 32 = .ok (.aload_n 0, 1) := by decide +kernel
theorem dC_Par_readFixed_33 : decode cC_Par_readFixed 33 = .ok (.getfield 23, 3) := by decide +kernel
theorem dC_Par_readFixed_36 : decode cC_Par_readFixed 36 = .ok (.iload_n 3, 1) := by decide +kernel
theorem dC_Par_readFixed_37 : decode cC_Par_readFixed 37 = .ok (.aload_n 0, 1) := by decide +kernel
theorem dC_Par_readFixed_38 : decode cC_Par_readFixed 38 = .ok (.getfield 23, 3) := by decide +kernel
theorem dC_Par_readFixed_41 : decode cC_Par_readFixed 41 = .ok (.invokevirtual 153, 3) := by decide +kernel
theorem dC_Par_readFixed_44 : decode cC_Par_readFixed 44 = .ok (.aload_n 0, 1) := by decide +kernel
theorem dC_Par_readFixed_45 : decode cC_Par_readFixed 45 = .ok (.getfield 19, 3) := by decide +kernel
theorem dC_Par_readFixed_48 : decode cC_Par_readFixed 48 = .ok (.getfield 100, 3) := by decide +kernel
theorem dC_Par_readFixed_51 : decode cC_Par_readFixed 51 = .ok (.invokevirtual 198, 3) := by decide +kernel
theorem dC_Par_readFixed_54 : decode cC_Par_readFixed 54 = .ok (.istore 4, 2) := by decide +kernel
theorem dC_Par_readFixed_56 : decode cC_Par_readFixed 56 = .ok (.aload_n 0, 1) := by decide +kernel
theorem dC_Par_readFixed_57 : decode cC_Par_readFixed 57 = .ok (.getfield 23, 3) := by decide +kernel
theorem dC_Par_readFixed_60 : decode cC_Par_readFixed 60 = .ok (.iload_n 3, 1) := by decide +kernel
theorem dC_Par_readFixed_61 : decode cC_Par_readFixed 61 = .ok (.invokevirtual 202, 3) := by decide +kernel
theorem dC_Par_readFixed_64 : decode cC_Par_readFixed 64 = .ok (.iload 4, 2) := by decide +kernel
theorem dC_Par_readFixed_66 : decode cC_Par_readFixed 66 = .ok (.ifCond .ne (28), 3) := by decide +kernel
theorem dC_Par_readFixed_69 : decode cC_Par_readFixed 69 = .ok (.aload_n 0, 1) := by decide +kernel
theorem dC_Par_readFixed_70 : decode cC_Par_readFixed 70 = .ok (.getfield 23, 3) := by decide +kernel
theorem dC_Par_readFixed_73 : decode cC_Par_readFixed 73 = .ok (.getfield 205, 3) := by decide +kernel
theorem dC_Par_readFixed_76 : decode cC_Par_readFixed 76 = .ok (.iload_n 1, 1) := by decide +kernel
theorem dC_Par_readFixed_77 : decode cC_Par_readFixed 77 = .ok (.if_icmp .lt (14), 3) := by decide +kernel
theorem dC_Par_readFixed_80 : decode cC_Par_readFixed 80 = .ok (.aload_n 0, 1) := by decide +kernel
theorem dC_Par_readFixed_81 : decode cC_Par_readFixed 81 = .ok (.getfield 23, 3) := by decide +kernel
theorem dC_Par_readFixed_84 : decode cC_Par_readFixed 84 = .ok (.getfield 205, 3) := by decide +kernel
theorem dC_Par_readFixed_87 : decode cC_Par_readFixed 87 = .ok (.iload_n 2, 1) := by decide +kernel
theorem dC_Par_readFixed_88 : decode cC_Par_readFixed 88 = .ok (.if_icmp .le (6), 3) := by decide +kernel
theorem dC_Par_readFixed_91 : decode cC_Par_readFixed 91 = .ok (.bipush (6), 2) := by decide +kernel
theorem dC_Par_readFixed_93 : decode cC_Par_readFixed 93 = .ok (.ireturn, 1) := by decide +kernel
theorem dC_Par_readFixed_94 : decode cC_Par_readFixed 94 = .ok (.iload 4, 2) := by decide +kernel
theorem dC_Par_readFixed_96 : decode cC_Par_readFixed 96 = .ok (.ireturn, 1) := by decide +kernel
abbrev cC_Par_readEquate : ByteArray := prog_9_method_10_code
def yC_Par_readEquate : MethodName := ⟨R_Par, "readEquate", "()I"⟩
theorem dC_Par_readEquate_0 : decode cC_Par_readEquate 0 = .ok (.aload_n 0, 1) := by decide +kernel
theorem dC_Par_readEquate_1 : decode cC_Par_readEquate 1 = .ok (.getfield 15, 3) := by decide +kernel
theorem dC_Par_readEquate_4 : decode cC_Par_readEquate 4 = .ok (.iconst (0), 1) := by decide +kernel
theorem dC_Par_readEquate_5 : decode cC_Par_readEquate 5 = .ok (.invokevirtual 46, 3) := by decide +kernel
theorem dC_Par_readEquate_8 : decode cC_Par_readEquate 8 = .ok (.iconst (2), 1) := by decide +kernel
theorem dC_Par_readEquate_9 : decode cC_Par_readEquate 9 = .ok (.if_icmp .eq (5), 3) := by decide +kernel
theorem dC_Par_readEquate_12 : decode cC_Par_readEquate 12 = .ok (.iconst (1), 1) := by decide +kernel
theorem dC_Par_readEquate_13 : decode cC_Par_readEquate 13 = .ok (.ireturn, 1) := by decide +kernel
theorem dC_Par_readEquate_14 : decode cC_Par_readEquate 14 = .ok (.aload_n 0, 1) := by decide +kernel
theorem dC_Par_readEquate_15 : decode cC_Par_readEquate 15 = .ok (.getfield 15, 3) := by decide +kernel
theorem dC_Par_readEquate_18 : decode cC_Par_readEquate 18 = .ok (.iconst (0), 1) := by decide +kernel
theorem dC_Par_readEquate_19 : decode cC_Par_readEquate 19 = .ok (.invokevirtual 57, 3) := by decide +kernel
theorem dC_Par_readEquate_22 : decode cC_Par_readEquate 22 = .ok (.istore_n 1, 1) := by decide +kernel
theorem dC_Par_readEquate_23 : decode cC_Par_readEquate 23 = .ok (.aload_n 0, 1) := by decide +kernel
theorem dC_Par_readEquate_24 : decode cC_Par_readEquate 24 = .ok (.getfield 9, 3) := by decide +kernel
theorem dC_Par_readEquate_27 : decode cC_Par_readEquate 27 = .ok (.iload_n 1, 1) := by decide +kernel
theorem dC_Par_readEquate_28 : decode cC_Par_readEquate 28 = .ok (.invokevirtual 63, 3) := by decide +kernel
theorem dC_Par_readEquate_31 : decode cC_Par_readEquate 31 = .ok (.ifCond .ne (5), 3) := by decide +kernel
theorem dC_Par_readEquate_34 : decode cC_Par_readEquate 34 = .ok (.iconst (4), 1) := by decide +kernel
theorem dC_Par_readEquate_35 : decode cC_Par_readEquate 35 = .ok (.ireturn, 1) := by decide +kernel
theorem dC_Par_readEquate_36 : decode cC_Par_readEquate 36 = .ok (.aload_n 0, 1) := by decide +kernel
theorem dC_Par_readEquate_37 : decode cC_Par_readEquate 37 = .ok (.getfield 15, 3) := by decide +kernel
theorem dC_Par_readEquate_40 : decode cC_Par_readEquate 40 = .ok (.iconst (1), 1) := by decide +kernel
theorem dC_Par_readEquate_41 : decode cC_Par_readEquate 41 = .ok (.invokevirtual 46, 3) := by decide +kernel
theorem dC_Par_readEquate_44 : decode cC_Par_readEquate 44 = .ok (.bipush (44), 2) := by decide +kernel
theorem dC_Par_readEquate_46 : decode cC_Par_readEquate 46 = .ok (.if_icmp .eq (5), 3) := by decide +kernel
theorem dC_Par_readEquate_49 : decode cC_Par_readEquate 49 = .ok (.iconst (1), 1) := by decide +kernel
theorem dC_Par_readEquate_50 : decode cC_Par_readEquate 50 = .ok (.ireturn, 1) := by decide +kernel
theorem dC_Par_readEquate_51 : decode cC_Par_readEquate 51 = .ok (.aload_n 0, 1) := by decide +kernel
theorem dC_Par_readEquate_52 : decode cC_Par_readEquate 52 = .ok (.getfield 15, 3) := by decide +kernel
theorem dC_Par_readEquate_55 : decode cC_Par_readEquate 55 = .ok (.iconst (2), 1) := by decide +kernel
theorem dC_Par_readEquate_56 : decode cC_Par_readEquate 56 = .ok (.invokevirtual 53, 3) := by decide +kernel
theorem dC_Par_readEquate_59 : decode cC_Par_readEquate 59 = .ok (.aload_n 0, 1) := by decide +kernel
theorem dC_Par_readEquate_60 : decode cC_Par_readEquate 60 = .ok (.ldc 208, 2) := by decide +kernel
theorem dC_Par_readEquate_62 : decode cC_Par_readEquate 62 = .ok (.ldc 209, 2) := by decide +kernel
theorem dC_Par_readEquate_64 : decode cC_Par_readEquate 64 = .ok (.invokevirtual 210, 3) := by decide +kernel
theorem dC_Par_readEquate_67 : decode cC_Par_readEquate 67 = .ok (.istore_n 2, 1) := by decide +kernel
theorem dC_Par_readEquate_68 : decode cC_Par_readEquate 68 = .ok (.iload_n 2, 1) := by decide +kernel
theorem dC_Par_readEquate_69 : decode cC_Par_readEquate 69 = .ok (.ifCond .ne (32), 3) := by decide +kernel
theorem dC_Par_readEquate_72 : decode cC_Par_readEquate 72 = .ok (.aload_n 0, 1) := by decide +kernel
theorem dC_Par_readEquate_73 : decode cC_Par_readEquate 73 = .ok (.getfield 9, 3) := by decide +kernel
theorem dC_Par_readEquate_76 : decode cC_Par_readEquate 76 = .ok (.iload_n 1, 1) := by decide +kernel
theorem dC_Par_readEquate_77 : decode cC_Par_readEquate 77 = .ok (.iconst (2), 1) := by decide +kernel
theorem dC_Par_readEquate_78 : decode cC_Par_readEquate 78 = .ok (.aload_n 0, 1) := by decide +kernel
theorem dC_Par_readEquate_79 : decode cC_Par_readEquate 79 = .ok (.getfield 23, 3) := by decide +kernel
theorem dC_Par_readEquate_82 : decode cC_Par_readEquate 82 = .ok (.getfield 205, 3) := by decide +kernel
theorem dC_Par_readEquate_85 : decode cC_Par_readEquate 85 = .ok (.invokevirtual 72, 3) := by decide +kernel
theorem dC_Par_readEquate_88 : decode cC_Par_readEquate 88 = .ok (.aload_n 0, 1) := by decide +kernel
theorem dC_Par_readEquate_89 : decode cC_Par_readEquate 89 = .ok (.getfield 19, 3) := by decide +kernel
theorem dC_Par_readEquate_92 : decode cC_Par_readEquate 92 = .ok (.dup, 1) := by decide +kernel
theorem dC_Par_readEquate_93 : decode cC_Par_readEquate 93 = .ok (.getfield 213, 3) := by decide +kernel
theorem dC_Par_readEquate_96 : decode cC_Par_readEquate 96 = .ok (.iconst (1), 1) := by decide +kernel
theorem dC_Par_readEquate_97 : decode cC_Par_readEquate 97 = .ok (.iadd, 1) := by decide +kernel
theorem dC_Par_readEquate_98 : decode cC_Par_readEquate 98 = .ok (.putfield 213, 3) := by decide +kernel
theorem dC_Par_readEquate_101 : decode cC_Par_readEquate 101 = .ok (.iload_n 2, 1) := by decide +kernel
theorem dC_Par_readEquate_102 : decode cC_Par_readEquate 102 = .ok (.ireturn, 1) := by decide +kernel
abbrev cC_Par_readNumbers : ByteArray := prog_9_method_11_code
def yC_Par_readNumbers : MethodName := ⟨R_Par, "readNumbers", "(I)I"⟩
theorem dC_Par_readNumbers_0 : decode cC_Par_readNumbers 0 = .ok (.iconst (1), 1) := by decide +kernel
theorem dC_Par_readNumbers_1 : decode cC_Par_readNumbers 1 = .ok (.istore_n 2, 1) := by decide +kernel
theorem dC_Par_readNumbers_2 : decode cC_Par_readNumbers 2 = .ok (.aload_n 0, 1) := by decide +kernel
theorem dC_Par_readNumbers_3 : decode cC_Par_readNumbers 3 = .ok (.getfield 15, 3) := by decide +kernel
theorem dC_Par_readNumbers_6 : decode cC_Par_readNumbers 6 = .ok (.invokevirtual 33, 3) := by decide +kernel
theorem dC_Par_readNumbers_9 : decode cC_Par_readNumbers 9 = .ok (.istore_n 3, 1) := by decide +kernel
theorem dC_Par_readNumbers_10 : decode cC_Par_readNumbers 10 = .ok (.iload_n 3, 1) := by decide +kernel
theorem dC_Par_readNumbers_11 : decode cC_Par_readNumbers 11 = .ok (.ifCond .le (97), 3) := by decide +kernel
theorem dC_Par_readNumbers_14 : decode cC_Par_readNumbers 14 = .ok (.iload_n 2, 1) := by decide +kernel
theorem dC_Par_readNumbers_15 : decode cC_Par_readNumbers 15 = .ok (.ifCond .eq (93), 3) := by decide +kernel
theorem dC_Par_readNumbers_18 : decode cC_Par_readNumbers 18 = .ok (.aload_n 0, 1) := by decide +kernel
theorem dC_Par_readNumbers_19 : decode cC_Par_readNumbers 19 = .ok (.getfield 23, 3) := by decide +kernel
theorem dC_Par_readNumbers_22 : decode cC_Par_readNumbers 22 = .ok (.invokevirtual 153, 3) := by decide +kernel
theorem dC_Par_readNumbers_25 : decode cC_Par_readNumbers 25 = .ok (.istore 4, 2) := by decide +kernel
theorem dC_Par_readNumbers_27 : decode cC_Par_readNumbers 27 = .ok (.aload_n 0, 1) := by decide +kernel
theorem dC_Par_readNumbers_28 : decode cC_Par_readNumbers 28 = .ok (.getfield 23, 3) := by decide +kernel
theorem dC_Par_readNumbers_31 : decode cC_Par_readNumbers 31 = .ok (.invokevirtual 174, 3) := by decide +kernel
theorem dC_Par_readNumbers_34 : decode cC_Par_readNumbers 34 = .ok (.ifCond .ne (5), 3) := by decide +kernel
theorem dC_Par_readNumbers_37 : decode cC_Par_readNumbers 37 = .ok (.iconst (1), 1) := by decide +kernel
theorem dC_Par_readNumbers_38 : decode cC_Par_readNumbers 38 = .ok (.ireturn, 1) := by decide +kernel
theorem dC_Par_readNumbers_39 : decode cC_Par_readNumbers 39 = .ok (.aload_n 0, 1) := by decide +kernel
theorem dC_Par_readNumbers_40 : decode cC_Par_readNumbers 40 = .ok (.getfield 19, 3) := by decide +kernel
theorem dC_Par_readNumbers_43 : decode cC_Par_readNumbers 43 = .ok (.bipush (61), 2) := by decide +kernel
theorem dC_Par_readNumbers_45 : decode cC_Par_readNumbers 45 = .ok (.iconst (0), 1) := by decide +kernel
theorem dC_Par_readNumbers_46 : decode cC_Par_readNumbers 46 = .ok (.iload_n 1, 1) := by decide +kernel
theorem dC_Par_readNumbers_47 : decode cC_Par_readNumbers 47 = .ok (.invokevirtual 85, 3) := by decide +kernel
theorem dC_Par_readNumbers_50 : decode cC_Par_readNumbers 50 = .ok (.astore 5, 2) := by decide +kernel
theorem dC_Par_readNumbers_52 : decode cC_Par_readNumbers 52 = .ok (.aload 5, 2) := by decide +kernel
theorem dC_Par_readNumbers_54 : decode cC_Par_readNumbers 54 = .ok (.iload 4, 2) := by decide +kernel
theorem dC_Par_readNumbers_56 : decode cC_Par_readNumbers 56 = .ok (.putfield 181, 3) := by decide +kernel
theorem dC_Par_readNumbers_59 : decode cC_Par_readNumbers 59 = .ok (.aload 5, 2) := by decide +kernel
theorem dC_Par_readNumbers_61 : decode cC_Par_readNumbers 61 = .ok (.aload_n 0, 1) := by decide +kernel
theorem dC_Par_readNumbers_62 : decode cC_Par_readNumbers 62 = .ok (.getfield 23, 3) := by decide +kernel
theorem dC_Par_readNumbers_65 : decode cC_Par_readNumbers 65 = .ok (.invokevirtual 153, 3) := by decide +kernel
theorem dC_Par_readNumbers_68 : decode cC_Par_readNumbers 68 = .ok (.putfield 186, 3) := by decide +kernel
theorem dC_Par_readNumbers_71 : decode cC_Par_readNumbers 71 = .ok (.aload_n 0, 1) := by decide +kernel
theorem dC_Par_readNumbers_72 : decode cC_Par_readNumbers 72 = .ok (.getfield 15, 3) := by decide +kernel
theorem dC_Par_readNumbers_75 : decode cC_Par_readNumbers 75 = .ok (.iconst (0), 1) := by decide +kernel
theorem dC_Par_readNumbers_76 : decode cC_Par_readNumbers 76 = .ok (.invokevirtual 46, 3) := by decide +kernel
theorem dC_Par_readNumbers_79 : decode cC_Par_readNumbers 79 = .ok (.bipush (44), 2) := by decide +kernel
theorem dC_Par_readNumbers_81 : decode cC_Par_readNumbers 81 = .ok (.if_icmp .ne (7), 3) := by decide +kernel
theorem dC_Par_readNumbers_84 : decode cC_Par_readNumbers 84 = .ok (.iconst (1), 1) := by decide +kernel
theorem dC_Par_readNumbers_85 : decode cC_Par_readNumbers 85 = .ok (.goto (4), 3) := by decide +kernel
theorem dC_Par_readNumbers_88 : decode cC_Par_readNumbers 88 = .ok (.iconst (0), 1) := by decide +kernel
theorem dC_Par_readNumbers_89 : decode cC_Par_readNumbers 89 = .ok (.istore_n 2, 1) := by decide +kernel
theorem dC_Par_readNumbers_90 : decode cC_Par_readNumbers 90 = .ok (.iload_n 2, 1) := by decide +kernel
theorem dC_Par_readNumbers_91 : decode cC_Par_readNumbers 91 = .ok (.ifCond .eq (11), 3) := by decide +kernel
theorem dC_Par_readNumbers_94 : decode cC_Par_readNumbers 94 = .ok (.aload_n 0, 1) := by decide +kernel
theorem dC_Par_readNumbers_95 : decode cC_Par_readNumbers 95 = .ok (.getfield 15, 3) := by decide +kernel
theorem dC_Par_readNumbers_98 : decode cC_Par_readNumbers 98 = .ok (.iconst (1), 1) := by decide +kernel
theorem dC_Par_readNumbers_99 : decode cC_Par_readNumbers 99 = .ok (.invokevirtual 53, 3) := by decide +kernel
theorem dC_Par_readNumbers_102 : decode cC_Par_readNumbers 102 = .ok (.iinc 3 (-1), 3) := by decide +kernel
theorem dC_Par_readNumbers_105 : decode cC_Par_readNumbers 105 = .ok (.goto (-95), 3) := by decide +kernel
theorem dC_Par_readNumbers_108 : decode cC_Par_readNumbers 108 = .ok (.iconst (0), 1) := by decide +kernel
theorem dC_Par_readNumbers_109 : decode cC_Par_readNumbers 109 = .ok (.ireturn, 1) := by decide +kernel
abbrev cC_Par_readStrings : ByteArray := prog_9_method_12_code
def yC_Par_readStrings : MethodName := ⟨R_Par, "readStrings", "(I)I"⟩
theorem dC_Par_readStrings_0 : decode cC_Par_readStrings 0 = .ok (.iconst (1), 1) := by decide +kernel
theorem dC_Par_readStrings_1 : decode cC_Par_readStrings 1 = .ok (.istore_n 2, 1) := by decide +kernel
theorem dC_Par_readStrings_2 : decode cC_Par_readStrings 2 = .ok (.aload_n 0, 1) := by decide +kernel
theorem dC_Par_readStrings_3 : decode cC_Par_readStrings 3 = .ok (.getfield 15, 3) := by decide +kernel
theorem dC_Par_readStrings_6 : decode cC_Par_readStrings 6 = .ok (.invokevirtual 33, 3) := by decide +kernel
theorem dC_Par_readStrings_9 : decode cC_Par_readStrings 9 = .ok (.istore_n 3, 1) := by decide +kernel
theorem dC_Par_readStrings_10 : decode cC_Par_readStrings 10 = .ok (.iload_n 3, 1) := by decide +kernel
theorem dC_Par_readStrings_11 : decode cC_Par_readStrings 11 = .ok (.ifCond .le (93), 3) := by decide +kernel
theorem dC_Par_readStrings_14 : decode cC_Par_readStrings 14 = .ok (.iload_n 2, 1) := by decide +kernel
theorem dC_Par_readStrings_15 : decode cC_Par_readStrings 15 = .ok (.ifCond .eq (89), 3) := by decide +kernel
theorem dC_Par_readStrings_18 : decode cC_Par_readStrings 18 = .ok (.aload_n 0, 1) := by decide +kernel
theorem dC_Par_readStrings_19 : decode cC_Par_readStrings 19 = .ok (.getfield 15, 3) := by decide +kernel
theorem dC_Par_readStrings_22 : decode cC_Par_readStrings 22 = .ok (.iconst (0), 1) := by decide +kernel
theorem dC_Par_readStrings_23 : decode cC_Par_readStrings 23 = .ok (.invokevirtual 46, 3) := by decide +kernel
theorem dC_Par_readStrings_26 : decode cC_Par_readStrings 26 = .ok (.bipush (6), 2) := by decide +kernel
theorem dC_Par_readStrings_28 : decode cC_Par_readStrings 28 = .ok (.if_icmp .eq (5), 3) := by decide +kernel
theorem dC_Par_readStrings_31 : decode cC_Par_readStrings 31 = .ok (.iconst (1), 1) := by decide +kernel
theorem dC_Par_readStrings_32 : decode cC_Par_readStrings 32 = .ok (.ireturn, 1) := by decide +kernel
theorem dC_Par_readStrings_33 : decode cC_Par_readStrings 33 = .ok (.aload_n 0, 1) := by decide +kernel
theorem dC_Par_readStrings_34 : decode cC_Par_readStrings 34 = .ok (.getfield 19, 3) := by decide +kernel
theorem dC_Par_readStrings_37 : decode cC_Par_readStrings 37 = .ok (.iconst (4), 1) := by decide +kernel
theorem dC_Par_readStrings_38 : decode cC_Par_readStrings 38 = .ok (.aload_n 0, 1) := by decide +kernel
theorem dC_Par_readStrings_39 : decode cC_Par_readStrings 39 = .ok (.getfield 15, 3) := by decide +kernel
theorem dC_Par_readStrings_42 : decode cC_Par_readStrings 42 = .ok (.iconst (0), 1) := by decide +kernel
theorem dC_Par_readStrings_43 : decode cC_Par_readStrings 43 = .ok (.invokevirtual 57, 3) := by decide +kernel
theorem dC_Par_readStrings_46 : decode cC_Par_readStrings 46 = .ok (.aload_n 0, 1) := by decide +kernel
theorem dC_Par_readStrings_47 : decode cC_Par_readStrings 47 = .ok (.getfield 15, 3) := by decide +kernel
theorem dC_Par_readStrings_50 : decode cC_Par_readStrings 50 = .ok (.invokevirtual 216, 3) := by decide +kernel
theorem dC_Par_readStrings_53 : decode cC_Par_readStrings 53 = .ok (.iload_n 1, 1) := by decide +kernel
theorem dC_Par_readStrings_54 : decode cC_Par_readStrings 54 = .ok (.iadd, 1) := by decide +kernel
theorem dC_Par_readStrings_55 : decode cC_Par_readStrings 55 = .ok (.invokevirtual 85, 3) := by decide +kernel
theorem dC_Par_readStrings_58 : decode cC_Par_readStrings 58 = .ok (.pop, 1) := by decide +kernel
theorem dC_Par_readStrings_59 : decode cC_Par_readStrings 59 = .ok (.aload_n 0, 1) := by decide +kernel
theorem dC_Par_readStrings_60 : decode cC_Par_readStrings 60 = .ok (.getfield 15, 3) := by decide +kernel
theorem dC_Par_readStrings_63 : decode cC_Par_readStrings 63 = .ok (.iconst (1), 1) := by decide +kernel
theorem dC_Par_readStrings_64 : decode cC_Par_readStrings 64 = .ok (.invokevirtual 53, 3) := by decide +kernel
theorem dC_Par_readStrings_67 : decode cC_Par_readStrings 67 = .ok (.aload_n 0, 1) := by decide +kernel
theorem dC_Par_readStrings_68 : decode cC_Par_readStrings 68 = .ok (.getfield 15, 3) := by decide +kernel
theorem dC_Par_readStrings_71 : decode cC_Par_readStrings 71 = .ok (.iconst (0), 1) := by decide +kernel
theorem dC_Par_readStrings_72 : decode cC_Par_readStrings 72 = .ok (.invokevirtual 46, 3) := by decide +kernel
theorem dC_Par_readStrings_75 : decode cC_Par_readStrings 75 = .ok (.bipush (44), 2) := by decide +kernel
theorem dC_Par_readStrings_77 : decode cC_Par_readStrings 77 = .ok (.if_icmp .ne (7), 3) := by decide +kernel
theorem dC_Par_readStrings_80 : decode cC_Par_readStrings 80 = .ok (.iconst (1), 1) := by decide +kernel
theorem dC_Par_readStrings_81 : decode cC_Par_readStrings 81 = .ok (.goto (4), 3) := by decide +kernel
theorem dC_Par_readStrings_84 : decode cC_Par_readStrings 84 = .ok (.iconst (0), 1) := by decide +kernel
theorem dC_Par_readStrings_85 : decode cC_Par_readStrings 85 = .ok (.istore_n 2, 1) := by decide +kernel
theorem dC_Par_readStrings_86 : decode cC_Par_readStrings 86 = .ok (.iload_n 2, 1) := by decide +kernel
theorem dC_Par_readStrings_87 : decode cC_Par_readStrings 87 = .ok (.ifCond .eq (11), 3) := by decide +kernel
theorem dC_Par_readStrings_90 : decode cC_Par_readStrings 90 = .ok (.aload_n 0, 1) := by decide +kernel
theorem dC_Par_readStrings_91 : decode cC_Par_readStrings 91 = .ok (.getfield 15, 3) := by decide +kernel
theorem dC_Par_readStrings_94 : decode cC_Par_readStrings 94 = .ok (.iconst (1), 1) := by decide +kernel
theorem dC_Par_readStrings_95 : decode cC_Par_readStrings 95 = .ok (.invokevirtual 53, 3) := by decide +kernel
theorem dC_Par_readStrings_98 : decode cC_Par_readStrings 98 = .ok (.iinc 3 (-1), 3) := by decide +kernel
theorem dC_Par_readStrings_101 : decode cC_Par_readStrings 101 = .ok (.goto (-91), 3) := by decide +kernel
theorem dC_Par_readStrings_104 : decode cC_Par_readStrings 104 = .ok (.iconst (0), 1) := by decide +kernel
theorem dC_Par_readStrings_105 : decode cC_Par_readStrings 105 = .ok (.ireturn, 1) := by decide +kernel
abbrev cC_Par_readSpace : ByteArray := prog_9_method_13_code
def yC_Par_readSpace : MethodName := ⟨R_Par, "readSpace", "()I"⟩
theorem dC_Par_readSpace_0 : decode cC_Par_readSpace 0 = .ok (.aload_n 0, 1) := by decide +kernel
theorem dC_Par_readSpace_1 : decode cC_Par_readSpace 1 = .ok (.iconst (0), 1) := by decide +kernel
theorem dC_Par_readSpace_2 : decode cC_Par_readSpace 2 = .ok (.ldc 217, 2) := by decide +kernel
theorem dC_Par_readSpace_4 : decode cC_Par_readSpace 4 = .ok (.invokevirtual 210, 3) := by decide +kernel
theorem dC_Par_readSpace_7 : decode cC_Par_readSpace 7 = .ok (.istore_n 1, 1) := by decide +kernel
theorem dC_Par_readSpace_8 : decode cC_Par_readSpace 8 = .ok (.iload_n 1, 1) := by decide +kernel
theorem dC_Par_readSpace_9 : decode cC_Par_readSpace 9 = .ok (.ifCond .ne (20), 3) := by decide +kernel
theorem dC_Par_readSpace_12 : decode cC_Par_readSpace 12 = .ok (.aload_n 0, 1) := by decide +kernel
theorem dC_Par_readSpace_13 : decode cC_Par_readSpace 13 = .ok (.getfield 19, 3) := by decide +kernel
theorem dC_Par_readSpace_16 : decode cC_Par_readSpace 16 = .ok (.iconst (2), 1) := by decide +kernel
theorem dC_Par_readSpace_17 : decode cC_Par_readSpace 17 = .ok (.iconst (0), 1) := by decide +kernel
theorem dC_Par_readSpace_18 : decode cC_Par_readSpace 18 = .ok (.aload_n 0, 1) := by decide +kernel
theorem dC_Par_readSpace_19 : decode cC_Par_readSpace 19 = .ok (.getfield 23, 3) := by decide +kernel
theorem dC_Par_readSpace_22 : decode cC_Par_readSpace 22 = .ok (.getfield 205, 3) := by decide +kernel
theorem dC_Par_readSpace_25 : decode cC_Par_readSpace 25 = .ok (.invokevirtual 85, 3) := by decide +kernel
theorem dC_Par_readSpace_28 : decode cC_Par_readSpace 28 = .ok (.pop, 1) := by decide +kernel
theorem dC_Par_readSpace_29 : decode cC_Par_readSpace 29 = .ok (.iload_n 1, 1) := by decide +kernel
theorem dC_Par_readSpace_30 : decode cC_Par_readSpace 30 = .ok (.ireturn, 1) := by decide +kernel
abbrev cC_Par_readAlign : ByteArray := prog_9_method_14_code
def yC_Par_readAlign : MethodName := ⟨R_Par, "readAlign", "()I"⟩
theorem dC_Par_readAlign_0 : decode cC_Par_readAlign 0 = .ok (.aload_n 0, 1) := by decide +kernel
theorem dC_Par_readAlign_1 : decode cC_Par_readAlign 1 = .ok (.iconst (0), 1) := by decide +kernel
theorem dC_Par_readAlign_2 : decode cC_Par_readAlign 2 = .ok (.bipush (10), 2) := by decide +kernel
theorem dC_Par_readAlign_4 : decode cC_Par_readAlign 4 = .ok (.invokevirtual 210, 3) := by decide +kernel
theorem dC_Par_readAlign_7 : decode cC_Par_readAlign 7 = .ok (.istore_n 1, 1) := by decide +kernel
theorem dC_Par_readAlign_8 : decode cC_Par_readAlign 8 = .ok (.iload_n 1, 1) := by decide +kernel
theorem dC_Par_readAlign_9 : decode cC_Par_readAlign 9 = .ok (.ifCond .ne (20), 3) := by decide +kernel
theorem dC_Par_readAlign_12 : decode cC_Par_readAlign 12 = .ok (.aload_n 0, 1) := by decide +kernel
theorem dC_Par_readAlign_13 : decode cC_Par_readAlign 13 = .ok (.getfield 19, 3) := by decide +kernel
theorem dC_Par_readAlign_16 : decode cC_Par_readAlign 16 = .ok (.iconst (3), 1) := by decide +kernel
theorem dC_Par_readAlign_17 : decode cC_Par_readAlign 17 = .ok (.aload_n 0, 1) := by decide +kernel
theorem dC_Par_readAlign_18 : decode cC_Par_readAlign 18 = .ok (.getfield 23, 3) := by decide +kernel
theorem dC_Par_readAlign_21 : decode cC_Par_readAlign 21 = .ok (.getfield 205, 3) := by decide +kernel
theorem dC_Par_readAlign_24 : decode cC_Par_readAlign 24 = .ok (.iconst (0), 1) := by decide +kernel
theorem dC_Par_readAlign_25 : decode cC_Par_readAlign 25 = .ok (.invokevirtual 85, 3) := by decide +kernel
theorem dC_Par_readAlign_28 : decode cC_Par_readAlign 28 = .ok (.pop, 1) := by decide +kernel
theorem dC_Par_readAlign_29 : decode cC_Par_readAlign 29 = .ok (.iload_n 1, 1) := by decide +kernel
theorem dC_Par_readAlign_30 : decode cC_Par_readAlign 30 = .ok (.ireturn, 1) := by decide +kernel
abbrev cC_Par_addLoad : ByteArray := prog_9_method_16_code
def yC_Par_addLoad : MethodName := ⟨R_Par, "addLoad", "(II)V"⟩
theorem dC_Par_addLoad_0 : decode cC_Par_addLoad 0 = .ok (.iload_n 2, 1) := by decide +kernel
theorem dC_Par_addLoad_1 : decode cC_Par_addLoad 1 = .ok (.bipush (20), 2) := by decide +kernel
theorem dC_Par_addLoad_3 : decode cC_Par_addLoad 3 = .ok (.ishl, 1) := by decide +kernel
theorem dC_Par_addLoad_4 : decode cC_Par_addLoad 4 = .ok (.istore_n 3, 1) := by decide +kernel
theorem dC_Par_addLoad_5 : decode cC_Par_addLoad 5 = .ok (.bipush (78), 2) := by decide +kernel
theorem dC_Par_addLoad_7 : decode cC_Par_addLoad 7 = .ok (.iload_n 2, 1) := by decide +kernel
theorem dC_Par_addLoad_8 : decode cC_Par_addLoad 8 = .ok (.invokestatic 222, 3) := by decide +kernel
theorem dC_Par_addLoad_11 : decode cC_Par_addLoad 11 = .ok (.ifCond .eq (32), 3) := by decide +kernel
theorem dC_Par_addLoad_14 : decode cC_Par_addLoad 14 = .ok (.iload_n 1, 1) := by decide +kernel
theorem dC_Par_addLoad_15 : decode cC_Par_addLoad 15 = .ok (.ifCond .eq (28), 3) := by decide +kernel
theorem dC_Par_addLoad_18 : decode cC_Par_addLoad 18 = .ok (.aload_n 0, 1) := by decide +kernel
theorem dC_Par_addLoad_19 : decode cC_Par_addLoad 19 = .ok (.getfield 19, 3) := by decide +kernel
theorem dC_Par_addLoad_22 : decode cC_Par_addLoad 22 = .ok (.iconst (0), 1) := by decide +kernel
theorem dC_Par_addLoad_23 : decode cC_Par_addLoad 23 = .ok (.sipush (16385), 3) := by decide +kernel
theorem dC_Par_addLoad_26 : decode cC_Par_addLoad 26 = .ok (.iload_n 1, 1) := by decide +kernel
theorem dC_Par_addLoad_27 : decode cC_Par_addLoad 27 = .ok (.ior, 1) := by decide +kernel
theorem dC_Par_addLoad_28 : decode cC_Par_addLoad 28 = .ok (.bipush (78), 2) := by decide +kernel
theorem dC_Par_addLoad_30 : decode cC_Par_addLoad 30 = .ok (.iload_n 2, 1) := by decide +kernel
theorem dC_Par_addLoad_31 : decode cC_Par_addLoad 31 = .ok (.invokestatic 226, 3) := by decide +kernel
theorem dC_Par_addLoad_34 : decode cC_Par_addLoad 34 = .ok (.ior, 1) := by decide +kernel
theorem dC_Par_addLoad_35 : decode cC_Par_addLoad 35 = .ok (.iconst (2), 1) := by decide +kernel
theorem dC_Par_addLoad_36 : decode cC_Par_addLoad 36 = .ok (.invokevirtual 85, 3) := by decide +kernel
theorem dC_Par_addLoad_39 : decode cC_Par_addLoad 39 = .ok (.pop, 1) := by decide +kernel
theorem dC_Par_addLoad_40 : decode cC_Par_addLoad 40 = .ok (.goto (82), 3) := by decide +kernel
theorem dC_Par_addLoad_43 : decode cC_Par_addLoad 43 = .ok (.bipush (105), 2) := by decide +kernel
theorem dC_Par_addLoad_45 : decode cC_Par_addLoad 45 = .ok (.iload_n 2, 1) := by decide +kernel
theorem dC_Par_addLoad_46 : decode cC_Par_addLoad 46 = .ok (.invokestatic 222, 3) := by decide +kernel
theorem dC_Par_addLoad_49 : decode cC_Par_addLoad 49 = .ok (.ifCond .eq (22), 3) := by decide +kernel
theorem dC_Par_addLoad_52 : decode cC_Par_addLoad 52 = .ok (.aload_n 0, 1) := by decide +kernel
theorem dC_Par_addLoad_53 : decode cC_Par_addLoad 53 = .ok (.getfield 19, 3) := by decide +kernel
theorem dC_Par_addLoad_56 : decode cC_Par_addLoad 56 = .ok (.iconst (0), 1) := by decide +kernel
theorem dC_Par_addLoad_57 : decode cC_Par_addLoad 57 = .ok (.bipush (19), 2) := by decide +kernel
theorem dC_Par_addLoad_59 : decode cC_Par_addLoad 59 = .ok (.iload_n 1, 1) := by decide +kernel
theorem dC_Par_addLoad_60 : decode cC_Par_addLoad 60 = .ok (.ior, 1) := by decide +kernel
theorem dC_Par_addLoad_61 : decode cC_Par_addLoad 61 = .ok (.iload_n 3, 1) := by decide +kernel
theorem dC_Par_addLoad_62 : decode cC_Par_addLoad 62 = .ok (.ior, 1) := by decide +kernel
theorem dC_Par_addLoad_63 : decode cC_Par_addLoad 63 = .ok (.iconst (4), 1) := by decide +kernel
theorem dC_Par_addLoad_64 : decode cC_Par_addLoad 64 = .ok (.invokevirtual 85, 3) := by decide +kernel
theorem dC_Par_addLoad_67 : decode cC_Par_addLoad 67 = .ok (.pop, 1) := by decide +kernel
theorem dC_Par_addLoad_68 : decode cC_Par_addLoad 68 = .ok (.goto (54), 3) := by decide +kernel
theorem dC_Par_addLoad_71 : decode cC_Par_addLoad 71 = .ok (.aload_n 0, 1) := by decide +kernel
theorem dC_Par_addLoad_72 : decode cC_Par_addLoad 72 = .ok (.getfield 19, 3) := by decide +kernel
theorem dC_Par_addLoad_75 : decode cC_Par_addLoad 75 = .ok (.iconst (0), 1) := by decide +kernel
theorem dC_Par_addLoad_76 : decode cC_Par_addLoad 76 = .ok (.bipush (55), 2) := by decide +kernel
theorem dC_Par_addLoad_78 : decode cC_Par_addLoad 78 = .ok (.iload_n 1, 1) := by decide +kernel
theorem dC_Par_addLoad_79 : decode cC_Par_addLoad 79 = .ok (.ior, 1) := by decide +kernel
theorem dC_Par_addLoad_80 : decode cC_Par_addLoad 80 = .ok (.iload_n 2, 1) := by decide +kernel
theorem dC_Par_addLoad_81 : decode cC_Par_addLoad 81 = .ok (.sipush (2048), 3) := by decide +kernel
theorem dC_Par_addLoad_84 : decode cC_Par_addLoad 84 = .ok (.iadd, 1) := by decide +kernel
theorem dC_Par_addLoad_85 : decode cC_Par_addLoad 85 = .ok (.bipush (12), 2) := by decide +kernel
theorem dC_Par_addLoad_87 : decode cC_Par_addLoad 87 = .ok (.iushr, 1) := by decide +kernel
theorem dC_Par_addLoad_88 : decode cC_Par_addLoad 88 = .ok (.bipush (12), 2) := by decide +kernel
theorem dC_Par_addLoad_90 : decode cC_Par_addLoad 90 = .ok (.ishl, 1) := by decide +kernel
theorem dC_Par_addLoad_91 : decode cC_Par_addLoad 91 = .ok (.ior, 1) := by decide +kernel
theorem dC_Par_addLoad_92 : decode cC_Par_addLoad 92 = .ok (.iconst (4), 1) := by decide +kernel
theorem dC_Par_addLoad_93 : decode cC_Par_addLoad 93 = .ok (.invokevirtual 85, 3) := by decide +kernel
theorem dC_Par_addLoad_96 : decode cC_Par_addLoad 96 = .ok (.pop, 1) := by decide +kernel
theorem dC_Par_addLoad_97 : decode cC_Par_addLoad 97 = .ok (.iload_n 3, 1) := by decide +kernel
theorem dC_Par_addLoad_98 : decode cC_Par_addLoad 98 = .ok (.ifCond .eq (24), 3) := by decide +kernel
theorem dC_Par_addLoad_101 : decode cC_Par_addLoad 101 = .ok (.aload_n 0, 1) := by decide +kernel
theorem dC_Par_addLoad_102 : decode cC_Par_addLoad 102 = .ok (.getfield 19, 3) := by decide +kernel
theorem dC_Par_addLoad_105 : decode cC_Par_addLoad 105 = .ok (.iconst (0), 1) := by decide +kernel
theorem dC_Par_addLoad_106 : decode cC_Par_addLoad 106 = .ok (.bipush (19), 2) := by decide +kernel
theorem dC_Par_addLoad_108 : decode cC_Par_addLoad 108 = .ok (.iload_n 1, 1) := by decide +kernel
theorem dC_Par_addLoad_109 : decode cC_Par_addLoad 109 = .ok (.ior, 1) := by decide +kernel
theorem dC_Par_addLoad_110 : decode cC_Par_addLoad 110 = .ok (.iload_n 1, 1) := by decide +kernel
theorem dC_Par_addLoad_111 : decode cC_Par_addLoad 111 = .ok (.bipush (8), 2) := by decide +kernel
theorem dC_Par_addLoad_113 : decode cC_Par_addLoad 113 = .ok (.ishl, 1) := by decide +kernel
theorem dC_Par_addLoad_114 : decode cC_Par_addLoad 114 = .ok (.ior, 1) := by decide +kernel
theorem dC_Par_addLoad_115 : decode cC_Par_addLoad 115 = .ok (.iload_n 3, 1) := by decide +kernel
theorem dC_Par_addLoad_116 : decode cC_Par_addLoad 116 = .ok (.ior, 1) := by decide +kernel
theorem dC_Par_addLoad_117 : decode cC_Par_addLoad 117 = .ok (.iconst (4), 1) := by decide +kernel
theorem dC_Par_addLoad_118 : decode cC_Par_addLoad 118 = .ok (.invokevirtual 85, 3) := by decide +kernel
theorem dC_Par_addLoad_121 : decode cC_Par_addLoad 121 = .ok (.pop, 1) := by decide +kernel
theorem dC_Par_addLoad_122 : decode cC_Par_addLoad 122 = .ok (.return_, 1) := by decide +kernel
abbrev cC_Par_readLoad : ByteArray := prog_9_method_15_code
def yC_Par_readLoad : MethodName := ⟨R_Par, "readLoad", "()I"⟩
theorem dC_Par_readLoad_0 : decode cC_Par_readLoad 0 = .ok (.aload_n 0, 1) := by decide +kernel
theorem dC_Par_readLoad_1 : decode cC_Par_readLoad 1 = .ok (.bipush (100), 2) := by decide +kernel
theorem dC_Par_readLoad_3 : decode cC_Par_readLoad 3 = .ok (.invokevirtual 171, 3) := by decide +kernel
theorem dC_Par_readLoad_6 : decode cC_Par_readLoad 6 = .ok (.istore_n 1, 1) := by decide +kernel
theorem dC_Par_readLoad_7 : decode cC_Par_readLoad 7 = .ok (.iload_n 1, 1) := by decide +kernel
theorem dC_Par_readLoad_8 : decode cC_Par_readLoad 8 = .ok (.ifCond .ge (6), 3) := by decide +kernel
theorem dC_Par_readLoad_11 : decode cC_Par_readLoad 11 = .ok (.iload_n 1, 1) := by decide +kernel
theorem dC_Par_readLoad_12 : decode cC_Par_readLoad 12 = .ok (.ineg, 1) := by decide +kernel
theorem dC_Par_readLoad_13 : decode cC_Par_readLoad 13 = .ok (.ireturn, 1) := by decide +kernel
theorem dC_Par_readLoad_14 : decode cC_Par_readLoad 14 = .ok (.aload_n 0, 1) := by decide +kernel
theorem dC_Par_readLoad_15 : decode cC_Par_readLoad 15 = .ok (.getfield 15, 3) := by decide +kernel
theorem dC_Par_readLoad_18 : decode cC_Par_readLoad 18 = .ok (.iconst (0), 1) := by decide +kernel
theorem dC_Par_readLoad_19 : decode cC_Par_readLoad 19 = .ok (.invokevirtual 46, 3) := by decide +kernel
theorem dC_Par_readLoad_22 : decode cC_Par_readLoad 22 = .ok (.bipush (44), 2) := by decide +kernel
theorem dC_Par_readLoad_24 : decode cC_Par_readLoad 24 = .ok (.if_icmp .eq (5), 3) := by decide +kernel
theorem dC_Par_readLoad_27 : decode cC_Par_readLoad 27 = .ok (.iconst (1), 1) := by decide +kernel
theorem dC_Par_readLoad_28 : decode cC_Par_readLoad 28 = .ok (.ireturn, 1) := by decide +kernel
theorem dC_Par_readLoad_29 : decode cC_Par_readLoad 29 = .ok (.aload_n 0, 1) := by decide +kernel
theorem dC_Par_readLoad_30 : decode cC_Par_readLoad 30 = .ok (.getfield 15, 3) := by decide +kernel
theorem dC_Par_readLoad_33 : decode cC_Par_readLoad 33 = .ok (.iconst (1), 1) := by decide +kernel
theorem dC_Par_readLoad_34 : decode cC_Par_readLoad 34 = .ok (.invokevirtual 53, 3) := by decide +kernel
theorem dC_Par_readLoad_37 : decode cC_Par_readLoad 37 = .ok (.aload_n 0, 1) := by decide +kernel
theorem dC_Par_readLoad_38 : decode cC_Par_readLoad 38 = .ok (.ldc 208, 2) := by decide +kernel
theorem dC_Par_readLoad_40 : decode cC_Par_readLoad 40 = .ok (.ldc 209, 2) := by decide +kernel
theorem dC_Par_readLoad_42 : decode cC_Par_readLoad 42 = .ok (.invokevirtual 210, 3) := by decide +kernel
theorem dC_Par_readLoad_45 : decode cC_Par_readLoad 45 = .ok (.istore_n 2, 1) := by decide +kernel
theorem dC_Par_readLoad_46 : decode cC_Par_readLoad 46 = .ok (.iload_n 2, 1) := by decide +kernel
theorem dC_Par_readLoad_47 : decode cC_Par_readLoad 47 = .ok (.ifCond .ne (15), 3) := by decide +kernel
theorem dC_Par_readLoad_50 : decode cC_Par_readLoad 50 = .ok (.aload_n 0, 1) := by decide +kernel
theorem dC_Par_readLoad_51 : decode cC_Par_readLoad 51 = .ok (.iload_n 1, 1) := by decide +kernel
theorem dC_Par_readLoad_52 : decode cC_Par_readLoad 52 = .ok (.aload_n 0, 1) := by decide +kernel
theorem dC_Par_readLoad_53 : decode cC_Par_readLoad 53 = .ok (.getfield 23, 3) := by decide +kernel
theorem dC_Par_readLoad_56 : decode cC_Par_readLoad 56 = .ok (.getfield 205, 3) := by decide +kernel
theorem dC_Par_readLoad_59 : decode cC_Par_readLoad 59 = .ok (.invokevirtual 218, 3) := by decide +kernel
theorem dC_Par_readLoad_62 : decode cC_Par_readLoad 62 = .ok (.iload_n 2, 1) := by decide +kernel
theorem dC_Par_readLoad_63 : decode cC_Par_readLoad 63 = .ok (.ireturn, 1) := by decide +kernel
abbrev cC_Par_readShape : ByteArray := prog_9_method_6_code
def yC_Par_readShape : MethodName := ⟨R_Par, "readShape", "(Ljava/lang/String;I)I"⟩
theorem dC_Par_readShape_0 : decode cC_Par_readShape 0 = .ok (.iload_n 2, 1) := by decide +kernel
theorem dC_Par_readShape_1 : decode cC_Par_readShape 1 = .ok (.istore_n 3, 1) := by decide +kernel
theorem dC_Par_readShape_2 : decode cC_Par_readShape 2 = .ok (.iconst (0), 1) := by decide +kernel
theorem dC_Par_readShape_3 : decode cC_Par_readShape 3 = .ok (.istore 4, 2) := by decide +kernel
theorem dC_Par_readShape_5 : decode cC_Par_readShape 5 = .ok (.aload_n 0, 1) := by decide +kernel
theorem dC_Par_readShape_6 : decode cC_Par_readShape 6 = .ok (.getfield 23, 3) := by decide +kernel
theorem dC_Par_readShape_9 : decode cC_Par_readShape 9 = .ok (.invokevirtual 153, 3) := by decide +kernel
theorem dC_Par_readShape_12 : decode cC_Par_readShape 12 = .ok (.istore 5, 2) := by decide +kernel
theorem dC_Par_readShape_14 : decode cC_Par_readShape 14 = .ok (.iconst (0), 1) := by decide +kernel
theorem dC_Par_readShape_15 : decode cC_Par_readShape 15 = .ok (.istore 6, 2) := by decide +kernel
theorem dC_Par_readShape_17 : decode cC_Par_readShape 17 = .ok (.iload 6, 2) := by decide +kernel
theorem dC_Par_readShape_19 : decode cC_Par_readShape 19 = .ok (.aload_n 1, 1) := by decide +kernel
theorem dC_Par_readShape_20 : decode cC_Par_readShape 20 = .ok (.invokevirtual 158, 3) := by decide +kernel
theorem dC_Par_readShape_23 : decode cC_Par_readShape 23 = .ok (.if_icmp .ge (113), 3) := by decide +kernel
theorem dC_Par_readShape_26 : decode cC_Par_readShape 26 = .ok (.aload_n 1, 1) := by decide +kernel
theorem dC_Par_readShape_27 : decode cC_Par_readShape 27 = .ok (.iload 6, 2) := by decide +kernel
theorem dC_Par_readShape_29 : decode cC_Par_readShape 29 = .ok (.invokevirtual 163, 3) := by decide +kernel
theorem dC_Par_readShape_32 : decode cC_Par_readShape 32 = .ok (.istore 7, 2) := by decide +kernel
theorem dC_Par_readShape_34 : decode cC_Par_readShape 34 = .ok (.iload 7, 2) := by decide +kernel
theorem dC_Par_readShape_36 : decode cC_Par_readShape 36 = .ok (.bipush (44), 2) := by decide +kernel
theorem dC_Par_readShape_38 : decode cC_Par_readShape 38 = .ok (.if_icmp .eq (17), 3) := by decide +kernel
theorem dC_Par_readShape_41 : decode cC_Par_readShape 41 = .ok (.iload 7, 2) := by decide +kernel
theorem dC_Par_readShape_43 : decode cC_Par_readShape 43 = .ok (.bipush (40), 2) := by decide +kernel
theorem dC_Par_readShape_45 : decode cC_Par_readShape 45 = .ok (.if_icmp .eq (10), 3) := by decide +kernel
theorem dC_Par_readShape_48 : decode cC_Par_readShape 48 = .ok (.iload 7, 2) := by decide +kernel
theorem dC_Par_readShape_50 : decode cC_Par_readShape 50 = .ok (.bipush (41), 2) := by decide +kernel
theorem dC_Par_readShape_52 : decode cC_Par_readShape 52 = .ok (.if_icmp .ne (29), 3) := by decide +kernel
theorem dC_Par_readShape_55 : decode cC_Par_readShape 55 = .ok (.aload_n 0, 1) := by decide +kernel
theorem dC_Par_readShape_56 : decode cC_Par_readShape 56 = .ok (.getfield 15, 3) := by decide +kernel
theorem dC_Par_readShape_59 : decode cC_Par_readShape 59 = .ok (.iconst (0), 1) := by decide +kernel
theorem dC_Par_readShape_60 : decode cC_Par_readShape 60 = .ok (.invokevirtual 46, 3) := by decide +kernel
theorem dC_Par_readShape_63 : decode cC_Par_readShape 63 = .ok (.iload 7, 2) := by decide +kernel
theorem dC_Par_readShape_65 : decode cC_Par_readShape 65 = .ok (.if_icmp .eq (5), 3) := by decide +kernel
theorem dC_Par_readShape_68 : decode cC_Par_readShape 68 = .ok (.iconst (1), 1) := by decide +kernel
theorem dC_Par_readShape_69 : decode cC_Par_readShape 69 = .ok (.ireturn, 1) := by decide +kernel
theorem dC_Par_readShape_70 : decode cC_Par_readShape 70 = .ok (.aload_n 0, 1) := by decide +kernel
theorem dC_Par_readShape_71 : decode cC_Par_readShape 71 = .ok (.getfield 15, 3) := by decide +kernel
theorem dC_Par_readShape_74 : decode cC_Par_readShape 74 = .ok (.iconst (1), 1) := by decide +kernel
theorem dC_Par_readShape_75 : decode cC_Par_readShape 75 = .ok (.invokevirtual 53, 3) := by decide +kernel
theorem dC_Par_readShape_78 : decode cC_Par_readShape 78 = .ok (.goto (52), 3) := by decide +kernel
theorem dC_Par_readShape_81 : decode cC_Par_readShape 81 = .ok (.iload 7, 2) := by decide +kernel
theorem dC_Par_readShape_83 : decode cC_Par_readShape 83 = .ok (.invokestatic 167, 3) := by decide +kernel
theorem dC_Par_readShape_86 : decode cC_Par_readShape 86 = .ok (.ifCond .eq (28), 3) := by decide +kernel
theorem dC_Par_readShape_89 : decode cC_Par_readShape 89 = .ok (.aload_n 0, 1) := by decide +kernel
theorem dC_Par_readShape_90 : decode cC_Par_readShape 90 = .ok (.iload 7, 2) := by decide +kernel
theorem dC_Par_readShape_92 : decode cC_Par_readShape 92 = .ok (.invokevirtual 171, 3) := by decide +kernel
theorem dC_Par_readShape_95 : decode cC_Par_readShape 95 = .ok (.istore 8, 2) := by decide +kernel
theorem dC_Par_readShape_97 : decode cC_Par_readShape 97 = .ok (.iload 8, 2) := by decide +kernel
theorem dC_Par_readShape_99 : decode cC_Par_readShape 99 = .ok (.ifCond .ge (7), 3) := by decide +kernel
theorem dC_Par_readShape_102 : decode cC_Par_readShape 102 = .ok (.iload 8, 2) := by decide +kernel
theorem dC_Par_readShape_104 : decode cC_Par_readShape 104 = .ok (.ineg, 1) := by decide +kernel
theorem dC_Par_readShape_105 : decode cC_Par_readShape 105 = .ok (.ireturn, 1) := by decide +kernel
theorem dC_Par_readShape_106 : decode cC_Par_readShape 106 = .ok (.iload_n 3, 1) := by decide +kernel
theorem dC_Par_readShape_107 : decode cC_Par_readShape 107 = .ok (.iload 8, 2) := by decide +kernel
theorem dC_Par_readShape_109 : decode cC_Par_readShape 109 = .ok (.ior, 1) := by decide +kernel
theorem dC_Par_readShape_110 : decode cC_Par_readShape 110 = .ok (.istore_n 3, 1) := by decide +kernel
theorem dC_Par_readShape_111 : decode cC_Par_readShape 111 = .ok (.goto (19), 3) := by decide +kernel
theorem dC_Par_readShape_114 : decode cC_Par_readShape 114 = .ok (.aload_n 0, 1) := by decide +kernel
theorem dC_Par_readShape_115 : decode cC_Par_readShape 115 = .ok (.getfield 23, 3) := by decide +kernel
theorem dC_Par_readShape_118 : decode cC_Par_readShape 118 = .ok (.invokevirtual 174, 3) := by decide +kernel
theorem dC_Par_readShape_121 : decode cC_Par_readShape 121 = .ok (.ifCond .ne (5), 3) := by decide +kernel
theorem dC_Par_readShape_124 : decode cC_Par_readShape 124 = .ok (.iconst (1), 1) := by decide +kernel
theorem dC_Par_readShape_125 : decode cC_Par_readShape 125 = .ok (.ireturn, 1) := by decide +kernel
theorem dC_Par_readShape_126 : decode cC_Par_readShape 126 = .ok (.iload 7, 2) := by decide +kernel
theorem dC_Par_readShape_128 : decode cC_Par_readShape 128 = .ok (.istore 4, 2) := by decide +kernel
theorem dC_Par_readShape_130 : decode cC_Par_readShape 130 = .ok (.iinc 6 (1), 3) := by decide +kernel
theorem dC_Par_readShape_133 : decode cC_Par_readShape 133 = .ok (.goto (-116), 3) := by decide +kernel
theorem dC_Par_readShape_136 : decode cC_Par_readShape 136 = .ok (.aload_n 0, 1) := by decide +kernel
theorem dC_Par_readShape_137 : decode cC_Par_readShape 137 = .ok (.getfield 19, 3) := by decide +kernel
theorem dC_Par_readShape_140 : decode cC_Par_readShape 140 = .ok (.iload 4, 2) := by decide +kernel
theorem dC_Par_readShape_142 : decode cC_Par_readShape 142 = .ok (.iload_n 3, 1) := by decide +kernel
theorem dC_Par_readShape_143 : decode cC_Par_readShape 143 = .ok (.iload 4, 2) := by decide +kernel
theorem dC_Par_readShape_145 : decode cC_Par_readShape 145 = .ok (.iload_n 3, 1) := by decide +kernel
theorem dC_Par_readShape_146 : decode cC_Par_readShape 146 = .ok (.invokestatic 177, 3) := by decide +kernel
theorem dC_Par_readShape_149 : decode cC_Par_readShape 149 = .ok (.invokevirtual 85, 3) := by decide +kernel
theorem dC_Par_readShape_152 : decode cC_Par_readShape 152 = .ok (.astore 6, 2) := by decide +kernel
theorem dC_Par_readShape_154 : decode cC_Par_readShape 154 = .ok (.aload 6, 2) := by decide +kernel
theorem dC_Par_readShape_156 : decode cC_Par_readShape 156 = .ok (.iload 5, 2) := by decide +kernel
theorem dC_Par_readShape_158 : decode cC_Par_readShape 158 = .ok (.putfield 181, 3) := by decide +kernel
theorem dC_Par_readShape_161 : decode cC_Par_readShape 161 = .ok (.aload 6, 2) := by decide +kernel
theorem dC_Par_readShape_163 : decode cC_Par_readShape 163 = .ok (.aload_n 0, 1) := by decide +kernel
theorem dC_Par_readShape_164 : decode cC_Par_readShape 164 = .ok (.getfield 23, 3) := by decide +kernel
theorem dC_Par_readShape_167 : decode cC_Par_readShape 167 = .ok (.invokevirtual 153, 3) := by decide +kernel
theorem dC_Par_readShape_170 : decode cC_Par_readShape 170 = .ok (.putfield 186, 3) := by decide +kernel
theorem dC_Par_readShape_173 : decode cC_Par_readShape 173 = .ok (.iconst (0), 1) := by decide +kernel
theorem dC_Par_readShape_174 : decode cC_Par_readShape 174 = .ok (.ireturn, 1) := by decide +kernel
abbrev cC_Par_readLabel : ByteArray := prog_9_method_4_code
def yC_Par_readLabel : MethodName := ⟨R_Par, "readLabel", "()I"⟩
theorem dC_Par_readLabel_0 : decode cC_Par_readLabel 0 = .ok (.aload_n 0, 1) := by decide +kernel
theorem dC_Par_readLabel_1 : decode cC_Par_readLabel 1 = .ok (.getfield 15, 3) := by decide +kernel
theorem dC_Par_readLabel_4 : decode cC_Par_readLabel 4 = .ok (.iconst (0), 1) := by decide +kernel
theorem dC_Par_readLabel_5 : decode cC_Par_readLabel 5 = .ok (.invokevirtual 46, 3) := by decide +kernel
theorem dC_Par_readLabel_8 : decode cC_Par_readLabel 8 = .ok (.istore_n 1, 1) := by decide +kernel
theorem dC_Par_readLabel_9 : decode cC_Par_readLabel 9 = .ok (.aload_n 0, 1) := by decide +kernel
theorem dC_Par_readLabel_10 : decode cC_Par_readLabel 10 = .ok (.getfield 15, 3) := by decide +kernel
theorem dC_Par_readLabel_13 : decode cC_Par_readLabel 13 = .ok (.iconst (0), 1) := by decide +kernel
theorem dC_Par_readLabel_14 : decode cC_Par_readLabel 14 = .ok (.invokevirtual 57, 3) := by decide +kernel
theorem dC_Par_readLabel_17 : decode cC_Par_readLabel 17 = .ok (.istore_n 2, 1) := by decide +kernel
theorem dC_Par_readLabel_18 : decode cC_Par_readLabel 18 = .ok (.iload_n 1, 1) := by decide +kernel
theorem dC_Par_readLabel_19 : decode cC_Par_readLabel 19 = .ok (.iconst (4), 1) := by decide +kernel
theorem dC_Par_readLabel_20 : decode cC_Par_readLabel 20 = .ok (.if_icmp .ne (14), 3) := by decide +kernel
theorem dC_Par_readLabel_23 : decode cC_Par_readLabel 23 = .ok (.aload_n 0, 1) := by decide +kernel
theorem dC_Par_readLabel_24 : decode cC_Par_readLabel 24 = .ok (.getfield 19, 3) := by decide +kernel
theorem dC_Par_readLabel_27 : decode cC_Par_readLabel 27 = .ok (.iload_n 2, 1) := by decide +kernel
theorem dC_Par_readLabel_28 : decode cC_Par_readLabel 28 = .ok (.invokevirtual 60, 3) := by decide +kernel
theorem dC_Par_readLabel_31 : decode cC_Par_readLabel 31 = .ok (.goto (67), 3) := by decide +kernel
theorem dC_Par_readLabel_34 : decode cC_Par_readLabel 34 = .ok (.iload_n 1, 1) := by decide +kernel
theorem dC_Par_readLabel_35 : decode cC_Par_readLabel 35 = .ok (.iconst (2), 1) := by decide +kernel
theorem dC_Par_readLabel_36 : decode cC_Par_readLabel 36 = .ok (.if_icmp .eq (5), 3) := by decide +kernel
theorem dC_Par_readLabel_39 : decode cC_Par_readLabel 39 = .ok (.iconst (1), 1) := by decide +kernel
theorem dC_Par_readLabel_40 : decode cC_Par_readLabel 40 = .ok (.ireturn, 1) := by decide +kernel
theorem dC_Par_readLabel_41 : decode cC_Par_readLabel 41 = .ok (.aload_n 0, 1) := by decide +kernel
theorem dC_Par_readLabel_42 : decode cC_Par_readLabel 42 = .ok (.getfield 9, 3) := by decide +kernel
theorem dC_Par_readLabel_45 : decode cC_Par_readLabel 45 = .ok (.iload_n 2, 1) := by decide +kernel
theorem dC_Par_readLabel_46 : decode cC_Par_readLabel 46 = .ok (.invokevirtual 63, 3) := by decide +kernel
theorem dC_Par_readLabel_49 : decode cC_Par_readLabel 49 = .ok (.ifCond .ne (5), 3) := by decide +kernel
theorem dC_Par_readLabel_52 : decode cC_Par_readLabel 52 = .ok (.iconst (4), 1) := by decide +kernel
theorem dC_Par_readLabel_53 : decode cC_Par_readLabel 53 = .ok (.ireturn, 1) := by decide +kernel
theorem dC_Par_readLabel_54 : decode cC_Par_readLabel 54 = .ok (.aload_n 0, 1) := by decide +kernel
theorem dC_Par_readLabel_55 : decode cC_Par_readLabel 55 = .ok (.getfield 9, 3) := by decide +kernel
theorem dC_Par_readLabel_58 : decode cC_Par_readLabel 58 = .ok (.iload_n 2, 1) := by decide +kernel
theorem dC_Par_readLabel_59 : decode cC_Par_readLabel 59 = .ok (.iconst (1), 1) := by decide +kernel
theorem dC_Par_readLabel_60 : decode cC_Par_readLabel 60 = .ok (.aload_n 0, 1) := by decide +kernel
theorem dC_Par_readLabel_61 : decode cC_Par_readLabel 61 = .ok (.getfield 19, 3) := by decide +kernel
theorem dC_Par_readLabel_64 : decode cC_Par_readLabel 64 = .ok (.getfield 69, 3) := by decide +kernel
theorem dC_Par_readLabel_67 : decode cC_Par_readLabel 67 = .ok (.invokevirtual 72, 3) := by decide +kernel
theorem dC_Par_readLabel_70 : decode cC_Par_readLabel 70 = .ok (.aload_n 0, 1) := by decide +kernel
theorem dC_Par_readLabel_71 : decode cC_Par_readLabel 71 = .ok (.getfield 19, 3) := by decide +kernel
theorem dC_Par_readLabel_74 : decode cC_Par_readLabel 74 = .ok (.getfield 76, 3) := by decide +kernel
theorem dC_Par_readLabel_77 : decode cC_Par_readLabel 77 = .ok (.aload_n 0, 1) := by decide +kernel
theorem dC_Par_readLabel_78 : decode cC_Par_readLabel 78 = .ok (.getfield 19, 3) := by decide +kernel
theorem dC_Par_readLabel_81 : decode cC_Par_readLabel 81 = .ok (.getfield 69, 3) := by decide +kernel
theorem dC_Par_readLabel_84 : decode cC_Par_readLabel 84 = .ok (.invokevirtual 80, 3) := by decide +kernel
theorem dC_Par_readLabel_87 : decode cC_Par_readLabel 87 = .ok (.aload_n 0, 1) := by decide +kernel
theorem dC_Par_readLabel_88 : decode cC_Par_readLabel 88 = .ok (.getfield 19, 3) := by decide +kernel
theorem dC_Par_readLabel_91 : decode cC_Par_readLabel 91 = .ok (.iconst (1), 1) := by decide +kernel
theorem dC_Par_readLabel_92 : decode cC_Par_readLabel 92 = .ok (.iload_n 2, 1) := by decide +kernel
theorem dC_Par_readLabel_93 : decode cC_Par_readLabel 93 = .ok (.iconst (0), 1) := by decide +kernel
theorem dC_Par_readLabel_94 : decode cC_Par_readLabel 94 = .ok (.invokevirtual 85, 3) := by decide +kernel
theorem dC_Par_readLabel_97 : decode cC_Par_readLabel 97 = .ok (.pop, 1) := by decide +kernel
theorem dC_Par_readLabel_98 : decode cC_Par_readLabel 98 = .ok (.aload_n 0, 1) := by decide +kernel
theorem dC_Par_readLabel_99 : decode cC_Par_readLabel 99 = .ok (.getfield 15, 3) := by decide +kernel
theorem dC_Par_readLabel_102 : decode cC_Par_readLabel 102 = .ok (.iconst (2), 1) := by decide +kernel
theorem dC_Par_readLabel_103 : decode cC_Par_readLabel 103 = .ok (.invokevirtual 53, 3) := by decide +kernel
theorem dC_Par_readLabel_106 : decode cC_Par_readLabel 106 = .ok (.iconst (0), 1) := by decide +kernel
theorem dC_Par_readLabel_107 : decode cC_Par_readLabel 107 = .ok (.ireturn, 1) := by decide +kernel
abbrev cC_Par_readStatement : ByteArray := prog_9_method_5_code
def yC_Par_readStatement : MethodName := ⟨R_Par, "readStatement", "()I"⟩
theorem dC_Par_readStatement_0 : decode cC_Par_readStatement 0 = .ok (.aload_n 0, 1) := by decide +kernel
theorem dC_Par_readStatement_1 : decode cC_Par_readStatement 1 = .ok (.getfield 15, 3) := by decide +kernel
theorem dC_Par_readStatement_4 : decode cC_Par_readStatement 4 = .ok (.iconst (0), 1) := by decide +kernel
theorem dC_Par_readStatement_5 : decode cC_Par_readStatement 5 = .ok (.invokevirtual 46, 3) := by decide +kernel
theorem dC_Par_readStatement_8 : decode cC_Par_readStatement 8 = .ok (.iconst (2), 1) := by decide +kernel
theorem dC_Par_readStatement_9 : decode cC_Par_readStatement 9 = .ok (.if_icmp .eq (5), 3) := by decide +kernel
theorem dC_Par_readStatement_12 : decode cC_Par_readStatement 12 = .ok (.iconst (1), 1) := by decide +kernel
theorem dC_Par_readStatement_13 : decode cC_Par_readStatement 13 = .ok (.ireturn, 1) := by decide +kernel
theorem dC_Par_readStatement_14 : decode cC_Par_readStatement 14 = .ok (.aload_n 0, 1) := by decide +kernel
theorem dC_Par_readStatement_15 : decode cC_Par_readStatement 15 = .ok (.getfield 15, 3) := by decide +kernel
theorem dC_Par_readStatement_18 : decode cC_Par_readStatement 18 = .ok (.iconst (0), 1) := by decide +kernel
theorem dC_Par_readStatement_19 : decode cC_Par_readStatement 19 = .ok (.invokevirtual 57, 3) := by decide +kernel
theorem dC_Par_readStatement_22 : decode cC_Par_readStatement 22 = .ok (.istore_n 1, 1) := by decide +kernel
theorem dC_Par_readStatement_23 : decode cC_Par_readStatement 23 = .ok (.aload_n 0, 1) := by decide +kernel
theorem dC_Par_readStatement_24 : decode cC_Par_readStatement 24 = .ok (.getfield 9, 3) := by decide +kernel
theorem dC_Par_readStatement_27 : decode cC_Par_readStatement 27 = .ok (.getfield 88, 3) := by decide +kernel
theorem dC_Par_readStatement_30 : decode cC_Par_readStatement 30 = .ok (.iload_n 1, 1) := by decide +kernel
theorem dC_Par_readStatement_31 : decode cC_Par_readStatement 31 = .ok (.invokevirtual 91, 3) := by decide +kernel
theorem dC_Par_readStatement_34 : decode cC_Par_readStatement 34 = .ok (.iconst (1), 1) := by decide +kernel
theorem dC_Par_readStatement_35 : decode cC_Par_readStatement 35 = .ok (.isub, 1) := by decide +kernel
theorem dC_Par_readStatement_36 : decode cC_Par_readStatement 36 = .ok (.istore_n 2, 1) := by decide +kernel
theorem dC_Par_readStatement_37 : decode cC_Par_readStatement 37 = .ok (.iload_n 2, 1) := by decide +kernel
theorem dC_Par_readStatement_38 : decode cC_Par_readStatement 38 = .ok (.ifCond .lt (11), 3) := by decide +kernel
theorem dC_Par_readStatement_41 : decode cC_Par_readStatement 41 = .ok (.iload_n 2, 1) := by decide +kernel
theorem dC_Par_readStatement_42 : decode cC_Par_readStatement 42 = .ok (.getstatic 94, 3) := by decide +kernel
theorem dC_Par_readStatement_45 : decode cC_Par_readStatement 45 = .ok (.arraylength, 1) := by decide +kernel
theorem dC_Par_readStatement_46 : decode cC_Par_readStatement 46 = .ok (.if_icmp .lt (5), 3) := by decide +kernel
theorem dC_Par_readStatement_49 : decode cC_Par_readStatement 49 = .ok (.iconst (2), 1) := by decide +kernel
theorem dC_Par_readStatement_50 : decode cC_Par_readStatement 50 = .ok (.ireturn, 1) := by decide +kernel
theorem dC_Par_readStatement_51 : decode cC_Par_readStatement 51 = .ok (.getstatic 94, 3) := by decide +kernel
theorem dC_Par_readStatement_54 : decode cC_Par_readStatement 54 = .ok (.iload_n 2, 1) := by decide +kernel
theorem dC_Par_readStatement_55 : decode cC_Par_readStatement 55 = .ok (.aaload, 1) := by decide +kernel
theorem dC_Par_readStatement_56 : decode cC_Par_readStatement 56 = .ok (.astore_n 3, 1) := by decide +kernel
theorem dC_Par_readStatement_57 : decode cC_Par_readStatement 57 = .ok (.aload_n 0, 1) := by decide +kernel
theorem dC_Par_readStatement_58 : decode cC_Par_readStatement 58 = .ok (.getfield 15, 3) := by decide +kernel
theorem dC_Par_readStatement_61 : decode cC_Par_readStatement 61 = .ok (.iconst (1), 1) := by decide +kernel
theorem dC_Par_readStatement_62 : decode cC_Par_readStatement 62 = .ok (.invokevirtual 53, 3) := by decide +kernel
theorem dC_Par_readStatement_65 : decode cC_Par_readStatement 65 = .ok (.aload_n 0, 1) := by decide +kernel
theorem dC_Par_readStatement_66 : decode cC_Par_readStatement 66 = .ok (.getfield 19, 3) := by decide +kernel
theorem dC_Par_readStatement_69 : decode cC_Par_readStatement 69 = .ok (.aload_n 0, 1) := by decide +kernel
theorem dC_Par_readStatement_70 : decode cC_Par_readStatement 70 = .ok (.getfield 19, 3) := by decide +kernel
theorem dC_Par_readStatement_73 : decode cC_Par_readStatement 73 = .ok (.getfield 69, 3) := by decide +kernel
theorem dC_Par_readStatement_76 : decode cC_Par_readStatement 76 = .ok (.putfield 100, 3) := by decide +kernel
theorem dC_Par_readStatement_79 : decode cC_Par_readStatement 79 = .ok (.aload_n 3, 1) := by decide +kernel
theorem dC_Par_readStatement_80 : decode cC_Par_readStatement 80 = .ok (.getfield 103, 3) := by decide +kernel
theorem dC_Par_readStatement_83 : decode cC_Par_readStatement 83 = .ok (.tableswitch (187) (1) (10) #[53, 53, 75, 80, 89, 98, 103, 108, 113, 148], 53) := by decide +kernel
theorem dC_Par_readStatement_136 : decode cC_Par_readStatement 136 = .ok (.aload_n 0, 1) := by decide +kernel
theorem dC_Par_readStatement_137 : decode cC_Par_readStatement 137 = .ok (.getfield 19, 3) := by decide +kernel
theorem dC_Par_readStatement_140 : decode cC_Par_readStatement 140 = .ok (.aload_n 3, 1) := by decide +kernel
theorem dC_Par_readStatement_141 : decode cC_Par_readStatement 141 = .ok (.getfield 103, 3) := by decide +kernel
theorem dC_Par_readStatement_144 : decode cC_Par_readStatement 144 = .ok (.iconst (2), 1) := by decide +kernel
theorem dC_Par_readStatement_145 : decode cC_Par_readStatement 145 = .ok (.if_icmp .ne (7), 3) := by decide +kernel
theorem dC_Par_readStatement_148 : decode cC_Par_readStatement 148 = .ok (.iconst (1), 1) := by decide +kernel
theorem dC_Par_readStatement_149 : decode cC_Par_readStatement 149 = .ok (.goto (4), 3) := by decide +kernel
theorem dC_Par_readStatement_152 : decode cC_Par_readStatement 152 = .ok (.iconst (0), 1) := by decide +kernel
theorem dC_Par_readStatement_153 : decode cC_Par_readStatement 153 = .ok (.putfield 106, 3) := by decide +kernel
theorem dC_Par_readStatement_156 : decode cC_Par_readStatement 156 = .ok (.iconst (0), 1) := by decide +kernel
theorem dC_Par_readStatement_157 : decode cC_Par_readStatement 157 = .ok (.ireturn, 1) := by decide +kernel
theorem dC_Par_readStatement_158 : decode cC_Par_readStatement 158 = .ok (.aload_n 0, 1) := by decide +kernel
theorem dC_Par_readStatement_159 : decode cC_Par_readStatement 159 = .ok (.invokevirtual 110, 3) := by decide +kernel
theorem dC_Par_readStatement_162 : decode cC_Par_readStatement 162 = .ok (.ireturn, 1) := by decide +kernel
theorem dC_Par_readStatement_163 : decode cC_Par_readStatement 163 = .ok (.aload_n 0, 1) := by decide +kernel
theorem dC_Par_readStatement_164 : decode cC_Par_readStatement 164 = .ok (.aload_n 3, 1) := by decide +kernel
theorem dC_Par_readStatement_165 : decode cC_Par_readStatement 165 = .ok (.getfield 113, 3) := by decide +kernel
theorem dC_Par_readStatement_168 : decode cC_Par_readStatement 168 = .ok (.invokevirtual 116, 3) := by decide +kernel
theorem dC_Par_readStatement_171 : decode cC_Par_readStatement 171 = .ok (.ireturn, 1) := by decide +kernel
theorem dC_Par_readStatement_172 : decode cC_Par_readStatement 172 = .ok (.aload_n 0, 1) := by decide +kernel
theorem dC_Par_readStatement_173 : decode cC_Par_readStatement 173 = .ok (.aload_n 3, 1) := by decide +kernel
theorem dC_Par_readStatement_174 : decode cC_Par_readStatement 174 = .ok (.getfield 113, 3) := by decide +kernel
theorem dC_Par_readStatement_177 : decode cC_Par_readStatement 177 = .ok (.invokevirtual 119, 3) := by decide +kernel
theorem dC_Par_readStatement_180 : decode cC_Par_readStatement 180 = .ok (.ireturn, 1) := by decide +kernel
theorem dC_Par_readStatement_181 : decode cC_Par_readStatement 181 = .ok (.aload_n 0, 1) := by decide +kernel
theorem dC_Par_readStatement_182 : decode cC_Par_readStatement 182 = .ok (.invokevirtual 122, 3) := by decide +kernel
theorem dC_Par_readStatement_185 : decode cC_Par_readStatement 185 = .ok (.ireturn, 1) := by decide +kernel
theorem dC_Par_readStatement_186 : decode cC_Par_readStatement 186 = .ok (.aload_n 0, 1) := by decide +kernel
theorem dC_Par_readStatement_187 : decode cC_Par_readStatement 187 = .ok (.invokevirtual 125, 3) := by decide +kernel
theorem dC_Par_readStatement_190 : decode cC_Par_readStatement 190 = .ok (.ireturn, 1) := by decide +kernel
theorem dC_Par_readStatement_191 : decode cC_Par_readStatement 191 = .ok (.aload_n 0, 1) := by decide +kernel
theorem dC_Par_readStatement_192 : decode cC_Par_readStatement 192 = .ok (.invokevirtual 128, 3) := by decide +kernel
theorem dC_Par_readStatement_195 : decode cC_Par_readStatement 195 = .ok (.ireturn, 1) := by decide +kernel
theorem dC_Par_readStatement_196 : decode cC_Par_readStatement 196 = .ok (.aload_n 0, 1) := by decide +kernel
theorem dC_Par_readStatement_197 : decode cC_Par_readStatement 197 = .ok (.invokevirtual 131, 3) := by decide +kernel
theorem dC_Par_readStatement_200 : decode cC_Par_readStatement 200 = .ok (.ifCond .eq (16), 3) := by decide +kernel
theorem dC_Par_readStatement_203 : decode cC_Par_readStatement 203 = .ok (.aload_n 0, 1) := by decide +kernel
theorem dC_Par_readStatement_204 : decode cC_Par_readStatement 204 = .ok (.ldc 134, 2) := by decide +kernel
theorem dC_Par_readStatement_206 : decode cC_Par_readStatement 206 = .ok (.aload_n 3, 1) := by decide +kernel
theorem dC_Par_readStatement_207 : decode cC_Par_readStatement 207 = .ok (.getfield 113, 3) := by decide +kernel
theorem dC_Par_readStatement_210 : decode cC_Par_readStatement 210 = .ok (.invokevirtual 136, 3) := by decide +kernel
theorem dC_Par_readStatement_213 : decode cC_Par_readStatement 213 = .ok (.goto (17), 3) := by decide +kernel
theorem dC_Par_readStatement_216 : decode cC_Par_readStatement 216 = .ok (.aload_n 0, 1) := by decide +kernel
theorem dC_Par_readStatement_217 : decode cC_Par_readStatement 217 = .ok (.ldc 140, 2) := by decide +kernel
theorem dC_Par_readStatement_219 : decode cC_Par_readStatement 219 = .ok (.aload_n 3, 1) := by decide +kernel
theorem dC_Par_readStatement_220 : decode cC_Par_readStatement 220 = .ok (.getfield 113, 3) := by decide +kernel
theorem dC_Par_readStatement_223 : decode cC_Par_readStatement 223 = .ok (.sipush (128), 3) := by decide +kernel
theorem dC_Par_readStatement_226 : decode cC_Par_readStatement 226 = .ok (.ior, 1) := by decide +kernel
theorem dC_Par_readStatement_227 : decode cC_Par_readStatement 227 = .ok (.invokevirtual 136, 3) := by decide +kernel
theorem dC_Par_readStatement_230 : decode cC_Par_readStatement 230 = .ok (.ireturn, 1) := by decide +kernel
theorem dC_Par_readStatement_231 : decode cC_Par_readStatement 231 = .ok (.aload_n 0, 1) := by decide +kernel
theorem dC_Par_readStatement_232 : decode cC_Par_readStatement 232 = .ok (.getfield 15, 3) := by decide +kernel
theorem dC_Par_readStatement_235 : decode cC_Par_readStatement 235 = .ok (.iconst (1), 1) := by decide +kernel
theorem dC_Par_readStatement_236 : decode cC_Par_readStatement 236 = .ok (.invokevirtual 46, 3) := by decide +kernel
theorem dC_Par_readStatement_239 : decode cC_Par_readStatement 239 = .ok (.ifCond .ne (20), 3) := by decide +kernel
theorem dC_Par_readStatement_242 : decode cC_Par_readStatement 242 = .ok (.aload_n 0, 1) := by decide +kernel
theorem dC_Par_readStatement_243 : decode cC_Par_readStatement 243 = .ok (.ldc 142, 2) := by decide +kernel
theorem dC_Par_readStatement_245 : decode cC_Par_readStatement 245 = .ok (.aload_n 3, 1) := by decide +kernel
theorem dC_Par_readStatement_246 : decode cC_Par_readStatement 246 = .ok (.getfield 113, 3) := by decide +kernel
theorem dC_Par_readStatement_249 : decode cC_Par_readStatement 249 = .ok (.sipush (128), 3) := by decide +kernel
theorem dC_Par_readStatement_252 : decode cC_Par_readStatement 252 = .ok (.ior, 1) := by decide +kernel
theorem dC_Par_readStatement_253 : decode cC_Par_readStatement 253 = .ok (.invokevirtual 136, 3) := by decide +kernel
theorem dC_Par_readStatement_256 : decode cC_Par_readStatement 256 = .ok (.goto (13), 3) := by decide +kernel
theorem dC_Par_readStatement_259 : decode cC_Par_readStatement 259 = .ok (.aload_n 0, 1) := by decide +kernel
theorem dC_Par_readStatement_260 : decode cC_Par_readStatement 260 = .ok (.ldc 144, 2) := by decide +kernel
theorem dC_Par_readStatement_262 : decode cC_Par_readStatement 262 = .ok (.aload_n 3, 1) := by decide +kernel
theorem dC_Par_readStatement_263 : decode cC_Par_readStatement 263 = .ok (.getfield 113, 3) := by decide +kernel
theorem dC_Par_readStatement_266 : decode cC_Par_readStatement 266 = .ok (.invokevirtual 136, 3) := by decide +kernel
theorem dC_Par_readStatement_269 : decode cC_Par_readStatement 269 = .ok (.ireturn, 1) := by decide +kernel
theorem dC_Par_readStatement_270 : decode cC_Par_readStatement 270 = .ok (.aload_n 0, 1) := by decide +kernel
theorem dC_Par_readStatement_271 : decode cC_Par_readStatement 271 = .ok (.aload_n 3, 1) := by decide +kernel
theorem dC_Par_readStatement_272 : decode cC_Par_readStatement 272 = .ok (.getfield 146, 3) := by decide +kernel
theorem dC_Par_readStatement_275 : decode cC_Par_readStatement 275 = .ok (.aload_n 3, 1) := by decide +kernel
theorem dC_Par_readStatement_276 : decode cC_Par_readStatement 276 = .ok (.getfield 113, 3) := by decide +kernel
theorem dC_Par_readStatement_279 : decode cC_Par_readStatement 279 = .ok (.aload_n 0, 1) := by decide +kernel
theorem dC_Par_readStatement_280 : decode cC_Par_readStatement 280 = .ok (.getfield 9, 3) := by decide +kernel
theorem dC_Par_readStatement_283 : decode cC_Par_readStatement 283 = .ok (.getfield 150, 3) := by decide +kernel
theorem dC_Par_readStatement_286 : decode cC_Par_readStatement 286 = .ok (.iload_n 1, 1) := by decide +kernel
theorem dC_Par_readStatement_287 : decode cC_Par_readStatement 287 = .ok (.invokevirtual 91, 3) := by decide +kernel
theorem dC_Par_readStatement_290 : decode cC_Par_readStatement 290 = .ok (.ior, 1) := by decide +kernel
theorem dC_Par_readStatement_291 : decode cC_Par_readStatement 291 = .ok (.invokevirtual 136, 3) := by decide +kernel
theorem dC_Par_readStatement_294 : decode cC_Par_readStatement 294 = .ok (.ireturn, 1) := by decide +kernel
abbrev cC_Par_readLine : ByteArray := prog_9_method_2_code
def yC_Par_readLine : MethodName := ⟨R_Par, "readLine", "(I)I"⟩
theorem dC_Par_readLine_0 : decode cC_Par_readLine 0 = .ok (.aload_n 0, 1) := by decide +kernel
theorem dC_Par_readLine_1 : decode cC_Par_readLine 1 = .ok (.getfield 19, 3) := by decide +kernel
theorem dC_Par_readLine_4 : decode cC_Par_readLine 4 = .ok (.iload_n 1, 1) := by decide +kernel
theorem dC_Par_readLine_5 : decode cC_Par_readLine 5 = .ok (.putfield 27, 3) := by decide +kernel
theorem dC_Par_readLine_8 : decode cC_Par_readLine 8 = .ok (.iconst (0), 1) := by decide +kernel
theorem dC_Par_readLine_9 : decode cC_Par_readLine 9 = .ok (.istore_n 2, 1) := by decide +kernel
theorem dC_Par_readLine_10 : decode cC_Par_readLine 10 = .ok (.aload_n 0, 1) := by decide +kernel
theorem dC_Par_readLine_11 : decode cC_Par_readLine 11 = .ok (.getfield 15, 3) := by decide +kernel
theorem dC_Par_readLine_14 : decode cC_Par_readLine 14 = .ok (.invokevirtual 33, 3) := by decide +kernel
theorem dC_Par_readLine_17 : decode cC_Par_readLine 17 = .ok (.istore_n 3, 1) := by decide +kernel
theorem dC_Par_readLine_18 : decode cC_Par_readLine 18 = .ok (.iload_n 3, 1) := by decide +kernel
theorem dC_Par_readLine_19 : decode cC_Par_readLine 19 = .ok (.ifCond .le (25), 3) := by decide +kernel
theorem dC_Par_readLine_22 : decode cC_Par_readLine 22 = .ok (.iload_n 2, 1) := by decide +kernel
theorem dC_Par_readLine_23 : decode cC_Par_readLine 23 = .ok (.ifCond .ne (21), 3) := by decide +kernel
theorem dC_Par_readLine_26 : decode cC_Par_readLine 26 = .ok (.aload_n 0, 1) := by decide +kernel
theorem dC_Par_readLine_27 : decode cC_Par_readLine 27 = .ok (.invokevirtual 39, 3) := by decide +kernel
theorem dC_Par_readLine_30 : decode cC_Par_readLine 30 = .ok (.ifCond .eq (14), 3) := by decide +kernel
theorem dC_Par_readLine_33 : decode cC_Par_readLine 33 = .ok (.aload_n 0, 1) := by decide +kernel
theorem dC_Par_readLine_34 : decode cC_Par_readLine 34 = .ok (.invokevirtual 43, 3) := by decide +kernel
theorem dC_Par_readLine_37 : decode cC_Par_readLine 37 = .ok (.istore_n 2, 1) := by decide +kernel
theorem dC_Par_readLine_38 : decode cC_Par_readLine 38 = .ok (.iinc 3 (-1), 3) := by decide +kernel
theorem dC_Par_readLine_41 : decode cC_Par_readLine 41 = .ok (.goto (-23), 3) := by decide +kernel
theorem dC_Par_readLine_44 : decode cC_Par_readLine 44 = .ok (.iload_n 2, 1) := by decide +kernel
theorem dC_Par_readLine_45 : decode cC_Par_readLine 45 = .ok (.ifCond .ne (19), 3) := by decide +kernel
theorem dC_Par_readLine_48 : decode cC_Par_readLine 48 = .ok (.aload_n 0, 1) := by decide +kernel
theorem dC_Par_readLine_49 : decode cC_Par_readLine 49 = .ok (.getfield 15, 3) := by decide +kernel
theorem dC_Par_readLine_52 : decode cC_Par_readLine 52 = .ok (.iconst (0), 1) := by decide +kernel
theorem dC_Par_readLine_53 : decode cC_Par_readLine 53 = .ok (.invokevirtual 46, 3) := by decide +kernel
theorem dC_Par_readLine_56 : decode cC_Par_readLine 56 = .ok (.ifCond .eq (8), 3) := by decide +kernel
theorem dC_Par_readLine_59 : decode cC_Par_readLine 59 = .ok (.aload_n 0, 1) := by decide +kernel
theorem dC_Par_readLine_60 : decode cC_Par_readLine 60 = .ok (.invokevirtual 50, 3) := by decide +kernel
theorem dC_Par_readLine_63 : decode cC_Par_readLine 63 = .ok (.istore_n 2, 1) := by decide +kernel
theorem dC_Par_readLine_64 : decode cC_Par_readLine 64 = .ok (.iload_n 2, 1) := by decide +kernel
theorem dC_Par_readLine_65 : decode cC_Par_readLine 65 = .ok (.ifCond .ne (16), 3) := by decide +kernel
theorem dC_Par_readLine_68 : decode cC_Par_readLine 68 = .ok (.aload_n 0, 1) := by decide +kernel
theorem dC_Par_readLine_69 : decode cC_Par_readLine 69 = .ok (.getfield 15, 3) := by decide +kernel
theorem dC_Par_readLine_72 : decode cC_Par_readLine 72 = .ok (.iconst (0), 1) := by decide +kernel
theorem dC_Par_readLine_73 : decode cC_Par_readLine 73 = .ok (.invokevirtual 46, 3) := by decide +kernel
theorem dC_Par_readLine_76 : decode cC_Par_readLine 76 = .ok (.ifCond .eq (5), 3) := by decide +kernel
theorem dC_Par_readLine_79 : decode cC_Par_readLine 79 = .ok (.iconst (1), 1) := by decide +kernel
theorem dC_Par_readLine_80 : decode cC_Par_readLine 80 = .ok (.istore_n 2, 1) := by decide +kernel
theorem dC_Par_readLine_81 : decode cC_Par_readLine 81 = .ok (.aload_n 0, 1) := by decide +kernel
theorem dC_Par_readLine_82 : decode cC_Par_readLine 82 = .ok (.getfield 15, 3) := by decide +kernel
theorem dC_Par_readLine_85 : decode cC_Par_readLine 85 = .ok (.iconst (1), 1) := by decide +kernel
theorem dC_Par_readLine_86 : decode cC_Par_readLine 86 = .ok (.invokevirtual 53, 3) := by decide +kernel
theorem dC_Par_readLine_89 : decode cC_Par_readLine 89 = .ok (.iload_n 2, 1) := by decide +kernel
theorem dC_Par_readLine_90 : decode cC_Par_readLine 90 = .ok (.ireturn, 1) := by decide +kernel
theorem gC_Par_33 : GoodIn lw_gd (wsV R_Par 33 R_Tok yC_Tok_left (.code yC_Tok_left cC_Tok_left 1 (some .int) :: lw_gd)) := lw_GV qc_1078 qc_1075 qc_1076 qc_1077 qc_13
theorem gC_Par_39 : GoodIn lw_gd (wsV R_Par 39 R_Par yC_Par_isLabel (.code yC_Par_isLabel cC_Par_isLabel 1 (some .boolean) :: lw_gd)) := lw_GV qc_1082 qc_1079 qc_1081 qsc_22 qc_21
theorem gC_Par_43 : GoodIn lw_gd (wsV R_Par 43 R_Par yC_Par_readLabel (.code yC_Par_readLabel cC_Par_readLabel 3 (some .int) :: lw_gd)) := lw_GV qc_1090 qc_1087 qc_1089 qsc_23 qc_21
theorem gC_Par_46 : GoodIn lw_gd (wsV R_Par 46 R_Tok yC_Tok_kind (.code yC_Tok_kind cC_Tok_kind 3 (some .int) :: lw_gd)) := lw_GV qc_1086 qc_1083 qc_1084 qc_1085 qc_13
theorem gC_Par_50 : GoodIn lw_gd (wsV R_Par 50 R_Par yC_Par_readStatement (.code yC_Par_readStatement cC_Par_readStatement 4 (some .int) :: lw_gd)) := lw_GV qc_1125 qc_1122 qc_1124 qsc_24 qc_21
theorem gC_Par_53 : GoodIn lw_gd (wsV R_Par 53 R_Tok yC_Tok_skip (.code yC_Tok_skip cC_Tok_skip 2 none :: lw_gd)) := lw_GV qc_1120 qc_1117 qc_1118 qc_1119 qc_13
theorem gC_Par_57 : GoodIn lw_gd (wsV R_Par 57 R_Tok yC_Tok_value (.code yC_Tok_value cC_Tok_value 3 (some .int) :: lw_gd)) := lw_GV qc_1094 qc_1091 qc_1092 qc_1093 qc_13
theorem gC_Par_60 : GoodIn lw_gd (wsV R_Par 60 R_Prg yC_Prg_addNear (.code yC_Prg_addNear cC_Prg_addNear 2 none :: lw_gd)) := lw_GV qc_1098 qc_1095 qc_1096 qc_1097 qc_14
theorem gC_Par_63 : GoodIn lw_gd (wsV R_Par 63 R_Nam yC_Nam_isFree (.code yC_Nam_isFree cC_Nam_isFree 2 (some .boolean) :: lw_gd)) := lw_GV qc_1106 qc_1103 qc_1104 qc_1105 qc_3
theorem gC_Par_72 : GoodIn lw_gd (wsV R_Par 72 R_Nam yC_Nam_define (.code yC_Nam_define cC_Nam_define 4 none :: lw_gd)) := lw_GV qc_1110 qc_1107 qc_1108 qc_1109 qc_3
theorem gC_Par_80 : GoodIn lw_gd (wsV R_Par 80 R_Row yC_Row_add (.code yC_Row_add cC_Row_add 2 none :: lw_gd)) := lw_GV qc_75 qc_1115 qc_73 qc_74 qc_2
theorem gC_Par_85 : GoodIn lw_gd (wsV R_Par 85 R_Prg yC_Prg_add (.code yC_Prg_add cC_Prg_add 5 (some (.object "LineAssembler$Item")) :: lw_gd)) := lw_GV qc_923 qc_1116 qc_921 qc_922 qc_14
theorem gC_Par_91 : GoodIn lw_gd (wsV R_Par 91 R_Row yC_Row_get (.code yC_Row_get cC_Row_get 2 (some .int) :: lw_gd)) := lw_GV qc_170 qc_1126 qc_168 qc_169 qc_2
theorem gC_Par_110 : GoodIn lw_gd (wsV R_Par 110 R_Par yC_Par_readEquate (.code yC_Par_readEquate cC_Par_readEquate 3 (some .int) :: lw_gd)) := lw_GV qc_1131 qc_1128 qc_1130 qsc_25 qc_21
theorem gC_Par_116 : GoodIn lw_gd (wsV R_Par 116 R_Par yC_Par_readNumbers (.code yC_Par_readNumbers cC_Par_readNumbers 6 (some .int) :: lw_gd)) := lw_GV qc_1204 qc_1201 qc_1203 qsc_33 qc_21
theorem gC_Par_119 : GoodIn lw_gd (wsV R_Par 119 R_Par yC_Par_readStrings (.code yC_Par_readStrings cC_Par_readStrings 4 (some .int) :: lw_gd)) := lw_GV qc_1208 qc_1205 qc_1207 qsc_34 qc_21
theorem gC_Par_122 : GoodIn lw_gd (wsV R_Par 122 R_Par yC_Par_readSpace (.code yC_Par_readSpace cC_Par_readSpace 2 (some .int) :: lw_gd)) := lw_GV qc_1216 qc_1213 qc_1215 qsc_35 qc_21
theorem gC_Par_125 : GoodIn lw_gd (wsV R_Par 125 R_Par yC_Par_readAlign (.code yC_Par_readAlign cC_Par_readAlign 2 (some .int) :: lw_gd)) := lw_GV qc_1221 qc_1218 qc_1220 qsc_36 qc_21
theorem gC_Par_128 : GoodIn lw_gd (wsV R_Par 128 R_Par yC_Par_readLoad (.code yC_Par_readLoad cC_Par_readLoad 3 (some .int) :: lw_gd)) := lw_GV qc_1225 qc_1222 qc_1224 qsc_37 qc_21
theorem gC_Par_131 : GoodIn lw_gd (wsV R_Par 131 R_Par yC_Par_isRegister (.code yC_Par_isRegister cC_Par_isRegister 1 (some .boolean) :: lw_gd)) := lw_GV qc_1233 qc_1230 qc_1232 qsc_39 qc_21
theorem gC_Par_136 : GoodIn lw_gd (wsV R_Par 136 R_Par yC_Par_readShape (.code yC_Par_readShape cC_Par_readShape 9 (some .int) :: lw_gd)) := lw_GV qc_1263 qc_1260 qc_1262 qsc_41 qc_21
theorem gC_Par_153 : GoodIn lw_gd (wsV R_Par 153 R_Frm yC_Frm_end (.code yC_Frm_end cC_Frm_end 1 (some .int) :: lw_gd)) := lw_GV qc_1141 qc_1138 qc_1139 qc_1140 qc_20
theorem gC_Par_158 : GoodIn lw_gd (wsV R_Par 158 R_Str yC_Str_length (.code yC_Str_length cC_Str_length 1 (some .int) :: lw_gd)) := lw_GV qc_110 qc_1264 qc_108 qc_109 qc_9
theorem gC_Par_163 : GoodIn lw_gd (wsV R_Par 163 R_Str yC_Str_charAt (.code yC_Str_charAt cC_Str_charAt 2 (some .char) :: lw_gd)) := lw_GV qc_120 qc_1265 qc_118 qc_119 qc_9
theorem gC_Par_171 : GoodIn lw_gd (wsV R_Par 171 R_Par yC_Par_readRegister (.code yC_Par_readRegister cC_Par_readRegister 4 (some .int) :: lw_gd)) := lw_GV qc_1229 qc_1226 qc_1228 qsc_38 qc_21
theorem gC_Par_174 : GoodIn lw_gd (wsV R_Par 174 R_Frm yC_Frm_compile (.code yC_Frm_compile cC_Frm_compile 4 (some .boolean) :: lw_gd)) := lw_GV qc_1145 qc_1142 qc_1143 qc_1144 qc_20
theorem gC_Par_198 : GoodIn lw_gd (wsV R_Par 198 R_Frm yC_Frm_evaluate (.code yC_Frm_evaluate cC_Frm_evaluate 9 (some .int) :: lw_gd)) := lw_GV qc_1174 qc_1171 qc_1172 qc_1173 qc_20
theorem gC_Par_202 : GoodIn lw_gd (wsV R_Par 202 R_Frm yC_Frm_dropFrom (.code yC_Frm_dropFrom cC_Frm_dropFrom 2 none :: lw_gd)) := lw_GV qc_998 qc_1200 qc_996 qc_997 qc_20
theorem gC_Par_210 : GoodIn lw_gd (wsV R_Par 210 R_Par yC_Par_readFixed (.code yC_Par_readFixed cC_Par_readFixed 5 (some .int) :: lw_gd)) := lw_GV qc_1137 qc_1134 qc_1136 qsc_26 qc_21
theorem gC_Par_216 : GoodIn lw_gd (wsV R_Par 216 R_Tok yC_Tok_length (.code yC_Tok_length cC_Tok_length 1 (some .int) :: lw_gd)) := lw_GV qc_1212 qc_1209 qc_1210 qc_1211 qc_13
theorem gC_Par_218 : GoodIn lw_gd (wsV R_Par 218 R_Par yC_Par_addLoad (.code yC_Par_addLoad cC_Par_addLoad 4 none :: lw_gd)) := lw_GV qc_1240 qc_1237 qc_1239 qsc_40 qc_21
section
variable {p : Program} {l : Launch} {e : Env} {s : State} {m : MethodId} {args : Array Value} {below : List Frame} {meth : Method} {c : Code} {D : va_G} {dA : Nat → ClassId} {z : Nat → Nat} {o b i : Nat → Nat} {A : Nat → Prop}
def C_Par_isLabel_29 (t0 : Int32) (sR : CS) (sF : CS) (sN : CS) (sT : CS) (sP : CS) (sI : CS) : Option Int32 :=
  gd (isB t0) (some t0)
set_option maxHeartbeats 4000000 in
set_option maxRecDepth 100000 in
theorem bC_Par_isLabel_29  {r : Int32} (C : CxC R_Par p s m args meth c cC_Par_isLabel 1 (some .boolean) D dA (zz o) A) (t0 : Int32) (sR : CS) (sF : CS) (sN : CS) (sT : CS) (sP : CS) (sI : CS) (hM : C_Par_isLabel_29  t0 sR sF sN sT sP sI = some r) (hW : WdC D A s (w_Par dA o b i sR sF sN sT sP sI) s.heap []) (ls : Array Slot) (hl : lv_has ls 1 []) : W p l e (rmC 1 22 0 0) s m args below meth c s.heap [] 0 0 (MQ below (QS (some (.int r))) args s 0 0 (fun _ => False)) (F0 m 29 ls [.int t0]) := by
  have hx := C.1.1
  have hb := C.1.2.1
  have hown := C.1.2.2.2.2.1
  have hT := C.1.2.2.2.2.2.1
  unfold C_Par_isLabel_29 at hM
  obtain ⟨hg1, hM⟩ := gd_some hM
  obtain rfl := sm_i hM
  exact x_retSz (pc := 29) C.1 rfl hg1 dC_Par_isLabel_29
def C_Par_isLabel_28  (sR : CS) (sF : CS) (sN : CS) (sT : CS) (sP : CS) (sI : CS) : Option Int32 :=
  C_Par_isLabel_29  (0 : Int32) sR sF sN sT sP sI
set_option maxHeartbeats 4000000 in
set_option maxRecDepth 100000 in
theorem bC_Par_isLabel_28  {r : Int32} (C : CxC R_Par p s m args meth c cC_Par_isLabel 1 (some .boolean) D dA (zz o) A)  (sR : CS) (sF : CS) (sN : CS) (sT : CS) (sP : CS) (sI : CS) (hM : C_Par_isLabel_28   sR sF sN sT sP sI = some r) (hW : WdC D A s (w_Par dA o b i sR sF sN sT sP sI) s.heap []) (ls : Array Slot) (hl : lv_has ls 1 []) : W p l e (rmC 1 22 0 0) s m args below meth c s.heap [] 0 0 (MQ below (QS (some (.int r))) args s 0 0 (fun _ => False)) (F0 m 28 ls []) := by
  have hx := C.1.1
  have hb := C.1.2.1
  have hown := C.1.2.2.2.2.1
  have hT := C.1.2.2.2.2.2.1
  unfold C_Par_isLabel_28 at hM
  refine lv_iconst (pc := 28) (v := 0) hx hb dC_Par_isLabel_28 (by decide) ?_
  exact bC_Par_isLabel_29  C  _ _ _ _ _ _ _ hM hW _ (lv_sub hl [] rfl)
def C_Par_isLabel  (sR : CS) (sF : CS) (sN : CS) (sT : CS) (sP : CS) (sI : CS) : Option Int32 :=
  cr (C_Tok_kind  (0 : Int32) sT) (fun r1 => (if r1 = 0 then C_Par_isLabel_28  sR sF sN sT sP sI else cr (C_Tok_kind  (1 : Int32) sT) (fun r2 => (if r2 = (58 : Int32) then C_Par_isLabel_29  (1 : Int32) sR sF sN sT sP sI else C_Par_isLabel_28  sR sF sN sT sP sI))))
set_option maxHeartbeats 4000000 in
set_option maxRecDepth 100000 in
theorem bC_Par_isLabel_0  {r : Int32} (C : CxC R_Par p s m args meth c cC_Par_isLabel 1 (some .boolean) D dA (zz o) A)  (sR : CS) (sF : CS) (sN : CS) (sT : CS) (sP : CS) (sI : CS) (hM : C_Par_isLabel   sR sF sN sT sP sI = some r) (hW : WdC D A s (w_Par dA o b i sR sF sN sT sP sI) s.heap []) (ls : Array Slot) (hl : lv_has ls 1 [(0, .ref (o 112))]) : W p l e (rmC 1 22 0 0) s m args below meth c s.heap [] 0 0 (MQ below (QS (some (.int r))) args s 0 0 (fun _ => False)) (F0 m 0 ls []) := by
  have hx := C.1.1
  have hb := C.1.2.1
  have hown := C.1.2.2.2.2.1
  have hT := C.1.2.2.2.2.2.1
  unfold C_Par_isLabel at hM
  refine lv_aload_n (pc := 0) hx hb dC_Par_isLabel_0 rfl (lv_at hl 0 rfl) ?_
  refine x_getC (pc := 1) C hW 0 rfl (ci := 8) rfl i_Par 1 (by decide) qc_512 rfl rfl dC_Par_isLabel_1 ?_
  refine lv_iconst (pc := 4) (v := 0) hx hb dC_Par_isLabel_4 (by decide) ?_
  obtain ⟨r1, hr1, hM⟩ := cr_some hM
  refine x_callQ (pc := 5) (n' := 41) (ov := some (.int r1)) C hW (kC_Tok_kind l D dA (zz o) o b  (0 : Int32) sT hr1) [30, 31, 32, 33, 0, 1, 2, 3, 4, 5, 6, 7, 8, 9, 10, 11, 12, 13, 14, 15, 16, 17, 18, 19, 20, 21, 22, 23, 24, 25, 26, 27, 28, 29, 34, 35, 36, 37, 38, 39, 40] rfl (by decide +kernel) rfl (ci := 3) rfl (q0 := 30) rfl gC_Par_46 ⟨rfl, by decide, by decide, by decide +kernel⟩ ⟨Nat.le_of_ble_eq_true rfl, Nat.le_of_ble_eq_true rfl⟩ ⟨Nat.le_refl _, Nat.le_refl _⟩ (As := [.int (0 : Int32)]) (n := 1) rfl hl.1 rfl (Nat.le_of_ble_eq_true rfl) dC_Par_isLabel_5 ?_
  refine lv_if_eq (pc := 8) (tgt := 28) hx hb dC_Par_isLabel_8 (by decide) (fun hc => ?_) (fun hc => ?_)
  · replace hM := it_t hc hM
    exact bC_Par_isLabel_28  C  _ _ _ _ _ _ hM hW _ (lv_sub hl [] rfl)
  · replace hM := it_f hc hM
    refine lv_aload_n (pc := 11) hx hb dC_Par_isLabel_11 rfl (lv_at hl 0 rfl) ?_
    refine x_getC (pc := 12) C hW 0 rfl (ci := 8) rfl i_Par 1 (by decide) qc_512 rfl rfl dC_Par_isLabel_12 ?_
    refine lv_iconst (pc := 15) (v := 1) hx hb dC_Par_isLabel_15 (by decide) ?_
    obtain ⟨r2, hr2, hM⟩ := cr_some hM
    refine x_callQ (pc := 16) (n' := 41) (ov := some (.int r2)) C hW (kC_Tok_kind l D dA (zz o) o b  (1 : Int32) sT hr2) [30, 31, 32, 33, 0, 1, 2, 3, 4, 5, 6, 7, 8, 9, 10, 11, 12, 13, 14, 15, 16, 17, 18, 19, 20, 21, 22, 23, 24, 25, 26, 27, 28, 29, 34, 35, 36, 37, 38, 39, 40] rfl (by decide +kernel) rfl (ci := 3) rfl (q0 := 30) rfl gC_Par_46 ⟨rfl, by decide, by decide, by decide +kernel⟩ ⟨Nat.le_of_ble_eq_true rfl, Nat.le_of_ble_eq_true rfl⟩ ⟨Nat.le_refl _, Nat.le_refl _⟩ (As := [.int (1 : Int32)]) (n := 1) rfl hl.1 rfl (Nat.le_of_ble_eq_true rfl) dC_Par_isLabel_16 ?_
    refine lv_bipush (pc := 19) (v := 58) hx hb dC_Par_isLabel_19 (by decide) ?_
    refine lv_icmp_ne (pc := 21) (tgt := 28) hx hb dC_Par_isLabel_21 (by decide) (fun hc => ?_) (fun hc => ?_)
    · replace hM := it_f hc hM
      exact bC_Par_isLabel_28  C  _ _ _ _ _ _ hM hW _ (lv_sub hl [] rfl)
    · replace hM := it_t hc hM
      refine lv_iconst (pc := 24) (v := 1) hx hb dC_Par_isLabel_24 (by decide) ?_
      refine lv_goto (pc := 25) (tgt := 29) hx hb dC_Par_isLabel_25 (by decide) ?_
      exact bC_Par_isLabel_29  C  _ _ _ _ _ _ _ hM hW _ (lv_sub hl [] rfl)
theorem kC_Par_isLabel (l : Launch) (D : va_G) (dA : Nat → ClassId) (o b i : Nat → Nat)  (sR : CS) (sF : CS) (sN : CS) (sT : CS) (sP : CS) (sI : CS) {r : Int32} (hM : C_Par_isLabel  sR sF sN sT sP sI = some r) : KQ l D dA (zz o) yC_Par_isLabel cC_Par_isLabel 1 (some .boolean) 1 22 (w_Par dA o b i sR sF sN sT sP sI) [.ref (o 112)] (some (.int r)) := x_enterQ (by decide +kernel) (Nat.le_of_ble_eq_true rfl) (fun p e s m args below meth c A C hW ls hl => bC_Par_isLabel_0 C  sR sF sN sT sP sI hM hW ls hl)
def C_Par_isRegister_38 (t0 : Int32) (sR : CS) (sF : CS) (sN : CS) (sT : CS) (sP : CS) (sI : CS) : Option Int32 :=
  gd (isB t0) (some t0)
set_option maxHeartbeats 4000000 in
set_option maxRecDepth 100000 in
theorem bC_Par_isRegister_38  {r : Int32} (C : CxC R_Par p s m args meth c cC_Par_isRegister 1 (some .boolean) D dA (zz o) A) (t0 : Int32) (sR : CS) (sF : CS) (sN : CS) (sT : CS) (sP : CS) (sI : CS) (hM : C_Par_isRegister_38  t0 sR sF sN sT sP sI = some r) (hW : WdC D A s (w_Par dA o b i sR sF sN sT sP sI) s.heap []) (ls : Array Slot) (hl : lv_has ls 1 []) : W p l e (rmC 1 22 0 0) s m args below meth c s.heap [] 0 0 (MQ below (QS (some (.int r))) args s 0 0 (fun _ => False)) (F0 m 38 ls [.int t0]) := by
  have hx := C.1.1
  have hb := C.1.2.1
  have hown := C.1.2.2.2.2.1
  have hT := C.1.2.2.2.2.2.1
  unfold C_Par_isRegister_38 at hM
  obtain ⟨hg1, hM⟩ := gd_some hM
  obtain rfl := sm_i hM
  exact x_retSz (pc := 38) C.1 rfl hg1 dC_Par_isRegister_38
def C_Par_isRegister_37  (sR : CS) (sF : CS) (sN : CS) (sT : CS) (sP : CS) (sI : CS) : Option Int32 :=
  C_Par_isRegister_38  (0 : Int32) sR sF sN sT sP sI
set_option maxHeartbeats 4000000 in
set_option maxRecDepth 100000 in
theorem bC_Par_isRegister_37  {r : Int32} (C : CxC R_Par p s m args meth c cC_Par_isRegister 1 (some .boolean) D dA (zz o) A)  (sR : CS) (sF : CS) (sN : CS) (sT : CS) (sP : CS) (sI : CS) (hM : C_Par_isRegister_37   sR sF sN sT sP sI = some r) (hW : WdC D A s (w_Par dA o b i sR sF sN sT sP sI) s.heap []) (ls : Array Slot) (hl : lv_has ls 1 []) : W p l e (rmC 1 22 0 0) s m args below meth c s.heap [] 0 0 (MQ below (QS (some (.int r))) args s 0 0 (fun _ => False)) (F0 m 37 ls []) := by
  have hx := C.1.1
  have hb := C.1.2.1
  have hown := C.1.2.2.2.2.1
  have hT := C.1.2.2.2.2.2.1
  unfold C_Par_isRegister_37 at hM
  refine lv_iconst (pc := 37) (v := 0) hx hb dC_Par_isRegister_37 (by decide) ?_
  exact bC_Par_isRegister_38  C  _ _ _ _ _ _ _ hM hW _ (lv_sub hl [] rfl)
def C_Par_isRegister  (sR : CS) (sF : CS) (sN : CS) (sT : CS) (sP : CS) (sI : CS) : Option Int32 :=
  cr (C_Tok_kind  (0 : Int32) sT) (fun r1 => (if r1 = (2 : Int32) then cr (C_Tok_value  (0 : Int32) sT) (fun r2 => cr (C_Row_get  r2 (rg sN 3)) (fun r3 => (if r3 ≤ 0 then C_Par_isRegister_37  sR sF sN sT sP sI else C_Par_isRegister_38  (1 : Int32) sR sF sN sT sP sI))) else C_Par_isRegister_37  sR sF sN sT sP sI))
set_option maxHeartbeats 4000000 in
set_option maxRecDepth 100000 in
theorem bC_Par_isRegister_0  {r : Int32} (C : CxC R_Par p s m args meth c cC_Par_isRegister 1 (some .boolean) D dA (zz o) A)  (sR : CS) (sF : CS) (sN : CS) (sT : CS) (sP : CS) (sI : CS) (hM : C_Par_isRegister   sR sF sN sT sP sI = some r) (hW : WdC D A s (w_Par dA o b i sR sF sN sT sP sI) s.heap []) (ls : Array Slot) (hl : lv_has ls 1 [(0, .ref (o 112))]) : W p l e (rmC 1 22 0 0) s m args below meth c s.heap [] 0 0 (MQ below (QS (some (.int r))) args s 0 0 (fun _ => False)) (F0 m 0 ls []) := by
  have hx := C.1.1
  have hb := C.1.2.1
  have hown := C.1.2.2.2.2.1
  have hT := C.1.2.2.2.2.2.1
  unfold C_Par_isRegister at hM
  refine lv_aload_n (pc := 0) hx hb dC_Par_isRegister_0 rfl (lv_at hl 0 rfl) ?_
  refine x_getC (pc := 1) C hW 0 rfl (ci := 8) rfl i_Par 1 (by decide) qc_512 rfl rfl dC_Par_isRegister_1 ?_
  refine lv_iconst (pc := 4) (v := 0) hx hb dC_Par_isRegister_4 (by decide) ?_
  obtain ⟨r1, hr1, hM⟩ := cr_some hM
  refine x_callQ (pc := 5) (n' := 41) (ov := some (.int r1)) C hW (kC_Tok_kind l D dA (zz o) o b  (0 : Int32) sT hr1) [30, 31, 32, 33, 0, 1, 2, 3, 4, 5, 6, 7, 8, 9, 10, 11, 12, 13, 14, 15, 16, 17, 18, 19, 20, 21, 22, 23, 24, 25, 26, 27, 28, 29, 34, 35, 36, 37, 38, 39, 40] rfl (by decide +kernel) rfl (ci := 3) rfl (q0 := 30) rfl gC_Par_46 ⟨rfl, by decide, by decide, by decide +kernel⟩ ⟨Nat.le_of_ble_eq_true rfl, Nat.le_of_ble_eq_true rfl⟩ ⟨Nat.le_refl _, Nat.le_refl _⟩ (As := [.int (0 : Int32)]) (n := 1) rfl hl.1 rfl (Nat.le_of_ble_eq_true rfl) dC_Par_isRegister_5 ?_
  refine lv_iconst (pc := 8) (v := 2) hx hb dC_Par_isRegister_8 (by decide) ?_
  refine lv_icmp_ne (pc := 9) (tgt := 37) hx hb dC_Par_isRegister_9 (by decide) (fun hc => ?_) (fun hc => ?_)
  · replace hM := it_f hc hM
    exact bC_Par_isRegister_37  C  _ _ _ _ _ _ hM hW _ (lv_sub hl [] rfl)
  · replace hM := it_t hc hM
    refine lv_aload_n (pc := 12) hx hb dC_Par_isRegister_12 rfl (lv_at hl 0 rfl) ?_
    refine x_getC (pc := 13) C hW 0 rfl (ci := 8) rfl i_Par 0 (by decide) qc_511 rfl rfl dC_Par_isRegister_13 ?_
    refine x_getC (pc := 16) C hW 10 rfl (ci := 2) rfl i_Nam 3 (by decide) qc_222 rfl rfl dC_Par_isRegister_16 ?_
    refine lv_aload_n (pc := 19) hx hb dC_Par_isRegister_19 rfl (lv_at hl 0 rfl) ?_
    refine x_getC (pc := 20) C hW 0 rfl (ci := 8) rfl i_Par 1 (by decide) qc_512 rfl rfl dC_Par_isRegister_20 ?_
    refine lv_iconst (pc := 23) (v := 0) hx hb dC_Par_isRegister_23 (by decide) ?_
    obtain ⟨r2, hr2, hM⟩ := cr_some hM
    refine x_callQ (pc := 24) (n' := 41) (ov := some (.int r2)) C hW (kC_Tok_value l D dA (zz o) o b  (0 : Int32) sT hr2) [30, 31, 32, 33, 0, 1, 2, 3, 4, 5, 6, 7, 8, 9, 10, 11, 12, 13, 14, 15, 16, 17, 18, 19, 20, 21, 22, 23, 24, 25, 26, 27, 28, 29, 34, 35, 36, 37, 38, 39, 40] rfl (by decide +kernel) rfl (ci := 3) rfl (q0 := 30) rfl gC_Par_57 ⟨rfl, by decide, by decide, by decide +kernel⟩ ⟨Nat.le_of_ble_eq_true rfl, Nat.le_of_ble_eq_true rfl⟩ ⟨Nat.le_refl _, Nat.le_refl _⟩ (As := [.int (0 : Int32)]) (n := 1) rfl hl.1 rfl (Nat.le_of_ble_eq_true rfl) dC_Par_isRegister_24 ?_
    obtain ⟨r3, hr3, hM⟩ := cr_some hM
    refine x_callQ (pc := 27) (n' := 41) (ov := some (.int r3)) C hW (kC_Row_get l D dA (zz o) (fun _ => o 20) (fun _ => b 20)  r2 (rg sN 3) hr3) [17, 18, 0, 1, 2, 3, 4, 5, 6, 7, 8, 9, 10, 11, 12, 13, 14, 15, 16, 19, 20, 21, 22, 23, 24, 25, 26, 27, 28, 29, 30, 31, 32, 33, 34, 35, 36, 37, 38, 39, 40] rfl (by decide +kernel) rfl (ci := 1) rfl (q0 := 17) rfl gC_Par_91 ⟨rfl, by decide, by decide, by decide +kernel⟩ ⟨Nat.le_of_ble_eq_true rfl, Nat.le_of_ble_eq_true rfl⟩ ⟨Nat.le_refl _, Nat.le_refl _⟩ (As := [.int r2]) (n := 1) rfl hl.1 rfl (Nat.le_of_ble_eq_true rfl) dC_Par_isRegister_27 ?_
    refine lv_if_le (pc := 30) (tgt := 37) hx hb dC_Par_isRegister_30 (by decide) (fun hc => ?_) (fun hc => ?_)
    · replace hM := it_t hc hM
      exact bC_Par_isRegister_37  C  _ _ _ _ _ _ hM hW _ (lv_sub hl [] rfl)
    · replace hM := it_f hc hM
      refine lv_iconst (pc := 33) (v := 1) hx hb dC_Par_isRegister_33 (by decide) ?_
      refine lv_goto (pc := 34) (tgt := 38) hx hb dC_Par_isRegister_34 (by decide) ?_
      exact bC_Par_isRegister_38  C  _ _ _ _ _ _ _ hM hW _ (lv_sub hl [] rfl)
theorem kC_Par_isRegister (l : Launch) (D : va_G) (dA : Nat → ClassId) (o b i : Nat → Nat)  (sR : CS) (sF : CS) (sN : CS) (sT : CS) (sP : CS) (sI : CS) {r : Int32} (hM : C_Par_isRegister  sR sF sN sT sP sI = some r) : KQ l D dA (zz o) yC_Par_isRegister cC_Par_isRegister 1 (some .boolean) 1 22 (w_Par dA o b i sR sF sN sT sP sI) [.ref (o 112)] (some (.int r)) := x_enterQ (by decide +kernel) (Nat.le_of_ble_eq_true rfl) (fun p e s m args below meth c A C hW ls hl => bC_Par_isRegister_0 C  sR sF sN sT sP sI hM hW ls hl)
def C_Par_readRegister_18  (sR : CS) (sF : CS) (sN : CS) (sT : CS) (sP : CS) (sI : CS) : Option (Int32 × CS) :=
  some ((-1 : Int32), sT)
set_option maxHeartbeats 4000000 in
set_option maxRecDepth 100000 in
theorem bC_Par_readRegister_18  {r : Int32} {u : CS} (C : CxC R_Par p s m args meth c cC_Par_readRegister 4 (some .int) D dA (zz o) A)  (sR : CS) (sF : CS) (sN : CS) (sT : CS) (sP : CS) (sI : CS) (hM : C_Par_readRegister_18   sR sF sN sT sP sI = some (r, u)) (H : Heap) (locs : List Loc) (hW : WdC D A s (w_Par dA o b i sR sF sN sT sP sI) H locs) (ls : Array Slot) (hl : lv_has ls 4 []) : W p l e (rmC 2 61 0 0) s m args below meth c H locs 0 0 (MQ below (QC D A (fun Ws' ov => Ws' = (w_Par dA o b i sR sF sN u sP sI) ∧ ov = (some (.int r)))) args s 0 0 A) (F0 m 18 ls []) := by
  have hx := C.1.1
  have hb := C.1.2.1
  have hown := C.1.2.2.2.2.1
  have hT := C.1.2.2.2.2.2.1
  unfold C_Par_readRegister_18 at hM
  refine lv_iconst (pc := 18) (v := -1) hx hb dC_Par_readRegister_18 (by decide) ?_
  obtain ⟨rfl, rfl⟩ := sm_p hM
  exact x_retCi (pc := 19) C rfl hW ⟨rfl, rfl⟩ (Nat.le_refl 0) (Nat.le_refl 0) dC_Par_readRegister_19
def C_Par_readRegister_55 (t0 : Int32) (sR : CS) (sF : CS) (sN : CS) (sT : CS) (sP : CS) (sI : CS) : Option (Int32 × CS) :=
  (if 0 ≤ t0 then cl (C_Tok_skip  (1 : Int32) sT) (fun r1 u2 => some (t0, u2)) else some ((-3 : Int32), sT))
set_option maxHeartbeats 4000000 in
set_option maxRecDepth 100000 in
theorem bC_Par_readRegister_55  {r : Int32} {u : CS} (C : CxC R_Par p s m args meth c cC_Par_readRegister 4 (some .int) D dA (zz o) A) (t0 : Int32) (sR : CS) (sF : CS) (sN : CS) (sT : CS) (sP : CS) (sI : CS) (hM : C_Par_readRegister_55  t0 sR sF sN sT sP sI = some (r, u)) (H : Heap) (locs : List Loc) (hW : WdC D A s (w_Par dA o b i sR sF sN sT sP sI) H locs) (ls : Array Slot) (hl : lv_has ls 4 [(0, .ref (o 112))]) : W p l e (rmC 2 61 0 0) s m args below meth c H locs 0 0 (MQ below (QC D A (fun Ws' ov => Ws' = (w_Par dA o b i sR sF sN u sP sI) ∧ ov = (some (.int r)))) args s 0 0 A) (F0 m 55 ls [.int t0]) := by
  have hx := C.1.1
  have hb := C.1.2.1
  have hown := C.1.2.2.2.2.1
  have hT := C.1.2.2.2.2.2.1
  unfold C_Par_readRegister_55 at hM
  refine lv_istore_n (pc := 55) (lv' := [(3, .int t0), (0, .ref (o 112))]) hx hb dC_Par_readRegister_55 rfl hl (by decide) rfl (fun ls hl => ?_)
  refine lv_iload_n (pc := 56) hx hb dC_Par_readRegister_56 rfl (lv_at hl 0 rfl) ?_
  refine lv_if_ge (pc := 57) (tgt := 63) hx hb dC_Par_readRegister_57 (by decide) (fun hc => ?_) (fun hc => ?_)
  · replace hM := it_t hc hM
    refine lv_aload_n (pc := 63) hx hb dC_Par_readRegister_63 rfl (lv_at hl 1 rfl) ?_
    refine x_getC (pc := 64) C hW 0 rfl (ci := 8) rfl i_Par 1 (by decide) qc_512 rfl rfl dC_Par_readRegister_64 ?_
    refine lv_iconst (pc := 67) (v := 1) hx hb dC_Par_readRegister_67 (by decide) ?_
    obtain ⟨r1, u2, hr1, hM⟩ := cl_some hM
    refine x_callC (pc := 68) (n' := 41) C hW (kC_Tok_skip l D dA (zz o) o b  (1 : Int32) sT hr1) [30, 31, 32, 33, 0, 1, 2, 3, 4, 5, 6, 7, 8, 9, 10, 11, 12, 13, 14, 15, 16, 17, 18, 19, 20, 21, 22, 23, 24, 25, 26, 27, 28, 29, 34, 35, 36, 37, 38, 39, 40] rfl (by decide +kernel) rfl (ci := 3) rfl (q0 := 30) rfl gC_Par_53 ⟨rfl, by decide, by decide, by decide +kernel⟩ ⟨Nat.le_of_ble_eq_true rfl, Nat.le_of_ble_eq_true rfl⟩ ⟨Nat.le_refl _, Nat.le_refl _⟩ (As := [.int (1 : Int32)]) (n := 1) rfl hl.1 rfl (Nat.le_of_ble_eq_true rfl) dC_Par_readRegister_68 (fun Wc' ov H locs hPo hWn => ?_)
    obtain ⟨rfl, rfl⟩ := hPo
    have hW := hWn (w_Par dA o b i sR sF sN u2 sP sI) rfl rfl
    refine lv_iload_n (pc := 71) hx hb dC_Par_readRegister_71 rfl (lv_at hl 0 rfl) ?_
    obtain ⟨rfl, rfl⟩ := sm_p hM
    exact x_retCi (pc := 72) C rfl hW ⟨rfl, rfl⟩ (Nat.le_refl 0) (Nat.le_refl 0) dC_Par_readRegister_72
  · replace hM := it_f hc hM
    refine lv_bipush (pc := 60) (v := -3) hx hb dC_Par_readRegister_60 (by decide) ?_
    obtain ⟨rfl, rfl⟩ := sm_p hM
    exact x_retCi (pc := 62) C rfl hW ⟨rfl, rfl⟩ (Nat.le_refl 0) (Nat.le_refl 0) dC_Par_readRegister_62
def C_Par_readRegister (x1 : Int32) (sR : CS) (sF : CS) (sN : CS) (sT : CS) (sP : CS) (sI : CS) : Option (Int32 × CS) :=
  cr (C_Tok_kind  (0 : Int32) sT) (fun r1 => (if r1 = 0 then C_Par_readRegister_18  sR sF sN sT sP sI else (if r1 = (1 : Int32) then C_Par_readRegister_18  sR sF sN sT sP sI else cr (C_Par_isRegister  sR sF sN sT sP sI) (fun r2 => (if r2 = 0 then C_Par_readRegister_55  (-1 : Int32) sR sF sN sT sP sI else cr (C_Tok_value  (0 : Int32) sT) (fun r3 => cr (C_Row_get  r3 (rg sN 3)) (fun r4 => cr (C_Fie_registerBits  x1 (r4 - (1 : Int32))) (fun r5 => C_Par_readRegister_55  r5 sR sF sN sT sP sI))))))))
set_option maxHeartbeats 4000000 in
set_option maxRecDepth 100000 in
theorem bC_Par_readRegister_0  {r : Int32} {u : CS} (C : CxC R_Par p s m args meth c cC_Par_readRegister 4 (some .int) D dA (zz o) A) (x1 : Int32) (sR : CS) (sF : CS) (sN : CS) (sT : CS) (sP : CS) (sI : CS) (hM : C_Par_readRegister  x1 sR sF sN sT sP sI = some (r, u)) (H : Heap) (locs : List Loc) (hW : WdC D A s (w_Par dA o b i sR sF sN sT sP sI) H locs) (ls : Array Slot) (hl : lv_has ls 4 [(0, .ref (o 112)), (1, .int x1)]) : W p l e (rmC 2 61 0 0) s m args below meth c H locs 0 0 (MQ below (QC D A (fun Ws' ov => Ws' = (w_Par dA o b i sR sF sN u sP sI) ∧ ov = (some (.int r)))) args s 0 0 A) (F0 m 0 ls []) := by
  have hx := C.1.1
  have hb := C.1.2.1
  have hown := C.1.2.2.2.2.1
  have hT := C.1.2.2.2.2.2.1
  unfold C_Par_readRegister at hM
  refine lv_aload_n (pc := 0) hx hb dC_Par_readRegister_0 rfl (lv_at hl 0 rfl) ?_
  refine x_getC (pc := 1) C hW 0 rfl (ci := 8) rfl i_Par 1 (by decide) qc_512 rfl rfl dC_Par_readRegister_1 ?_
  refine lv_iconst (pc := 4) (v := 0) hx hb dC_Par_readRegister_4 (by decide) ?_
  obtain ⟨r1, hr1, hM⟩ := cr_some hM
  refine x_callQ (pc := 5) (n' := 41) (ov := some (.int r1)) C hW (kC_Tok_kind l D dA (zz o) o b  (0 : Int32) sT hr1) [30, 31, 32, 33, 0, 1, 2, 3, 4, 5, 6, 7, 8, 9, 10, 11, 12, 13, 14, 15, 16, 17, 18, 19, 20, 21, 22, 23, 24, 25, 26, 27, 28, 29, 34, 35, 36, 37, 38, 39, 40] rfl (by decide +kernel) rfl (ci := 3) rfl (q0 := 30) rfl gC_Par_46 ⟨rfl, by decide, by decide, by decide +kernel⟩ ⟨Nat.le_of_ble_eq_true rfl, Nat.le_of_ble_eq_true rfl⟩ ⟨Nat.le_refl _, Nat.le_refl _⟩ (As := [.int (0 : Int32)]) (n := 1) rfl hl.1 rfl (Nat.le_of_ble_eq_true rfl) dC_Par_readRegister_5 ?_
  refine lv_istore_n (pc := 8) (lv' := [(2, .int r1), (0, .ref (o 112)), (1, .int x1)]) hx hb dC_Par_readRegister_8 rfl hl (by decide) rfl (fun ls hl => ?_)
  refine lv_iload_n (pc := 9) hx hb dC_Par_readRegister_9 rfl (lv_at hl 0 rfl) ?_
  refine lv_if_eq (pc := 10) (tgt := 18) hx hb dC_Par_readRegister_10 (by decide) (fun hc => ?_) (fun hc => ?_)
  · replace hM := it_t hc hM
    exact bC_Par_readRegister_18  C  _ _ _ _ _ _ hM _ _ hW _ (lv_sub hl [] rfl)
  · replace hM := it_f hc hM
    refine lv_iload_n (pc := 13) hx hb dC_Par_readRegister_13 rfl (lv_at hl 0 rfl) ?_
    refine lv_iconst (pc := 14) (v := 1) hx hb dC_Par_readRegister_14 (by decide) ?_
    refine lv_icmp_ne (pc := 15) (tgt := 20) hx hb dC_Par_readRegister_15 (by decide) (fun hc => ?_) (fun hc => ?_)
    · replace hM := it_f hc hM
      refine lv_aload_n (pc := 20) hx hb dC_Par_readRegister_20 rfl (lv_at hl 1 rfl) ?_
      obtain ⟨r2, hr2, hM⟩ := cr_some hM
      refine x_callQ (pc := 21) (n' := 41) (ov := some (.int r2)) C hW (kC_Par_isRegister l D dA o b i  sR sF sN sT sP sI hr2) [0, 1, 2, 3, 4, 5, 6, 7, 8, 9, 10, 11, 12, 13, 14, 15, 16, 17, 18, 19, 20, 21, 22, 23, 24, 25, 26, 27, 28, 29, 30, 31, 32, 33, 34, 35, 36, 37, 38, 39, 40] rfl (by decide +kernel) rfl (ci := 8) rfl (q0 := 0) rfl gC_Par_131 ⟨rfl, by decide, by decide, by decide +kernel⟩ ⟨Nat.le_of_ble_eq_true rfl, Nat.le_of_ble_eq_true rfl⟩ ⟨Nat.le_refl _, Nat.le_refl _⟩ (As := []) (n := 0) rfl hl.1 rfl (Nat.le_of_ble_eq_true rfl) dC_Par_readRegister_21 ?_
      refine lv_if_eq (pc := 24) (tgt := 54) hx hb dC_Par_readRegister_24 (by decide) (fun hc => ?_) (fun hc => ?_)
      · replace hM := it_t hc hM
        refine lv_iconst (pc := 54) (v := -1) hx hb dC_Par_readRegister_54 (by decide) ?_
        exact bC_Par_readRegister_55  C  _ _ _ _ _ _ _ hM _ _ hW _ (lv_sub hl [1] rfl)
      · replace hM := it_f hc hM
        refine lv_iload_n (pc := 27) hx hb dC_Par_readRegister_27 rfl (lv_at hl 2 rfl) ?_
        refine lv_aload_n (pc := 28) hx hb dC_Par_readRegister_28 rfl (lv_at hl 1 rfl) ?_
        refine x_getC (pc := 29) C hW 0 rfl (ci := 8) rfl i_Par 0 (by decide) qc_511 rfl rfl dC_Par_readRegister_29 ?_
        refine x_getC (pc := 32) C hW 10 rfl (ci := 2) rfl i_Nam 3 (by decide) qc_222 rfl rfl dC_Par_readRegister_32 ?_
        refine lv_aload_n (pc := 35) hx hb dC_Par_readRegister_35 rfl (lv_at hl 1 rfl) ?_
        refine x_getC (pc := 36) C hW 0 rfl (ci := 8) rfl i_Par 1 (by decide) qc_512 rfl rfl dC_Par_readRegister_36 ?_
        refine lv_iconst (pc := 39) (v := 0) hx hb dC_Par_readRegister_39 (by decide) ?_
        obtain ⟨r3, hr3, hM⟩ := cr_some hM
        refine x_callQ (pc := 40) (n' := 41) (ov := some (.int r3)) C hW (kC_Tok_value l D dA (zz o) o b  (0 : Int32) sT hr3) [30, 31, 32, 33, 0, 1, 2, 3, 4, 5, 6, 7, 8, 9, 10, 11, 12, 13, 14, 15, 16, 17, 18, 19, 20, 21, 22, 23, 24, 25, 26, 27, 28, 29, 34, 35, 36, 37, 38, 39, 40] rfl (by decide +kernel) rfl (ci := 3) rfl (q0 := 30) rfl gC_Par_57 ⟨rfl, by decide, by decide, by decide +kernel⟩ ⟨Nat.le_of_ble_eq_true rfl, Nat.le_of_ble_eq_true rfl⟩ ⟨Nat.le_refl _, Nat.le_refl _⟩ (As := [.int (0 : Int32)]) (n := 1) rfl hl.1 rfl (Nat.le_of_ble_eq_true rfl) dC_Par_readRegister_40 ?_
        obtain ⟨r4, hr4, hM⟩ := cr_some hM
        refine x_callQ (pc := 43) (n' := 41) (ov := some (.int r4)) C hW (kC_Row_get l D dA (zz o) (fun _ => o 20) (fun _ => b 20)  r3 (rg sN 3) hr4) [17, 18, 0, 1, 2, 3, 4, 5, 6, 7, 8, 9, 10, 11, 12, 13, 14, 15, 16, 19, 20, 21, 22, 23, 24, 25, 26, 27, 28, 29, 30, 31, 32, 33, 34, 35, 36, 37, 38, 39, 40] rfl (by decide +kernel) rfl (ci := 1) rfl (q0 := 17) rfl gC_Par_91 ⟨rfl, by decide, by decide, by decide +kernel⟩ ⟨Nat.le_of_ble_eq_true rfl, Nat.le_of_ble_eq_true rfl⟩ ⟨Nat.le_refl _, Nat.le_refl _⟩ (As := [.int r3]) (n := 1) rfl hl.1 rfl (Nat.le_of_ble_eq_true rfl) dC_Par_readRegister_43 ?_
        refine lv_iconst (pc := 46) (v := 1) hx hb dC_Par_readRegister_46 (by decide) ?_
        refine lv_isub (pc := 47) hx hb dC_Par_readRegister_47 ?_
        obtain ⟨r5, hr5, hM⟩ := cr_some hM
        refine x_callU (pc := 48) (ov := some (.int r5)) C.1 (kC_Fie_registerBits l  x1 (r4 - (1 : Int32)) hr5) qc_1236 qc_1234 qc_1235 qc_35 ⟨by decide, by decide, by decide +kernel⟩ ⟨rfl, rfl⟩ ⟨Nat.le_of_ble_eq_true rfl, Nat.le_of_ble_eq_true rfl⟩ ⟨Nat.le_refl _, Nat.le_refl _⟩ (As := [.int x1, .int (r4 - (1 : Int32))]) (n := 2) rfl hl.1 rfl (Nat.le_of_ble_eq_true rfl) dC_Par_readRegister_48 ?_
        refine lv_goto (pc := 51) (tgt := 55) hx hb dC_Par_readRegister_51 (by decide) ?_
        exact bC_Par_readRegister_55  C  _ _ _ _ _ _ _ hM _ _ hW _ (lv_sub hl [1] rfl)
    · replace hM := it_t hc hM
      exact bC_Par_readRegister_18  C  _ _ _ _ _ _ hM _ _ hW _ (lv_sub hl [] rfl)
theorem kC_Par_readRegister (l : Launch) (D : va_G) (dA : Nat → ClassId) (o b i : Nat → Nat) (x1 : Int32) (sR : CS) (sF : CS) (sN : CS) (sT : CS) (sP : CS) (sI : CS) {r : Int32} {u : CS} (hM : C_Par_readRegister x1 sR sF sN sT sP sI = some (r, u)) : KC l D dA (zz o) yC_Par_readRegister cC_Par_readRegister 4 (some .int) 2 61 0 0 (w_Par dA o b i sR sF sN sT sP sI) [.ref (o 112), .int x1] (fun Ws' ov => Ws' = (w_Par dA o b i sR sF sN u sP sI) ∧ ov = (some (.int r))) := x_enterC (by decide +kernel) (Nat.le_of_ble_eq_true rfl) (fun p e s m args below meth c A C _ hW ls hl => bC_Par_readRegister_0 C x1 sR sF sN sT sP sI hM s.heap [] hW ls hl)
def C_Par_readFixed_94 (N : Nat) (x4 : Int32) (sR : CS) (sF : CS) (sN : CS) (sT : CS) (sP : CS) (sI : CS) : Option ((Int32 × (CS × CS)) × (Nat × Nat)) :=
  some ((x4, (sF, sT)), (0, 0))
set_option maxHeartbeats 4000000 in
set_option maxRecDepth 100000 in
theorem bC_Par_readFixed_94 (N : Nat)  {r : Int32} {u : CS × CS} {DC DS : Nat} (C : CxC R_Par p s m args meth c cC_Par_readFixed 5 (some .int) D dA (zz o) A) (x4 : Int32) (sR : CS) (sF : CS) (sN : CS) (sT : CS) (sP : CS) (sI : CS) (dc ds kc ks : Nat) (hM : C_Par_readFixed_94 N  x4 sR sF sN sT sP sI = some ((r, u), (dc, ds))) (hdc : kc + dc ≤ DC) (hds : ks + ds ≤ DS) (b : Nat → Nat) (H : Heap) (locs : List Loc) (hW : WdC D A s (w_Par dA o b i sR sF sN sT sP sI) H locs) (ls : Array Slot) (hl : lv_has ls 5 [(4, .int x4)]) : W p l e (rmC 6 193 DC DS) s m args below meth c H locs kc ks (MQ below (QC D A (fun Ws' ov => ∃ b' : Nat → Nat, Ws' = (w_Par dA o b' i sR u.1 sN u.2 sP sI) ∧ ov = (some (.int r)))) args s DC DS A) (F0 m 94 ls []) := by
  have hx := C.1.1
  have hb := C.1.2.1
  have hown := C.1.2.2.2.2.1
  have hT := C.1.2.2.2.2.2.1
  unfold C_Par_readFixed_94 at hM
  refine lv_iload (pc := 94) hx hb dC_Par_readFixed_94 (lv_at hl 0 rfl) ?_
  obtain ⟨rfl, rfl, rfl, rfl⟩ := sm_q hM
  exact x_retCi (pc := 96) C rfl hW ⟨_, rfl, rfl⟩ (by omega) (by omega) dC_Par_readFixed_96
def C_Par_readFixed_91 (N : Nat)  (sR : CS) (sF : CS) (sN : CS) (sT : CS) (sP : CS) (sI : CS) : Option ((Int32 × (CS × CS)) × (Nat × Nat)) :=
  some (((6 : Int32), (sF, sT)), (0, 0))
set_option maxHeartbeats 4000000 in
set_option maxRecDepth 100000 in
theorem bC_Par_readFixed_91 (N : Nat)  {r : Int32} {u : CS × CS} {DC DS : Nat} (C : CxC R_Par p s m args meth c cC_Par_readFixed 5 (some .int) D dA (zz o) A)  (sR : CS) (sF : CS) (sN : CS) (sT : CS) (sP : CS) (sI : CS) (dc ds kc ks : Nat) (hM : C_Par_readFixed_91 N   sR sF sN sT sP sI = some ((r, u), (dc, ds))) (hdc : kc + dc ≤ DC) (hds : ks + ds ≤ DS) (b : Nat → Nat) (H : Heap) (locs : List Loc) (hW : WdC D A s (w_Par dA o b i sR sF sN sT sP sI) H locs) (ls : Array Slot) (hl : lv_has ls 5 []) : W p l e (rmC 6 193 DC DS) s m args below meth c H locs kc ks (MQ below (QC D A (fun Ws' ov => ∃ b' : Nat → Nat, Ws' = (w_Par dA o b' i sR u.1 sN u.2 sP sI) ∧ ov = (some (.int r)))) args s DC DS A) (F0 m 91 ls []) := by
  have hx := C.1.1
  have hb := C.1.2.1
  have hown := C.1.2.2.2.2.1
  have hT := C.1.2.2.2.2.2.1
  unfold C_Par_readFixed_91 at hM
  refine lv_bipush (pc := 91) (v := 6) hx hb dC_Par_readFixed_91 (by decide) ?_
  obtain ⟨rfl, rfl, rfl, rfl⟩ := sm_q hM
  exact x_retCi (pc := 93) C rfl hW ⟨_, rfl, rfl⟩ (by omega) (by omega) dC_Par_readFixed_93
def C_Par_readFixed (N : Nat) (x1 : Int32) (x2 : Int32) (sR : CS) (sF : CS) (sN : CS) (sT : CS) (sP : CS) (sI : CS) : Option ((Int32 × (CS × CS)) × (Nat × Nat)) :=
  cr (C_Frm_end  sF sN sT sP sI) (fun r1 => ct (C_Frm_compile N sF sN sT sP sI) (fun r2 u3 => (if r2 = 0 then some (((1 : Int32), (u3.1, u3.2)), (0, 0)) else (if (u3.1.1 0) = 0 then some (((5 : Int32), (u3.1, u3.2)), (0, 0)) else cr (C_Frm_end  u3.1 sN u3.2 sP sI) (fun r9 => ct (C_Frm_evaluate N r1 r9 (sP.1 6) u3.1 sN u3.2 sP sI) (fun r10 u11 => cl (C_Frm_dropFrom  r1 u11 sN u3.2 sP sI) (fun r17 u18 => (if r10 = 0 then (if (u18.1 1) < x1 then C_Par_readFixed_91 N  sR u18 sN u3.2 sP sI else (if (u18.1 1) ≤ x2 then C_Par_readFixed_94 N  r10 sR u18 sN u3.2 sP sI else C_Par_readFixed_91 N  sR u18 sN u3.2 sP sI)) else C_Par_readFixed_94 N  r10 sR u18 sN u3.2 sP sI))))))))
set_option maxHeartbeats 4000000 in
set_option maxRecDepth 100000 in
theorem bC_Par_readFixed_0 (N : Nat)  {r : Int32} {u : CS × CS} {DC DS : Nat} (C : CxC R_Par p s m args meth c cC_Par_readFixed 5 (some .int) D dA (zz o) A) (x1 : Int32) (x2 : Int32) (sR : CS) (sF : CS) (sN : CS) (sT : CS) (sP : CS) (sI : CS) (dc ds kc ks : Nat) (hM : C_Par_readFixed N  x1 x2 sR sF sN sT sP sI = some ((r, u), (dc, ds))) (hdc : kc + dc ≤ DC) (hds : ks + ds ≤ DS) (b : Nat → Nat) (H : Heap) (locs : List Loc) (hW : WdC D A s (w_Par dA o b i sR sF sN sT sP sI) H locs) (ls : Array Slot) (hl : lv_has ls 5 [(0, .ref (o 112)), (1, .int x1), (2, .int x2)]) : W p l e (rmC 6 193 DC DS) s m args below meth c H locs kc ks (MQ below (QC D A (fun Ws' ov => ∃ b' : Nat → Nat, Ws' = (w_Par dA o b' i sR u.1 sN u.2 sP sI) ∧ ov = (some (.int r)))) args s DC DS A) (F0 m 0 ls []) := by
  have hx := C.1.1
  have hb := C.1.2.1
  have hown := C.1.2.2.2.2.1
  have hT := C.1.2.2.2.2.2.1
  unfold C_Par_readFixed at hM
  refine lv_aload_n (pc := 0) hx hb dC_Par_readFixed_0 rfl (lv_at hl 0 rfl) ?_
  refine x_getC (pc := 1) C hW 0 rfl (ci := 8) rfl i_Par 3 (by decide) qc_514 rfl rfl dC_Par_readFixed_1 ?_
  obtain ⟨r1, hr1, hM⟩ := cr_some hM
  refine x_callQ (pc := 4) (n' := 41) (ov := some (.int r1)) C hW (kC_Frm_end l D dA o b i  sF sN sT sP sI hr1) [1, 2, 3, 4, 5, 6, 7, 8, 9, 10, 11, 12, 13, 14, 15, 16, 17, 18, 19, 20, 21, 22, 23, 24, 25, 26, 27, 28, 29, 30, 31, 32, 33, 34, 35, 36, 37, 38, 39, 40, 0] rfl (by decide +kernel) rfl (ci := 7) rfl (q0 := 1) rfl gC_Par_153 ⟨rfl, by decide, by decide, by decide +kernel⟩ ⟨Nat.le_of_ble_eq_true rfl, Nat.le_of_ble_eq_true rfl⟩ ⟨show _ ≤ DC by omega, show _ ≤ DS by omega⟩ (As := []) (n := 0) rfl hl.1 rfl (Nat.le_of_ble_eq_true rfl) dC_Par_readFixed_4 ?_
  refine lv_istore_n (pc := 7) (lv' := [(3, .int r1), (0, .ref (o 112)), (1, .int x1), (2, .int x2)]) hx hb dC_Par_readFixed_7 rfl hl (by decide) rfl (fun ls hl => ?_)
  refine lv_aload_n (pc := 8) hx hb dC_Par_readFixed_8 rfl (lv_at hl 1 rfl) ?_
  refine x_getC (pc := 9) C hW 0 rfl (ci := 8) rfl i_Par 3 (by decide) qc_514 rfl rfl dC_Par_readFixed_9 ?_
  obtain ⟨r2, u3, da4, ea5, db6, eb7, hr2, hM, hqda4, hpda4⟩ := ct_some hM
  refine x_callC (pc := 12) (n' := 41) C hW (kC_Frm_compile l D dA o b i N sF sN sT sP sI hr2) [1, 2, 3, 4, 5, 6, 7, 8, 9, 10, 11, 12, 13, 14, 15, 16, 17, 18, 19, 20, 21, 22, 23, 24, 25, 26, 27, 28, 29, 30, 31, 32, 33, 34, 35, 36, 37, 38, 39, 40, 0] rfl (by decide +kernel) rfl (ci := 7) rfl (q0 := 1) rfl gC_Par_174 ⟨rfl, by decide, by decide, by decide +kernel⟩ ⟨Nat.le_of_ble_eq_true rfl, Nat.le_of_ble_eq_true rfl⟩ ⟨show _ + da4 ≤ DC by omega, show _ + ea5 ≤ DS by omega⟩ (As := []) (n := 0) rfl hl.1 rfl (Nat.le_of_ble_eq_true rfl) dC_Par_readFixed_12 (fun Wc' ov H locs hPo hWn => ?_)
  obtain ⟨b8, rfl, rfl⟩ := hPo
  have hW := hWn (w_Par dA o (mxs [1, 2, 4, 6] b8 b) i sR u3.1 sN u3.2 sP sI) rfl rfl
  generalize mxs [1, 2, 4, 6] b8 b = b at hW
  refine lv_if_ne (pc := 15) (tgt := 20) hx hb dC_Par_readFixed_15 (by decide) (fun hc => ?_) (fun hc => ?_)
  · replace hM := it_f hc hM
    refine lv_aload_n (pc := 20) hx hb dC_Par_readFixed_20 rfl (lv_at hl 1 rfl) ?_
    refine x_getC (pc := 21) C hW 0 rfl (ci := 8) rfl i_Par 3 (by decide) qc_514 rfl rfl dC_Par_readFixed_21 ?_
    refine x_getC (pc := 24) C hW 1 rfl (ci := 7) rfl i_Frm 0 (by decide) qc_463 rfl rfl dC_Par_readFixed_24 ?_
    refine lv_if_ne (pc := 27) (tgt := 32) hx hb dC_Par_readFixed_27 (by decide) (fun hc => ?_) (fun hc => ?_)
    · replace hM := it_f hc hM
      refine lv_aload_n (pc := 32) hx hb dC_Par_readFixed_32 rfl (lv_at hl 1 rfl) ?_
      refine x_getC (pc := 33) C hW 0 rfl (ci := 8) rfl i_Par 3 (by decide) qc_514 rfl rfl dC_Par_readFixed_33 ?_
      refine lv_iload_n (pc := 36) hx hb dC_Par_readFixed_36 rfl (lv_at hl 0 rfl) ?_
      refine lv_aload_n (pc := 37) hx hb dC_Par_readFixed_37 rfl (lv_at hl 1 rfl) ?_
      refine x_getC (pc := 38) C hW 0 rfl (ci := 8) rfl i_Par 3 (by decide) qc_514 rfl rfl dC_Par_readFixed_38 ?_
      obtain ⟨r9, hr9, hM⟩ := cr_some hM
      refine x_callQ (pc := 41) (n' := 41) (ov := some (.int r9)) C hW (kC_Frm_end l D dA o b i  u3.1 sN u3.2 sP sI hr9) [1, 2, 3, 4, 5, 6, 7, 8, 9, 10, 11, 12, 13, 14, 15, 16, 17, 18, 19, 20, 21, 22, 23, 24, 25, 26, 27, 28, 29, 30, 31, 32, 33, 34, 35, 36, 37, 38, 39, 40, 0] rfl (by decide +kernel) rfl (ci := 7) rfl (q0 := 1) rfl gC_Par_153 ⟨rfl, by decide, by decide, by decide +kernel⟩ ⟨Nat.le_of_ble_eq_true rfl, Nat.le_of_ble_eq_true rfl⟩ ⟨show _ ≤ DC by omega, show _ ≤ DS by omega⟩ (As := []) (n := 0) rfl hl.1 rfl (Nat.le_of_ble_eq_true rfl) dC_Par_readFixed_41 ?_
      refine lv_aload_n (pc := 44) hx hb dC_Par_readFixed_44 rfl (lv_at hl 1 rfl) ?_
      refine x_getC (pc := 45) C hW 0 rfl (ci := 8) rfl i_Par 2 (by decide) qc_513 rfl rfl dC_Par_readFixed_45 ?_
      refine x_getC (pc := 48) C hW 34 rfl (ci := 5) rfl i_Prg 7 (by decide) qc_402 rfl rfl dC_Par_readFixed_48 ?_
      obtain ⟨r10, u11, da12, ea13, db14, eb15, hr10, hM, hqda12, hpda12⟩ := ct_some hM
      refine x_callC (pc := 51) (n' := 41) C hW (kC_Frm_evaluate l D dA o b i N r1 r9 (sP.1 6) u3.1 sN u3.2 sP sI hr10) [1, 2, 3, 4, 5, 6, 7, 8, 9, 10, 11, 12, 13, 14, 15, 16, 17, 18, 19, 20, 21, 22, 23, 24, 25, 26, 27, 28, 29, 30, 31, 32, 33, 34, 35, 36, 37, 38, 39, 40, 0] rfl (by decide +kernel) rfl (ci := 7) rfl (q0 := 1) rfl gC_Par_198 ⟨rfl, by decide, by decide, by decide +kernel⟩ ⟨Nat.le_of_ble_eq_true rfl, Nat.le_of_ble_eq_true rfl⟩ ⟨show _ + da12 ≤ DC by omega, show _ + ea13 ≤ DS by omega⟩ (As := [.int r1, .int r9, .int (sP.1 6)]) (n := 3) rfl hl.1 rfl (Nat.le_of_ble_eq_true rfl) dC_Par_readFixed_51 (fun Wc' ov H locs hPo hWn => ?_)
      obtain ⟨b16, rfl, rfl⟩ := hPo
      have hW := hWn (w_Par dA o (mxs [1, 2, 4, 6] b16 b) i sR u11 sN u3.2 sP sI) rfl rfl
      generalize mxs [1, 2, 4, 6] b16 b = b at hW
      refine lv_istore (pc := 54) (lv' := [(4, .int r10), (3, .int r1), (0, .ref (o 112)), (1, .int x1), (2, .int x2)]) hx hb dC_Par_readFixed_54 hl (by decide) rfl (fun ls hl => ?_)
      refine lv_aload_n (pc := 56) hx hb dC_Par_readFixed_56 rfl (lv_at hl 2 rfl) ?_
      refine x_getC (pc := 57) C hW 0 rfl (ci := 8) rfl i_Par 3 (by decide) qc_514 rfl rfl dC_Par_readFixed_57 ?_
      refine lv_iload_n (pc := 60) hx hb dC_Par_readFixed_60 rfl (lv_at hl 1 rfl) ?_
      obtain ⟨r17, u18, hr17, hM⟩ := cl_some hM
      refine x_callC (pc := 61) (n' := 41) C hW (kC_Frm_dropFrom l D dA o b i  r1 u11 sN u3.2 sP sI hr17) [1, 2, 3, 4, 5, 6, 7, 8, 9, 10, 11, 12, 13, 14, 15, 16, 17, 18, 19, 20, 21, 22, 23, 24, 25, 26, 27, 28, 29, 30, 31, 32, 33, 34, 35, 36, 37, 38, 39, 40, 0] rfl (by decide +kernel) rfl (ci := 7) rfl (q0 := 1) rfl gC_Par_202 ⟨rfl, by decide, by decide, by decide +kernel⟩ ⟨Nat.le_of_ble_eq_true rfl, Nat.le_of_ble_eq_true rfl⟩ ⟨show _ + 0 ≤ DC by omega, show _ + 0 ≤ DS by omega⟩ (As := [.int r1]) (n := 1) rfl hl.1 rfl (Nat.le_of_ble_eq_true rfl) dC_Par_readFixed_61 (fun Wc' ov H locs hPo hWn => ?_)
      obtain ⟨rfl, rfl⟩ := hPo
      have hW := hWn (w_Par dA o b i sR u18 sN u3.2 sP sI) rfl rfl
      refine lv_iload (pc := 64) hx hb dC_Par_readFixed_64 (lv_at hl 0 rfl) ?_
      refine lv_if_ne (pc := 66) (tgt := 94) hx hb dC_Par_readFixed_66 (by decide) (fun hc => ?_) (fun hc => ?_)
      · replace hM := it_f hc hM
        exact bC_Par_readFixed_94 N  C  _ _ _ _ _ _ _ _ _ _ _ hM (by omega) (by omega) _ _ _ hW _ (lv_sub hl [0] rfl)
      · replace hM := it_t hc hM
        refine lv_aload_n (pc := 69) hx hb dC_Par_readFixed_69 rfl (lv_at hl 2 rfl) ?_
        refine x_getC (pc := 70) C hW 0 rfl (ci := 8) rfl i_Par 3 (by decide) qc_514 rfl rfl dC_Par_readFixed_70 ?_
        refine x_getC (pc := 73) C hW 1 rfl (ci := 7) rfl i_Frm 1 (by decide) qc_466 rfl rfl dC_Par_readFixed_73 ?_
        refine lv_iload_n (pc := 76) hx hb dC_Par_readFixed_76 rfl (lv_at hl 3 rfl) ?_
        refine lv_icmp_lt (pc := 77) (tgt := 91) hx hb dC_Par_readFixed_77 (by decide) (fun hc => ?_) (fun hc => ?_)
        · replace hM := it_t hc hM
          exact bC_Par_readFixed_91 N  C  _ _ _ _ _ _ _ _ _ _ hM (by omega) (by omega) _ _ _ hW _ (lv_sub hl [] rfl)
        · replace hM := it_f hc hM
          refine lv_aload_n (pc := 80) hx hb dC_Par_readFixed_80 rfl (lv_at hl 2 rfl) ?_
          refine x_getC (pc := 81) C hW 0 rfl (ci := 8) rfl i_Par 3 (by decide) qc_514 rfl rfl dC_Par_readFixed_81 ?_
          refine x_getC (pc := 84) C hW 1 rfl (ci := 7) rfl i_Frm 1 (by decide) qc_466 rfl rfl dC_Par_readFixed_84 ?_
          refine lv_iload_n (pc := 87) hx hb dC_Par_readFixed_87 rfl (lv_at hl 4 rfl) ?_
          refine lv_icmp_le (pc := 88) (tgt := 94) hx hb dC_Par_readFixed_88 (by decide) (fun hc => ?_) (fun hc => ?_)
          · replace hM := it_t hc hM
            exact bC_Par_readFixed_94 N  C  _ _ _ _ _ _ _ _ _ _ _ hM (by omega) (by omega) _ _ _ hW _ (lv_sub hl [0] rfl)
          · replace hM := it_f hc hM
            exact bC_Par_readFixed_91 N  C  _ _ _ _ _ _ _ _ _ _ hM (by omega) (by omega) _ _ _ hW _ (lv_sub hl [] rfl)
    · replace hM := it_t hc hM
      refine lv_iconst (pc := 30) (v := 5) hx hb dC_Par_readFixed_30 (by decide) ?_
      obtain ⟨rfl, rfl, rfl, rfl⟩ := sm_q hM
      exact x_retCi (pc := 31) C rfl hW ⟨_, rfl, rfl⟩ (by omega) (by omega) dC_Par_readFixed_31
  · replace hM := it_t hc hM
    refine lv_iconst (pc := 18) (v := 1) hx hb dC_Par_readFixed_18 (by decide) ?_
    obtain ⟨rfl, rfl, rfl, rfl⟩ := sm_q hM
    exact x_retCi (pc := 19) C rfl hW ⟨_, rfl, rfl⟩ (by omega) (by omega) dC_Par_readFixed_19
theorem kC_Par_readFixed (l : Launch) (D : va_G) (dA : Nat → ClassId) (o b i : Nat → Nat) (N : Nat) (x1 : Int32) (x2 : Int32) (sR : CS) (sF : CS) (sN : CS) (sT : CS) (sP : CS) (sI : CS) {r : Int32} {u : CS × CS} {dc ds : Nat} (hM : C_Par_readFixed N x1 x2 sR sF sN sT sP sI = some ((r, u), (dc, ds))) : KC l D dA (zz o) yC_Par_readFixed cC_Par_readFixed 5 (some .int) 6 193 dc ds (w_Par dA o b i sR sF sN sT sP sI) [.ref (o 112), .int x1, .int x2] (fun Ws' ov => ∃ b' : Nat → Nat, Ws' = (w_Par dA o b' i sR u.1 sN u.2 sP sI) ∧ ov = (some (.int r))) := x_enterC (by decide +kernel) (Nat.le_of_ble_eq_true rfl) (fun p e s m args below meth c A C _ hW ls hl => bC_Par_readFixed_0 N C x1 x2 sR sF sN sT sP sI dc ds 0 0 hM (by omega) (by omega) b s.heap [] hW ls hl)
def C_Par_readEquate_101 (N : Nat) (x2 : Int32) (sR : CS) (sF : CS) (sN : CS) (sT : CS) (sP : CS) (sI : CS) : Option ((Int32 × (CS × CS × CS × CS)) × (Nat × Nat)) :=
  some ((x2, (sF, sN, sT, sP)), (0, 0))
set_option maxHeartbeats 4000000 in
set_option maxRecDepth 100000 in
theorem bC_Par_readEquate_101 (N : Nat)  {r : Int32} {u : CS × CS × CS × CS} {DC DS : Nat} (C : CxC R_Par p s m args meth c cC_Par_readEquate 3 (some .int) D dA (zz o) A) (x2 : Int32) (sR : CS) (sF : CS) (sN : CS) (sT : CS) (sP : CS) (sI : CS) (dc ds kc ks : Nat) (hM : C_Par_readEquate_101 N  x2 sR sF sN sT sP sI = some ((r, u), (dc, ds))) (hdc : kc + dc ≤ DC) (hds : ks + ds ≤ DS) (b : Nat → Nat) (H : Heap) (locs : List Loc) (hW : WdC D A s (w_Par dA o b i sR sF sN sT sP sI) H locs) (ls : Array Slot) (hl : lv_has ls 3 [(2, .int x2)]) : W p l e (rmC 7 217 DC DS) s m args below meth c H locs kc ks (MQ below (QC D A (fun Ws' ov => ∃ b' : Nat → Nat, Ws' = (w_Par dA o b' i sR u.1 u.2.1 u.2.2.1 u.2.2.2 sI) ∧ ov = (some (.int r)))) args s DC DS A) (F0 m 101 ls []) := by
  have hx := C.1.1
  have hb := C.1.2.1
  have hown := C.1.2.2.2.2.1
  have hT := C.1.2.2.2.2.2.1
  unfold C_Par_readEquate_101 at hM
  refine lv_iload_n (pc := 101) hx hb dC_Par_readEquate_101 rfl (lv_at hl 0 rfl) ?_
  obtain ⟨rfl, rfl, rfl, rfl⟩ := sm_q hM
  exact x_retCi (pc := 102) C rfl hW ⟨_, rfl, rfl⟩ (by omega) (by omega) dC_Par_readEquate_102
def C_Par_readEquate (N : Nat)  (sR : CS) (sF : CS) (sN : CS) (sT : CS) (sP : CS) (sI : CS) : Option ((Int32 × (CS × CS × CS × CS)) × (Nat × Nat)) :=
  cr (C_Tok_kind  (0 : Int32) sT) (fun r1 => (if r1 = (2 : Int32) then cr (C_Tok_value  (0 : Int32) sT) (fun r2 => cr (C_Nam_isFree  r2 sN) (fun r3 => (if r3 = 0 then some (((4 : Int32), (sF, sN, sT, sP)), (0, 0)) else cr (C_Tok_kind  (1 : Int32) sT) (fun r4 => (if r4 = (44 : Int32) then cl (C_Tok_skip  (2 : Int32) sT) (fun r5 u6 => ct (C_Par_readFixed N (-2147483648 : Int32) (2147483647 : Int32) sR sF sN u6 sP sI) (fun r7 u8 => (if r7 = 0 then cl (C_Nam_define  r2 (2 : Int32) (u8.1.1 1) sN) (fun r14 u15 => bnd (cF sP 0 ((sP.1 0) + (1 : Int32))) (fun sP16 => C_Par_readEquate_101 N  r7 sR u8.1 u15 u8.2 sP16 sI)) else C_Par_readEquate_101 N  r7 sR u8.1 sN u8.2 sP sI))) else some (((1 : Int32), (sF, sN, sT, sP)), (0, 0))))))) else some (((1 : Int32), (sF, sN, sT, sP)), (0, 0))))
set_option maxHeartbeats 4000000 in
set_option maxRecDepth 100000 in
theorem bC_Par_readEquate_0 (N : Nat)  {r : Int32} {u : CS × CS × CS × CS} {DC DS : Nat} (C : CxC R_Par p s m args meth c cC_Par_readEquate 3 (some .int) D dA (zz o) A)  (sR : CS) (sF : CS) (sN : CS) (sT : CS) (sP : CS) (sI : CS) (dc ds kc ks : Nat) (hM : C_Par_readEquate N   sR sF sN sT sP sI = some ((r, u), (dc, ds))) (hdc : kc + dc ≤ DC) (hds : ks + ds ≤ DS) (b : Nat → Nat) (H : Heap) (locs : List Loc) (hW : WdC D A s (w_Par dA o b i sR sF sN sT sP sI) H locs) (ls : Array Slot) (hl : lv_has ls 3 [(0, .ref (o 112))]) : W p l e (rmC 7 217 DC DS) s m args below meth c H locs kc ks (MQ below (QC D A (fun Ws' ov => ∃ b' : Nat → Nat, Ws' = (w_Par dA o b' i sR u.1 u.2.1 u.2.2.1 u.2.2.2 sI) ∧ ov = (some (.int r)))) args s DC DS A) (F0 m 0 ls []) := by
  have hx := C.1.1
  have hb := C.1.2.1
  have hown := C.1.2.2.2.2.1
  have hT := C.1.2.2.2.2.2.1
  unfold C_Par_readEquate at hM
  refine lv_aload_n (pc := 0) hx hb dC_Par_readEquate_0 rfl (lv_at hl 0 rfl) ?_
  refine x_getC (pc := 1) C hW 0 rfl (ci := 8) rfl i_Par 1 (by decide) qc_512 rfl rfl dC_Par_readEquate_1 ?_
  refine lv_iconst (pc := 4) (v := 0) hx hb dC_Par_readEquate_4 (by decide) ?_
  obtain ⟨r1, hr1, hM⟩ := cr_some hM
  refine x_callQ (pc := 5) (n' := 41) (ov := some (.int r1)) C hW (kC_Tok_kind l D dA (zz o) o b  (0 : Int32) sT hr1) [30, 31, 32, 33, 0, 1, 2, 3, 4, 5, 6, 7, 8, 9, 10, 11, 12, 13, 14, 15, 16, 17, 18, 19, 20, 21, 22, 23, 24, 25, 26, 27, 28, 29, 34, 35, 36, 37, 38, 39, 40] rfl (by decide +kernel) rfl (ci := 3) rfl (q0 := 30) rfl gC_Par_46 ⟨rfl, by decide, by decide, by decide +kernel⟩ ⟨Nat.le_of_ble_eq_true rfl, Nat.le_of_ble_eq_true rfl⟩ ⟨show _ ≤ DC by omega, show _ ≤ DS by omega⟩ (As := [.int (0 : Int32)]) (n := 1) rfl hl.1 rfl (Nat.le_of_ble_eq_true rfl) dC_Par_readEquate_5 ?_
  refine lv_iconst (pc := 8) (v := 2) hx hb dC_Par_readEquate_8 (by decide) ?_
  refine lv_icmp_eq (pc := 9) (tgt := 14) hx hb dC_Par_readEquate_9 (by decide) (fun hc => ?_) (fun hc => ?_)
  · replace hM := it_t hc hM
    refine lv_aload_n (pc := 14) hx hb dC_Par_readEquate_14 rfl (lv_at hl 0 rfl) ?_
    refine x_getC (pc := 15) C hW 0 rfl (ci := 8) rfl i_Par 1 (by decide) qc_512 rfl rfl dC_Par_readEquate_15 ?_
    refine lv_iconst (pc := 18) (v := 0) hx hb dC_Par_readEquate_18 (by decide) ?_
    obtain ⟨r2, hr2, hM⟩ := cr_some hM
    refine x_callQ (pc := 19) (n' := 41) (ov := some (.int r2)) C hW (kC_Tok_value l D dA (zz o) o b  (0 : Int32) sT hr2) [30, 31, 32, 33, 0, 1, 2, 3, 4, 5, 6, 7, 8, 9, 10, 11, 12, 13, 14, 15, 16, 17, 18, 19, 20, 21, 22, 23, 24, 25, 26, 27, 28, 29, 34, 35, 36, 37, 38, 39, 40] rfl (by decide +kernel) rfl (ci := 3) rfl (q0 := 30) rfl gC_Par_57 ⟨rfl, by decide, by decide, by decide +kernel⟩ ⟨Nat.le_of_ble_eq_true rfl, Nat.le_of_ble_eq_true rfl⟩ ⟨show _ ≤ DC by omega, show _ ≤ DS by omega⟩ (As := [.int (0 : Int32)]) (n := 1) rfl hl.1 rfl (Nat.le_of_ble_eq_true rfl) dC_Par_readEquate_19 ?_
    refine lv_istore_n (pc := 22) (lv' := [(1, .int r2), (0, .ref (o 112))]) hx hb dC_Par_readEquate_22 rfl hl (by decide) rfl (fun ls hl => ?_)
    refine lv_aload_n (pc := 23) hx hb dC_Par_readEquate_23 rfl (lv_at hl 1 rfl) ?_
    refine x_getC (pc := 24) C hW 0 rfl (ci := 8) rfl i_Par 0 (by decide) qc_511 rfl rfl dC_Par_readEquate_24 ?_
    refine lv_iload_n (pc := 27) hx hb dC_Par_readEquate_27 rfl (lv_at hl 0 rfl) ?_
    obtain ⟨r3, hr3, hM⟩ := cr_some hM
    refine x_callQ (pc := 28) (n' := 41) (ov := some (.int r3)) C hW (kC_Nam_isFree l D dA (zz o) o b  r2 sN hr3) [10, 11, 12, 13, 14, 15, 16, 17, 18, 19, 20, 21, 22, 23, 24, 25, 26, 27, 28, 29, 0, 1, 2, 3, 4, 5, 6, 7, 8, 9, 30, 31, 32, 33, 34, 35, 36, 37, 38, 39, 40] rfl (by decide +kernel) rfl (ci := 2) rfl (q0 := 10) rfl gC_Par_63 ⟨rfl, by decide, by decide, by decide +kernel⟩ ⟨Nat.le_of_ble_eq_true rfl, Nat.le_of_ble_eq_true rfl⟩ ⟨show _ ≤ DC by omega, show _ ≤ DS by omega⟩ (As := [.int r2]) (n := 1) rfl hl.1 rfl (Nat.le_of_ble_eq_true rfl) dC_Par_readEquate_28 ?_
    refine lv_if_ne (pc := 31) (tgt := 36) hx hb dC_Par_readEquate_31 (by decide) (fun hc => ?_) (fun hc => ?_)
    · replace hM := it_f hc hM
      refine lv_aload_n (pc := 36) hx hb dC_Par_readEquate_36 rfl (lv_at hl 1 rfl) ?_
      refine x_getC (pc := 37) C hW 0 rfl (ci := 8) rfl i_Par 1 (by decide) qc_512 rfl rfl dC_Par_readEquate_37 ?_
      refine lv_iconst (pc := 40) (v := 1) hx hb dC_Par_readEquate_40 (by decide) ?_
      obtain ⟨r4, hr4, hM⟩ := cr_some hM
      refine x_callQ (pc := 41) (n' := 41) (ov := some (.int r4)) C hW (kC_Tok_kind l D dA (zz o) o b  (1 : Int32) sT hr4) [30, 31, 32, 33, 0, 1, 2, 3, 4, 5, 6, 7, 8, 9, 10, 11, 12, 13, 14, 15, 16, 17, 18, 19, 20, 21, 22, 23, 24, 25, 26, 27, 28, 29, 34, 35, 36, 37, 38, 39, 40] rfl (by decide +kernel) rfl (ci := 3) rfl (q0 := 30) rfl gC_Par_46 ⟨rfl, by decide, by decide, by decide +kernel⟩ ⟨Nat.le_of_ble_eq_true rfl, Nat.le_of_ble_eq_true rfl⟩ ⟨show _ ≤ DC by omega, show _ ≤ DS by omega⟩ (As := [.int (1 : Int32)]) (n := 1) rfl hl.1 rfl (Nat.le_of_ble_eq_true rfl) dC_Par_readEquate_41 ?_
      refine lv_bipush (pc := 44) (v := 44) hx hb dC_Par_readEquate_44 (by decide) ?_
      refine lv_icmp_eq (pc := 46) (tgt := 51) hx hb dC_Par_readEquate_46 (by decide) (fun hc => ?_) (fun hc => ?_)
      · replace hM := it_t hc hM
        refine lv_aload_n (pc := 51) hx hb dC_Par_readEquate_51 rfl (lv_at hl 1 rfl) ?_
        refine x_getC (pc := 52) C hW 0 rfl (ci := 8) rfl i_Par 1 (by decide) qc_512 rfl rfl dC_Par_readEquate_52 ?_
        refine lv_iconst (pc := 55) (v := 2) hx hb dC_Par_readEquate_55 (by decide) ?_
        obtain ⟨r5, u6, hr5, hM⟩ := cl_some hM
        refine x_callC (pc := 56) (n' := 41) C hW (kC_Tok_skip l D dA (zz o) o b  (2 : Int32) sT hr5) [30, 31, 32, 33, 0, 1, 2, 3, 4, 5, 6, 7, 8, 9, 10, 11, 12, 13, 14, 15, 16, 17, 18, 19, 20, 21, 22, 23, 24, 25, 26, 27, 28, 29, 34, 35, 36, 37, 38, 39, 40] rfl (by decide +kernel) rfl (ci := 3) rfl (q0 := 30) rfl gC_Par_53 ⟨rfl, by decide, by decide, by decide +kernel⟩ ⟨Nat.le_of_ble_eq_true rfl, Nat.le_of_ble_eq_true rfl⟩ ⟨show _ + 0 ≤ DC by omega, show _ + 0 ≤ DS by omega⟩ (As := [.int (2 : Int32)]) (n := 1) rfl hl.1 rfl (Nat.le_of_ble_eq_true rfl) dC_Par_readEquate_56 (fun Wc' ov H locs hPo hWn => ?_)
        obtain ⟨rfl, rfl⟩ := hPo
        have hW := hWn (w_Par dA o b i sR sF sN u6 sP sI) rfl rfl
        refine lv_aload_n (pc := 59) hx hb dC_Par_readEquate_59 rfl (lv_at hl 1 rfl) ?_
        refine lv_ldc (pc := 60) (v := -2147483648) hx hb hown (hT _ qc_1132) dC_Par_readEquate_60 ?_
        refine lv_ldc (pc := 62) (v := 2147483647) hx hb hown (hT _ qc_1133) dC_Par_readEquate_62 ?_
        obtain ⟨r7, u8, da9, ea10, db11, eb12, hr7, hM, hqda9, hpda9⟩ := ct_some hM
        refine x_callC (pc := 64) (n' := 41) C hW (kC_Par_readFixed l D dA o b i N (-2147483648 : Int32) (2147483647 : Int32) sR sF sN u6 sP sI hr7) [0, 1, 2, 3, 4, 5, 6, 7, 8, 9, 10, 11, 12, 13, 14, 15, 16, 17, 18, 19, 20, 21, 22, 23, 24, 25, 26, 27, 28, 29, 30, 31, 32, 33, 34, 35, 36, 37, 38, 39, 40] rfl (by decide +kernel) rfl (ci := 8) rfl (q0 := 0) rfl gC_Par_210 ⟨rfl, by decide, by decide, by decide +kernel⟩ ⟨Nat.le_of_ble_eq_true rfl, Nat.le_of_ble_eq_true rfl⟩ ⟨show _ + da9 ≤ DC by omega, show _ + ea10 ≤ DS by omega⟩ (As := [.int (-2147483648 : Int32), .int (2147483647 : Int32)]) (n := 2) rfl hl.1 rfl (Nat.le_of_ble_eq_true rfl) dC_Par_readEquate_64 (fun Wc' ov H locs hPo hWn => ?_)
        obtain ⟨b13, rfl, rfl⟩ := hPo
        have hW := hWn (w_Par dA o (mxs [1, 2, 4, 6] b13 b) i sR u8.1 sN u8.2 sP sI) rfl rfl
        generalize mxs [1, 2, 4, 6] b13 b = b at hW
        refine lv_istore_n (pc := 67) (lv' := [(2, .int r7), (1, .int r2), (0, .ref (o 112))]) hx hb dC_Par_readEquate_67 rfl hl (by decide) rfl (fun ls hl => ?_)
        refine lv_iload_n (pc := 68) hx hb dC_Par_readEquate_68 rfl (lv_at hl 0 rfl) ?_
        refine lv_if_ne (pc := 69) (tgt := 101) hx hb dC_Par_readEquate_69 (by decide) (fun hc => ?_) (fun hc => ?_)
        · replace hM := it_f hc hM
          exact bC_Par_readEquate_101 N  C  _ _ _ _ _ _ _ _ _ _ _ hM (by omega) (by omega) _ _ _ hW _ (lv_sub hl [0] rfl)
        · replace hM := it_t hc hM
          refine lv_aload_n (pc := 72) hx hb dC_Par_readEquate_72 rfl (lv_at hl 2 rfl) ?_
          refine x_getC (pc := 73) C hW 0 rfl (ci := 8) rfl i_Par 0 (by decide) qc_511 rfl rfl dC_Par_readEquate_73 ?_
          refine lv_iload_n (pc := 76) hx hb dC_Par_readEquate_76 rfl (lv_at hl 1 rfl) ?_
          refine lv_iconst (pc := 77) (v := 2) hx hb dC_Par_readEquate_77 (by decide) ?_
          refine lv_aload_n (pc := 78) hx hb dC_Par_readEquate_78 rfl (lv_at hl 2 rfl) ?_
          refine x_getC (pc := 79) C hW 0 rfl (ci := 8) rfl i_Par 3 (by decide) qc_514 rfl rfl dC_Par_readEquate_79 ?_
          refine x_getC (pc := 82) C hW 1 rfl (ci := 7) rfl i_Frm 1 (by decide) qc_466 rfl rfl dC_Par_readEquate_82 ?_
          obtain ⟨r14, u15, hr14, hM⟩ := cl_some hM
          refine x_callC (pc := 85) (n' := 41) C hW (kC_Nam_define l D dA (zz o) o b  r2 (2 : Int32) (u8.1.1 1) sN hr14) [10, 11, 12, 13, 14, 15, 16, 17, 18, 19, 20, 21, 22, 23, 24, 25, 26, 27, 28, 29, 0, 1, 2, 3, 4, 5, 6, 7, 8, 9, 30, 31, 32, 33, 34, 35, 36, 37, 38, 39, 40] rfl (by decide +kernel) rfl (ci := 2) rfl (q0 := 10) rfl gC_Par_72 ⟨rfl, by decide, by decide, by decide +kernel⟩ ⟨Nat.le_of_ble_eq_true rfl, Nat.le_of_ble_eq_true rfl⟩ ⟨show _ + 0 ≤ DC by omega, show _ + 0 ≤ DS by omega⟩ (As := [.int r2, .int (2 : Int32), .int (u8.1.1 1)]) (n := 3) rfl hl.1 rfl (Nat.le_of_ble_eq_true rfl) dC_Par_readEquate_85 (fun Wc' ov H locs hPo hWn => ?_)
          obtain ⟨rfl, rfl⟩ := hPo
          have hW := hWn (w_Par dA o b i sR u8.1 u15 u8.2 sP sI) rfl rfl
          refine lv_aload_n (pc := 88) hx hb dC_Par_readEquate_88 rfl (lv_at hl 2 rfl) ?_
          refine x_getC (pc := 89) C hW 0 rfl (ci := 8) rfl i_Par 2 (by decide) qc_513 rfl rfl dC_Par_readEquate_89 ?_
          refine lv_dup (pc := 92) hx hb dC_Par_readEquate_92 rfl ?_
          refine x_getC (pc := 93) C hW 34 rfl (ci := 5) rfl i_Prg 1 (by decide) qc_389 rfl rfl dC_Par_readEquate_93 ?_
          refine lv_iconst (pc := 96) (v := 1) hx hb dC_Par_readEquate_96 (by decide) ?_
          refine lv_iadd (pc := 97) hx hb dC_Par_readEquate_97 ?_
          refine x_putC (pc := 98) (ty := .int) (Ws' := (w_Par dA o b i sR u8.1 u15 u8.2 (cF sP 0 ((sP.1 0) + (1 : Int32))) sI)) C hW 34 rfl (ci := 5) rfl i_Prg tok_Prg n_Prg 1 (by decide) qc_389 rfl rfl (by decide +kernel) rfl rfl (Nat.le_of_ble_eq_true rfl) rfl dC_Par_readEquate_98 (fun H locs hW => ?_)
          obtain ⟨sP16, esP16, hM⟩ := bnd_some hM
          rw [← esP16] at hW
          exact bC_Par_readEquate_101 N  C  _ _ _ _ _ _ _ _ _ _ _ hM (by omega) (by omega) _ _ _ hW _ (lv_sub hl [0] rfl)
      · replace hM := it_f hc hM
        refine lv_iconst (pc := 49) (v := 1) hx hb dC_Par_readEquate_49 (by decide) ?_
        obtain ⟨rfl, rfl, rfl, rfl⟩ := sm_q hM
        exact x_retCi (pc := 50) C rfl hW ⟨_, rfl, rfl⟩ (by omega) (by omega) dC_Par_readEquate_50
    · replace hM := it_t hc hM
      refine lv_iconst (pc := 34) (v := 4) hx hb dC_Par_readEquate_34 (by decide) ?_
      obtain ⟨rfl, rfl, rfl, rfl⟩ := sm_q hM
      exact x_retCi (pc := 35) C rfl hW ⟨_, rfl, rfl⟩ (by omega) (by omega) dC_Par_readEquate_35
  · replace hM := it_f hc hM
    refine lv_iconst (pc := 12) (v := 1) hx hb dC_Par_readEquate_12 (by decide) ?_
    obtain ⟨rfl, rfl, rfl, rfl⟩ := sm_q hM
    exact x_retCi (pc := 13) C rfl hW ⟨_, rfl, rfl⟩ (by omega) (by omega) dC_Par_readEquate_13
theorem kC_Par_readEquate (l : Launch) (D : va_G) (dA : Nat → ClassId) (o b i : Nat → Nat) (N : Nat)  (sR : CS) (sF : CS) (sN : CS) (sT : CS) (sP : CS) (sI : CS) {r : Int32} {u : CS × CS × CS × CS} {dc ds : Nat} (hM : C_Par_readEquate N  sR sF sN sT sP sI = some ((r, u), (dc, ds))) : KC l D dA (zz o) yC_Par_readEquate cC_Par_readEquate 3 (some .int) 7 217 dc ds (w_Par dA o b i sR sF sN sT sP sI) [.ref (o 112)] (fun Ws' ov => ∃ b' : Nat → Nat, Ws' = (w_Par dA o b' i sR u.1 u.2.1 u.2.2.1 u.2.2.2 sI) ∧ ov = (some (.int r))) := x_enterC (by decide +kernel) (Nat.le_of_ble_eq_true rfl) (fun p e s m args below meth c A C _ hW ls hl => bC_Par_readEquate_0 N C  sR sF sN sT sP sI dc ds 0 0 hM (by omega) (by omega) b s.heap [] hW ls hl)
def C_Par_readNumbers_108 (N : Nat)  (sR : CS) (sF : CS) (sN : CS) (sT : CS) (sP : CS) (sI : CS) : Option ((Int32 × (CS × CS × CS × CS)) × (Nat × Nat)) :=
  some (((0 : Int32), (sF, sT, sP, sI)), (0, 0))
set_option maxHeartbeats 4000000 in
set_option maxRecDepth 100000 in
theorem bC_Par_readNumbers_108 (N : Nat)  {r : Int32} {u : CS × CS × CS × CS} {DC DS : Nat} (C : CxC R_Par p s m args meth c cC_Par_readNumbers 6 (some .int) D dA (zz o) A)  (sR : CS) (sF : CS) (sN : CS) (sT : CS) (sP : CS) (sI : CS) (dc ds kc ks : Nat) (hM : C_Par_readNumbers_108 N   sR sF sN sT sP sI = some ((r, u), (dc, ds))) (hdc : kc + dc ≤ DC) (hds : ks + ds ≤ DS) (b i : Nat → Nat) (H : Heap) (locs : List Loc) (hW : WdC D A s (w_Par dA o b i sR sF sN sT sP sI) H locs) (ls : Array Slot) (hl : lv_has ls 6 []) : W p l e (rmC 8 334 DC DS) s m args below meth c H locs kc ks (MQ below (QC D A (fun Ws' ov => ∃ b' i' : Nat → Nat, Ws' = (w_Par dA o b' i' sR u.1 sN u.2.1 u.2.2.1 u.2.2.2) ∧ ov = (some (.int r)))) args s DC DS A) (F0 m 108 ls []) := by
  have hx := C.1.1
  have hb := C.1.2.1
  have hown := C.1.2.2.2.2.1
  have hT := C.1.2.2.2.2.2.1
  unfold C_Par_readNumbers_108 at hM
  refine lv_iconst (pc := 108) (v := 0) hx hb dC_Par_readNumbers_108 (by decide) ?_
  obtain ⟨rfl, rfl, rfl, rfl⟩ := sm_q hM
  exact x_retCi (pc := 109) C rfl hW ⟨_, _, rfl, rfl⟩ (by omega) (by omega) dC_Par_readNumbers_109
def C_Par_readNumbers_102 (N : Nat) (rec10 : Int32 → Int32 → Int32 → CS → CS → CS → CS → CS → CS → Option ((Int32 × (CS × CS × CS × CS)) × (Nat × Nat))) (x1 : Int32) (x2 : Int32) (x3 : Int32) (sR : CS) (sF : CS) (sN : CS) (sT : CS) (sP : CS) (sI : CS) : Option ((Int32 × (CS × CS × CS × CS)) × (Nat × Nat)) :=
  rec10 x1 x2 (x3 + (-1 : Int32)) sR sF sN sT sP sI
set_option maxHeartbeats 4000000 in
set_option maxRecDepth 100000 in
theorem bC_Par_readNumbers_102 (N : Nat) (rec10 : Int32 → Int32 → Int32 → CS → CS → CS → CS → CS → CS → Option ((Int32 × (CS × CS × CS × CS)) × (Nat × Nat))) {r : Int32} {u : CS × CS × CS × CS} {DC DS : Nat} (C : CxC R_Par p s m args meth c cC_Par_readNumbers 6 (some .int) D dA (zz o) A) (hrec10 : ∀ (x1 : Int32) (x2 : Int32) (x3 : Int32) (sR : CS) (sF : CS) (sN : CS) (sT : CS) (sP : CS) (sI : CS) (dc ds kc ks : Nat) , rec10 x1 x2 x3 sR sF sN sT sP sI = some ((r, u), (dc, ds)) → ∀ (hdc : kc + dc ≤ DC) (hds : ks + ds ≤ DS) (b i : Nat → Nat) (H : Heap) (locs : List Loc) (hW : WdC D A s (w_Par dA o b i sR sF sN sT sP sI) H locs) (ls : Array Slot) (hl : lv_has ls 6 [(0, .ref (o 112)), (1, .int x1), (2, .int x2), (3, .int x3)]), W p l e (rmC 8 334 DC DS) s m args below meth c H locs kc ks (MQ below (QC D A (fun Ws' ov => ∃ b' i' : Nat → Nat, Ws' = (w_Par dA o b' i' sR u.1 sN u.2.1 u.2.2.1 u.2.2.2) ∧ ov = (some (.int r)))) args s DC DS A) (F0 m 10 ls [])) (x1 : Int32) (x2 : Int32) (x3 : Int32) (sR : CS) (sF : CS) (sN : CS) (sT : CS) (sP : CS) (sI : CS) (dc ds kc ks : Nat) (hM : C_Par_readNumbers_102 N rec10 x1 x2 x3 sR sF sN sT sP sI = some ((r, u), (dc, ds))) (hdc : kc + dc ≤ DC) (hds : ks + ds ≤ DS) (b i : Nat → Nat) (H : Heap) (locs : List Loc) (hW : WdC D A s (w_Par dA o b i sR sF sN sT sP sI) H locs) (ls : Array Slot) (hl : lv_has ls 6 [(0, .ref (o 112)), (1, .int x1), (2, .int x2), (3, .int x3)]) : W p l e (rmC 8 334 DC DS) s m args below meth c H locs kc ks (MQ below (QC D A (fun Ws' ov => ∃ b' i' : Nat → Nat, Ws' = (w_Par dA o b' i' sR u.1 sN u.2.1 u.2.2.1 u.2.2.2) ∧ ov = (some (.int r)))) args s DC DS A) (F0 m 102 ls []) := by
  have hx := C.1.1
  have hb := C.1.2.1
  have hown := C.1.2.2.2.2.1
  have hT := C.1.2.2.2.2.2.1
  unfold C_Par_readNumbers_102 at hM
  refine lv_iinc (pc := 102) (v := x3 + (-1 : Int32)) (lv' := [(3, .int (x3 + (-1 : Int32))), (0, .ref (o 112)), (1, .int x1), (2, .int x2)]) hx hb dC_Par_readNumbers_102 hl (k := 3) rfl rfl (by decide) rfl (fun ls hl => ?_)
  refine lv_goto (pc := 105) (tgt := 10) hx hb dC_Par_readNumbers_105 (by decide) ?_
  exact hrec10 _ _ _ _ _ _ _ _ _ _ _ _ _ hM (by omega) (by omega) _ _ _ _ hW _ (lv_sub hl [1, 2, 3, 0] rfl)
def C_Par_readNumbers_89 (N : Nat) (rec10 : Int32 → Int32 → Int32 → CS → CS → CS → CS → CS → CS → Option ((Int32 × (CS × CS × CS × CS)) × (Nat × Nat))) (x1 : Int32) (x3 : Int32) (t0 : Int32) (sR : CS) (sF : CS) (sN : CS) (sT : CS) (sP : CS) (sI : CS) : Option ((Int32 × (CS × CS × CS × CS)) × (Nat × Nat)) :=
  (if t0 = 0 then C_Par_readNumbers_102 N rec10 x1 t0 x3 sR sF sN sT sP sI else cl (C_Tok_skip  (1 : Int32) sT) (fun r1 u2 => C_Par_readNumbers_102 N rec10 x1 t0 x3 sR sF sN u2 sP sI))
set_option maxHeartbeats 4000000 in
set_option maxRecDepth 100000 in
theorem bC_Par_readNumbers_89 (N : Nat) (rec10 : Int32 → Int32 → Int32 → CS → CS → CS → CS → CS → CS → Option ((Int32 × (CS × CS × CS × CS)) × (Nat × Nat))) {r : Int32} {u : CS × CS × CS × CS} {DC DS : Nat} (C : CxC R_Par p s m args meth c cC_Par_readNumbers 6 (some .int) D dA (zz o) A) (hrec10 : ∀ (x1 : Int32) (x2 : Int32) (x3 : Int32) (sR : CS) (sF : CS) (sN : CS) (sT : CS) (sP : CS) (sI : CS) (dc ds kc ks : Nat) , rec10 x1 x2 x3 sR sF sN sT sP sI = some ((r, u), (dc, ds)) → ∀ (hdc : kc + dc ≤ DC) (hds : ks + ds ≤ DS) (b i : Nat → Nat) (H : Heap) (locs : List Loc) (hW : WdC D A s (w_Par dA o b i sR sF sN sT sP sI) H locs) (ls : Array Slot) (hl : lv_has ls 6 [(0, .ref (o 112)), (1, .int x1), (2, .int x2), (3, .int x3)]), W p l e (rmC 8 334 DC DS) s m args below meth c H locs kc ks (MQ below (QC D A (fun Ws' ov => ∃ b' i' : Nat → Nat, Ws' = (w_Par dA o b' i' sR u.1 sN u.2.1 u.2.2.1 u.2.2.2) ∧ ov = (some (.int r)))) args s DC DS A) (F0 m 10 ls [])) (x1 : Int32) (x3 : Int32) (t0 : Int32) (sR : CS) (sF : CS) (sN : CS) (sT : CS) (sP : CS) (sI : CS) (dc ds kc ks : Nat) (hM : C_Par_readNumbers_89 N rec10 x1 x3 t0 sR sF sN sT sP sI = some ((r, u), (dc, ds))) (hdc : kc + dc ≤ DC) (hds : ks + ds ≤ DS) (b i : Nat → Nat) (H : Heap) (locs : List Loc) (hW : WdC D A s (w_Par dA o b i sR sF sN sT sP sI) H locs) (ls : Array Slot) (hl : lv_has ls 6 [(0, .ref (o 112)), (1, .int x1), (3, .int x3)]) : W p l e (rmC 8 334 DC DS) s m args below meth c H locs kc ks (MQ below (QC D A (fun Ws' ov => ∃ b' i' : Nat → Nat, Ws' = (w_Par dA o b' i' sR u.1 sN u.2.1 u.2.2.1 u.2.2.2) ∧ ov = (some (.int r)))) args s DC DS A) (F0 m 89 ls [.int t0]) := by
  have hx := C.1.1
  have hb := C.1.2.1
  have hown := C.1.2.2.2.2.1
  have hT := C.1.2.2.2.2.2.1
  unfold C_Par_readNumbers_89 at hM
  refine lv_istore_n (pc := 89) (lv' := [(2, .int t0), (0, .ref (o 112)), (1, .int x1), (3, .int x3)]) hx hb dC_Par_readNumbers_89 rfl hl (by decide) rfl (fun ls hl => ?_)
  refine lv_iload_n (pc := 90) hx hb dC_Par_readNumbers_90 rfl (lv_at hl 0 rfl) ?_
  refine lv_if_eq (pc := 91) (tgt := 102) hx hb dC_Par_readNumbers_91 (by decide) (fun hc => ?_) (fun hc => ?_)
  · replace hM := it_t hc hM
    exact bC_Par_readNumbers_102 N rec10 C hrec10 _ _ _ _ _ _ _ _ _ _ _ _ _ hM (by omega) (by omega) _ _ _ _ hW _ (lv_sub hl [1, 2, 0, 3] rfl)
  · replace hM := it_f hc hM
    refine lv_aload_n (pc := 94) hx hb dC_Par_readNumbers_94 rfl (lv_at hl 1 rfl) ?_
    refine x_getC (pc := 95) C hW 0 rfl (ci := 8) rfl i_Par 1 (by decide) qc_512 rfl rfl dC_Par_readNumbers_95 ?_
    refine lv_iconst (pc := 98) (v := 1) hx hb dC_Par_readNumbers_98 (by decide) ?_
    obtain ⟨r1, u2, hr1, hM⟩ := cl_some hM
    refine x_callC (pc := 99) (n' := 41) C hW (kC_Tok_skip l D dA (zz o) o b  (1 : Int32) sT hr1) [30, 31, 32, 33, 0, 1, 2, 3, 4, 5, 6, 7, 8, 9, 10, 11, 12, 13, 14, 15, 16, 17, 18, 19, 20, 21, 22, 23, 24, 25, 26, 27, 28, 29, 34, 35, 36, 37, 38, 39, 40] rfl (by decide +kernel) rfl (ci := 3) rfl (q0 := 30) rfl gC_Par_53 ⟨rfl, by decide, by decide, by decide +kernel⟩ ⟨Nat.le_of_ble_eq_true rfl, Nat.le_of_ble_eq_true rfl⟩ ⟨show _ + 0 ≤ DC by omega, show _ + 0 ≤ DS by omega⟩ (As := [.int (1 : Int32)]) (n := 1) rfl hl.1 rfl (Nat.le_of_ble_eq_true rfl) dC_Par_readNumbers_99 (fun Wc' ov H locs hPo hWn => ?_)
    obtain ⟨rfl, rfl⟩ := hPo
    have hW := hWn (w_Par dA o b i sR sF sN u2 sP sI) rfl rfl
    exact bC_Par_readNumbers_102 N rec10 C hrec10 _ _ _ _ _ _ _ _ _ _ _ _ _ hM (by omega) (by omega) _ _ _ _ hW _ (lv_sub hl [1, 2, 0, 3] rfl)
def C_Par_readNumbers_10 (N : Nat)  : Nat → Int32 → Int32 → Int32 → CS → CS → CS → CS → CS → CS → Option ((Int32 × (CS × CS × CS × CS)) × (Nat × Nat))
  | 0 => fun _ _ _ _ _ _ _ _ _ => none
  | n + 1 => fun x1 x2 x3 sR sF sN sT sP sI => (if x3 ≤ 0 then C_Par_readNumbers_108 N  sR sF sN sT sP sI else (if x2 = 0 then C_Par_readNumbers_108 N  sR sF sN sT sP sI else cr (C_Frm_end  sF sN sT sP sI) (fun r1 => ct (C_Frm_compile N sF sN sT sP sI) (fun r2 u3 => (if r2 = 0 then some (((1 : Int32), (u3.1, u3.2, sP, sI)), (0, 0)) else ct (C_Prg_add  (61 : Int32) (0 : Int32) x1 sP sI) (fun r9 u10 => gd (decide (r9 < u10.2.2.2 0 + 1)) (bnd (cA u10.2 r9 7 r1) (fun sI17 => cr (C_Frm_end  u3.1 sN u3.2 u10.1 sI17) (fun r18 => gd (decide (r9 < sI17.2.2 0 + 1)) (bnd (cA sI17 r9 8 r18) (fun sI20 => cr (C_Tok_kind  (0 : Int32) u3.2) (fun r21 => (if r21 = (44 : Int32) then C_Par_readNumbers_89 N (C_Par_readNumbers_10 N  n) x1 x3 (1 : Int32) sR u3.1 sN u3.2 u10.1 sI20 else C_Par_readNumbers_89 N (C_Par_readNumbers_10 N  n) x1 x3 (0 : Int32) sR u3.1 sN u3.2 u10.1 sI20)))))))))))))
set_option maxHeartbeats 4000000 in
set_option maxRecDepth 100000 in
theorem bC_Par_readNumbers_10 (N : Nat)  {r : Int32} {u : CS × CS × CS × CS} {DC DS : Nat} (C : CxC R_Par p s m args meth c cC_Par_readNumbers 6 (some .int) D dA (zz o) A) : ∀ (n : Nat) (x1 : Int32) (x2 : Int32) (x3 : Int32) (sR : CS) (sF : CS) (sN : CS) (sT : CS) (sP : CS) (sI : CS) (dc ds kc ks : Nat) , C_Par_readNumbers_10 N  n x1 x2 x3 sR sF sN sT sP sI = some ((r, u), (dc, ds)) → ∀ (hdc : kc + dc ≤ DC) (hds : ks + ds ≤ DS) (b i : Nat → Nat) (H : Heap) (locs : List Loc) (hW : WdC D A s (w_Par dA o b i sR sF sN sT sP sI) H locs) (ls : Array Slot) (hl : lv_has ls 6 [(0, .ref (o 112)), (1, .int x1), (2, .int x2), (3, .int x3)]), W p l e (rmC 8 334 DC DS) s m args below meth c H locs kc ks (MQ below (QC D A (fun Ws' ov => ∃ b' i' : Nat → Nat, Ws' = (w_Par dA o b' i' sR u.1 sN u.2.1 u.2.2.1 u.2.2.2) ∧ ov = (some (.int r)))) args s DC DS A) (F0 m 10 ls []) := by
  have hx := C.1.1
  have hb := C.1.2.1
  have hown := C.1.2.2.2.2.1
  have hT := C.1.2.2.2.2.2.1
  intro n
  induction n with
  | zero => intro x1 x2 x3 sR sF sN sT sP sI dc ds kc ks hM; cases hM
  | succ n hrec10 =>
    intro x1 x2 x3 sR sF sN sT sP sI dc ds kc ks hM hdc hds b i H locs hW ls hl
    rw [C_Par_readNumbers_10] at hM
    refine lv_iload_n (pc := 10) hx hb dC_Par_readNumbers_10 rfl (lv_at hl 3 rfl) ?_
    refine lv_if_le (pc := 11) (tgt := 108) hx hb dC_Par_readNumbers_11 (by decide) (fun hc => ?_) (fun hc => ?_)
    · replace hM := it_t hc hM
      exact bC_Par_readNumbers_108 N  C  _ _ _ _ _ _ _ _ _ _ hM (by omega) (by omega) _ _ _ _ hW _ (lv_sub hl [] rfl)
    · replace hM := it_f hc hM
      refine lv_iload_n (pc := 14) hx hb dC_Par_readNumbers_14 rfl (lv_at hl 2 rfl) ?_
      refine lv_if_eq (pc := 15) (tgt := 108) hx hb dC_Par_readNumbers_15 (by decide) (fun hc => ?_) (fun hc => ?_)
      · replace hM := it_t hc hM
        exact bC_Par_readNumbers_108 N  C  _ _ _ _ _ _ _ _ _ _ hM (by omega) (by omega) _ _ _ _ hW _ (lv_sub hl [] rfl)
      · replace hM := it_f hc hM
        refine lv_aload_n (pc := 18) hx hb dC_Par_readNumbers_18 rfl (lv_at hl 0 rfl) ?_
        refine x_getC (pc := 19) C hW 0 rfl (ci := 8) rfl i_Par 3 (by decide) qc_514 rfl rfl dC_Par_readNumbers_19 ?_
        obtain ⟨r1, hr1, hM⟩ := cr_some hM
        refine x_callQ (pc := 22) (n' := 41) (ov := some (.int r1)) C hW (kC_Frm_end l D dA o b i  sF sN sT sP sI hr1) [1, 2, 3, 4, 5, 6, 7, 8, 9, 10, 11, 12, 13, 14, 15, 16, 17, 18, 19, 20, 21, 22, 23, 24, 25, 26, 27, 28, 29, 30, 31, 32, 33, 34, 35, 36, 37, 38, 39, 40, 0] rfl (by decide +kernel) rfl (ci := 7) rfl (q0 := 1) rfl gC_Par_153 ⟨rfl, by decide, by decide, by decide +kernel⟩ ⟨Nat.le_of_ble_eq_true rfl, Nat.le_of_ble_eq_true rfl⟩ ⟨show _ ≤ DC by omega, show _ ≤ DS by omega⟩ (As := []) (n := 0) rfl hl.1 rfl (Nat.le_of_ble_eq_true rfl) dC_Par_readNumbers_22 ?_
        refine lv_istore (pc := 25) (lv' := [(4, .int r1), (0, .ref (o 112)), (1, .int x1), (2, .int x2), (3, .int x3)]) hx hb dC_Par_readNumbers_25 hl (by decide) rfl (fun ls hl => ?_)
        refine lv_aload_n (pc := 27) hx hb dC_Par_readNumbers_27 rfl (lv_at hl 1 rfl) ?_
        refine x_getC (pc := 28) C hW 0 rfl (ci := 8) rfl i_Par 3 (by decide) qc_514 rfl rfl dC_Par_readNumbers_28 ?_
        obtain ⟨r2, u3, da4, ea5, db6, eb7, hr2, hM, hqda4, hpda4⟩ := ct_some hM
        refine x_callC (pc := 31) (n' := 41) C hW (kC_Frm_compile l D dA o b i N sF sN sT sP sI hr2) [1, 2, 3, 4, 5, 6, 7, 8, 9, 10, 11, 12, 13, 14, 15, 16, 17, 18, 19, 20, 21, 22, 23, 24, 25, 26, 27, 28, 29, 30, 31, 32, 33, 34, 35, 36, 37, 38, 39, 40, 0] rfl (by decide +kernel) rfl (ci := 7) rfl (q0 := 1) rfl gC_Par_174 ⟨rfl, by decide, by decide, by decide +kernel⟩ ⟨Nat.le_of_ble_eq_true rfl, Nat.le_of_ble_eq_true rfl⟩ ⟨show _ + da4 ≤ DC by omega, show _ + ea5 ≤ DS by omega⟩ (As := []) (n := 0) rfl hl.1 rfl (Nat.le_of_ble_eq_true rfl) dC_Par_readNumbers_31 (fun Wc' ov H locs hPo hWn => ?_)
        obtain ⟨b8, rfl, rfl⟩ := hPo
        have hW := hWn (w_Par dA o (mxs [1, 2, 4, 6] b8 b) i sR u3.1 sN u3.2 sP sI) rfl rfl
        generalize mxs [1, 2, 4, 6] b8 b = b at hW
        refine lv_if_ne (pc := 34) (tgt := 39) hx hb dC_Par_readNumbers_34 (by decide) (fun hc => ?_) (fun hc => ?_)
        · replace hM := it_f hc hM
          refine lv_aload_n (pc := 39) hx hb dC_Par_readNumbers_39 rfl (lv_at hl 1 rfl) ?_
          refine x_getC (pc := 40) C hW 0 rfl (ci := 8) rfl i_Par 2 (by decide) qc_513 rfl rfl dC_Par_readNumbers_40 ?_
          refine lv_bipush (pc := 43) (v := 61) hx hb dC_Par_readNumbers_43 (by decide) ?_
          refine lv_iconst (pc := 45) (v := 0) hx hb dC_Par_readNumbers_45 (by decide) ?_
          refine lv_iload_n (pc := 46) hx hb dC_Par_readNumbers_46 rfl (lv_at hl 2 rfl) ?_
          obtain ⟨r9, u10, da11, ea12, db13, eb14, hr9, hM, hqda11, hpda11⟩ := ct_some hM
          refine x_callC (pc := 47) (n' := 41) C hW (kC_Prg_add l D dA o b i  (61 : Int32) (0 : Int32) x1 sP sI hr9) [34, 35, 36, 37, 38, 39, 40, 0, 1, 2, 3, 4, 5, 6, 7, 8, 9, 10, 11, 12, 13, 14, 15, 16, 17, 18, 19, 20, 21, 22, 23, 24, 25, 26, 27, 28, 29, 30, 31, 32, 33] rfl (by decide +kernel) rfl (ci := 5) rfl (q0 := 34) rfl gC_Par_85 ⟨rfl, by decide, by decide, by decide +kernel⟩ ⟨Nat.le_of_ble_eq_true rfl, Nat.le_of_ble_eq_true rfl⟩ ⟨show _ + da11 ≤ DC by omega, show _ + ea12 ≤ DS by omega⟩ (As := [.int (61 : Int32), .int (0 : Int32), .int x1]) (n := 3) rfl hl.1 rfl (Nat.le_of_ble_eq_true rfl) dC_Par_readNumbers_47 (fun Wc' ov H locs hPo hWn => ?_)
          obtain ⟨b15, i, rfl, rfl⟩ := hPo
          have hW := hWn (w_Par dA o (mxs [4] b15 b) i sR u3.1 sN u3.2 u10.1 u10.2) rfl rfl
          generalize mxs [4] b15 b = b at hW
          refine lv_astore (pc := 50) (lv' := [(5, .ref (pa o i r9)), (4, .int r1), (0, .ref (o 112)), (1, .int x1), (2, .int x2), (3, .int x3)]) hx hb dC_Par_readNumbers_50 hl (by decide) rfl (fun ls hl => ?_)
          refine lv_aload (pc := 52) hx hb dC_Par_readNumbers_52 (lv_at hl 0 rfl) ?_
          refine lv_iload (pc := 54) hx hb dC_Par_readNumbers_54 (lv_at hl 1 rfl) ?_
          obtain ⟨hg16, hM⟩ := gd_some hM
          refine x_putI (pc := 56) (ty := .int) (Ws' := (w_Par dA o b i sR u3.1 sN u3.2 u10.1 (cA u10.2 r9 7 r1))) C hW 40 rfl (of_decide_eq_true hg16) 7 (by decide) qc_360 rfl rfl (by decide +kernel) rfl rfl rfl rfl dC_Par_readNumbers_56 (fun H locs hW => ?_)
          obtain ⟨sI17, esI17, hM⟩ := bnd_some hM
          rw [← esI17] at hW
          refine lv_aload (pc := 59) hx hb dC_Par_readNumbers_59 (lv_at hl 0 rfl) ?_
          refine lv_aload_n (pc := 61) hx hb dC_Par_readNumbers_61 rfl (lv_at hl 2 rfl) ?_
          refine x_getC (pc := 62) C hW 0 rfl (ci := 8) rfl i_Par 3 (by decide) qc_514 rfl rfl dC_Par_readNumbers_62 ?_
          obtain ⟨r18, hr18, hM⟩ := cr_some hM
          refine x_callQ (pc := 65) (n' := 41) (ov := some (.int r18)) C hW (kC_Frm_end l D dA o b i  u3.1 sN u3.2 u10.1 sI17 hr18) [1, 2, 3, 4, 5, 6, 7, 8, 9, 10, 11, 12, 13, 14, 15, 16, 17, 18, 19, 20, 21, 22, 23, 24, 25, 26, 27, 28, 29, 30, 31, 32, 33, 34, 35, 36, 37, 38, 39, 40, 0] rfl (by decide +kernel) rfl (ci := 7) rfl (q0 := 1) rfl gC_Par_153 ⟨rfl, by decide, by decide, by decide +kernel⟩ ⟨Nat.le_of_ble_eq_true rfl, Nat.le_of_ble_eq_true rfl⟩ ⟨show _ ≤ DC by omega, show _ ≤ DS by omega⟩ (As := []) (n := 0) rfl hl.1 rfl (Nat.le_of_ble_eq_true rfl) dC_Par_readNumbers_65 ?_
          obtain ⟨hg19, hM⟩ := gd_some hM
          refine x_putI (pc := 68) (ty := .int) (Ws' := (w_Par dA o b i sR u3.1 sN u3.2 u10.1 (cA sI17 r9 8 r18))) C hW 40 rfl (of_decide_eq_true hg19) 8 (by decide) qc_364 rfl rfl (by decide +kernel) rfl rfl rfl rfl dC_Par_readNumbers_68 (fun H locs hW => ?_)
          obtain ⟨sI20, esI20, hM⟩ := bnd_some hM
          rw [← esI20] at hW
          refine lv_aload_n (pc := 71) hx hb dC_Par_readNumbers_71 rfl (lv_at hl 2 rfl) ?_
          refine x_getC (pc := 72) C hW 0 rfl (ci := 8) rfl i_Par 1 (by decide) qc_512 rfl rfl dC_Par_readNumbers_72 ?_
          refine lv_iconst (pc := 75) (v := 0) hx hb dC_Par_readNumbers_75 (by decide) ?_
          obtain ⟨r21, hr21, hM⟩ := cr_some hM
          refine x_callQ (pc := 76) (n' := 41) (ov := some (.int r21)) C hW (kC_Tok_kind l D dA (zz o) o b  (0 : Int32) u3.2 hr21) [30, 31, 32, 33, 0, 1, 2, 3, 4, 5, 6, 7, 8, 9, 10, 11, 12, 13, 14, 15, 16, 17, 18, 19, 20, 21, 22, 23, 24, 25, 26, 27, 28, 29, 34, 35, 36, 37, 38, 39, 40] rfl (by decide +kernel) rfl (ci := 3) rfl (q0 := 30) rfl gC_Par_46 ⟨rfl, by decide, by decide, by decide +kernel⟩ ⟨Nat.le_of_ble_eq_true rfl, Nat.le_of_ble_eq_true rfl⟩ ⟨show _ ≤ DC by omega, show _ ≤ DS by omega⟩ (As := [.int (0 : Int32)]) (n := 1) rfl hl.1 rfl (Nat.le_of_ble_eq_true rfl) dC_Par_readNumbers_76 ?_
          refine lv_bipush (pc := 79) (v := 44) hx hb dC_Par_readNumbers_79 (by decide) ?_
          refine lv_icmp_ne (pc := 81) (tgt := 88) hx hb dC_Par_readNumbers_81 (by decide) (fun hc => ?_) (fun hc => ?_)
          · replace hM := it_f hc hM
            refine lv_iconst (pc := 88) (v := 0) hx hb dC_Par_readNumbers_88 (by decide) ?_
            exact bC_Par_readNumbers_89 N _ C hrec10 _ _ _ _ _ _ _ _ _ _ _ _ _ hM (by omega) (by omega) _ _ _ _ hW _ (lv_sub hl [2, 3, 5] rfl)
          · replace hM := it_t hc hM
            refine lv_iconst (pc := 84) (v := 1) hx hb dC_Par_readNumbers_84 (by decide) ?_
            refine lv_goto (pc := 85) (tgt := 89) hx hb dC_Par_readNumbers_85 (by decide) ?_
            exact bC_Par_readNumbers_89 N _ C hrec10 _ _ _ _ _ _ _ _ _ _ _ _ _ hM (by omega) (by omega) _ _ _ _ hW _ (lv_sub hl [2, 3, 5] rfl)
        · replace hM := it_t hc hM
          refine lv_iconst (pc := 37) (v := 1) hx hb dC_Par_readNumbers_37 (by decide) ?_
          obtain ⟨rfl, rfl, rfl, rfl⟩ := sm_q hM
          exact x_retCi (pc := 38) C rfl hW ⟨_, _, rfl, rfl⟩ (by omega) (by omega) dC_Par_readNumbers_38
def C_Par_readNumbers (N : Nat) (x1 : Int32) (sR : CS) (sF : CS) (sN : CS) (sT : CS) (sP : CS) (sI : CS) : Option ((Int32 × (CS × CS × CS × CS)) × (Nat × Nat)) :=
  cr (C_Tok_left  sT) (fun r1 => C_Par_readNumbers_10 N  N x1 (1 : Int32) r1 sR sF sN sT sP sI)
set_option maxHeartbeats 4000000 in
set_option maxRecDepth 100000 in
theorem bC_Par_readNumbers_0 (N : Nat)  {r : Int32} {u : CS × CS × CS × CS} {DC DS : Nat} (C : CxC R_Par p s m args meth c cC_Par_readNumbers 6 (some .int) D dA (zz o) A) (x1 : Int32) (sR : CS) (sF : CS) (sN : CS) (sT : CS) (sP : CS) (sI : CS) (dc ds kc ks : Nat) (hM : C_Par_readNumbers N  x1 sR sF sN sT sP sI = some ((r, u), (dc, ds))) (hdc : kc + dc ≤ DC) (hds : ks + ds ≤ DS) (b i : Nat → Nat) (H : Heap) (locs : List Loc) (hW : WdC D A s (w_Par dA o b i sR sF sN sT sP sI) H locs) (ls : Array Slot) (hl : lv_has ls 6 [(0, .ref (o 112)), (1, .int x1)]) : W p l e (rmC 8 334 DC DS) s m args below meth c H locs kc ks (MQ below (QC D A (fun Ws' ov => ∃ b' i' : Nat → Nat, Ws' = (w_Par dA o b' i' sR u.1 sN u.2.1 u.2.2.1 u.2.2.2) ∧ ov = (some (.int r)))) args s DC DS A) (F0 m 0 ls []) := by
  have hx := C.1.1
  have hb := C.1.2.1
  have hown := C.1.2.2.2.2.1
  have hT := C.1.2.2.2.2.2.1
  unfold C_Par_readNumbers at hM
  refine lv_iconst (pc := 0) (v := 1) hx hb dC_Par_readNumbers_0 (by decide) ?_
  refine lv_istore_n (pc := 1) (lv' := [(2, .int (1 : Int32)), (0, .ref (o 112)), (1, .int x1)]) hx hb dC_Par_readNumbers_1 rfl hl (by decide) rfl (fun ls hl => ?_)
  refine lv_aload_n (pc := 2) hx hb dC_Par_readNumbers_2 rfl (lv_at hl 1 rfl) ?_
  refine x_getC (pc := 3) C hW 0 rfl (ci := 8) rfl i_Par 1 (by decide) qc_512 rfl rfl dC_Par_readNumbers_3 ?_
  obtain ⟨r1, hr1, hM⟩ := cr_some hM
  refine x_callQ (pc := 6) (n' := 41) (ov := some (.int r1)) C hW (kC_Tok_left l D dA (zz o) o b  sT hr1) [30, 31, 32, 33, 0, 1, 2, 3, 4, 5, 6, 7, 8, 9, 10, 11, 12, 13, 14, 15, 16, 17, 18, 19, 20, 21, 22, 23, 24, 25, 26, 27, 28, 29, 34, 35, 36, 37, 38, 39, 40] rfl (by decide +kernel) rfl (ci := 3) rfl (q0 := 30) rfl gC_Par_33 ⟨rfl, by decide, by decide, by decide +kernel⟩ ⟨Nat.le_of_ble_eq_true rfl, Nat.le_of_ble_eq_true rfl⟩ ⟨show _ ≤ DC by omega, show _ ≤ DS by omega⟩ (As := []) (n := 0) rfl hl.1 rfl (Nat.le_of_ble_eq_true rfl) dC_Par_readNumbers_6 ?_
  refine lv_istore_n (pc := 9) (lv' := [(3, .int r1), (2, .int (1 : Int32)), (0, .ref (o 112)), (1, .int x1)]) hx hb dC_Par_readNumbers_9 rfl hl (by decide) rfl (fun ls hl => ?_)
  exact bC_Par_readNumbers_10 N  C  N _ _ _ _ _ _ _ _ _ _ _ _ _ hM (by omega) (by omega) _ _ _ _ hW _ (lv_sub hl [2, 3, 1, 0] rfl)
theorem kC_Par_readNumbers (l : Launch) (D : va_G) (dA : Nat → ClassId) (o b i : Nat → Nat) (N : Nat) (x1 : Int32) (sR : CS) (sF : CS) (sN : CS) (sT : CS) (sP : CS) (sI : CS) {r : Int32} {u : CS × CS × CS × CS} {dc ds : Nat} (hM : C_Par_readNumbers N x1 sR sF sN sT sP sI = some ((r, u), (dc, ds))) : KC l D dA (zz o) yC_Par_readNumbers cC_Par_readNumbers 6 (some .int) 8 334 dc ds (w_Par dA o b i sR sF sN sT sP sI) [.ref (o 112), .int x1] (fun Ws' ov => ∃ b' i' : Nat → Nat, Ws' = (w_Par dA o b' i' sR u.1 sN u.2.1 u.2.2.1 u.2.2.2) ∧ ov = (some (.int r))) := x_enterC (by decide +kernel) (Nat.le_of_ble_eq_true rfl) (fun p e s m args below meth c A C _ hW ls hl => bC_Par_readNumbers_0 N C x1 sR sF sN sT sP sI dc ds 0 0 hM (by omega) (by omega) b i s.heap [] hW ls hl)
def C_Par_readStrings_104 (N : Nat)  (sR : CS) (sF : CS) (sN : CS) (sT : CS) (sP : CS) (sI : CS) : Option ((Int32 × (CS × CS × CS)) × (Nat × Nat)) :=
  some (((0 : Int32), (sT, sP, sI)), (0, 0))
set_option maxHeartbeats 4000000 in
set_option maxRecDepth 100000 in
theorem bC_Par_readStrings_104 (N : Nat)  {r : Int32} {u : CS × CS × CS} {DC DS : Nat} (C : CxC R_Par p s m args meth c cC_Par_readStrings 4 (some .int) D dA (zz o) A)  (sR : CS) (sF : CS) (sN : CS) (sT : CS) (sP : CS) (sI : CS) (dc ds kc ks : Nat) (hM : C_Par_readStrings_104 N   sR sF sN sT sP sI = some ((r, u), (dc, ds))) (hdc : kc + dc ≤ DC) (hds : ks + ds ≤ DS) (b i : Nat → Nat) (H : Heap) (locs : List Loc) (hW : WdC D A s (w_Par dA o b i sR sF sN sT sP sI) H locs) (ls : Array Slot) (hl : lv_has ls 4 []) : W p l e (rmC 8 334 DC DS) s m args below meth c H locs kc ks (MQ below (QC D A (fun Ws' ov => ∃ b' i' : Nat → Nat, Ws' = (w_Par dA o b' i' sR sF sN u.1 u.2.1 u.2.2) ∧ ov = (some (.int r)))) args s DC DS A) (F0 m 104 ls []) := by
  have hx := C.1.1
  have hb := C.1.2.1
  have hown := C.1.2.2.2.2.1
  have hT := C.1.2.2.2.2.2.1
  unfold C_Par_readStrings_104 at hM
  refine lv_iconst (pc := 104) (v := 0) hx hb dC_Par_readStrings_104 (by decide) ?_
  obtain ⟨rfl, rfl, rfl, rfl⟩ := sm_q hM
  exact x_retCi (pc := 105) C rfl hW ⟨_, _, rfl, rfl⟩ (by omega) (by omega) dC_Par_readStrings_105
def C_Par_readStrings_98 (N : Nat) (rec10 : Int32 → Int32 → Int32 → CS → CS → CS → CS → CS → CS → Option ((Int32 × (CS × CS × CS)) × (Nat × Nat))) (x1 : Int32) (x2 : Int32) (x3 : Int32) (sR : CS) (sF : CS) (sN : CS) (sT : CS) (sP : CS) (sI : CS) : Option ((Int32 × (CS × CS × CS)) × (Nat × Nat)) :=
  rec10 x1 x2 (x3 + (-1 : Int32)) sR sF sN sT sP sI
set_option maxHeartbeats 4000000 in
set_option maxRecDepth 100000 in
theorem bC_Par_readStrings_98 (N : Nat) (rec10 : Int32 → Int32 → Int32 → CS → CS → CS → CS → CS → CS → Option ((Int32 × (CS × CS × CS)) × (Nat × Nat))) {r : Int32} {u : CS × CS × CS} {DC DS : Nat} (C : CxC R_Par p s m args meth c cC_Par_readStrings 4 (some .int) D dA (zz o) A) (hrec10 : ∀ (x1 : Int32) (x2 : Int32) (x3 : Int32) (sR : CS) (sF : CS) (sN : CS) (sT : CS) (sP : CS) (sI : CS) (dc ds kc ks : Nat) , rec10 x1 x2 x3 sR sF sN sT sP sI = some ((r, u), (dc, ds)) → ∀ (hdc : kc + dc ≤ DC) (hds : ks + ds ≤ DS) (b i : Nat → Nat) (H : Heap) (locs : List Loc) (hW : WdC D A s (w_Par dA o b i sR sF sN sT sP sI) H locs) (ls : Array Slot) (hl : lv_has ls 4 [(0, .ref (o 112)), (1, .int x1), (2, .int x2), (3, .int x3)]), W p l e (rmC 8 334 DC DS) s m args below meth c H locs kc ks (MQ below (QC D A (fun Ws' ov => ∃ b' i' : Nat → Nat, Ws' = (w_Par dA o b' i' sR sF sN u.1 u.2.1 u.2.2) ∧ ov = (some (.int r)))) args s DC DS A) (F0 m 10 ls [])) (x1 : Int32) (x2 : Int32) (x3 : Int32) (sR : CS) (sF : CS) (sN : CS) (sT : CS) (sP : CS) (sI : CS) (dc ds kc ks : Nat) (hM : C_Par_readStrings_98 N rec10 x1 x2 x3 sR sF sN sT sP sI = some ((r, u), (dc, ds))) (hdc : kc + dc ≤ DC) (hds : ks + ds ≤ DS) (b i : Nat → Nat) (H : Heap) (locs : List Loc) (hW : WdC D A s (w_Par dA o b i sR sF sN sT sP sI) H locs) (ls : Array Slot) (hl : lv_has ls 4 [(0, .ref (o 112)), (1, .int x1), (2, .int x2), (3, .int x3)]) : W p l e (rmC 8 334 DC DS) s m args below meth c H locs kc ks (MQ below (QC D A (fun Ws' ov => ∃ b' i' : Nat → Nat, Ws' = (w_Par dA o b' i' sR sF sN u.1 u.2.1 u.2.2) ∧ ov = (some (.int r)))) args s DC DS A) (F0 m 98 ls []) := by
  have hx := C.1.1
  have hb := C.1.2.1
  have hown := C.1.2.2.2.2.1
  have hT := C.1.2.2.2.2.2.1
  unfold C_Par_readStrings_98 at hM
  refine lv_iinc (pc := 98) (v := x3 + (-1 : Int32)) (lv' := [(3, .int (x3 + (-1 : Int32))), (0, .ref (o 112)), (1, .int x1), (2, .int x2)]) hx hb dC_Par_readStrings_98 hl (k := 3) rfl rfl (by decide) rfl (fun ls hl => ?_)
  refine lv_goto (pc := 101) (tgt := 10) hx hb dC_Par_readStrings_101 (by decide) ?_
  exact hrec10 _ _ _ _ _ _ _ _ _ _ _ _ _ hM (by omega) (by omega) _ _ _ _ hW _ (lv_sub hl [1, 2, 3, 0] rfl)
def C_Par_readStrings_85 (N : Nat) (rec10 : Int32 → Int32 → Int32 → CS → CS → CS → CS → CS → CS → Option ((Int32 × (CS × CS × CS)) × (Nat × Nat))) (x1 : Int32) (x3 : Int32) (t0 : Int32) (sR : CS) (sF : CS) (sN : CS) (sT : CS) (sP : CS) (sI : CS) : Option ((Int32 × (CS × CS × CS)) × (Nat × Nat)) :=
  (if t0 = 0 then C_Par_readStrings_98 N rec10 x1 t0 x3 sR sF sN sT sP sI else cl (C_Tok_skip  (1 : Int32) sT) (fun r1 u2 => C_Par_readStrings_98 N rec10 x1 t0 x3 sR sF sN u2 sP sI))
set_option maxHeartbeats 4000000 in
set_option maxRecDepth 100000 in
theorem bC_Par_readStrings_85 (N : Nat) (rec10 : Int32 → Int32 → Int32 → CS → CS → CS → CS → CS → CS → Option ((Int32 × (CS × CS × CS)) × (Nat × Nat))) {r : Int32} {u : CS × CS × CS} {DC DS : Nat} (C : CxC R_Par p s m args meth c cC_Par_readStrings 4 (some .int) D dA (zz o) A) (hrec10 : ∀ (x1 : Int32) (x2 : Int32) (x3 : Int32) (sR : CS) (sF : CS) (sN : CS) (sT : CS) (sP : CS) (sI : CS) (dc ds kc ks : Nat) , rec10 x1 x2 x3 sR sF sN sT sP sI = some ((r, u), (dc, ds)) → ∀ (hdc : kc + dc ≤ DC) (hds : ks + ds ≤ DS) (b i : Nat → Nat) (H : Heap) (locs : List Loc) (hW : WdC D A s (w_Par dA o b i sR sF sN sT sP sI) H locs) (ls : Array Slot) (hl : lv_has ls 4 [(0, .ref (o 112)), (1, .int x1), (2, .int x2), (3, .int x3)]), W p l e (rmC 8 334 DC DS) s m args below meth c H locs kc ks (MQ below (QC D A (fun Ws' ov => ∃ b' i' : Nat → Nat, Ws' = (w_Par dA o b' i' sR sF sN u.1 u.2.1 u.2.2) ∧ ov = (some (.int r)))) args s DC DS A) (F0 m 10 ls [])) (x1 : Int32) (x3 : Int32) (t0 : Int32) (sR : CS) (sF : CS) (sN : CS) (sT : CS) (sP : CS) (sI : CS) (dc ds kc ks : Nat) (hM : C_Par_readStrings_85 N rec10 x1 x3 t0 sR sF sN sT sP sI = some ((r, u), (dc, ds))) (hdc : kc + dc ≤ DC) (hds : ks + ds ≤ DS) (b i : Nat → Nat) (H : Heap) (locs : List Loc) (hW : WdC D A s (w_Par dA o b i sR sF sN sT sP sI) H locs) (ls : Array Slot) (hl : lv_has ls 4 [(0, .ref (o 112)), (1, .int x1), (3, .int x3)]) : W p l e (rmC 8 334 DC DS) s m args below meth c H locs kc ks (MQ below (QC D A (fun Ws' ov => ∃ b' i' : Nat → Nat, Ws' = (w_Par dA o b' i' sR sF sN u.1 u.2.1 u.2.2) ∧ ov = (some (.int r)))) args s DC DS A) (F0 m 85 ls [.int t0]) := by
  have hx := C.1.1
  have hb := C.1.2.1
  have hown := C.1.2.2.2.2.1
  have hT := C.1.2.2.2.2.2.1
  unfold C_Par_readStrings_85 at hM
  refine lv_istore_n (pc := 85) (lv' := [(2, .int t0), (0, .ref (o 112)), (1, .int x1), (3, .int x3)]) hx hb dC_Par_readStrings_85 rfl hl (by decide) rfl (fun ls hl => ?_)
  refine lv_iload_n (pc := 86) hx hb dC_Par_readStrings_86 rfl (lv_at hl 0 rfl) ?_
  refine lv_if_eq (pc := 87) (tgt := 98) hx hb dC_Par_readStrings_87 (by decide) (fun hc => ?_) (fun hc => ?_)
  · replace hM := it_t hc hM
    exact bC_Par_readStrings_98 N rec10 C hrec10 _ _ _ _ _ _ _ _ _ _ _ _ _ hM (by omega) (by omega) _ _ _ _ hW _ (lv_sub hl [1, 2, 0, 3] rfl)
  · replace hM := it_f hc hM
    refine lv_aload_n (pc := 90) hx hb dC_Par_readStrings_90 rfl (lv_at hl 1 rfl) ?_
    refine x_getC (pc := 91) C hW 0 rfl (ci := 8) rfl i_Par 1 (by decide) qc_512 rfl rfl dC_Par_readStrings_91 ?_
    refine lv_iconst (pc := 94) (v := 1) hx hb dC_Par_readStrings_94 (by decide) ?_
    obtain ⟨r1, u2, hr1, hM⟩ := cl_some hM
    refine x_callC (pc := 95) (n' := 41) C hW (kC_Tok_skip l D dA (zz o) o b  (1 : Int32) sT hr1) [30, 31, 32, 33, 0, 1, 2, 3, 4, 5, 6, 7, 8, 9, 10, 11, 12, 13, 14, 15, 16, 17, 18, 19, 20, 21, 22, 23, 24, 25, 26, 27, 28, 29, 34, 35, 36, 37, 38, 39, 40] rfl (by decide +kernel) rfl (ci := 3) rfl (q0 := 30) rfl gC_Par_53 ⟨rfl, by decide, by decide, by decide +kernel⟩ ⟨Nat.le_of_ble_eq_true rfl, Nat.le_of_ble_eq_true rfl⟩ ⟨show _ + 0 ≤ DC by omega, show _ + 0 ≤ DS by omega⟩ (As := [.int (1 : Int32)]) (n := 1) rfl hl.1 rfl (Nat.le_of_ble_eq_true rfl) dC_Par_readStrings_95 (fun Wc' ov H locs hPo hWn => ?_)
    obtain ⟨rfl, rfl⟩ := hPo
    have hW := hWn (w_Par dA o b i sR sF sN u2 sP sI) rfl rfl
    exact bC_Par_readStrings_98 N rec10 C hrec10 _ _ _ _ _ _ _ _ _ _ _ _ _ hM (by omega) (by omega) _ _ _ _ hW _ (lv_sub hl [1, 2, 0, 3] rfl)
def C_Par_readStrings_10 (N : Nat)  : Nat → Int32 → Int32 → Int32 → CS → CS → CS → CS → CS → CS → Option ((Int32 × (CS × CS × CS)) × (Nat × Nat))
  | 0 => fun _ _ _ _ _ _ _ _ _ => none
  | n + 1 => fun x1 x2 x3 sR sF sN sT sP sI => (if x3 ≤ 0 then C_Par_readStrings_104 N  sR sF sN sT sP sI else (if x2 = 0 then C_Par_readStrings_104 N  sR sF sN sT sP sI else cr (C_Tok_kind  (0 : Int32) sT) (fun r1 => (if r1 = (6 : Int32) then cr (C_Tok_value  (0 : Int32) sT) (fun r2 => cr (C_Tok_length  sT) (fun r3 => ct (C_Prg_add  (4 : Int32) r2 (r3 + x1) sP sI) (fun r4 u5 => cl (C_Tok_skip  (1 : Int32) sT) (fun r11 u12 => cr (C_Tok_kind  (0 : Int32) u12) (fun r13 => (if r13 = (44 : Int32) then C_Par_readStrings_85 N (C_Par_readStrings_10 N  n) x1 x3 (1 : Int32) sR sF sN u12 u5.1 u5.2 else C_Par_readStrings_85 N (C_Par_readStrings_10 N  n) x1 x3 (0 : Int32) sR sF sN u12 u5.1 u5.2)))))) else some (((1 : Int32), (sT, sP, sI)), (0, 0))))))
set_option maxHeartbeats 4000000 in
set_option maxRecDepth 100000 in
theorem bC_Par_readStrings_10 (N : Nat)  {r : Int32} {u : CS × CS × CS} {DC DS : Nat} (C : CxC R_Par p s m args meth c cC_Par_readStrings 4 (some .int) D dA (zz o) A) : ∀ (n : Nat) (x1 : Int32) (x2 : Int32) (x3 : Int32) (sR : CS) (sF : CS) (sN : CS) (sT : CS) (sP : CS) (sI : CS) (dc ds kc ks : Nat) , C_Par_readStrings_10 N  n x1 x2 x3 sR sF sN sT sP sI = some ((r, u), (dc, ds)) → ∀ (hdc : kc + dc ≤ DC) (hds : ks + ds ≤ DS) (b i : Nat → Nat) (H : Heap) (locs : List Loc) (hW : WdC D A s (w_Par dA o b i sR sF sN sT sP sI) H locs) (ls : Array Slot) (hl : lv_has ls 4 [(0, .ref (o 112)), (1, .int x1), (2, .int x2), (3, .int x3)]), W p l e (rmC 8 334 DC DS) s m args below meth c H locs kc ks (MQ below (QC D A (fun Ws' ov => ∃ b' i' : Nat → Nat, Ws' = (w_Par dA o b' i' sR sF sN u.1 u.2.1 u.2.2) ∧ ov = (some (.int r)))) args s DC DS A) (F0 m 10 ls []) := by
  have hx := C.1.1
  have hb := C.1.2.1
  have hown := C.1.2.2.2.2.1
  have hT := C.1.2.2.2.2.2.1
  intro n
  induction n with
  | zero => intro x1 x2 x3 sR sF sN sT sP sI dc ds kc ks hM; cases hM
  | succ n hrec10 =>
    intro x1 x2 x3 sR sF sN sT sP sI dc ds kc ks hM hdc hds b i H locs hW ls hl
    rw [C_Par_readStrings_10] at hM
    refine lv_iload_n (pc := 10) hx hb dC_Par_readStrings_10 rfl (lv_at hl 3 rfl) ?_
    refine lv_if_le (pc := 11) (tgt := 104) hx hb dC_Par_readStrings_11 (by decide) (fun hc => ?_) (fun hc => ?_)
    · replace hM := it_t hc hM
      exact bC_Par_readStrings_104 N  C  _ _ _ _ _ _ _ _ _ _ hM (by omega) (by omega) _ _ _ _ hW _ (lv_sub hl [] rfl)
    · replace hM := it_f hc hM
      refine lv_iload_n (pc := 14) hx hb dC_Par_readStrings_14 rfl (lv_at hl 2 rfl) ?_
      refine lv_if_eq (pc := 15) (tgt := 104) hx hb dC_Par_readStrings_15 (by decide) (fun hc => ?_) (fun hc => ?_)
      · replace hM := it_t hc hM
        exact bC_Par_readStrings_104 N  C  _ _ _ _ _ _ _ _ _ _ hM (by omega) (by omega) _ _ _ _ hW _ (lv_sub hl [] rfl)
      · replace hM := it_f hc hM
        refine lv_aload_n (pc := 18) hx hb dC_Par_readStrings_18 rfl (lv_at hl 0 rfl) ?_
        refine x_getC (pc := 19) C hW 0 rfl (ci := 8) rfl i_Par 1 (by decide) qc_512 rfl rfl dC_Par_readStrings_19 ?_
        refine lv_iconst (pc := 22) (v := 0) hx hb dC_Par_readStrings_22 (by decide) ?_
        obtain ⟨r1, hr1, hM⟩ := cr_some hM
        refine x_callQ (pc := 23) (n' := 41) (ov := some (.int r1)) C hW (kC_Tok_kind l D dA (zz o) o b  (0 : Int32) sT hr1) [30, 31, 32, 33, 0, 1, 2, 3, 4, 5, 6, 7, 8, 9, 10, 11, 12, 13, 14, 15, 16, 17, 18, 19, 20, 21, 22, 23, 24, 25, 26, 27, 28, 29, 34, 35, 36, 37, 38, 39, 40] rfl (by decide +kernel) rfl (ci := 3) rfl (q0 := 30) rfl gC_Par_46 ⟨rfl, by decide, by decide, by decide +kernel⟩ ⟨Nat.le_of_ble_eq_true rfl, Nat.le_of_ble_eq_true rfl⟩ ⟨show _ ≤ DC by omega, show _ ≤ DS by omega⟩ (As := [.int (0 : Int32)]) (n := 1) rfl hl.1 rfl (Nat.le_of_ble_eq_true rfl) dC_Par_readStrings_23 ?_
        refine lv_bipush (pc := 26) (v := 6) hx hb dC_Par_readStrings_26 (by decide) ?_
        refine lv_icmp_eq (pc := 28) (tgt := 33) hx hb dC_Par_readStrings_28 (by decide) (fun hc => ?_) (fun hc => ?_)
        · replace hM := it_t hc hM
          refine lv_aload_n (pc := 33) hx hb dC_Par_readStrings_33 rfl (lv_at hl 0 rfl) ?_
          refine x_getC (pc := 34) C hW 0 rfl (ci := 8) rfl i_Par 2 (by decide) qc_513 rfl rfl dC_Par_readStrings_34 ?_
          refine lv_iconst (pc := 37) (v := 4) hx hb dC_Par_readStrings_37 (by decide) ?_
          refine lv_aload_n (pc := 38) hx hb dC_Par_readStrings_38 rfl (lv_at hl 0 rfl) ?_
          refine x_getC (pc := 39) C hW 0 rfl (ci := 8) rfl i_Par 1 (by decide) qc_512 rfl rfl dC_Par_readStrings_39 ?_
          refine lv_iconst (pc := 42) (v := 0) hx hb dC_Par_readStrings_42 (by decide) ?_
          obtain ⟨r2, hr2, hM⟩ := cr_some hM
          refine x_callQ (pc := 43) (n' := 41) (ov := some (.int r2)) C hW (kC_Tok_value l D dA (zz o) o b  (0 : Int32) sT hr2) [30, 31, 32, 33, 0, 1, 2, 3, 4, 5, 6, 7, 8, 9, 10, 11, 12, 13, 14, 15, 16, 17, 18, 19, 20, 21, 22, 23, 24, 25, 26, 27, 28, 29, 34, 35, 36, 37, 38, 39, 40] rfl (by decide +kernel) rfl (ci := 3) rfl (q0 := 30) rfl gC_Par_57 ⟨rfl, by decide, by decide, by decide +kernel⟩ ⟨Nat.le_of_ble_eq_true rfl, Nat.le_of_ble_eq_true rfl⟩ ⟨show _ ≤ DC by omega, show _ ≤ DS by omega⟩ (As := [.int (0 : Int32)]) (n := 1) rfl hl.1 rfl (Nat.le_of_ble_eq_true rfl) dC_Par_readStrings_43 ?_
          refine lv_aload_n (pc := 46) hx hb dC_Par_readStrings_46 rfl (lv_at hl 0 rfl) ?_
          refine x_getC (pc := 47) C hW 0 rfl (ci := 8) rfl i_Par 1 (by decide) qc_512 rfl rfl dC_Par_readStrings_47 ?_
          obtain ⟨r3, hr3, hM⟩ := cr_some hM
          refine x_callQ (pc := 50) (n' := 41) (ov := some (.int r3)) C hW (kC_Tok_length l D dA (zz o) o b  sT hr3) [30, 31, 32, 33, 0, 1, 2, 3, 4, 5, 6, 7, 8, 9, 10, 11, 12, 13, 14, 15, 16, 17, 18, 19, 20, 21, 22, 23, 24, 25, 26, 27, 28, 29, 34, 35, 36, 37, 38, 39, 40] rfl (by decide +kernel) rfl (ci := 3) rfl (q0 := 30) rfl gC_Par_216 ⟨rfl, by decide, by decide, by decide +kernel⟩ ⟨Nat.le_of_ble_eq_true rfl, Nat.le_of_ble_eq_true rfl⟩ ⟨show _ ≤ DC by omega, show _ ≤ DS by omega⟩ (As := []) (n := 0) rfl hl.1 rfl (Nat.le_of_ble_eq_true rfl) dC_Par_readStrings_50 ?_
          refine lv_iload_n (pc := 53) hx hb dC_Par_readStrings_53 rfl (lv_at hl 1 rfl) ?_
          refine lv_iadd (pc := 54) hx hb dC_Par_readStrings_54 ?_
          obtain ⟨r4, u5, da6, ea7, db8, eb9, hr4, hM, hqda6, hpda6⟩ := ct_some hM
          refine x_callC (pc := 55) (n' := 41) C hW (kC_Prg_add l D dA o b i  (4 : Int32) r2 (r3 + x1) sP sI hr4) [34, 35, 36, 37, 38, 39, 40, 0, 1, 2, 3, 4, 5, 6, 7, 8, 9, 10, 11, 12, 13, 14, 15, 16, 17, 18, 19, 20, 21, 22, 23, 24, 25, 26, 27, 28, 29, 30, 31, 32, 33] rfl (by decide +kernel) rfl (ci := 5) rfl (q0 := 34) rfl gC_Par_85 ⟨rfl, by decide, by decide, by decide +kernel⟩ ⟨Nat.le_of_ble_eq_true rfl, Nat.le_of_ble_eq_true rfl⟩ ⟨show _ + da6 ≤ DC by omega, show _ + ea7 ≤ DS by omega⟩ (As := [.int (4 : Int32), .int r2, .int (r3 + x1)]) (n := 3) rfl hl.1 rfl (Nat.le_of_ble_eq_true rfl) dC_Par_readStrings_55 (fun Wc' ov H locs hPo hWn => ?_)
          obtain ⟨b10, i, rfl, rfl⟩ := hPo
          have hW := hWn (w_Par dA o (mxs [4] b10 b) i sR sF sN sT u5.1 u5.2) rfl rfl
          generalize mxs [4] b10 b = b at hW
          refine lv_pop (pc := 58) hx hb dC_Par_readStrings_58 rfl ?_
          refine lv_aload_n (pc := 59) hx hb dC_Par_readStrings_59 rfl (lv_at hl 0 rfl) ?_
          refine x_getC (pc := 60) C hW 0 rfl (ci := 8) rfl i_Par 1 (by decide) qc_512 rfl rfl dC_Par_readStrings_60 ?_
          refine lv_iconst (pc := 63) (v := 1) hx hb dC_Par_readStrings_63 (by decide) ?_
          obtain ⟨r11, u12, hr11, hM⟩ := cl_some hM
          refine x_callC (pc := 64) (n' := 41) C hW (kC_Tok_skip l D dA (zz o) o b  (1 : Int32) sT hr11) [30, 31, 32, 33, 0, 1, 2, 3, 4, 5, 6, 7, 8, 9, 10, 11, 12, 13, 14, 15, 16, 17, 18, 19, 20, 21, 22, 23, 24, 25, 26, 27, 28, 29, 34, 35, 36, 37, 38, 39, 40] rfl (by decide +kernel) rfl (ci := 3) rfl (q0 := 30) rfl gC_Par_53 ⟨rfl, by decide, by decide, by decide +kernel⟩ ⟨Nat.le_of_ble_eq_true rfl, Nat.le_of_ble_eq_true rfl⟩ ⟨show _ + 0 ≤ DC by omega, show _ + 0 ≤ DS by omega⟩ (As := [.int (1 : Int32)]) (n := 1) rfl hl.1 rfl (Nat.le_of_ble_eq_true rfl) dC_Par_readStrings_64 (fun Wc' ov H locs hPo hWn => ?_)
          obtain ⟨rfl, rfl⟩ := hPo
          have hW := hWn (w_Par dA o b i sR sF sN u12 u5.1 u5.2) rfl rfl
          refine lv_aload_n (pc := 67) hx hb dC_Par_readStrings_67 rfl (lv_at hl 0 rfl) ?_
          refine x_getC (pc := 68) C hW 0 rfl (ci := 8) rfl i_Par 1 (by decide) qc_512 rfl rfl dC_Par_readStrings_68 ?_
          refine lv_iconst (pc := 71) (v := 0) hx hb dC_Par_readStrings_71 (by decide) ?_
          obtain ⟨r13, hr13, hM⟩ := cr_some hM
          refine x_callQ (pc := 72) (n' := 41) (ov := some (.int r13)) C hW (kC_Tok_kind l D dA (zz o) o b  (0 : Int32) u12 hr13) [30, 31, 32, 33, 0, 1, 2, 3, 4, 5, 6, 7, 8, 9, 10, 11, 12, 13, 14, 15, 16, 17, 18, 19, 20, 21, 22, 23, 24, 25, 26, 27, 28, 29, 34, 35, 36, 37, 38, 39, 40] rfl (by decide +kernel) rfl (ci := 3) rfl (q0 := 30) rfl gC_Par_46 ⟨rfl, by decide, by decide, by decide +kernel⟩ ⟨Nat.le_of_ble_eq_true rfl, Nat.le_of_ble_eq_true rfl⟩ ⟨show _ ≤ DC by omega, show _ ≤ DS by omega⟩ (As := [.int (0 : Int32)]) (n := 1) rfl hl.1 rfl (Nat.le_of_ble_eq_true rfl) dC_Par_readStrings_72 ?_
          refine lv_bipush (pc := 75) (v := 44) hx hb dC_Par_readStrings_75 (by decide) ?_
          refine lv_icmp_ne (pc := 77) (tgt := 84) hx hb dC_Par_readStrings_77 (by decide) (fun hc => ?_) (fun hc => ?_)
          · replace hM := it_f hc hM
            refine lv_iconst (pc := 84) (v := 0) hx hb dC_Par_readStrings_84 (by decide) ?_
            exact bC_Par_readStrings_85 N _ C hrec10 _ _ _ _ _ _ _ _ _ _ _ _ _ hM (by omega) (by omega) _ _ _ _ hW _ (lv_sub hl [0, 1, 3] rfl)
          · replace hM := it_t hc hM
            refine lv_iconst (pc := 80) (v := 1) hx hb dC_Par_readStrings_80 (by decide) ?_
            refine lv_goto (pc := 81) (tgt := 85) hx hb dC_Par_readStrings_81 (by decide) ?_
            exact bC_Par_readStrings_85 N _ C hrec10 _ _ _ _ _ _ _ _ _ _ _ _ _ hM (by omega) (by omega) _ _ _ _ hW _ (lv_sub hl [0, 1, 3] rfl)
        · replace hM := it_f hc hM
          refine lv_iconst (pc := 31) (v := 1) hx hb dC_Par_readStrings_31 (by decide) ?_
          obtain ⟨rfl, rfl, rfl, rfl⟩ := sm_q hM
          exact x_retCi (pc := 32) C rfl hW ⟨_, _, rfl, rfl⟩ (by omega) (by omega) dC_Par_readStrings_32
def C_Par_readStrings (N : Nat) (x1 : Int32) (sR : CS) (sF : CS) (sN : CS) (sT : CS) (sP : CS) (sI : CS) : Option ((Int32 × (CS × CS × CS)) × (Nat × Nat)) :=
  cr (C_Tok_left  sT) (fun r1 => C_Par_readStrings_10 N  N x1 (1 : Int32) r1 sR sF sN sT sP sI)
set_option maxHeartbeats 4000000 in
set_option maxRecDepth 100000 in
theorem bC_Par_readStrings_0 (N : Nat)  {r : Int32} {u : CS × CS × CS} {DC DS : Nat} (C : CxC R_Par p s m args meth c cC_Par_readStrings 4 (some .int) D dA (zz o) A) (x1 : Int32) (sR : CS) (sF : CS) (sN : CS) (sT : CS) (sP : CS) (sI : CS) (dc ds kc ks : Nat) (hM : C_Par_readStrings N  x1 sR sF sN sT sP sI = some ((r, u), (dc, ds))) (hdc : kc + dc ≤ DC) (hds : ks + ds ≤ DS) (b i : Nat → Nat) (H : Heap) (locs : List Loc) (hW : WdC D A s (w_Par dA o b i sR sF sN sT sP sI) H locs) (ls : Array Slot) (hl : lv_has ls 4 [(0, .ref (o 112)), (1, .int x1)]) : W p l e (rmC 8 334 DC DS) s m args below meth c H locs kc ks (MQ below (QC D A (fun Ws' ov => ∃ b' i' : Nat → Nat, Ws' = (w_Par dA o b' i' sR sF sN u.1 u.2.1 u.2.2) ∧ ov = (some (.int r)))) args s DC DS A) (F0 m 0 ls []) := by
  have hx := C.1.1
  have hb := C.1.2.1
  have hown := C.1.2.2.2.2.1
  have hT := C.1.2.2.2.2.2.1
  unfold C_Par_readStrings at hM
  refine lv_iconst (pc := 0) (v := 1) hx hb dC_Par_readStrings_0 (by decide) ?_
  refine lv_istore_n (pc := 1) (lv' := [(2, .int (1 : Int32)), (0, .ref (o 112)), (1, .int x1)]) hx hb dC_Par_readStrings_1 rfl hl (by decide) rfl (fun ls hl => ?_)
  refine lv_aload_n (pc := 2) hx hb dC_Par_readStrings_2 rfl (lv_at hl 1 rfl) ?_
  refine x_getC (pc := 3) C hW 0 rfl (ci := 8) rfl i_Par 1 (by decide) qc_512 rfl rfl dC_Par_readStrings_3 ?_
  obtain ⟨r1, hr1, hM⟩ := cr_some hM
  refine x_callQ (pc := 6) (n' := 41) (ov := some (.int r1)) C hW (kC_Tok_left l D dA (zz o) o b  sT hr1) [30, 31, 32, 33, 0, 1, 2, 3, 4, 5, 6, 7, 8, 9, 10, 11, 12, 13, 14, 15, 16, 17, 18, 19, 20, 21, 22, 23, 24, 25, 26, 27, 28, 29, 34, 35, 36, 37, 38, 39, 40] rfl (by decide +kernel) rfl (ci := 3) rfl (q0 := 30) rfl gC_Par_33 ⟨rfl, by decide, by decide, by decide +kernel⟩ ⟨Nat.le_of_ble_eq_true rfl, Nat.le_of_ble_eq_true rfl⟩ ⟨show _ ≤ DC by omega, show _ ≤ DS by omega⟩ (As := []) (n := 0) rfl hl.1 rfl (Nat.le_of_ble_eq_true rfl) dC_Par_readStrings_6 ?_
  refine lv_istore_n (pc := 9) (lv' := [(3, .int r1), (2, .int (1 : Int32)), (0, .ref (o 112)), (1, .int x1)]) hx hb dC_Par_readStrings_9 rfl hl (by decide) rfl (fun ls hl => ?_)
  exact bC_Par_readStrings_10 N  C  N _ _ _ _ _ _ _ _ _ _ _ _ _ hM (by omega) (by omega) _ _ _ _ hW _ (lv_sub hl [2, 3, 1, 0] rfl)
theorem kC_Par_readStrings (l : Launch) (D : va_G) (dA : Nat → ClassId) (o b i : Nat → Nat) (N : Nat) (x1 : Int32) (sR : CS) (sF : CS) (sN : CS) (sT : CS) (sP : CS) (sI : CS) {r : Int32} {u : CS × CS × CS} {dc ds : Nat} (hM : C_Par_readStrings N x1 sR sF sN sT sP sI = some ((r, u), (dc, ds))) : KC l D dA (zz o) yC_Par_readStrings cC_Par_readStrings 4 (some .int) 8 334 dc ds (w_Par dA o b i sR sF sN sT sP sI) [.ref (o 112), .int x1] (fun Ws' ov => ∃ b' i' : Nat → Nat, Ws' = (w_Par dA o b' i' sR sF sN u.1 u.2.1 u.2.2) ∧ ov = (some (.int r))) := x_enterC (by decide +kernel) (Nat.le_of_ble_eq_true rfl) (fun p e s m args below meth c A C _ hW ls hl => bC_Par_readStrings_0 N C x1 sR sF sN sT sP sI dc ds 0 0 hM (by omega) (by omega) b i s.heap [] hW ls hl)
def C_Par_readSpace_29 (N : Nat) (x1 : Int32) (sR : CS) (sF : CS) (sN : CS) (sT : CS) (sP : CS) (sI : CS) : Option ((Int32 × (CS × CS × CS × CS)) × (Nat × Nat)) :=
  some ((x1, (sF, sT, sP, sI)), (0, 0))
set_option maxHeartbeats 4000000 in
set_option maxRecDepth 100000 in
theorem bC_Par_readSpace_29 (N : Nat)  {r : Int32} {u : CS × CS × CS × CS} {DC DS : Nat} (C : CxC R_Par p s m args meth c cC_Par_readSpace 2 (some .int) D dA (zz o) A) (x1 : Int32) (sR : CS) (sF : CS) (sN : CS) (sT : CS) (sP : CS) (sI : CS) (dc ds kc ks : Nat) (hM : C_Par_readSpace_29 N  x1 sR sF sN sT sP sI = some ((r, u), (dc, ds))) (hdc : kc + dc ≤ DC) (hds : ks + ds ≤ DS) (b i : Nat → Nat) (H : Heap) (locs : List Loc) (hW : WdC D A s (w_Par dA o b i sR sF sN sT sP sI) H locs) (ls : Array Slot) (hl : lv_has ls 2 [(1, .int x1)]) : W p l e (rmC 8 334 DC DS) s m args below meth c H locs kc ks (MQ below (QC D A (fun Ws' ov => ∃ b' i' : Nat → Nat, Ws' = (w_Par dA o b' i' sR u.1 sN u.2.1 u.2.2.1 u.2.2.2) ∧ ov = (some (.int r)))) args s DC DS A) (F0 m 29 ls []) := by
  have hx := C.1.1
  have hb := C.1.2.1
  have hown := C.1.2.2.2.2.1
  have hT := C.1.2.2.2.2.2.1
  unfold C_Par_readSpace_29 at hM
  refine lv_iload_n (pc := 29) hx hb dC_Par_readSpace_29 rfl (lv_at hl 0 rfl) ?_
  obtain ⟨rfl, rfl, rfl, rfl⟩ := sm_q hM
  exact x_retCi (pc := 30) C rfl hW ⟨_, _, rfl, rfl⟩ (by omega) (by omega) dC_Par_readSpace_30
def C_Par_readSpace (N : Nat)  (sR : CS) (sF : CS) (sN : CS) (sT : CS) (sP : CS) (sI : CS) : Option ((Int32 × (CS × CS × CS × CS)) × (Nat × Nat)) :=
  ct (C_Par_readFixed N (0 : Int32) (32768 : Int32) sR sF sN sT sP sI) (fun r1 u2 => (if r1 = 0 then ct (C_Prg_add  (2 : Int32) (0 : Int32) (u2.1.1 1) sP sI) (fun r8 u9 => C_Par_readSpace_29 N  r1 sR u2.1 sN u2.2 u9.1 u9.2) else C_Par_readSpace_29 N  r1 sR u2.1 sN u2.2 sP sI))
set_option maxHeartbeats 4000000 in
set_option maxRecDepth 100000 in
theorem bC_Par_readSpace_0 (N : Nat)  {r : Int32} {u : CS × CS × CS × CS} {DC DS : Nat} (C : CxC R_Par p s m args meth c cC_Par_readSpace 2 (some .int) D dA (zz o) A)  (sR : CS) (sF : CS) (sN : CS) (sT : CS) (sP : CS) (sI : CS) (dc ds kc ks : Nat) (hM : C_Par_readSpace N   sR sF sN sT sP sI = some ((r, u), (dc, ds))) (hdc : kc + dc ≤ DC) (hds : ks + ds ≤ DS) (b i : Nat → Nat) (H : Heap) (locs : List Loc) (hW : WdC D A s (w_Par dA o b i sR sF sN sT sP sI) H locs) (ls : Array Slot) (hl : lv_has ls 2 [(0, .ref (o 112))]) : W p l e (rmC 8 334 DC DS) s m args below meth c H locs kc ks (MQ below (QC D A (fun Ws' ov => ∃ b' i' : Nat → Nat, Ws' = (w_Par dA o b' i' sR u.1 sN u.2.1 u.2.2.1 u.2.2.2) ∧ ov = (some (.int r)))) args s DC DS A) (F0 m 0 ls []) := by
  have hx := C.1.1
  have hb := C.1.2.1
  have hown := C.1.2.2.2.2.1
  have hT := C.1.2.2.2.2.2.1
  unfold C_Par_readSpace at hM
  refine lv_aload_n (pc := 0) hx hb dC_Par_readSpace_0 rfl (lv_at hl 0 rfl) ?_
  refine lv_iconst (pc := 1) (v := 0) hx hb dC_Par_readSpace_1 (by decide) ?_
  refine lv_ldc (pc := 2) (v := 32768) hx hb hown (hT _ qc_1217) dC_Par_readSpace_2 ?_
  obtain ⟨r1, u2, da3, ea4, db5, eb6, hr1, hM, hqda3, hpda3⟩ := ct_some hM
  refine x_callC (pc := 4) (n' := 41) C hW (kC_Par_readFixed l D dA o b i N (0 : Int32) (32768 : Int32) sR sF sN sT sP sI hr1) [0, 1, 2, 3, 4, 5, 6, 7, 8, 9, 10, 11, 12, 13, 14, 15, 16, 17, 18, 19, 20, 21, 22, 23, 24, 25, 26, 27, 28, 29, 30, 31, 32, 33, 34, 35, 36, 37, 38, 39, 40] rfl (by decide +kernel) rfl (ci := 8) rfl (q0 := 0) rfl gC_Par_210 ⟨rfl, by decide, by decide, by decide +kernel⟩ ⟨Nat.le_of_ble_eq_true rfl, Nat.le_of_ble_eq_true rfl⟩ ⟨show _ + da3 ≤ DC by omega, show _ + ea4 ≤ DS by omega⟩ (As := [.int (0 : Int32), .int (32768 : Int32)]) (n := 2) rfl hl.1 rfl (Nat.le_of_ble_eq_true rfl) dC_Par_readSpace_4 (fun Wc' ov H locs hPo hWn => ?_)
  obtain ⟨b7, rfl, rfl⟩ := hPo
  have hW := hWn (w_Par dA o (mxs [1, 2, 4, 6] b7 b) i sR u2.1 sN u2.2 sP sI) rfl rfl
  generalize mxs [1, 2, 4, 6] b7 b = b at hW
  refine lv_istore_n (pc := 7) (lv' := [(1, .int r1), (0, .ref (o 112))]) hx hb dC_Par_readSpace_7 rfl hl (by decide) rfl (fun ls hl => ?_)
  refine lv_iload_n (pc := 8) hx hb dC_Par_readSpace_8 rfl (lv_at hl 0 rfl) ?_
  refine lv_if_ne (pc := 9) (tgt := 29) hx hb dC_Par_readSpace_9 (by decide) (fun hc => ?_) (fun hc => ?_)
  · replace hM := it_f hc hM
    exact bC_Par_readSpace_29 N  C  _ _ _ _ _ _ _ _ _ _ _ hM (by omega) (by omega) _ _ _ _ hW _ (lv_sub hl [0] rfl)
  · replace hM := it_t hc hM
    refine lv_aload_n (pc := 12) hx hb dC_Par_readSpace_12 rfl (lv_at hl 1 rfl) ?_
    refine x_getC (pc := 13) C hW 0 rfl (ci := 8) rfl i_Par 2 (by decide) qc_513 rfl rfl dC_Par_readSpace_13 ?_
    refine lv_iconst (pc := 16) (v := 2) hx hb dC_Par_readSpace_16 (by decide) ?_
    refine lv_iconst (pc := 17) (v := 0) hx hb dC_Par_readSpace_17 (by decide) ?_
    refine lv_aload_n (pc := 18) hx hb dC_Par_readSpace_18 rfl (lv_at hl 1 rfl) ?_
    refine x_getC (pc := 19) C hW 0 rfl (ci := 8) rfl i_Par 3 (by decide) qc_514 rfl rfl dC_Par_readSpace_19 ?_
    refine x_getC (pc := 22) C hW 1 rfl (ci := 7) rfl i_Frm 1 (by decide) qc_466 rfl rfl dC_Par_readSpace_22 ?_
    obtain ⟨r8, u9, da10, ea11, db12, eb13, hr8, hM, hqda10, hpda10⟩ := ct_some hM
    refine x_callC (pc := 25) (n' := 41) C hW (kC_Prg_add l D dA o b i  (2 : Int32) (0 : Int32) (u2.1.1 1) sP sI hr8) [34, 35, 36, 37, 38, 39, 40, 0, 1, 2, 3, 4, 5, 6, 7, 8, 9, 10, 11, 12, 13, 14, 15, 16, 17, 18, 19, 20, 21, 22, 23, 24, 25, 26, 27, 28, 29, 30, 31, 32, 33] rfl (by decide +kernel) rfl (ci := 5) rfl (q0 := 34) rfl gC_Par_85 ⟨rfl, by decide, by decide, by decide +kernel⟩ ⟨Nat.le_of_ble_eq_true rfl, Nat.le_of_ble_eq_true rfl⟩ ⟨show _ + da10 ≤ DC by omega, show _ + ea11 ≤ DS by omega⟩ (As := [.int (2 : Int32), .int (0 : Int32), .int (u2.1.1 1)]) (n := 3) rfl hl.1 rfl (Nat.le_of_ble_eq_true rfl) dC_Par_readSpace_25 (fun Wc' ov H locs hPo hWn => ?_)
    obtain ⟨b14, i, rfl, rfl⟩ := hPo
    have hW := hWn (w_Par dA o (mxs [4] b14 b) i sR u2.1 sN u2.2 u9.1 u9.2) rfl rfl
    generalize mxs [4] b14 b = b at hW
    refine lv_pop (pc := 28) hx hb dC_Par_readSpace_28 rfl ?_
    exact bC_Par_readSpace_29 N  C  _ _ _ _ _ _ _ _ _ _ _ hM (by omega) (by omega) _ _ _ _ hW _ (lv_sub hl [0] rfl)
theorem kC_Par_readSpace (l : Launch) (D : va_G) (dA : Nat → ClassId) (o b i : Nat → Nat) (N : Nat)  (sR : CS) (sF : CS) (sN : CS) (sT : CS) (sP : CS) (sI : CS) {r : Int32} {u : CS × CS × CS × CS} {dc ds : Nat} (hM : C_Par_readSpace N  sR sF sN sT sP sI = some ((r, u), (dc, ds))) : KC l D dA (zz o) yC_Par_readSpace cC_Par_readSpace 2 (some .int) 8 334 dc ds (w_Par dA o b i sR sF sN sT sP sI) [.ref (o 112)] (fun Ws' ov => ∃ b' i' : Nat → Nat, Ws' = (w_Par dA o b' i' sR u.1 sN u.2.1 u.2.2.1 u.2.2.2) ∧ ov = (some (.int r))) := x_enterC (by decide +kernel) (Nat.le_of_ble_eq_true rfl) (fun p e s m args below meth c A C _ hW ls hl => bC_Par_readSpace_0 N C  sR sF sN sT sP sI dc ds 0 0 hM (by omega) (by omega) b i s.heap [] hW ls hl)
def C_Par_readAlign_29 (N : Nat) (x1 : Int32) (sR : CS) (sF : CS) (sN : CS) (sT : CS) (sP : CS) (sI : CS) : Option ((Int32 × (CS × CS × CS × CS)) × (Nat × Nat)) :=
  some ((x1, (sF, sT, sP, sI)), (0, 0))
set_option maxHeartbeats 4000000 in
set_option maxRecDepth 100000 in
theorem bC_Par_readAlign_29 (N : Nat)  {r : Int32} {u : CS × CS × CS × CS} {DC DS : Nat} (C : CxC R_Par p s m args meth c cC_Par_readAlign 2 (some .int) D dA (zz o) A) (x1 : Int32) (sR : CS) (sF : CS) (sN : CS) (sT : CS) (sP : CS) (sI : CS) (dc ds kc ks : Nat) (hM : C_Par_readAlign_29 N  x1 sR sF sN sT sP sI = some ((r, u), (dc, ds))) (hdc : kc + dc ≤ DC) (hds : ks + ds ≤ DS) (b i : Nat → Nat) (H : Heap) (locs : List Loc) (hW : WdC D A s (w_Par dA o b i sR sF sN sT sP sI) H locs) (ls : Array Slot) (hl : lv_has ls 2 [(1, .int x1)]) : W p l e (rmC 8 334 DC DS) s m args below meth c H locs kc ks (MQ below (QC D A (fun Ws' ov => ∃ b' i' : Nat → Nat, Ws' = (w_Par dA o b' i' sR u.1 sN u.2.1 u.2.2.1 u.2.2.2) ∧ ov = (some (.int r)))) args s DC DS A) (F0 m 29 ls []) := by
  have hx := C.1.1
  have hb := C.1.2.1
  have hown := C.1.2.2.2.2.1
  have hT := C.1.2.2.2.2.2.1
  unfold C_Par_readAlign_29 at hM
  refine lv_iload_n (pc := 29) hx hb dC_Par_readAlign_29 rfl (lv_at hl 0 rfl) ?_
  obtain ⟨rfl, rfl, rfl, rfl⟩ := sm_q hM
  exact x_retCi (pc := 30) C rfl hW ⟨_, _, rfl, rfl⟩ (by omega) (by omega) dC_Par_readAlign_30
def C_Par_readAlign (N : Nat)  (sR : CS) (sF : CS) (sN : CS) (sT : CS) (sP : CS) (sI : CS) : Option ((Int32 × (CS × CS × CS × CS)) × (Nat × Nat)) :=
  ct (C_Par_readFixed N (0 : Int32) (10 : Int32) sR sF sN sT sP sI) (fun r1 u2 => (if r1 = 0 then ct (C_Prg_add  (3 : Int32) (u2.1.1 1) (0 : Int32) sP sI) (fun r8 u9 => C_Par_readAlign_29 N  r1 sR u2.1 sN u2.2 u9.1 u9.2) else C_Par_readAlign_29 N  r1 sR u2.1 sN u2.2 sP sI))
set_option maxHeartbeats 4000000 in
set_option maxRecDepth 100000 in
theorem bC_Par_readAlign_0 (N : Nat)  {r : Int32} {u : CS × CS × CS × CS} {DC DS : Nat} (C : CxC R_Par p s m args meth c cC_Par_readAlign 2 (some .int) D dA (zz o) A)  (sR : CS) (sF : CS) (sN : CS) (sT : CS) (sP : CS) (sI : CS) (dc ds kc ks : Nat) (hM : C_Par_readAlign N   sR sF sN sT sP sI = some ((r, u), (dc, ds))) (hdc : kc + dc ≤ DC) (hds : ks + ds ≤ DS) (b i : Nat → Nat) (H : Heap) (locs : List Loc) (hW : WdC D A s (w_Par dA o b i sR sF sN sT sP sI) H locs) (ls : Array Slot) (hl : lv_has ls 2 [(0, .ref (o 112))]) : W p l e (rmC 8 334 DC DS) s m args below meth c H locs kc ks (MQ below (QC D A (fun Ws' ov => ∃ b' i' : Nat → Nat, Ws' = (w_Par dA o b' i' sR u.1 sN u.2.1 u.2.2.1 u.2.2.2) ∧ ov = (some (.int r)))) args s DC DS A) (F0 m 0 ls []) := by
  have hx := C.1.1
  have hb := C.1.2.1
  have hown := C.1.2.2.2.2.1
  have hT := C.1.2.2.2.2.2.1
  unfold C_Par_readAlign at hM
  refine lv_aload_n (pc := 0) hx hb dC_Par_readAlign_0 rfl (lv_at hl 0 rfl) ?_
  refine lv_iconst (pc := 1) (v := 0) hx hb dC_Par_readAlign_1 (by decide) ?_
  refine lv_bipush (pc := 2) (v := 10) hx hb dC_Par_readAlign_2 (by decide) ?_
  obtain ⟨r1, u2, da3, ea4, db5, eb6, hr1, hM, hqda3, hpda3⟩ := ct_some hM
  refine x_callC (pc := 4) (n' := 41) C hW (kC_Par_readFixed l D dA o b i N (0 : Int32) (10 : Int32) sR sF sN sT sP sI hr1) [0, 1, 2, 3, 4, 5, 6, 7, 8, 9, 10, 11, 12, 13, 14, 15, 16, 17, 18, 19, 20, 21, 22, 23, 24, 25, 26, 27, 28, 29, 30, 31, 32, 33, 34, 35, 36, 37, 38, 39, 40] rfl (by decide +kernel) rfl (ci := 8) rfl (q0 := 0) rfl gC_Par_210 ⟨rfl, by decide, by decide, by decide +kernel⟩ ⟨Nat.le_of_ble_eq_true rfl, Nat.le_of_ble_eq_true rfl⟩ ⟨show _ + da3 ≤ DC by omega, show _ + ea4 ≤ DS by omega⟩ (As := [.int (0 : Int32), .int (10 : Int32)]) (n := 2) rfl hl.1 rfl (Nat.le_of_ble_eq_true rfl) dC_Par_readAlign_4 (fun Wc' ov H locs hPo hWn => ?_)
  obtain ⟨b7, rfl, rfl⟩ := hPo
  have hW := hWn (w_Par dA o (mxs [1, 2, 4, 6] b7 b) i sR u2.1 sN u2.2 sP sI) rfl rfl
  generalize mxs [1, 2, 4, 6] b7 b = b at hW
  refine lv_istore_n (pc := 7) (lv' := [(1, .int r1), (0, .ref (o 112))]) hx hb dC_Par_readAlign_7 rfl hl (by decide) rfl (fun ls hl => ?_)
  refine lv_iload_n (pc := 8) hx hb dC_Par_readAlign_8 rfl (lv_at hl 0 rfl) ?_
  refine lv_if_ne (pc := 9) (tgt := 29) hx hb dC_Par_readAlign_9 (by decide) (fun hc => ?_) (fun hc => ?_)
  · replace hM := it_f hc hM
    exact bC_Par_readAlign_29 N  C  _ _ _ _ _ _ _ _ _ _ _ hM (by omega) (by omega) _ _ _ _ hW _ (lv_sub hl [0] rfl)
  · replace hM := it_t hc hM
    refine lv_aload_n (pc := 12) hx hb dC_Par_readAlign_12 rfl (lv_at hl 1 rfl) ?_
    refine x_getC (pc := 13) C hW 0 rfl (ci := 8) rfl i_Par 2 (by decide) qc_513 rfl rfl dC_Par_readAlign_13 ?_
    refine lv_iconst (pc := 16) (v := 3) hx hb dC_Par_readAlign_16 (by decide) ?_
    refine lv_aload_n (pc := 17) hx hb dC_Par_readAlign_17 rfl (lv_at hl 1 rfl) ?_
    refine x_getC (pc := 18) C hW 0 rfl (ci := 8) rfl i_Par 3 (by decide) qc_514 rfl rfl dC_Par_readAlign_18 ?_
    refine x_getC (pc := 21) C hW 1 rfl (ci := 7) rfl i_Frm 1 (by decide) qc_466 rfl rfl dC_Par_readAlign_21 ?_
    refine lv_iconst (pc := 24) (v := 0) hx hb dC_Par_readAlign_24 (by decide) ?_
    obtain ⟨r8, u9, da10, ea11, db12, eb13, hr8, hM, hqda10, hpda10⟩ := ct_some hM
    refine x_callC (pc := 25) (n' := 41) C hW (kC_Prg_add l D dA o b i  (3 : Int32) (u2.1.1 1) (0 : Int32) sP sI hr8) [34, 35, 36, 37, 38, 39, 40, 0, 1, 2, 3, 4, 5, 6, 7, 8, 9, 10, 11, 12, 13, 14, 15, 16, 17, 18, 19, 20, 21, 22, 23, 24, 25, 26, 27, 28, 29, 30, 31, 32, 33] rfl (by decide +kernel) rfl (ci := 5) rfl (q0 := 34) rfl gC_Par_85 ⟨rfl, by decide, by decide, by decide +kernel⟩ ⟨Nat.le_of_ble_eq_true rfl, Nat.le_of_ble_eq_true rfl⟩ ⟨show _ + da10 ≤ DC by omega, show _ + ea11 ≤ DS by omega⟩ (As := [.int (3 : Int32), .int (u2.1.1 1), .int (0 : Int32)]) (n := 3) rfl hl.1 rfl (Nat.le_of_ble_eq_true rfl) dC_Par_readAlign_25 (fun Wc' ov H locs hPo hWn => ?_)
    obtain ⟨b14, i, rfl, rfl⟩ := hPo
    have hW := hWn (w_Par dA o (mxs [4] b14 b) i sR u2.1 sN u2.2 u9.1 u9.2) rfl rfl
    generalize mxs [4] b14 b = b at hW
    refine lv_pop (pc := 28) hx hb dC_Par_readAlign_28 rfl ?_
    exact bC_Par_readAlign_29 N  C  _ _ _ _ _ _ _ _ _ _ _ hM (by omega) (by omega) _ _ _ _ hW _ (lv_sub hl [0] rfl)
theorem kC_Par_readAlign (l : Launch) (D : va_G) (dA : Nat → ClassId) (o b i : Nat → Nat) (N : Nat)  (sR : CS) (sF : CS) (sN : CS) (sT : CS) (sP : CS) (sI : CS) {r : Int32} {u : CS × CS × CS × CS} {dc ds : Nat} (hM : C_Par_readAlign N  sR sF sN sT sP sI = some ((r, u), (dc, ds))) : KC l D dA (zz o) yC_Par_readAlign cC_Par_readAlign 2 (some .int) 8 334 dc ds (w_Par dA o b i sR sF sN sT sP sI) [.ref (o 112)] (fun Ws' ov => ∃ b' i' : Nat → Nat, Ws' = (w_Par dA o b' i' sR u.1 sN u.2.1 u.2.2.1 u.2.2.2) ∧ ov = (some (.int r))) := x_enterC (by decide +kernel) (Nat.le_of_ble_eq_true rfl) (fun p e s m args below meth c A C _ hW ls hl => bC_Par_readAlign_0 N C  sR sF sN sT sP sI dc ds 0 0 hM (by omega) (by omega) b i s.heap [] hW ls hl)
def C_Par_addLoad_122  (sR : CS) (sF : CS) (sN : CS) (sT : CS) (sP : CS) (sI : CS) : Option ((Int32 × (CS × CS)) × (Nat × Nat)) :=
  some (((0 : Int32), (sP, sI)), (0, 0))
set_option maxHeartbeats 4000000 in
set_option maxRecDepth 100000 in
theorem bC_Par_addLoad_122  {r : Int32} {u : CS × CS} {DC DS : Nat} (C : CxC R_Par p s m args meth c cC_Par_addLoad 4 none D dA (zz o) A)  (sR : CS) (sF : CS) (sN : CS) (sT : CS) (sP : CS) (sI : CS) (dc ds kc ks : Nat) (hM : C_Par_addLoad_122   sR sF sN sT sP sI = some ((r, u), (dc, ds))) (hdc : kc + dc ≤ DC) (hds : ks + ds ≤ DS) (b i : Nat → Nat) (H : Heap) (locs : List Loc) (hW : WdC D A s (w_Par dA o b i sR sF sN sT sP sI) H locs) (ls : Array Slot) (hl : lv_has ls 4 []) : W p l e (rmC 8 334 DC DS) s m args below meth c H locs kc ks (MQ below (QC D A (fun Ws' ov => ∃ b' i' : Nat → Nat, Ws' = (w_Par dA o b' i' sR sF sN sT u.1 u.2) ∧ ov = none)) args s DC DS A) (F0 m 122 ls []) := by
  have hx := C.1.1
  have hb := C.1.2.1
  have hown := C.1.2.2.2.2.1
  have hT := C.1.2.2.2.2.2.1
  unfold C_Par_addLoad_122 at hM
  obtain ⟨rfl, rfl, rfl, rfl⟩ := sm_q hM
  exact x_retCv (pc := 122) C rfl hW ⟨_, _, rfl, rfl⟩ (by omega) (by omega) dC_Par_addLoad_122
def C_Par_addLoad_43 (x1 : Int32) (x2 : Int32) (x3 : Int32) (sR : CS) (sF : CS) (sN : CS) (sT : CS) (sP : CS) (sI : CS) : Option ((Int32 × (CS × CS)) × (Nat × Nat)) :=
  cr (C_Fie_fits  (105 : Int32) x2) (fun r1 => (if r1 = 0 then ct (C_Prg_add  (0 : Int32) (((55 : Int32) ||| x1) ||| ((jush (x2 + (2048 : Int32)) (12 : Int32)) <<< ((12 : Int32) &&& 31))) (4 : Int32) sP sI) (fun r2 u3 => (if x3 = 0 then C_Par_addLoad_122  sR sF sN sT u3.1 u3.2 else ct (C_Prg_add  (0 : Int32) ((((19 : Int32) ||| x1) ||| (x1 <<< ((8 : Int32) &&& 31))) ||| x3) (4 : Int32) u3.1 u3.2) (fun r9 u10 => C_Par_addLoad_122  sR sF sN sT u10.1 u10.2))) else ct (C_Prg_add  (0 : Int32) (((19 : Int32) ||| x1) ||| x3) (4 : Int32) sP sI) (fun r16 u17 => C_Par_addLoad_122  sR sF sN sT u17.1 u17.2)))
set_option maxHeartbeats 4000000 in
set_option maxRecDepth 100000 in
theorem bC_Par_addLoad_43  {r : Int32} {u : CS × CS} {DC DS : Nat} (C : CxC R_Par p s m args meth c cC_Par_addLoad 4 none D dA (zz o) A) (x1 : Int32) (x2 : Int32) (x3 : Int32) (sR : CS) (sF : CS) (sN : CS) (sT : CS) (sP : CS) (sI : CS) (dc ds kc ks : Nat) (hM : C_Par_addLoad_43  x1 x2 x3 sR sF sN sT sP sI = some ((r, u), (dc, ds))) (hdc : kc + dc ≤ DC) (hds : ks + ds ≤ DS) (b i : Nat → Nat) (H : Heap) (locs : List Loc) (hW : WdC D A s (w_Par dA o b i sR sF sN sT sP sI) H locs) (ls : Array Slot) (hl : lv_has ls 4 [(0, .ref (o 112)), (1, .int x1), (2, .int x2), (3, .int x3)]) : W p l e (rmC 8 334 DC DS) s m args below meth c H locs kc ks (MQ below (QC D A (fun Ws' ov => ∃ b' i' : Nat → Nat, Ws' = (w_Par dA o b' i' sR sF sN sT u.1 u.2) ∧ ov = none)) args s DC DS A) (F0 m 43 ls []) := by
  have hx := C.1.1
  have hb := C.1.2.1
  have hown := C.1.2.2.2.2.1
  have hT := C.1.2.2.2.2.2.1
  unfold C_Par_addLoad_43 at hM
  refine lv_bipush (pc := 43) (v := 105) hx hb dC_Par_addLoad_43 (by decide) ?_
  refine lv_iload_n (pc := 45) hx hb dC_Par_addLoad_45 rfl (lv_at hl 2 rfl) ?_
  obtain ⟨r1, hr1, hM⟩ := cr_some hM
  refine x_callU (pc := 46) (ov := some (.int r1)) C.1 (kC_Fie_fits l  (105 : Int32) x2 hr1) qc_1243 qc_1241 qc_1242 qc_35 ⟨by decide, by decide, by decide +kernel⟩ ⟨rfl, rfl⟩ ⟨Nat.le_of_ble_eq_true rfl, Nat.le_of_ble_eq_true rfl⟩ ⟨show _ ≤ DC by omega, show _ ≤ DS by omega⟩ (As := [.int (105 : Int32), .int x2]) (n := 2) rfl hl.1 rfl (Nat.le_of_ble_eq_true rfl) dC_Par_addLoad_46 ?_
  refine lv_if_eq (pc := 49) (tgt := 71) hx hb dC_Par_addLoad_49 (by decide) (fun hc => ?_) (fun hc => ?_)
  · replace hM := it_t hc hM
    refine lv_aload_n (pc := 71) hx hb dC_Par_addLoad_71 rfl (lv_at hl 0 rfl) ?_
    refine x_getC (pc := 72) C hW 0 rfl (ci := 8) rfl i_Par 2 (by decide) qc_513 rfl rfl dC_Par_addLoad_72 ?_
    refine lv_iconst (pc := 75) (v := 0) hx hb dC_Par_addLoad_75 (by decide) ?_
    refine lv_bipush (pc := 76) (v := 55) hx hb dC_Par_addLoad_76 (by decide) ?_
    refine lv_iload_n (pc := 78) hx hb dC_Par_addLoad_78 rfl (lv_at hl 1 rfl) ?_
    refine lv_ior (pc := 79) hx hb dC_Par_addLoad_79 ?_
    refine lv_iload_n (pc := 80) hx hb dC_Par_addLoad_80 rfl (lv_at hl 2 rfl) ?_
    refine lv_sipush (pc := 81) (v := 2048) hx hb dC_Par_addLoad_81 (by decide) ?_
    refine lv_iadd (pc := 84) hx hb dC_Par_addLoad_84 ?_
    refine lv_bipush (pc := 85) (v := 12) hx hb dC_Par_addLoad_85 (by decide) ?_
    refine lv_iushr (pc := 87) (v := jush (x2 + (2048 : Int32)) (12 : Int32)) hx hb dC_Par_addLoad_87 rfl ?_
    refine lv_bipush (pc := 88) (v := 12) hx hb dC_Par_addLoad_88 (by decide) ?_
    refine lv_ishl (pc := 90) hx hb dC_Par_addLoad_90 ?_
    refine lv_ior (pc := 91) hx hb dC_Par_addLoad_91 ?_
    refine lv_iconst (pc := 92) (v := 4) hx hb dC_Par_addLoad_92 (by decide) ?_
    obtain ⟨r2, u3, da4, ea5, db6, eb7, hr2, hM, hqda4, hpda4⟩ := ct_some hM
    refine x_callC (pc := 93) (n' := 41) C hW (kC_Prg_add l D dA o b i  (0 : Int32) (((55 : Int32) ||| x1) ||| ((jush (x2 + (2048 : Int32)) (12 : Int32)) <<< ((12 : Int32) &&& 31))) (4 : Int32) sP sI hr2) [34, 35, 36, 37, 38, 39, 40, 0, 1, 2, 3, 4, 5, 6, 7, 8, 9, 10, 11, 12, 13, 14, 15, 16, 17, 18, 19, 20, 21, 22, 23, 24, 25, 26, 27, 28, 29, 30, 31, 32, 33] rfl (by decide +kernel) rfl (ci := 5) rfl (q0 := 34) rfl gC_Par_85 ⟨rfl, by decide, by decide, by decide +kernel⟩ ⟨Nat.le_of_ble_eq_true rfl, Nat.le_of_ble_eq_true rfl⟩ ⟨show _ + da4 ≤ DC by omega, show _ + ea5 ≤ DS by omega⟩ (As := [.int (0 : Int32), .int (((55 : Int32) ||| x1) ||| ((jush (x2 + (2048 : Int32)) (12 : Int32)) <<< ((12 : Int32) &&& 31))), .int (4 : Int32)]) (n := 3) rfl hl.1 rfl (Nat.le_of_ble_eq_true rfl) dC_Par_addLoad_93 (fun Wc' ov H locs hPo hWn => ?_)
    obtain ⟨b8, i, rfl, rfl⟩ := hPo
    have hW := hWn (w_Par dA o (mxs [4] b8 b) i sR sF sN sT u3.1 u3.2) rfl rfl
    generalize mxs [4] b8 b = b at hW
    refine lv_pop (pc := 96) hx hb dC_Par_addLoad_96 rfl ?_
    refine lv_iload_n (pc := 97) hx hb dC_Par_addLoad_97 rfl (lv_at hl 3 rfl) ?_
    refine lv_if_eq (pc := 98) (tgt := 122) hx hb dC_Par_addLoad_98 (by decide) (fun hc => ?_) (fun hc => ?_)
    · replace hM := it_t hc hM
      exact bC_Par_addLoad_122  C  _ _ _ _ _ _ _ _ _ _ hM (by omega) (by omega) _ _ _ _ hW _ (lv_sub hl [] rfl)
    · replace hM := it_f hc hM
      refine lv_aload_n (pc := 101) hx hb dC_Par_addLoad_101 rfl (lv_at hl 0 rfl) ?_
      refine x_getC (pc := 102) C hW 0 rfl (ci := 8) rfl i_Par 2 (by decide) qc_513 rfl rfl dC_Par_addLoad_102 ?_
      refine lv_iconst (pc := 105) (v := 0) hx hb dC_Par_addLoad_105 (by decide) ?_
      refine lv_bipush (pc := 106) (v := 19) hx hb dC_Par_addLoad_106 (by decide) ?_
      refine lv_iload_n (pc := 108) hx hb dC_Par_addLoad_108 rfl (lv_at hl 1 rfl) ?_
      refine lv_ior (pc := 109) hx hb dC_Par_addLoad_109 ?_
      refine lv_iload_n (pc := 110) hx hb dC_Par_addLoad_110 rfl (lv_at hl 1 rfl) ?_
      refine lv_bipush (pc := 111) (v := 8) hx hb dC_Par_addLoad_111 (by decide) ?_
      refine lv_ishl (pc := 113) hx hb dC_Par_addLoad_113 ?_
      refine lv_ior (pc := 114) hx hb dC_Par_addLoad_114 ?_
      refine lv_iload_n (pc := 115) hx hb dC_Par_addLoad_115 rfl (lv_at hl 3 rfl) ?_
      refine lv_ior (pc := 116) hx hb dC_Par_addLoad_116 ?_
      refine lv_iconst (pc := 117) (v := 4) hx hb dC_Par_addLoad_117 (by decide) ?_
      obtain ⟨r9, u10, da11, ea12, db13, eb14, hr9, hM, hqda11, hpda11⟩ := ct_some hM
      refine x_callC (pc := 118) (n' := 41) C hW (kC_Prg_add l D dA o b i  (0 : Int32) ((((19 : Int32) ||| x1) ||| (x1 <<< ((8 : Int32) &&& 31))) ||| x3) (4 : Int32) u3.1 u3.2 hr9) [34, 35, 36, 37, 38, 39, 40, 0, 1, 2, 3, 4, 5, 6, 7, 8, 9, 10, 11, 12, 13, 14, 15, 16, 17, 18, 19, 20, 21, 22, 23, 24, 25, 26, 27, 28, 29, 30, 31, 32, 33] rfl (by decide +kernel) rfl (ci := 5) rfl (q0 := 34) rfl gC_Par_85 ⟨rfl, by decide, by decide, by decide +kernel⟩ ⟨Nat.le_of_ble_eq_true rfl, Nat.le_of_ble_eq_true rfl⟩ ⟨show _ + da11 ≤ DC by omega, show _ + ea12 ≤ DS by omega⟩ (As := [.int (0 : Int32), .int ((((19 : Int32) ||| x1) ||| (x1 <<< ((8 : Int32) &&& 31))) ||| x3), .int (4 : Int32)]) (n := 3) rfl hl.1 rfl (Nat.le_of_ble_eq_true rfl) dC_Par_addLoad_118 (fun Wc' ov H locs hPo hWn => ?_)
      obtain ⟨b15, i, rfl, rfl⟩ := hPo
      have hW := hWn (w_Par dA o (mxs [4] b15 b) i sR sF sN sT u10.1 u10.2) rfl rfl
      generalize mxs [4] b15 b = b at hW
      refine lv_pop (pc := 121) hx hb dC_Par_addLoad_121 rfl ?_
      exact bC_Par_addLoad_122  C  _ _ _ _ _ _ _ _ _ _ hM (by omega) (by omega) _ _ _ _ hW _ (lv_sub hl [] rfl)
  · replace hM := it_f hc hM
    refine lv_aload_n (pc := 52) hx hb dC_Par_addLoad_52 rfl (lv_at hl 0 rfl) ?_
    refine x_getC (pc := 53) C hW 0 rfl (ci := 8) rfl i_Par 2 (by decide) qc_513 rfl rfl dC_Par_addLoad_53 ?_
    refine lv_iconst (pc := 56) (v := 0) hx hb dC_Par_addLoad_56 (by decide) ?_
    refine lv_bipush (pc := 57) (v := 19) hx hb dC_Par_addLoad_57 (by decide) ?_
    refine lv_iload_n (pc := 59) hx hb dC_Par_addLoad_59 rfl (lv_at hl 1 rfl) ?_
    refine lv_ior (pc := 60) hx hb dC_Par_addLoad_60 ?_
    refine lv_iload_n (pc := 61) hx hb dC_Par_addLoad_61 rfl (lv_at hl 3 rfl) ?_
    refine lv_ior (pc := 62) hx hb dC_Par_addLoad_62 ?_
    refine lv_iconst (pc := 63) (v := 4) hx hb dC_Par_addLoad_63 (by decide) ?_
    obtain ⟨r16, u17, da18, ea19, db20, eb21, hr16, hM, hqda18, hpda18⟩ := ct_some hM
    refine x_callC (pc := 64) (n' := 41) C hW (kC_Prg_add l D dA o b i  (0 : Int32) (((19 : Int32) ||| x1) ||| x3) (4 : Int32) sP sI hr16) [34, 35, 36, 37, 38, 39, 40, 0, 1, 2, 3, 4, 5, 6, 7, 8, 9, 10, 11, 12, 13, 14, 15, 16, 17, 18, 19, 20, 21, 22, 23, 24, 25, 26, 27, 28, 29, 30, 31, 32, 33] rfl (by decide +kernel) rfl (ci := 5) rfl (q0 := 34) rfl gC_Par_85 ⟨rfl, by decide, by decide, by decide +kernel⟩ ⟨Nat.le_of_ble_eq_true rfl, Nat.le_of_ble_eq_true rfl⟩ ⟨show _ + da18 ≤ DC by omega, show _ + ea19 ≤ DS by omega⟩ (As := [.int (0 : Int32), .int (((19 : Int32) ||| x1) ||| x3), .int (4 : Int32)]) (n := 3) rfl hl.1 rfl (Nat.le_of_ble_eq_true rfl) dC_Par_addLoad_64 (fun Wc' ov H locs hPo hWn => ?_)
    obtain ⟨b22, i, rfl, rfl⟩ := hPo
    have hW := hWn (w_Par dA o (mxs [4] b22 b) i sR sF sN sT u17.1 u17.2) rfl rfl
    generalize mxs [4] b22 b = b at hW
    refine lv_pop (pc := 67) hx hb dC_Par_addLoad_67 rfl ?_
    refine lv_goto (pc := 68) (tgt := 122) hx hb dC_Par_addLoad_68 (by decide) ?_
    exact bC_Par_addLoad_122  C  _ _ _ _ _ _ _ _ _ _ hM (by omega) (by omega) _ _ _ _ hW _ (lv_sub hl [] rfl)
def C_Par_addLoad (x1 : Int32) (x2 : Int32) (sR : CS) (sF : CS) (sN : CS) (sT : CS) (sP : CS) (sI : CS) : Option ((Int32 × (CS × CS)) × (Nat × Nat)) :=
  cr (C_Fie_fits  (78 : Int32) x2) (fun r1 => (if r1 = 0 then C_Par_addLoad_43  x1 x2 (x2 <<< ((20 : Int32) &&& 31)) sR sF sN sT sP sI else (if x1 = 0 then C_Par_addLoad_43  x1 x2 (x2 <<< ((20 : Int32) &&& 31)) sR sF sN sT sP sI else cr (C_Fie_scatter  (78 : Int32) x2) (fun r2 => ct (C_Prg_add  (0 : Int32) (((16385 : Int32) ||| x1) ||| r2) (2 : Int32) sP sI) (fun r3 u4 => C_Par_addLoad_122  sR sF sN sT u4.1 u4.2)))))
set_option maxHeartbeats 4000000 in
set_option maxRecDepth 100000 in
theorem bC_Par_addLoad_0  {r : Int32} {u : CS × CS} {DC DS : Nat} (C : CxC R_Par p s m args meth c cC_Par_addLoad 4 none D dA (zz o) A) (x1 : Int32) (x2 : Int32) (sR : CS) (sF : CS) (sN : CS) (sT : CS) (sP : CS) (sI : CS) (dc ds kc ks : Nat) (hM : C_Par_addLoad  x1 x2 sR sF sN sT sP sI = some ((r, u), (dc, ds))) (hdc : kc + dc ≤ DC) (hds : ks + ds ≤ DS) (b i : Nat → Nat) (H : Heap) (locs : List Loc) (hW : WdC D A s (w_Par dA o b i sR sF sN sT sP sI) H locs) (ls : Array Slot) (hl : lv_has ls 4 [(0, .ref (o 112)), (1, .int x1), (2, .int x2)]) : W p l e (rmC 8 334 DC DS) s m args below meth c H locs kc ks (MQ below (QC D A (fun Ws' ov => ∃ b' i' : Nat → Nat, Ws' = (w_Par dA o b' i' sR sF sN sT u.1 u.2) ∧ ov = none)) args s DC DS A) (F0 m 0 ls []) := by
  have hx := C.1.1
  have hb := C.1.2.1
  have hown := C.1.2.2.2.2.1
  have hT := C.1.2.2.2.2.2.1
  unfold C_Par_addLoad at hM
  refine lv_iload_n (pc := 0) hx hb dC_Par_addLoad_0 rfl (lv_at hl 2 rfl) ?_
  refine lv_bipush (pc := 1) (v := 20) hx hb dC_Par_addLoad_1 (by decide) ?_
  refine lv_ishl (pc := 3) hx hb dC_Par_addLoad_3 ?_
  refine lv_istore_n (pc := 4) (lv' := [(3, .int (x2 <<< ((20 : Int32) &&& 31))), (0, .ref (o 112)), (1, .int x1), (2, .int x2)]) hx hb dC_Par_addLoad_4 rfl hl (by decide) rfl (fun ls hl => ?_)
  refine lv_bipush (pc := 5) (v := 78) hx hb dC_Par_addLoad_5 (by decide) ?_
  refine lv_iload_n (pc := 7) hx hb dC_Par_addLoad_7 rfl (lv_at hl 3 rfl) ?_
  obtain ⟨r1, hr1, hM⟩ := cr_some hM
  refine x_callU (pc := 8) (ov := some (.int r1)) C.1 (kC_Fie_fits l  (78 : Int32) x2 hr1) qc_1243 qc_1241 qc_1242 qc_35 ⟨by decide, by decide, by decide +kernel⟩ ⟨rfl, rfl⟩ ⟨Nat.le_of_ble_eq_true rfl, Nat.le_of_ble_eq_true rfl⟩ ⟨show _ ≤ DC by omega, show _ ≤ DS by omega⟩ (As := [.int (78 : Int32), .int x2]) (n := 2) rfl hl.1 rfl (Nat.le_of_ble_eq_true rfl) dC_Par_addLoad_8 ?_
  refine lv_if_eq (pc := 11) (tgt := 43) hx hb dC_Par_addLoad_11 (by decide) (fun hc => ?_) (fun hc => ?_)
  · replace hM := it_t hc hM
    exact bC_Par_addLoad_43  C  _ _ _ _ _ _ _ _ _ _ _ _ _ hM (by omega) (by omega) _ _ _ _ hW _ (lv_sub hl [1, 2, 3, 0] rfl)
  · replace hM := it_f hc hM
    refine lv_iload_n (pc := 14) hx hb dC_Par_addLoad_14 rfl (lv_at hl 2 rfl) ?_
    refine lv_if_eq (pc := 15) (tgt := 43) hx hb dC_Par_addLoad_15 (by decide) (fun hc => ?_) (fun hc => ?_)
    · replace hM := it_t hc hM
      exact bC_Par_addLoad_43  C  _ _ _ _ _ _ _ _ _ _ _ _ _ hM (by omega) (by omega) _ _ _ _ hW _ (lv_sub hl [1, 2, 3, 0] rfl)
    · replace hM := it_f hc hM
      refine lv_aload_n (pc := 18) hx hb dC_Par_addLoad_18 rfl (lv_at hl 1 rfl) ?_
      refine x_getC (pc := 19) C hW 0 rfl (ci := 8) rfl i_Par 2 (by decide) qc_513 rfl rfl dC_Par_addLoad_19 ?_
      refine lv_iconst (pc := 22) (v := 0) hx hb dC_Par_addLoad_22 (by decide) ?_
      refine lv_sipush (pc := 23) (v := 16385) hx hb dC_Par_addLoad_23 (by decide) ?_
      refine lv_iload_n (pc := 26) hx hb dC_Par_addLoad_26 rfl (lv_at hl 2 rfl) ?_
      refine lv_ior (pc := 27) hx hb dC_Par_addLoad_27 ?_
      refine lv_bipush (pc := 28) (v := 78) hx hb dC_Par_addLoad_28 (by decide) ?_
      refine lv_iload_n (pc := 30) hx hb dC_Par_addLoad_30 rfl (lv_at hl 3 rfl) ?_
      obtain ⟨r2, hr2, hM⟩ := cr_some hM
      refine x_callU (pc := 31) (ov := some (.int r2)) C.1 (kC_Fie_scatter l  (78 : Int32) x2 hr2) qc_1252 qc_1250 qc_1251 qc_35 ⟨by decide, by decide, by decide +kernel⟩ ⟨rfl, rfl⟩ ⟨Nat.le_of_ble_eq_true rfl, Nat.le_of_ble_eq_true rfl⟩ ⟨show _ ≤ DC by omega, show _ ≤ DS by omega⟩ (As := [.int (78 : Int32), .int x2]) (n := 2) rfl hl.1 rfl (Nat.le_of_ble_eq_true rfl) dC_Par_addLoad_31 ?_
      refine lv_ior (pc := 34) hx hb dC_Par_addLoad_34 ?_
      refine lv_iconst (pc := 35) (v := 2) hx hb dC_Par_addLoad_35 (by decide) ?_
      obtain ⟨r3, u4, da5, ea6, db7, eb8, hr3, hM, hqda5, hpda5⟩ := ct_some hM
      refine x_callC (pc := 36) (n' := 41) C hW (kC_Prg_add l D dA o b i  (0 : Int32) (((16385 : Int32) ||| x1) ||| r2) (2 : Int32) sP sI hr3) [34, 35, 36, 37, 38, 39, 40, 0, 1, 2, 3, 4, 5, 6, 7, 8, 9, 10, 11, 12, 13, 14, 15, 16, 17, 18, 19, 20, 21, 22, 23, 24, 25, 26, 27, 28, 29, 30, 31, 32, 33] rfl (by decide +kernel) rfl (ci := 5) rfl (q0 := 34) rfl gC_Par_85 ⟨rfl, by decide, by decide, by decide +kernel⟩ ⟨Nat.le_of_ble_eq_true rfl, Nat.le_of_ble_eq_true rfl⟩ ⟨show _ + da5 ≤ DC by omega, show _ + ea6 ≤ DS by omega⟩ (As := [.int (0 : Int32), .int (((16385 : Int32) ||| x1) ||| r2), .int (2 : Int32)]) (n := 3) rfl hl.1 rfl (Nat.le_of_ble_eq_true rfl) dC_Par_addLoad_36 (fun Wc' ov H locs hPo hWn => ?_)
      obtain ⟨b9, i, rfl, rfl⟩ := hPo
      have hW := hWn (w_Par dA o (mxs [4] b9 b) i sR sF sN sT u4.1 u4.2) rfl rfl
      generalize mxs [4] b9 b = b at hW
      refine lv_pop (pc := 39) hx hb dC_Par_addLoad_39 rfl ?_
      refine lv_goto (pc := 40) (tgt := 122) hx hb dC_Par_addLoad_40 (by decide) ?_
      exact bC_Par_addLoad_122  C  _ _ _ _ _ _ _ _ _ _ hM (by omega) (by omega) _ _ _ _ hW _ (lv_sub hl [] rfl)
theorem kC_Par_addLoad (l : Launch) (D : va_G) (dA : Nat → ClassId) (o b i : Nat → Nat) (x1 : Int32) (x2 : Int32) (sR : CS) (sF : CS) (sN : CS) (sT : CS) (sP : CS) (sI : CS) {r : Int32} {u : CS × CS} {dc ds : Nat} (hM : C_Par_addLoad x1 x2 sR sF sN sT sP sI = some ((r, u), (dc, ds))) : KC l D dA (zz o) yC_Par_addLoad cC_Par_addLoad 4 none 8 334 dc ds (w_Par dA o b i sR sF sN sT sP sI) [.ref (o 112), .int x1, .int x2] (fun Ws' ov => ∃ b' i' : Nat → Nat, Ws' = (w_Par dA o b' i' sR sF sN sT u.1 u.2) ∧ ov = none) := x_enterC (by decide +kernel) (Nat.le_of_ble_eq_true rfl) (fun p e s m args below meth c A C _ hW ls hl => bC_Par_addLoad_0 C x1 x2 sR sF sN sT sP sI dc ds 0 0 hM (by omega) (by omega) b i s.heap [] hW ls hl)
def C_Par_readLoad_62 (N : Nat) (x2 : Int32) (sR : CS) (sF : CS) (sN : CS) (sT : CS) (sP : CS) (sI : CS) : Option ((Int32 × (CS × CS × CS × CS)) × (Nat × Nat)) :=
  some ((x2, (sF, sT, sP, sI)), (0, 0))
set_option maxHeartbeats 4000000 in
set_option maxRecDepth 100000 in
theorem bC_Par_readLoad_62 (N : Nat)  {r : Int32} {u : CS × CS × CS × CS} {DC DS : Nat} (C : CxC R_Par p s m args meth c cC_Par_readLoad 3 (some .int) D dA (zz o) A) (x2 : Int32) (sR : CS) (sF : CS) (sN : CS) (sT : CS) (sP : CS) (sI : CS) (dc ds kc ks : Nat) (hM : C_Par_readLoad_62 N  x2 sR sF sN sT sP sI = some ((r, u), (dc, ds))) (hdc : kc + dc ≤ DC) (hds : ks + ds ≤ DS) (b i : Nat → Nat) (H : Heap) (locs : List Loc) (hW : WdC D A s (w_Par dA o b i sR sF sN sT sP sI) H locs) (ls : Array Slot) (hl : lv_has ls 3 [(2, .int x2)]) : W p l e (rmC 9 357 DC DS) s m args below meth c H locs kc ks (MQ below (QC D A (fun Ws' ov => ∃ b' i' : Nat → Nat, Ws' = (w_Par dA o b' i' sR u.1 sN u.2.1 u.2.2.1 u.2.2.2) ∧ ov = (some (.int r)))) args s DC DS A) (F0 m 62 ls []) := by
  have hx := C.1.1
  have hb := C.1.2.1
  have hown := C.1.2.2.2.2.1
  have hT := C.1.2.2.2.2.2.1
  unfold C_Par_readLoad_62 at hM
  refine lv_iload_n (pc := 62) hx hb dC_Par_readLoad_62 rfl (lv_at hl 0 rfl) ?_
  obtain ⟨rfl, rfl, rfl, rfl⟩ := sm_q hM
  exact x_retCi (pc := 63) C rfl hW ⟨_, _, rfl, rfl⟩ (by omega) (by omega) dC_Par_readLoad_63
def C_Par_readLoad (N : Nat)  (sR : CS) (sF : CS) (sN : CS) (sT : CS) (sP : CS) (sI : CS) : Option ((Int32 × (CS × CS × CS × CS)) × (Nat × Nat)) :=
  cl (C_Par_readRegister  (100 : Int32) sR sF sN sT sP sI) (fun r1 u2 => (if 0 ≤ r1 then cr (C_Tok_kind  (0 : Int32) u2) (fun r3 => (if r3 = (44 : Int32) then cl (C_Tok_skip  (1 : Int32) u2) (fun r4 u5 => ct (C_Par_readFixed N (-2147483648 : Int32) (2147483647 : Int32) sR sF sN u5 sP sI) (fun r6 u7 => (if r6 = 0 then ct (C_Par_addLoad  r1 (u7.1.1 1) sR u7.1 sN u7.2 sP sI) (fun r13 u14 => C_Par_readLoad_62 N  r6 sR u7.1 sN u7.2 u14.1 u14.2) else C_Par_readLoad_62 N  r6 sR u7.1 sN u7.2 sP sI))) else some (((1 : Int32), (sF, u2, sP, sI)), (0, 0)))) else some ((-r1, (sF, u2, sP, sI)), (0, 0))))
set_option maxHeartbeats 4000000 in
set_option maxRecDepth 100000 in
theorem bC_Par_readLoad_0 (N : Nat)  {r : Int32} {u : CS × CS × CS × CS} {DC DS : Nat} (C : CxC R_Par p s m args meth c cC_Par_readLoad 3 (some .int) D dA (zz o) A)  (sR : CS) (sF : CS) (sN : CS) (sT : CS) (sP : CS) (sI : CS) (dc ds kc ks : Nat) (hM : C_Par_readLoad N   sR sF sN sT sP sI = some ((r, u), (dc, ds))) (hdc : kc + dc ≤ DC) (hds : ks + ds ≤ DS) (b i : Nat → Nat) (H : Heap) (locs : List Loc) (hW : WdC D A s (w_Par dA o b i sR sF sN sT sP sI) H locs) (ls : Array Slot) (hl : lv_has ls 3 [(0, .ref (o 112))]) : W p l e (rmC 9 357 DC DS) s m args below meth c H locs kc ks (MQ below (QC D A (fun Ws' ov => ∃ b' i' : Nat → Nat, Ws' = (w_Par dA o b' i' sR u.1 sN u.2.1 u.2.2.1 u.2.2.2) ∧ ov = (some (.int r)))) args s DC DS A) (F0 m 0 ls []) := by
  have hx := C.1.1
  have hb := C.1.2.1
  have hown := C.1.2.2.2.2.1
  have hT := C.1.2.2.2.2.2.1
  unfold C_Par_readLoad at hM
  refine lv_aload_n (pc := 0) hx hb dC_Par_readLoad_0 rfl (lv_at hl 0 rfl) ?_
  refine lv_bipush (pc := 1) (v := 100) hx hb dC_Par_readLoad_1 (by decide) ?_
  obtain ⟨r1, u2, hr1, hM⟩ := cl_some hM
  refine x_callC (pc := 3) (n' := 41) C hW (kC_Par_readRegister l D dA o b i  (100 : Int32) sR sF sN sT sP sI hr1) [0, 1, 2, 3, 4, 5, 6, 7, 8, 9, 10, 11, 12, 13, 14, 15, 16, 17, 18, 19, 20, 21, 22, 23, 24, 25, 26, 27, 28, 29, 30, 31, 32, 33, 34, 35, 36, 37, 38, 39, 40] rfl (by decide +kernel) rfl (ci := 8) rfl (q0 := 0) rfl gC_Par_171 ⟨rfl, by decide, by decide, by decide +kernel⟩ ⟨Nat.le_of_ble_eq_true rfl, Nat.le_of_ble_eq_true rfl⟩ ⟨show _ + 0 ≤ DC by omega, show _ + 0 ≤ DS by omega⟩ (As := [.int (100 : Int32)]) (n := 1) rfl hl.1 rfl (Nat.le_of_ble_eq_true rfl) dC_Par_readLoad_3 (fun Wc' ov H locs hPo hWn => ?_)
  obtain ⟨rfl, rfl⟩ := hPo
  have hW := hWn (w_Par dA o b i sR sF sN u2 sP sI) rfl rfl
  refine lv_istore_n (pc := 6) (lv' := [(1, .int r1), (0, .ref (o 112))]) hx hb dC_Par_readLoad_6 rfl hl (by decide) rfl (fun ls hl => ?_)
  refine lv_iload_n (pc := 7) hx hb dC_Par_readLoad_7 rfl (lv_at hl 0 rfl) ?_
  refine lv_if_ge (pc := 8) (tgt := 14) hx hb dC_Par_readLoad_8 (by decide) (fun hc => ?_) (fun hc => ?_)
  · replace hM := it_t hc hM
    refine lv_aload_n (pc := 14) hx hb dC_Par_readLoad_14 rfl (lv_at hl 1 rfl) ?_
    refine x_getC (pc := 15) C hW 0 rfl (ci := 8) rfl i_Par 1 (by decide) qc_512 rfl rfl dC_Par_readLoad_15 ?_
    refine lv_iconst (pc := 18) (v := 0) hx hb dC_Par_readLoad_18 (by decide) ?_
    obtain ⟨r3, hr3, hM⟩ := cr_some hM
    refine x_callQ (pc := 19) (n' := 41) (ov := some (.int r3)) C hW (kC_Tok_kind l D dA (zz o) o b  (0 : Int32) u2 hr3) [30, 31, 32, 33, 0, 1, 2, 3, 4, 5, 6, 7, 8, 9, 10, 11, 12, 13, 14, 15, 16, 17, 18, 19, 20, 21, 22, 23, 24, 25, 26, 27, 28, 29, 34, 35, 36, 37, 38, 39, 40] rfl (by decide +kernel) rfl (ci := 3) rfl (q0 := 30) rfl gC_Par_46 ⟨rfl, by decide, by decide, by decide +kernel⟩ ⟨Nat.le_of_ble_eq_true rfl, Nat.le_of_ble_eq_true rfl⟩ ⟨show _ ≤ DC by omega, show _ ≤ DS by omega⟩ (As := [.int (0 : Int32)]) (n := 1) rfl hl.1 rfl (Nat.le_of_ble_eq_true rfl) dC_Par_readLoad_19 ?_
    refine lv_bipush (pc := 22) (v := 44) hx hb dC_Par_readLoad_22 (by decide) ?_
    refine lv_icmp_eq (pc := 24) (tgt := 29) hx hb dC_Par_readLoad_24 (by decide) (fun hc => ?_) (fun hc => ?_)
    · replace hM := it_t hc hM
      refine lv_aload_n (pc := 29) hx hb dC_Par_readLoad_29 rfl (lv_at hl 1 rfl) ?_
      refine x_getC (pc := 30) C hW 0 rfl (ci := 8) rfl i_Par 1 (by decide) qc_512 rfl rfl dC_Par_readLoad_30 ?_
      refine lv_iconst (pc := 33) (v := 1) hx hb dC_Par_readLoad_33 (by decide) ?_
      obtain ⟨r4, u5, hr4, hM⟩ := cl_some hM
      refine x_callC (pc := 34) (n' := 41) C hW (kC_Tok_skip l D dA (zz o) o b  (1 : Int32) u2 hr4) [30, 31, 32, 33, 0, 1, 2, 3, 4, 5, 6, 7, 8, 9, 10, 11, 12, 13, 14, 15, 16, 17, 18, 19, 20, 21, 22, 23, 24, 25, 26, 27, 28, 29, 34, 35, 36, 37, 38, 39, 40] rfl (by decide +kernel) rfl (ci := 3) rfl (q0 := 30) rfl gC_Par_53 ⟨rfl, by decide, by decide, by decide +kernel⟩ ⟨Nat.le_of_ble_eq_true rfl, Nat.le_of_ble_eq_true rfl⟩ ⟨show _ + 0 ≤ DC by omega, show _ + 0 ≤ DS by omega⟩ (As := [.int (1 : Int32)]) (n := 1) rfl hl.1 rfl (Nat.le_of_ble_eq_true rfl) dC_Par_readLoad_34 (fun Wc' ov H locs hPo hWn => ?_)
      obtain ⟨rfl, rfl⟩ := hPo
      have hW := hWn (w_Par dA o b i sR sF sN u5 sP sI) rfl rfl
      refine lv_aload_n (pc := 37) hx hb dC_Par_readLoad_37 rfl (lv_at hl 1 rfl) ?_
      refine lv_ldc (pc := 38) (v := -2147483648) hx hb hown (hT _ qc_1132) dC_Par_readLoad_38 ?_
      refine lv_ldc (pc := 40) (v := 2147483647) hx hb hown (hT _ qc_1133) dC_Par_readLoad_40 ?_
      obtain ⟨r6, u7, da8, ea9, db10, eb11, hr6, hM, hqda8, hpda8⟩ := ct_some hM
      refine x_callC (pc := 42) (n' := 41) C hW (kC_Par_readFixed l D dA o b i N (-2147483648 : Int32) (2147483647 : Int32) sR sF sN u5 sP sI hr6) [0, 1, 2, 3, 4, 5, 6, 7, 8, 9, 10, 11, 12, 13, 14, 15, 16, 17, 18, 19, 20, 21, 22, 23, 24, 25, 26, 27, 28, 29, 30, 31, 32, 33, 34, 35, 36, 37, 38, 39, 40] rfl (by decide +kernel) rfl (ci := 8) rfl (q0 := 0) rfl gC_Par_210 ⟨rfl, by decide, by decide, by decide +kernel⟩ ⟨Nat.le_of_ble_eq_true rfl, Nat.le_of_ble_eq_true rfl⟩ ⟨show _ + da8 ≤ DC by omega, show _ + ea9 ≤ DS by omega⟩ (As := [.int (-2147483648 : Int32), .int (2147483647 : Int32)]) (n := 2) rfl hl.1 rfl (Nat.le_of_ble_eq_true rfl) dC_Par_readLoad_42 (fun Wc' ov H locs hPo hWn => ?_)
      obtain ⟨b12, rfl, rfl⟩ := hPo
      have hW := hWn (w_Par dA o (mxs [1, 2, 4, 6] b12 b) i sR u7.1 sN u7.2 sP sI) rfl rfl
      generalize mxs [1, 2, 4, 6] b12 b = b at hW
      refine lv_istore_n (pc := 45) (lv' := [(2, .int r6), (1, .int r1), (0, .ref (o 112))]) hx hb dC_Par_readLoad_45 rfl hl (by decide) rfl (fun ls hl => ?_)
      refine lv_iload_n (pc := 46) hx hb dC_Par_readLoad_46 rfl (lv_at hl 0 rfl) ?_
      refine lv_if_ne (pc := 47) (tgt := 62) hx hb dC_Par_readLoad_47 (by decide) (fun hc => ?_) (fun hc => ?_)
      · replace hM := it_f hc hM
        exact bC_Par_readLoad_62 N  C  _ _ _ _ _ _ _ _ _ _ _ hM (by omega) (by omega) _ _ _ _ hW _ (lv_sub hl [0] rfl)
      · replace hM := it_t hc hM
        refine lv_aload_n (pc := 50) hx hb dC_Par_readLoad_50 rfl (lv_at hl 2 rfl) ?_
        refine lv_iload_n (pc := 51) hx hb dC_Par_readLoad_51 rfl (lv_at hl 1 rfl) ?_
        refine lv_aload_n (pc := 52) hx hb dC_Par_readLoad_52 rfl (lv_at hl 2 rfl) ?_
        refine x_getC (pc := 53) C hW 0 rfl (ci := 8) rfl i_Par 3 (by decide) qc_514 rfl rfl dC_Par_readLoad_53 ?_
        refine x_getC (pc := 56) C hW 1 rfl (ci := 7) rfl i_Frm 1 (by decide) qc_466 rfl rfl dC_Par_readLoad_56 ?_
        obtain ⟨r13, u14, da15, ea16, db17, eb18, hr13, hM, hqda15, hpda15⟩ := ct_some hM
        refine x_callC (pc := 59) (n' := 41) C hW (kC_Par_addLoad l D dA o b i  r1 (u7.1.1 1) sR u7.1 sN u7.2 sP sI hr13) [0, 1, 2, 3, 4, 5, 6, 7, 8, 9, 10, 11, 12, 13, 14, 15, 16, 17, 18, 19, 20, 21, 22, 23, 24, 25, 26, 27, 28, 29, 30, 31, 32, 33, 34, 35, 36, 37, 38, 39, 40] rfl (by decide +kernel) rfl (ci := 8) rfl (q0 := 0) rfl gC_Par_218 ⟨rfl, by decide, by decide, by decide +kernel⟩ ⟨Nat.le_of_ble_eq_true rfl, Nat.le_of_ble_eq_true rfl⟩ ⟨show _ + da15 ≤ DC by omega, show _ + ea16 ≤ DS by omega⟩ (As := [.int r1, .int (u7.1.1 1)]) (n := 2) rfl hl.1 rfl (Nat.le_of_ble_eq_true rfl) dC_Par_readLoad_59 (fun Wc' ov H locs hPo hWn => ?_)
        obtain ⟨b19, i, rfl, rfl⟩ := hPo
        have hW := hWn (w_Par dA o (mxs [1, 2, 4, 6] b19 b) i sR u7.1 sN u7.2 u14.1 u14.2) rfl rfl
        generalize mxs [1, 2, 4, 6] b19 b = b at hW
        exact bC_Par_readLoad_62 N  C  _ _ _ _ _ _ _ _ _ _ _ hM (by omega) (by omega) _ _ _ _ hW _ (lv_sub hl [0] rfl)
    · replace hM := it_f hc hM
      refine lv_iconst (pc := 27) (v := 1) hx hb dC_Par_readLoad_27 (by decide) ?_
      obtain ⟨rfl, rfl, rfl, rfl⟩ := sm_q hM
      exact x_retCi (pc := 28) C rfl hW ⟨_, _, rfl, rfl⟩ (by omega) (by omega) dC_Par_readLoad_28
  · replace hM := it_f hc hM
    refine lv_iload_n (pc := 11) hx hb dC_Par_readLoad_11 rfl (lv_at hl 0 rfl) ?_
    refine lv_ineg (pc := 12) hx hb dC_Par_readLoad_12 ?_
    obtain ⟨rfl, rfl, rfl, rfl⟩ := sm_q hM
    exact x_retCi (pc := 13) C rfl hW ⟨_, _, rfl, rfl⟩ (by omega) (by omega) dC_Par_readLoad_13
theorem kC_Par_readLoad (l : Launch) (D : va_G) (dA : Nat → ClassId) (o b i : Nat → Nat) (N : Nat)  (sR : CS) (sF : CS) (sN : CS) (sT : CS) (sP : CS) (sI : CS) {r : Int32} {u : CS × CS × CS × CS} {dc ds : Nat} (hM : C_Par_readLoad N  sR sF sN sT sP sI = some ((r, u), (dc, ds))) : KC l D dA (zz o) yC_Par_readLoad cC_Par_readLoad 3 (some .int) 9 357 dc ds (w_Par dA o b i sR sF sN sT sP sI) [.ref (o 112)] (fun Ws' ov => ∃ b' i' : Nat → Nat, Ws' = (w_Par dA o b' i' sR u.1 sN u.2.1 u.2.2.1 u.2.2.2) ∧ ov = (some (.int r))) := x_enterC (by decide +kernel) (Nat.le_of_ble_eq_true rfl) (fun p e s m args below meth c A C _ hW ls hl => bC_Par_readLoad_0 N C  sR sF sN sT sP sI dc ds 0 0 hM (by omega) (by omega) b i s.heap [] hW ls hl)
def C_Par_readShape_130 (N : Nat) (rec17 : Nat → Int32 → Int32 → Int32 → Int32 → CS → CS → CS → CS → CS → CS → Option ((Int32 × (CS × CS × CS × CS)) × (Nat × Nat))) (k1 : Nat) (x3 : Int32) (x4 : Int32) (x5 : Int32) (x6 : Int32) (sR : CS) (sF : CS) (sN : CS) (sT : CS) (sP : CS) (sI : CS) : Option ((Int32 × (CS × CS × CS × CS)) × (Nat × Nat)) :=
  rec17 k1 x3 x4 x5 (x6 + (1 : Int32)) sR sF sN sT sP sI
set_option maxHeartbeats 4000000 in
set_option maxRecDepth 100000 in
theorem bC_Par_readShape_130 (N : Nat) (rec17 : Nat → Int32 → Int32 → Int32 → Int32 → CS → CS → CS → CS → CS → CS → Option ((Int32 × (CS × CS × CS × CS)) × (Nat × Nat))) {r : Int32} {u : CS × CS × CS × CS} {DC DS : Nat} (C : CxC R_Par p s m args meth c cC_Par_readShape 9 (some .int) D dA (zz o) A) (hrec17 : ∀ (k1 : Nat) (x3 : Int32) (x4 : Int32) (x5 : Int32) (x6 : Int32) (sR : CS) (sF : CS) (sN : CS) (sT : CS) (sP : CS) (sI : CS) (dc ds kc ks : Nat) , rec17 k1 x3 x4 x5 x6 sR sF sN sT sP sI = some ((r, u), (dc, ds)) → ∀ (hdc : kc + dc ≤ DC) (hds : ks + ds ≤ DS) (b i : Nat → Nat) (H : Heap) (locs : List Loc) (hW : WdC D A s (w_Par dA o b i sR sF sN sT sP sI) H locs) (ls : Array Slot) (hl : lv_has ls 9 [(0, .ref (o 112)), (1, .ref (sK (zz o) k1)), (3, .int x3), (4, .int x4), (5, .int x5), (6, .int x6)]), W p l e (rmC 8 334 DC DS) s m args below meth c H locs kc ks (MQ below (QC D A (fun Ws' ov => ∃ b' i' : Nat → Nat, Ws' = (w_Par dA o b' i' sR u.1 sN u.2.1 u.2.2.1 u.2.2.2) ∧ ov = (some (.int r)))) args s DC DS A) (F0 m 17 ls [])) (k1 : Nat) (x3 : Int32) (x4 : Int32) (x5 : Int32) (x6 : Int32) (sR : CS) (sF : CS) (sN : CS) (sT : CS) (sP : CS) (sI : CS) (dc ds kc ks : Nat) (hM : C_Par_readShape_130 N rec17 k1 x3 x4 x5 x6 sR sF sN sT sP sI = some ((r, u), (dc, ds))) (hdc : kc + dc ≤ DC) (hds : ks + ds ≤ DS) (b i : Nat → Nat) (H : Heap) (locs : List Loc) (hW : WdC D A s (w_Par dA o b i sR sF sN sT sP sI) H locs) (ls : Array Slot) (hl : lv_has ls 9 [(0, .ref (o 112)), (1, .ref (sK (zz o) k1)), (3, .int x3), (4, .int x4), (5, .int x5), (6, .int x6)]) : W p l e (rmC 8 334 DC DS) s m args below meth c H locs kc ks (MQ below (QC D A (fun Ws' ov => ∃ b' i' : Nat → Nat, Ws' = (w_Par dA o b' i' sR u.1 sN u.2.1 u.2.2.1 u.2.2.2) ∧ ov = (some (.int r)))) args s DC DS A) (F0 m 130 ls []) := by
  have hx := C.1.1
  have hb := C.1.2.1
  have hown := C.1.2.2.2.2.1
  have hT := C.1.2.2.2.2.2.1
  unfold C_Par_readShape_130 at hM
  refine lv_iinc (pc := 130) (v := x6 + (1 : Int32)) (lv' := [(6, .int (x6 + (1 : Int32))), (0, .ref (o 112)), (1, .ref (sK (zz o) k1)), (3, .int x3), (4, .int x4), (5, .int x5)]) hx hb dC_Par_readShape_130 hl (k := 5) rfl rfl (by decide) rfl (fun ls hl => ?_)
  refine lv_goto (pc := 133) (tgt := 17) hx hb dC_Par_readShape_133 (by decide) ?_
  exact hrec17 _ _ _ _ _ _ _ _ _ _ _ _ _ _ _ hM (by omega) (by omega) _ _ _ _ hW _ (lv_sub hl [1, 2, 3, 4, 5, 0] rfl)
def C_Par_readShape_55 (N : Nat) (rec17 : Nat → Int32 → Int32 → Int32 → Int32 → CS → CS → CS → CS → CS → CS → Option ((Int32 × (CS × CS × CS × CS)) × (Nat × Nat))) (k1 : Nat) (x3 : Int32) (x4 : Int32) (x5 : Int32) (x6 : Int32) (x7 : Int32) (sR : CS) (sF : CS) (sN : CS) (sT : CS) (sP : CS) (sI : CS) : Option ((Int32 × (CS × CS × CS × CS)) × (Nat × Nat)) :=
  cr (C_Tok_kind  (0 : Int32) sT) (fun r1 => (if r1 = x7 then cl (C_Tok_skip  (1 : Int32) sT) (fun r2 u3 => C_Par_readShape_130 N rec17 k1 x3 x4 x5 x6 sR sF sN u3 sP sI) else some (((1 : Int32), (sF, sT, sP, sI)), (0, 0))))
set_option maxHeartbeats 4000000 in
set_option maxRecDepth 100000 in
theorem bC_Par_readShape_55 (N : Nat) (rec17 : Nat → Int32 → Int32 → Int32 → Int32 → CS → CS → CS → CS → CS → CS → Option ((Int32 × (CS × CS × CS × CS)) × (Nat × Nat))) {r : Int32} {u : CS × CS × CS × CS} {DC DS : Nat} (C : CxC R_Par p s m args meth c cC_Par_readShape 9 (some .int) D dA (zz o) A) (hrec17 : ∀ (k1 : Nat) (x3 : Int32) (x4 : Int32) (x5 : Int32) (x6 : Int32) (sR : CS) (sF : CS) (sN : CS) (sT : CS) (sP : CS) (sI : CS) (dc ds kc ks : Nat) , rec17 k1 x3 x4 x5 x6 sR sF sN sT sP sI = some ((r, u), (dc, ds)) → ∀ (hdc : kc + dc ≤ DC) (hds : ks + ds ≤ DS) (b i : Nat → Nat) (H : Heap) (locs : List Loc) (hW : WdC D A s (w_Par dA o b i sR sF sN sT sP sI) H locs) (ls : Array Slot) (hl : lv_has ls 9 [(0, .ref (o 112)), (1, .ref (sK (zz o) k1)), (3, .int x3), (4, .int x4), (5, .int x5), (6, .int x6)]), W p l e (rmC 8 334 DC DS) s m args below meth c H locs kc ks (MQ below (QC D A (fun Ws' ov => ∃ b' i' : Nat → Nat, Ws' = (w_Par dA o b' i' sR u.1 sN u.2.1 u.2.2.1 u.2.2.2) ∧ ov = (some (.int r)))) args s DC DS A) (F0 m 17 ls [])) (k1 : Nat) (x3 : Int32) (x4 : Int32) (x5 : Int32) (x6 : Int32) (x7 : Int32) (sR : CS) (sF : CS) (sN : CS) (sT : CS) (sP : CS) (sI : CS) (dc ds kc ks : Nat) (hM : C_Par_readShape_55 N rec17 k1 x3 x4 x5 x6 x7 sR sF sN sT sP sI = some ((r, u), (dc, ds))) (hdc : kc + dc ≤ DC) (hds : ks + ds ≤ DS) (b i : Nat → Nat) (H : Heap) (locs : List Loc) (hW : WdC D A s (w_Par dA o b i sR sF sN sT sP sI) H locs) (ls : Array Slot) (hl : lv_has ls 9 [(0, .ref (o 112)), (1, .ref (sK (zz o) k1)), (3, .int x3), (4, .int x4), (5, .int x5), (6, .int x6), (7, .int x7)]) : W p l e (rmC 8 334 DC DS) s m args below meth c H locs kc ks (MQ below (QC D A (fun Ws' ov => ∃ b' i' : Nat → Nat, Ws' = (w_Par dA o b' i' sR u.1 sN u.2.1 u.2.2.1 u.2.2.2) ∧ ov = (some (.int r)))) args s DC DS A) (F0 m 55 ls []) := by
  have hx := C.1.1
  have hb := C.1.2.1
  have hown := C.1.2.2.2.2.1
  have hT := C.1.2.2.2.2.2.1
  unfold C_Par_readShape_55 at hM
  refine lv_aload_n (pc := 55) hx hb dC_Par_readShape_55 rfl (lv_at hl 0 rfl) ?_
  refine x_getC (pc := 56) C hW 0 rfl (ci := 8) rfl i_Par 1 (by decide) qc_512 rfl rfl dC_Par_readShape_56 ?_
  refine lv_iconst (pc := 59) (v := 0) hx hb dC_Par_readShape_59 (by decide) ?_
  obtain ⟨r1, hr1, hM⟩ := cr_some hM
  refine x_callQ (pc := 60) (n' := 41) (ov := some (.int r1)) C hW (kC_Tok_kind l D dA (zz o) o b  (0 : Int32) sT hr1) [30, 31, 32, 33, 0, 1, 2, 3, 4, 5, 6, 7, 8, 9, 10, 11, 12, 13, 14, 15, 16, 17, 18, 19, 20, 21, 22, 23, 24, 25, 26, 27, 28, 29, 34, 35, 36, 37, 38, 39, 40] rfl (by decide +kernel) rfl (ci := 3) rfl (q0 := 30) rfl gC_Par_46 ⟨rfl, by decide, by decide, by decide +kernel⟩ ⟨Nat.le_of_ble_eq_true rfl, Nat.le_of_ble_eq_true rfl⟩ ⟨show _ ≤ DC by omega, show _ ≤ DS by omega⟩ (As := [.int (0 : Int32)]) (n := 1) rfl hl.1 rfl (Nat.le_of_ble_eq_true rfl) dC_Par_readShape_60 ?_
  refine lv_iload (pc := 63) hx hb dC_Par_readShape_63 (lv_at hl 6 rfl) ?_
  refine lv_icmp_eq (pc := 65) (tgt := 70) hx hb dC_Par_readShape_65 (by decide) (fun hc => ?_) (fun hc => ?_)
  · replace hM := it_t hc hM
    refine lv_aload_n (pc := 70) hx hb dC_Par_readShape_70 rfl (lv_at hl 0 rfl) ?_
    refine x_getC (pc := 71) C hW 0 rfl (ci := 8) rfl i_Par 1 (by decide) qc_512 rfl rfl dC_Par_readShape_71 ?_
    refine lv_iconst (pc := 74) (v := 1) hx hb dC_Par_readShape_74 (by decide) ?_
    obtain ⟨r2, u3, hr2, hM⟩ := cl_some hM
    refine x_callC (pc := 75) (n' := 41) C hW (kC_Tok_skip l D dA (zz o) o b  (1 : Int32) sT hr2) [30, 31, 32, 33, 0, 1, 2, 3, 4, 5, 6, 7, 8, 9, 10, 11, 12, 13, 14, 15, 16, 17, 18, 19, 20, 21, 22, 23, 24, 25, 26, 27, 28, 29, 34, 35, 36, 37, 38, 39, 40] rfl (by decide +kernel) rfl (ci := 3) rfl (q0 := 30) rfl gC_Par_53 ⟨rfl, by decide, by decide, by decide +kernel⟩ ⟨Nat.le_of_ble_eq_true rfl, Nat.le_of_ble_eq_true rfl⟩ ⟨show _ + 0 ≤ DC by omega, show _ + 0 ≤ DS by omega⟩ (As := [.int (1 : Int32)]) (n := 1) rfl hl.1 rfl (Nat.le_of_ble_eq_true rfl) dC_Par_readShape_75 (fun Wc' ov H locs hPo hWn => ?_)
    obtain ⟨rfl, rfl⟩ := hPo
    have hW := hWn (w_Par dA o b i sR sF sN u3 sP sI) rfl rfl
    refine lv_goto (pc := 78) (tgt := 130) hx hb dC_Par_readShape_78 (by decide) ?_
    exact bC_Par_readShape_130 N rec17 C hrec17 _ _ _ _ _ _ _ _ _ _ _ _ _ _ _ hM (by omega) (by omega) _ _ _ _ hW _ (lv_sub hl [0, 1, 2, 3, 4, 5] rfl)
  · replace hM := it_f hc hM
    refine lv_iconst (pc := 68) (v := 1) hx hb dC_Par_readShape_68 (by decide) ?_
    obtain ⟨rfl, rfl, rfl, rfl⟩ := sm_q hM
    exact x_retCi (pc := 69) C rfl hW ⟨_, _, rfl, rfl⟩ (by omega) (by omega) dC_Par_readShape_69
def C_Par_readShape_17 (N : Nat)  : Nat → Nat → Int32 → Int32 → Int32 → Int32 → CS → CS → CS → CS → CS → CS → Option ((Int32 × (CS × CS × CS × CS)) × (Nat × Nat))
  | 0 => fun _ _ _ _ _ _ _ _ _ _ _ => none
  | n + 1 => fun k1 x3 x4 x5 x6 sR sF sN sT sP sI => gd (decide (k1 < ex_N)) (cr (C_Str_length  k1) (fun r2 => (if r2 ≤ x6 then cr (C_Fie_firstLength  x4 x3) (fun r3 => ct (C_Prg_add  x4 x3 r3 sP sI) (fun r4 u5 => gd (decide (r4 < u5.2.2.2 0 + 1)) (bnd (cA u5.2 r4 7 x5) (fun sI12 => cr (C_Frm_end  sF sN sT u5.1 sI12) (fun r13 => gd (decide (r4 < sI12.2.2 0 + 1)) (bnd (cA sI12 r4 8 r13) (fun sI15 => some (((0 : Int32), (sF, sT, u5.1, sI15)), (0, 0))))))))) else gd (decide (k1 < ex_N)) (cr (C_Str_charAt  k1 x6) (fun r17 => (if r17 = (44 : Int32) then C_Par_readShape_55 N (C_Par_readShape_17 N  n) k1 x3 x4 x5 x6 r17 sR sF sN sT sP sI else (if r17 = (40 : Int32) then C_Par_readShape_55 N (C_Par_readShape_17 N  n) k1 x3 x4 x5 x6 r17 sR sF sN sT sP sI else (if r17 = (41 : Int32) then C_Par_readShape_55 N (C_Par_readShape_17 N  n) k1 x3 x4 x5 x6 r17 sR sF sN sT sP sI else cr (C_Fie_isRegister N r17) (fun r18 => (if r18 = 0 then ct (C_Frm_compile N sF sN sT sP sI) (fun r19 u20 => (if r19 = 0 then some (((1 : Int32), (u20.1, u20.2, sP, sI)), (0, 0)) else C_Par_readShape_130 N (C_Par_readShape_17 N  n) k1 x3 r17 x5 x6 sR u20.1 sN u20.2 sP sI)) else cl (C_Par_readRegister  r17 sR sF sN sT sP sI) (fun r26 u27 => (if 0 ≤ r26 then C_Par_readShape_130 N (C_Par_readShape_17 N  n) k1 (x3 ||| r26) x4 x5 x6 sR sF sN u27 sP sI else some ((-r26, (sF, u27, sP, sI)), (0, 0))))))))))))))
set_option maxHeartbeats 4000000 in
set_option maxRecDepth 100000 in
theorem bC_Par_readShape_17 (N : Nat)  {r : Int32} {u : CS × CS × CS × CS} {DC DS : Nat} (C : CxC R_Par p s m args meth c cC_Par_readShape 9 (some .int) D dA (zz o) A) : ∀ (n : Nat) (k1 : Nat) (x3 : Int32) (x4 : Int32) (x5 : Int32) (x6 : Int32) (sR : CS) (sF : CS) (sN : CS) (sT : CS) (sP : CS) (sI : CS) (dc ds kc ks : Nat) , C_Par_readShape_17 N  n k1 x3 x4 x5 x6 sR sF sN sT sP sI = some ((r, u), (dc, ds)) → ∀ (hdc : kc + dc ≤ DC) (hds : ks + ds ≤ DS) (b i : Nat → Nat) (H : Heap) (locs : List Loc) (hW : WdC D A s (w_Par dA o b i sR sF sN sT sP sI) H locs) (ls : Array Slot) (hl : lv_has ls 9 [(0, .ref (o 112)), (1, .ref (sK (zz o) k1)), (3, .int x3), (4, .int x4), (5, .int x5), (6, .int x6)]), W p l e (rmC 8 334 DC DS) s m args below meth c H locs kc ks (MQ below (QC D A (fun Ws' ov => ∃ b' i' : Nat → Nat, Ws' = (w_Par dA o b' i' sR u.1 sN u.2.1 u.2.2.1 u.2.2.2) ∧ ov = (some (.int r)))) args s DC DS A) (F0 m 17 ls []) := by
  have hx := C.1.1
  have hb := C.1.2.1
  have hown := C.1.2.2.2.2.1
  have hT := C.1.2.2.2.2.2.1
  intro n
  induction n with
  | zero => intro k1 x3 x4 x5 x6 sR sF sN sT sP sI dc ds kc ks hM; cases hM
  | succ n hrec17 =>
    intro k1 x3 x4 x5 x6 sR sF sN sT sP sI dc ds kc ks hM hdc hds b i H locs hW ls hl
    rw [C_Par_readShape_17] at hM
    refine lv_iload (pc := 17) hx hb dC_Par_readShape_17 (lv_at hl 5 rfl) ?_
    refine lv_aload_n (pc := 19) hx hb dC_Par_readShape_19 rfl (lv_at hl 1 rfl) ?_
    obtain ⟨hg1, hM⟩ := gd_some hM
    obtain ⟨r2, hr2, hM⟩ := cr_some hM
    refine x_callK (pc := 20) (n' := 41) (Wc := []) (ov := some (.int r2)) C hW (kC_Str_length l D dA (zz o) (fun _ => 0) (fun _ => 0)  k1 hr2) [0, 1, 2, 3, 4, 5, 6, 7, 8, 9, 10, 11, 12, 13, 14, 15, 16, 17, 18, 19, 20, 21, 22, 23, 24, 25, 26, 27, 28, 29, 30, 31, 32, 33, 34, 35, 36, 37, 38, 39, 40] rfl (by decide +kernel) rfl (ex_rS C.2.2.2 (of_decide_eq_true hg1) hW.2.2) gC_Par_158 ⟨rfl, by decide, by decide, by decide +kernel⟩ ⟨Nat.le_of_ble_eq_true rfl, Nat.le_of_ble_eq_true rfl⟩ ⟨show _ ≤ DC by omega, show _ ≤ DS by omega⟩ (As := []) (n := 0) rfl hl.1 rfl (Nat.le_of_ble_eq_true rfl) dC_Par_readShape_20 ?_
    refine lv_icmp_ge (pc := 23) (tgt := 136) hx hb dC_Par_readShape_23 (by decide) (fun hc => ?_) (fun hc => ?_)
    · replace hM := it_t hc hM
      refine lv_aload_n (pc := 136) hx hb dC_Par_readShape_136 rfl (lv_at hl 0 rfl) ?_
      refine x_getC (pc := 137) C hW 0 rfl (ci := 8) rfl i_Par 2 (by decide) qc_513 rfl rfl dC_Par_readShape_137 ?_
      refine lv_iload (pc := 140) hx hb dC_Par_readShape_140 (lv_at hl 3 rfl) ?_
      refine lv_iload_n (pc := 142) hx hb dC_Par_readShape_142 rfl (lv_at hl 2 rfl) ?_
      refine lv_iload (pc := 143) hx hb dC_Par_readShape_143 (lv_at hl 3 rfl) ?_
      refine lv_iload_n (pc := 145) hx hb dC_Par_readShape_145 rfl (lv_at hl 2 rfl) ?_
      obtain ⟨r3, hr3, hM⟩ := cr_some hM
      refine x_callU (pc := 146) (ov := some (.int r3)) C.1 (kC_Fie_firstLength l  x4 x3 hr3) qc_1318 qc_1316 qc_1317 qc_35 ⟨by decide, by decide, by decide +kernel⟩ ⟨rfl, rfl⟩ ⟨Nat.le_of_ble_eq_true rfl, Nat.le_of_ble_eq_true rfl⟩ ⟨show _ ≤ DC by omega, show _ ≤ DS by omega⟩ (As := [.int x4, .int x3]) (n := 2) rfl hl.1 rfl (Nat.le_of_ble_eq_true rfl) dC_Par_readShape_146 ?_
      obtain ⟨r4, u5, da6, ea7, db8, eb9, hr4, hM, hqda6, hpda6⟩ := ct_some hM
      refine x_callC (pc := 149) (n' := 41) C hW (kC_Prg_add l D dA o b i  x4 x3 r3 sP sI hr4) [34, 35, 36, 37, 38, 39, 40, 0, 1, 2, 3, 4, 5, 6, 7, 8, 9, 10, 11, 12, 13, 14, 15, 16, 17, 18, 19, 20, 21, 22, 23, 24, 25, 26, 27, 28, 29, 30, 31, 32, 33] rfl (by decide +kernel) rfl (ci := 5) rfl (q0 := 34) rfl gC_Par_85 ⟨rfl, by decide, by decide, by decide +kernel⟩ ⟨Nat.le_of_ble_eq_true rfl, Nat.le_of_ble_eq_true rfl⟩ ⟨show _ + da6 ≤ DC by omega, show _ + ea7 ≤ DS by omega⟩ (As := [.int x4, .int x3, .int r3]) (n := 3) rfl hl.1 rfl (Nat.le_of_ble_eq_true rfl) dC_Par_readShape_149 (fun Wc' ov H locs hPo hWn => ?_)
      obtain ⟨b10, i, rfl, rfl⟩ := hPo
      have hW := hWn (w_Par dA o (mxs [4] b10 b) i sR sF sN sT u5.1 u5.2) rfl rfl
      generalize mxs [4] b10 b = b at hW
      refine lv_astore (pc := 152) (lv' := [(6, .ref (pa o i r4)), (0, .ref (o 112)), (1, .ref (sK (zz o) k1)), (3, .int x3), (4, .int x4), (5, .int x5)]) hx hb dC_Par_readShape_152 hl (by decide) rfl (fun ls hl => ?_)
      refine lv_aload (pc := 154) hx hb dC_Par_readShape_154 (lv_at hl 0 rfl) ?_
      refine lv_iload (pc := 156) hx hb dC_Par_readShape_156 (lv_at hl 5 rfl) ?_
      obtain ⟨hg11, hM⟩ := gd_some hM
      refine x_putI (pc := 158) (ty := .int) (Ws' := (w_Par dA o b i sR sF sN sT u5.1 (cA u5.2 r4 7 x5))) C hW 40 rfl (of_decide_eq_true hg11) 7 (by decide) qc_360 rfl rfl (by decide +kernel) rfl rfl rfl rfl dC_Par_readShape_158 (fun H locs hW => ?_)
      obtain ⟨sI12, esI12, hM⟩ := bnd_some hM
      rw [← esI12] at hW
      refine lv_aload (pc := 161) hx hb dC_Par_readShape_161 (lv_at hl 0 rfl) ?_
      refine lv_aload_n (pc := 163) hx hb dC_Par_readShape_163 rfl (lv_at hl 1 rfl) ?_
      refine x_getC (pc := 164) C hW 0 rfl (ci := 8) rfl i_Par 3 (by decide) qc_514 rfl rfl dC_Par_readShape_164 ?_
      obtain ⟨r13, hr13, hM⟩ := cr_some hM
      refine x_callQ (pc := 167) (n' := 41) (ov := some (.int r13)) C hW (kC_Frm_end l D dA o b i  sF sN sT u5.1 sI12 hr13) [1, 2, 3, 4, 5, 6, 7, 8, 9, 10, 11, 12, 13, 14, 15, 16, 17, 18, 19, 20, 21, 22, 23, 24, 25, 26, 27, 28, 29, 30, 31, 32, 33, 34, 35, 36, 37, 38, 39, 40, 0] rfl (by decide +kernel) rfl (ci := 7) rfl (q0 := 1) rfl gC_Par_153 ⟨rfl, by decide, by decide, by decide +kernel⟩ ⟨Nat.le_of_ble_eq_true rfl, Nat.le_of_ble_eq_true rfl⟩ ⟨show _ ≤ DC by omega, show _ ≤ DS by omega⟩ (As := []) (n := 0) rfl hl.1 rfl (Nat.le_of_ble_eq_true rfl) dC_Par_readShape_167 ?_
      obtain ⟨hg14, hM⟩ := gd_some hM
      refine x_putI (pc := 170) (ty := .int) (Ws' := (w_Par dA o b i sR sF sN sT u5.1 (cA sI12 r4 8 r13))) C hW 40 rfl (of_decide_eq_true hg14) 8 (by decide) qc_364 rfl rfl (by decide +kernel) rfl rfl rfl rfl dC_Par_readShape_170 (fun H locs hW => ?_)
      obtain ⟨sI15, esI15, hM⟩ := bnd_some hM
      rw [← esI15] at hW
      refine lv_iconst (pc := 173) (v := 0) hx hb dC_Par_readShape_173 (by decide) ?_
      obtain ⟨rfl, rfl, rfl, rfl⟩ := sm_q hM
      exact x_retCi (pc := 174) C rfl hW ⟨_, _, rfl, rfl⟩ (by omega) (by omega) dC_Par_readShape_174
    · replace hM := it_f hc hM
      refine lv_aload_n (pc := 26) hx hb dC_Par_readShape_26 rfl (lv_at hl 1 rfl) ?_
      refine lv_iload (pc := 27) hx hb dC_Par_readShape_27 (lv_at hl 5 rfl) ?_
      obtain ⟨hg16, hM⟩ := gd_some hM
      obtain ⟨r17, hr17, hM⟩ := cr_some hM
      refine x_callK (pc := 29) (n' := 41) (Wc := []) (ov := some (.int r17)) C hW (kC_Str_charAt l D dA (zz o) (fun _ => 0) (fun _ => 0)  k1 x6 hr17) [0, 1, 2, 3, 4, 5, 6, 7, 8, 9, 10, 11, 12, 13, 14, 15, 16, 17, 18, 19, 20, 21, 22, 23, 24, 25, 26, 27, 28, 29, 30, 31, 32, 33, 34, 35, 36, 37, 38, 39, 40] rfl (by decide +kernel) rfl (ex_rS C.2.2.2 (of_decide_eq_true hg16) hW.2.2) gC_Par_163 ⟨rfl, by decide, by decide, by decide +kernel⟩ ⟨Nat.le_of_ble_eq_true rfl, Nat.le_of_ble_eq_true rfl⟩ ⟨show _ ≤ DC by omega, show _ ≤ DS by omega⟩ (As := [.int x6]) (n := 1) rfl hl.1 rfl (Nat.le_of_ble_eq_true rfl) dC_Par_readShape_29 ?_
      refine lv_istore (pc := 32) (lv' := [(7, .int r17), (0, .ref (o 112)), (1, .ref (sK (zz o) k1)), (3, .int x3), (4, .int x4), (5, .int x5), (6, .int x6)]) hx hb dC_Par_readShape_32 hl (by decide) rfl (fun ls hl => ?_)
      refine lv_iload (pc := 34) hx hb dC_Par_readShape_34 (lv_at hl 0 rfl) ?_
      refine lv_bipush (pc := 36) (v := 44) hx hb dC_Par_readShape_36 (by decide) ?_
      refine lv_icmp_eq (pc := 38) (tgt := 55) hx hb dC_Par_readShape_38 (by decide) (fun hc => ?_) (fun hc => ?_)
      · replace hM := it_t hc hM
        exact bC_Par_readShape_55 N _ C hrec17 _ _ _ _ _ _ _ _ _ _ _ _ _ _ _ _ hM (by omega) (by omega) _ _ _ _ hW _ (lv_sub hl [1, 2, 3, 4, 5, 6, 0] rfl)
      · replace hM := it_f hc hM
        refine lv_iload (pc := 41) hx hb dC_Par_readShape_41 (lv_at hl 0 rfl) ?_
        refine lv_bipush (pc := 43) (v := 40) hx hb dC_Par_readShape_43 (by decide) ?_
        refine lv_icmp_eq (pc := 45) (tgt := 55) hx hb dC_Par_readShape_45 (by decide) (fun hc => ?_) (fun hc => ?_)
        · replace hM := it_t hc hM
          exact bC_Par_readShape_55 N _ C hrec17 _ _ _ _ _ _ _ _ _ _ _ _ _ _ _ _ hM (by omega) (by omega) _ _ _ _ hW _ (lv_sub hl [1, 2, 3, 4, 5, 6, 0] rfl)
        · replace hM := it_f hc hM
          refine lv_iload (pc := 48) hx hb dC_Par_readShape_48 (lv_at hl 0 rfl) ?_
          refine lv_bipush (pc := 50) (v := 41) hx hb dC_Par_readShape_50 (by decide) ?_
          refine lv_icmp_ne (pc := 52) (tgt := 81) hx hb dC_Par_readShape_52 (by decide) (fun hc => ?_) (fun hc => ?_)
          · replace hM := it_f hc hM
            refine lv_iload (pc := 81) hx hb dC_Par_readShape_81 (lv_at hl 0 rfl) ?_
            obtain ⟨r18, hr18, hM⟩ := cr_some hM
            refine x_callQS (pc := 83) (n' := 41) (Wc := []) (ov := some (.int r18)) C hW (kC_Fie_isRegister l D dA (zz o) (fun _ => 0) (fun _ => 0) N r17 hr18) [0, 1, 2, 3, 4, 5, 6, 7, 8, 9, 10, 11, 12, 13, 14, 15, 16, 17, 18, 19, 20, 21, 22, 23, 24, 25, 26, 27, 28, 29, 30, 31, 32, 33, 34, 35, 36, 37, 38, 39, 40] rfl (by decide +kernel) rfl qc_1268 qc_1266 qc_1267 qc_35 ⟨by decide, by decide, by decide +kernel⟩ ⟨Nat.le_of_ble_eq_true rfl, Nat.le_of_ble_eq_true rfl⟩ ⟨show _ ≤ DC by omega, show _ ≤ DS by omega⟩ (As := [.int r17]) (n := 1) rfl hl.1 rfl (Nat.le_of_ble_eq_true rfl) dC_Par_readShape_83 ?_
            refine lv_if_eq (pc := 86) (tgt := 114) hx hb dC_Par_readShape_86 (by decide) (fun hc => ?_) (fun hc => ?_)
            · replace hM := it_t hc hM
              refine lv_aload_n (pc := 114) hx hb dC_Par_readShape_114 rfl (lv_at hl 1 rfl) ?_
              refine x_getC (pc := 115) C hW 0 rfl (ci := 8) rfl i_Par 3 (by decide) qc_514 rfl rfl dC_Par_readShape_115 ?_
              obtain ⟨r19, u20, da21, ea22, db23, eb24, hr19, hM, hqda21, hpda21⟩ := ct_some hM
              refine x_callC (pc := 118) (n' := 41) C hW (kC_Frm_compile l D dA o b i N sF sN sT sP sI hr19) [1, 2, 3, 4, 5, 6, 7, 8, 9, 10, 11, 12, 13, 14, 15, 16, 17, 18, 19, 20, 21, 22, 23, 24, 25, 26, 27, 28, 29, 30, 31, 32, 33, 34, 35, 36, 37, 38, 39, 40, 0] rfl (by decide +kernel) rfl (ci := 7) rfl (q0 := 1) rfl gC_Par_174 ⟨rfl, by decide, by decide, by decide +kernel⟩ ⟨Nat.le_of_ble_eq_true rfl, Nat.le_of_ble_eq_true rfl⟩ ⟨show _ + da21 ≤ DC by omega, show _ + ea22 ≤ DS by omega⟩ (As := []) (n := 0) rfl hl.1 rfl (Nat.le_of_ble_eq_true rfl) dC_Par_readShape_118 (fun Wc' ov H locs hPo hWn => ?_)
              obtain ⟨b25, rfl, rfl⟩ := hPo
              have hW := hWn (w_Par dA o (mxs [1, 2, 4, 6] b25 b) i sR u20.1 sN u20.2 sP sI) rfl rfl
              generalize mxs [1, 2, 4, 6] b25 b = b at hW
              refine lv_if_ne (pc := 121) (tgt := 126) hx hb dC_Par_readShape_121 (by decide) (fun hc => ?_) (fun hc => ?_)
              · replace hM := it_f hc hM
                refine lv_iload (pc := 126) hx hb dC_Par_readShape_126 (lv_at hl 0 rfl) ?_
                refine lv_istore (pc := 128) (lv' := [(4, .int r17), (7, .int r17), (0, .ref (o 112)), (1, .ref (sK (zz o) k1)), (3, .int x3), (5, .int x5), (6, .int x6)]) hx hb dC_Par_readShape_128 hl (by decide) rfl (fun ls hl => ?_)
                exact bC_Par_readShape_130 N _ C hrec17 _ _ _ _ _ _ _ _ _ _ _ _ _ _ _ hM (by omega) (by omega) _ _ _ _ hW _ (lv_sub hl [2, 3, 4, 0, 5, 6] rfl)
              · replace hM := it_t hc hM
                refine lv_iconst (pc := 124) (v := 1) hx hb dC_Par_readShape_124 (by decide) ?_
                obtain ⟨rfl, rfl, rfl, rfl⟩ := sm_q hM
                exact x_retCi (pc := 125) C rfl hW ⟨_, _, rfl, rfl⟩ (by omega) (by omega) dC_Par_readShape_125
            · replace hM := it_f hc hM
              refine lv_aload_n (pc := 89) hx hb dC_Par_readShape_89 rfl (lv_at hl 1 rfl) ?_
              refine lv_iload (pc := 90) hx hb dC_Par_readShape_90 (lv_at hl 0 rfl) ?_
              obtain ⟨r26, u27, hr26, hM⟩ := cl_some hM
              refine x_callC (pc := 92) (n' := 41) C hW (kC_Par_readRegister l D dA o b i  r17 sR sF sN sT sP sI hr26) [0, 1, 2, 3, 4, 5, 6, 7, 8, 9, 10, 11, 12, 13, 14, 15, 16, 17, 18, 19, 20, 21, 22, 23, 24, 25, 26, 27, 28, 29, 30, 31, 32, 33, 34, 35, 36, 37, 38, 39, 40] rfl (by decide +kernel) rfl (ci := 8) rfl (q0 := 0) rfl gC_Par_171 ⟨rfl, by decide, by decide, by decide +kernel⟩ ⟨Nat.le_of_ble_eq_true rfl, Nat.le_of_ble_eq_true rfl⟩ ⟨show _ + 0 ≤ DC by omega, show _ + 0 ≤ DS by omega⟩ (As := [.int r17]) (n := 1) rfl hl.1 rfl (Nat.le_of_ble_eq_true rfl) dC_Par_readShape_92 (fun Wc' ov H locs hPo hWn => ?_)
              obtain ⟨rfl, rfl⟩ := hPo
              have hW := hWn (w_Par dA o b i sR sF sN u27 sP sI) rfl rfl
              refine lv_istore (pc := 95) (lv' := [(8, .int r26), (7, .int r17), (0, .ref (o 112)), (1, .ref (sK (zz o) k1)), (3, .int x3), (4, .int x4), (5, .int x5), (6, .int x6)]) hx hb dC_Par_readShape_95 hl (by decide) rfl (fun ls hl => ?_)
              refine lv_iload (pc := 97) hx hb dC_Par_readShape_97 (lv_at hl 0 rfl) ?_
              refine lv_if_ge (pc := 99) (tgt := 106) hx hb dC_Par_readShape_99 (by decide) (fun hc => ?_) (fun hc => ?_)
              · replace hM := it_t hc hM
                refine lv_iload_n (pc := 106) hx hb dC_Par_readShape_106 rfl (lv_at hl 4 rfl) ?_
                refine lv_iload (pc := 107) hx hb dC_Par_readShape_107 (lv_at hl 0 rfl) ?_
                refine lv_ior (pc := 109) hx hb dC_Par_readShape_109 ?_
                refine lv_istore_n (pc := 110) (lv' := [(3, .int (x3 ||| r26)), (8, .int r26), (7, .int r17), (0, .ref (o 112)), (1, .ref (sK (zz o) k1)), (4, .int x4), (5, .int x5), (6, .int x6)]) hx hb dC_Par_readShape_110 rfl hl (by decide) rfl (fun ls hl => ?_)
                refine lv_goto (pc := 111) (tgt := 130) hx hb dC_Par_readShape_111 (by decide) ?_
                exact bC_Par_readShape_130 N _ C hrec17 _ _ _ _ _ _ _ _ _ _ _ _ _ _ _ hM (by omega) (by omega) _ _ _ _ hW _ (lv_sub hl [3, 4, 0, 5, 6, 7] rfl)
              · replace hM := it_f hc hM
                refine lv_iload (pc := 102) hx hb dC_Par_readShape_102 (lv_at hl 0 rfl) ?_
                refine lv_ineg (pc := 104) hx hb dC_Par_readShape_104 ?_
                obtain ⟨rfl, rfl, rfl, rfl⟩ := sm_q hM
                exact x_retCi (pc := 105) C rfl hW ⟨_, _, rfl, rfl⟩ (by omega) (by omega) dC_Par_readShape_105
          · replace hM := it_t hc hM
            exact bC_Par_readShape_55 N _ C hrec17 _ _ _ _ _ _ _ _ _ _ _ _ _ _ _ _ hM (by omega) (by omega) _ _ _ _ hW _ (lv_sub hl [1, 2, 3, 4, 5, 6, 0] rfl)
def C_Par_readShape (N : Nat) (k1 : Nat) (x2 : Int32) (sR : CS) (sF : CS) (sN : CS) (sT : CS) (sP : CS) (sI : CS) : Option ((Int32 × (CS × CS × CS × CS)) × (Nat × Nat)) :=
  cr (C_Frm_end  sF sN sT sP sI) (fun r1 => C_Par_readShape_17 N  N k1 x2 (0 : Int32) r1 (0 : Int32) sR sF sN sT sP sI)
set_option maxHeartbeats 4000000 in
set_option maxRecDepth 100000 in
theorem bC_Par_readShape_0 (N : Nat)  {r : Int32} {u : CS × CS × CS × CS} {DC DS : Nat} (C : CxC R_Par p s m args meth c cC_Par_readShape 9 (some .int) D dA (zz o) A) (k1 : Nat) (x2 : Int32) (sR : CS) (sF : CS) (sN : CS) (sT : CS) (sP : CS) (sI : CS) (dc ds kc ks : Nat) (hM : C_Par_readShape N  k1 x2 sR sF sN sT sP sI = some ((r, u), (dc, ds))) (hdc : kc + dc ≤ DC) (hds : ks + ds ≤ DS) (b i : Nat → Nat) (H : Heap) (locs : List Loc) (hW : WdC D A s (w_Par dA o b i sR sF sN sT sP sI) H locs) (ls : Array Slot) (hl : lv_has ls 9 [(0, .ref (o 112)), (1, .ref (sK (zz o) k1)), (2, .int x2)]) : W p l e (rmC 8 334 DC DS) s m args below meth c H locs kc ks (MQ below (QC D A (fun Ws' ov => ∃ b' i' : Nat → Nat, Ws' = (w_Par dA o b' i' sR u.1 sN u.2.1 u.2.2.1 u.2.2.2) ∧ ov = (some (.int r)))) args s DC DS A) (F0 m 0 ls []) := by
  have hx := C.1.1
  have hb := C.1.2.1
  have hown := C.1.2.2.2.2.1
  have hT := C.1.2.2.2.2.2.1
  unfold C_Par_readShape at hM
  refine lv_iload_n (pc := 0) hx hb dC_Par_readShape_0 rfl (lv_at hl 2 rfl) ?_
  refine lv_istore_n (pc := 1) (lv' := [(3, .int x2), (0, .ref (o 112)), (1, .ref (sK (zz o) k1)), (2, .int x2)]) hx hb dC_Par_readShape_1 rfl hl (by decide) rfl (fun ls hl => ?_)
  refine lv_iconst (pc := 2) (v := 0) hx hb dC_Par_readShape_2 (by decide) ?_
  refine lv_istore (pc := 3) (lv' := [(4, .int (0 : Int32)), (3, .int x2), (0, .ref (o 112)), (1, .ref (sK (zz o) k1)), (2, .int x2)]) hx hb dC_Par_readShape_3 hl (by decide) rfl (fun ls hl => ?_)
  refine lv_aload_n (pc := 5) hx hb dC_Par_readShape_5 rfl (lv_at hl 2 rfl) ?_
  refine x_getC (pc := 6) C hW 0 rfl (ci := 8) rfl i_Par 3 (by decide) qc_514 rfl rfl dC_Par_readShape_6 ?_
  obtain ⟨r1, hr1, hM⟩ := cr_some hM
  refine x_callQ (pc := 9) (n' := 41) (ov := some (.int r1)) C hW (kC_Frm_end l D dA o b i  sF sN sT sP sI hr1) [1, 2, 3, 4, 5, 6, 7, 8, 9, 10, 11, 12, 13, 14, 15, 16, 17, 18, 19, 20, 21, 22, 23, 24, 25, 26, 27, 28, 29, 30, 31, 32, 33, 34, 35, 36, 37, 38, 39, 40, 0] rfl (by decide +kernel) rfl (ci := 7) rfl (q0 := 1) rfl gC_Par_153 ⟨rfl, by decide, by decide, by decide +kernel⟩ ⟨Nat.le_of_ble_eq_true rfl, Nat.le_of_ble_eq_true rfl⟩ ⟨show _ ≤ DC by omega, show _ ≤ DS by omega⟩ (As := []) (n := 0) rfl hl.1 rfl (Nat.le_of_ble_eq_true rfl) dC_Par_readShape_9 ?_
  refine lv_istore (pc := 12) (lv' := [(5, .int r1), (4, .int (0 : Int32)), (3, .int x2), (0, .ref (o 112)), (1, .ref (sK (zz o) k1)), (2, .int x2)]) hx hb dC_Par_readShape_12 hl (by decide) rfl (fun ls hl => ?_)
  refine lv_iconst (pc := 14) (v := 0) hx hb dC_Par_readShape_14 (by decide) ?_
  refine lv_istore (pc := 15) (lv' := [(6, .int (0 : Int32)), (5, .int r1), (4, .int (0 : Int32)), (3, .int x2), (0, .ref (o 112)), (1, .ref (sK (zz o) k1)), (2, .int x2)]) hx hb dC_Par_readShape_15 hl (by decide) rfl (fun ls hl => ?_)
  exact bC_Par_readShape_17 N  C  N _ _ _ _ _ _ _ _ _ _ _ _ _ _ _ hM (by omega) (by omega) _ _ _ _ hW _ (lv_sub hl [4, 5, 3, 2, 1, 0] rfl)
theorem kC_Par_readShape (l : Launch) (D : va_G) (dA : Nat → ClassId) (o b i : Nat → Nat) (N : Nat) (k1 : Nat) (x2 : Int32) (sR : CS) (sF : CS) (sN : CS) (sT : CS) (sP : CS) (sI : CS) {r : Int32} {u : CS × CS × CS × CS} {dc ds : Nat} (hM : C_Par_readShape N k1 x2 sR sF sN sT sP sI = some ((r, u), (dc, ds))) : KC l D dA (zz o) yC_Par_readShape cC_Par_readShape 9 (some .int) 8 334 dc ds (w_Par dA o b i sR sF sN sT sP sI) [.ref (o 112), .ref (sK (zz o) k1), .int x2] (fun Ws' ov => ∃ b' i' : Nat → Nat, Ws' = (w_Par dA o b' i' sR u.1 sN u.2.1 u.2.2.1 u.2.2.2) ∧ ov = (some (.int r))) := x_enterC (by decide +kernel) (Nat.le_of_ble_eq_true rfl) (fun p e s m args below meth c A C _ hW ls hl => bC_Par_readShape_0 N C k1 x2 sR sF sN sT sP sI dc ds 0 0 hM (by omega) (by omega) b i s.heap [] hW ls hl)
def C_Par_readLabel_98  (sR : CS) (sF : CS) (sN : CS) (sT : CS) (sP : CS) (sI : CS) : Option ((Int32 × (CS × CS × CS × CS)) × (Nat × Nat)) :=
  cl (C_Tok_skip  (2 : Int32) sT) (fun r1 u2 => some (((0 : Int32), (sN, u2, sP, sI)), (0, 0)))
set_option maxHeartbeats 4000000 in
set_option maxRecDepth 100000 in
theorem bC_Par_readLabel_98  {r : Int32} {u : CS × CS × CS × CS} {DC DS : Nat} (C : CxC R_Par p s m args meth c cC_Par_readLabel 3 (some .int) D dA (zz o) A)  (sR : CS) (sF : CS) (sN : CS) (sT : CS) (sP : CS) (sI : CS) (dc ds kc ks : Nat) (hM : C_Par_readLabel_98   sR sF sN sT sP sI = some ((r, u), (dc, ds))) (hdc : kc + dc ≤ DC) (hds : ks + ds ≤ DS) (b i : Nat → Nat) (H : Heap) (locs : List Loc) (hW : WdC D A s (w_Par dA o b i sR sF sN sT sP sI) H locs) (ls : Array Slot) (hl : lv_has ls 3 [(0, .ref (o 112))]) : W p l e (rmC 9 355 DC DS) s m args below meth c H locs kc ks (MQ below (QC D A (fun Ws' ov => ∃ b' i' : Nat → Nat, Ws' = (w_Par dA o b' i' sR sF u.1 u.2.1 u.2.2.1 u.2.2.2) ∧ ov = (some (.int r)))) args s DC DS A) (F0 m 98 ls []) := by
  have hx := C.1.1
  have hb := C.1.2.1
  have hown := C.1.2.2.2.2.1
  have hT := C.1.2.2.2.2.2.1
  unfold C_Par_readLabel_98 at hM
  refine lv_aload_n (pc := 98) hx hb dC_Par_readLabel_98 rfl (lv_at hl 0 rfl) ?_
  refine x_getC (pc := 99) C hW 0 rfl (ci := 8) rfl i_Par 1 (by decide) qc_512 rfl rfl dC_Par_readLabel_99 ?_
  refine lv_iconst (pc := 102) (v := 2) hx hb dC_Par_readLabel_102 (by decide) ?_
  obtain ⟨r1, u2, hr1, hM⟩ := cl_some hM
  refine x_callC (pc := 103) (n' := 41) C hW (kC_Tok_skip l D dA (zz o) o b  (2 : Int32) sT hr1) [30, 31, 32, 33, 0, 1, 2, 3, 4, 5, 6, 7, 8, 9, 10, 11, 12, 13, 14, 15, 16, 17, 18, 19, 20, 21, 22, 23, 24, 25, 26, 27, 28, 29, 34, 35, 36, 37, 38, 39, 40] rfl (by decide +kernel) rfl (ci := 3) rfl (q0 := 30) rfl gC_Par_53 ⟨rfl, by decide, by decide, by decide +kernel⟩ ⟨Nat.le_of_ble_eq_true rfl, Nat.le_of_ble_eq_true rfl⟩ ⟨show _ + 0 ≤ DC by omega, show _ + 0 ≤ DS by omega⟩ (As := [.int (2 : Int32)]) (n := 1) rfl hl.1 rfl (Nat.le_of_ble_eq_true rfl) dC_Par_readLabel_103 (fun Wc' ov H locs hPo hWn => ?_)
  obtain ⟨rfl, rfl⟩ := hPo
  have hW := hWn (w_Par dA o b i sR sF sN u2 sP sI) rfl rfl
  refine lv_iconst (pc := 106) (v := 0) hx hb dC_Par_readLabel_106 (by decide) ?_
  obtain ⟨rfl, rfl, rfl, rfl⟩ := sm_q hM
  exact x_retCi (pc := 107) C rfl hW ⟨_, _, rfl, rfl⟩ (by omega) (by omega) dC_Par_readLabel_107
def C_Par_readLabel  (sR : CS) (sF : CS) (sN : CS) (sT : CS) (sP : CS) (sI : CS) : Option ((Int32 × (CS × CS × CS × CS)) × (Nat × Nat)) :=
  cr (C_Tok_kind  (0 : Int32) sT) (fun r1 => cr (C_Tok_value  (0 : Int32) sT) (fun r2 => (if r1 = (4 : Int32) then ct (C_Prg_addNear  r2 sP sI) (fun r21 u22 => C_Par_readLabel_98  sR sF sN sT u22.1 u22.2) else (if r1 = (2 : Int32) then cr (C_Nam_isFree  r2 sN) (fun r3 => (if r3 = 0 then some (((4 : Int32), (sN, sT, sP, sI)), (0, 0)) else cl (C_Nam_define  r2 (1 : Int32) (sP.1 1) sN) (fun r4 u5 => ct (C_Row_add  (sP.1 1) (rg sP 0)) (fun r6 u7 => bnd (rs sP 0 u7) (fun sP13 => ct (C_Prg_add  (1 : Int32) r2 (0 : Int32) sP13 sI) (fun r14 u15 => C_Par_readLabel_98  sR sF u5 sT u15.1 u15.2)))))) else some (((1 : Int32), (sN, sT, sP, sI)), (0, 0))))))
set_option maxHeartbeats 4000000 in
set_option maxRecDepth 100000 in
theorem bC_Par_readLabel_0  {r : Int32} {u : CS × CS × CS × CS} {DC DS : Nat} (C : CxC R_Par p s m args meth c cC_Par_readLabel 3 (some .int) D dA (zz o) A)  (sR : CS) (sF : CS) (sN : CS) (sT : CS) (sP : CS) (sI : CS) (dc ds kc ks : Nat) (hM : C_Par_readLabel   sR sF sN sT sP sI = some ((r, u), (dc, ds))) (hdc : kc + dc ≤ DC) (hds : ks + ds ≤ DS) (b i : Nat → Nat) (H : Heap) (locs : List Loc) (hW : WdC D A s (w_Par dA o b i sR sF sN sT sP sI) H locs) (ls : Array Slot) (hl : lv_has ls 3 [(0, .ref (o 112))]) : W p l e (rmC 9 355 DC DS) s m args below meth c H locs kc ks (MQ below (QC D A (fun Ws' ov => ∃ b' i' : Nat → Nat, Ws' = (w_Par dA o b' i' sR sF u.1 u.2.1 u.2.2.1 u.2.2.2) ∧ ov = (some (.int r)))) args s DC DS A) (F0 m 0 ls []) := by
  have hx := C.1.1
  have hb := C.1.2.1
  have hown := C.1.2.2.2.2.1
  have hT := C.1.2.2.2.2.2.1
  unfold C_Par_readLabel at hM
  refine lv_aload_n (pc := 0) hx hb dC_Par_readLabel_0 rfl (lv_at hl 0 rfl) ?_
  refine x_getC (pc := 1) C hW 0 rfl (ci := 8) rfl i_Par 1 (by decide) qc_512 rfl rfl dC_Par_readLabel_1 ?_
  refine lv_iconst (pc := 4) (v := 0) hx hb dC_Par_readLabel_4 (by decide) ?_
  obtain ⟨r1, hr1, hM⟩ := cr_some hM
  refine x_callQ (pc := 5) (n' := 41) (ov := some (.int r1)) C hW (kC_Tok_kind l D dA (zz o) o b  (0 : Int32) sT hr1) [30, 31, 32, 33, 0, 1, 2, 3, 4, 5, 6, 7, 8, 9, 10, 11, 12, 13, 14, 15, 16, 17, 18, 19, 20, 21, 22, 23, 24, 25, 26, 27, 28, 29, 34, 35, 36, 37, 38, 39, 40] rfl (by decide +kernel) rfl (ci := 3) rfl (q0 := 30) rfl gC_Par_46 ⟨rfl, by decide, by decide, by decide +kernel⟩ ⟨Nat.le_of_ble_eq_true rfl, Nat.le_of_ble_eq_true rfl⟩ ⟨show _ ≤ DC by omega, show _ ≤ DS by omega⟩ (As := [.int (0 : Int32)]) (n := 1) rfl hl.1 rfl (Nat.le_of_ble_eq_true rfl) dC_Par_readLabel_5 ?_
  refine lv_istore_n (pc := 8) (lv' := [(1, .int r1), (0, .ref (o 112))]) hx hb dC_Par_readLabel_8 rfl hl (by decide) rfl (fun ls hl => ?_)
  refine lv_aload_n (pc := 9) hx hb dC_Par_readLabel_9 rfl (lv_at hl 1 rfl) ?_
  refine x_getC (pc := 10) C hW 0 rfl (ci := 8) rfl i_Par 1 (by decide) qc_512 rfl rfl dC_Par_readLabel_10 ?_
  refine lv_iconst (pc := 13) (v := 0) hx hb dC_Par_readLabel_13 (by decide) ?_
  obtain ⟨r2, hr2, hM⟩ := cr_some hM
  refine x_callQ (pc := 14) (n' := 41) (ov := some (.int r2)) C hW (kC_Tok_value l D dA (zz o) o b  (0 : Int32) sT hr2) [30, 31, 32, 33, 0, 1, 2, 3, 4, 5, 6, 7, 8, 9, 10, 11, 12, 13, 14, 15, 16, 17, 18, 19, 20, 21, 22, 23, 24, 25, 26, 27, 28, 29, 34, 35, 36, 37, 38, 39, 40] rfl (by decide +kernel) rfl (ci := 3) rfl (q0 := 30) rfl gC_Par_57 ⟨rfl, by decide, by decide, by decide +kernel⟩ ⟨Nat.le_of_ble_eq_true rfl, Nat.le_of_ble_eq_true rfl⟩ ⟨show _ ≤ DC by omega, show _ ≤ DS by omega⟩ (As := [.int (0 : Int32)]) (n := 1) rfl hl.1 rfl (Nat.le_of_ble_eq_true rfl) dC_Par_readLabel_14 ?_
  refine lv_istore_n (pc := 17) (lv' := [(2, .int r2), (1, .int r1), (0, .ref (o 112))]) hx hb dC_Par_readLabel_17 rfl hl (by decide) rfl (fun ls hl => ?_)
  refine lv_iload_n (pc := 18) hx hb dC_Par_readLabel_18 rfl (lv_at hl 1 rfl) ?_
  refine lv_iconst (pc := 19) (v := 4) hx hb dC_Par_readLabel_19 (by decide) ?_
  refine lv_icmp_ne (pc := 20) (tgt := 34) hx hb dC_Par_readLabel_20 (by decide) (fun hc => ?_) (fun hc => ?_)
  · replace hM := it_f hc hM
    refine lv_iload_n (pc := 34) hx hb dC_Par_readLabel_34 rfl (lv_at hl 1 rfl) ?_
    refine lv_iconst (pc := 35) (v := 2) hx hb dC_Par_readLabel_35 (by decide) ?_
    refine lv_icmp_eq (pc := 36) (tgt := 41) hx hb dC_Par_readLabel_36 (by decide) (fun hc => ?_) (fun hc => ?_)
    · replace hM := it_t hc hM
      refine lv_aload_n (pc := 41) hx hb dC_Par_readLabel_41 rfl (lv_at hl 2 rfl) ?_
      refine x_getC (pc := 42) C hW 0 rfl (ci := 8) rfl i_Par 0 (by decide) qc_511 rfl rfl dC_Par_readLabel_42 ?_
      refine lv_iload_n (pc := 45) hx hb dC_Par_readLabel_45 rfl (lv_at hl 0 rfl) ?_
      obtain ⟨r3, hr3, hM⟩ := cr_some hM
      refine x_callQ (pc := 46) (n' := 41) (ov := some (.int r3)) C hW (kC_Nam_isFree l D dA (zz o) o b  r2 sN hr3) [10, 11, 12, 13, 14, 15, 16, 17, 18, 19, 20, 21, 22, 23, 24, 25, 26, 27, 28, 29, 0, 1, 2, 3, 4, 5, 6, 7, 8, 9, 30, 31, 32, 33, 34, 35, 36, 37, 38, 39, 40] rfl (by decide +kernel) rfl (ci := 2) rfl (q0 := 10) rfl gC_Par_63 ⟨rfl, by decide, by decide, by decide +kernel⟩ ⟨Nat.le_of_ble_eq_true rfl, Nat.le_of_ble_eq_true rfl⟩ ⟨show _ ≤ DC by omega, show _ ≤ DS by omega⟩ (As := [.int r2]) (n := 1) rfl hl.1 rfl (Nat.le_of_ble_eq_true rfl) dC_Par_readLabel_46 ?_
      refine lv_if_ne (pc := 49) (tgt := 54) hx hb dC_Par_readLabel_49 (by decide) (fun hc => ?_) (fun hc => ?_)
      · replace hM := it_f hc hM
        refine lv_aload_n (pc := 54) hx hb dC_Par_readLabel_54 rfl (lv_at hl 2 rfl) ?_
        refine x_getC (pc := 55) C hW 0 rfl (ci := 8) rfl i_Par 0 (by decide) qc_511 rfl rfl dC_Par_readLabel_55 ?_
        refine lv_iload_n (pc := 58) hx hb dC_Par_readLabel_58 rfl (lv_at hl 0 rfl) ?_
        refine lv_iconst (pc := 59) (v := 1) hx hb dC_Par_readLabel_59 (by decide) ?_
        refine lv_aload_n (pc := 60) hx hb dC_Par_readLabel_60 rfl (lv_at hl 2 rfl) ?_
        refine x_getC (pc := 61) C hW 0 rfl (ci := 8) rfl i_Par 2 (by decide) qc_513 rfl rfl dC_Par_readLabel_61 ?_
        refine x_getC (pc := 64) C hW 34 rfl (ci := 5) rfl i_Prg 2 (by decide) qc_392 rfl rfl dC_Par_readLabel_64 ?_
        obtain ⟨r4, u5, hr4, hM⟩ := cl_some hM
        refine x_callC (pc := 67) (n' := 41) C hW (kC_Nam_define l D dA (zz o) o b  r2 (1 : Int32) (sP.1 1) sN hr4) [10, 11, 12, 13, 14, 15, 16, 17, 18, 19, 20, 21, 22, 23, 24, 25, 26, 27, 28, 29, 0, 1, 2, 3, 4, 5, 6, 7, 8, 9, 30, 31, 32, 33, 34, 35, 36, 37, 38, 39, 40] rfl (by decide +kernel) rfl (ci := 2) rfl (q0 := 10) rfl gC_Par_72 ⟨rfl, by decide, by decide, by decide +kernel⟩ ⟨Nat.le_of_ble_eq_true rfl, Nat.le_of_ble_eq_true rfl⟩ ⟨show _ + 0 ≤ DC by omega, show _ + 0 ≤ DS by omega⟩ (As := [.int r2, .int (1 : Int32), .int (sP.1 1)]) (n := 3) rfl hl.1 rfl (Nat.le_of_ble_eq_true rfl) dC_Par_readLabel_67 (fun Wc' ov H locs hPo hWn => ?_)
        obtain ⟨rfl, rfl⟩ := hPo
        have hW := hWn (w_Par dA o b i sR sF u5 sT sP sI) rfl rfl
        refine lv_aload_n (pc := 70) hx hb dC_Par_readLabel_70 rfl (lv_at hl 2 rfl) ?_
        refine x_getC (pc := 71) C hW 0 rfl (ci := 8) rfl i_Par 2 (by decide) qc_513 rfl rfl dC_Par_readLabel_71 ?_
        refine x_getC (pc := 74) C hW 34 rfl (ci := 5) rfl i_Prg 0 (by decide) qc_385 rfl rfl dC_Par_readLabel_74 ?_
        refine lv_aload_n (pc := 77) hx hb dC_Par_readLabel_77 rfl (lv_at hl 2 rfl) ?_
        refine x_getC (pc := 78) C hW 0 rfl (ci := 8) rfl i_Par 2 (by decide) qc_513 rfl rfl dC_Par_readLabel_78 ?_
        refine x_getC (pc := 81) C hW 34 rfl (ci := 5) rfl i_Prg 2 (by decide) qc_392 rfl rfl dC_Par_readLabel_81 ?_
        obtain ⟨r6, u7, da8, ea9, db10, eb11, hr6, hM, hqda8, hpda8⟩ := ct_some hM
        refine x_callC (pc := 84) (n' := 41) C hW (kC_Row_add l D dA (zz o) (fun _ => o 65) (fun _ => b 65)  (sP.1 1) (rg sP 0) hr6) [35, 36, 0, 1, 2, 3, 4, 5, 6, 7, 8, 9, 10, 11, 12, 13, 14, 15, 16, 17, 18, 19, 20, 21, 22, 23, 24, 25, 26, 27, 28, 29, 30, 31, 32, 33, 34, 37, 38, 39, 40] rfl (by decide +kernel) rfl (ci := 1) rfl (q0 := 35) rfl gC_Par_80 ⟨rfl, by decide, by decide, by decide +kernel⟩ ⟨Nat.le_of_ble_eq_true rfl, Nat.le_of_ble_eq_true rfl⟩ ⟨show _ + da8 ≤ DC by omega, show _ + ea9 ≤ DS by omega⟩ (As := [.int (sP.1 1)]) (n := 1) rfl hl.1 rfl (Nat.le_of_ble_eq_true rfl) dC_Par_readLabel_84 (fun Wc' ov H locs hPo hWn => ?_)
        obtain ⟨b12, rfl, rfl⟩ := hPo
        have hW := hWn (w_Par dA o (uN b 65 (b12 0)) i sR sF u5 sT (rs sP 0 u7) sI) rfl rfl
        generalize uN b 65 (b12 0) = b at hW
        obtain ⟨sP13, esP13, hM⟩ := bnd_some hM
        rw [← esP13] at hW
        refine lv_aload_n (pc := 87) hx hb dC_Par_readLabel_87 rfl (lv_at hl 2 rfl) ?_
        refine x_getC (pc := 88) C hW 0 rfl (ci := 8) rfl i_Par 2 (by decide) qc_513 rfl rfl dC_Par_readLabel_88 ?_
        refine lv_iconst (pc := 91) (v := 1) hx hb dC_Par_readLabel_91 (by decide) ?_
        refine lv_iload_n (pc := 92) hx hb dC_Par_readLabel_92 rfl (lv_at hl 0 rfl) ?_
        refine lv_iconst (pc := 93) (v := 0) hx hb dC_Par_readLabel_93 (by decide) ?_
        obtain ⟨r14, u15, da16, ea17, db18, eb19, hr14, hM, hqda16, hpda16⟩ := ct_some hM
        refine x_callC (pc := 94) (n' := 41) C hW (kC_Prg_add l D dA o b i  (1 : Int32) r2 (0 : Int32) sP13 sI hr14) [34, 35, 36, 37, 38, 39, 40, 0, 1, 2, 3, 4, 5, 6, 7, 8, 9, 10, 11, 12, 13, 14, 15, 16, 17, 18, 19, 20, 21, 22, 23, 24, 25, 26, 27, 28, 29, 30, 31, 32, 33] rfl (by decide +kernel) rfl (ci := 5) rfl (q0 := 34) rfl gC_Par_85 ⟨rfl, by decide, by decide, by decide +kernel⟩ ⟨Nat.le_of_ble_eq_true rfl, Nat.le_of_ble_eq_true rfl⟩ ⟨show _ + da16 ≤ DC by omega, show _ + ea17 ≤ DS by omega⟩ (As := [.int (1 : Int32), .int r2, .int (0 : Int32)]) (n := 3) rfl hl.1 rfl (Nat.le_of_ble_eq_true rfl) dC_Par_readLabel_94 (fun Wc' ov H locs hPo hWn => ?_)
        obtain ⟨b20, i, rfl, rfl⟩ := hPo
        have hW := hWn (w_Par dA o (mxs [4] b20 b) i sR sF u5 sT u15.1 u15.2) rfl rfl
        generalize mxs [4] b20 b = b at hW
        refine lv_pop (pc := 97) hx hb dC_Par_readLabel_97 rfl ?_
        exact bC_Par_readLabel_98  C  _ _ _ _ _ _ _ _ _ _ hM (by omega) (by omega) _ _ _ _ hW _ (lv_sub hl [2] rfl)
      · replace hM := it_t hc hM
        refine lv_iconst (pc := 52) (v := 4) hx hb dC_Par_readLabel_52 (by decide) ?_
        obtain ⟨rfl, rfl, rfl, rfl⟩ := sm_q hM
        exact x_retCi (pc := 53) C rfl hW ⟨_, _, rfl, rfl⟩ (by omega) (by omega) dC_Par_readLabel_53
    · replace hM := it_f hc hM
      refine lv_iconst (pc := 39) (v := 1) hx hb dC_Par_readLabel_39 (by decide) ?_
      obtain ⟨rfl, rfl, rfl, rfl⟩ := sm_q hM
      exact x_retCi (pc := 40) C rfl hW ⟨_, _, rfl, rfl⟩ (by omega) (by omega) dC_Par_readLabel_40
  · replace hM := it_t hc hM
    refine lv_aload_n (pc := 23) hx hb dC_Par_readLabel_23 rfl (lv_at hl 2 rfl) ?_
    refine x_getC (pc := 24) C hW 0 rfl (ci := 8) rfl i_Par 2 (by decide) qc_513 rfl rfl dC_Par_readLabel_24 ?_
    refine lv_iload_n (pc := 27) hx hb dC_Par_readLabel_27 rfl (lv_at hl 0 rfl) ?_
    obtain ⟨r21, u22, da23, ea24, db25, eb26, hr21, hM, hqda23, hpda23⟩ := ct_some hM
    refine x_callC (pc := 28) (n' := 41) C hW (kC_Prg_addNear l D dA o b i  r2 sP sI hr21) [34, 35, 36, 37, 38, 39, 40, 0, 1, 2, 3, 4, 5, 6, 7, 8, 9, 10, 11, 12, 13, 14, 15, 16, 17, 18, 19, 20, 21, 22, 23, 24, 25, 26, 27, 28, 29, 30, 31, 32, 33] rfl (by decide +kernel) rfl (ci := 5) rfl (q0 := 34) rfl gC_Par_60 ⟨rfl, by decide, by decide, by decide +kernel⟩ ⟨Nat.le_of_ble_eq_true rfl, Nat.le_of_ble_eq_true rfl⟩ ⟨show _ + da23 ≤ DC by omega, show _ + ea24 ≤ DS by omega⟩ (As := [.int r2]) (n := 1) rfl hl.1 rfl (Nat.le_of_ble_eq_true rfl) dC_Par_readLabel_28 (fun Wc' ov H locs hPo hWn => ?_)
    obtain ⟨b27, i, rfl, rfl⟩ := hPo
    have hW := hWn (w_Par dA o (mxs [4] b27 b) i sR sF sN sT u22.1 u22.2) rfl rfl
    generalize mxs [4] b27 b = b at hW
    refine lv_goto (pc := 31) (tgt := 98) hx hb dC_Par_readLabel_31 (by decide) ?_
    exact bC_Par_readLabel_98  C  _ _ _ _ _ _ _ _ _ _ hM (by omega) (by omega) _ _ _ _ hW _ (lv_sub hl [2] rfl)
theorem kC_Par_readLabel (l : Launch) (D : va_G) (dA : Nat → ClassId) (o b i : Nat → Nat)  (sR : CS) (sF : CS) (sN : CS) (sT : CS) (sP : CS) (sI : CS) {r : Int32} {u : CS × CS × CS × CS} {dc ds : Nat} (hM : C_Par_readLabel  sR sF sN sT sP sI = some ((r, u), (dc, ds))) : KC l D dA (zz o) yC_Par_readLabel cC_Par_readLabel 3 (some .int) 9 355 dc ds (w_Par dA o b i sR sF sN sT sP sI) [.ref (o 112)] (fun Ws' ov => ∃ b' i' : Nat → Nat, Ws' = (w_Par dA o b' i' sR sF u.1 u.2.1 u.2.2.1 u.2.2.2) ∧ ov = (some (.int r))) := x_enterC (by decide +kernel) (Nat.le_of_ble_eq_true rfl) (fun p e s m args below meth c A C _ hW ls hl => bC_Par_readLabel_0 C  sR sF sN sT sP sI dc ds 0 0 hM (by omega) (by omega) b i s.heap [] hW ls hl)
def C_Par_readStatement_49 (N : Nat)  (sR : CS) (sF : CS) (sN : CS) (sT : CS) (sP : CS) (sI : CS) : Option ((Int32 × (CS × CS × CS × CS × CS)) × (Nat × Nat)) :=
  some (((2 : Int32), (sF, sN, sT, sP, sI)), (0, 0))
set_option maxHeartbeats 4000000 in
set_option maxRecDepth 100000 in
theorem bC_Par_readStatement_49 (N : Nat)  {r : Int32} {u : CS × CS × CS × CS × CS} {DC DS : Nat} (C : CxC R_Par p s m args meth c cC_Par_readStatement 4 (some .int) D dA (zz o) A)  (sR : CS) (sF : CS) (sN : CS) (sT : CS) (sP : CS) (sI : CS) (dc ds kc ks : Nat) (hM : C_Par_readStatement_49 N   sR sF sN sT sP sI = some ((r, u), (dc, ds))) (hdc : kc + dc ≤ DC) (hds : ks + ds ≤ DS) (b i : Nat → Nat) (H : Heap) (locs : List Loc) (hW : WdC D A s (w_Par dA o b i sR sF sN sT sP sI) H locs) (ls : Array Slot) (hl : lv_has ls 4 []) : W p l e (rmC 10 379 DC DS) s m args below meth c H locs kc ks (MQ below (QC D A (fun Ws' ov => ∃ b' i' : Nat → Nat, Ws' = (w_Par dA o b' i' sR u.1 u.2.1 u.2.2.1 u.2.2.2.1 u.2.2.2.2) ∧ ov = (some (.int r)))) args s DC DS A) (F0 m 49 ls []) := by
  have hx := C.1.1
  have hb := C.1.2.1
  have hown := C.1.2.2.2.2.1
  have hT := C.1.2.2.2.2.2.1
  unfold C_Par_readStatement_49 at hM
  refine lv_iconst (pc := 49) (v := 2) hx hb dC_Par_readStatement_49 (by decide) ?_
  obtain ⟨rfl, rfl, rfl, rfl⟩ := sm_q hM
  exact x_retCi (pc := 50) C rfl hW ⟨_, _, rfl, rfl⟩ (by omega) (by omega) dC_Par_readStatement_50
def C_Par_readStatement_153 (N : Nat) (t1 : Int32) (sR : CS) (sF : CS) (sN : CS) (sT : CS) (sP : CS) (sI : CS) : Option ((Int32 × (CS × CS × CS × CS × CS)) × (Nat × Nat)) :=
  gd (isB t1) (bnd (cF sP 5 t1) (fun sP2 => some (((0 : Int32), (sF, sN, sT, sP2, sI)), (0, 0))))
set_option maxHeartbeats 4000000 in
set_option maxRecDepth 100000 in
theorem bC_Par_readStatement_153 (N : Nat)  {r : Int32} {u : CS × CS × CS × CS × CS} {DC DS : Nat} (C : CxC R_Par p s m args meth c cC_Par_readStatement 4 (some .int) D dA (zz o) A) (t1 : Int32) (sR : CS) (sF : CS) (sN : CS) (sT : CS) (sP : CS) (sI : CS) (dc ds kc ks : Nat) (hM : C_Par_readStatement_153 N  t1 sR sF sN sT sP sI = some ((r, u), (dc, ds))) (hdc : kc + dc ≤ DC) (hds : ks + ds ≤ DS) (b i : Nat → Nat) (H : Heap) (locs : List Loc) (hW : WdC D A s (w_Par dA o b i sR sF sN sT sP sI) H locs) (ls : Array Slot) (hl : lv_has ls 4 []) : W p l e (rmC 10 379 DC DS) s m args below meth c H locs kc ks (MQ below (QC D A (fun Ws' ov => ∃ b' i' : Nat → Nat, Ws' = (w_Par dA o b' i' sR u.1 u.2.1 u.2.2.1 u.2.2.2.1 u.2.2.2.2) ∧ ov = (some (.int r)))) args s DC DS A) (F0 m 153 ls [.int t1, .ref (o 64)]) := by
  have hx := C.1.1
  have hb := C.1.2.1
  have hown := C.1.2.2.2.2.1
  have hT := C.1.2.2.2.2.2.1
  unfold C_Par_readStatement_153 at hM
  obtain ⟨hg1, hM⟩ := gd_some hM
  refine x_putC (pc := 153) (ty := .boolean) (Ws' := (w_Par dA o b i sR sF sN sT (cF sP 5 t1) sI)) C hW 34 rfl (ci := 5) rfl i_Prg tok_Prg n_Prg 6 (by decide) qc_400 rfl rfl (by decide +kernel) (isB_n hg1) (isB_f hg1) (Nat.le_of_ble_eq_true rfl) rfl dC_Par_readStatement_153 (fun H locs hW => ?_)
  obtain ⟨sP2, esP2, hM⟩ := bnd_some hM
  rw [← esP2] at hW
  refine lv_iconst (pc := 156) (v := 0) hx hb dC_Par_readStatement_156 (by decide) ?_
  obtain ⟨rfl, rfl, rfl, rfl⟩ := sm_q hM
  exact x_retCi (pc := 157) C rfl hW ⟨_, _, rfl, rfl⟩ (by omega) (by omega) dC_Par_readStatement_157
def C_Par_readStatement_136 (N : Nat) (j3 : Nat) (sR : CS) (sF : CS) (sN : CS) (sT : CS) (sP : CS) (sI : CS) : Option ((Int32 × (CS × CS × CS × CS × CS)) × (Nat × Nat)) :=
  gd (decide (j3 < ex_nO)) ((if (ex_role.getD j3 0) = (2 : Int32) then C_Par_readStatement_153 N  (1 : Int32) sR sF sN sT sP sI else C_Par_readStatement_153 N  (0 : Int32) sR sF sN sT sP sI))
set_option maxHeartbeats 4000000 in
set_option maxRecDepth 100000 in
theorem bC_Par_readStatement_136 (N : Nat)  {r : Int32} {u : CS × CS × CS × CS × CS} {DC DS : Nat} (C : CxC R_Par p s m args meth c cC_Par_readStatement 4 (some .int) D dA (zz o) A) (j3 : Nat) (sR : CS) (sF : CS) (sN : CS) (sT : CS) (sP : CS) (sI : CS) (dc ds kc ks : Nat) (hM : C_Par_readStatement_136 N  j3 sR sF sN sT sP sI = some ((r, u), (dc, ds))) (hdc : kc + dc ≤ DC) (hds : ks + ds ≤ DS) (b i : Nat → Nat) (H : Heap) (locs : List Loc) (hW : WdC D A s (w_Par dA o b i sR sF sN sT sP sI) H locs) (ls : Array Slot) (hl : lv_has ls 4 [(0, .ref (o 112)), (3, .ref (oP (zz o) j3))]) : W p l e (rmC 10 379 DC DS) s m args below meth c H locs kc ks (MQ below (QC D A (fun Ws' ov => ∃ b' i' : Nat → Nat, Ws' = (w_Par dA o b' i' sR u.1 u.2.1 u.2.2.1 u.2.2.2.1 u.2.2.2.2) ∧ ov = (some (.int r)))) args s DC DS A) (F0 m 136 ls []) := by
  have hx := C.1.1
  have hb := C.1.2.1
  have hown := C.1.2.2.2.2.1
  have hT := C.1.2.2.2.2.2.1
  unfold C_Par_readStatement_136 at hM
  refine lv_aload_n (pc := 136) hx hb dC_Par_readStatement_136 rfl (lv_at hl 0 rfl) ?_
  refine x_getC (pc := 137) C hW 0 rfl (ci := 8) rfl i_Par 2 (by decide) qc_513 rfl rfl dC_Par_readStatement_137 ?_
  refine lv_aload_n (pc := 140) hx hb dC_Par_readStatement_140 rfl (lv_at hl 1 rfl) ?_
  obtain ⟨hg1, hM⟩ := gd_some hM
  refine vk_getf (pc := 141) hx hb (ex_op_role C.2.2.2 (of_decide_eq_true hg1)) hW.2.2 hown (hT _ qc_2197) (fun _ h => h) dC_Par_readStatement_141 ?_
  refine lv_iconst (pc := 144) (v := 2) hx hb dC_Par_readStatement_144 (by decide) ?_
  refine lv_icmp_ne (pc := 145) (tgt := 152) hx hb dC_Par_readStatement_145 (by decide) (fun hc => ?_) (fun hc => ?_)
  · replace hM := it_f hc hM
    refine lv_iconst (pc := 152) (v := 0) hx hb dC_Par_readStatement_152 (by decide) ?_
    exact bC_Par_readStatement_153 N  C  _ _ _ _ _ _ _ _ _ _ _ hM (by omega) (by omega) _ _ _ _ hW _ (lv_sub hl [] rfl)
  · replace hM := it_t hc hM
    refine lv_iconst (pc := 148) (v := 1) hx hb dC_Par_readStatement_148 (by decide) ?_
    refine lv_goto (pc := 149) (tgt := 153) hx hb dC_Par_readStatement_149 (by decide) ?_
    exact bC_Par_readStatement_153 N  C  _ _ _ _ _ _ _ _ _ _ _ hM (by omega) (by omega) _ _ _ _ hW _ (lv_sub hl [] rfl)
def C_Par_readStatement_230 (N : Nat) (t0 : Int32) (sR : CS) (sF : CS) (sN : CS) (sT : CS) (sP : CS) (sI : CS) : Option ((Int32 × (CS × CS × CS × CS × CS)) × (Nat × Nat)) :=
  some ((t0, (sF, sN, sT, sP, sI)), (0, 0))
set_option maxHeartbeats 4000000 in
set_option maxRecDepth 100000 in
theorem bC_Par_readStatement_230 (N : Nat)  {r : Int32} {u : CS × CS × CS × CS × CS} {DC DS : Nat} (C : CxC R_Par p s m args meth c cC_Par_readStatement 4 (some .int) D dA (zz o) A) (t0 : Int32) (sR : CS) (sF : CS) (sN : CS) (sT : CS) (sP : CS) (sI : CS) (dc ds kc ks : Nat) (hM : C_Par_readStatement_230 N  t0 sR sF sN sT sP sI = some ((r, u), (dc, ds))) (hdc : kc + dc ≤ DC) (hds : ks + ds ≤ DS) (b i : Nat → Nat) (H : Heap) (locs : List Loc) (hW : WdC D A s (w_Par dA o b i sR sF sN sT sP sI) H locs) (ls : Array Slot) (hl : lv_has ls 4 []) : W p l e (rmC 10 379 DC DS) s m args below meth c H locs kc ks (MQ below (QC D A (fun Ws' ov => ∃ b' i' : Nat → Nat, Ws' = (w_Par dA o b' i' sR u.1 u.2.1 u.2.2.1 u.2.2.2.1 u.2.2.2.2) ∧ ov = (some (.int r)))) args s DC DS A) (F0 m 230 ls [.int t0]) := by
  have hx := C.1.1
  have hb := C.1.2.1
  have hown := C.1.2.2.2.2.1
  have hT := C.1.2.2.2.2.2.1
  unfold C_Par_readStatement_230 at hM
  obtain ⟨rfl, rfl, rfl, rfl⟩ := sm_q hM
  exact x_retCi (pc := 230) C rfl hW ⟨_, _, rfl, rfl⟩ (by omega) (by omega) dC_Par_readStatement_230
def C_Par_readStatement_269 (N : Nat) (t0 : Int32) (sR : CS) (sF : CS) (sN : CS) (sT : CS) (sP : CS) (sI : CS) : Option ((Int32 × (CS × CS × CS × CS × CS)) × (Nat × Nat)) :=
  some ((t0, (sF, sN, sT, sP, sI)), (0, 0))
set_option maxHeartbeats 4000000 in
set_option maxRecDepth 100000 in
theorem bC_Par_readStatement_269 (N : Nat)  {r : Int32} {u : CS × CS × CS × CS × CS} {DC DS : Nat} (C : CxC R_Par p s m args meth c cC_Par_readStatement 4 (some .int) D dA (zz o) A) (t0 : Int32) (sR : CS) (sF : CS) (sN : CS) (sT : CS) (sP : CS) (sI : CS) (dc ds kc ks : Nat) (hM : C_Par_readStatement_269 N  t0 sR sF sN sT sP sI = some ((r, u), (dc, ds))) (hdc : kc + dc ≤ DC) (hds : ks + ds ≤ DS) (b i : Nat → Nat) (H : Heap) (locs : List Loc) (hW : WdC D A s (w_Par dA o b i sR sF sN sT sP sI) H locs) (ls : Array Slot) (hl : lv_has ls 4 []) : W p l e (rmC 10 379 DC DS) s m args below meth c H locs kc ks (MQ below (QC D A (fun Ws' ov => ∃ b' i' : Nat → Nat, Ws' = (w_Par dA o b' i' sR u.1 u.2.1 u.2.2.1 u.2.2.2.1 u.2.2.2.2) ∧ ov = (some (.int r)))) args s DC DS A) (F0 m 269 ls [.int t0]) := by
  have hx := C.1.1
  have hb := C.1.2.1
  have hown := C.1.2.2.2.2.1
  have hT := C.1.2.2.2.2.2.1
  unfold C_Par_readStatement_269 at hM
  obtain ⟨rfl, rfl, rfl, rfl⟩ := sm_q hM
  exact x_retCi (pc := 269) C rfl hW ⟨_, _, rfl, rfl⟩ (by omega) (by omega) dC_Par_readStatement_269
def C_Par_readStatement (N : Nat)  (sR : CS) (sF : CS) (sN : CS) (sT : CS) (sP : CS) (sI : CS) : Option ((Int32 × (CS × CS × CS × CS × CS)) × (Nat × Nat)) :=
  cr (C_Tok_kind  (0 : Int32) sT) (fun r1 => (if r1 = (2 : Int32) then cr (C_Tok_value  (0 : Int32) sT) (fun r2 => cr (C_Row_get  r2 (rg sN 2)) (fun r3 => (if (r3 - (1 : Int32)) < 0 then C_Par_readStatement_49 N  sR sF sN sT sP sI else (if (r3 - (1 : Int32)) < (nI ex_nO) then gd (inB (r3 - (1 : Int32)) ex_nO) (cl (C_Tok_skip  (1 : Int32) sT) (fun r5 u6 => bnd (cF sP 6 (sP.1 1)) (fun sP7 => gd (decide ((r3 - (1 : Int32)).toNatClampNeg < ex_nO)) ((if (ex_role.getD ((r3 - (1 : Int32)).toNatClampNeg) 0) = (1 : Int32) then C_Par_readStatement_136 N  ((r3 - (1 : Int32)).toNatClampNeg) sR sF sN u6 sP7 sI else (if (ex_role.getD ((r3 - (1 : Int32)).toNatClampNeg) 0) = (2 : Int32) then C_Par_readStatement_136 N  ((r3 - (1 : Int32)).toNatClampNeg) sR sF sN u6 sP7 sI else (if (ex_role.getD ((r3 - (1 : Int32)).toNatClampNeg) 0) = (3 : Int32) then ct (C_Par_readEquate N sR sF sN u6 sP7 sI) (fun r10 u11 => some ((r10, (u11.1, u11.2.1, u11.2.2.1, u11.2.2.2, sI)), (0, 0))) else (if (ex_role.getD ((r3 - (1 : Int32)).toNatClampNeg) 0) = (4 : Int32) then gd (decide ((r3 - (1 : Int32)).toNatClampNeg < ex_nO)) (ct (C_Par_readNumbers N (ex_word.getD ((r3 - (1 : Int32)).toNatClampNeg) 0) sR sF sN u6 sP7 sI) (fun r18 u19 => some ((r18, (u19.1, sN, u19.2.1, u19.2.2.1, u19.2.2.2)), (0, 0)))) else (if (ex_role.getD ((r3 - (1 : Int32)).toNatClampNeg) 0) = (5 : Int32) then gd (decide ((r3 - (1 : Int32)).toNatClampNeg < ex_nO)) (ct (C_Par_readStrings N (ex_word.getD ((r3 - (1 : Int32)).toNatClampNeg) 0) sR sF sN u6 sP7 sI) (fun r26 u27 => some ((r26, (sF, sN, u27.1, u27.2.1, u27.2.2)), (0, 0)))) else (if (ex_role.getD ((r3 - (1 : Int32)).toNatClampNeg) 0) = (6 : Int32) then ct (C_Par_readSpace N sR sF sN u6 sP7 sI) (fun r33 u34 => some ((r33, (u34.1, sN, u34.2.1, u34.2.2.1, u34.2.2.2)), (0, 0))) else (if (ex_role.getD ((r3 - (1 : Int32)).toNatClampNeg) 0) = (7 : Int32) then ct (C_Par_readAlign N sR sF sN u6 sP7 sI) (fun r40 u41 => some ((r40, (u41.1, sN, u41.2.1, u41.2.2.1, u41.2.2.2)), (0, 0))) else (if (ex_role.getD ((r3 - (1 : Int32)).toNatClampNeg) 0) = (8 : Int32) then ct (C_Par_readLoad N sR sF sN u6 sP7 sI) (fun r47 u48 => some ((r47, (u48.1, sN, u48.2.1, u48.2.2.1, u48.2.2.2)), (0, 0))) else (if (ex_role.getD ((r3 - (1 : Int32)).toNatClampNeg) 0) = (9 : Int32) then cr (C_Par_isRegister  sR sF sN u6 sP7 sI) (fun r54 => (if r54 = 0 then gd (decide ((r3 - (1 : Int32)).toNatClampNeg < ex_nO)) (ct (C_Par_readShape N 17 ((ex_word.getD ((r3 - (1 : Int32)).toNatClampNeg) 0) ||| (128 : Int32)) sR sF sN u6 sP7 sI) (fun r56 u57 => C_Par_readStatement_230 N  r56 sR u57.1 sN u57.2.1 u57.2.2.1 u57.2.2.2)) else gd (decide ((r3 - (1 : Int32)).toNatClampNeg < ex_nO)) (ct (C_Par_readShape N 15 (ex_word.getD ((r3 - (1 : Int32)).toNatClampNeg) 0) sR sF sN u6 sP7 sI) (fun r64 u65 => C_Par_readStatement_230 N  r64 sR u65.1 sN u65.2.1 u65.2.2.1 u65.2.2.2)))) else (if (ex_role.getD ((r3 - (1 : Int32)).toNatClampNeg) 0) = (10 : Int32) then cr (C_Tok_kind  (1 : Int32) u6) (fun r71 => (if r71 = 0 then gd (decide ((r3 - (1 : Int32)).toNatClampNeg < ex_nO)) (ct (C_Par_readShape N 18 ((ex_word.getD ((r3 - (1 : Int32)).toNatClampNeg) 0) ||| (128 : Int32)) sR sF sN u6 sP7 sI) (fun r81 u82 => C_Par_readStatement_269 N  r81 sR u82.1 sN u82.2.1 u82.2.2.1 u82.2.2.2)) else gd (decide ((r3 - (1 : Int32)).toNatClampNeg < ex_nO)) (ct (C_Par_readShape N 19 (ex_word.getD ((r3 - (1 : Int32)).toNatClampNeg) 0) sR sF sN u6 sP7 sI) (fun r73 u74 => C_Par_readStatement_269 N  r73 sR u74.1 sN u74.2.1 u74.2.2.1 u74.2.2.2)))) else gd (decide ((r3 - (1 : Int32)).toNatClampNeg < ex_nO)) (gd (decide ((r3 - (1 : Int32)).toNatClampNeg < ex_nO)) (cr (C_Row_get  r2 (rg sN 4)) (fun r90 => ct (C_Par_readShape N (ex_shape.getD ((r3 - (1 : Int32)).toNatClampNeg) 0) ((ex_word.getD ((r3 - (1 : Int32)).toNatClampNeg) 0) ||| r90) sR sF sN u6 sP7 sI) (fun r91 u92 => some ((r91, (u92.1, sN, u92.2.1, u92.2.2.1, u92.2.2.2)), (0, 0)))))))))))))))))))) else C_Par_readStatement_49 N  sR sF sN sT sP sI)))) else some (((1 : Int32), (sF, sN, sT, sP, sI)), (0, 0))))
set_option maxHeartbeats 4000000 in
set_option maxRecDepth 100000 in
theorem bC_Par_readStatement_0 (N : Nat)  {r : Int32} {u : CS × CS × CS × CS × CS} {DC DS : Nat} (C : CxC R_Par p s m args meth c cC_Par_readStatement 4 (some .int) D dA (zz o) A)  (sR : CS) (sF : CS) (sN : CS) (sT : CS) (sP : CS) (sI : CS) (dc ds kc ks : Nat) (hM : C_Par_readStatement N   sR sF sN sT sP sI = some ((r, u), (dc, ds))) (hdc : kc + dc ≤ DC) (hds : ks + ds ≤ DS) (b i : Nat → Nat) (H : Heap) (locs : List Loc) (hW : WdC D A s (w_Par dA o b i sR sF sN sT sP sI) H locs) (ls : Array Slot) (hl : lv_has ls 4 [(0, .ref (o 112))]) : W p l e (rmC 10 379 DC DS) s m args below meth c H locs kc ks (MQ below (QC D A (fun Ws' ov => ∃ b' i' : Nat → Nat, Ws' = (w_Par dA o b' i' sR u.1 u.2.1 u.2.2.1 u.2.2.2.1 u.2.2.2.2) ∧ ov = (some (.int r)))) args s DC DS A) (F0 m 0 ls []) := by
  have hx := C.1.1
  have hb := C.1.2.1
  have hown := C.1.2.2.2.2.1
  have hT := C.1.2.2.2.2.2.1
  unfold C_Par_readStatement at hM
  refine lv_aload_n (pc := 0) hx hb dC_Par_readStatement_0 rfl (lv_at hl 0 rfl) ?_
  refine x_getC (pc := 1) C hW 0 rfl (ci := 8) rfl i_Par 1 (by decide) qc_512 rfl rfl dC_Par_readStatement_1 ?_
  refine lv_iconst (pc := 4) (v := 0) hx hb dC_Par_readStatement_4 (by decide) ?_
  obtain ⟨r1, hr1, hM⟩ := cr_some hM
  refine x_callQ (pc := 5) (n' := 41) (ov := some (.int r1)) C hW (kC_Tok_kind l D dA (zz o) o b  (0 : Int32) sT hr1) [30, 31, 32, 33, 0, 1, 2, 3, 4, 5, 6, 7, 8, 9, 10, 11, 12, 13, 14, 15, 16, 17, 18, 19, 20, 21, 22, 23, 24, 25, 26, 27, 28, 29, 34, 35, 36, 37, 38, 39, 40] rfl (by decide +kernel) rfl (ci := 3) rfl (q0 := 30) rfl gC_Par_46 ⟨rfl, by decide, by decide, by decide +kernel⟩ ⟨Nat.le_of_ble_eq_true rfl, Nat.le_of_ble_eq_true rfl⟩ ⟨show _ ≤ DC by omega, show _ ≤ DS by omega⟩ (As := [.int (0 : Int32)]) (n := 1) rfl hl.1 rfl (Nat.le_of_ble_eq_true rfl) dC_Par_readStatement_5 ?_
  refine lv_iconst (pc := 8) (v := 2) hx hb dC_Par_readStatement_8 (by decide) ?_
  refine lv_icmp_eq (pc := 9) (tgt := 14) hx hb dC_Par_readStatement_9 (by decide) (fun hc => ?_) (fun hc => ?_)
  · replace hM := it_t hc hM
    refine lv_aload_n (pc := 14) hx hb dC_Par_readStatement_14 rfl (lv_at hl 0 rfl) ?_
    refine x_getC (pc := 15) C hW 0 rfl (ci := 8) rfl i_Par 1 (by decide) qc_512 rfl rfl dC_Par_readStatement_15 ?_
    refine lv_iconst (pc := 18) (v := 0) hx hb dC_Par_readStatement_18 (by decide) ?_
    obtain ⟨r2, hr2, hM⟩ := cr_some hM
    refine x_callQ (pc := 19) (n' := 41) (ov := some (.int r2)) C hW (kC_Tok_value l D dA (zz o) o b  (0 : Int32) sT hr2) [30, 31, 32, 33, 0, 1, 2, 3, 4, 5, 6, 7, 8, 9, 10, 11, 12, 13, 14, 15, 16, 17, 18, 19, 20, 21, 22, 23, 24, 25, 26, 27, 28, 29, 34, 35, 36, 37, 38, 39, 40] rfl (by decide +kernel) rfl (ci := 3) rfl (q0 := 30) rfl gC_Par_57 ⟨rfl, by decide, by decide, by decide +kernel⟩ ⟨Nat.le_of_ble_eq_true rfl, Nat.le_of_ble_eq_true rfl⟩ ⟨show _ ≤ DC by omega, show _ ≤ DS by omega⟩ (As := [.int (0 : Int32)]) (n := 1) rfl hl.1 rfl (Nat.le_of_ble_eq_true rfl) dC_Par_readStatement_19 ?_
    refine lv_istore_n (pc := 22) (lv' := [(1, .int r2), (0, .ref (o 112))]) hx hb dC_Par_readStatement_22 rfl hl (by decide) rfl (fun ls hl => ?_)
    refine lv_aload_n (pc := 23) hx hb dC_Par_readStatement_23 rfl (lv_at hl 1 rfl) ?_
    refine x_getC (pc := 24) C hW 0 rfl (ci := 8) rfl i_Par 0 (by decide) qc_511 rfl rfl dC_Par_readStatement_24 ?_
    refine x_getC (pc := 27) C hW 10 rfl (ci := 2) rfl i_Nam 2 (by decide) qc_220 rfl rfl dC_Par_readStatement_27 ?_
    refine lv_iload_n (pc := 30) hx hb dC_Par_readStatement_30 rfl (lv_at hl 0 rfl) ?_
    obtain ⟨r3, hr3, hM⟩ := cr_some hM
    refine x_callQ (pc := 31) (n' := 41) (ov := some (.int r3)) C hW (kC_Row_get l D dA (zz o) (fun _ => o 19) (fun _ => b 19)  r2 (rg sN 2) hr3) [15, 16, 0, 1, 2, 3, 4, 5, 6, 7, 8, 9, 10, 11, 12, 13, 14, 17, 18, 19, 20, 21, 22, 23, 24, 25, 26, 27, 28, 29, 30, 31, 32, 33, 34, 35, 36, 37, 38, 39, 40] rfl (by decide +kernel) rfl (ci := 1) rfl (q0 := 15) rfl gC_Par_91 ⟨rfl, by decide, by decide, by decide +kernel⟩ ⟨Nat.le_of_ble_eq_true rfl, Nat.le_of_ble_eq_true rfl⟩ ⟨show _ ≤ DC by omega, show _ ≤ DS by omega⟩ (As := [.int r2]) (n := 1) rfl hl.1 rfl (Nat.le_of_ble_eq_true rfl) dC_Par_readStatement_31 ?_
    refine lv_iconst (pc := 34) (v := 1) hx hb dC_Par_readStatement_34 (by decide) ?_
    refine lv_isub (pc := 35) hx hb dC_Par_readStatement_35 ?_
    refine lv_istore_n (pc := 36) (lv' := [(2, .int (r3 - (1 : Int32))), (1, .int r2), (0, .ref (o 112))]) hx hb dC_Par_readStatement_36 rfl hl (by decide) rfl (fun ls hl => ?_)
    refine lv_iload_n (pc := 37) hx hb dC_Par_readStatement_37 rfl (lv_at hl 0 rfl) ?_
    refine lv_if_lt (pc := 38) (tgt := 49) hx hb dC_Par_readStatement_38 (by decide) (fun hc => ?_) (fun hc => ?_)
    · replace hM := it_t hc hM
      exact bC_Par_readStatement_49 N  C  _ _ _ _ _ _ _ _ _ _ hM (by omega) (by omega) _ _ _ _ hW _ (lv_sub hl [] rfl)
    · replace hM := it_f hc hM
      refine lv_iload_n (pc := 41) hx hb dC_Par_readStatement_41 rfl (lv_at hl 0 rfl) ?_
      refine va_getsN (pc := 42) (host := "LineAssembler") hx hb C.2.2.2.za hW.2.2 hown (va_Nw.use rfl (C.2.2.2.w _ ex_m9)) (fun _ h => h) dC_Par_readStatement_42 ?_
      refine va_tlen (pc := 45) (v := nI ex_nO) hx hb C.2.2.2.ta hW.2.2 rfl dC_Par_readStatement_45 ?_
      refine lv_icmp_lt (pc := 46) (tgt := 51) hx hb dC_Par_readStatement_46 (by decide) (fun hc => ?_) (fun hc => ?_)
      · replace hM := it_t hc hM
        refine va_getsN (pc := 51) (host := "LineAssembler") hx hb C.2.2.2.za hW.2.2 hown (va_Nw.use rfl (C.2.2.2.w _ ex_m9)) (fun _ h => h) dC_Par_readStatement_51 ?_
        refine lv_iload_n (pc := 54) hx hb dC_Par_readStatement_54 rfl (lv_at hl 0 rfl) ?_
        obtain ⟨hg4, hM⟩ := gd_some hM
        refine vb_tq (pc := 55) hx hb C.2.2.2.ta hW.2.2 (inB_in hg4) rfl dC_Par_readStatement_55 ?_
        refine lv_astore_n (pc := 56) (lv' := [(3, .ref (oP (zz o) ((r3 - (1 : Int32)).toNatClampNeg))), (2, .int (r3 - (1 : Int32))), (1, .int r2), (0, .ref (o 112))]) hx hb dC_Par_readStatement_56 rfl hl (by decide) rfl (fun ls hl => ?_)
        refine lv_aload_n (pc := 57) hx hb dC_Par_readStatement_57 rfl (lv_at hl 3 rfl) ?_
        refine x_getC (pc := 58) C hW 0 rfl (ci := 8) rfl i_Par 1 (by decide) qc_512 rfl rfl dC_Par_readStatement_58 ?_
        refine lv_iconst (pc := 61) (v := 1) hx hb dC_Par_readStatement_61 (by decide) ?_
        obtain ⟨r5, u6, hr5, hM⟩ := cl_some hM
        refine x_callC (pc := 62) (n' := 41) C hW (kC_Tok_skip l D dA (zz o) o b  (1 : Int32) sT hr5) [30, 31, 32, 33, 0, 1, 2, 3, 4, 5, 6, 7, 8, 9, 10, 11, 12, 13, 14, 15, 16, 17, 18, 19, 20, 21, 22, 23, 24, 25, 26, 27, 28, 29, 34, 35, 36, 37, 38, 39, 40] rfl (by decide +kernel) rfl (ci := 3) rfl (q0 := 30) rfl gC_Par_53 ⟨rfl, by decide, by decide, by decide +kernel⟩ ⟨Nat.le_of_ble_eq_true rfl, Nat.le_of_ble_eq_true rfl⟩ ⟨show _ + 0 ≤ DC by omega, show _ + 0 ≤ DS by omega⟩ (As := [.int (1 : Int32)]) (n := 1) rfl hl.1 rfl (Nat.le_of_ble_eq_true rfl) dC_Par_readStatement_62 (fun Wc' ov H locs hPo hWn => ?_)
        obtain ⟨rfl, rfl⟩ := hPo
        have hW := hWn (w_Par dA o b i sR sF sN u6 sP sI) rfl rfl
        refine lv_aload_n (pc := 65) hx hb dC_Par_readStatement_65 rfl (lv_at hl 3 rfl) ?_
        refine x_getC (pc := 66) C hW 0 rfl (ci := 8) rfl i_Par 2 (by decide) qc_513 rfl rfl dC_Par_readStatement_66 ?_
        refine lv_aload_n (pc := 69) hx hb dC_Par_readStatement_69 rfl (lv_at hl 3 rfl) ?_
        refine x_getC (pc := 70) C hW 0 rfl (ci := 8) rfl i_Par 2 (by decide) qc_513 rfl rfl dC_Par_readStatement_70 ?_
        refine x_getC (pc := 73) C hW 34 rfl (ci := 5) rfl i_Prg 2 (by decide) qc_392 rfl rfl dC_Par_readStatement_73 ?_
        refine x_putC (pc := 76) (ty := .int) (Ws' := (w_Par dA o b i sR sF sN u6 (cF sP 6 (sP.1 1)) sI)) C hW 34 rfl (ci := 5) rfl i_Prg tok_Prg n_Prg 7 (by decide) qc_402 rfl rfl (by decide +kernel) rfl rfl (Nat.le_of_ble_eq_true rfl) rfl dC_Par_readStatement_76 (fun H locs hW => ?_)
        obtain ⟨sP7, esP7, hM⟩ := bnd_some hM
        rw [← esP7] at hW
        refine lv_aload_n (pc := 79) hx hb dC_Par_readStatement_79 rfl (lv_at hl 0 rfl) ?_
        obtain ⟨hg8, hM⟩ := gd_some hM
        refine vk_getf (pc := 80) hx hb (ex_op_role C.2.2.2 (of_decide_eq_true hg8)) hW.2.2 hown (hT _ qc_2197) (fun _ h => h) dC_Par_readStatement_80 ?_
        by_cases k9_0 : (ex_role.getD ((r3 - (1 : Int32)).toNatClampNeg) 0) = (1 : Int32)
        · replace hM := it_t k9_0 hM
          refine lv_tableIn (pc := 83) (off := 53) (tgt := 136) hx hb dC_Par_readStatement_83 (by rw [k9_0]; decide) (by rw [k9_0]; decide) (by rw [k9_0]; decide) (by decide) ?_
          exact bC_Par_readStatement_136 N  C  _ _ _ _ _ _ _ _ _ _ _ hM (by omega) (by omega) _ _ _ _ hW _ (lv_sub hl [3, 0] rfl)
        · replace hM := it_f k9_0 hM
          by_cases k9_1 : (ex_role.getD ((r3 - (1 : Int32)).toNatClampNeg) 0) = (2 : Int32)
          · replace hM := it_t k9_1 hM
            refine lv_tableIn (pc := 83) (off := 53) (tgt := 136) hx hb dC_Par_readStatement_83 (by rw [k9_1]; decide) (by rw [k9_1]; decide) (by rw [k9_1]; decide) (by decide) ?_
            exact bC_Par_readStatement_136 N  C  _ _ _ _ _ _ _ _ _ _ _ hM (by omega) (by omega) _ _ _ _ hW _ (lv_sub hl [3, 0] rfl)
          · replace hM := it_f k9_1 hM
            by_cases k9_2 : (ex_role.getD ((r3 - (1 : Int32)).toNatClampNeg) 0) = (3 : Int32)
            · replace hM := it_t k9_2 hM
              refine lv_tableIn (pc := 83) (off := 75) (tgt := 158) hx hb dC_Par_readStatement_83 (by rw [k9_2]; decide) (by rw [k9_2]; decide) (by rw [k9_2]; decide) (by decide) ?_
              refine lv_aload_n (pc := 158) hx hb dC_Par_readStatement_158 rfl (lv_at hl 3 rfl) ?_
              obtain ⟨r10, u11, da12, ea13, db14, eb15, hr10, hM, hqda12, hpda12⟩ := ct_some hM
              refine x_callC (pc := 159) (n' := 41) C hW (kC_Par_readEquate l D dA o b i N sR sF sN u6 sP7 sI hr10) [0, 1, 2, 3, 4, 5, 6, 7, 8, 9, 10, 11, 12, 13, 14, 15, 16, 17, 18, 19, 20, 21, 22, 23, 24, 25, 26, 27, 28, 29, 30, 31, 32, 33, 34, 35, 36, 37, 38, 39, 40] rfl (by decide +kernel) rfl (ci := 8) rfl (q0 := 0) rfl gC_Par_110 ⟨rfl, by decide, by decide, by decide +kernel⟩ ⟨Nat.le_of_ble_eq_true rfl, Nat.le_of_ble_eq_true rfl⟩ ⟨show _ + da12 ≤ DC by omega, show _ + ea13 ≤ DS by omega⟩ (As := []) (n := 0) rfl hl.1 rfl (Nat.le_of_ble_eq_true rfl) dC_Par_readStatement_159 (fun Wc' ov H locs hPo hWn => ?_)
              obtain ⟨b16, rfl, rfl⟩ := hPo
              have hW := hWn (w_Par dA o (mxs [1, 2, 4, 6] b16 b) i sR u11.1 u11.2.1 u11.2.2.1 u11.2.2.2 sI) rfl rfl
              generalize mxs [1, 2, 4, 6] b16 b = b at hW
              obtain ⟨rfl, rfl, rfl, rfl⟩ := sm_q hM
              exact x_retCi (pc := 162) C rfl hW ⟨_, _, rfl, rfl⟩ (by omega) (by omega) dC_Par_readStatement_162
            · replace hM := it_f k9_2 hM
              by_cases k9_3 : (ex_role.getD ((r3 - (1 : Int32)).toNatClampNeg) 0) = (4 : Int32)
              · replace hM := it_t k9_3 hM
                refine lv_tableIn (pc := 83) (off := 80) (tgt := 163) hx hb dC_Par_readStatement_83 (by rw [k9_3]; decide) (by rw [k9_3]; decide) (by rw [k9_3]; decide) (by decide) ?_
                refine lv_aload_n (pc := 163) hx hb dC_Par_readStatement_163 rfl (lv_at hl 3 rfl) ?_
                refine lv_aload_n (pc := 164) hx hb dC_Par_readStatement_164 rfl (lv_at hl 0 rfl) ?_
                obtain ⟨hg17, hM⟩ := gd_some hM
                refine vk_getf (pc := 165) hx hb (ex_op_word C.2.2.2 (of_decide_eq_true hg17)) hW.2.2 hown (hT _ qc_2198) (fun _ h => h) dC_Par_readStatement_165 ?_
                obtain ⟨r18, u19, da20, ea21, db22, eb23, hr18, hM, hqda20, hpda20⟩ := ct_some hM
                refine x_callC (pc := 168) (n' := 41) C hW (kC_Par_readNumbers l D dA o b i N (ex_word.getD ((r3 - (1 : Int32)).toNatClampNeg) 0) sR sF sN u6 sP7 sI hr18) [0, 1, 2, 3, 4, 5, 6, 7, 8, 9, 10, 11, 12, 13, 14, 15, 16, 17, 18, 19, 20, 21, 22, 23, 24, 25, 26, 27, 28, 29, 30, 31, 32, 33, 34, 35, 36, 37, 38, 39, 40] rfl (by decide +kernel) rfl (ci := 8) rfl (q0 := 0) rfl gC_Par_116 ⟨rfl, by decide, by decide, by decide +kernel⟩ ⟨Nat.le_of_ble_eq_true rfl, Nat.le_of_ble_eq_true rfl⟩ ⟨show _ + da20 ≤ DC by omega, show _ + ea21 ≤ DS by omega⟩ (As := [.int (ex_word.getD ((r3 - (1 : Int32)).toNatClampNeg) 0)]) (n := 1) rfl hl.1 rfl (Nat.le_of_ble_eq_true rfl) dC_Par_readStatement_168 (fun Wc' ov H locs hPo hWn => ?_)
                obtain ⟨b24, i, rfl, rfl⟩ := hPo
                have hW := hWn (w_Par dA o (mxs [1, 2, 4, 6] b24 b) i sR u19.1 sN u19.2.1 u19.2.2.1 u19.2.2.2) rfl rfl
                generalize mxs [1, 2, 4, 6] b24 b = b at hW
                obtain ⟨rfl, rfl, rfl, rfl⟩ := sm_q hM
                exact x_retCi (pc := 171) C rfl hW ⟨_, _, rfl, rfl⟩ (by omega) (by omega) dC_Par_readStatement_171
              · replace hM := it_f k9_3 hM
                by_cases k9_4 : (ex_role.getD ((r3 - (1 : Int32)).toNatClampNeg) 0) = (5 : Int32)
                · replace hM := it_t k9_4 hM
                  refine lv_tableIn (pc := 83) (off := 89) (tgt := 172) hx hb dC_Par_readStatement_83 (by rw [k9_4]; decide) (by rw [k9_4]; decide) (by rw [k9_4]; decide) (by decide) ?_
                  refine lv_aload_n (pc := 172) hx hb dC_Par_readStatement_172 rfl (lv_at hl 3 rfl) ?_
                  refine lv_aload_n (pc := 173) hx hb dC_Par_readStatement_173 rfl (lv_at hl 0 rfl) ?_
                  obtain ⟨hg25, hM⟩ := gd_some hM
                  refine vk_getf (pc := 174) hx hb (ex_op_word C.2.2.2 (of_decide_eq_true hg25)) hW.2.2 hown (hT _ qc_2198) (fun _ h => h) dC_Par_readStatement_174 ?_
                  obtain ⟨r26, u27, da28, ea29, db30, eb31, hr26, hM, hqda28, hpda28⟩ := ct_some hM
                  refine x_callC (pc := 177) (n' := 41) C hW (kC_Par_readStrings l D dA o b i N (ex_word.getD ((r3 - (1 : Int32)).toNatClampNeg) 0) sR sF sN u6 sP7 sI hr26) [0, 1, 2, 3, 4, 5, 6, 7, 8, 9, 10, 11, 12, 13, 14, 15, 16, 17, 18, 19, 20, 21, 22, 23, 24, 25, 26, 27, 28, 29, 30, 31, 32, 33, 34, 35, 36, 37, 38, 39, 40] rfl (by decide +kernel) rfl (ci := 8) rfl (q0 := 0) rfl gC_Par_119 ⟨rfl, by decide, by decide, by decide +kernel⟩ ⟨Nat.le_of_ble_eq_true rfl, Nat.le_of_ble_eq_true rfl⟩ ⟨show _ + da28 ≤ DC by omega, show _ + ea29 ≤ DS by omega⟩ (As := [.int (ex_word.getD ((r3 - (1 : Int32)).toNatClampNeg) 0)]) (n := 1) rfl hl.1 rfl (Nat.le_of_ble_eq_true rfl) dC_Par_readStatement_177 (fun Wc' ov H locs hPo hWn => ?_)
                  obtain ⟨b32, i, rfl, rfl⟩ := hPo
                  have hW := hWn (w_Par dA o (mxs [1, 2, 4, 6] b32 b) i sR sF sN u27.1 u27.2.1 u27.2.2) rfl rfl
                  generalize mxs [1, 2, 4, 6] b32 b = b at hW
                  obtain ⟨rfl, rfl, rfl, rfl⟩ := sm_q hM
                  exact x_retCi (pc := 180) C rfl hW ⟨_, _, rfl, rfl⟩ (by omega) (by omega) dC_Par_readStatement_180
                · replace hM := it_f k9_4 hM
                  by_cases k9_5 : (ex_role.getD ((r3 - (1 : Int32)).toNatClampNeg) 0) = (6 : Int32)
                  · replace hM := it_t k9_5 hM
                    refine lv_tableIn (pc := 83) (off := 98) (tgt := 181) hx hb dC_Par_readStatement_83 (by rw [k9_5]; decide) (by rw [k9_5]; decide) (by rw [k9_5]; decide) (by decide) ?_
                    refine lv_aload_n (pc := 181) hx hb dC_Par_readStatement_181 rfl (lv_at hl 3 rfl) ?_
                    obtain ⟨r33, u34, da35, ea36, db37, eb38, hr33, hM, hqda35, hpda35⟩ := ct_some hM
                    refine x_callC (pc := 182) (n' := 41) C hW (kC_Par_readSpace l D dA o b i N sR sF sN u6 sP7 sI hr33) [0, 1, 2, 3, 4, 5, 6, 7, 8, 9, 10, 11, 12, 13, 14, 15, 16, 17, 18, 19, 20, 21, 22, 23, 24, 25, 26, 27, 28, 29, 30, 31, 32, 33, 34, 35, 36, 37, 38, 39, 40] rfl (by decide +kernel) rfl (ci := 8) rfl (q0 := 0) rfl gC_Par_122 ⟨rfl, by decide, by decide, by decide +kernel⟩ ⟨Nat.le_of_ble_eq_true rfl, Nat.le_of_ble_eq_true rfl⟩ ⟨show _ + da35 ≤ DC by omega, show _ + ea36 ≤ DS by omega⟩ (As := []) (n := 0) rfl hl.1 rfl (Nat.le_of_ble_eq_true rfl) dC_Par_readStatement_182 (fun Wc' ov H locs hPo hWn => ?_)
                    obtain ⟨b39, i, rfl, rfl⟩ := hPo
                    have hW := hWn (w_Par dA o (mxs [1, 2, 4, 6] b39 b) i sR u34.1 sN u34.2.1 u34.2.2.1 u34.2.2.2) rfl rfl
                    generalize mxs [1, 2, 4, 6] b39 b = b at hW
                    obtain ⟨rfl, rfl, rfl, rfl⟩ := sm_q hM
                    exact x_retCi (pc := 185) C rfl hW ⟨_, _, rfl, rfl⟩ (by omega) (by omega) dC_Par_readStatement_185
                  · replace hM := it_f k9_5 hM
                    by_cases k9_6 : (ex_role.getD ((r3 - (1 : Int32)).toNatClampNeg) 0) = (7 : Int32)
                    · replace hM := it_t k9_6 hM
                      refine lv_tableIn (pc := 83) (off := 103) (tgt := 186) hx hb dC_Par_readStatement_83 (by rw [k9_6]; decide) (by rw [k9_6]; decide) (by rw [k9_6]; decide) (by decide) ?_
                      refine lv_aload_n (pc := 186) hx hb dC_Par_readStatement_186 rfl (lv_at hl 3 rfl) ?_
                      obtain ⟨r40, u41, da42, ea43, db44, eb45, hr40, hM, hqda42, hpda42⟩ := ct_some hM
                      refine x_callC (pc := 187) (n' := 41) C hW (kC_Par_readAlign l D dA o b i N sR sF sN u6 sP7 sI hr40) [0, 1, 2, 3, 4, 5, 6, 7, 8, 9, 10, 11, 12, 13, 14, 15, 16, 17, 18, 19, 20, 21, 22, 23, 24, 25, 26, 27, 28, 29, 30, 31, 32, 33, 34, 35, 36, 37, 38, 39, 40] rfl (by decide +kernel) rfl (ci := 8) rfl (q0 := 0) rfl gC_Par_125 ⟨rfl, by decide, by decide, by decide +kernel⟩ ⟨Nat.le_of_ble_eq_true rfl, Nat.le_of_ble_eq_true rfl⟩ ⟨show _ + da42 ≤ DC by omega, show _ + ea43 ≤ DS by omega⟩ (As := []) (n := 0) rfl hl.1 rfl (Nat.le_of_ble_eq_true rfl) dC_Par_readStatement_187 (fun Wc' ov H locs hPo hWn => ?_)
                      obtain ⟨b46, i, rfl, rfl⟩ := hPo
                      have hW := hWn (w_Par dA o (mxs [1, 2, 4, 6] b46 b) i sR u41.1 sN u41.2.1 u41.2.2.1 u41.2.2.2) rfl rfl
                      generalize mxs [1, 2, 4, 6] b46 b = b at hW
                      obtain ⟨rfl, rfl, rfl, rfl⟩ := sm_q hM
                      exact x_retCi (pc := 190) C rfl hW ⟨_, _, rfl, rfl⟩ (by omega) (by omega) dC_Par_readStatement_190
                    · replace hM := it_f k9_6 hM
                      by_cases k9_7 : (ex_role.getD ((r3 - (1 : Int32)).toNatClampNeg) 0) = (8 : Int32)
                      · replace hM := it_t k9_7 hM
                        refine lv_tableIn (pc := 83) (off := 108) (tgt := 191) hx hb dC_Par_readStatement_83 (by rw [k9_7]; decide) (by rw [k9_7]; decide) (by rw [k9_7]; decide) (by decide) ?_
                        refine lv_aload_n (pc := 191) hx hb dC_Par_readStatement_191 rfl (lv_at hl 3 rfl) ?_
                        obtain ⟨r47, u48, da49, ea50, db51, eb52, hr47, hM, hqda49, hpda49⟩ := ct_some hM
                        refine x_callC (pc := 192) (n' := 41) C hW (kC_Par_readLoad l D dA o b i N sR sF sN u6 sP7 sI hr47) [0, 1, 2, 3, 4, 5, 6, 7, 8, 9, 10, 11, 12, 13, 14, 15, 16, 17, 18, 19, 20, 21, 22, 23, 24, 25, 26, 27, 28, 29, 30, 31, 32, 33, 34, 35, 36, 37, 38, 39, 40] rfl (by decide +kernel) rfl (ci := 8) rfl (q0 := 0) rfl gC_Par_128 ⟨rfl, by decide, by decide, by decide +kernel⟩ ⟨Nat.le_of_ble_eq_true rfl, Nat.le_of_ble_eq_true rfl⟩ ⟨show _ + da49 ≤ DC by omega, show _ + ea50 ≤ DS by omega⟩ (As := []) (n := 0) rfl hl.1 rfl (Nat.le_of_ble_eq_true rfl) dC_Par_readStatement_192 (fun Wc' ov H locs hPo hWn => ?_)
                        obtain ⟨b53, i, rfl, rfl⟩ := hPo
                        have hW := hWn (w_Par dA o (mxs [1, 2, 4, 6] b53 b) i sR u48.1 sN u48.2.1 u48.2.2.1 u48.2.2.2) rfl rfl
                        generalize mxs [1, 2, 4, 6] b53 b = b at hW
                        obtain ⟨rfl, rfl, rfl, rfl⟩ := sm_q hM
                        exact x_retCi (pc := 195) C rfl hW ⟨_, _, rfl, rfl⟩ (by omega) (by omega) dC_Par_readStatement_195
                      · replace hM := it_f k9_7 hM
                        by_cases k9_8 : (ex_role.getD ((r3 - (1 : Int32)).toNatClampNeg) 0) = (9 : Int32)
                        · replace hM := it_t k9_8 hM
                          refine lv_tableIn (pc := 83) (off := 113) (tgt := 196) hx hb dC_Par_readStatement_83 (by rw [k9_8]; decide) (by rw [k9_8]; decide) (by rw [k9_8]; decide) (by decide) ?_
                          refine lv_aload_n (pc := 196) hx hb dC_Par_readStatement_196 rfl (lv_at hl 3 rfl) ?_
                          obtain ⟨r54, hr54, hM⟩ := cr_some hM
                          refine x_callQ (pc := 197) (n' := 41) (ov := some (.int r54)) C hW (kC_Par_isRegister l D dA o b i  sR sF sN u6 sP7 sI hr54) [0, 1, 2, 3, 4, 5, 6, 7, 8, 9, 10, 11, 12, 13, 14, 15, 16, 17, 18, 19, 20, 21, 22, 23, 24, 25, 26, 27, 28, 29, 30, 31, 32, 33, 34, 35, 36, 37, 38, 39, 40] rfl (by decide +kernel) rfl (ci := 8) rfl (q0 := 0) rfl gC_Par_131 ⟨rfl, by decide, by decide, by decide +kernel⟩ ⟨Nat.le_of_ble_eq_true rfl, Nat.le_of_ble_eq_true rfl⟩ ⟨show _ ≤ DC by omega, show _ ≤ DS by omega⟩ (As := []) (n := 0) rfl hl.1 rfl (Nat.le_of_ble_eq_true rfl) dC_Par_readStatement_197 ?_
                          refine lv_if_eq (pc := 200) (tgt := 216) hx hb dC_Par_readStatement_200 (by decide) (fun hc => ?_) (fun hc => ?_)
                          · replace hM := it_t hc hM
                            refine lv_aload_n (pc := 216) hx hb dC_Par_readStatement_216 rfl (lv_at hl 3 rfl) ?_
                            refine va_ldcS (pc := 217) hx hb hown (ex_R (r := ("LineAssembler$Parser", 140, "x")) C.2.2.2 17 rfl) dC_Par_readStatement_217 ?_
                            refine lv_aload_n (pc := 219) hx hb dC_Par_readStatement_219 rfl (lv_at hl 0 rfl) ?_
                            obtain ⟨hg55, hM⟩ := gd_some hM
                            refine vk_getf (pc := 220) hx hb (ex_op_word C.2.2.2 (of_decide_eq_true hg55)) hW.2.2 hown (hT _ qc_2198) (fun _ h => h) dC_Par_readStatement_220 ?_
                            refine lv_sipush (pc := 223) (v := 128) hx hb dC_Par_readStatement_223 (by decide) ?_
                            refine lv_ior (pc := 226) hx hb dC_Par_readStatement_226 ?_
                            obtain ⟨r56, u57, da58, ea59, db60, eb61, hr56, hM, hqda58, hpda58⟩ := ct_some hM
                            refine x_callC (pc := 227) (n' := 41) C hW (kC_Par_readShape l D dA o b i N 17 ((ex_word.getD ((r3 - (1 : Int32)).toNatClampNeg) 0) ||| (128 : Int32)) sR sF sN u6 sP7 sI hr56) [0, 1, 2, 3, 4, 5, 6, 7, 8, 9, 10, 11, 12, 13, 14, 15, 16, 17, 18, 19, 20, 21, 22, 23, 24, 25, 26, 27, 28, 29, 30, 31, 32, 33, 34, 35, 36, 37, 38, 39, 40] rfl (by decide +kernel) rfl (ci := 8) rfl (q0 := 0) rfl gC_Par_136 ⟨rfl, by decide, by decide, by decide +kernel⟩ ⟨Nat.le_of_ble_eq_true rfl, Nat.le_of_ble_eq_true rfl⟩ ⟨show _ + da58 ≤ DC by omega, show _ + ea59 ≤ DS by omega⟩ (As := [.ref (sK (zz o) 17), .int ((ex_word.getD ((r3 - (1 : Int32)).toNatClampNeg) 0) ||| (128 : Int32))]) (n := 2) rfl hl.1 rfl (Nat.le_of_ble_eq_true rfl) dC_Par_readStatement_227 (fun Wc' ov H locs hPo hWn => ?_)
                            obtain ⟨b62, i, rfl, rfl⟩ := hPo
                            have hW := hWn (w_Par dA o (mxs [1, 2, 4, 6] b62 b) i sR u57.1 sN u57.2.1 u57.2.2.1 u57.2.2.2) rfl rfl
                            generalize mxs [1, 2, 4, 6] b62 b = b at hW
                            exact bC_Par_readStatement_230 N  C  _ _ _ _ _ _ _ _ _ _ _ hM (by omega) (by omega) _ _ _ _ hW _ (lv_sub hl [] rfl)
                          · replace hM := it_f hc hM
                            refine lv_aload_n (pc := 203) hx hb dC_Par_readStatement_203 rfl (lv_at hl 3 rfl) ?_
                            refine va_ldcS (pc := 204) hx hb hown (ex_R (r := ("LineAssembler$Parser", 134, "d,j")) C.2.2.2 15 rfl) dC_Par_readStatement_204 ?_
                            refine lv_aload_n (pc := 206) hx hb dC_Par_readStatement_206 rfl (lv_at hl 0 rfl) ?_
                            obtain ⟨hg63, hM⟩ := gd_some hM
                            refine vk_getf (pc := 207) hx hb (ex_op_word C.2.2.2 (of_decide_eq_true hg63)) hW.2.2 hown (hT _ qc_2198) (fun _ h => h) dC_Par_readStatement_207 ?_
                            obtain ⟨r64, u65, da66, ea67, db68, eb69, hr64, hM, hqda66, hpda66⟩ := ct_some hM
                            refine x_callC (pc := 210) (n' := 41) C hW (kC_Par_readShape l D dA o b i N 15 (ex_word.getD ((r3 - (1 : Int32)).toNatClampNeg) 0) sR sF sN u6 sP7 sI hr64) [0, 1, 2, 3, 4, 5, 6, 7, 8, 9, 10, 11, 12, 13, 14, 15, 16, 17, 18, 19, 20, 21, 22, 23, 24, 25, 26, 27, 28, 29, 30, 31, 32, 33, 34, 35, 36, 37, 38, 39, 40] rfl (by decide +kernel) rfl (ci := 8) rfl (q0 := 0) rfl gC_Par_136 ⟨rfl, by decide, by decide, by decide +kernel⟩ ⟨Nat.le_of_ble_eq_true rfl, Nat.le_of_ble_eq_true rfl⟩ ⟨show _ + da66 ≤ DC by omega, show _ + ea67 ≤ DS by omega⟩ (As := [.ref (sK (zz o) 15), .int (ex_word.getD ((r3 - (1 : Int32)).toNatClampNeg) 0)]) (n := 2) rfl hl.1 rfl (Nat.le_of_ble_eq_true rfl) dC_Par_readStatement_210 (fun Wc' ov H locs hPo hWn => ?_)
                            obtain ⟨b70, i, rfl, rfl⟩ := hPo
                            have hW := hWn (w_Par dA o (mxs [1, 2, 4, 6] b70 b) i sR u65.1 sN u65.2.1 u65.2.2.1 u65.2.2.2) rfl rfl
                            generalize mxs [1, 2, 4, 6] b70 b = b at hW
                            refine lv_goto (pc := 213) (tgt := 230) hx hb dC_Par_readStatement_213 (by decide) ?_
                            exact bC_Par_readStatement_230 N  C  _ _ _ _ _ _ _ _ _ _ _ hM (by omega) (by omega) _ _ _ _ hW _ (lv_sub hl [] rfl)
                        · replace hM := it_f k9_8 hM
                          by_cases k9_9 : (ex_role.getD ((r3 - (1 : Int32)).toNatClampNeg) 0) = (10 : Int32)
                          · replace hM := it_t k9_9 hM
                            refine lv_tableIn (pc := 83) (off := 148) (tgt := 231) hx hb dC_Par_readStatement_83 (by rw [k9_9]; decide) (by rw [k9_9]; decide) (by rw [k9_9]; decide) (by decide) ?_
                            refine lv_aload_n (pc := 231) hx hb dC_Par_readStatement_231 rfl (lv_at hl 3 rfl) ?_
                            refine x_getC (pc := 232) C hW 0 rfl (ci := 8) rfl i_Par 1 (by decide) qc_512 rfl rfl dC_Par_readStatement_232 ?_
                            refine lv_iconst (pc := 235) (v := 1) hx hb dC_Par_readStatement_235 (by decide) ?_
                            obtain ⟨r71, hr71, hM⟩ := cr_some hM
                            refine x_callQ (pc := 236) (n' := 41) (ov := some (.int r71)) C hW (kC_Tok_kind l D dA (zz o) o b  (1 : Int32) u6 hr71) [30, 31, 32, 33, 0, 1, 2, 3, 4, 5, 6, 7, 8, 9, 10, 11, 12, 13, 14, 15, 16, 17, 18, 19, 20, 21, 22, 23, 24, 25, 26, 27, 28, 29, 34, 35, 36, 37, 38, 39, 40] rfl (by decide +kernel) rfl (ci := 3) rfl (q0 := 30) rfl gC_Par_46 ⟨rfl, by decide, by decide, by decide +kernel⟩ ⟨Nat.le_of_ble_eq_true rfl, Nat.le_of_ble_eq_true rfl⟩ ⟨show _ ≤ DC by omega, show _ ≤ DS by omega⟩ (As := [.int (1 : Int32)]) (n := 1) rfl hl.1 rfl (Nat.le_of_ble_eq_true rfl) dC_Par_readStatement_236 ?_
                            refine lv_if_ne (pc := 239) (tgt := 259) hx hb dC_Par_readStatement_239 (by decide) (fun hc => ?_) (fun hc => ?_)
                            · replace hM := it_f hc hM
                              refine lv_aload_n (pc := 259) hx hb dC_Par_readStatement_259 rfl (lv_at hl 3 rfl) ?_
                              refine va_ldcS (pc := 260) hx hb hown (ex_R (r := ("LineAssembler$Parser", 144, "d,i(a)")) C.2.2.2 19 rfl) dC_Par_readStatement_260 ?_
                              refine lv_aload_n (pc := 262) hx hb dC_Par_readStatement_262 rfl (lv_at hl 0 rfl) ?_
                              obtain ⟨hg72, hM⟩ := gd_some hM
                              refine vk_getf (pc := 263) hx hb (ex_op_word C.2.2.2 (of_decide_eq_true hg72)) hW.2.2 hown (hT _ qc_2198) (fun _ h => h) dC_Par_readStatement_263 ?_
                              obtain ⟨r73, u74, da75, ea76, db77, eb78, hr73, hM, hqda75, hpda75⟩ := ct_some hM
                              refine x_callC (pc := 266) (n' := 41) C hW (kC_Par_readShape l D dA o b i N 19 (ex_word.getD ((r3 - (1 : Int32)).toNatClampNeg) 0) sR sF sN u6 sP7 sI hr73) [0, 1, 2, 3, 4, 5, 6, 7, 8, 9, 10, 11, 12, 13, 14, 15, 16, 17, 18, 19, 20, 21, 22, 23, 24, 25, 26, 27, 28, 29, 30, 31, 32, 33, 34, 35, 36, 37, 38, 39, 40] rfl (by decide +kernel) rfl (ci := 8) rfl (q0 := 0) rfl gC_Par_136 ⟨rfl, by decide, by decide, by decide +kernel⟩ ⟨Nat.le_of_ble_eq_true rfl, Nat.le_of_ble_eq_true rfl⟩ ⟨show _ + da75 ≤ DC by omega, show _ + ea76 ≤ DS by omega⟩ (As := [.ref (sK (zz o) 19), .int (ex_word.getD ((r3 - (1 : Int32)).toNatClampNeg) 0)]) (n := 2) rfl hl.1 rfl (Nat.le_of_ble_eq_true rfl) dC_Par_readStatement_266 (fun Wc' ov H locs hPo hWn => ?_)
                              obtain ⟨b79, i, rfl, rfl⟩ := hPo
                              have hW := hWn (w_Par dA o (mxs [1, 2, 4, 6] b79 b) i sR u74.1 sN u74.2.1 u74.2.2.1 u74.2.2.2) rfl rfl
                              generalize mxs [1, 2, 4, 6] b79 b = b at hW
                              exact bC_Par_readStatement_269 N  C  _ _ _ _ _ _ _ _ _ _ _ hM (by omega) (by omega) _ _ _ _ hW _ (lv_sub hl [] rfl)
                            · replace hM := it_t hc hM
                              refine lv_aload_n (pc := 242) hx hb dC_Par_readStatement_242 rfl (lv_at hl 3 rfl) ?_
                              refine va_ldcS (pc := 243) hx hb hown (ex_R (r := ("LineAssembler$Parser", 142, "a")) C.2.2.2 18 rfl) dC_Par_readStatement_243 ?_
                              refine lv_aload_n (pc := 245) hx hb dC_Par_readStatement_245 rfl (lv_at hl 0 rfl) ?_
                              obtain ⟨hg80, hM⟩ := gd_some hM
                              refine vk_getf (pc := 246) hx hb (ex_op_word C.2.2.2 (of_decide_eq_true hg80)) hW.2.2 hown (hT _ qc_2198) (fun _ h => h) dC_Par_readStatement_246 ?_
                              refine lv_sipush (pc := 249) (v := 128) hx hb dC_Par_readStatement_249 (by decide) ?_
                              refine lv_ior (pc := 252) hx hb dC_Par_readStatement_252 ?_
                              obtain ⟨r81, u82, da83, ea84, db85, eb86, hr81, hM, hqda83, hpda83⟩ := ct_some hM
                              refine x_callC (pc := 253) (n' := 41) C hW (kC_Par_readShape l D dA o b i N 18 ((ex_word.getD ((r3 - (1 : Int32)).toNatClampNeg) 0) ||| (128 : Int32)) sR sF sN u6 sP7 sI hr81) [0, 1, 2, 3, 4, 5, 6, 7, 8, 9, 10, 11, 12, 13, 14, 15, 16, 17, 18, 19, 20, 21, 22, 23, 24, 25, 26, 27, 28, 29, 30, 31, 32, 33, 34, 35, 36, 37, 38, 39, 40] rfl (by decide +kernel) rfl (ci := 8) rfl (q0 := 0) rfl gC_Par_136 ⟨rfl, by decide, by decide, by decide +kernel⟩ ⟨Nat.le_of_ble_eq_true rfl, Nat.le_of_ble_eq_true rfl⟩ ⟨show _ + da83 ≤ DC by omega, show _ + ea84 ≤ DS by omega⟩ (As := [.ref (sK (zz o) 18), .int ((ex_word.getD ((r3 - (1 : Int32)).toNatClampNeg) 0) ||| (128 : Int32))]) (n := 2) rfl hl.1 rfl (Nat.le_of_ble_eq_true rfl) dC_Par_readStatement_253 (fun Wc' ov H locs hPo hWn => ?_)
                              obtain ⟨b87, i, rfl, rfl⟩ := hPo
                              have hW := hWn (w_Par dA o (mxs [1, 2, 4, 6] b87 b) i sR u82.1 sN u82.2.1 u82.2.2.1 u82.2.2.2) rfl rfl
                              generalize mxs [1, 2, 4, 6] b87 b = b at hW
                              refine lv_goto (pc := 256) (tgt := 269) hx hb dC_Par_readStatement_256 (by decide) ?_
                              exact bC_Par_readStatement_269 N  C  _ _ _ _ _ _ _ _ _ _ _ hM (by omega) (by omega) _ _ _ _ hW _ (lv_sub hl [] rfl)
                          · replace hM := it_f k9_9 hM
                            by_cases k9_o : (ex_role.getD ((r3 - (1 : Int32)).toNatClampNeg) 0).toInt < 1 ∨ 10 < (ex_role.getD ((r3 - (1 : Int32)).toNatClampNeg) 0).toInt
                            · refine lv_tableOut (pc := 83) (tgt := 270) hx hb dC_Par_readStatement_83 k9_o (by decide) ?_
                              refine lv_aload_n (pc := 270) hx hb dC_Par_readStatement_270 rfl (lv_at hl 3 rfl) ?_
                              refine lv_aload_n (pc := 271) hx hb dC_Par_readStatement_271 rfl (lv_at hl 0 rfl) ?_
                              obtain ⟨hg98, hM⟩ := gd_some hM
                              refine vk_getf (pc := 272) hx hb (ex_op_shape C.2.2.2 (of_decide_eq_true hg98)) hW.2.2 hown (hT _ qc_2199) (fun _ h => h) dC_Par_readStatement_272 ?_
                              refine lv_aload_n (pc := 275) hx hb dC_Par_readStatement_275 rfl (lv_at hl 0 rfl) ?_
                              obtain ⟨hg99, hM⟩ := gd_some hM
                              refine vk_getf (pc := 276) hx hb (ex_op_word C.2.2.2 (of_decide_eq_true hg99)) hW.2.2 hown (hT _ qc_2198) (fun _ h => h) dC_Par_readStatement_276 ?_
                              refine lv_aload_n (pc := 279) hx hb dC_Par_readStatement_279 rfl (lv_at hl 3 rfl) ?_
                              refine x_getC (pc := 280) C hW 0 rfl (ci := 8) rfl i_Par 0 (by decide) qc_511 rfl rfl dC_Par_readStatement_280 ?_
                              refine x_getC (pc := 283) C hW 10 rfl (ci := 2) rfl i_Nam 4 (by decide) qc_224 rfl rfl dC_Par_readStatement_283 ?_
                              refine lv_iload_n (pc := 286) hx hb dC_Par_readStatement_286 rfl (lv_at hl 2 rfl) ?_
                              obtain ⟨r100, hr100, hM⟩ := cr_some hM
                              refine x_callQ (pc := 287) (n' := 41) (ov := some (.int r100)) C hW (kC_Row_get l D dA (zz o) (fun _ => o 21) (fun _ => b 21)  r2 (rg sN 4) hr100) [19, 20, 0, 1, 2, 3, 4, 5, 6, 7, 8, 9, 10, 11, 12, 13, 14, 15, 16, 17, 18, 21, 22, 23, 24, 25, 26, 27, 28, 29, 30, 31, 32, 33, 34, 35, 36, 37, 38, 39, 40] rfl (by decide +kernel) rfl (ci := 1) rfl (q0 := 19) rfl gC_Par_91 ⟨rfl, by decide, by decide, by decide +kernel⟩ ⟨Nat.le_of_ble_eq_true rfl, Nat.le_of_ble_eq_true rfl⟩ ⟨show _ ≤ DC by omega, show _ ≤ DS by omega⟩ (As := [.int r2]) (n := 1) rfl hl.1 rfl (Nat.le_of_ble_eq_true rfl) dC_Par_readStatement_287 ?_
                              refine lv_ior (pc := 290) hx hb dC_Par_readStatement_290 ?_
                              obtain ⟨r101, u102, da103, ea104, db105, eb106, hr101, hM, hqda103, hpda103⟩ := ct_some hM
                              refine x_callC (pc := 291) (n' := 41) C hW (kC_Par_readShape l D dA o b i N (ex_shape.getD ((r3 - (1 : Int32)).toNatClampNeg) 0) ((ex_word.getD ((r3 - (1 : Int32)).toNatClampNeg) 0) ||| r100) sR sF sN u6 sP7 sI hr101) [0, 1, 2, 3, 4, 5, 6, 7, 8, 9, 10, 11, 12, 13, 14, 15, 16, 17, 18, 19, 20, 21, 22, 23, 24, 25, 26, 27, 28, 29, 30, 31, 32, 33, 34, 35, 36, 37, 38, 39, 40] rfl (by decide +kernel) rfl (ci := 8) rfl (q0 := 0) rfl gC_Par_136 ⟨rfl, by decide, by decide, by decide +kernel⟩ ⟨Nat.le_of_ble_eq_true rfl, Nat.le_of_ble_eq_true rfl⟩ ⟨show _ + da103 ≤ DC by omega, show _ + ea104 ≤ DS by omega⟩ (As := [.ref (sK (zz o) (ex_shape.getD ((r3 - (1 : Int32)).toNatClampNeg) 0)), .int ((ex_word.getD ((r3 - (1 : Int32)).toNatClampNeg) 0) ||| r100)]) (n := 2) rfl hl.1 rfl (Nat.le_of_ble_eq_true rfl) dC_Par_readStatement_291 (fun Wc' ov H locs hPo hWn => ?_)
                              obtain ⟨b107, i, rfl, rfl⟩ := hPo
                              have hW := hWn (w_Par dA o (mxs [1, 2, 4, 6] b107 b) i sR u102.1 sN u102.2.1 u102.2.2.1 u102.2.2.2) rfl rfl
                              generalize mxs [1, 2, 4, 6] b107 b = b at hW
                              obtain ⟨rfl, rfl, rfl, rfl⟩ := sm_q hM
                              exact x_retCi (pc := 294) C rfl hW ⟨_, _, rfl, rfl⟩ (by omega) (by omega) dC_Par_readStatement_294
                            · refine lv_tableIn (pc := 83) (off := 187) (tgt := 270) hx hb dC_Par_readStatement_83 (fun z => k9_o (Or.inl z)) (fun z => k9_o (Or.inr z)) (lv_tdef 10 [(1 : Int32), (2 : Int32), (3 : Int32), (4 : Int32), (5 : Int32), (6 : Int32), (7 : Int32), (8 : Int32), (9 : Int32), (10 : Int32)] (fun z => k9_o (Or.inl z)) (fun z => k9_o (Or.inr z)) (List.forall_mem_cons.mpr ⟨k9_0, (List.forall_mem_cons.mpr ⟨k9_1, (List.forall_mem_cons.mpr ⟨k9_2, (List.forall_mem_cons.mpr ⟨k9_3, (List.forall_mem_cons.mpr ⟨k9_4, (List.forall_mem_cons.mpr ⟨k9_5, (List.forall_mem_cons.mpr ⟨k9_6, (List.forall_mem_cons.mpr ⟨k9_7, (List.forall_mem_cons.mpr ⟨k9_8, (List.forall_mem_cons.mpr ⟨k9_9, (fun _ h => by cases h)⟩)⟩)⟩)⟩)⟩)⟩)⟩)⟩)⟩)⟩) (by decide) (by decide +kernel)) (by decide) ?_
                              refine lv_aload_n (pc := 270) hx hb dC_Par_readStatement_270 rfl (lv_at hl 3 rfl) ?_
                              refine lv_aload_n (pc := 271) hx hb dC_Par_readStatement_271 rfl (lv_at hl 0 rfl) ?_
                              obtain ⟨hg98, hM⟩ := gd_some hM
                              refine vk_getf (pc := 272) hx hb (ex_op_shape C.2.2.2 (of_decide_eq_true hg98)) hW.2.2 hown (hT _ qc_2199) (fun _ h => h) dC_Par_readStatement_272 ?_
                              refine lv_aload_n (pc := 275) hx hb dC_Par_readStatement_275 rfl (lv_at hl 0 rfl) ?_
                              obtain ⟨hg99, hM⟩ := gd_some hM
                              refine vk_getf (pc := 276) hx hb (ex_op_word C.2.2.2 (of_decide_eq_true hg99)) hW.2.2 hown (hT _ qc_2198) (fun _ h => h) dC_Par_readStatement_276 ?_
                              refine lv_aload_n (pc := 279) hx hb dC_Par_readStatement_279 rfl (lv_at hl 3 rfl) ?_
                              refine x_getC (pc := 280) C hW 0 rfl (ci := 8) rfl i_Par 0 (by decide) qc_511 rfl rfl dC_Par_readStatement_280 ?_
                              refine x_getC (pc := 283) C hW 10 rfl (ci := 2) rfl i_Nam 4 (by decide) qc_224 rfl rfl dC_Par_readStatement_283 ?_
                              refine lv_iload_n (pc := 286) hx hb dC_Par_readStatement_286 rfl (lv_at hl 2 rfl) ?_
                              obtain ⟨r100, hr100, hM⟩ := cr_some hM
                              refine x_callQ (pc := 287) (n' := 41) (ov := some (.int r100)) C hW (kC_Row_get l D dA (zz o) (fun _ => o 21) (fun _ => b 21)  r2 (rg sN 4) hr100) [19, 20, 0, 1, 2, 3, 4, 5, 6, 7, 8, 9, 10, 11, 12, 13, 14, 15, 16, 17, 18, 21, 22, 23, 24, 25, 26, 27, 28, 29, 30, 31, 32, 33, 34, 35, 36, 37, 38, 39, 40] rfl (by decide +kernel) rfl (ci := 1) rfl (q0 := 19) rfl gC_Par_91 ⟨rfl, by decide, by decide, by decide +kernel⟩ ⟨Nat.le_of_ble_eq_true rfl, Nat.le_of_ble_eq_true rfl⟩ ⟨show _ ≤ DC by omega, show _ ≤ DS by omega⟩ (As := [.int r2]) (n := 1) rfl hl.1 rfl (Nat.le_of_ble_eq_true rfl) dC_Par_readStatement_287 ?_
                              refine lv_ior (pc := 290) hx hb dC_Par_readStatement_290 ?_
                              obtain ⟨r101, u102, da103, ea104, db105, eb106, hr101, hM, hqda103, hpda103⟩ := ct_some hM
                              refine x_callC (pc := 291) (n' := 41) C hW (kC_Par_readShape l D dA o b i N (ex_shape.getD ((r3 - (1 : Int32)).toNatClampNeg) 0) ((ex_word.getD ((r3 - (1 : Int32)).toNatClampNeg) 0) ||| r100) sR sF sN u6 sP7 sI hr101) [0, 1, 2, 3, 4, 5, 6, 7, 8, 9, 10, 11, 12, 13, 14, 15, 16, 17, 18, 19, 20, 21, 22, 23, 24, 25, 26, 27, 28, 29, 30, 31, 32, 33, 34, 35, 36, 37, 38, 39, 40] rfl (by decide +kernel) rfl (ci := 8) rfl (q0 := 0) rfl gC_Par_136 ⟨rfl, by decide, by decide, by decide +kernel⟩ ⟨Nat.le_of_ble_eq_true rfl, Nat.le_of_ble_eq_true rfl⟩ ⟨show _ + da103 ≤ DC by omega, show _ + ea104 ≤ DS by omega⟩ (As := [.ref (sK (zz o) (ex_shape.getD ((r3 - (1 : Int32)).toNatClampNeg) 0)), .int ((ex_word.getD ((r3 - (1 : Int32)).toNatClampNeg) 0) ||| r100)]) (n := 2) rfl hl.1 rfl (Nat.le_of_ble_eq_true rfl) dC_Par_readStatement_291 (fun Wc' ov H locs hPo hWn => ?_)
                              obtain ⟨b107, i, rfl, rfl⟩ := hPo
                              have hW := hWn (w_Par dA o (mxs [1, 2, 4, 6] b107 b) i sR u102.1 sN u102.2.1 u102.2.2.1 u102.2.2.2) rfl rfl
                              generalize mxs [1, 2, 4, 6] b107 b = b at hW
                              obtain ⟨rfl, rfl, rfl, rfl⟩ := sm_q hM
                              exact x_retCi (pc := 294) C rfl hW ⟨_, _, rfl, rfl⟩ (by omega) (by omega) dC_Par_readStatement_294
      · replace hM := it_f hc hM
        exact bC_Par_readStatement_49 N  C  _ _ _ _ _ _ _ _ _ _ hM (by omega) (by omega) _ _ _ _ hW _ (lv_sub hl [] rfl)
  · replace hM := it_f hc hM
    refine lv_iconst (pc := 12) (v := 1) hx hb dC_Par_readStatement_12 (by decide) ?_
    obtain ⟨rfl, rfl, rfl, rfl⟩ := sm_q hM
    exact x_retCi (pc := 13) C rfl hW ⟨_, _, rfl, rfl⟩ (by omega) (by omega) dC_Par_readStatement_13
theorem kC_Par_readStatement (l : Launch) (D : va_G) (dA : Nat → ClassId) (o b i : Nat → Nat) (N : Nat)  (sR : CS) (sF : CS) (sN : CS) (sT : CS) (sP : CS) (sI : CS) {r : Int32} {u : CS × CS × CS × CS × CS} {dc ds : Nat} (hM : C_Par_readStatement N  sR sF sN sT sP sI = some ((r, u), (dc, ds))) : KC l D dA (zz o) yC_Par_readStatement cC_Par_readStatement 4 (some .int) 10 379 dc ds (w_Par dA o b i sR sF sN sT sP sI) [.ref (o 112)] (fun Ws' ov => ∃ b' i' : Nat → Nat, Ws' = (w_Par dA o b' i' sR u.1 u.2.1 u.2.2.1 u.2.2.2.1 u.2.2.2.2) ∧ ov = (some (.int r))) := x_enterC (by decide +kernel) (Nat.le_of_ble_eq_true rfl) (fun p e s m args below meth c A C _ hW ls hl => bC_Par_readStatement_0 N C  sR sF sN sT sP sI dc ds 0 0 hM (by omega) (by omega) b i s.heap [] hW ls hl)
def C_Par_readLine_81 (N : Nat) (x2 : Int32) (sR : CS) (sF : CS) (sN : CS) (sT : CS) (sP : CS) (sI : CS) : Option ((Int32 × (CS × CS × CS × CS × CS)) × (Nat × Nat)) :=
  cl (C_Tok_skip  (1 : Int32) sT) (fun r1 u2 => some ((x2, (sF, sN, u2, sP, sI)), (0, 0)))
set_option maxHeartbeats 4000000 in
set_option maxRecDepth 100000 in
theorem bC_Par_readLine_81 (N : Nat)  {r : Int32} {u : CS × CS × CS × CS × CS} {DC DS : Nat} (C : CxC R_Par p s m args meth c cC_Par_readLine 4 (some .int) D dA (zz o) A) (x2 : Int32) (sR : CS) (sF : CS) (sN : CS) (sT : CS) (sP : CS) (sI : CS) (dc ds kc ks : Nat) (hM : C_Par_readLine_81 N  x2 sR sF sN sT sP sI = some ((r, u), (dc, ds))) (hdc : kc + dc ≤ DC) (hds : ks + ds ≤ DS) (b i : Nat → Nat) (H : Heap) (locs : List Loc) (hW : WdC D A s (w_Par dA o b i sR sF sN sT sP sI) H locs) (ls : Array Slot) (hl : lv_has ls 4 [(0, .ref (o 112)), (2, .int x2)]) : W p l e (rmC 11 402 DC DS) s m args below meth c H locs kc ks (MQ below (QC D A (fun Ws' ov => ∃ b' i' : Nat → Nat, Ws' = (w_Par dA o b' i' sR u.1 u.2.1 u.2.2.1 u.2.2.2.1 u.2.2.2.2) ∧ ov = (some (.int r)))) args s DC DS A) (F0 m 81 ls []) := by
  have hx := C.1.1
  have hb := C.1.2.1
  have hown := C.1.2.2.2.2.1
  have hT := C.1.2.2.2.2.2.1
  unfold C_Par_readLine_81 at hM
  refine lv_aload_n (pc := 81) hx hb dC_Par_readLine_81 rfl (lv_at hl 0 rfl) ?_
  refine x_getC (pc := 82) C hW 0 rfl (ci := 8) rfl i_Par 1 (by decide) qc_512 rfl rfl dC_Par_readLine_82 ?_
  refine lv_iconst (pc := 85) (v := 1) hx hb dC_Par_readLine_85 (by decide) ?_
  obtain ⟨r1, u2, hr1, hM⟩ := cl_some hM
  refine x_callC (pc := 86) (n' := 41) C hW (kC_Tok_skip l D dA (zz o) o b  (1 : Int32) sT hr1) [30, 31, 32, 33, 0, 1, 2, 3, 4, 5, 6, 7, 8, 9, 10, 11, 12, 13, 14, 15, 16, 17, 18, 19, 20, 21, 22, 23, 24, 25, 26, 27, 28, 29, 34, 35, 36, 37, 38, 39, 40] rfl (by decide +kernel) rfl (ci := 3) rfl (q0 := 30) rfl gC_Par_53 ⟨rfl, by decide, by decide, by decide +kernel⟩ ⟨Nat.le_of_ble_eq_true rfl, Nat.le_of_ble_eq_true rfl⟩ ⟨show _ + 0 ≤ DC by omega, show _ + 0 ≤ DS by omega⟩ (As := [.int (1 : Int32)]) (n := 1) rfl hl.1 rfl (Nat.le_of_ble_eq_true rfl) dC_Par_readLine_86 (fun Wc' ov H locs hPo hWn => ?_)
  obtain ⟨rfl, rfl⟩ := hPo
  have hW := hWn (w_Par dA o b i sR sF sN u2 sP sI) rfl rfl
  refine lv_iload_n (pc := 89) hx hb dC_Par_readLine_89 rfl (lv_at hl 1 rfl) ?_
  obtain ⟨rfl, rfl, rfl, rfl⟩ := sm_q hM
  exact x_retCi (pc := 90) C rfl hW ⟨_, _, rfl, rfl⟩ (by omega) (by omega) dC_Par_readLine_90
def C_Par_readLine_64 (N : Nat) (x2 : Int32) (sR : CS) (sF : CS) (sN : CS) (sT : CS) (sP : CS) (sI : CS) : Option ((Int32 × (CS × CS × CS × CS × CS)) × (Nat × Nat)) :=
  (if x2 = 0 then cr (C_Tok_kind  (0 : Int32) sT) (fun r1 => (if r1 = 0 then C_Par_readLine_81 N  x2 sR sF sN sT sP sI else C_Par_readLine_81 N  (1 : Int32) sR sF sN sT sP sI)) else C_Par_readLine_81 N  x2 sR sF sN sT sP sI)
set_option maxHeartbeats 4000000 in
set_option maxRecDepth 100000 in
theorem bC_Par_readLine_64 (N : Nat)  {r : Int32} {u : CS × CS × CS × CS × CS} {DC DS : Nat} (C : CxC R_Par p s m args meth c cC_Par_readLine 4 (some .int) D dA (zz o) A) (x2 : Int32) (sR : CS) (sF : CS) (sN : CS) (sT : CS) (sP : CS) (sI : CS) (dc ds kc ks : Nat) (hM : C_Par_readLine_64 N  x2 sR sF sN sT sP sI = some ((r, u), (dc, ds))) (hdc : kc + dc ≤ DC) (hds : ks + ds ≤ DS) (b i : Nat → Nat) (H : Heap) (locs : List Loc) (hW : WdC D A s (w_Par dA o b i sR sF sN sT sP sI) H locs) (ls : Array Slot) (hl : lv_has ls 4 [(0, .ref (o 112)), (2, .int x2)]) : W p l e (rmC 11 402 DC DS) s m args below meth c H locs kc ks (MQ below (QC D A (fun Ws' ov => ∃ b' i' : Nat → Nat, Ws' = (w_Par dA o b' i' sR u.1 u.2.1 u.2.2.1 u.2.2.2.1 u.2.2.2.2) ∧ ov = (some (.int r)))) args s DC DS A) (F0 m 64 ls []) := by
  have hx := C.1.1
  have hb := C.1.2.1
  have hown := C.1.2.2.2.2.1
  have hT := C.1.2.2.2.2.2.1
  unfold C_Par_readLine_64 at hM
  refine lv_iload_n (pc := 64) hx hb dC_Par_readLine_64 rfl (lv_at hl 1 rfl) ?_
  refine lv_if_ne (pc := 65) (tgt := 81) hx hb dC_Par_readLine_65 (by decide) (fun hc => ?_) (fun hc => ?_)
  · replace hM := it_f hc hM
    exact bC_Par_readLine_81 N  C  _ _ _ _ _ _ _ _ _ _ _ hM (by omega) (by omega) _ _ _ _ hW _ (lv_sub hl [0, 1] rfl)
  · replace hM := it_t hc hM
    refine lv_aload_n (pc := 68) hx hb dC_Par_readLine_68 rfl (lv_at hl 0 rfl) ?_
    refine x_getC (pc := 69) C hW 0 rfl (ci := 8) rfl i_Par 1 (by decide) qc_512 rfl rfl dC_Par_readLine_69 ?_
    refine lv_iconst (pc := 72) (v := 0) hx hb dC_Par_readLine_72 (by decide) ?_
    obtain ⟨r1, hr1, hM⟩ := cr_some hM
    refine x_callQ (pc := 73) (n' := 41) (ov := some (.int r1)) C hW (kC_Tok_kind l D dA (zz o) o b  (0 : Int32) sT hr1) [30, 31, 32, 33, 0, 1, 2, 3, 4, 5, 6, 7, 8, 9, 10, 11, 12, 13, 14, 15, 16, 17, 18, 19, 20, 21, 22, 23, 24, 25, 26, 27, 28, 29, 34, 35, 36, 37, 38, 39, 40] rfl (by decide +kernel) rfl (ci := 3) rfl (q0 := 30) rfl gC_Par_46 ⟨rfl, by decide, by decide, by decide +kernel⟩ ⟨Nat.le_of_ble_eq_true rfl, Nat.le_of_ble_eq_true rfl⟩ ⟨show _ ≤ DC by omega, show _ ≤ DS by omega⟩ (As := [.int (0 : Int32)]) (n := 1) rfl hl.1 rfl (Nat.le_of_ble_eq_true rfl) dC_Par_readLine_73 ?_
    refine lv_if_eq (pc := 76) (tgt := 81) hx hb dC_Par_readLine_76 (by decide) (fun hc => ?_) (fun hc => ?_)
    · replace hM := it_t hc hM
      exact bC_Par_readLine_81 N  C  _ _ _ _ _ _ _ _ _ _ _ hM (by omega) (by omega) _ _ _ _ hW _ (lv_sub hl [0, 1] rfl)
    · replace hM := it_f hc hM
      refine lv_iconst (pc := 79) (v := 1) hx hb dC_Par_readLine_79 (by decide) ?_
      refine lv_istore_n (pc := 80) (lv' := [(2, .int (1 : Int32)), (0, .ref (o 112))]) hx hb dC_Par_readLine_80 rfl hl (by decide) rfl (fun ls hl => ?_)
      exact bC_Par_readLine_81 N  C  _ _ _ _ _ _ _ _ _ _ _ hM (by omega) (by omega) _ _ _ _ hW _ (lv_sub hl [1, 0] rfl)
def C_Par_readLine_44 (N : Nat) (x2 : Int32) (sR : CS) (sF : CS) (sN : CS) (sT : CS) (sP : CS) (sI : CS) : Option ((Int32 × (CS × CS × CS × CS × CS)) × (Nat × Nat)) :=
  (if x2 = 0 then cr (C_Tok_kind  (0 : Int32) sT) (fun r1 => (if r1 = 0 then C_Par_readLine_64 N  x2 sR sF sN sT sP sI else ct (C_Par_readStatement N sR sF sN sT sP sI) (fun r2 u3 => C_Par_readLine_64 N  r2 sR u3.1 u3.2.1 u3.2.2.1 u3.2.2.2.1 u3.2.2.2.2))) else C_Par_readLine_64 N  x2 sR sF sN sT sP sI)
set_option maxHeartbeats 4000000 in
set_option maxRecDepth 100000 in
theorem bC_Par_readLine_44 (N : Nat)  {r : Int32} {u : CS × CS × CS × CS × CS} {DC DS : Nat} (C : CxC R_Par p s m args meth c cC_Par_readLine 4 (some .int) D dA (zz o) A) (x2 : Int32) (sR : CS) (sF : CS) (sN : CS) (sT : CS) (sP : CS) (sI : CS) (dc ds kc ks : Nat) (hM : C_Par_readLine_44 N  x2 sR sF sN sT sP sI = some ((r, u), (dc, ds))) (hdc : kc + dc ≤ DC) (hds : ks + ds ≤ DS) (b i : Nat → Nat) (H : Heap) (locs : List Loc) (hW : WdC D A s (w_Par dA o b i sR sF sN sT sP sI) H locs) (ls : Array Slot) (hl : lv_has ls 4 [(0, .ref (o 112)), (2, .int x2)]) : W p l e (rmC 11 402 DC DS) s m args below meth c H locs kc ks (MQ below (QC D A (fun Ws' ov => ∃ b' i' : Nat → Nat, Ws' = (w_Par dA o b' i' sR u.1 u.2.1 u.2.2.1 u.2.2.2.1 u.2.2.2.2) ∧ ov = (some (.int r)))) args s DC DS A) (F0 m 44 ls []) := by
  have hx := C.1.1
  have hb := C.1.2.1
  have hown := C.1.2.2.2.2.1
  have hT := C.1.2.2.2.2.2.1
  unfold C_Par_readLine_44 at hM
  refine lv_iload_n (pc := 44) hx hb dC_Par_readLine_44 rfl (lv_at hl 1 rfl) ?_
  refine lv_if_ne (pc := 45) (tgt := 64) hx hb dC_Par_readLine_45 (by decide) (fun hc => ?_) (fun hc => ?_)
  · replace hM := it_f hc hM
    exact bC_Par_readLine_64 N  C  _ _ _ _ _ _ _ _ _ _ _ hM (by omega) (by omega) _ _ _ _ hW _ (lv_sub hl [0, 1] rfl)
  · replace hM := it_t hc hM
    refine lv_aload_n (pc := 48) hx hb dC_Par_readLine_48 rfl (lv_at hl 0 rfl) ?_
    refine x_getC (pc := 49) C hW 0 rfl (ci := 8) rfl i_Par 1 (by decide) qc_512 rfl rfl dC_Par_readLine_49 ?_
    refine lv_iconst (pc := 52) (v := 0) hx hb dC_Par_readLine_52 (by decide) ?_
    obtain ⟨r1, hr1, hM⟩ := cr_some hM
    refine x_callQ (pc := 53) (n' := 41) (ov := some (.int r1)) C hW (kC_Tok_kind l D dA (zz o) o b  (0 : Int32) sT hr1) [30, 31, 32, 33, 0, 1, 2, 3, 4, 5, 6, 7, 8, 9, 10, 11, 12, 13, 14, 15, 16, 17, 18, 19, 20, 21, 22, 23, 24, 25, 26, 27, 28, 29, 34, 35, 36, 37, 38, 39, 40] rfl (by decide +kernel) rfl (ci := 3) rfl (q0 := 30) rfl gC_Par_46 ⟨rfl, by decide, by decide, by decide +kernel⟩ ⟨Nat.le_of_ble_eq_true rfl, Nat.le_of_ble_eq_true rfl⟩ ⟨show _ ≤ DC by omega, show _ ≤ DS by omega⟩ (As := [.int (0 : Int32)]) (n := 1) rfl hl.1 rfl (Nat.le_of_ble_eq_true rfl) dC_Par_readLine_53 ?_
    refine lv_if_eq (pc := 56) (tgt := 64) hx hb dC_Par_readLine_56 (by decide) (fun hc => ?_) (fun hc => ?_)
    · replace hM := it_t hc hM
      exact bC_Par_readLine_64 N  C  _ _ _ _ _ _ _ _ _ _ _ hM (by omega) (by omega) _ _ _ _ hW _ (lv_sub hl [0, 1] rfl)
    · replace hM := it_f hc hM
      refine lv_aload_n (pc := 59) hx hb dC_Par_readLine_59 rfl (lv_at hl 0 rfl) ?_
      obtain ⟨r2, u3, da4, ea5, db6, eb7, hr2, hM, hqda4, hpda4⟩ := ct_some hM
      refine x_callC (pc := 60) (n' := 41) C hW (kC_Par_readStatement l D dA o b i N sR sF sN sT sP sI hr2) [0, 1, 2, 3, 4, 5, 6, 7, 8, 9, 10, 11, 12, 13, 14, 15, 16, 17, 18, 19, 20, 21, 22, 23, 24, 25, 26, 27, 28, 29, 30, 31, 32, 33, 34, 35, 36, 37, 38, 39, 40] rfl (by decide +kernel) rfl (ci := 8) rfl (q0 := 0) rfl gC_Par_50 ⟨rfl, by decide, by decide, by decide +kernel⟩ ⟨Nat.le_of_ble_eq_true rfl, Nat.le_of_ble_eq_true rfl⟩ ⟨show _ + da4 ≤ DC by omega, show _ + ea5 ≤ DS by omega⟩ (As := []) (n := 0) rfl hl.1 rfl (Nat.le_of_ble_eq_true rfl) dC_Par_readLine_60 (fun Wc' ov H locs hPo hWn => ?_)
      obtain ⟨b8, i, rfl, rfl⟩ := hPo
      have hW := hWn (w_Par dA o (mxs [1, 2, 4, 6] b8 b) i sR u3.1 u3.2.1 u3.2.2.1 u3.2.2.2.1 u3.2.2.2.2) rfl rfl
      generalize mxs [1, 2, 4, 6] b8 b = b at hW
      refine lv_istore_n (pc := 63) (lv' := [(2, .int r2), (0, .ref (o 112))]) hx hb dC_Par_readLine_63 rfl hl (by decide) rfl (fun ls hl => ?_)
      exact bC_Par_readLine_64 N  C  _ _ _ _ _ _ _ _ _ _ _ hM (by omega) (by omega) _ _ _ _ hW _ (lv_sub hl [1, 0] rfl)
def C_Par_readLine_18 (N : Nat)  : Nat → Int32 → Int32 → CS → CS → CS → CS → CS → CS → Option ((Int32 × (CS × CS × CS × CS × CS)) × (Nat × Nat))
  | 0 => fun _ _ _ _ _ _ _ _ => none
  | n + 1 => fun x2 x3 sR sF sN sT sP sI => (if x3 ≤ 0 then C_Par_readLine_44 N  x2 sR sF sN sT sP sI else (if x2 = 0 then cr (C_Par_isLabel  sR sF sN sT sP sI) (fun r1 => (if r1 = 0 then C_Par_readLine_44 N  x2 sR sF sN sT sP sI else ct (C_Par_readLabel  sR sF sN sT sP sI) (fun r2 u3 => (C_Par_readLine_18 N  n) r2 (x3 + (-1 : Int32)) sR sF u3.1 u3.2.1 u3.2.2.1 u3.2.2.2))) else C_Par_readLine_44 N  x2 sR sF sN sT sP sI))
set_option maxHeartbeats 4000000 in
set_option maxRecDepth 100000 in
theorem bC_Par_readLine_18 (N : Nat)  {r : Int32} {u : CS × CS × CS × CS × CS} {DC DS : Nat} (C : CxC R_Par p s m args meth c cC_Par_readLine 4 (some .int) D dA (zz o) A) : ∀ (n : Nat) (x2 : Int32) (x3 : Int32) (sR : CS) (sF : CS) (sN : CS) (sT : CS) (sP : CS) (sI : CS) (dc ds kc ks : Nat) , C_Par_readLine_18 N  n x2 x3 sR sF sN sT sP sI = some ((r, u), (dc, ds)) → ∀ (hdc : kc + dc ≤ DC) (hds : ks + ds ≤ DS) (b i : Nat → Nat) (H : Heap) (locs : List Loc) (hW : WdC D A s (w_Par dA o b i sR sF sN sT sP sI) H locs) (ls : Array Slot) (hl : lv_has ls 4 [(0, .ref (o 112)), (2, .int x2), (3, .int x3)]), W p l e (rmC 11 402 DC DS) s m args below meth c H locs kc ks (MQ below (QC D A (fun Ws' ov => ∃ b' i' : Nat → Nat, Ws' = (w_Par dA o b' i' sR u.1 u.2.1 u.2.2.1 u.2.2.2.1 u.2.2.2.2) ∧ ov = (some (.int r)))) args s DC DS A) (F0 m 18 ls []) := by
  have hx := C.1.1
  have hb := C.1.2.1
  have hown := C.1.2.2.2.2.1
  have hT := C.1.2.2.2.2.2.1
  intro n
  induction n with
  | zero => intro x2 x3 sR sF sN sT sP sI dc ds kc ks hM; cases hM
  | succ n hrec18 =>
    intro x2 x3 sR sF sN sT sP sI dc ds kc ks hM hdc hds b i H locs hW ls hl
    rw [C_Par_readLine_18] at hM
    refine lv_iload_n (pc := 18) hx hb dC_Par_readLine_18 rfl (lv_at hl 2 rfl) ?_
    refine lv_if_le (pc := 19) (tgt := 44) hx hb dC_Par_readLine_19 (by decide) (fun hc => ?_) (fun hc => ?_)
    · replace hM := it_t hc hM
      exact bC_Par_readLine_44 N  C  _ _ _ _ _ _ _ _ _ _ _ hM (by omega) (by omega) _ _ _ _ hW _ (lv_sub hl [0, 1] rfl)
    · replace hM := it_f hc hM
      refine lv_iload_n (pc := 22) hx hb dC_Par_readLine_22 rfl (lv_at hl 1 rfl) ?_
      refine lv_if_ne (pc := 23) (tgt := 44) hx hb dC_Par_readLine_23 (by decide) (fun hc => ?_) (fun hc => ?_)
      · replace hM := it_f hc hM
        exact bC_Par_readLine_44 N  C  _ _ _ _ _ _ _ _ _ _ _ hM (by omega) (by omega) _ _ _ _ hW _ (lv_sub hl [0, 1] rfl)
      · replace hM := it_t hc hM
        refine lv_aload_n (pc := 26) hx hb dC_Par_readLine_26 rfl (lv_at hl 0 rfl) ?_
        obtain ⟨r1, hr1, hM⟩ := cr_some hM
        refine x_callQ (pc := 27) (n' := 41) (ov := some (.int r1)) C hW (kC_Par_isLabel l D dA o b i  sR sF sN sT sP sI hr1) [0, 1, 2, 3, 4, 5, 6, 7, 8, 9, 10, 11, 12, 13, 14, 15, 16, 17, 18, 19, 20, 21, 22, 23, 24, 25, 26, 27, 28, 29, 30, 31, 32, 33, 34, 35, 36, 37, 38, 39, 40] rfl (by decide +kernel) rfl (ci := 8) rfl (q0 := 0) rfl gC_Par_39 ⟨rfl, by decide, by decide, by decide +kernel⟩ ⟨Nat.le_of_ble_eq_true rfl, Nat.le_of_ble_eq_true rfl⟩ ⟨show _ ≤ DC by omega, show _ ≤ DS by omega⟩ (As := []) (n := 0) rfl hl.1 rfl (Nat.le_of_ble_eq_true rfl) dC_Par_readLine_27 ?_
        refine lv_if_eq (pc := 30) (tgt := 44) hx hb dC_Par_readLine_30 (by decide) (fun hc => ?_) (fun hc => ?_)
        · replace hM := it_t hc hM
          exact bC_Par_readLine_44 N  C  _ _ _ _ _ _ _ _ _ _ _ hM (by omega) (by omega) _ _ _ _ hW _ (lv_sub hl [0, 1] rfl)
        · replace hM := it_f hc hM
          refine lv_aload_n (pc := 33) hx hb dC_Par_readLine_33 rfl (lv_at hl 0 rfl) ?_
          obtain ⟨r2, u3, da4, ea5, db6, eb7, hr2, hM, hqda4, hpda4⟩ := ct_some hM
          refine x_callC (pc := 34) (n' := 41) C hW (kC_Par_readLabel l D dA o b i  sR sF sN sT sP sI hr2) [0, 1, 2, 3, 4, 5, 6, 7, 8, 9, 10, 11, 12, 13, 14, 15, 16, 17, 18, 19, 20, 21, 22, 23, 24, 25, 26, 27, 28, 29, 30, 31, 32, 33, 34, 35, 36, 37, 38, 39, 40] rfl (by decide +kernel) rfl (ci := 8) rfl (q0 := 0) rfl gC_Par_43 ⟨rfl, by decide, by decide, by decide +kernel⟩ ⟨Nat.le_of_ble_eq_true rfl, Nat.le_of_ble_eq_true rfl⟩ ⟨show _ + da4 ≤ DC by omega, show _ + ea5 ≤ DS by omega⟩ (As := []) (n := 0) rfl hl.1 rfl (Nat.le_of_ble_eq_true rfl) dC_Par_readLine_34 (fun Wc' ov H locs hPo hWn => ?_)
          obtain ⟨b8, i, rfl, rfl⟩ := hPo
          have hW := hWn (w_Par dA o (mxs [1, 2, 4, 6] b8 b) i sR sF u3.1 u3.2.1 u3.2.2.1 u3.2.2.2) rfl rfl
          generalize mxs [1, 2, 4, 6] b8 b = b at hW
          refine lv_istore_n (pc := 37) (lv' := [(2, .int r2), (0, .ref (o 112)), (3, .int x3)]) hx hb dC_Par_readLine_37 rfl hl (by decide) rfl (fun ls hl => ?_)
          refine lv_iinc (pc := 38) (v := x3 + (-1 : Int32)) (lv' := [(3, .int (x3 + (-1 : Int32))), (2, .int r2), (0, .ref (o 112))]) hx hb dC_Par_readLine_38 hl (k := 2) rfl rfl (by decide) rfl (fun ls hl => ?_)
          refine lv_goto (pc := 41) (tgt := 18) hx hb dC_Par_readLine_41 (by decide) ?_
          exact hrec18 _ _ _ _ _ _ _ _ _ _ _ _ hM (by omega) (by omega) _ _ _ _ hW _ (lv_sub hl [2, 1, 0] rfl)
def C_Par_readLine (N : Nat) (x1 : Int32) (sR : CS) (sF : CS) (sN : CS) (sT : CS) (sP : CS) (sI : CS) : Option ((Int32 × (CS × CS × CS × CS × CS)) × (Nat × Nat)) :=
  bnd (cF sP 4 x1) (fun sP1 => cr (C_Tok_left  sT) (fun r2 => C_Par_readLine_18 N  N (0 : Int32) r2 sR sF sN sT sP1 sI))
set_option maxHeartbeats 4000000 in
set_option maxRecDepth 100000 in
theorem bC_Par_readLine_0 (N : Nat)  {r : Int32} {u : CS × CS × CS × CS × CS} {DC DS : Nat} (C : CxC R_Par p s m args meth c cC_Par_readLine 4 (some .int) D dA (zz o) A) (x1 : Int32) (sR : CS) (sF : CS) (sN : CS) (sT : CS) (sP : CS) (sI : CS) (dc ds kc ks : Nat) (hM : C_Par_readLine N  x1 sR sF sN sT sP sI = some ((r, u), (dc, ds))) (hdc : kc + dc ≤ DC) (hds : ks + ds ≤ DS) (b i : Nat → Nat) (H : Heap) (locs : List Loc) (hW : WdC D A s (w_Par dA o b i sR sF sN sT sP sI) H locs) (ls : Array Slot) (hl : lv_has ls 4 [(0, .ref (o 112)), (1, .int x1)]) : W p l e (rmC 11 402 DC DS) s m args below meth c H locs kc ks (MQ below (QC D A (fun Ws' ov => ∃ b' i' : Nat → Nat, Ws' = (w_Par dA o b' i' sR u.1 u.2.1 u.2.2.1 u.2.2.2.1 u.2.2.2.2) ∧ ov = (some (.int r)))) args s DC DS A) (F0 m 0 ls []) := by
  have hx := C.1.1
  have hb := C.1.2.1
  have hown := C.1.2.2.2.2.1
  have hT := C.1.2.2.2.2.2.1
  unfold C_Par_readLine at hM
  refine lv_aload_n (pc := 0) hx hb dC_Par_readLine_0 rfl (lv_at hl 0 rfl) ?_
  refine x_getC (pc := 1) C hW 0 rfl (ci := 8) rfl i_Par 2 (by decide) qc_513 rfl rfl dC_Par_readLine_1 ?_
  refine lv_iload_n (pc := 4) hx hb dC_Par_readLine_4 rfl (lv_at hl 1 rfl) ?_
  refine x_putC (pc := 5) (ty := .int) (Ws' := (w_Par dA o b i sR sF sN sT (cF sP 4 x1) sI)) C hW 34 rfl (ci := 5) rfl i_Prg tok_Prg n_Prg 5 (by decide) qc_398 rfl rfl (by decide +kernel) rfl rfl (Nat.le_of_ble_eq_true rfl) rfl dC_Par_readLine_5 (fun H locs hW => ?_)
  obtain ⟨sP1, esP1, hM⟩ := bnd_some hM
  rw [← esP1] at hW
  refine lv_iconst (pc := 8) (v := 0) hx hb dC_Par_readLine_8 (by decide) ?_
  refine lv_istore_n (pc := 9) (lv' := [(2, .int (0 : Int32)), (0, .ref (o 112)), (1, .int x1)]) hx hb dC_Par_readLine_9 rfl hl (by decide) rfl (fun ls hl => ?_)
  refine lv_aload_n (pc := 10) hx hb dC_Par_readLine_10 rfl (lv_at hl 1 rfl) ?_
  refine x_getC (pc := 11) C hW 0 rfl (ci := 8) rfl i_Par 1 (by decide) qc_512 rfl rfl dC_Par_readLine_11 ?_
  obtain ⟨r2, hr2, hM⟩ := cr_some hM
  refine x_callQ (pc := 14) (n' := 41) (ov := some (.int r2)) C hW (kC_Tok_left l D dA (zz o) o b  sT hr2) [30, 31, 32, 33, 0, 1, 2, 3, 4, 5, 6, 7, 8, 9, 10, 11, 12, 13, 14, 15, 16, 17, 18, 19, 20, 21, 22, 23, 24, 25, 26, 27, 28, 29, 34, 35, 36, 37, 38, 39, 40] rfl (by decide +kernel) rfl (ci := 3) rfl (q0 := 30) rfl gC_Par_33 ⟨rfl, by decide, by decide, by decide +kernel⟩ ⟨Nat.le_of_ble_eq_true rfl, Nat.le_of_ble_eq_true rfl⟩ ⟨show _ ≤ DC by omega, show _ ≤ DS by omega⟩ (As := []) (n := 0) rfl hl.1 rfl (Nat.le_of_ble_eq_true rfl) dC_Par_readLine_14 ?_
  refine lv_istore_n (pc := 17) (lv' := [(3, .int r2), (2, .int (0 : Int32)), (0, .ref (o 112)), (1, .int x1)]) hx hb dC_Par_readLine_17 rfl hl (by decide) rfl (fun ls hl => ?_)
  exact bC_Par_readLine_18 N  C  N _ _ _ _ _ _ _ _ _ _ _ _ hM (by omega) (by omega) _ _ _ _ hW _ (lv_sub hl [2, 1, 0] rfl)
theorem kC_Par_readLine (l : Launch) (D : va_G) (dA : Nat → ClassId) (o b i : Nat → Nat) (N : Nat) (x1 : Int32) (sR : CS) (sF : CS) (sN : CS) (sT : CS) (sP : CS) (sI : CS) {r : Int32} {u : CS × CS × CS × CS × CS} {dc ds : Nat} (hM : C_Par_readLine N x1 sR sF sN sT sP sI = some ((r, u), (dc, ds))) : KC l D dA (zz o) yC_Par_readLine cC_Par_readLine 4 (some .int) 11 402 dc ds (w_Par dA o b i sR sF sN sT sP sI) [.ref (o 112), .int x1] (fun Ws' ov => ∃ b' i' : Nat → Nat, Ws' = (w_Par dA o b' i' sR u.1 u.2.1 u.2.2.1 u.2.2.2.1 u.2.2.2.2) ∧ ov = (some (.int r))) := x_enterC (by decide +kernel) (Nat.le_of_ble_eq_true rfl) (fun p e s m args below meth c A C _ hW ls hl => bC_Par_readLine_0 N C x1 sR sF sN sT sP sI dc ds 0 0 hM (by omega) (by omega) b i s.heap [] hW ls hl)
end
