theorem qsc_42 : Cond.selects "LineAssembler$Encoder" (⟨"LineAssembler$Encoder", "lengthenAll", "()Z"⟩ : MethodName) ⟨"LineAssembler$Encoder", "lengthenAll", "()Z"⟩ ∈ lw_gd := lw_gds (List.mem_of_getElem? (i := 42) (by decide +kernel)) (by decide +kernel)
theorem qsc_43 : Cond.selects "LineAssembler$Encoder" (⟨"LineAssembler$Encoder", "isTooFar", "(ILLineAssembler$Item;)Z"⟩ : MethodName) ⟨"LineAssembler$Encoder", "isTooFar", "(ILLineAssembler$Item;)Z"⟩ ∈ lw_gd := lw_gds (List.mem_of_getElem? (i := 43) (by decide +kernel)) (by decide +kernel)
theorem qsc_44 : Cond.selects "LineAssembler$Encoder" (⟨"LineAssembler$Encoder", "encode", "(LLineAssembler$Item;I)I"⟩ : MethodName) ⟨"LineAssembler$Encoder", "encode", "(LLineAssembler$Item;I)I"⟩ ∈ lw_gd := lw_gds (List.mem_of_getElem? (i := 44) (by decide +kernel)) (by decide +kernel)
theorem qsc_45 : Cond.selects "LineAssembler$Encoder" (⟨"LineAssembler$Encoder", "put", "(III)V"⟩ : MethodName) ⟨"LineAssembler$Encoder", "put", "(III)V"⟩ ∈ lw_gd := lw_gds (List.mem_of_getElem? (i := 45) (by decide +kernel)) (by decide +kernel)
theorem qsc_46 : Cond.selects "LineAssembler$Encoder" (⟨"LineAssembler$Encoder", "encodeExpression", "(LLineAssembler$Item;I)I"⟩ : MethodName) ⟨"LineAssembler$Encoder", "encodeExpression", "(LLineAssembler$Item;I)I"⟩ ∈ lw_gd := lw_gds (List.mem_of_getElem? (i := 46) (by decide +kernel)) (by decide +kernel)
theorem qsc_47 : Cond.selects "LineAssembler$Encoder" (⟨"LineAssembler$Encoder", "putAddress", "(III)V"⟩ : MethodName) ⟨"LineAssembler$Encoder", "putAddress", "(III)V"⟩ ∈ lw_gd := lw_gds (List.mem_of_getElem? (i := 47) (by decide +kernel)) (by decide +kernel)
theorem qsc_48 : Cond.selects "LineAssembler$Encoder" (⟨"LineAssembler$Encoder", "encodeJump", "(LLineAssembler$Item;II)I"⟩ : MethodName) ⟨"LineAssembler$Encoder", "encodeJump", "(LLineAssembler$Item;II)I"⟩ ∈ lw_gd := lw_gds (List.mem_of_getElem? (i := 48) (by decide +kernel)) (by decide +kernel)
theorem qsc_49 : Cond.selects "LineAssembler$Encoder" (⟨"LineAssembler$Encoder", "encodeNumber", "(LLineAssembler$Item;II)I"⟩ : MethodName) ⟨"LineAssembler$Encoder", "encodeNumber", "(LLineAssembler$Item;II)I"⟩ ∈ lw_gd := lw_gds (List.mem_of_getElem? (i := 49) (by decide +kernel)) (by decide +kernel)
theorem qc_22 : (Jvm.Cond.initialized "LineAssembler$Encoder") ∈ lw_gd := uc_0 (List.mem_of_getElem? (i := 22) (by decide +kernel)) (by decide +kernel)
theorem qc_338 : (Jvm.Cond.fieldLink "LineAssembler$Encoder" (107 : Nat) "LineAssembler$Item" "lineNumber" "I") ∈ lw_gd := uc_1 (List.mem_of_getElem? (i := 98) (by decide +kernel)) (by decide +kernel)
theorem qc_342 : (Jvm.Cond.fieldLink "LineAssembler$Encoder" (57 : Nat) "LineAssembler$Item" "mark" "I") ∈ lw_gd := uc_1 (List.mem_of_getElem? (i := 102) (by decide +kernel)) (by decide +kernel)
theorem qc_346 : (Jvm.Cond.fieldLink "LineAssembler$Encoder" (118 : Nat) "LineAssembler$Item" "word" "I") ∈ lw_gd := uc_1 (List.mem_of_getElem? (i := 106) (by decide +kernel)) (by decide +kernel)
theorem qc_350 : (Jvm.Cond.fieldLink "LineAssembler$Encoder" (52 : Nat) "LineAssembler$Item" "length" "I") ∈ lw_gd := uc_1 (List.mem_of_getElem? (i := 110) (by decide +kernel)) (by decide +kernel)
theorem qc_356 : (Jvm.Cond.fieldLink "LineAssembler$Encoder" (76 : Nat) "LineAssembler$Item" "head" "I") ∈ lw_gd := uc_1 (List.mem_of_getElem? (i := 116) (by decide +kernel)) (by decide +kernel)
theorem qc_359 : (Jvm.Cond.fieldLink "LineAssembler$Encoder" (70 : Nat) "LineAssembler$Item" "from" "I") ∈ lw_gd := uc_1 (List.mem_of_getElem? (i := 119) (by decide +kernel)) (by decide +kernel)
theorem qc_363 : (Jvm.Cond.fieldLink "LineAssembler$Encoder" (73 : Nat) "LineAssembler$Item" "to" "I") ∈ lw_gd := uc_1 (List.mem_of_getElem? (i := 123) (by decide +kernel)) (by decide +kernel)
theorem qc_391 : (Jvm.Cond.fieldLink "LineAssembler$Encoder" (41 : Nat) "LineAssembler$Program" "count" "I") ∈ lw_gd := uc_1 (List.mem_of_getElem? (i := 151) (by decide +kernel)) (by decide +kernel)
theorem qc_465 : (Jvm.Cond.fieldLink "LineAssembler$Encoder" (85 : Nat) "LineAssembler$Formulas" "result" "I") ∈ lw_gd := uc_1 (List.mem_of_getElem? (i := 225) (by decide +kernel)) (by decide +kernel)
theorem qc_532 : (Jvm.Cond.fieldLink "LineAssembler$Encoder" (12 : Nat) "LineAssembler$Encoder" "image" "LLineAssembler$Row;") ∈ lw_gd := uc_2 (List.mem_of_getElem? (i := 52) (by decide +kernel)) (by decide +kernel)
theorem qc_534 : (Jvm.Cond.fieldLink "LineAssembler$Encoder" (18 : Nat) "LineAssembler$Encoder" "lines" "LLineAssembler$Row;") ∈ lw_gd := uc_2 (List.mem_of_getElem? (i := 54) (by decide +kernel)) (by decide +kernel)
theorem qc_536 : (Jvm.Cond.fieldLink "LineAssembler$Encoder" (21 : Nat) "LineAssembler$Encoder" "rounds" "I") ∈ lw_gd := uc_2 (List.mem_of_getElem? (i := 56) (by decide +kernel)) (by decide +kernel)
theorem qc_538 : (Jvm.Cond.fieldLink "LineAssembler$Encoder" (25 : Nat) "LineAssembler$Encoder" "program" "LLineAssembler$Program;") ∈ lw_gd := uc_2 (List.mem_of_getElem? (i := 58) (by decide +kernel)) (by decide +kernel)
theorem qc_539 : (Jvm.Cond.fieldLink "LineAssembler$Encoder" (29 : Nat) "LineAssembler$Encoder" "formulas" "LLineAssembler$Formulas;") ∈ lw_gd := uc_2 (List.mem_of_getElem? (i := 59) (by decide +kernel)) (by decide +kernel)
theorem qc_540 : (Jvm.Cond.fieldLink "LineAssembler$Encoder" (33 : Nat) "LineAssembler$Encoder" "letters" "LLineAssembler$Row;") ∈ lw_gd := uc_2 (List.mem_of_getElem? (i := 60) (by decide +kernel)) (by decide +kernel)
theorem qc_1172 : (Jvm.Cond.instanceMethod ({ cls := "LineAssembler$Formulas", name := "evaluate", desc := "(III)I" } : Jvm.MethodName)) ∈ lw_gd := uc_4 (List.mem_of_getElem? (i := 212) (by decide +kernel)) (by decide +kernel)
theorem qc_1173 : (Jvm.Cond.selects "LineAssembler$Formulas" ({ cls := "LineAssembler$Formulas", name := "evaluate", desc := "(III)I" } : Jvm.MethodName) ({ cls := "LineAssembler$Formulas", name := "evaluate", desc := "(III)I" } : Jvm.MethodName)) ∈ lw_gd := uc_4 (List.mem_of_getElem? (i := 213) (by decide +kernel)) (by decide +kernel)
theorem qc_1174 : (Jvm.Cond.code ({ cls := "LineAssembler$Formulas", name := "evaluate", desc := "(III)I" } : Jvm.MethodName) prog_4_method_10_code (9 : Nat) (Option.some Jvm.ClassFile.FieldType.int)) ∈ lw_gd := uc_4 (List.mem_of_getElem? (i := 214) (by decide +kernel)) (by decide +kernel)
theorem qc_1242 : (Jvm.Cond.static ({ cls := "LineAssembler$Fields", name := "fits", desc := "(II)Z" } : Jvm.MethodName)) ∈ lw_gd := uc_5 (List.mem_of_getElem? (i := 42) (by decide +kernel)) (by decide +kernel)
theorem qc_1243 : (Jvm.Cond.code ({ cls := "LineAssembler$Fields", name := "fits", desc := "(II)Z" } : Jvm.MethodName) prog_3_method_7_code (2 : Nat) (Option.some Jvm.ClassFile.FieldType.boolean)) ∈ lw_gd := uc_5 (List.mem_of_getElem? (i := 43) (by decide +kernel)) (by decide +kernel)
theorem qc_1251 : (Jvm.Cond.static ({ cls := "LineAssembler$Fields", name := "scatter", desc := "(II)I" } : Jvm.MethodName)) ∈ lw_gd := uc_5 (List.mem_of_getElem? (i := 51) (by decide +kernel)) (by decide +kernel)
theorem qc_1252 : (Jvm.Cond.code ({ cls := "LineAssembler$Fields", name := "scatter", desc := "(II)I" } : Jvm.MethodName) prog_3_method_8_code (2 : Nat) (Option.some Jvm.ClassFile.FieldType.int)) ∈ lw_gd := uc_5 (List.mem_of_getElem? (i := 52) (by decide +kernel)) (by decide +kernel)
theorem qc_1326 : (Jvm.Cond.methodLink "LineAssembler$Encoder" (36 : Nat) ({ cls := "LineAssembler$Program", name := "place", desc := "()V" } : Jvm.MethodName)) ∈ lw_gd := uc_5 (List.mem_of_getElem? (i := 126) (by decide +kernel)) (by decide +kernel)
theorem qc_1327 : (Jvm.Cond.instanceMethod ({ cls := "LineAssembler$Program", name := "place", desc := "()V" } : Jvm.MethodName)) ∈ lw_gd := uc_5 (List.mem_of_getElem? (i := 127) (by decide +kernel)) (by decide +kernel)
theorem qc_1328 : (Jvm.Cond.selects "LineAssembler$Program" ({ cls := "LineAssembler$Program", name := "place", desc := "()V" } : Jvm.MethodName) ({ cls := "LineAssembler$Program", name := "place", desc := "()V" } : Jvm.MethodName)) ∈ lw_gd := uc_5 (List.mem_of_getElem? (i := 128) (by decide +kernel)) (by decide +kernel)
theorem qc_1329 : (Jvm.Cond.code ({ cls := "LineAssembler$Program", name := "place", desc := "()V" } : Jvm.MethodName) prog_10_method_10_code (3 : Nat) (Option.none : Option Jvm.ClassFile.FieldType)) ∈ lw_gd := uc_5 (List.mem_of_getElem? (i := 129) (by decide +kernel)) (by decide +kernel)
theorem qc_1330 : (Jvm.Cond.methodLink "LineAssembler$Encoder" (44 : Nat) ({ cls := "LineAssembler$Encoder", name := "lengthenAll", desc := "()Z" } : Jvm.MethodName)) ∈ lw_gd := uc_5 (List.mem_of_getElem? (i := 130) (by decide +kernel)) (by decide +kernel)
theorem qc_1332 : (Jvm.Cond.instanceMethod ({ cls := "LineAssembler$Encoder", name := "lengthenAll", desc := "()Z" } : Jvm.MethodName)) ∈ lw_gd := uc_5 (List.mem_of_getElem? (i := 132) (by decide +kernel)) (by decide +kernel)
theorem qc_1333 : (Jvm.Cond.code ({ cls := "LineAssembler$Encoder", name := "lengthenAll", desc := "()Z" } : Jvm.MethodName) prog_2_method_3_code (4 : Nat) (Option.some Jvm.ClassFile.FieldType.boolean)) ∈ lw_gd := uc_5 (List.mem_of_getElem? (i := 133) (by decide +kernel)) (by decide +kernel)
theorem qc_1334 : (Jvm.Cond.methodLink "LineAssembler$Encoder" (48 : Nat) ({ cls := "LineAssembler$Program", name := "find", desc := "(I)LLineAssembler$Item;" } : Jvm.MethodName)) ∈ lw_gd := uc_5 (List.mem_of_getElem? (i := 134) (by decide +kernel)) (by decide +kernel)
theorem qc_1335 : (Jvm.Cond.methodLink "LineAssembler$Encoder" (60 : Nat) ({ cls := "LineAssembler$Fields", name := "lastLength", desc := "(I)I" } : Jvm.MethodName)) ∈ lw_gd := uc_5 (List.mem_of_getElem? (i := 135) (by decide +kernel)) (by decide +kernel)
theorem qc_1336 : (Jvm.Cond.static ({ cls := "LineAssembler$Fields", name := "lastLength", desc := "(I)I" } : Jvm.MethodName)) ∈ lw_gd := uc_5 (List.mem_of_getElem? (i := 136) (by decide +kernel)) (by decide +kernel)
theorem qc_1337 : (Jvm.Cond.code ({ cls := "LineAssembler$Fields", name := "lastLength", desc := "(I)I" } : Jvm.MethodName) prog_3_method_5_code (1 : Nat) (Option.some Jvm.ClassFile.FieldType.int)) ∈ lw_gd := uc_5 (List.mem_of_getElem? (i := 137) (by decide +kernel)) (by decide +kernel)
theorem qc_1338 : (Jvm.Cond.methodLink "LineAssembler$Encoder" (66 : Nat) ({ cls := "LineAssembler$Encoder", name := "isTooFar", desc := "(ILLineAssembler$Item;)Z" } : Jvm.MethodName)) ∈ lw_gd := uc_5 (List.mem_of_getElem? (i := 138) (by decide +kernel)) (by decide +kernel)
theorem qc_1340 : (Jvm.Cond.instanceMethod ({ cls := "LineAssembler$Encoder", name := "isTooFar", desc := "(ILLineAssembler$Item;)Z" } : Jvm.MethodName)) ∈ lw_gd := uc_5 (List.mem_of_getElem? (i := 140) (by decide +kernel)) (by decide +kernel)
theorem qc_1341 : (Jvm.Cond.code ({ cls := "LineAssembler$Encoder", name := "isTooFar", desc := "(ILLineAssembler$Item;)Z" } : Jvm.MethodName) prog_2_method_4_code (4 : Nat) (Option.some Jvm.ClassFile.FieldType.boolean)) ∈ lw_gd := uc_5 (List.mem_of_getElem? (i := 141) (by decide +kernel)) (by decide +kernel)
theorem qc_1342 : (Jvm.Cond.methodLink "LineAssembler$Encoder" (79 : Nat) ({ cls := "LineAssembler$Formulas", name := "evaluate", desc := "(III)I" } : Jvm.MethodName)) ∈ lw_gd := uc_5 (List.mem_of_getElem? (i := 142) (by decide +kernel)) (by decide +kernel)
theorem qc_1343 : (Jvm.Cond.methodLink "LineAssembler$Encoder" (88 : Nat) ({ cls := "LineAssembler$Program", name := "addressOf", desc := "(I)I" } : Jvm.MethodName)) ∈ lw_gd := uc_5 (List.mem_of_getElem? (i := 143) (by decide +kernel)) (by decide +kernel)
theorem qc_1344 : (Jvm.Cond.methodLink "LineAssembler$Encoder" (91 : Nat) ({ cls := "LineAssembler$Fields", name := "markFor", desc := "(II)I" } : Jvm.MethodName)) ∈ lw_gd := uc_5 (List.mem_of_getElem? (i := 144) (by decide +kernel)) (by decide +kernel)
theorem qc_1345 : (Jvm.Cond.static ({ cls := "LineAssembler$Fields", name := "markFor", desc := "(II)I" } : Jvm.MethodName)) ∈ lw_gd := uc_5 (List.mem_of_getElem? (i := 145) (by decide +kernel)) (by decide +kernel)
theorem qc_1346 : (Jvm.Cond.code ({ cls := "LineAssembler$Fields", name := "markFor", desc := "(II)I" } : Jvm.MethodName) prog_3_method_6_code (2 : Nat) (Option.some Jvm.ClassFile.FieldType.int)) ∈ lw_gd := uc_5 (List.mem_of_getElem? (i := 146) (by decide +kernel)) (by decide +kernel)
theorem qc_1347 : (Jvm.Cond.methodLink "LineAssembler$Encoder" (95 : Nat) ({ cls := "LineAssembler$Fields", name := "fits", desc := "(II)Z" } : Jvm.MethodName)) ∈ lw_gd := uc_5 (List.mem_of_getElem? (i := 147) (by decide +kernel)) (by decide +kernel)
theorem qc_1349 : (Jvm.Cond.instanceMethod ({ cls := "LineAssembler$Program", name := "end", desc := "()I" } : Jvm.MethodName)) ∈ lw_gd := uc_5 (List.mem_of_getElem? (i := 149) (by decide +kernel)) (by decide +kernel)
theorem qc_1350 : (Jvm.Cond.selects "LineAssembler$Program" ({ cls := "LineAssembler$Program", name := "end", desc := "()I" } : Jvm.MethodName) ({ cls := "LineAssembler$Program", name := "end", desc := "()I" } : Jvm.MethodName)) ∈ lw_gd := uc_5 (List.mem_of_getElem? (i := 150) (by decide +kernel)) (by decide +kernel)
theorem qc_1351 : (Jvm.Cond.code ({ cls := "LineAssembler$Program", name := "end", desc := "()I" } : Jvm.MethodName) prog_10_method_9_code (1 : Nat) (Option.some Jvm.ClassFile.FieldType.int)) ∈ lw_gd := uc_5 (List.mem_of_getElem? (i := 151) (by decide +kernel)) (by decide +kernel)
theorem qc_1357 : (Jvm.Cond.methodLink "LineAssembler$Encoder" (99 : Nat) ({ cls := "LineAssembler$Program", name := "end", desc := "()I" } : Jvm.MethodName)) ∈ lw_gd := uc_5 (List.mem_of_getElem? (i := 157) (by decide +kernel)) (by decide +kernel)
theorem qc_1358 : (Jvm.Cond.methodLink "LineAssembler$Encoder" (103 : Nat) ({ cls := "LineAssembler$Row", name := "zero", desc := "(I)V" } : Jvm.MethodName)) ∈ lw_gd := uc_5 (List.mem_of_getElem? (i := 158) (by decide +kernel)) (by decide +kernel)
theorem qc_1359 : (Jvm.Cond.instanceMethod ({ cls := "LineAssembler$Row", name := "zero", desc := "(I)V" } : Jvm.MethodName)) ∈ lw_gd := uc_5 (List.mem_of_getElem? (i := 159) (by decide +kernel)) (by decide +kernel)
theorem qc_1360 : (Jvm.Cond.selects "LineAssembler$Row" ({ cls := "LineAssembler$Row", name := "zero", desc := "(I)V" } : Jvm.MethodName) ({ cls := "LineAssembler$Row", name := "zero", desc := "(I)V" } : Jvm.MethodName)) ∈ lw_gd := uc_5 (List.mem_of_getElem? (i := 160) (by decide +kernel)) (by decide +kernel)
theorem qc_1361 : (Jvm.Cond.code ({ cls := "LineAssembler$Row", name := "zero", desc := "(I)V" } : Jvm.MethodName) prog_11_method_6_code (2 : Nat) (Option.none : Option Jvm.ClassFile.FieldType)) ∈ lw_gd := uc_5 (List.mem_of_getElem? (i := 161) (by decide +kernel)) (by decide +kernel)
theorem qc_1363 : (Jvm.Cond.methodLink "LineAssembler$Encoder" (110 : Nat) ({ cls := "LineAssembler$Row", name := "fill", desc := "(III)V" } : Jvm.MethodName)) ∈ lw_gd := uc_5 (List.mem_of_getElem? (i := 163) (by decide +kernel)) (by decide +kernel)
theorem qc_1364 : (Jvm.Cond.methodLink "LineAssembler$Encoder" (114 : Nat) ({ cls := "LineAssembler$Encoder", name := "encode", desc := "(LLineAssembler$Item;I)I" } : Jvm.MethodName)) ∈ lw_gd := uc_5 (List.mem_of_getElem? (i := 164) (by decide +kernel)) (by decide +kernel)
theorem qc_1366 : (Jvm.Cond.instanceMethod ({ cls := "LineAssembler$Encoder", name := "encode", desc := "(LLineAssembler$Item;I)I" } : Jvm.MethodName)) ∈ lw_gd := uc_5 (List.mem_of_getElem? (i := 166) (by decide +kernel)) (by decide +kernel)
theorem qc_1367 : (Jvm.Cond.code ({ cls := "LineAssembler$Encoder", name := "encode", desc := "(LLineAssembler$Item;I)I" } : Jvm.MethodName) prog_2_method_6_code (4 : Nat) (Option.some Jvm.ClassFile.FieldType.int)) ∈ lw_gd := uc_5 (List.mem_of_getElem? (i := 167) (by decide +kernel)) (by decide +kernel)
theorem qc_1368 : (Jvm.Cond.methodLink "LineAssembler$Encoder" (121 : Nat) ({ cls := "LineAssembler$Row", name := "get", desc := "(I)I" } : Jvm.MethodName)) ∈ lw_gd := uc_5 (List.mem_of_getElem? (i := 168) (by decide +kernel)) (by decide +kernel)
theorem qc_1369 : (Jvm.Cond.methodLink "LineAssembler$Encoder" (124 : Nat) ({ cls := "LineAssembler$Row", name := "set", desc := "(II)V" } : Jvm.MethodName)) ∈ lw_gd := uc_5 (List.mem_of_getElem? (i := 169) (by decide +kernel)) (by decide +kernel)
theorem qc_1370 : (Jvm.Cond.methodLink "LineAssembler$Encoder" (128 : Nat) ({ cls := "LineAssembler$Encoder", name := "put", desc := "(III)V" } : Jvm.MethodName)) ∈ lw_gd := uc_5 (List.mem_of_getElem? (i := 170) (by decide +kernel)) (by decide +kernel)
theorem qc_1372 : (Jvm.Cond.instanceMethod ({ cls := "LineAssembler$Encoder", name := "put", desc := "(III)V" } : Jvm.MethodName)) ∈ lw_gd := uc_5 (List.mem_of_getElem? (i := 172) (by decide +kernel)) (by decide +kernel)
theorem qc_1373 : (Jvm.Cond.code ({ cls := "LineAssembler$Encoder", name := "put", desc := "(III)V" } : Jvm.MethodName) prog_2_method_12_code (5 : Nat) (Option.none : Option Jvm.ClassFile.FieldType)) ∈ lw_gd := uc_5 (List.mem_of_getElem? (i := 173) (by decide +kernel)) (by decide +kernel)
theorem qc_1374 : (Jvm.Cond.methodLink "LineAssembler$Encoder" (131 : Nat) ({ cls := "LineAssembler$Encoder", name := "encodeExpression", desc := "(LLineAssembler$Item;I)I" } : Jvm.MethodName)) ∈ lw_gd := uc_5 (List.mem_of_getElem? (i := 174) (by decide +kernel)) (by decide +kernel)
theorem qc_1376 : (Jvm.Cond.instanceMethod ({ cls := "LineAssembler$Encoder", name := "encodeExpression", desc := "(LLineAssembler$Item;I)I" } : Jvm.MethodName)) ∈ lw_gd := uc_5 (List.mem_of_getElem? (i := 176) (by decide +kernel)) (by decide +kernel)
theorem qc_1377 : (Jvm.Cond.code ({ cls := "LineAssembler$Encoder", name := "encodeExpression", desc := "(LLineAssembler$Item;I)I" } : Jvm.MethodName) prog_2_method_7_code (5 : Nat) (Option.some Jvm.ClassFile.FieldType.int)) ∈ lw_gd := uc_5 (List.mem_of_getElem? (i := 177) (by decide +kernel)) (by decide +kernel)
theorem qc_1378 : (Jvm.Cond.methodLink "LineAssembler$Encoder" (134 : Nat) ({ cls := "LineAssembler$Encoder", name := "putAddress", desc := "(III)V" } : Jvm.MethodName)) ∈ lw_gd := uc_5 (List.mem_of_getElem? (i := 178) (by decide +kernel)) (by decide +kernel)
theorem qc_1380 : (Jvm.Cond.instanceMethod ({ cls := "LineAssembler$Encoder", name := "putAddress", desc := "(III)V" } : Jvm.MethodName)) ∈ lw_gd := uc_5 (List.mem_of_getElem? (i := 180) (by decide +kernel)) (by decide +kernel)
theorem qc_1381 : (Jvm.Cond.code ({ cls := "LineAssembler$Encoder", name := "putAddress", desc := "(III)V" } : Jvm.MethodName) prog_2_method_11_code (5 : Nat) (Option.none : Option Jvm.ClassFile.FieldType)) ∈ lw_gd := uc_5 (List.mem_of_getElem? (i := 181) (by decide +kernel)) (by decide +kernel)
theorem qc_1382 : (Jvm.Cond.methodLink "LineAssembler$Encoder" (137 : Nat) ({ cls := "LineAssembler$Encoder", name := "encodeJump", desc := "(LLineAssembler$Item;II)I" } : Jvm.MethodName)) ∈ lw_gd := uc_5 (List.mem_of_getElem? (i := 182) (by decide +kernel)) (by decide +kernel)
theorem qc_1384 : (Jvm.Cond.instanceMethod ({ cls := "LineAssembler$Encoder", name := "encodeJump", desc := "(LLineAssembler$Item;II)I" } : Jvm.MethodName)) ∈ lw_gd := uc_5 (List.mem_of_getElem? (i := 184) (by decide +kernel)) (by decide +kernel)
theorem qc_1385 : (Jvm.Cond.code ({ cls := "LineAssembler$Encoder", name := "encodeJump", desc := "(LLineAssembler$Item;II)I" } : Jvm.MethodName) prog_2_method_9_code (7 : Nat) (Option.some Jvm.ClassFile.FieldType.int)) ∈ lw_gd := uc_5 (List.mem_of_getElem? (i := 185) (by decide +kernel)) (by decide +kernel)
theorem qc_1386 : (Jvm.Cond.methodLink "LineAssembler$Encoder" (144 : Nat) ({ cls := "LineAssembler$Fields", name := "scatter", desc := "(II)I" } : Jvm.MethodName)) ∈ lw_gd := uc_5 (List.mem_of_getElem? (i := 186) (by decide +kernel)) (by decide +kernel)
theorem qc_1387 : (Jvm.Cond.methodLink "LineAssembler$Encoder" (147 : Nat) ({ cls := "LineAssembler$Encoder", name := "shortWord", desc := "(LLineAssembler$Item;)I" } : Jvm.MethodName)) ∈ lw_gd := uc_5 (List.mem_of_getElem? (i := 187) (by decide +kernel)) (by decide +kernel)
theorem qc_1388 : (Jvm.Cond.static ({ cls := "LineAssembler$Encoder", name := "shortWord", desc := "(LLineAssembler$Item;)I" } : Jvm.MethodName)) ∈ lw_gd := uc_5 (List.mem_of_getElem? (i := 188) (by decide +kernel)) (by decide +kernel)
theorem qc_1389 : (Jvm.Cond.code ({ cls := "LineAssembler$Encoder", name := "shortWord", desc := "(LLineAssembler$Item;)I" } : Jvm.MethodName) prog_2_method_10_code (1 : Nat) (Option.some Jvm.ClassFile.FieldType.int)) ∈ lw_gd := uc_5 (List.mem_of_getElem? (i := 189) (by decide +kernel)) (by decide +kernel)
theorem qc_1390 : (Jvm.Cond.constant "LineAssembler$Encoder" (151 : Nat) (40961 : Int32)) ∈ lw_gd := uc_5 (List.mem_of_getElem? (i := 190) (by decide +kernel)) (by decide +kernel)
theorem qc_1391 : (Jvm.Cond.methodLink "LineAssembler$Encoder" (141 : Nat) ({ cls := "LineAssembler$Encoder", name := "encodeNumber", desc := "(LLineAssembler$Item;II)I" } : Jvm.MethodName)) ∈ lw_gd := uc_5 (List.mem_of_getElem? (i := 191) (by decide +kernel)) (by decide +kernel)
theorem qc_1393 : (Jvm.Cond.instanceMethod ({ cls := "LineAssembler$Encoder", name := "encodeNumber", desc := "(LLineAssembler$Item;II)I" } : Jvm.MethodName)) ∈ lw_gd := uc_5 (List.mem_of_getElem? (i := 193) (by decide +kernel)) (by decide +kernel)
theorem qc_1394 : (Jvm.Cond.code ({ cls := "LineAssembler$Encoder", name := "encodeNumber", desc := "(LLineAssembler$Item;II)I" } : Jvm.MethodName) prog_2_method_8_code (4 : Nat) (Option.some Jvm.ClassFile.FieldType.int)) ∈ lw_gd := uc_5 (List.mem_of_getElem? (i := 194) (by decide +kernel)) (by decide +kernel)
abbrev cC_Enc_put : ByteArray := prog_2_method_12_code
def yC_Enc_put : MethodName := ⟨R_Enc, "put", "(III)V"⟩
theorem dC_Enc_put_0 : decode cC_Enc_put 0 = .ok (.iconst (0), 1) := by decide +kernel
theorem dC_Enc_put_1 : decode cC_Enc_put 1 = .ok (.istore 4, 2) := by decide +kernel
theorem dC_Enc_put_3 : decode cC_Enc_put 3 = .ok (.iload 4, 2) := by decide +kernel
theorem dC_Enc_put_5 : decode cC_Enc_put 5 = .ok (.iload_n 3, 1) := by decide +kernel
theorem dC_Enc_put_6 : decode cC_Enc_put 6 = .ok (.if_icmp .ge (31), 3) := by decide +kernel
theorem dC_Enc_put_9 : decode cC_Enc_put 9 = .ok (.aload_n 0, 1) := by decide +kernel
theorem dC_Enc_put_10 : decode cC_Enc_put 10 = .ok (.getfield 12, 3) := by decide +kernel
theorem dC_Enc_put_13 : decode cC_Enc_put 13 = .ok (.iload_n 1, 1) := by decide +kernel
theorem dC_Enc_put_14 : decode cC_Enc_put 14 = .ok (.iload 4, 2) := by decide +kernel
theorem dC_Enc_put_16 : decode cC_Enc_put 16 = .ok (.iadd, 1) := by decide +kernel
theorem dC_Enc_put_17 : decode cC_Enc_put 17 = .ok (.iload_n 2, 1) := by decide +kernel
theorem dC_Enc_put_18 : decode cC_Enc_put 18 = .ok (.bipush (8), 2) := by decide +kernel
theorem dC_Enc_put_20 : decode cC_Enc_put 20 = .ok (.iload 4, 2) := by decide +kernel
theorem dC_Enc_put_22 : decode cC_Enc_put 22 = .ok (.imul, 1) := by decide +kernel
theorem dC_Enc_put_23 : decode cC_Enc_put 23 = .ok (.ishr, 1) := by decide +kernel
theorem dC_Enc_put_24 : decode cC_Enc_put 24 = .ok (.sipush (255), 3) := by decide +kernel
theorem dC_Enc_put_27 : decode cC_Enc_put 27 = .ok (.iand, 1) := by decide +kernel
theorem dC_Enc_put_28 : decode cC_Enc_put 28 = .ok (.invokevirtual 124, 3) := by decide +kernel
theorem dC_Enc_put_31 : decode cC_Enc_put 31 = .ok (.iinc 4 (1), 3) := by decide +kernel
theorem dC_Enc_put_34 : decode cC_Enc_put 34 = .ok (.goto (-31), 3) := by decide +kernel
theorem dC_Enc_put_37 : decode cC_Enc_put 37 = .ok (.return_, 1) := by decide +kernel
abbrev cC_Enc_putAddress : ByteArray := prog_2_method_11_code
def yC_Enc_putAddress : MethodName := ⟨R_Enc, "putAddress", "(III)V"⟩
theorem dC_Enc_putAddress_0 : decode cC_Enc_putAddress 0 = .ok (.iload_n 1, 1) := by decide +kernel
theorem dC_Enc_putAddress_1 : decode cC_Enc_putAddress 1 = .ok (.bipush (7), 2) := by decide +kernel
theorem dC_Enc_putAddress_3 : decode cC_Enc_putAddress 3 = .ok (.ishr, 1) := by decide +kernel
theorem dC_Enc_putAddress_4 : decode cC_Enc_putAddress 4 = .ok (.bipush (31), 2) := by decide +kernel
theorem dC_Enc_putAddress_6 : decode cC_Enc_putAddress 6 = .ok (.iand, 1) := by decide +kernel
theorem dC_Enc_putAddress_7 : decode cC_Enc_putAddress 7 = .ok (.istore 4, 2) := by decide +kernel
theorem dC_Enc_putAddress_9 : decode cC_Enc_putAddress 9 = .ok (.aload_n 0, 1) := by decide +kernel
theorem dC_Enc_putAddress_10 : decode cC_Enc_putAddress 10 = .ok (.iload_n 3, 1) := by decide +kernel
theorem dC_Enc_putAddress_11 : decode cC_Enc_putAddress 11 = .ok (.iload_n 1, 1) := by decide +kernel
theorem dC_Enc_putAddress_12 : decode cC_Enc_putAddress 12 = .ok (.iload_n 2, 1) := by decide +kernel
theorem dC_Enc_putAddress_13 : decode cC_Enc_putAddress 13 = .ok (.sipush (2048), 3) := by decide +kernel
theorem dC_Enc_putAddress_16 : decode cC_Enc_putAddress 16 = .ok (.iadd, 1) := by decide +kernel
theorem dC_Enc_putAddress_17 : decode cC_Enc_putAddress 17 = .ok (.bipush (12), 2) := by decide +kernel
theorem dC_Enc_putAddress_19 : decode cC_Enc_putAddress 19 = .ok (.iushr, 1) := by decide +kernel
theorem dC_Enc_putAddress_20 : decode cC_Enc_putAddress 20 = .ok (.bipush (12), 2) := by decide +kernel
theorem dC_Enc_putAddress_22 : decode cC_Enc_putAddress 22 = .ok (.ishl, 1) := by decide +kernel
theorem dC_Enc_putAddress_23 : decode cC_Enc_putAddress 23 = .ok (.ior, 1) := by decide +kernel
theorem dC_Enc_putAddress_24 : decode cC_Enc_putAddress 24 = .ok (.iconst (4), 1) := by decide +kernel
theorem dC_Enc_putAddress_25 : decode cC_Enc_putAddress 25 = .ok (.invokevirtual 128, 3) := by decide +kernel
theorem dC_Enc_putAddress_28 : decode cC_Enc_putAddress 28 = .ok (.aload_n 0, 1) := by decide +kernel
theorem dC_Enc_putAddress_29 : decode cC_Enc_putAddress 29 = .ok (.iload_n 3, 1) := by decide +kernel
theorem dC_Enc_putAddress_30 : decode cC_Enc_putAddress 30 = .ok (.iconst (4), 1) := by decide +kernel
theorem dC_Enc_putAddress_31 : decode cC_Enc_putAddress 31 = .ok (.iadd, 1) := by decide +kernel
theorem dC_Enc_putAddress_32 : decode cC_Enc_putAddress 32 = .ok (.bipush (19), 2) := by decide +kernel
theorem dC_Enc_putAddress_34 : decode cC_Enc_putAddress 34 = .ok (.iload 4, 2) := by decide +kernel
theorem dC_Enc_putAddress_36 : decode cC_Enc_putAddress 36 = .ok (.bipush (7), 2) := by decide +kernel
theorem dC_Enc_putAddress_38 : decode cC_Enc_putAddress 38 = .ok (.ishl, 1) := by decide +kernel
theorem dC_Enc_putAddress_39 : decode cC_Enc_putAddress 39 = .ok (.ior, 1) := by decide +kernel
theorem dC_Enc_putAddress_40 : decode cC_Enc_putAddress 40 = .ok (.iload 4, 2) := by decide +kernel
theorem dC_Enc_putAddress_42 : decode cC_Enc_putAddress 42 = .ok (.bipush (15), 2) := by decide +kernel
theorem dC_Enc_putAddress_44 : decode cC_Enc_putAddress 44 = .ok (.ishl, 1) := by decide +kernel
theorem dC_Enc_putAddress_45 : decode cC_Enc_putAddress 45 = .ok (.ior, 1) := by decide +kernel
theorem dC_Enc_putAddress_46 : decode cC_Enc_putAddress 46 = .ok (.iload_n 2, 1) := by decide +kernel
theorem dC_Enc_putAddress_47 : decode cC_Enc_putAddress 47 = .ok (.bipush (20), 2) := by decide +kernel
theorem dC_Enc_putAddress_49 : decode cC_Enc_putAddress 49 = .ok (.ishl, 1) := by decide +kernel
theorem dC_Enc_putAddress_50 : decode cC_Enc_putAddress 50 = .ok (.ior, 1) := by decide +kernel
theorem dC_Enc_putAddress_51 : decode cC_Enc_putAddress 51 = .ok (.iconst (4), 1) := by decide +kernel
theorem dC_Enc_putAddress_52 : decode cC_Enc_putAddress 52 = .ok (.invokevirtual 128, 3) := by decide +kernel
theorem dC_Enc_putAddress_55 : decode cC_Enc_putAddress 55 = .ok (.return_, 1) := by decide +kernel
abbrev cC_Enc_shortWord : ByteArray := prog_2_method_10_code
def yC_Enc_shortWord : MethodName := ⟨R_Enc, "shortWord", "(LLineAssembler$Item;)I"⟩
theorem dC_Enc_shortWord_0 : decode cC_Enc_shortWord 0 = .ok (.aload_n 0, 1) := by decide +kernel
theorem dC_Enc_shortWord_1 : decode cC_Enc_shortWord 1 = .ok (.getfield 57, 3) := by decide +kernel
theorem dC_Enc_shortWord_4 : decode cC_Enc_shortWord 4 = .ok (.bipush (120), 2) := by decide +kernel
theorem dC_Enc_shortWord_6 : decode cC_Enc_shortWord 6 = .ok (.if_icmp .ne (26), 3) := by decide +kernel
theorem dC_Enc_shortWord_9 : decode cC_Enc_shortWord 9 = .ok (.aload_n 0, 1) := by decide +kernel
theorem dC_Enc_shortWord_10 : decode cC_Enc_shortWord 10 = .ok (.getfield 118, 3) := by decide +kernel
theorem dC_Enc_shortWord_13 : decode cC_Enc_shortWord 13 = .ok (.bipush (7), 2) := by decide +kernel
theorem dC_Enc_shortWord_15 : decode cC_Enc_shortWord 15 = .ok (.ishr, 1) := by decide +kernel
theorem dC_Enc_shortWord_16 : decode cC_Enc_shortWord 16 = .ok (.bipush (31), 2) := by decide +kernel
theorem dC_Enc_shortWord_18 : decode cC_Enc_shortWord 18 = .ok (.iand, 1) := by decide +kernel
theorem dC_Enc_shortWord_19 : decode cC_Enc_shortWord 19 = .ok (.iconst (1), 1) := by decide +kernel
theorem dC_Enc_shortWord_20 : decode cC_Enc_shortWord 20 = .ok (.if_icmp .ne (9), 3) := by decide +kernel
theorem dC_Enc_shortWord_23 : decode cC_Enc_shortWord 23 = .ok (.sipush (8193), 3) := by decide +kernel
theorem dC_Enc_shortWord_26 : decode cC_Enc_shortWord 26 = .ok (.goto (5), 3) := by decide +kernel
theorem dC_Enc_shortWord_29 : decode cC_Enc_shortWord 29 = .ok (.ldc 151, 2) := by decide +kernel
theorem dC_Enc_shortWord_31 : decode cC_Enc_shortWord 31 = .ok (.ireturn, 1) := by decide +kernel
theorem dC_Enc_shortWord_32 : decode cC_Enc_shortWord 32 = .ok (.iconst (1), 1) := by decide +kernel
theorem dC_Enc_shortWord_33 : decode cC_Enc_shortWord 33 = .ok (.bipush (6), 2) := by decide +kernel
theorem dC_Enc_shortWord_35 : decode cC_Enc_shortWord 35 = .ok (.aload_n 0, 1) := by decide +kernel
theorem dC_Enc_shortWord_36 : decode cC_Enc_shortWord 36 = .ok (.getfield 118, 3) := by decide +kernel
theorem dC_Enc_shortWord_39 : decode cC_Enc_shortWord 39 = .ok (.bipush (12), 2) := by decide +kernel
theorem dC_Enc_shortWord_41 : decode cC_Enc_shortWord 41 = .ok (.ishr, 1) := by decide +kernel
theorem dC_Enc_shortWord_42 : decode cC_Enc_shortWord 42 = .ok (.iconst (1), 1) := by decide +kernel
theorem dC_Enc_shortWord_43 : decode cC_Enc_shortWord 43 = .ok (.iand, 1) := by decide +kernel
theorem dC_Enc_shortWord_44 : decode cC_Enc_shortWord 44 = .ok (.ior, 1) := by decide +kernel
theorem dC_Enc_shortWord_45 : decode cC_Enc_shortWord 45 = .ok (.bipush (13), 2) := by decide +kernel
theorem dC_Enc_shortWord_47 : decode cC_Enc_shortWord 47 = .ok (.ishl, 1) := by decide +kernel
theorem dC_Enc_shortWord_48 : decode cC_Enc_shortWord 48 = .ok (.ior, 1) := by decide +kernel
theorem dC_Enc_shortWord_49 : decode cC_Enc_shortWord 49 = .ok (.aload_n 0, 1) := by decide +kernel
theorem dC_Enc_shortWord_50 : decode cC_Enc_shortWord 50 = .ok (.getfield 118, 3) := by decide +kernel
theorem dC_Enc_shortWord_53 : decode cC_Enc_shortWord 53 = .ok (.bipush (15), 2) := by decide +kernel
theorem dC_Enc_shortWord_55 : decode cC_Enc_shortWord 55 = .ok (.ishr, 1) := by decide +kernel
theorem dC_Enc_shortWord_56 : decode cC_Enc_shortWord 56 = .ok (.bipush (7), 2) := by decide +kernel
theorem dC_Enc_shortWord_58 : decode cC_Enc_shortWord 58 = .ok (.iand, 1) := by decide +kernel
theorem dC_Enc_shortWord_59 : decode cC_Enc_shortWord 59 = .ok (.bipush (7), 2) := by decide +kernel
theorem dC_Enc_shortWord_61 : decode cC_Enc_shortWord 61 = .ok (.ishl, 1) := by decide +kernel
theorem dC_Enc_shortWord_62 : decode cC_Enc_shortWord 62 = .ok (.ior, 1) := by decide +kernel
theorem dC_Enc_shortWord_63 : decode cC_Enc_shortWord 63 = .ok (.ireturn, 1) := by decide +kernel
abbrev cC_Enc_encodeNumber : ByteArray := prog_2_method_8_code
def yC_Enc_encodeNumber : MethodName := ⟨R_Enc, "encodeNumber", "(LLineAssembler$Item;II)I"⟩
theorem dC_Enc_encodeNumber_0 : decode cC_Enc_encodeNumber 0 = .ok (.aload_n 1, 1) := by decide +kernel
theorem dC_Enc_encodeNumber_1 : decode cC_Enc_encodeNumber 1 = .ok (.getfield 57, 3) := by decide +kernel
theorem dC_Enc_encodeNumber_4 : decode cC_Enc_encodeNumber 4 = .ok (.iload_n 2, 1) := by decide +kernel
theorem dC_Enc_encodeNumber_5 : decode cC_Enc_encodeNumber 5 = .ok (.invokestatic 95, 3) := by decide +kernel
theorem dC_Enc_encodeNumber_8 : decode cC_Enc_encodeNumber 8 = .ok (.ifCond .ne (6), 3) := by decide +kernel
theorem dC_Enc_encodeNumber_11 : decode cC_Enc_encodeNumber 11 = .ok (.bipush (10), 2) := by decide +kernel
theorem dC_Enc_encodeNumber_13 : decode cC_Enc_encodeNumber 13 = .ok (.ireturn, 1) := by decide +kernel
theorem dC_Enc_encodeNumber_14 : decode cC_Enc_encodeNumber 14 = .ok (.aload_n 0, 1) := by decide +kernel
theorem dC_Enc_encodeNumber_15 : decode cC_Enc_encodeNumber 15 = .ok (.iload_n 3, 1) := by decide +kernel
theorem dC_Enc_encodeNumber_16 : decode cC_Enc_encodeNumber 16 = .ok (.aload_n 1, 1) := by decide +kernel
theorem dC_Enc_encodeNumber_17 : decode cC_Enc_encodeNumber 17 = .ok (.getfield 118, 3) := by decide +kernel
theorem dC_Enc_encodeNumber_20 : decode cC_Enc_encodeNumber 20 = .ok (.aload_n 1, 1) := by decide +kernel
theorem dC_Enc_encodeNumber_21 : decode cC_Enc_encodeNumber 21 = .ok (.getfield 57, 3) := by decide +kernel
theorem dC_Enc_encodeNumber_24 : decode cC_Enc_encodeNumber 24 = .ok (.iload_n 2, 1) := by decide +kernel
theorem dC_Enc_encodeNumber_25 : decode cC_Enc_encodeNumber 25 = .ok (.invokestatic 144, 3) := by decide +kernel
theorem dC_Enc_encodeNumber_28 : decode cC_Enc_encodeNumber 28 = .ok (.ior, 1) := by decide +kernel
theorem dC_Enc_encodeNumber_29 : decode cC_Enc_encodeNumber 29 = .ok (.aload_n 1, 1) := by decide +kernel
theorem dC_Enc_encodeNumber_30 : decode cC_Enc_encodeNumber 30 = .ok (.getfield 52, 3) := by decide +kernel
theorem dC_Enc_encodeNumber_33 : decode cC_Enc_encodeNumber 33 = .ok (.invokevirtual 128, 3) := by decide +kernel
theorem dC_Enc_encodeNumber_36 : decode cC_Enc_encodeNumber 36 = .ok (.iconst (0), 1) := by decide +kernel
theorem dC_Enc_encodeNumber_37 : decode cC_Enc_encodeNumber 37 = .ok (.ireturn, 1) := by decide +kernel
abbrev cC_Enc_encodeJump : ByteArray := prog_2_method_9_code
def yC_Enc_encodeJump : MethodName := ⟨R_Enc, "encodeJump", "(LLineAssembler$Item;II)I"⟩
theorem dC_Enc_encodeJump_0 : decode cC_Enc_encodeJump 0 = .ok (.aload_n 1, 1) := by decide +kernel
theorem dC_Enc_encodeJump_1 : decode cC_Enc_encodeJump 1 = .ok (.getfield 57, 3) := by decide +kernel
theorem dC_Enc_encodeJump_4 : decode cC_Enc_encodeJump 4 = .ok (.aload_n 1, 1) := by decide +kernel
theorem dC_Enc_encodeJump_5 : decode cC_Enc_encodeJump 5 = .ok (.getfield 52, 3) := by decide +kernel
theorem dC_Enc_encodeJump_8 : decode cC_Enc_encodeJump 8 = .ok (.invokestatic 91, 3) := by decide +kernel
theorem dC_Enc_encodeJump_11 : decode cC_Enc_encodeJump 11 = .ok (.istore 4, 2) := by decide +kernel
theorem dC_Enc_encodeJump_13 : decode cC_Enc_encodeJump 13 = .ok (.aload_n 1, 1) := by decide +kernel
theorem dC_Enc_encodeJump_14 : decode cC_Enc_encodeJump 14 = .ok (.getfield 52, 3) := by decide +kernel
theorem dC_Enc_encodeJump_17 : decode cC_Enc_encodeJump 17 = .ok (.bipush (8), 2) := by decide +kernel
theorem dC_Enc_encodeJump_19 : decode cC_Enc_encodeJump 19 = .ok (.if_icmp .ne (9), 3) := by decide +kernel
theorem dC_Enc_encodeJump_22 : decode cC_Enc_encodeJump 22 = .ok (.iload_n 2, 1) := by decide +kernel
theorem dC_Enc_encodeJump_23 : decode cC_Enc_encodeJump 23 = .ok (.iconst (4), 1) := by decide +kernel
theorem dC_Enc_encodeJump_24 : decode cC_Enc_encodeJump 24 = .ok (.isub, 1) := by decide +kernel
theorem dC_Enc_encodeJump_25 : decode cC_Enc_encodeJump 25 = .ok (.goto (4), 3) := by decide +kernel
theorem dC_Enc_encodeJump_28 : decode cC_Enc_encodeJump 28 = .ok (.iload_n 2, 1) := by decide +kernel
theorem dC_Enc_encodeJump_29 : decode cC_Enc_encodeJump 29 = .ok (.istore 5, 2) := by decide +kernel
theorem dC_Enc_encodeJump_31 : decode cC_Enc_encodeJump 31 = .ok (.iload 4, 2) := by decide +kernel
theorem dC_Enc_encodeJump_33 : decode cC_Enc_encodeJump 33 = .ok (.iload 5, 2) := by decide +kernel
theorem dC_Enc_encodeJump_35 : decode cC_Enc_encodeJump 35 = .ok (.invokestatic 95, 3) := by decide +kernel
theorem dC_Enc_encodeJump_38 : decode cC_Enc_encodeJump 38 = .ok (.ifCond .ne (6), 3) := by decide +kernel
theorem dC_Enc_encodeJump_41 : decode cC_Enc_encodeJump 41 = .ok (.bipush (10), 2) := by decide +kernel
theorem dC_Enc_encodeJump_43 : decode cC_Enc_encodeJump 43 = .ok (.ireturn, 1) := by decide +kernel
theorem dC_Enc_encodeJump_44 : decode cC_Enc_encodeJump 44 = .ok (.iload 4, 2) := by decide +kernel
theorem dC_Enc_encodeJump_46 : decode cC_Enc_encodeJump 46 = .ok (.iload 5, 2) := by decide +kernel
theorem dC_Enc_encodeJump_48 : decode cC_Enc_encodeJump 48 = .ok (.invokestatic 144, 3) := by decide +kernel
theorem dC_Enc_encodeJump_51 : decode cC_Enc_encodeJump 51 = .ok (.istore 6, 2) := by decide +kernel
theorem dC_Enc_encodeJump_53 : decode cC_Enc_encodeJump 53 = .ok (.aload_n 1, 1) := by decide +kernel
theorem dC_Enc_encodeJump_54 : decode cC_Enc_encodeJump 54 = .ok (.getfield 52, 3) := by decide +kernel
theorem dC_Enc_encodeJump_57 : decode cC_Enc_encodeJump 57 = .ok (.bipush (8), 2) := by decide +kernel
theorem dC_Enc_encodeJump_59 : decode cC_Enc_encodeJump 59 = .ok (.if_icmp .ne (41), 3) := by decide +kernel
theorem dC_Enc_encodeJump_62 : decode cC_Enc_encodeJump 62 = .ok (.aload_n 0, 1) := by decide +kernel
theorem dC_Enc_encodeJump_63 : decode cC_Enc_encodeJump 63 = .ok (.iload_n 3, 1) := by decide +kernel
theorem dC_Enc_encodeJump_64 : decode cC_Enc_encodeJump 64 = .ok (.aload_n 1, 1) := by decide +kernel
theorem dC_Enc_encodeJump_65 : decode cC_Enc_encodeJump 65 = .ok (.getfield 118, 3) := by decide +kernel
theorem dC_Enc_encodeJump_68 : decode cC_Enc_encodeJump 68 = .ok (.sipush (4096), 3) := by decide +kernel
theorem dC_Enc_encodeJump_71 : decode cC_Enc_encodeJump 71 = .ok (.ixor, 1) := by decide +kernel
theorem dC_Enc_encodeJump_72 : decode cC_Enc_encodeJump 72 = .ok (.bipush (116), 2) := by decide +kernel
theorem dC_Enc_encodeJump_74 : decode cC_Enc_encodeJump 74 = .ok (.bipush (8), 2) := by decide +kernel
theorem dC_Enc_encodeJump_76 : decode cC_Enc_encodeJump 76 = .ok (.invokestatic 144, 3) := by decide +kernel
theorem dC_Enc_encodeJump_79 : decode cC_Enc_encodeJump 79 = .ok (.ior, 1) := by decide +kernel
theorem dC_Enc_encodeJump_80 : decode cC_Enc_encodeJump 80 = .ok (.iconst (4), 1) := by decide +kernel
theorem dC_Enc_encodeJump_81 : decode cC_Enc_encodeJump 81 = .ok (.invokevirtual 128, 3) := by decide +kernel
theorem dC_Enc_encodeJump_84 : decode cC_Enc_encodeJump 84 = .ok (.aload_n 0, 1) := by decide +kernel
theorem dC_Enc_encodeJump_85 : decode cC_Enc_encodeJump 85 = .ok (.iload_n 3, 1) := by decide +kernel
theorem dC_Enc_encodeJump_86 : decode cC_Enc_encodeJump 86 = .ok (.iconst (4), 1) := by decide +kernel
theorem dC_Enc_encodeJump_87 : decode cC_Enc_encodeJump 87 = .ok (.iadd, 1) := by decide +kernel
theorem dC_Enc_encodeJump_88 : decode cC_Enc_encodeJump 88 = .ok (.bipush (111), 2) := by decide +kernel
theorem dC_Enc_encodeJump_90 : decode cC_Enc_encodeJump 90 = .ok (.iload 6, 2) := by decide +kernel
theorem dC_Enc_encodeJump_92 : decode cC_Enc_encodeJump 92 = .ok (.ior, 1) := by decide +kernel
theorem dC_Enc_encodeJump_93 : decode cC_Enc_encodeJump 93 = .ok (.iconst (4), 1) := by decide +kernel
theorem dC_Enc_encodeJump_94 : decode cC_Enc_encodeJump 94 = .ok (.invokevirtual 128, 3) := by decide +kernel
theorem dC_Enc_encodeJump_97 : decode cC_Enc_encodeJump 97 = .ok (.goto (40), 3) := by decide +kernel
theorem dC_Enc_encodeJump_100 : decode cC_Enc_encodeJump 100 = .ok (.aload_n 1, 1) := by decide +kernel
theorem dC_Enc_encodeJump_101 : decode cC_Enc_encodeJump 101 = .ok (.getfield 52, 3) := by decide +kernel
theorem dC_Enc_encodeJump_104 : decode cC_Enc_encodeJump 104 = .ok (.iconst (4), 1) := by decide +kernel
theorem dC_Enc_encodeJump_105 : decode cC_Enc_encodeJump 105 = .ok (.if_icmp .ne (19), 3) := by decide +kernel
theorem dC_Enc_encodeJump_108 : decode cC_Enc_encodeJump 108 = .ok (.aload_n 0, 1) := by decide +kernel
theorem dC_Enc_encodeJump_109 : decode cC_Enc_encodeJump 109 = .ok (.iload_n 3, 1) := by decide +kernel
theorem dC_Enc_encodeJump_110 : decode cC_Enc_encodeJump 110 = .ok (.aload_n 1, 1) := by decide +kernel
theorem dC_Enc_encodeJump_111 : decode cC_Enc_encodeJump 111 = .ok (.getfield 118, 3) := by decide +kernel
theorem dC_Enc_encodeJump_114 : decode cC_Enc_encodeJump 114 = .ok (.iload 6, 2) := by decide +kernel
theorem dC_Enc_encodeJump_116 : decode cC_Enc_encodeJump 116 = .ok (.ior, 1) := by decide +kernel
theorem dC_Enc_encodeJump_117 : decode cC_Enc_encodeJump 117 = .ok (.iconst (4), 1) := by decide +kernel
theorem dC_Enc_encodeJump_118 : decode cC_Enc_encodeJump 118 = .ok (.invokevirtual 128, 3) := by decide +kernel
theorem dC_Enc_encodeJump_121 : decode cC_Enc_encodeJump 121 = .ok (.goto (16), 3) := by decide +kernel
theorem dC_Enc_encodeJump_124 : decode cC_Enc_encodeJump 124 = .ok (.aload_n 0, 1) := by decide +kernel
theorem dC_Enc_encodeJump_125 : decode cC_Enc_encodeJump 125 = .ok (.iload_n 3, 1) := by decide +kernel
theorem dC_Enc_encodeJump_126 : decode cC_Enc_encodeJump 126 = .ok (.aload_n 1, 1) := by decide +kernel
theorem dC_Enc_encodeJump_127 : decode cC_Enc_encodeJump 127 = .ok (.invokestatic 147, 3) := by decide +kernel
theorem dC_Enc_encodeJump_130 : decode cC_Enc_encodeJump 130 = .ok (.iload 6, 2) := by decide +kernel
theorem dC_Enc_encodeJump_132 : decode cC_Enc_encodeJump 132 = .ok (.ior, 1) := by decide +kernel
theorem dC_Enc_encodeJump_133 : decode cC_Enc_encodeJump 133 = .ok (.iconst (2), 1) := by decide +kernel
theorem dC_Enc_encodeJump_134 : decode cC_Enc_encodeJump 134 = .ok (.invokevirtual 128, 3) := by decide +kernel
theorem dC_Enc_encodeJump_137 : decode cC_Enc_encodeJump 137 = .ok (.iconst (0), 1) := by decide +kernel
theorem dC_Enc_encodeJump_138 : decode cC_Enc_encodeJump 138 = .ok (.ireturn, 1) := by decide +kernel
abbrev cC_Enc_encodeExpression : ByteArray := prog_2_method_7_code
def yC_Enc_encodeExpression : MethodName := ⟨R_Enc, "encodeExpression", "(LLineAssembler$Item;I)I"⟩
theorem dC_Enc_encodeExpression_0 : decode cC_Enc_encodeExpression 0 = .ok (.aload_n 0, 1) := by decide +kernel
theorem dC_Enc_encodeExpression_1 : decode cC_Enc_encodeExpression 1 = .ok (.getfield 29, 3) := by decide +kernel
theorem dC_Enc_encodeExpression_4 : decode cC_Enc_encodeExpression 4 = .ok (.aload_n 1, 1) := by decide +kernel
theorem dC_Enc_encodeExpression_5 : decode cC_Enc_encodeExpression 5 = .ok (.getfield 70, 3) := by decide +kernel
theorem dC_Enc_encodeExpression_8 : decode cC_Enc_encodeExpression 8 = .ok (.aload_n 1, 1) := by decide +kernel
theorem dC_Enc_encodeExpression_9 : decode cC_Enc_encodeExpression 9 = .ok (.getfield 73, 3) := by decide +kernel
theorem dC_Enc_encodeExpression_12 : decode cC_Enc_encodeExpression 12 = .ok (.aload_n 1, 1) := by decide +kernel
theorem dC_Enc_encodeExpression_13 : decode cC_Enc_encodeExpression 13 = .ok (.getfield 76, 3) := by decide +kernel
theorem dC_Enc_encodeExpression_16 : decode cC_Enc_encodeExpression 16 = .ok (.invokevirtual 79, 3) := by decide +kernel
theorem dC_Enc_encodeExpression_19 : decode cC_Enc_encodeExpression 19 = .ok (.istore_n 3, 1) := by decide +kernel
theorem dC_Enc_encodeExpression_20 : decode cC_Enc_encodeExpression 20 = .ok (.iload_n 3, 1) := by decide +kernel
theorem dC_Enc_encodeExpression_21 : decode cC_Enc_encodeExpression 21 = .ok (.ifCond .eq (5), 3) := by decide +kernel
theorem dC_Enc_encodeExpression_24 : decode cC_Enc_encodeExpression 24 = .ok (.iload_n 3, 1) := by decide +kernel
theorem dC_Enc_encodeExpression_25 : decode cC_Enc_encodeExpression 25 = .ok (.ireturn, 1) := by decide +kernel
theorem dC_Enc_encodeExpression_26 : decode cC_Enc_encodeExpression 26 = .ok (.aload_n 0, 1) := by decide +kernel
theorem dC_Enc_encodeExpression_27 : decode cC_Enc_encodeExpression 27 = .ok (.getfield 29, 3) := by decide +kernel
theorem dC_Enc_encodeExpression_30 : decode cC_Enc_encodeExpression 30 = .ok (.getfield 85, 3) := by decide +kernel
theorem dC_Enc_encodeExpression_33 : decode cC_Enc_encodeExpression 33 = .ok (.istore 4, 2) := by decide +kernel
theorem dC_Enc_encodeExpression_35 : decode cC_Enc_encodeExpression 35 = .ok (.aload_n 1, 1) := by decide +kernel
theorem dC_Enc_encodeExpression_36 : decode cC_Enc_encodeExpression 36 = .ok (.getfield 57, 3) := by decide +kernel
theorem dC_Enc_encodeExpression_39 : decode cC_Enc_encodeExpression 39 = .ok (.lookupswitch (123) #[(61, 73), (64, 86), (66, 112), (74, 112), (106, 112), (116, 101), (120, 101), (122, 101)], 73) := by decide +kernel
theorem dC_Enc_encodeExpression_112 : decode cC_Enc_encodeExpression 112 = .ok (.aload_n 0, 1) := by decide +kernel
theorem dC_Enc_encodeExpression_113 : decode cC_Enc_encodeExpression 113 = .ok (.iload_n 2, 1) := by decide +kernel
theorem dC_Enc_encodeExpression_114 : decode cC_Enc_encodeExpression 114 = .ok (.iload 4, 2) := by decide +kernel
theorem dC_Enc_encodeExpression_116 : decode cC_Enc_encodeExpression 116 = .ok (.aload_n 1, 1) := by decide +kernel
theorem dC_Enc_encodeExpression_117 : decode cC_Enc_encodeExpression 117 = .ok (.getfield 52, 3) := by decide +kernel
theorem dC_Enc_encodeExpression_120 : decode cC_Enc_encodeExpression 120 = .ok (.invokevirtual 128, 3) := by decide +kernel
theorem dC_Enc_encodeExpression_123 : decode cC_Enc_encodeExpression 123 = .ok (.iconst (0), 1) := by decide +kernel
theorem dC_Enc_encodeExpression_124 : decode cC_Enc_encodeExpression 124 = .ok (.ireturn, 1) := by decide +kernel
theorem dC_Enc_encodeExpression_125 : decode cC_Enc_encodeExpression 125 = .ok (.aload_n 0, 1) := by decide +kernel
theorem dC_Enc_encodeExpression_126 : decode cC_Enc_encodeExpression 126 = .ok (.aload_n 1, 1) := by decide +kernel
theorem dC_Enc_encodeExpression_127 : decode cC_Enc_encodeExpression 127 = .ok (.getfield 118, 3) := by decide +kernel
theorem dC_Enc_encodeExpression_130 : decode cC_Enc_encodeExpression 130 = .ok (.iload 4, 2) := by decide +kernel
theorem dC_Enc_encodeExpression_132 : decode cC_Enc_encodeExpression 132 = .ok (.iload_n 2, 1) := by decide +kernel
theorem dC_Enc_encodeExpression_133 : decode cC_Enc_encodeExpression 133 = .ok (.isub, 1) := by decide +kernel
theorem dC_Enc_encodeExpression_134 : decode cC_Enc_encodeExpression 134 = .ok (.iload_n 2, 1) := by decide +kernel
theorem dC_Enc_encodeExpression_135 : decode cC_Enc_encodeExpression 135 = .ok (.invokevirtual 134, 3) := by decide +kernel
theorem dC_Enc_encodeExpression_138 : decode cC_Enc_encodeExpression 138 = .ok (.iconst (0), 1) := by decide +kernel
theorem dC_Enc_encodeExpression_139 : decode cC_Enc_encodeExpression 139 = .ok (.ireturn, 1) := by decide +kernel
theorem dC_Enc_encodeExpression_140 : decode cC_Enc_encodeExpression 140 = .ok (.aload_n 0, 1) := by decide +kernel
theorem dC_Enc_encodeExpression_141 : decode cC_Enc_encodeExpression 141 = .ok (.aload_n 1, 1) := by decide +kernel
theorem dC_Enc_encodeExpression_142 : decode cC_Enc_encodeExpression 142 = .ok (.iload 4, 2) := by decide +kernel
theorem dC_Enc_encodeExpression_144 : decode cC_Enc_encodeExpression 144 = .ok (.iload_n 2, 1) := by decide +kernel
theorem dC_Enc_encodeExpression_145 : decode cC_Enc_encodeExpression 145 = .ok (.isub, 1) := by decide +kernel
theorem dC_Enc_encodeExpression_146 : decode cC_Enc_encodeExpression 146 = .ok (.iload_n 2, 1) := by decide +kernel
theorem dC_Enc_encodeExpression_147 : decode cC_Enc_encodeExpression 147 = .ok (.invokevirtual 137, 3) := by decide +kernel
theorem dC_Enc_encodeExpression_150 : decode cC_Enc_encodeExpression 150 = .ok (.ireturn, 1) := by decide +kernel
theorem dC_Enc_encodeExpression_151 : decode cC_Enc_encodeExpression 151 = .ok (.aload_n 0, 1) := by decide +kernel
theorem dC_Enc_encodeExpression_152 : decode cC_Enc_encodeExpression 152 = .ok (.aload_n 1, 1) := by decide +kernel
theorem dC_Enc_encodeExpression_153 : decode cC_Enc_encodeExpression 153 = .ok (.iload 4, 2) := by decide +kernel
theorem dC_Enc_encodeExpression_155 : decode cC_Enc_encodeExpression 155 = .ok (.iload_n 2, 1) := by decide +kernel
theorem dC_Enc_encodeExpression_156 : decode cC_Enc_encodeExpression 156 = .ok (.isub, 1) := by decide +kernel
theorem dC_Enc_encodeExpression_157 : decode cC_Enc_encodeExpression 157 = .ok (.iload_n 2, 1) := by decide +kernel
theorem dC_Enc_encodeExpression_158 : decode cC_Enc_encodeExpression 158 = .ok (.invokevirtual 141, 3) := by decide +kernel
theorem dC_Enc_encodeExpression_161 : decode cC_Enc_encodeExpression 161 = .ok (.ireturn, 1) := by decide +kernel
theorem dC_Enc_encodeExpression_162 : decode cC_Enc_encodeExpression 162 = .ok (.aload_n 0, 1) := by decide +kernel
theorem dC_Enc_encodeExpression_163 : decode cC_Enc_encodeExpression 163 = .ok (.aload_n 1, 1) := by decide +kernel
theorem dC_Enc_encodeExpression_164 : decode cC_Enc_encodeExpression 164 = .ok (.iload 4, 2) := by decide +kernel
theorem dC_Enc_encodeExpression_166 : decode cC_Enc_encodeExpression 166 = .ok (.iload_n 2, 1) := by decide +kernel
theorem dC_Enc_encodeExpression_167 : decode cC_Enc_encodeExpression 167 = .ok (.invokevirtual 141, 3) := by decide +kernel
theorem dC_Enc_encodeExpression_170 : decode cC_Enc_encodeExpression 170 = .ok (.ireturn, 1) := by decide +kernel
abbrev cC_Enc_encode : ByteArray := prog_2_method_6_code
def yC_Enc_encode : MethodName := ⟨R_Enc, "encode", "(LLineAssembler$Item;I)I"⟩
theorem dC_Enc_encode_0 : decode cC_Enc_encode 0 = .ok (.aload_n 1, 1) := by decide +kernel
theorem dC_Enc_encode_1 : decode cC_Enc_encode 1 = .ok (.getfield 57, 3) := by decide +kernel
theorem dC_Enc_encode_4 : decode cC_Enc_encode 4 = .ok (.tableswitch (94) (0) (4) #[79, 36, 36, 36, 38], 36) := by decide +kernel
theorem dC_Enc_encode_40 : decode cC_Enc_encode 40 = .ok (.iconst (0), 1) := by decide +kernel
theorem dC_Enc_encode_41 : decode cC_Enc_encode 41 = .ok (.ireturn, 1) := by decide +kernel
theorem dC_Enc_encode_42 : decode cC_Enc_encode 42 = .ok (.iconst (0), 1) := by decide +kernel
theorem dC_Enc_encode_43 : decode cC_Enc_encode 43 = .ok (.istore_n 3, 1) := by decide +kernel
theorem dC_Enc_encode_44 : decode cC_Enc_encode 44 = .ok (.iload_n 3, 1) := by decide +kernel
theorem dC_Enc_encode_45 : decode cC_Enc_encode 45 = .ok (.aload_n 1, 1) := by decide +kernel
theorem dC_Enc_encode_46 : decode cC_Enc_encode 46 = .ok (.getfield 52, 3) := by decide +kernel
theorem dC_Enc_encode_49 : decode cC_Enc_encode 49 = .ok (.if_icmp .ge (32), 3) := by decide +kernel
theorem dC_Enc_encode_52 : decode cC_Enc_encode 52 = .ok (.aload_n 0, 1) := by decide +kernel
theorem dC_Enc_encode_53 : decode cC_Enc_encode 53 = .ok (.getfield 12, 3) := by decide +kernel
theorem dC_Enc_encode_56 : decode cC_Enc_encode 56 = .ok (.iload_n 2, 1) := by decide +kernel
theorem dC_Enc_encode_57 : decode cC_Enc_encode 57 = .ok (.iload_n 3, 1) := by decide +kernel
theorem dC_Enc_encode_58 : decode cC_Enc_encode 58 = .ok (.iadd, 1) := by decide +kernel
theorem dC_Enc_encode_59 : decode cC_Enc_encode 59 = .ok (.aload_n 0, 1) := by decide +kernel
theorem dC_Enc_encode_60 : decode cC_Enc_encode 60 = .ok (.getfield 33, 3) := by decide +kernel
theorem dC_Enc_encode_63 : decode cC_Enc_encode 63 = .ok (.aload_n 1, 1) := by decide +kernel
theorem dC_Enc_encode_64 : decode cC_Enc_encode 64 = .ok (.getfield 118, 3) := by decide +kernel
theorem dC_Enc_encode_67 : decode cC_Enc_encode 67 = .ok (.iload_n 3, 1) := by decide +kernel
theorem dC_Enc_encode_68 : decode cC_Enc_encode 68 = .ok (.iadd, 1) := by decide +kernel
theorem dC_Enc_encode_69 : decode cC_Enc_encode 69 = .ok (.invokevirtual 121, 3) := by decide +kernel
theorem dC_Enc_encode_72 : decode cC_Enc_encode 72 = .ok (.invokevirtual 124, 3) := by decide +kernel
theorem dC_Enc_encode_75 : decode cC_Enc_encode 75 = .ok (.iinc 3 (1), 3) := by decide +kernel
theorem dC_Enc_encode_78 : decode cC_Enc_encode 78 = .ok (.goto (-34), 3) := by decide +kernel
theorem dC_Enc_encode_81 : decode cC_Enc_encode 81 = .ok (.iconst (0), 1) := by decide +kernel
theorem dC_Enc_encode_82 : decode cC_Enc_encode 82 = .ok (.ireturn, 1) := by decide +kernel
theorem dC_Enc_encode_83 : decode cC_Enc_encode 83 = .ok (.aload_n 0, 1) := by decide +kernel
theorem dC_Enc_encode_84 : decode cC_Enc_encode 84 = .ok (.iload_n 2, 1) := by decide +kernel
theorem dC_Enc_encode_85 : decode cC_Enc_encode 85 = .ok (.aload_n 1, 1) := by decide +kernel
theorem dC_Enc_encode_86 : decode cC_Enc_encode 86 = .ok (.getfield 118, 3) := by decide +kernel
theorem dC_Enc_encode_89 : decode cC_Enc_encode 89 = .ok (.aload_n 1, 1) := by decide +kernel
theorem dC_Enc_encode_90 : decode cC_Enc_encode 90 = .ok (.getfield 52, 3) := by decide +kernel
theorem dC_Enc_encode_93 : decode cC_Enc_encode 93 = .ok (.invokevirtual 128, 3) := by decide +kernel
theorem dC_Enc_encode_96 : decode cC_Enc_encode 96 = .ok (.iconst (0), 1) := by decide +kernel
theorem dC_Enc_encode_97 : decode cC_Enc_encode 97 = .ok (.ireturn, 1) := by decide +kernel
theorem dC_Enc_encode_98 : decode cC_Enc_encode 98 = .ok (.aload_n 0, 1) := by decide +kernel
theorem dC_Enc_encode_99 : decode cC_Enc_encode 99 = .ok (.aload_n 1, 1) := by decide +kernel
theorem dC_Enc_encode_100 : decode cC_Enc_encode 100 = .ok (.iload_n 2, 1) := by decide +kernel
theorem dC_Enc_encode_101 : decode cC_Enc_encode 101 = .ok (.invokevirtual 131, 3) := by decide +kernel
theorem dC_Enc_encode_104 : decode cC_Enc_encode 104 = .ok (.ireturn, 1) := by decide +kernel
abbrev cC_Enc_isTooFar : ByteArray := prog_2_method_4_code
def yC_Enc_isTooFar : MethodName := ⟨R_Enc, "isTooFar", "(ILLineAssembler$Item;)Z"⟩
theorem dC_Enc_isTooFar_0 : decode cC_Enc_isTooFar 0 = .ok (.aload_n 0, 1) := by decide +kernel
theorem dC_Enc_isTooFar_1 : decode cC_Enc_isTooFar 1 = .ok (.getfield 29, 3) := by decide +kernel
theorem dC_Enc_isTooFar_4 : decode cC_Enc_isTooFar 4 = .ok (.aload_n 2, 1) := by decide +kernel
theorem dC_Enc_isTooFar_5 : decode cC_Enc_isTooFar 5 = .ok (.getfield 70, 3) := by decide +kernel
theorem dC_Enc_isTooFar_8 : decode cC_Enc_isTooFar 8 = .ok (.aload_n 2, 1) := by decide +kernel
theorem dC_Enc_isTooFar_9 : decode cC_Enc_isTooFar 9 = .ok (.getfield 73, 3) := by decide +kernel
theorem dC_Enc_isTooFar_12 : decode cC_Enc_isTooFar 12 = .ok (.aload_n 2, 1) := by decide +kernel
theorem dC_Enc_isTooFar_13 : decode cC_Enc_isTooFar 13 = .ok (.getfield 76, 3) := by decide +kernel
theorem dC_Enc_isTooFar_16 : decode cC_Enc_isTooFar 16 = .ok (.invokevirtual 79, 3) := by decide +kernel
theorem dC_Enc_isTooFar_19 : decode cC_Enc_isTooFar 19 = .ok (.ifCond .eq (5), 3) := by decide +kernel
theorem dC_Enc_isTooFar_22 : decode cC_Enc_isTooFar 22 = .ok (.iconst (0), 1) := by decide +kernel
theorem dC_Enc_isTooFar_23 : decode cC_Enc_isTooFar 23 = .ok (.ireturn, 1) := by decide +kernel
theorem dC_Enc_isTooFar_24 : decode cC_Enc_isTooFar 24 = .ok (.aload_n 0, 1) := by decide +kernel
theorem dC_Enc_isTooFar_25 : decode cC_Enc_isTooFar 25 = .ok (.getfield 29, 3) := by decide +kernel
theorem dC_Enc_isTooFar_28 : decode cC_Enc_isTooFar 28 = .ok (.getfield 85, 3) := by decide +kernel
theorem dC_Enc_isTooFar_31 : decode cC_Enc_isTooFar 31 = .ok (.aload_n 0, 1) := by decide +kernel
theorem dC_Enc_isTooFar_32 : decode cC_Enc_isTooFar 32 = .ok (.getfield 25, 3) := by decide +kernel
theorem dC_Enc_isTooFar_35 : decode cC_Enc_isTooFar 35 = .ok (.iload_n 1, 1) := by decide +kernel
theorem dC_Enc_isTooFar_36 : decode cC_Enc_isTooFar 36 = .ok (.invokevirtual 88, 3) := by decide +kernel
theorem dC_Enc_isTooFar_39 : decode cC_Enc_isTooFar 39 = .ok (.isub, 1) := by decide +kernel
theorem dC_Enc_isTooFar_40 : decode cC_Enc_isTooFar 40 = .ok (.istore_n 3, 1) := by decide +kernel
theorem dC_Enc_isTooFar_41 : decode cC_Enc_isTooFar 41 = .ok (.aload_n 2, 1) := by decide +kernel
theorem dC_Enc_isTooFar_42 : decode cC_Enc_isTooFar 42 = .ok (.getfield 57, 3) := by decide +kernel
theorem dC_Enc_isTooFar_45 : decode cC_Enc_isTooFar 45 = .ok (.aload_n 2, 1) := by decide +kernel
theorem dC_Enc_isTooFar_46 : decode cC_Enc_isTooFar 46 = .ok (.getfield 52, 3) := by decide +kernel
theorem dC_Enc_isTooFar_49 : decode cC_Enc_isTooFar 49 = .ok (.invokestatic 91, 3) := by decide +kernel
theorem dC_Enc_isTooFar_52 : decode cC_Enc_isTooFar 52 = .ok (.iload_n 3, 1) := by decide +kernel
theorem dC_Enc_isTooFar_53 : decode cC_Enc_isTooFar 53 = .ok (.invokestatic 95, 3) := by decide +kernel
theorem dC_Enc_isTooFar_56 : decode cC_Enc_isTooFar 56 = .ok (.ifCond .ne (7), 3) := by decide +kernel
theorem dC_Enc_isTooFar_59 : decode cC_Enc_isTooFar 59 = .ok (.iconst (1), 1) := by decide +kernel
theorem dC_Enc_isTooFar_60 : decode cC_Enc_isTooFar 60 = .ok (.goto (4), 3) := by decide +kernel
theorem dC_Enc_isTooFar_63 : decode cC_Enc_isTooFar 63 = .ok (.iconst (0), 1) := by decide +kernel
theorem dC_Enc_isTooFar_64 : decode cC_Enc_isTooFar 64 = .ok (.ireturn, 1) := by decide +kernel
abbrev cC_Enc_lengthenAll : ByteArray := prog_2_method_3_code
def yC_Enc_lengthenAll : MethodName := ⟨R_Enc, "lengthenAll", "()Z"⟩
theorem dC_Enc_lengthenAll_0 : decode cC_Enc_lengthenAll 0 = .ok (.iconst (0), 1) := by decide +kernel
theorem dC_Enc_lengthenAll_1 : decode cC_Enc_lengthenAll 1 = .ok (.istore_n 1, 1) := by decide +kernel
theorem dC_Enc_lengthenAll_2 : decode cC_Enc_lengthenAll 2 = .ok (.iconst (0), 1) := by decide +kernel
theorem dC_Enc_lengthenAll_3 : decode cC_Enc_lengthenAll 3 = .ok (.istore_n 2, 1) := by decide +kernel
theorem dC_Enc_lengthenAll_4 : decode cC_Enc_lengthenAll 4 = .ok (.iload_n 2, 1) := by decide +kernel
theorem dC_Enc_lengthenAll_5 : decode cC_Enc_lengthenAll 5 = .ok (.aload_n 0, 1) := by decide +kernel
theorem dC_Enc_lengthenAll_6 : decode cC_Enc_lengthenAll 6 = .ok (.getfield 25, 3) := by decide +kernel
theorem dC_Enc_lengthenAll_9 : decode cC_Enc_lengthenAll 9 = .ok (.getfield 41, 3) := by decide +kernel
theorem dC_Enc_lengthenAll_12 : decode cC_Enc_lengthenAll 12 = .ok (.if_icmp .ge (53), 3) := by decide +kernel
theorem dC_Enc_lengthenAll_15 : decode cC_Enc_lengthenAll 15 = .ok (.aload_n 0, 1) := by decide +kernel
theorem dC_Enc_lengthenAll_16 : decode cC_Enc_lengthenAll 16 = .ok (.getfield 25, 3) := by decide +kernel
theorem dC_Enc_lengthenAll_19 : decode cC_Enc_lengthenAll 19 = .ok (.iload_n 2, 1) := by decide +kernel
theorem dC_Enc_lengthenAll_20 : decode cC_Enc_lengthenAll 20 = .ok (.invokevirtual 48, 3) := by decide +kernel
theorem dC_Enc_lengthenAll_23 : decode cC_Enc_lengthenAll 23 = .ok (.astore_n 3, 1) := by decide +kernel
theorem dC_Enc_lengthenAll_24 : decode cC_Enc_lengthenAll 24 = .ok (.aload_n 3, 1) := by decide +kernel
theorem dC_Enc_lengthenAll_25 : decode cC_Enc_lengthenAll 25 = .ok (.getfield 52, 3) := by decide +kernel
theorem dC_Enc_lengthenAll_28 : decode cC_Enc_lengthenAll 28 = .ok (.aload_n 3, 1) := by decide +kernel
theorem dC_Enc_lengthenAll_29 : decode cC_Enc_lengthenAll 29 = .ok (.getfield 57, 3) := by decide +kernel
theorem dC_Enc_lengthenAll_32 : decode cC_Enc_lengthenAll 32 = .ok (.invokestatic 60, 3) := by decide +kernel
theorem dC_Enc_lengthenAll_35 : decode cC_Enc_lengthenAll 35 = .ok (.if_icmp .ge (24), 3) := by decide +kernel
theorem dC_Enc_lengthenAll_38 : decode cC_Enc_lengthenAll 38 = .ok (.aload_n 0, 1) := by decide +kernel
theorem dC_Enc_lengthenAll_39 : decode cC_Enc_lengthenAll 39 = .ok (.iload_n 2, 1) := by decide +kernel
theorem dC_Enc_lengthenAll_40 : decode cC_Enc_lengthenAll 40 = .ok (.aload_n 3, 1) := by decide +kernel
theorem dC_Enc_lengthenAll_41 : decode cC_Enc_lengthenAll 41 = .ok (.invokevirtual 66, 3) := by decide +kernel
theorem dC_Enc_lengthenAll_44 : decode cC_Enc_lengthenAll 44 = .ok (.ifCond .eq (15), 3) := by decide +kernel
theorem dC_Enc_lengthenAll_47 : decode cC_Enc_lengthenAll 47 = .ok (.aload_n 3, 1) := by decide +kernel
theorem dC_Enc_lengthenAll_48 : decode cC_Enc_lengthenAll 48 = .ok (.dup, 1) := by decide +kernel
theorem dC_Enc_lengthenAll_49 : decode cC_Enc_lengthenAll 49 = .ok (.getfield 52, 3) := by decide +kernel
theorem dC_Enc_lengthenAll_52 : decode cC_Enc_lengthenAll 52 = .ok (.iconst (2), 1) := by decide +kernel
theorem dC_Enc_lengthenAll_53 : decode cC_Enc_lengthenAll 53 = .ok (.imul, 1) := by decide +kernel
theorem dC_Enc_lengthenAll_54 : decode cC_Enc_lengthenAll 54 = .ok (.putfield 52, 3) := by decide +kernel
theorem dC_Enc_lengthenAll_57 : decode cC_Enc_lengthenAll 57 = .ok (.iconst (1), 1) := by decide +kernel
theorem dC_Enc_lengthenAll_58 : decode cC_Enc_lengthenAll 58 = .ok (.istore_n 1, 1) := by decide +kernel
theorem dC_Enc_lengthenAll_59 : decode cC_Enc_lengthenAll 59 = .ok (.iinc 2 (1), 3) := by decide +kernel
theorem dC_Enc_lengthenAll_62 : decode cC_Enc_lengthenAll 62 = .ok (.goto (-58), 3) := by decide +kernel
theorem dC_Enc_lengthenAll_65 : decode cC_Enc_lengthenAll 65 = .ok (.iload_n 1, 1) := by decide +kernel
theorem dC_Enc_lengthenAll_66 : decode cC_Enc_lengthenAll 66 = .ok (.ireturn, 1) := by decide +kernel
abbrev cC_Enc_settle : ByteArray := prog_2_method_2_code
def yC_Enc_settle : MethodName := ⟨R_Enc, "settle", "()V"⟩
theorem dC_Enc_settle_0 : decode cC_Enc_settle 0 = .ok (.aload_n 0, 1) := by decide +kernel
theorem dC_Enc_settle_1 : decode cC_Enc_settle 1 = .ok (.iconst (0), 1) := by decide +kernel
theorem dC_Enc_settle_2 : decode cC_Enc_settle 2 = .ok (.putfield 21, 3) := by decide +kernel
theorem dC_Enc_settle_5 : decode cC_Enc_settle 5 = .ok (.aload_n 0, 1) := by decide +kernel
theorem dC_Enc_settle_6 : decode cC_Enc_settle 6 = .ok (.getfield 25, 3) := by decide +kernel
theorem dC_Enc_settle_9 : decode cC_Enc_settle 9 = .ok (.invokevirtual 36, 3) := by decide +kernel
theorem dC_Enc_settle_12 : decode cC_Enc_settle 12 = .ok (.iconst (2), 1) := by decide +kernel
theorem dC_Enc_settle_13 : decode cC_Enc_settle 13 = .ok (.aload_n 0, 1) := by decide +kernel
theorem dC_Enc_settle_14 : decode cC_Enc_settle 14 = .ok (.getfield 25, 3) := by decide +kernel
theorem dC_Enc_settle_17 : decode cC_Enc_settle 17 = .ok (.getfield 41, 3) := by decide +kernel
theorem dC_Enc_settle_20 : decode cC_Enc_settle 20 = .ok (.imul, 1) := by decide +kernel
theorem dC_Enc_settle_21 : decode cC_Enc_settle 21 = .ok (.istore_n 1, 1) := by decide +kernel
theorem dC_Enc_settle_22 : decode cC_Enc_settle 22 = .ok (.aload_n 0, 1) := by decide +kernel
theorem dC_Enc_settle_23 : decode cC_Enc_settle 23 = .ok (.getfield 21, 3) := by decide +kernel
theorem dC_Enc_settle_26 : decode cC_Enc_settle 26 = .ok (.iload_n 1, 1) := by decide +kernel
theorem dC_Enc_settle_27 : decode cC_Enc_settle 27 = .ok (.if_icmp .gt (30), 3) := by decide +kernel
theorem dC_Enc_settle_30 : decode cC_Enc_settle 30 = .ok (.aload_n 0, 1) := by decide +kernel
theorem dC_Enc_settle_31 : decode cC_Enc_settle 31 = .ok (.invokevirtual 44, 3) := by decide +kernel
theorem dC_Enc_settle_34 : decode cC_Enc_settle 34 = .ok (.ifCond .eq (23), 3) := by decide +kernel
theorem dC_Enc_settle_37 : decode cC_Enc_settle 37 = .ok (.aload_n 0, 1) := by decide +kernel
theorem dC_Enc_settle_38 : decode cC_Enc_settle 38 = .ok (.dup, 1) := by decide +kernel
theorem dC_Enc_settle_39 : decode cC_Enc_settle 39 = .ok (.getfield 21, 3) := by decide +kernel
theorem dC_Enc_settle_42 : decode cC_Enc_settle 42 = .ok (.iconst (1), 1) := by decide +kernel
theorem dC_Enc_settle_43 : decode cC_Enc_settle 43 = .ok (.iadd, 1) := by decide +kernel
theorem dC_Enc_settle_44 : decode cC_Enc_settle 44 = .ok (.putfield 21, 3) := by decide +kernel
theorem dC_Enc_settle_47 : decode cC_Enc_settle 47 = .ok (.aload_n 0, 1) := by decide +kernel
theorem dC_Enc_settle_48 : decode cC_Enc_settle 48 = .ok (.getfield 25, 3) := by decide +kernel
theorem dC_Enc_settle_51 : decode cC_Enc_settle 51 = .ok (.invokevirtual 36, 3) := by decide +kernel
theorem dC_Enc_settle_54 : decode cC_Enc_settle 54 = .ok (.goto (-32), 3) := by decide +kernel
theorem dC_Enc_settle_57 : decode cC_Enc_settle 57 = .ok (.return_, 1) := by decide +kernel
abbrev cC_Enc_encodeAll : ByteArray := prog_2_method_5_code
def yC_Enc_encodeAll : MethodName := ⟨R_Enc, "encodeAll", "()I"⟩
theorem dC_Enc_encodeAll_0 : decode cC_Enc_encodeAll 0 = .ok (.aload_n 0, 1) := by decide +kernel
theorem dC_Enc_encodeAll_1 : decode cC_Enc_encodeAll 1 = .ok (.getfield 12, 3) := by decide +kernel
theorem dC_Enc_encodeAll_4 : decode cC_Enc_encodeAll 4 = .ok (.aload_n 0, 1) := by decide +kernel
theorem dC_Enc_encodeAll_5 : decode cC_Enc_encodeAll 5 = .ok (.getfield 25, 3) := by decide +kernel
theorem dC_Enc_encodeAll_8 : decode cC_Enc_encodeAll 8 = .ok (.invokevirtual 99, 3) := by decide +kernel
theorem dC_Enc_encodeAll_11 : decode cC_Enc_encodeAll 11 = .ok (.invokevirtual 103, 3) := by decide +kernel
theorem dC_Enc_encodeAll_14 : decode cC_Enc_encodeAll 14 = .ok (.aload_n 0, 1) := by decide +kernel
theorem dC_Enc_encodeAll_15 : decode cC_Enc_encodeAll 15 = .ok (.getfield 18, 3) := by decide +kernel
theorem dC_Enc_encodeAll_18 : decode cC_Enc_encodeAll 18 = .ok (.aload_n 0, 1) := by decide +kernel
theorem dC_Enc_encodeAll_19 : decode cC_Enc_encodeAll 19 = .ok (.getfield 25, 3) := by decide +kernel
theorem dC_Enc_encodeAll_22 : decode cC_Enc_encodeAll 22 = .ok (.invokevirtual 99, 3) := by decide +kernel
theorem dC_Enc_encodeAll_25 : decode cC_Enc_encodeAll 25 = .ok (.invokevirtual 103, 3) := by decide +kernel
theorem dC_Enc_encodeAll_28 : decode cC_Enc_encodeAll 28 = .ok (.iconst (0), 1) := by decide +kernel
theorem dC_Enc_encodeAll_29 : decode cC_Enc_encodeAll 29 = .ok (.istore_n 1, 1) := by decide +kernel
theorem dC_Enc_encodeAll_30 : decode cC_Enc_encodeAll 30 = .ok (.iload_n 1, 1) := by decide +kernel
theorem dC_Enc_encodeAll_31 : decode cC_Enc_encodeAll 31 = .ok (.aload_n 0, 1) := by decide +kernel
theorem dC_Enc_encodeAll_32 : decode cC_Enc_encodeAll 32 = .ok (.getfield 25, 3) := by decide +kernel
theorem dC_Enc_encodeAll_35 : decode cC_Enc_encodeAll 35 = .ok (.getfield 41, 3) := by decide +kernel
theorem dC_Enc_encodeAll_38 : decode cC_Enc_encodeAll 38 = .ok (.if_icmp .ge (69), 3) := by decide +kernel
theorem dC_Enc_encodeAll_41 : decode cC_Enc_encodeAll 41 = .ok (.aload_n 0, 1) := by decide +kernel
theorem dC_Enc_encodeAll_42 : decode cC_Enc_encodeAll 42 = .ok (.getfield 25, 3) := by decide +kernel
theorem dC_Enc_encodeAll_45 : decode cC_Enc_encodeAll 45 = .ok (.iload_n 1, 1) := by decide +kernel
theorem dC_Enc_encodeAll_46 : decode cC_Enc_encodeAll 46 = .ok (.invokevirtual 48, 3) := by decide +kernel
theorem dC_Enc_encodeAll_49 : decode cC_Enc_encodeAll 49 = .ok (.astore_n 2, 1) := by decide +kernel
theorem dC_Enc_encodeAll_50 : decode cC_Enc_encodeAll 50 = .ok (.aload_n 0, 1) := by decide +kernel
theorem dC_Enc_encodeAll_51 : decode cC_Enc_encodeAll 51 = .ok (.getfield 25, 3) := by decide +kernel
theorem dC_Enc_encodeAll_54 : decode cC_Enc_encodeAll 54 = .ok (.iload_n 1, 1) := by decide +kernel
theorem dC_Enc_encodeAll_55 : decode cC_Enc_encodeAll 55 = .ok (.invokevirtual 88, 3) := by decide +kernel
theorem dC_Enc_encodeAll_58 : decode cC_Enc_encodeAll 58 = .ok (.istore_n 3, 1) := by decide +kernel
theorem dC_Enc_encodeAll_59 : decode cC_Enc_encodeAll 59 = .ok (.aload_n 0, 1) := by decide +kernel
theorem dC_Enc_encodeAll_60 : decode cC_Enc_encodeAll 60 = .ok (.getfield 18, 3) := by decide +kernel
theorem dC_Enc_encodeAll_63 : decode cC_Enc_encodeAll 63 = .ok (.iload_n 3, 1) := by decide +kernel
theorem dC_Enc_encodeAll_64 : decode cC_Enc_encodeAll 64 = .ok (.iload_n 3, 1) := by decide +kernel
theorem dC_Enc_encodeAll_65 : decode cC_Enc_encodeAll 65 = .ok (.aload_n 2, 1) := by decide +kernel
theorem dC_Enc_encodeAll_66 : decode cC_Enc_encodeAll 66 = .ok (.getfield 52, 3) := by decide +kernel
theorem dC_Enc_encodeAll_69 : decode cC_Enc_encodeAll 69 = .ok (.iadd, 1) := by decide +kernel
theorem dC_Enc_encodeAll_70 : decode cC_Enc_encodeAll 70 = .ok (.aload_n 2, 1) := by decide +kernel
theorem dC_Enc_encodeAll_71 : decode cC_Enc_encodeAll 71 = .ok (.getfield 107, 3) := by decide +kernel
theorem dC_Enc_encodeAll_74 : decode cC_Enc_encodeAll 74 = .ok (.invokevirtual 110, 3) := by decide +kernel
theorem dC_Enc_encodeAll_77 : decode cC_Enc_encodeAll 77 = .ok (.aload_n 0, 1) := by decide +kernel
theorem dC_Enc_encodeAll_78 : decode cC_Enc_encodeAll 78 = .ok (.aload_n 2, 1) := by decide +kernel
theorem dC_Enc_encodeAll_79 : decode cC_Enc_encodeAll 79 = .ok (.iload_n 3, 1) := by decide +kernel
theorem dC_Enc_encodeAll_80 : decode cC_Enc_encodeAll 80 = .ok (.invokevirtual 114, 3) := by decide +kernel
theorem dC_Enc_encodeAll_83 : decode cC_Enc_encodeAll 83 = .ok (.istore 4, 2) := by decide +kernel
theorem dC_Enc_encodeAll_85 : decode cC_Enc_encodeAll 85 = .ok (.iload 4, 2) := by decide +kernel
theorem dC_Enc_encodeAll_87 : decode cC_Enc_encodeAll 87 = .ok (.ifCond .eq (14), 3) := by decide +kernel
theorem dC_Enc_encodeAll_90 : decode cC_Enc_encodeAll 90 = .ok (.iload 4, 2) := by decide +kernel
theorem dC_Enc_encodeAll_92 : decode cC_Enc_encodeAll 92 = .ok (.bipush (16), 2) := by decide +kernel
theorem dC_Enc_encodeAll_94 : decode cC_Enc_encodeAll 94 = .ok (.aload_n 2, 1) := by decide +kernel
theorem dC_Enc_encodeAll_95 : decode cC_Enc_encodeAll 95 = .ok (.getfield 107, 3) := by decide +kernel
theorem dC_Enc_encodeAll_98 : decode cC_Enc_encodeAll 98 = .ok (.imul, 1) := by decide +kernel
theorem dC_Enc_encodeAll_99 : decode cC_Enc_encodeAll 99 = .ok (.iadd, 1) := by decide +kernel
theorem dC_Enc_encodeAll_100 : decode cC_Enc_encodeAll 100 = .ok (.ireturn, 1) := by decide +kernel
theorem dC_Enc_encodeAll_101 : decode cC_Enc_encodeAll 101 = .ok (.iinc 1 (1), 3) := by decide +kernel
theorem dC_Enc_encodeAll_104 : decode cC_Enc_encodeAll 104 = .ok (.goto (-74), 3) := by decide +kernel
theorem dC_Enc_encodeAll_107 : decode cC_Enc_encodeAll 107 = .ok (.iconst (0), 1) := by decide +kernel
theorem dC_Enc_encodeAll_108 : decode cC_Enc_encodeAll 108 = .ok (.ireturn, 1) := by decide +kernel
theorem gC_Enc_36 : GoodIn lw_gd (wsV R_Enc 36 R_Prg yC_Prg_place (.code yC_Prg_place cC_Prg_place 3 none :: lw_gd)) := lw_GV qc_1329 qc_1326 qc_1327 qc_1328 qc_14
theorem gC_Enc_44 : GoodIn lw_gd (wsV R_Enc 44 R_Enc yC_Enc_lengthenAll (.code yC_Enc_lengthenAll cC_Enc_lengthenAll 4 (some .boolean) :: lw_gd)) := lw_GV qc_1333 qc_1330 qc_1332 qsc_42 qc_22
theorem gC_Enc_48 : GoodIn lw_gd (wsV R_Enc 48 R_Prg yC_Prg_find (.code yC_Prg_find cC_Prg_find 2 (some (.object "LineAssembler$Item")) :: lw_gd)) := lw_GV qc_1102 qc_1334 qc_1100 qc_1101 qc_14
theorem gC_Enc_66 : GoodIn lw_gd (wsV R_Enc 66 R_Enc yC_Enc_isTooFar (.code yC_Enc_isTooFar cC_Enc_isTooFar 4 (some .boolean) :: lw_gd)) := lw_GV qc_1341 qc_1338 qc_1340 qsc_43 qc_22
theorem gC_Enc_79 : GoodIn lw_gd (wsV R_Enc 79 R_Frm yC_Frm_evaluate (.code yC_Frm_evaluate cC_Frm_evaluate 9 (some .int) :: lw_gd)) := lw_GV qc_1174 qc_1342 qc_1172 qc_1173 qc_20
theorem gC_Enc_88 : GoodIn lw_gd (wsV R_Enc 88 R_Prg yC_Prg_addressOf (.code yC_Prg_addressOf cC_Prg_addressOf 3 (some .int) :: lw_gd)) := lw_GV qc_1182 qc_1343 qc_1180 qc_1181 qc_14
theorem gC_Enc_99 : GoodIn lw_gd (wsV R_Enc 99 R_Prg yC_Prg_end (.code yC_Prg_end cC_Prg_end 1 (some .int) :: lw_gd)) := lw_GV qc_1351 qc_1357 qc_1349 qc_1350 qc_14
theorem gC_Enc_103 : GoodIn lw_gd (wsV R_Enc 103 R_Row yC_Row_zero (.code yC_Row_zero cC_Row_zero 2 none :: lw_gd)) := lw_GV qc_1361 qc_1358 qc_1359 qc_1360 qc_2
theorem gC_Enc_110 : GoodIn lw_gd (wsV R_Enc 110 R_Row yC_Row_fill (.code yC_Row_fill cC_Row_fill 4 none :: lw_gd)) := lw_GV qc_610 qc_1363 qc_608 qc_609 qc_2
theorem gC_Enc_114 : GoodIn lw_gd (wsV R_Enc 114 R_Enc yC_Enc_encode (.code yC_Enc_encode cC_Enc_encode 4 (some .int) :: lw_gd)) := lw_GV qc_1367 qc_1364 qc_1366 qsc_44 qc_22
theorem gC_Enc_121 : GoodIn lw_gd (wsV R_Enc 121 R_Row yC_Row_get (.code yC_Row_get cC_Row_get 2 (some .int) :: lw_gd)) := lw_GV qc_170 qc_1368 qc_168 qc_169 qc_2
theorem gC_Enc_124 : GoodIn lw_gd (wsV R_Enc 124 R_Row yC_Row_set (.code yC_Row_set cC_Row_set 3 none :: lw_gd)) := lw_GV qc_1114 qc_1369 qc_1112 qc_1113 qc_2
theorem gC_Enc_128 : GoodIn lw_gd (wsV R_Enc 128 R_Enc yC_Enc_put (.code yC_Enc_put cC_Enc_put 5 none :: lw_gd)) := lw_GV qc_1373 qc_1370 qc_1372 qsc_45 qc_22
theorem gC_Enc_131 : GoodIn lw_gd (wsV R_Enc 131 R_Enc yC_Enc_encodeExpression (.code yC_Enc_encodeExpression cC_Enc_encodeExpression 5 (some .int) :: lw_gd)) := lw_GV qc_1377 qc_1374 qc_1376 qsc_46 qc_22
theorem gC_Enc_134 : GoodIn lw_gd (wsV R_Enc 134 R_Enc yC_Enc_putAddress (.code yC_Enc_putAddress cC_Enc_putAddress 5 none :: lw_gd)) := lw_GV qc_1381 qc_1378 qc_1380 qsc_47 qc_22
theorem gC_Enc_137 : GoodIn lw_gd (wsV R_Enc 137 R_Enc yC_Enc_encodeJump (.code yC_Enc_encodeJump cC_Enc_encodeJump 7 (some .int) :: lw_gd)) := lw_GV qc_1385 qc_1382 qc_1384 qsc_48 qc_22
theorem gC_Enc_141 : GoodIn lw_gd (wsV R_Enc 141 R_Enc yC_Enc_encodeNumber (.code yC_Enc_encodeNumber cC_Enc_encodeNumber 4 (some .int) :: lw_gd)) := lw_GV qc_1394 qc_1391 qc_1393 qsc_49 qc_22
section
variable {p : Program} {l : Launch} {e : Env} {s : State} {m : MethodId} {args : Array Value} {below : List Frame} {meth : Method} {c : Code} {D : va_G} {dA : Nat → ClassId} {z : Nat → Nat} {o b i : Nat → Nat} {A : Nat → Prop}
def C_Enc_put_3 (N : Nat)  : Nat → Int32 → Int32 → Int32 → Int32 → CS → CS → CS → CS → CS → CS → CS → Option (Int32 × CS)
  | 0 => fun _ _ _ _ _ _ _ _ _ _ _ => none
  | n + 1 => fun x1 x2 x3 x4 sE sY sF sN sT sP sI => (if x3 ≤ x4 then some ((0 : Int32), sE) else cl (C_Row_set  (x1 + x4) ((x2 >>> (((8 : Int32) * x4) &&& 31)) &&& (255 : Int32)) (rg sE 0)) (fun r1 u2 => bnd (rs sE 0 u2) (fun sE3 => (C_Enc_put_3 N  n) x1 x2 x3 (x4 + (1 : Int32)) sE3 sY sF sN sT sP sI)))
set_option maxHeartbeats 4000000 in
set_option maxRecDepth 100000 in
theorem bC_Enc_put_3 (N : Nat)  {r : Int32} {u : CS} (C : CxC R_Enc p s m args meth c cC_Enc_put 5 none D dA (zz o) A) : ∀ (n : Nat) (x1 : Int32) (x2 : Int32) (x3 : Int32) (x4 : Int32) (sE : CS) (sY : CS) (sF : CS) (sN : CS) (sT : CS) (sP : CS) (sI : CS) , C_Enc_put_3 N  n x1 x2 x3 x4 sE sY sF sN sT sP sI = some (r, u) → ∀ (H : Heap) (locs : List Loc) (hW : WdC D A s (w_Enc dA o b i sE sY sF sN sT sP sI) H locs) (ls : Array Slot) (hl : lv_has ls 5 [(0, .ref (o 128)), (1, .int x1), (2, .int x2), (3, .int x3), (4, .int x4)]), W p l e (rmC 1 22 0 0) s m args below meth c H locs 0 0 (MQ below (QC D A (fun Ws' ov => Ws' = (w_Enc dA o b i u sY sF sN sT sP sI) ∧ ov = none)) args s 0 0 A) (F0 m 3 ls []) := by
  have hx := C.1.1
  have hb := C.1.2.1
  have hown := C.1.2.2.2.2.1
  have hT := C.1.2.2.2.2.2.1
  intro n
  induction n with
  | zero => intro x1 x2 x3 x4 sE sY sF sN sT sP sI hM; cases hM
  | succ n hrec3 =>
    intro x1 x2 x3 x4 sE sY sF sN sT sP sI hM H locs hW ls hl
    rw [C_Enc_put_3] at hM
    refine lv_iload (pc := 3) hx hb dC_Enc_put_3 (lv_at hl 4 rfl) ?_
    refine lv_iload_n (pc := 5) hx hb dC_Enc_put_5 rfl (lv_at hl 3 rfl) ?_
    refine lv_icmp_ge (pc := 6) (tgt := 37) hx hb dC_Enc_put_6 (by decide) (fun hc => ?_) (fun hc => ?_)
    · replace hM := it_t hc hM
      obtain ⟨rfl, rfl⟩ := sm_p hM
      exact x_retCv (pc := 37) C rfl hW ⟨rfl, rfl⟩ (Nat.le_refl 0) (Nat.le_refl 0) dC_Enc_put_37
    · replace hM := it_f hc hM
      refine lv_aload_n (pc := 9) hx hb dC_Enc_put_9 rfl (lv_at hl 0 rfl) ?_
      refine x_getC (pc := 10) C hW 0 rfl (ci := 9) rfl i_Enc 0 (by decide) qc_532 rfl rfl dC_Enc_put_10 ?_
      refine lv_iload_n (pc := 13) hx hb dC_Enc_put_13 rfl (lv_at hl 1 rfl) ?_
      refine lv_iload (pc := 14) hx hb dC_Enc_put_14 (lv_at hl 4 rfl) ?_
      refine lv_iadd (pc := 16) hx hb dC_Enc_put_16 ?_
      refine lv_iload_n (pc := 17) hx hb dC_Enc_put_17 rfl (lv_at hl 2 rfl) ?_
      refine lv_bipush (pc := 18) (v := 8) hx hb dC_Enc_put_18 (by decide) ?_
      refine lv_iload (pc := 20) hx hb dC_Enc_put_20 (lv_at hl 4 rfl) ?_
      refine lv_imul (pc := 22) hx hb dC_Enc_put_22 ?_
      refine lv_ishr (pc := 23) hx hb dC_Enc_put_23 ?_
      refine lv_sipush (pc := 24) (v := 255) hx hb dC_Enc_put_24 (by decide) ?_
      refine lv_iand (pc := 27) hx hb dC_Enc_put_27 ?_
      obtain ⟨r1, u2, hr1, hM⟩ := cl_some hM
      refine x_callC (pc := 28) (n' := 47) C hW (kC_Row_set l D dA (zz o) (fun _ => o 129) (fun _ => b 129)  (x1 + x4) ((x2 >>> (((8 : Int32) * x4) &&& 31)) &&& (255 : Int32)) (rg sE 0) hr1) [1, 2, 0, 3, 4, 5, 6, 7, 8, 9, 10, 11, 12, 13, 14, 15, 16, 17, 18, 19, 20, 21, 22, 23, 24, 25, 26, 27, 28, 29, 30, 31, 32, 33, 34, 35, 36, 37, 38, 39, 40, 41, 42, 43, 44, 45, 46] rfl (by decide +kernel) rfl (ci := 1) rfl (q0 := 1) rfl gC_Enc_124 ⟨rfl, by decide, by decide, by decide +kernel⟩ ⟨Nat.le_of_ble_eq_true rfl, Nat.le_of_ble_eq_true rfl⟩ ⟨Nat.le_refl _, Nat.le_refl _⟩ (As := [.int (x1 + x4), .int ((x2 >>> (((8 : Int32) * x4) &&& 31)) &&& (255 : Int32))]) (n := 2) rfl hl.1 rfl (Nat.le_of_ble_eq_true rfl) dC_Enc_put_28 (fun Wc' ov H locs hPo hWn => ?_)
      obtain ⟨rfl, rfl⟩ := hPo
      have hW := hWn (w_Enc dA o b i (rs sE 0 u2) sY sF sN sT sP sI) rfl rfl
      obtain ⟨sE3, esE3, hM⟩ := bnd_some hM
      rw [← esE3] at hW
      refine lv_iinc (pc := 31) (v := x4 + (1 : Int32)) (lv' := [(4, .int (x4 + (1 : Int32))), (0, .ref (o 128)), (1, .int x1), (2, .int x2), (3, .int x3)]) hx hb dC_Enc_put_31 hl (k := 4) rfl rfl (by decide) rfl (fun ls hl => ?_)
      refine lv_goto (pc := 34) (tgt := 3) hx hb dC_Enc_put_34 (by decide) ?_
      exact hrec3 _ _ _ _ _ _ _ _ _ _ _ hM _ _ hW _ (lv_sub hl [1, 2, 3, 4, 0] rfl)
def C_Enc_put (N : Nat) (x1 : Int32) (x2 : Int32) (x3 : Int32) (sE : CS) (sY : CS) (sF : CS) (sN : CS) (sT : CS) (sP : CS) (sI : CS) : Option (Int32 × CS) :=
  C_Enc_put_3 N  N x1 x2 x3 (0 : Int32) sE sY sF sN sT sP sI
set_option maxHeartbeats 4000000 in
set_option maxRecDepth 100000 in
theorem bC_Enc_put_0 (N : Nat)  {r : Int32} {u : CS} (C : CxC R_Enc p s m args meth c cC_Enc_put 5 none D dA (zz o) A) (x1 : Int32) (x2 : Int32) (x3 : Int32) (sE : CS) (sY : CS) (sF : CS) (sN : CS) (sT : CS) (sP : CS) (sI : CS) (hM : C_Enc_put N  x1 x2 x3 sE sY sF sN sT sP sI = some (r, u)) (H : Heap) (locs : List Loc) (hW : WdC D A s (w_Enc dA o b i sE sY sF sN sT sP sI) H locs) (ls : Array Slot) (hl : lv_has ls 5 [(0, .ref (o 128)), (1, .int x1), (2, .int x2), (3, .int x3)]) : W p l e (rmC 1 22 0 0) s m args below meth c H locs 0 0 (MQ below (QC D A (fun Ws' ov => Ws' = (w_Enc dA o b i u sY sF sN sT sP sI) ∧ ov = none)) args s 0 0 A) (F0 m 0 ls []) := by
  have hx := C.1.1
  have hb := C.1.2.1
  have hown := C.1.2.2.2.2.1
  have hT := C.1.2.2.2.2.2.1
  unfold C_Enc_put at hM
  refine lv_iconst (pc := 0) (v := 0) hx hb dC_Enc_put_0 (by decide) ?_
  refine lv_istore (pc := 1) (lv' := [(4, .int (0 : Int32)), (0, .ref (o 128)), (1, .int x1), (2, .int x2), (3, .int x3)]) hx hb dC_Enc_put_1 hl (by decide) rfl (fun ls hl => ?_)
  exact bC_Enc_put_3 N  C  N _ _ _ _ _ _ _ _ _ _ _ hM _ _ hW _ (lv_sub hl [1, 2, 3, 4, 0] rfl)
theorem kC_Enc_put (l : Launch) (D : va_G) (dA : Nat → ClassId) (o b i : Nat → Nat) (N : Nat) (x1 : Int32) (x2 : Int32) (x3 : Int32) (sE : CS) (sY : CS) (sF : CS) (sN : CS) (sT : CS) (sP : CS) (sI : CS) {r : Int32} {u : CS} (hM : C_Enc_put N x1 x2 x3 sE sY sF sN sT sP sI = some (r, u)) : KC l D dA (zz o) yC_Enc_put cC_Enc_put 5 none 1 22 0 0 (w_Enc dA o b i sE sY sF sN sT sP sI) [.ref (o 128), .int x1, .int x2, .int x3] (fun Ws' ov => Ws' = (w_Enc dA o b i u sY sF sN sT sP sI) ∧ ov = none) := x_enterC (by decide +kernel) (Nat.le_of_ble_eq_true rfl) (fun p e s m args below meth c A C _ hW ls hl => bC_Enc_put_0 N C x1 x2 x3 sE sY sF sN sT sP sI hM s.heap [] hW ls hl)
def C_Enc_putAddress (N : Nat) (x1 : Int32) (x2 : Int32) (x3 : Int32) (sE : CS) (sY : CS) (sF : CS) (sN : CS) (sT : CS) (sP : CS) (sI : CS) : Option (Int32 × CS) :=
  bnd ((x1 >>> ((7 : Int32) &&& 31)) &&& (31 : Int32)) (fun y1 => cl (C_Enc_put N x3 (x1 ||| ((jush (x2 + (2048 : Int32)) (12 : Int32)) <<< ((12 : Int32) &&& 31))) (4 : Int32) sE sY sF sN sT sP sI) (fun r2 u3 => cl (C_Enc_put N (x3 + (4 : Int32)) ((((19 : Int32) ||| (y1 <<< ((7 : Int32) &&& 31))) ||| (y1 <<< ((15 : Int32) &&& 31))) ||| (x2 <<< ((20 : Int32) &&& 31))) (4 : Int32) u3 sY sF sN sT sP sI) (fun r4 u5 => some ((0 : Int32), u5))))
set_option maxHeartbeats 4000000 in
set_option maxRecDepth 100000 in
theorem bC_Enc_putAddress_0 (N : Nat)  {r : Int32} {u : CS} (C : CxC R_Enc p s m args meth c cC_Enc_putAddress 5 none D dA (zz o) A) (x1 : Int32) (x2 : Int32) (x3 : Int32) (sE : CS) (sY : CS) (sF : CS) (sN : CS) (sT : CS) (sP : CS) (sI : CS) (hM : C_Enc_putAddress N  x1 x2 x3 sE sY sF sN sT sP sI = some (r, u)) (H : Heap) (locs : List Loc) (hW : WdC D A s (w_Enc dA o b i sE sY sF sN sT sP sI) H locs) (ls : Array Slot) (hl : lv_has ls 5 [(0, .ref (o 128)), (1, .int x1), (2, .int x2), (3, .int x3)]) : W p l e (rmC 2 46 0 0) s m args below meth c H locs 0 0 (MQ below (QC D A (fun Ws' ov => Ws' = (w_Enc dA o b i u sY sF sN sT sP sI) ∧ ov = none)) args s 0 0 A) (F0 m 0 ls []) := by
  have hx := C.1.1
  have hb := C.1.2.1
  have hown := C.1.2.2.2.2.1
  have hT := C.1.2.2.2.2.2.1
  unfold C_Enc_putAddress at hM
  refine lv_iload_n (pc := 0) hx hb dC_Enc_putAddress_0 rfl (lv_at hl 1 rfl) ?_
  refine lv_bipush (pc := 1) (v := 7) hx hb dC_Enc_putAddress_1 (by decide) ?_
  refine lv_ishr (pc := 3) hx hb dC_Enc_putAddress_3 ?_
  refine lv_bipush (pc := 4) (v := 31) hx hb dC_Enc_putAddress_4 (by decide) ?_
  refine lv_iand (pc := 6) hx hb dC_Enc_putAddress_6 ?_
  obtain ⟨y1, ey1, hM⟩ := bnd_some hM
  refine x_seti ey1 ?_
  refine lv_istore (pc := 7) (lv' := [(4, .int y1), (0, .ref (o 128)), (1, .int x1), (2, .int x2), (3, .int x3)]) hx hb dC_Enc_putAddress_7 hl (by decide) rfl (fun ls hl => ?_)
  refine lv_aload_n (pc := 9) hx hb dC_Enc_putAddress_9 rfl (lv_at hl 1 rfl) ?_
  refine lv_iload_n (pc := 10) hx hb dC_Enc_putAddress_10 rfl (lv_at hl 4 rfl) ?_
  refine lv_iload_n (pc := 11) hx hb dC_Enc_putAddress_11 rfl (lv_at hl 2 rfl) ?_
  refine lv_iload_n (pc := 12) hx hb dC_Enc_putAddress_12 rfl (lv_at hl 3 rfl) ?_
  refine lv_sipush (pc := 13) (v := 2048) hx hb dC_Enc_putAddress_13 (by decide) ?_
  refine lv_iadd (pc := 16) hx hb dC_Enc_putAddress_16 ?_
  refine lv_bipush (pc := 17) (v := 12) hx hb dC_Enc_putAddress_17 (by decide) ?_
  refine lv_iushr (pc := 19) (v := jush (x2 + (2048 : Int32)) (12 : Int32)) hx hb dC_Enc_putAddress_19 rfl ?_
  refine lv_bipush (pc := 20) (v := 12) hx hb dC_Enc_putAddress_20 (by decide) ?_
  refine lv_ishl (pc := 22) hx hb dC_Enc_putAddress_22 ?_
  refine lv_ior (pc := 23) hx hb dC_Enc_putAddress_23 ?_
  refine lv_iconst (pc := 24) (v := 4) hx hb dC_Enc_putAddress_24 (by decide) ?_
  obtain ⟨r2, u3, hr2, hM⟩ := cl_some hM
  refine x_callC (pc := 25) (n' := 47) C hW (kC_Enc_put l D dA o b i N x3 (x1 ||| ((jush (x2 + (2048 : Int32)) (12 : Int32)) <<< ((12 : Int32) &&& 31))) (4 : Int32) sE sY sF sN sT sP sI hr2) [0, 1, 2, 3, 4, 5, 6, 7, 8, 9, 10, 11, 12, 13, 14, 15, 16, 17, 18, 19, 20, 21, 22, 23, 24, 25, 26, 27, 28, 29, 30, 31, 32, 33, 34, 35, 36, 37, 38, 39, 40, 41, 42, 43, 44, 45, 46] rfl (by decide +kernel) rfl (ci := 9) rfl (q0 := 0) rfl gC_Enc_128 ⟨rfl, by decide, by decide, by decide +kernel⟩ ⟨Nat.le_of_ble_eq_true rfl, Nat.le_of_ble_eq_true rfl⟩ ⟨Nat.le_refl _, Nat.le_refl _⟩ (As := [.int x3, .int (x1 ||| ((jush (x2 + (2048 : Int32)) (12 : Int32)) <<< ((12 : Int32) &&& 31))), .int (4 : Int32)]) (n := 3) rfl hl.1 rfl (Nat.le_of_ble_eq_true rfl) dC_Enc_putAddress_25 (fun Wc' ov H locs hPo hWn => ?_)
  obtain ⟨rfl, rfl⟩ := hPo
  have hW := hWn (w_Enc dA o b i u3 sY sF sN sT sP sI) rfl rfl
  refine lv_aload_n (pc := 28) hx hb dC_Enc_putAddress_28 rfl (lv_at hl 1 rfl) ?_
  refine lv_iload_n (pc := 29) hx hb dC_Enc_putAddress_29 rfl (lv_at hl 4 rfl) ?_
  refine lv_iconst (pc := 30) (v := 4) hx hb dC_Enc_putAddress_30 (by decide) ?_
  refine lv_iadd (pc := 31) hx hb dC_Enc_putAddress_31 ?_
  refine lv_bipush (pc := 32) (v := 19) hx hb dC_Enc_putAddress_32 (by decide) ?_
  refine lv_iload (pc := 34) hx hb dC_Enc_putAddress_34 (lv_at hl 0 rfl) ?_
  refine lv_bipush (pc := 36) (v := 7) hx hb dC_Enc_putAddress_36 (by decide) ?_
  refine lv_ishl (pc := 38) hx hb dC_Enc_putAddress_38 ?_
  refine lv_ior (pc := 39) hx hb dC_Enc_putAddress_39 ?_
  refine lv_iload (pc := 40) hx hb dC_Enc_putAddress_40 (lv_at hl 0 rfl) ?_
  refine lv_bipush (pc := 42) (v := 15) hx hb dC_Enc_putAddress_42 (by decide) ?_
  refine lv_ishl (pc := 44) hx hb dC_Enc_putAddress_44 ?_
  refine lv_ior (pc := 45) hx hb dC_Enc_putAddress_45 ?_
  refine lv_iload_n (pc := 46) hx hb dC_Enc_putAddress_46 rfl (lv_at hl 3 rfl) ?_
  refine lv_bipush (pc := 47) (v := 20) hx hb dC_Enc_putAddress_47 (by decide) ?_
  refine lv_ishl (pc := 49) hx hb dC_Enc_putAddress_49 ?_
  refine lv_ior (pc := 50) hx hb dC_Enc_putAddress_50 ?_
  refine lv_iconst (pc := 51) (v := 4) hx hb dC_Enc_putAddress_51 (by decide) ?_
  obtain ⟨r4, u5, hr4, hM⟩ := cl_some hM
  refine x_callC (pc := 52) (n' := 47) C hW (kC_Enc_put l D dA o b i N (x3 + (4 : Int32)) ((((19 : Int32) ||| (y1 <<< ((7 : Int32) &&& 31))) ||| (y1 <<< ((15 : Int32) &&& 31))) ||| (x2 <<< ((20 : Int32) &&& 31))) (4 : Int32) u3 sY sF sN sT sP sI hr4) [0, 1, 2, 3, 4, 5, 6, 7, 8, 9, 10, 11, 12, 13, 14, 15, 16, 17, 18, 19, 20, 21, 22, 23, 24, 25, 26, 27, 28, 29, 30, 31, 32, 33, 34, 35, 36, 37, 38, 39, 40, 41, 42, 43, 44, 45, 46] rfl (by decide +kernel) rfl (ci := 9) rfl (q0 := 0) rfl gC_Enc_128 ⟨rfl, by decide, by decide, by decide +kernel⟩ ⟨Nat.le_of_ble_eq_true rfl, Nat.le_of_ble_eq_true rfl⟩ ⟨Nat.le_refl _, Nat.le_refl _⟩ (As := [.int (x3 + (4 : Int32)), .int ((((19 : Int32) ||| (y1 <<< ((7 : Int32) &&& 31))) ||| (y1 <<< ((15 : Int32) &&& 31))) ||| (x2 <<< ((20 : Int32) &&& 31))), .int (4 : Int32)]) (n := 3) rfl hl.1 rfl (Nat.le_of_ble_eq_true rfl) dC_Enc_putAddress_52 (fun Wc' ov H locs hPo hWn => ?_)
  obtain ⟨rfl, rfl⟩ := hPo
  have hW := hWn (w_Enc dA o b i u5 sY sF sN sT sP sI) rfl rfl
  obtain ⟨rfl, rfl⟩ := sm_p hM
  exact x_retCv (pc := 55) C rfl hW ⟨rfl, rfl⟩ (Nat.le_refl 0) (Nat.le_refl 0) dC_Enc_putAddress_55
theorem kC_Enc_putAddress (l : Launch) (D : va_G) (dA : Nat → ClassId) (o b i : Nat → Nat) (N : Nat) (x1 : Int32) (x2 : Int32) (x3 : Int32) (sE : CS) (sY : CS) (sF : CS) (sN : CS) (sT : CS) (sP : CS) (sI : CS) {r : Int32} {u : CS} (hM : C_Enc_putAddress N x1 x2 x3 sE sY sF sN sT sP sI = some (r, u)) : KC l D dA (zz o) yC_Enc_putAddress cC_Enc_putAddress 5 none 2 46 0 0 (w_Enc dA o b i sE sY sF sN sT sP sI) [.ref (o 128), .int x1, .int x2, .int x3] (fun Ws' ov => Ws' = (w_Enc dA o b i u sY sF sN sT sP sI) ∧ ov = none) := x_enterC (by decide +kernel) (Nat.le_of_ble_eq_true rfl) (fun p e s m args below meth c A C _ hW ls hl => bC_Enc_putAddress_0 N C x1 x2 x3 sE sY sF sN sT sP sI hM s.heap [] hW ls hl)
def C_Enc_shortWord_31 (t0 : Int32) (sE : CS) (sY : CS) (sF : CS) (sN : CS) (sT : CS) (sP : CS) (sI : CS) : Option (Int32 × Unit) :=
  some (t0, ())
set_option maxHeartbeats 4000000 in
set_option maxRecDepth 100000 in
theorem bC_Enc_shortWord_31  {r : Int32} {u : Unit} (C : CxC R_Enc p s m args meth c cC_Enc_shortWord 1 (some .int) D dA (zz o) A) (t0 : Int32) (sE : CS) (sY : CS) (sF : CS) (sN : CS) (sT : CS) (sP : CS) (sI : CS) (hM : C_Enc_shortWord_31  t0 sE sY sF sN sT sP sI = some (r, u)) (H : Heap) (locs : List Loc) (hW : WdC D A s (w_Enc dA o b i sE sY sF sN sT sP sI) H locs) (ls : Array Slot) (hl : lv_has ls 1 []) : W p l e (rmC 0 0 0 0) s m args below meth c H locs 0 0 (MQ below (QC D A (fun Ws' ov => Ws' = (w_Enc dA o b i sE sY sF sN sT sP sI) ∧ ov = (some (.int r)))) args s 0 0 A) (F0 m 31 ls [.int t0]) := by
  have hx := C.1.1
  have hb := C.1.2.1
  have hown := C.1.2.2.2.2.1
  have hT := C.1.2.2.2.2.2.1
  unfold C_Enc_shortWord_31 at hM
  obtain ⟨rfl, rfl⟩ := sm_p hM
  exact x_retCi (pc := 31) C rfl hW ⟨rfl, rfl⟩ (Nat.le_refl 0) (Nat.le_refl 0) dC_Enc_shortWord_31
def C_Enc_shortWord (n0 : Nat) (sE : CS) (sY : CS) (sF : CS) (sN : CS) (sT : CS) (sP : CS) (sI : CS) : Option (Int32 × Unit) :=
  gd (decide (n0 < sI.2.2 0 + 1)) ((if (sI.2.1 n0 2) = (120 : Int32) then gd (decide (n0 < sI.2.2 0 + 1)) ((if (((sI.2.1 n0 3) >>> ((7 : Int32) &&& 31)) &&& (31 : Int32)) = (1 : Int32) then C_Enc_shortWord_31  (8193 : Int32) sE sY sF sN sT sP sI else C_Enc_shortWord_31  (40961 : Int32) sE sY sF sN sT sP sI)) else gd (decide (n0 < sI.2.2 0 + 1)) (gd (decide (n0 < sI.2.2 0 + 1)) (some (((1 : Int32) ||| (((6 : Int32) ||| (((sI.2.1 n0 3) >>> ((12 : Int32) &&& 31)) &&& (1 : Int32))) <<< ((13 : Int32) &&& 31))) ||| ((((sI.2.1 n0 3) >>> ((15 : Int32) &&& 31)) &&& (7 : Int32)) <<< ((7 : Int32) &&& 31)), ())))))
set_option maxHeartbeats 4000000 in
set_option maxRecDepth 100000 in
theorem bC_Enc_shortWord_0  {r : Int32} {u : Unit} (C : CxC R_Enc p s m args meth c cC_Enc_shortWord 1 (some .int) D dA (zz o) A) (n0 : Nat) (sE : CS) (sY : CS) (sF : CS) (sN : CS) (sT : CS) (sP : CS) (sI : CS) (hM : C_Enc_shortWord  n0 sE sY sF sN sT sP sI = some (r, u)) (H : Heap) (locs : List Loc) (hW : WdC D A s (w_Enc dA o b i sE sY sF sN sT sP sI) H locs) (ls : Array Slot) (hl : lv_has ls 1 [(0, .ref (pa o i n0))]) : W p l e (rmC 0 0 0 0) s m args below meth c H locs 0 0 (MQ below (QC D A (fun Ws' ov => Ws' = (w_Enc dA o b i sE sY sF sN sT sP sI) ∧ ov = (some (.int r)))) args s 0 0 A) (F0 m 0 ls []) := by
  have hx := C.1.1
  have hb := C.1.2.1
  have hown := C.1.2.2.2.2.1
  have hT := C.1.2.2.2.2.2.1
  unfold C_Enc_shortWord at hM
  refine lv_aload_n (pc := 0) hx hb dC_Enc_shortWord_0 rfl (lv_at hl 0 rfl) ?_
  obtain ⟨hg1, hM⟩ := gd_some hM
  refine x_getI (pc := 1) C hW 46 rfl (of_decide_eq_true hg1) 2 (by decide) qc_342 rfl rfl dC_Enc_shortWord_1 ?_
  refine lv_bipush (pc := 4) (v := 120) hx hb dC_Enc_shortWord_4 (by decide) ?_
  refine lv_icmp_ne (pc := 6) (tgt := 32) hx hb dC_Enc_shortWord_6 (by decide) (fun hc => ?_) (fun hc => ?_)
  · replace hM := it_f hc hM
    refine lv_iconst (pc := 32) (v := 1) hx hb dC_Enc_shortWord_32 (by decide) ?_
    refine lv_bipush (pc := 33) (v := 6) hx hb dC_Enc_shortWord_33 (by decide) ?_
    refine lv_aload_n (pc := 35) hx hb dC_Enc_shortWord_35 rfl (lv_at hl 0 rfl) ?_
    obtain ⟨hg2, hM⟩ := gd_some hM
    refine x_getI (pc := 36) C hW 46 rfl (of_decide_eq_true hg2) 3 (by decide) qc_346 rfl rfl dC_Enc_shortWord_36 ?_
    refine lv_bipush (pc := 39) (v := 12) hx hb dC_Enc_shortWord_39 (by decide) ?_
    refine lv_ishr (pc := 41) hx hb dC_Enc_shortWord_41 ?_
    refine lv_iconst (pc := 42) (v := 1) hx hb dC_Enc_shortWord_42 (by decide) ?_
    refine lv_iand (pc := 43) hx hb dC_Enc_shortWord_43 ?_
    refine lv_ior (pc := 44) hx hb dC_Enc_shortWord_44 ?_
    refine lv_bipush (pc := 45) (v := 13) hx hb dC_Enc_shortWord_45 (by decide) ?_
    refine lv_ishl (pc := 47) hx hb dC_Enc_shortWord_47 ?_
    refine lv_ior (pc := 48) hx hb dC_Enc_shortWord_48 ?_
    refine lv_aload_n (pc := 49) hx hb dC_Enc_shortWord_49 rfl (lv_at hl 0 rfl) ?_
    obtain ⟨hg3, hM⟩ := gd_some hM
    refine x_getI (pc := 50) C hW 46 rfl (of_decide_eq_true hg3) 3 (by decide) qc_346 rfl rfl dC_Enc_shortWord_50 ?_
    refine lv_bipush (pc := 53) (v := 15) hx hb dC_Enc_shortWord_53 (by decide) ?_
    refine lv_ishr (pc := 55) hx hb dC_Enc_shortWord_55 ?_
    refine lv_bipush (pc := 56) (v := 7) hx hb dC_Enc_shortWord_56 (by decide) ?_
    refine lv_iand (pc := 58) hx hb dC_Enc_shortWord_58 ?_
    refine lv_bipush (pc := 59) (v := 7) hx hb dC_Enc_shortWord_59 (by decide) ?_
    refine lv_ishl (pc := 61) hx hb dC_Enc_shortWord_61 ?_
    refine lv_ior (pc := 62) hx hb dC_Enc_shortWord_62 ?_
    obtain ⟨rfl, rfl⟩ := sm_p hM
    exact x_retCi (pc := 63) C rfl hW ⟨rfl, rfl⟩ (Nat.le_refl 0) (Nat.le_refl 0) dC_Enc_shortWord_63
  · replace hM := it_t hc hM
    refine lv_aload_n (pc := 9) hx hb dC_Enc_shortWord_9 rfl (lv_at hl 0 rfl) ?_
    obtain ⟨hg4, hM⟩ := gd_some hM
    refine x_getI (pc := 10) C hW 46 rfl (of_decide_eq_true hg4) 3 (by decide) qc_346 rfl rfl dC_Enc_shortWord_10 ?_
    refine lv_bipush (pc := 13) (v := 7) hx hb dC_Enc_shortWord_13 (by decide) ?_
    refine lv_ishr (pc := 15) hx hb dC_Enc_shortWord_15 ?_
    refine lv_bipush (pc := 16) (v := 31) hx hb dC_Enc_shortWord_16 (by decide) ?_
    refine lv_iand (pc := 18) hx hb dC_Enc_shortWord_18 ?_
    refine lv_iconst (pc := 19) (v := 1) hx hb dC_Enc_shortWord_19 (by decide) ?_
    refine lv_icmp_ne (pc := 20) (tgt := 29) hx hb dC_Enc_shortWord_20 (by decide) (fun hc => ?_) (fun hc => ?_)
    · replace hM := it_f hc hM
      refine lv_ldc (pc := 29) (v := 40961) hx hb hown (hT _ qc_1390) dC_Enc_shortWord_29 ?_
      exact bC_Enc_shortWord_31  C  _ _ _ _ _ _ _ _ hM _ _ hW _ (lv_sub hl [] rfl)
    · replace hM := it_t hc hM
      refine lv_sipush (pc := 23) (v := 8193) hx hb dC_Enc_shortWord_23 (by decide) ?_
      refine lv_goto (pc := 26) (tgt := 31) hx hb dC_Enc_shortWord_26 (by decide) ?_
      exact bC_Enc_shortWord_31  C  _ _ _ _ _ _ _ _ hM _ _ hW _ (lv_sub hl [] rfl)
theorem kC_Enc_shortWord (l : Launch) (D : va_G) (dA : Nat → ClassId) (o b i : Nat → Nat) (n0 : Nat) (sE : CS) (sY : CS) (sF : CS) (sN : CS) (sT : CS) (sP : CS) (sI : CS) {r : Int32} {u : Unit} (hM : C_Enc_shortWord n0 sE sY sF sN sT sP sI = some (r, u)) : KC l D dA (zz o) yC_Enc_shortWord cC_Enc_shortWord 1 (some .int) 0 0 0 0 (w_Enc dA o b i sE sY sF sN sT sP sI) [.ref (pa o i n0)] (fun Ws' ov => Ws' = (w_Enc dA o b i sE sY sF sN sT sP sI) ∧ ov = (some (.int r))) := x_enterC (by decide +kernel) (Nat.le_of_ble_eq_true rfl) (fun p e s m args below meth c A C _ hW ls hl => bC_Enc_shortWord_0 C n0 sE sY sF sN sT sP sI hM s.heap [] hW ls hl)
def C_Enc_encodeNumber (N : Nat) (n1 : Nat) (x2 : Int32) (x3 : Int32) (sE : CS) (sY : CS) (sF : CS) (sN : CS) (sT : CS) (sP : CS) (sI : CS) : Option (Int32 × CS) :=
  gd (decide (n1 < sI.2.2 0 + 1)) (cr (C_Fie_fits  (sI.2.1 n1 2) x2) (fun r2 => (if r2 = 0 then some ((10 : Int32), sE) else gd (decide (n1 < sI.2.2 0 + 1)) (gd (decide (n1 < sI.2.2 0 + 1)) (cr (C_Fie_scatter  (sI.2.1 n1 2) x2) (fun r5 => gd (decide (n1 < sI.2.2 0 + 1)) (cl (C_Enc_put N x3 ((sI.2.1 n1 3) ||| r5) (sI.2.1 n1 4) sE sY sF sN sT sP sI) (fun r7 u8 => some ((0 : Int32), u8)))))))))
set_option maxHeartbeats 4000000 in
set_option maxRecDepth 100000 in
theorem bC_Enc_encodeNumber_0 (N : Nat)  {r : Int32} {u : CS} (C : CxC R_Enc p s m args meth c cC_Enc_encodeNumber 4 (some .int) D dA (zz o) A) (n1 : Nat) (x2 : Int32) (x3 : Int32) (sE : CS) (sY : CS) (sF : CS) (sN : CS) (sT : CS) (sP : CS) (sI : CS) (hM : C_Enc_encodeNumber N  n1 x2 x3 sE sY sF sN sT sP sI = some (r, u)) (H : Heap) (locs : List Loc) (hW : WdC D A s (w_Enc dA o b i sE sY sF sN sT sP sI) H locs) (ls : Array Slot) (hl : lv_has ls 4 [(0, .ref (o 128)), (1, .ref (pa o i n1)), (2, .int x2), (3, .int x3)]) : W p l e (rmC 3 65 0 0) s m args below meth c H locs 0 0 (MQ below (QC D A (fun Ws' ov => Ws' = (w_Enc dA o b i u sY sF sN sT sP sI) ∧ ov = (some (.int r)))) args s 0 0 A) (F0 m 0 ls []) := by
  have hx := C.1.1
  have hb := C.1.2.1
  have hown := C.1.2.2.2.2.1
  have hT := C.1.2.2.2.2.2.1
  unfold C_Enc_encodeNumber at hM
  refine lv_aload_n (pc := 0) hx hb dC_Enc_encodeNumber_0 rfl (lv_at hl 1 rfl) ?_
  obtain ⟨hg1, hM⟩ := gd_some hM
  refine x_getI (pc := 1) C hW 46 rfl (of_decide_eq_true hg1) 2 (by decide) qc_342 rfl rfl dC_Enc_encodeNumber_1 ?_
  refine lv_iload_n (pc := 4) hx hb dC_Enc_encodeNumber_4 rfl (lv_at hl 2 rfl) ?_
  obtain ⟨r2, hr2, hM⟩ := cr_some hM
  refine x_callU (pc := 5) (ov := some (.int r2)) C.1 (kC_Fie_fits l  (sI.2.1 n1 2) x2 hr2) qc_1243 qc_1347 qc_1242 qc_35 ⟨by decide, by decide, by decide +kernel⟩ ⟨rfl, rfl⟩ ⟨Nat.le_of_ble_eq_true rfl, Nat.le_of_ble_eq_true rfl⟩ ⟨Nat.le_refl _, Nat.le_refl _⟩ (As := [.int (sI.2.1 n1 2), .int x2]) (n := 2) rfl hl.1 rfl (Nat.le_of_ble_eq_true rfl) dC_Enc_encodeNumber_5 ?_
  refine lv_if_ne (pc := 8) (tgt := 14) hx hb dC_Enc_encodeNumber_8 (by decide) (fun hc => ?_) (fun hc => ?_)
  · replace hM := it_f hc hM
    refine lv_aload_n (pc := 14) hx hb dC_Enc_encodeNumber_14 rfl (lv_at hl 0 rfl) ?_
    refine lv_iload_n (pc := 15) hx hb dC_Enc_encodeNumber_15 rfl (lv_at hl 3 rfl) ?_
    refine lv_aload_n (pc := 16) hx hb dC_Enc_encodeNumber_16 rfl (lv_at hl 1 rfl) ?_
    obtain ⟨hg3, hM⟩ := gd_some hM
    refine x_getI (pc := 17) C hW 46 rfl (of_decide_eq_true hg3) 3 (by decide) qc_346 rfl rfl dC_Enc_encodeNumber_17 ?_
    refine lv_aload_n (pc := 20) hx hb dC_Enc_encodeNumber_20 rfl (lv_at hl 1 rfl) ?_
    obtain ⟨hg4, hM⟩ := gd_some hM
    refine x_getI (pc := 21) C hW 46 rfl (of_decide_eq_true hg4) 2 (by decide) qc_342 rfl rfl dC_Enc_encodeNumber_21 ?_
    refine lv_iload_n (pc := 24) hx hb dC_Enc_encodeNumber_24 rfl (lv_at hl 2 rfl) ?_
    obtain ⟨r5, hr5, hM⟩ := cr_some hM
    refine x_callU (pc := 25) (ov := some (.int r5)) C.1 (kC_Fie_scatter l  (sI.2.1 n1 2) x2 hr5) qc_1252 qc_1386 qc_1251 qc_35 ⟨by decide, by decide, by decide +kernel⟩ ⟨rfl, rfl⟩ ⟨Nat.le_of_ble_eq_true rfl, Nat.le_of_ble_eq_true rfl⟩ ⟨Nat.le_refl _, Nat.le_refl _⟩ (As := [.int (sI.2.1 n1 2), .int x2]) (n := 2) rfl hl.1 rfl (Nat.le_of_ble_eq_true rfl) dC_Enc_encodeNumber_25 ?_
    refine lv_ior (pc := 28) hx hb dC_Enc_encodeNumber_28 ?_
    refine lv_aload_n (pc := 29) hx hb dC_Enc_encodeNumber_29 rfl (lv_at hl 1 rfl) ?_
    obtain ⟨hg6, hM⟩ := gd_some hM
    refine x_getI (pc := 30) C hW 46 rfl (of_decide_eq_true hg6) 4 (by decide) qc_350 rfl rfl dC_Enc_encodeNumber_30 ?_
    obtain ⟨r7, u8, hr7, hM⟩ := cl_some hM
    refine x_callC (pc := 33) (n' := 47) C hW (kC_Enc_put l D dA o b i N x3 ((sI.2.1 n1 3) ||| r5) (sI.2.1 n1 4) sE sY sF sN sT sP sI hr7) [0, 1, 2, 3, 4, 5, 6, 7, 8, 9, 10, 11, 12, 13, 14, 15, 16, 17, 18, 19, 20, 21, 22, 23, 24, 25, 26, 27, 28, 29, 30, 31, 32, 33, 34, 35, 36, 37, 38, 39, 40, 41, 42, 43, 44, 45, 46] rfl (by decide +kernel) rfl (ci := 9) rfl (q0 := 0) rfl gC_Enc_128 ⟨rfl, by decide, by decide, by decide +kernel⟩ ⟨Nat.le_of_ble_eq_true rfl, Nat.le_of_ble_eq_true rfl⟩ ⟨Nat.le_refl _, Nat.le_refl _⟩ (As := [.int x3, .int ((sI.2.1 n1 3) ||| r5), .int (sI.2.1 n1 4)]) (n := 3) rfl hl.1 rfl (Nat.le_of_ble_eq_true rfl) dC_Enc_encodeNumber_33 (fun Wc' ov H locs hPo hWn => ?_)
    obtain ⟨rfl, rfl⟩ := hPo
    have hW := hWn (w_Enc dA o b i u8 sY sF sN sT sP sI) rfl rfl
    refine lv_iconst (pc := 36) (v := 0) hx hb dC_Enc_encodeNumber_36 (by decide) ?_
    obtain ⟨rfl, rfl⟩ := sm_p hM
    exact x_retCi (pc := 37) C rfl hW ⟨rfl, rfl⟩ (Nat.le_refl 0) (Nat.le_refl 0) dC_Enc_encodeNumber_37
  · replace hM := it_t hc hM
    refine lv_bipush (pc := 11) (v := 10) hx hb dC_Enc_encodeNumber_11 (by decide) ?_
    obtain ⟨rfl, rfl⟩ := sm_p hM
    exact x_retCi (pc := 13) C rfl hW ⟨rfl, rfl⟩ (Nat.le_refl 0) (Nat.le_refl 0) dC_Enc_encodeNumber_13
theorem kC_Enc_encodeNumber (l : Launch) (D : va_G) (dA : Nat → ClassId) (o b i : Nat → Nat) (N : Nat) (n1 : Nat) (x2 : Int32) (x3 : Int32) (sE : CS) (sY : CS) (sF : CS) (sN : CS) (sT : CS) (sP : CS) (sI : CS) {r : Int32} {u : CS} (hM : C_Enc_encodeNumber N n1 x2 x3 sE sY sF sN sT sP sI = some (r, u)) : KC l D dA (zz o) yC_Enc_encodeNumber cC_Enc_encodeNumber 4 (some .int) 3 65 0 0 (w_Enc dA o b i sE sY sF sN sT sP sI) [.ref (o 128), .ref (pa o i n1), .int x2, .int x3] (fun Ws' ov => Ws' = (w_Enc dA o b i u sY sF sN sT sP sI) ∧ ov = (some (.int r))) := x_enterC (by decide +kernel) (Nat.le_of_ble_eq_true rfl) (fun p e s m args below meth c A C _ hW ls hl => bC_Enc_encodeNumber_0 N C n1 x2 x3 sE sY sF sN sT sP sI hM s.heap [] hW ls hl)
def C_Enc_encodeJump_137 (N : Nat)  (sE : CS) (sY : CS) (sF : CS) (sN : CS) (sT : CS) (sP : CS) (sI : CS) : Option (Int32 × CS) :=
  some ((0 : Int32), sE)
set_option maxHeartbeats 4000000 in
set_option maxRecDepth 100000 in
theorem bC_Enc_encodeJump_137 (N : Nat)  {r : Int32} {u : CS} (C : CxC R_Enc p s m args meth c cC_Enc_encodeJump 7 (some .int) D dA (zz o) A)  (sE : CS) (sY : CS) (sF : CS) (sN : CS) (sT : CS) (sP : CS) (sI : CS) (hM : C_Enc_encodeJump_137 N   sE sY sF sN sT sP sI = some (r, u)) (H : Heap) (locs : List Loc) (hW : WdC D A s (w_Enc dA o b i sE sY sF sN sT sP sI) H locs) (ls : Array Slot) (hl : lv_has ls 7 []) : W p l e (rmC 3 65 0 0) s m args below meth c H locs 0 0 (MQ below (QC D A (fun Ws' ov => Ws' = (w_Enc dA o b i u sY sF sN sT sP sI) ∧ ov = (some (.int r)))) args s 0 0 A) (F0 m 137 ls []) := by
  have hx := C.1.1
  have hb := C.1.2.1
  have hown := C.1.2.2.2.2.1
  have hT := C.1.2.2.2.2.2.1
  unfold C_Enc_encodeJump_137 at hM
  refine lv_iconst (pc := 137) (v := 0) hx hb dC_Enc_encodeJump_137 (by decide) ?_
  obtain ⟨rfl, rfl⟩ := sm_p hM
  exact x_retCi (pc := 138) C rfl hW ⟨rfl, rfl⟩ (Nat.le_refl 0) (Nat.le_refl 0) dC_Enc_encodeJump_138
def C_Enc_encodeJump_29 (N : Nat) (n1 : Nat) (x3 : Int32) (x4 : Int32) (t0 : Int32) (sE : CS) (sY : CS) (sF : CS) (sN : CS) (sT : CS) (sP : CS) (sI : CS) : Option (Int32 × CS) :=
  cr (C_Fie_fits  x4 t0) (fun r1 => (if r1 = 0 then some ((10 : Int32), sE) else cr (C_Fie_scatter  x4 t0) (fun r2 => gd (decide (n1 < sI.2.2 0 + 1)) ((if (sI.2.1 n1 4) = (8 : Int32) then gd (decide (n1 < sI.2.2 0 + 1)) (cr (C_Fie_scatter  (116 : Int32) (8 : Int32)) (fun r13 => cl (C_Enc_put N x3 (((sI.2.1 n1 3) ^^^ (4096 : Int32)) ||| r13) (4 : Int32) sE sY sF sN sT sP sI) (fun r14 u15 => cl (C_Enc_put N (x3 + (4 : Int32)) ((111 : Int32) ||| r2) (4 : Int32) u15 sY sF sN sT sP sI) (fun r16 u17 => C_Enc_encodeJump_137 N  u17 sY sF sN sT sP sI)))) else gd (decide (n1 < sI.2.2 0 + 1)) ((if (sI.2.1 n1 4) = (4 : Int32) then gd (decide (n1 < sI.2.2 0 + 1)) (cl (C_Enc_put N x3 ((sI.2.1 n1 3) ||| r2) (4 : Int32) sE sY sF sN sT sP sI) (fun r10 u11 => C_Enc_encodeJump_137 N  u11 sY sF sN sT sP sI)) else cl (C_Enc_shortWord  n1 sE sY sF sN sT sP sI) (fun r5 u6 => cl (C_Enc_put N x3 (r5 ||| r2) (2 : Int32) sE sY sF sN sT sP sI) (fun r7 u8 => C_Enc_encodeJump_137 N  u8 sY sF sN sT sP sI)))))))))
set_option maxHeartbeats 4000000 in
set_option maxRecDepth 100000 in
theorem bC_Enc_encodeJump_29 (N : Nat)  {r : Int32} {u : CS} (C : CxC R_Enc p s m args meth c cC_Enc_encodeJump 7 (some .int) D dA (zz o) A) (n1 : Nat) (x3 : Int32) (x4 : Int32) (t0 : Int32) (sE : CS) (sY : CS) (sF : CS) (sN : CS) (sT : CS) (sP : CS) (sI : CS) (hM : C_Enc_encodeJump_29 N  n1 x3 x4 t0 sE sY sF sN sT sP sI = some (r, u)) (H : Heap) (locs : List Loc) (hW : WdC D A s (w_Enc dA o b i sE sY sF sN sT sP sI) H locs) (ls : Array Slot) (hl : lv_has ls 7 [(0, .ref (o 128)), (1, .ref (pa o i n1)), (3, .int x3), (4, .int x4)]) : W p l e (rmC 3 65 0 0) s m args below meth c H locs 0 0 (MQ below (QC D A (fun Ws' ov => Ws' = (w_Enc dA o b i u sY sF sN sT sP sI) ∧ ov = (some (.int r)))) args s 0 0 A) (F0 m 29 ls [.int t0]) := by
  have hx := C.1.1
  have hb := C.1.2.1
  have hown := C.1.2.2.2.2.1
  have hT := C.1.2.2.2.2.2.1
  unfold C_Enc_encodeJump_29 at hM
  refine lv_istore (pc := 29) (lv' := [(5, .int t0), (0, .ref (o 128)), (1, .ref (pa o i n1)), (3, .int x3), (4, .int x4)]) hx hb dC_Enc_encodeJump_29 hl (by decide) rfl (fun ls hl => ?_)
  refine lv_iload (pc := 31) hx hb dC_Enc_encodeJump_31 (lv_at hl 4 rfl) ?_
  refine lv_iload (pc := 33) hx hb dC_Enc_encodeJump_33 (lv_at hl 0 rfl) ?_
  obtain ⟨r1, hr1, hM⟩ := cr_some hM
  refine x_callU (pc := 35) (ov := some (.int r1)) C.1 (kC_Fie_fits l  x4 t0 hr1) qc_1243 qc_1347 qc_1242 qc_35 ⟨by decide, by decide, by decide +kernel⟩ ⟨rfl, rfl⟩ ⟨Nat.le_of_ble_eq_true rfl, Nat.le_of_ble_eq_true rfl⟩ ⟨Nat.le_refl _, Nat.le_refl _⟩ (As := [.int x4, .int t0]) (n := 2) rfl hl.1 rfl (Nat.le_of_ble_eq_true rfl) dC_Enc_encodeJump_35 ?_
  refine lv_if_ne (pc := 38) (tgt := 44) hx hb dC_Enc_encodeJump_38 (by decide) (fun hc => ?_) (fun hc => ?_)
  · replace hM := it_f hc hM
    refine lv_iload (pc := 44) hx hb dC_Enc_encodeJump_44 (lv_at hl 4 rfl) ?_
    refine lv_iload (pc := 46) hx hb dC_Enc_encodeJump_46 (lv_at hl 0 rfl) ?_
    obtain ⟨r2, hr2, hM⟩ := cr_some hM
    refine x_callU (pc := 48) (ov := some (.int r2)) C.1 (kC_Fie_scatter l  x4 t0 hr2) qc_1252 qc_1386 qc_1251 qc_35 ⟨by decide, by decide, by decide +kernel⟩ ⟨rfl, rfl⟩ ⟨Nat.le_of_ble_eq_true rfl, Nat.le_of_ble_eq_true rfl⟩ ⟨Nat.le_refl _, Nat.le_refl _⟩ (As := [.int x4, .int t0]) (n := 2) rfl hl.1 rfl (Nat.le_of_ble_eq_true rfl) dC_Enc_encodeJump_48 ?_
    refine lv_istore (pc := 51) (lv' := [(6, .int r2), (5, .int t0), (0, .ref (o 128)), (1, .ref (pa o i n1)), (3, .int x3), (4, .int x4)]) hx hb dC_Enc_encodeJump_51 hl (by decide) rfl (fun ls hl => ?_)
    refine lv_aload_n (pc := 53) hx hb dC_Enc_encodeJump_53 rfl (lv_at hl 3 rfl) ?_
    obtain ⟨hg3, hM⟩ := gd_some hM
    refine x_getI (pc := 54) C hW 46 rfl (of_decide_eq_true hg3) 4 (by decide) qc_350 rfl rfl dC_Enc_encodeJump_54 ?_
    refine lv_bipush (pc := 57) (v := 8) hx hb dC_Enc_encodeJump_57 (by decide) ?_
    refine lv_icmp_ne (pc := 59) (tgt := 100) hx hb dC_Enc_encodeJump_59 (by decide) (fun hc => ?_) (fun hc => ?_)
    · replace hM := it_f hc hM
      refine lv_aload_n (pc := 100) hx hb dC_Enc_encodeJump_100 rfl (lv_at hl 3 rfl) ?_
      obtain ⟨hg4, hM⟩ := gd_some hM
      refine x_getI (pc := 101) C hW 46 rfl (of_decide_eq_true hg4) 4 (by decide) qc_350 rfl rfl dC_Enc_encodeJump_101 ?_
      refine lv_iconst (pc := 104) (v := 4) hx hb dC_Enc_encodeJump_104 (by decide) ?_
      refine lv_icmp_ne (pc := 105) (tgt := 124) hx hb dC_Enc_encodeJump_105 (by decide) (fun hc => ?_) (fun hc => ?_)
      · replace hM := it_f hc hM
        refine lv_aload_n (pc := 124) hx hb dC_Enc_encodeJump_124 rfl (lv_at hl 2 rfl) ?_
        refine lv_iload_n (pc := 125) hx hb dC_Enc_encodeJump_125 rfl (lv_at hl 4 rfl) ?_
        refine lv_aload_n (pc := 126) hx hb dC_Enc_encodeJump_126 rfl (lv_at hl 3 rfl) ?_
        obtain ⟨r5, u6, hr5, hM⟩ := cl_some hM
        refine x_callT (pc := 127) (n' := 47) C hW (kC_Enc_shortWord l D dA o b i  n1 sE sY sF sN sT sP sI hr5) [0, 1, 2, 3, 4, 5, 6, 7, 8, 9, 10, 11, 12, 13, 14, 15, 16, 17, 18, 19, 20, 21, 22, 23, 24, 25, 26, 27, 28, 29, 30, 31, 32, 33, 34, 35, 36, 37, 38, 39, 40, 41, 42, 43, 44, 45, 46] rfl (by decide +kernel) rfl qc_1389 qc_1387 qc_1388 qc_22 ⟨by decide, by decide, by decide +kernel⟩ ⟨Nat.le_of_ble_eq_true rfl, Nat.le_of_ble_eq_true rfl⟩ ⟨Nat.le_refl _, Nat.le_refl _⟩ (As := [.ref (pa o i n1)]) (n := 1) rfl hl.1 rfl (Nat.le_of_ble_eq_true rfl) dC_Enc_encodeJump_127 (fun Wc' ov H locs hPo hWn => ?_)
        obtain ⟨rfl, rfl⟩ := hPo
        have hW := hWn (w_Enc dA o b i sE sY sF sN sT sP sI) rfl rfl
        refine lv_iload (pc := 130) hx hb dC_Enc_encodeJump_130 (lv_at hl 0 rfl) ?_
        refine lv_ior (pc := 132) hx hb dC_Enc_encodeJump_132 ?_
        refine lv_iconst (pc := 133) (v := 2) hx hb dC_Enc_encodeJump_133 (by decide) ?_
        obtain ⟨r7, u8, hr7, hM⟩ := cl_some hM
        refine x_callC (pc := 134) (n' := 47) C hW (kC_Enc_put l D dA o b i N x3 (r5 ||| r2) (2 : Int32) sE sY sF sN sT sP sI hr7) [0, 1, 2, 3, 4, 5, 6, 7, 8, 9, 10, 11, 12, 13, 14, 15, 16, 17, 18, 19, 20, 21, 22, 23, 24, 25, 26, 27, 28, 29, 30, 31, 32, 33, 34, 35, 36, 37, 38, 39, 40, 41, 42, 43, 44, 45, 46] rfl (by decide +kernel) rfl (ci := 9) rfl (q0 := 0) rfl gC_Enc_128 ⟨rfl, by decide, by decide, by decide +kernel⟩ ⟨Nat.le_of_ble_eq_true rfl, Nat.le_of_ble_eq_true rfl⟩ ⟨Nat.le_refl _, Nat.le_refl _⟩ (As := [.int x3, .int (r5 ||| r2), .int (2 : Int32)]) (n := 3) rfl hl.1 rfl (Nat.le_of_ble_eq_true rfl) dC_Enc_encodeJump_134 (fun Wc' ov H locs hPo hWn => ?_)
        obtain ⟨rfl, rfl⟩ := hPo
        have hW := hWn (w_Enc dA o b i u8 sY sF sN sT sP sI) rfl rfl
        exact bC_Enc_encodeJump_137 N  C  _ _ _ _ _ _ _ hM _ _ hW _ (lv_sub hl [] rfl)
      · replace hM := it_t hc hM
        refine lv_aload_n (pc := 108) hx hb dC_Enc_encodeJump_108 rfl (lv_at hl 2 rfl) ?_
        refine lv_iload_n (pc := 109) hx hb dC_Enc_encodeJump_109 rfl (lv_at hl 4 rfl) ?_
        refine lv_aload_n (pc := 110) hx hb dC_Enc_encodeJump_110 rfl (lv_at hl 3 rfl) ?_
        obtain ⟨hg9, hM⟩ := gd_some hM
        refine x_getI (pc := 111) C hW 46 rfl (of_decide_eq_true hg9) 3 (by decide) qc_346 rfl rfl dC_Enc_encodeJump_111 ?_
        refine lv_iload (pc := 114) hx hb dC_Enc_encodeJump_114 (lv_at hl 0 rfl) ?_
        refine lv_ior (pc := 116) hx hb dC_Enc_encodeJump_116 ?_
        refine lv_iconst (pc := 117) (v := 4) hx hb dC_Enc_encodeJump_117 (by decide) ?_
        obtain ⟨r10, u11, hr10, hM⟩ := cl_some hM
        refine x_callC (pc := 118) (n' := 47) C hW (kC_Enc_put l D dA o b i N x3 ((sI.2.1 n1 3) ||| r2) (4 : Int32) sE sY sF sN sT sP sI hr10) [0, 1, 2, 3, 4, 5, 6, 7, 8, 9, 10, 11, 12, 13, 14, 15, 16, 17, 18, 19, 20, 21, 22, 23, 24, 25, 26, 27, 28, 29, 30, 31, 32, 33, 34, 35, 36, 37, 38, 39, 40, 41, 42, 43, 44, 45, 46] rfl (by decide +kernel) rfl (ci := 9) rfl (q0 := 0) rfl gC_Enc_128 ⟨rfl, by decide, by decide, by decide +kernel⟩ ⟨Nat.le_of_ble_eq_true rfl, Nat.le_of_ble_eq_true rfl⟩ ⟨Nat.le_refl _, Nat.le_refl _⟩ (As := [.int x3, .int ((sI.2.1 n1 3) ||| r2), .int (4 : Int32)]) (n := 3) rfl hl.1 rfl (Nat.le_of_ble_eq_true rfl) dC_Enc_encodeJump_118 (fun Wc' ov H locs hPo hWn => ?_)
        obtain ⟨rfl, rfl⟩ := hPo
        have hW := hWn (w_Enc dA o b i u11 sY sF sN sT sP sI) rfl rfl
        refine lv_goto (pc := 121) (tgt := 137) hx hb dC_Enc_encodeJump_121 (by decide) ?_
        exact bC_Enc_encodeJump_137 N  C  _ _ _ _ _ _ _ hM _ _ hW _ (lv_sub hl [] rfl)
    · replace hM := it_t hc hM
      refine lv_aload_n (pc := 62) hx hb dC_Enc_encodeJump_62 rfl (lv_at hl 2 rfl) ?_
      refine lv_iload_n (pc := 63) hx hb dC_Enc_encodeJump_63 rfl (lv_at hl 4 rfl) ?_
      refine lv_aload_n (pc := 64) hx hb dC_Enc_encodeJump_64 rfl (lv_at hl 3 rfl) ?_
      obtain ⟨hg12, hM⟩ := gd_some hM
      refine x_getI (pc := 65) C hW 46 rfl (of_decide_eq_true hg12) 3 (by decide) qc_346 rfl rfl dC_Enc_encodeJump_65 ?_
      refine lv_sipush (pc := 68) (v := 4096) hx hb dC_Enc_encodeJump_68 (by decide) ?_
      refine lv_ixor (pc := 71) hx hb dC_Enc_encodeJump_71 ?_
      refine lv_bipush (pc := 72) (v := 116) hx hb dC_Enc_encodeJump_72 (by decide) ?_
      refine lv_bipush (pc := 74) (v := 8) hx hb dC_Enc_encodeJump_74 (by decide) ?_
      obtain ⟨r13, hr13, hM⟩ := cr_some hM
      refine x_callU (pc := 76) (ov := some (.int r13)) C.1 (kC_Fie_scatter l  (116 : Int32) (8 : Int32) hr13) qc_1252 qc_1386 qc_1251 qc_35 ⟨by decide, by decide, by decide +kernel⟩ ⟨rfl, rfl⟩ ⟨Nat.le_of_ble_eq_true rfl, Nat.le_of_ble_eq_true rfl⟩ ⟨Nat.le_refl _, Nat.le_refl _⟩ (As := [.int (116 : Int32), .int (8 : Int32)]) (n := 2) rfl hl.1 rfl (Nat.le_of_ble_eq_true rfl) dC_Enc_encodeJump_76 ?_
      refine lv_ior (pc := 79) hx hb dC_Enc_encodeJump_79 ?_
      refine lv_iconst (pc := 80) (v := 4) hx hb dC_Enc_encodeJump_80 (by decide) ?_
      obtain ⟨r14, u15, hr14, hM⟩ := cl_some hM
      refine x_callC (pc := 81) (n' := 47) C hW (kC_Enc_put l D dA o b i N x3 (((sI.2.1 n1 3) ^^^ (4096 : Int32)) ||| r13) (4 : Int32) sE sY sF sN sT sP sI hr14) [0, 1, 2, 3, 4, 5, 6, 7, 8, 9, 10, 11, 12, 13, 14, 15, 16, 17, 18, 19, 20, 21, 22, 23, 24, 25, 26, 27, 28, 29, 30, 31, 32, 33, 34, 35, 36, 37, 38, 39, 40, 41, 42, 43, 44, 45, 46] rfl (by decide +kernel) rfl (ci := 9) rfl (q0 := 0) rfl gC_Enc_128 ⟨rfl, by decide, by decide, by decide +kernel⟩ ⟨Nat.le_of_ble_eq_true rfl, Nat.le_of_ble_eq_true rfl⟩ ⟨Nat.le_refl _, Nat.le_refl _⟩ (As := [.int x3, .int (((sI.2.1 n1 3) ^^^ (4096 : Int32)) ||| r13), .int (4 : Int32)]) (n := 3) rfl hl.1 rfl (Nat.le_of_ble_eq_true rfl) dC_Enc_encodeJump_81 (fun Wc' ov H locs hPo hWn => ?_)
      obtain ⟨rfl, rfl⟩ := hPo
      have hW := hWn (w_Enc dA o b i u15 sY sF sN sT sP sI) rfl rfl
      refine lv_aload_n (pc := 84) hx hb dC_Enc_encodeJump_84 rfl (lv_at hl 2 rfl) ?_
      refine lv_iload_n (pc := 85) hx hb dC_Enc_encodeJump_85 rfl (lv_at hl 4 rfl) ?_
      refine lv_iconst (pc := 86) (v := 4) hx hb dC_Enc_encodeJump_86 (by decide) ?_
      refine lv_iadd (pc := 87) hx hb dC_Enc_encodeJump_87 ?_
      refine lv_bipush (pc := 88) (v := 111) hx hb dC_Enc_encodeJump_88 (by decide) ?_
      refine lv_iload (pc := 90) hx hb dC_Enc_encodeJump_90 (lv_at hl 0 rfl) ?_
      refine lv_ior (pc := 92) hx hb dC_Enc_encodeJump_92 ?_
      refine lv_iconst (pc := 93) (v := 4) hx hb dC_Enc_encodeJump_93 (by decide) ?_
      obtain ⟨r16, u17, hr16, hM⟩ := cl_some hM
      refine x_callC (pc := 94) (n' := 47) C hW (kC_Enc_put l D dA o b i N (x3 + (4 : Int32)) ((111 : Int32) ||| r2) (4 : Int32) u15 sY sF sN sT sP sI hr16) [0, 1, 2, 3, 4, 5, 6, 7, 8, 9, 10, 11, 12, 13, 14, 15, 16, 17, 18, 19, 20, 21, 22, 23, 24, 25, 26, 27, 28, 29, 30, 31, 32, 33, 34, 35, 36, 37, 38, 39, 40, 41, 42, 43, 44, 45, 46] rfl (by decide +kernel) rfl (ci := 9) rfl (q0 := 0) rfl gC_Enc_128 ⟨rfl, by decide, by decide, by decide +kernel⟩ ⟨Nat.le_of_ble_eq_true rfl, Nat.le_of_ble_eq_true rfl⟩ ⟨Nat.le_refl _, Nat.le_refl _⟩ (As := [.int (x3 + (4 : Int32)), .int ((111 : Int32) ||| r2), .int (4 : Int32)]) (n := 3) rfl hl.1 rfl (Nat.le_of_ble_eq_true rfl) dC_Enc_encodeJump_94 (fun Wc' ov H locs hPo hWn => ?_)
      obtain ⟨rfl, rfl⟩ := hPo
      have hW := hWn (w_Enc dA o b i u17 sY sF sN sT sP sI) rfl rfl
      refine lv_goto (pc := 97) (tgt := 137) hx hb dC_Enc_encodeJump_97 (by decide) ?_
      exact bC_Enc_encodeJump_137 N  C  _ _ _ _ _ _ _ hM _ _ hW _ (lv_sub hl [] rfl)
  · replace hM := it_t hc hM
    refine lv_bipush (pc := 41) (v := 10) hx hb dC_Enc_encodeJump_41 (by decide) ?_
    obtain ⟨rfl, rfl⟩ := sm_p hM
    exact x_retCi (pc := 43) C rfl hW ⟨rfl, rfl⟩ (Nat.le_refl 0) (Nat.le_refl 0) dC_Enc_encodeJump_43
def C_Enc_encodeJump (N : Nat) (n1 : Nat) (x2 : Int32) (x3 : Int32) (sE : CS) (sY : CS) (sF : CS) (sN : CS) (sT : CS) (sP : CS) (sI : CS) : Option (Int32 × CS) :=
  gd (decide (n1 < sI.2.2 0 + 1)) (gd (decide (n1 < sI.2.2 0 + 1)) (cr (C_Fie_markFor  (sI.2.1 n1 2) (sI.2.1 n1 4)) (fun r3 => gd (decide (n1 < sI.2.2 0 + 1)) ((if (sI.2.1 n1 4) = (8 : Int32) then C_Enc_encodeJump_29 N  n1 x3 r3 (x2 - (4 : Int32)) sE sY sF sN sT sP sI else C_Enc_encodeJump_29 N  n1 x3 r3 x2 sE sY sF sN sT sP sI)))))
set_option maxHeartbeats 4000000 in
set_option maxRecDepth 100000 in
theorem bC_Enc_encodeJump_0 (N : Nat)  {r : Int32} {u : CS} (C : CxC R_Enc p s m args meth c cC_Enc_encodeJump 7 (some .int) D dA (zz o) A) (n1 : Nat) (x2 : Int32) (x3 : Int32) (sE : CS) (sY : CS) (sF : CS) (sN : CS) (sT : CS) (sP : CS) (sI : CS) (hM : C_Enc_encodeJump N  n1 x2 x3 sE sY sF sN sT sP sI = some (r, u)) (H : Heap) (locs : List Loc) (hW : WdC D A s (w_Enc dA o b i sE sY sF sN sT sP sI) H locs) (ls : Array Slot) (hl : lv_has ls 7 [(0, .ref (o 128)), (1, .ref (pa o i n1)), (2, .int x2), (3, .int x3)]) : W p l e (rmC 3 65 0 0) s m args below meth c H locs 0 0 (MQ below (QC D A (fun Ws' ov => Ws' = (w_Enc dA o b i u sY sF sN sT sP sI) ∧ ov = (some (.int r)))) args s 0 0 A) (F0 m 0 ls []) := by
  have hx := C.1.1
  have hb := C.1.2.1
  have hown := C.1.2.2.2.2.1
  have hT := C.1.2.2.2.2.2.1
  unfold C_Enc_encodeJump at hM
  refine lv_aload_n (pc := 0) hx hb dC_Enc_encodeJump_0 rfl (lv_at hl 1 rfl) ?_
  obtain ⟨hg1, hM⟩ := gd_some hM
  refine x_getI (pc := 1) C hW 46 rfl (of_decide_eq_true hg1) 2 (by decide) qc_342 rfl rfl dC_Enc_encodeJump_1 ?_
  refine lv_aload_n (pc := 4) hx hb dC_Enc_encodeJump_4 rfl (lv_at hl 1 rfl) ?_
  obtain ⟨hg2, hM⟩ := gd_some hM
  refine x_getI (pc := 5) C hW 46 rfl (of_decide_eq_true hg2) 4 (by decide) qc_350 rfl rfl dC_Enc_encodeJump_5 ?_
  obtain ⟨r3, hr3, hM⟩ := cr_some hM
  refine x_callU (pc := 8) (ov := some (.int r3)) C.1 (kC_Fie_markFor l  (sI.2.1 n1 2) (sI.2.1 n1 4) hr3) qc_1346 qc_1344 qc_1345 qc_35 ⟨by decide, by decide, by decide +kernel⟩ ⟨rfl, rfl⟩ ⟨Nat.le_of_ble_eq_true rfl, Nat.le_of_ble_eq_true rfl⟩ ⟨Nat.le_refl _, Nat.le_refl _⟩ (As := [.int (sI.2.1 n1 2), .int (sI.2.1 n1 4)]) (n := 2) rfl hl.1 rfl (Nat.le_of_ble_eq_true rfl) dC_Enc_encodeJump_8 ?_
  refine lv_istore (pc := 11) (lv' := [(4, .int r3), (0, .ref (o 128)), (1, .ref (pa o i n1)), (2, .int x2), (3, .int x3)]) hx hb dC_Enc_encodeJump_11 hl (by decide) rfl (fun ls hl => ?_)
  refine lv_aload_n (pc := 13) hx hb dC_Enc_encodeJump_13 rfl (lv_at hl 2 rfl) ?_
  obtain ⟨hg4, hM⟩ := gd_some hM
  refine x_getI (pc := 14) C hW 46 rfl (of_decide_eq_true hg4) 4 (by decide) qc_350 rfl rfl dC_Enc_encodeJump_14 ?_
  refine lv_bipush (pc := 17) (v := 8) hx hb dC_Enc_encodeJump_17 (by decide) ?_
  refine lv_icmp_ne (pc := 19) (tgt := 28) hx hb dC_Enc_encodeJump_19 (by decide) (fun hc => ?_) (fun hc => ?_)
  · replace hM := it_f hc hM
    refine lv_iload_n (pc := 28) hx hb dC_Enc_encodeJump_28 rfl (lv_at hl 3 rfl) ?_
    exact bC_Enc_encodeJump_29 N  C  _ _ _ _ _ _ _ _ _ _ _ hM _ _ hW _ (lv_sub hl [1, 2, 4, 0] rfl)
  · replace hM := it_t hc hM
    refine lv_iload_n (pc := 22) hx hb dC_Enc_encodeJump_22 rfl (lv_at hl 3 rfl) ?_
    refine lv_iconst (pc := 23) (v := 4) hx hb dC_Enc_encodeJump_23 (by decide) ?_
    refine lv_isub (pc := 24) hx hb dC_Enc_encodeJump_24 ?_
    refine lv_goto (pc := 25) (tgt := 29) hx hb dC_Enc_encodeJump_25 (by decide) ?_
    exact bC_Enc_encodeJump_29 N  C  _ _ _ _ _ _ _ _ _ _ _ hM _ _ hW _ (lv_sub hl [1, 2, 4, 0] rfl)
theorem kC_Enc_encodeJump (l : Launch) (D : va_G) (dA : Nat → ClassId) (o b i : Nat → Nat) (N : Nat) (n1 : Nat) (x2 : Int32) (x3 : Int32) (sE : CS) (sY : CS) (sF : CS) (sN : CS) (sT : CS) (sP : CS) (sI : CS) {r : Int32} {u : CS} (hM : C_Enc_encodeJump N n1 x2 x3 sE sY sF sN sT sP sI = some (r, u)) : KC l D dA (zz o) yC_Enc_encodeJump cC_Enc_encodeJump 7 (some .int) 3 65 0 0 (w_Enc dA o b i sE sY sF sN sT sP sI) [.ref (o 128), .ref (pa o i n1), .int x2, .int x3] (fun Ws' ov => Ws' = (w_Enc dA o b i u sY sF sN sT sP sI) ∧ ov = (some (.int r))) := x_enterC (by decide +kernel) (Nat.le_of_ble_eq_true rfl) (fun p e s m args below meth c A C _ hW ls hl => bC_Enc_encodeJump_0 N C n1 x2 x3 sE sY sF sN sT sP sI hM s.heap [] hW ls hl)
def C_Enc_encodeExpression_151 (N : Nat) (n1 : Nat) (x2 : Int32) (x4 : Int32) (sE : CS) (sY : CS) (sF : CS) (sN : CS) (sT : CS) (sP : CS) (sI : CS) : Option ((Int32 × (CS × CS)) × (Nat × Nat)) :=
  cl (C_Enc_encodeNumber N n1 (x4 - x2) x2 sE sY sF sN sT sP sI) (fun r1 u2 => some ((r1, (u2, sF)), (0, 0)))
set_option maxHeartbeats 4000000 in
set_option maxRecDepth 100000 in
theorem bC_Enc_encodeExpression_151 (N : Nat)  {r : Int32} {u : CS × CS} {DC DS : Nat} (C : CxC R_Enc p s m args meth c cC_Enc_encodeExpression 5 (some .int) D dA (zz o) A) (n1 : Nat) (x2 : Int32) (x4 : Int32) (sE : CS) (sY : CS) (sF : CS) (sN : CS) (sT : CS) (sP : CS) (sI : CS) (dc ds kc ks : Nat) (hM : C_Enc_encodeExpression_151 N  n1 x2 x4 sE sY sF sN sT sP sI = some ((r, u), (dc, ds))) (hdc : kc + dc ≤ DC) (hds : ks + ds ≤ DS) (b : Nat → Nat) (H : Heap) (locs : List Loc) (hW : WdC D A s (w_Enc dA o b i sE sY sF sN sT sP sI) H locs) (ls : Array Slot) (hl : lv_has ls 5 [(0, .ref (o 128)), (1, .ref (pa o i n1)), (2, .int x2), (4, .int x4)]) : W p l e (rmC 6 193 DC DS) s m args below meth c H locs kc ks (MQ below (QC D A (fun Ws' ov => ∃ b' : Nat → Nat, Ws' = (w_Enc dA o b' i u.1 sY u.2 sN sT sP sI) ∧ ov = (some (.int r)))) args s DC DS A) (F0 m 151 ls []) := by
  have hx := C.1.1
  have hb := C.1.2.1
  have hown := C.1.2.2.2.2.1
  have hT := C.1.2.2.2.2.2.1
  unfold C_Enc_encodeExpression_151 at hM
  refine lv_aload_n (pc := 151) hx hb dC_Enc_encodeExpression_151 rfl (lv_at hl 0 rfl) ?_
  refine lv_aload_n (pc := 152) hx hb dC_Enc_encodeExpression_152 rfl (lv_at hl 1 rfl) ?_
  refine lv_iload (pc := 153) hx hb dC_Enc_encodeExpression_153 (lv_at hl 3 rfl) ?_
  refine lv_iload_n (pc := 155) hx hb dC_Enc_encodeExpression_155 rfl (lv_at hl 2 rfl) ?_
  refine lv_isub (pc := 156) hx hb dC_Enc_encodeExpression_156 ?_
  refine lv_iload_n (pc := 157) hx hb dC_Enc_encodeExpression_157 rfl (lv_at hl 2 rfl) ?_
  obtain ⟨r1, u2, hr1, hM⟩ := cl_some hM
  refine x_callC (pc := 158) (n' := 47) C hW (kC_Enc_encodeNumber l D dA o b i N n1 (x4 - x2) x2 sE sY sF sN sT sP sI hr1) [0, 1, 2, 3, 4, 5, 6, 7, 8, 9, 10, 11, 12, 13, 14, 15, 16, 17, 18, 19, 20, 21, 22, 23, 24, 25, 26, 27, 28, 29, 30, 31, 32, 33, 34, 35, 36, 37, 38, 39, 40, 41, 42, 43, 44, 45, 46] rfl (by decide +kernel) rfl (ci := 9) rfl (q0 := 0) rfl gC_Enc_141 ⟨rfl, by decide, by decide, by decide +kernel⟩ ⟨Nat.le_of_ble_eq_true rfl, Nat.le_of_ble_eq_true rfl⟩ ⟨show _ + 0 ≤ DC by omega, show _ + 0 ≤ DS by omega⟩ (As := [.ref (pa o i n1), .int (x4 - x2), .int x2]) (n := 3) rfl hl.1 rfl (Nat.le_of_ble_eq_true rfl) dC_Enc_encodeExpression_158 (fun Wc' ov H locs hPo hWn => ?_)
  obtain ⟨rfl, rfl⟩ := hPo
  have hW := hWn (w_Enc dA o b i u2 sY sF sN sT sP sI) rfl rfl
  obtain ⟨rfl, rfl, rfl, rfl⟩ := sm_q hM
  exact x_retCi (pc := 161) C rfl hW ⟨_, rfl, rfl⟩ (by omega) (by omega) dC_Enc_encodeExpression_161
def C_Enc_encodeExpression_140 (N : Nat) (n1 : Nat) (x2 : Int32) (x4 : Int32) (sE : CS) (sY : CS) (sF : CS) (sN : CS) (sT : CS) (sP : CS) (sI : CS) : Option ((Int32 × (CS × CS)) × (Nat × Nat)) :=
  cl (C_Enc_encodeJump N n1 (x4 - x2) x2 sE sY sF sN sT sP sI) (fun r1 u2 => some ((r1, (u2, sF)), (0, 0)))
set_option maxHeartbeats 4000000 in
set_option maxRecDepth 100000 in
theorem bC_Enc_encodeExpression_140 (N : Nat)  {r : Int32} {u : CS × CS} {DC DS : Nat} (C : CxC R_Enc p s m args meth c cC_Enc_encodeExpression 5 (some .int) D dA (zz o) A) (n1 : Nat) (x2 : Int32) (x4 : Int32) (sE : CS) (sY : CS) (sF : CS) (sN : CS) (sT : CS) (sP : CS) (sI : CS) (dc ds kc ks : Nat) (hM : C_Enc_encodeExpression_140 N  n1 x2 x4 sE sY sF sN sT sP sI = some ((r, u), (dc, ds))) (hdc : kc + dc ≤ DC) (hds : ks + ds ≤ DS) (b : Nat → Nat) (H : Heap) (locs : List Loc) (hW : WdC D A s (w_Enc dA o b i sE sY sF sN sT sP sI) H locs) (ls : Array Slot) (hl : lv_has ls 5 [(0, .ref (o 128)), (1, .ref (pa o i n1)), (2, .int x2), (4, .int x4)]) : W p l e (rmC 6 193 DC DS) s m args below meth c H locs kc ks (MQ below (QC D A (fun Ws' ov => ∃ b' : Nat → Nat, Ws' = (w_Enc dA o b' i u.1 sY u.2 sN sT sP sI) ∧ ov = (some (.int r)))) args s DC DS A) (F0 m 140 ls []) := by
  have hx := C.1.1
  have hb := C.1.2.1
  have hown := C.1.2.2.2.2.1
  have hT := C.1.2.2.2.2.2.1
  unfold C_Enc_encodeExpression_140 at hM
  refine lv_aload_n (pc := 140) hx hb dC_Enc_encodeExpression_140 rfl (lv_at hl 0 rfl) ?_
  refine lv_aload_n (pc := 141) hx hb dC_Enc_encodeExpression_141 rfl (lv_at hl 1 rfl) ?_
  refine lv_iload (pc := 142) hx hb dC_Enc_encodeExpression_142 (lv_at hl 3 rfl) ?_
  refine lv_iload_n (pc := 144) hx hb dC_Enc_encodeExpression_144 rfl (lv_at hl 2 rfl) ?_
  refine lv_isub (pc := 145) hx hb dC_Enc_encodeExpression_145 ?_
  refine lv_iload_n (pc := 146) hx hb dC_Enc_encodeExpression_146 rfl (lv_at hl 2 rfl) ?_
  obtain ⟨r1, u2, hr1, hM⟩ := cl_some hM
  refine x_callC (pc := 147) (n' := 47) C hW (kC_Enc_encodeJump l D dA o b i N n1 (x4 - x2) x2 sE sY sF sN sT sP sI hr1) [0, 1, 2, 3, 4, 5, 6, 7, 8, 9, 10, 11, 12, 13, 14, 15, 16, 17, 18, 19, 20, 21, 22, 23, 24, 25, 26, 27, 28, 29, 30, 31, 32, 33, 34, 35, 36, 37, 38, 39, 40, 41, 42, 43, 44, 45, 46] rfl (by decide +kernel) rfl (ci := 9) rfl (q0 := 0) rfl gC_Enc_137 ⟨rfl, by decide, by decide, by decide +kernel⟩ ⟨Nat.le_of_ble_eq_true rfl, Nat.le_of_ble_eq_true rfl⟩ ⟨show _ + 0 ≤ DC by omega, show _ + 0 ≤ DS by omega⟩ (As := [.ref (pa o i n1), .int (x4 - x2), .int x2]) (n := 3) rfl hl.1 rfl (Nat.le_of_ble_eq_true rfl) dC_Enc_encodeExpression_147 (fun Wc' ov H locs hPo hWn => ?_)
  obtain ⟨rfl, rfl⟩ := hPo
  have hW := hWn (w_Enc dA o b i u2 sY sF sN sT sP sI) rfl rfl
  obtain ⟨rfl, rfl, rfl, rfl⟩ := sm_q hM
  exact x_retCi (pc := 150) C rfl hW ⟨_, rfl, rfl⟩ (by omega) (by omega) dC_Enc_encodeExpression_150
def C_Enc_encodeExpression (N : Nat) (n1 : Nat) (x2 : Int32) (sE : CS) (sY : CS) (sF : CS) (sN : CS) (sT : CS) (sP : CS) (sI : CS) : Option ((Int32 × (CS × CS)) × (Nat × Nat)) :=
  gd (decide (n1 < sI.2.2 0 + 1)) (gd (decide (n1 < sI.2.2 0 + 1)) (gd (decide (n1 < sI.2.2 0 + 1)) (ct (C_Frm_evaluate N (sI.2.1 n1 7) (sI.2.1 n1 8) (sI.2.1 n1 6) sF sN sT sP sI) (fun r4 u5 => (if r4 = 0 then gd (decide (n1 < sI.2.2 0 + 1)) ((if (sI.2.1 n1 2) = (61 : Int32) then gd (decide (n1 < sI.2.2 0 + 1)) (cl (C_Enc_put N x2 (u5.1 1) (sI.2.1 n1 4) sE sY u5 sN sT sP sI) (fun r14 u15 => some (((0 : Int32), (u15, u5)), (0, 0)))) else (if (sI.2.1 n1 2) = (64 : Int32) then gd (decide (n1 < sI.2.2 0 + 1)) (cl (C_Enc_putAddress N (sI.2.1 n1 3) ((u5.1 1) - x2) x2 sE sY u5 sN sT sP sI) (fun r17 u18 => some (((0 : Int32), (u18, u5)), (0, 0)))) else (if (sI.2.1 n1 2) = (66 : Int32) then C_Enc_encodeExpression_151 N  n1 x2 (u5.1 1) sE sY u5 sN sT sP sI else (if (sI.2.1 n1 2) = (74 : Int32) then C_Enc_encodeExpression_151 N  n1 x2 (u5.1 1) sE sY u5 sN sT sP sI else (if (sI.2.1 n1 2) = (106 : Int32) then C_Enc_encodeExpression_151 N  n1 x2 (u5.1 1) sE sY u5 sN sT sP sI else (if (sI.2.1 n1 2) = (116 : Int32) then C_Enc_encodeExpression_140 N  n1 x2 (u5.1 1) sE sY u5 sN sT sP sI else (if (sI.2.1 n1 2) = (120 : Int32) then C_Enc_encodeExpression_140 N  n1 x2 (u5.1 1) sE sY u5 sN sT sP sI else (if (sI.2.1 n1 2) = (122 : Int32) then C_Enc_encodeExpression_140 N  n1 x2 (u5.1 1) sE sY u5 sN sT sP sI else cl (C_Enc_encodeNumber N n1 (u5.1 1) x2 sE sY u5 sN sT sP sI) (fun r19 u20 => some ((r19, (u20, u5)), (0, 0)))))))))))) else some ((r4, (sE, u5)), (0, 0)))))))
set_option maxHeartbeats 4000000 in
set_option maxRecDepth 100000 in
theorem bC_Enc_encodeExpression_0 (N : Nat)  {r : Int32} {u : CS × CS} {DC DS : Nat} (C : CxC R_Enc p s m args meth c cC_Enc_encodeExpression 5 (some .int) D dA (zz o) A) (n1 : Nat) (x2 : Int32) (sE : CS) (sY : CS) (sF : CS) (sN : CS) (sT : CS) (sP : CS) (sI : CS) (dc ds kc ks : Nat) (hM : C_Enc_encodeExpression N  n1 x2 sE sY sF sN sT sP sI = some ((r, u), (dc, ds))) (hdc : kc + dc ≤ DC) (hds : ks + ds ≤ DS) (b : Nat → Nat) (H : Heap) (locs : List Loc) (hW : WdC D A s (w_Enc dA o b i sE sY sF sN sT sP sI) H locs) (ls : Array Slot) (hl : lv_has ls 5 [(0, .ref (o 128)), (1, .ref (pa o i n1)), (2, .int x2)]) : W p l e (rmC 6 193 DC DS) s m args below meth c H locs kc ks (MQ below (QC D A (fun Ws' ov => ∃ b' : Nat → Nat, Ws' = (w_Enc dA o b' i u.1 sY u.2 sN sT sP sI) ∧ ov = (some (.int r)))) args s DC DS A) (F0 m 0 ls []) := by
  have hx := C.1.1
  have hb := C.1.2.1
  have hown := C.1.2.2.2.2.1
  have hT := C.1.2.2.2.2.2.1
  unfold C_Enc_encodeExpression at hM
  refine lv_aload_n (pc := 0) hx hb dC_Enc_encodeExpression_0 rfl (lv_at hl 0 rfl) ?_
  refine x_getC (pc := 1) C hW 0 rfl (ci := 9) rfl i_Enc 4 (by decide) qc_539 rfl rfl dC_Enc_encodeExpression_1 ?_
  refine lv_aload_n (pc := 4) hx hb dC_Enc_encodeExpression_4 rfl (lv_at hl 1 rfl) ?_
  obtain ⟨hg1, hM⟩ := gd_some hM
  refine x_getI (pc := 5) C hW 46 rfl (of_decide_eq_true hg1) 7 (by decide) qc_359 rfl rfl dC_Enc_encodeExpression_5 ?_
  refine lv_aload_n (pc := 8) hx hb dC_Enc_encodeExpression_8 rfl (lv_at hl 1 rfl) ?_
  obtain ⟨hg2, hM⟩ := gd_some hM
  refine x_getI (pc := 9) C hW 46 rfl (of_decide_eq_true hg2) 8 (by decide) qc_363 rfl rfl dC_Enc_encodeExpression_9 ?_
  refine lv_aload_n (pc := 12) hx hb dC_Enc_encodeExpression_12 rfl (lv_at hl 1 rfl) ?_
  obtain ⟨hg3, hM⟩ := gd_some hM
  refine x_getI (pc := 13) C hW 46 rfl (of_decide_eq_true hg3) 6 (by decide) qc_356 rfl rfl dC_Enc_encodeExpression_13 ?_
  obtain ⟨r4, u5, da6, ea7, db8, eb9, hr4, hM, hqda6, hpda6⟩ := ct_some hM
  refine x_callC (pc := 16) (n' := 47) C hW (kC_Frm_evaluate l D dA o b i N (sI.2.1 n1 7) (sI.2.1 n1 8) (sI.2.1 n1 6) sF sN sT sP sI hr4) [7, 8, 9, 10, 11, 12, 13, 14, 15, 16, 17, 18, 19, 20, 21, 22, 23, 24, 25, 26, 27, 28, 29, 30, 31, 32, 33, 34, 35, 36, 37, 38, 39, 40, 41, 42, 43, 44, 45, 46, 0, 1, 2, 3, 4, 5, 6] rfl (by decide +kernel) rfl (ci := 7) rfl (q0 := 7) rfl gC_Enc_79 ⟨rfl, by decide, by decide, by decide +kernel⟩ ⟨Nat.le_of_ble_eq_true rfl, Nat.le_of_ble_eq_true rfl⟩ ⟨show _ + da6 ≤ DC by omega, show _ + ea7 ≤ DS by omega⟩ (As := [.int (sI.2.1 n1 7), .int (sI.2.1 n1 8), .int (sI.2.1 n1 6)]) (n := 3) rfl hl.1 rfl (Nat.le_of_ble_eq_true rfl) dC_Enc_encodeExpression_16 (fun Wc' ov H locs hPo hWn => ?_)
  obtain ⟨b10, rfl, rfl⟩ := hPo
  have hW := hWn (w_Enc dA o (mxs [1, 2, 4, 6] b10 b) i sE sY u5 sN sT sP sI) rfl rfl
  generalize mxs [1, 2, 4, 6] b10 b = b at hW
  refine lv_istore_n (pc := 19) (lv' := [(3, .int r4), (0, .ref (o 128)), (1, .ref (pa o i n1)), (2, .int x2)]) hx hb dC_Enc_encodeExpression_19 rfl hl (by decide) rfl (fun ls hl => ?_)
  refine lv_iload_n (pc := 20) hx hb dC_Enc_encodeExpression_20 rfl (lv_at hl 0 rfl) ?_
  refine lv_if_eq (pc := 21) (tgt := 26) hx hb dC_Enc_encodeExpression_21 (by decide) (fun hc => ?_) (fun hc => ?_)
  · replace hM := it_t hc hM
    refine lv_aload_n (pc := 26) hx hb dC_Enc_encodeExpression_26 rfl (lv_at hl 1 rfl) ?_
    refine x_getC (pc := 27) C hW 0 rfl (ci := 9) rfl i_Enc 4 (by decide) qc_539 rfl rfl dC_Enc_encodeExpression_27 ?_
    refine x_getC (pc := 30) C hW 7 rfl (ci := 7) rfl i_Frm 1 (by decide) qc_465 rfl rfl dC_Enc_encodeExpression_30 ?_
    refine lv_istore (pc := 33) (lv' := [(4, .int (u5.1 1)), (3, .int r4), (0, .ref (o 128)), (1, .ref (pa o i n1)), (2, .int x2)]) hx hb dC_Enc_encodeExpression_33 hl (by decide) rfl (fun ls hl => ?_)
    refine lv_aload_n (pc := 35) hx hb dC_Enc_encodeExpression_35 rfl (lv_at hl 3 rfl) ?_
    obtain ⟨hg11, hM⟩ := gd_some hM
    refine x_getI (pc := 36) C hW 46 rfl (of_decide_eq_true hg11) 2 (by decide) qc_342 rfl rfl dC_Enc_encodeExpression_36 ?_
    by_cases k12_0 : (sI.2.1 n1 2) = (61 : Int32)
    · replace hM := it_t k12_0 hM
      refine lv_lookup (pc := 39) (off := 73) (tgt := 112) hx hb dC_Enc_encodeExpression_39 (by decide) (by rw [k12_0]; decide) (by decide) ?_
      refine lv_aload_n (pc := 112) hx hb dC_Enc_encodeExpression_112 rfl (lv_at hl 2 rfl) ?_
      refine lv_iload_n (pc := 113) hx hb dC_Enc_encodeExpression_113 rfl (lv_at hl 4 rfl) ?_
      refine lv_iload (pc := 114) hx hb dC_Enc_encodeExpression_114 (lv_at hl 0 rfl) ?_
      refine lv_aload_n (pc := 116) hx hb dC_Enc_encodeExpression_116 rfl (lv_at hl 3 rfl) ?_
      obtain ⟨hg13, hM⟩ := gd_some hM
      refine x_getI (pc := 117) C hW 46 rfl (of_decide_eq_true hg13) 4 (by decide) qc_350 rfl rfl dC_Enc_encodeExpression_117 ?_
      obtain ⟨r14, u15, hr14, hM⟩ := cl_some hM
      refine x_callC (pc := 120) (n' := 47) C hW (kC_Enc_put l D dA o b i N x2 (u5.1 1) (sI.2.1 n1 4) sE sY u5 sN sT sP sI hr14) [0, 1, 2, 3, 4, 5, 6, 7, 8, 9, 10, 11, 12, 13, 14, 15, 16, 17, 18, 19, 20, 21, 22, 23, 24, 25, 26, 27, 28, 29, 30, 31, 32, 33, 34, 35, 36, 37, 38, 39, 40, 41, 42, 43, 44, 45, 46] rfl (by decide +kernel) rfl (ci := 9) rfl (q0 := 0) rfl gC_Enc_128 ⟨rfl, by decide, by decide, by decide +kernel⟩ ⟨Nat.le_of_ble_eq_true rfl, Nat.le_of_ble_eq_true rfl⟩ ⟨show _ + 0 ≤ DC by omega, show _ + 0 ≤ DS by omega⟩ (As := [.int x2, .int (u5.1 1), .int (sI.2.1 n1 4)]) (n := 3) rfl hl.1 rfl (Nat.le_of_ble_eq_true rfl) dC_Enc_encodeExpression_120 (fun Wc' ov H locs hPo hWn => ?_)
      obtain ⟨rfl, rfl⟩ := hPo
      have hW := hWn (w_Enc dA o b i u15 sY u5 sN sT sP sI) rfl rfl
      refine lv_iconst (pc := 123) (v := 0) hx hb dC_Enc_encodeExpression_123 (by decide) ?_
      obtain ⟨rfl, rfl, rfl, rfl⟩ := sm_q hM
      exact x_retCi (pc := 124) C rfl hW ⟨_, rfl, rfl⟩ (by omega) (by omega) dC_Enc_encodeExpression_124
    · replace hM := it_f k12_0 hM
      by_cases k12_1 : (sI.2.1 n1 2) = (64 : Int32)
      · replace hM := it_t k12_1 hM
        refine lv_lookup (pc := 39) (off := 86) (tgt := 125) hx hb dC_Enc_encodeExpression_39 (by decide) (by rw [k12_1]; decide) (by decide) ?_
        refine lv_aload_n (pc := 125) hx hb dC_Enc_encodeExpression_125 rfl (lv_at hl 2 rfl) ?_
        refine lv_aload_n (pc := 126) hx hb dC_Enc_encodeExpression_126 rfl (lv_at hl 3 rfl) ?_
        obtain ⟨hg16, hM⟩ := gd_some hM
        refine x_getI (pc := 127) C hW 46 rfl (of_decide_eq_true hg16) 3 (by decide) qc_346 rfl rfl dC_Enc_encodeExpression_127 ?_
        refine lv_iload (pc := 130) hx hb dC_Enc_encodeExpression_130 (lv_at hl 0 rfl) ?_
        refine lv_iload_n (pc := 132) hx hb dC_Enc_encodeExpression_132 rfl (lv_at hl 4 rfl) ?_
        refine lv_isub (pc := 133) hx hb dC_Enc_encodeExpression_133 ?_
        refine lv_iload_n (pc := 134) hx hb dC_Enc_encodeExpression_134 rfl (lv_at hl 4 rfl) ?_
        obtain ⟨r17, u18, hr17, hM⟩ := cl_some hM
        refine x_callC (pc := 135) (n' := 47) C hW (kC_Enc_putAddress l D dA o b i N (sI.2.1 n1 3) ((u5.1 1) - x2) x2 sE sY u5 sN sT sP sI hr17) [0, 1, 2, 3, 4, 5, 6, 7, 8, 9, 10, 11, 12, 13, 14, 15, 16, 17, 18, 19, 20, 21, 22, 23, 24, 25, 26, 27, 28, 29, 30, 31, 32, 33, 34, 35, 36, 37, 38, 39, 40, 41, 42, 43, 44, 45, 46] rfl (by decide +kernel) rfl (ci := 9) rfl (q0 := 0) rfl gC_Enc_134 ⟨rfl, by decide, by decide, by decide +kernel⟩ ⟨Nat.le_of_ble_eq_true rfl, Nat.le_of_ble_eq_true rfl⟩ ⟨show _ + 0 ≤ DC by omega, show _ + 0 ≤ DS by omega⟩ (As := [.int (sI.2.1 n1 3), .int ((u5.1 1) - x2), .int x2]) (n := 3) rfl hl.1 rfl (Nat.le_of_ble_eq_true rfl) dC_Enc_encodeExpression_135 (fun Wc' ov H locs hPo hWn => ?_)
        obtain ⟨rfl, rfl⟩ := hPo
        have hW := hWn (w_Enc dA o b i u18 sY u5 sN sT sP sI) rfl rfl
        refine lv_iconst (pc := 138) (v := 0) hx hb dC_Enc_encodeExpression_138 (by decide) ?_
        obtain ⟨rfl, rfl, rfl, rfl⟩ := sm_q hM
        exact x_retCi (pc := 139) C rfl hW ⟨_, rfl, rfl⟩ (by omega) (by omega) dC_Enc_encodeExpression_139
      · replace hM := it_f k12_1 hM
        by_cases k12_2 : (sI.2.1 n1 2) = (66 : Int32)
        · replace hM := it_t k12_2 hM
          refine lv_lookup (pc := 39) (off := 112) (tgt := 151) hx hb dC_Enc_encodeExpression_39 (by decide) (by rw [k12_2]; decide) (by decide) ?_
          exact bC_Enc_encodeExpression_151 N  C  _ _ _ _ _ _ _ _ _ _ _ _ _ _ hM (by omega) (by omega) _ _ _ hW _ (lv_sub hl [2, 3, 4, 0] rfl)
        · replace hM := it_f k12_2 hM
          by_cases k12_3 : (sI.2.1 n1 2) = (74 : Int32)
          · replace hM := it_t k12_3 hM
            refine lv_lookup (pc := 39) (off := 112) (tgt := 151) hx hb dC_Enc_encodeExpression_39 (by decide) (by rw [k12_3]; decide) (by decide) ?_
            exact bC_Enc_encodeExpression_151 N  C  _ _ _ _ _ _ _ _ _ _ _ _ _ _ hM (by omega) (by omega) _ _ _ hW _ (lv_sub hl [2, 3, 4, 0] rfl)
          · replace hM := it_f k12_3 hM
            by_cases k12_4 : (sI.2.1 n1 2) = (106 : Int32)
            · replace hM := it_t k12_4 hM
              refine lv_lookup (pc := 39) (off := 112) (tgt := 151) hx hb dC_Enc_encodeExpression_39 (by decide) (by rw [k12_4]; decide) (by decide) ?_
              exact bC_Enc_encodeExpression_151 N  C  _ _ _ _ _ _ _ _ _ _ _ _ _ _ hM (by omega) (by omega) _ _ _ hW _ (lv_sub hl [2, 3, 4, 0] rfl)
            · replace hM := it_f k12_4 hM
              by_cases k12_5 : (sI.2.1 n1 2) = (116 : Int32)
              · replace hM := it_t k12_5 hM
                refine lv_lookup (pc := 39) (off := 101) (tgt := 140) hx hb dC_Enc_encodeExpression_39 (by decide) (by rw [k12_5]; decide) (by decide) ?_
                exact bC_Enc_encodeExpression_140 N  C  _ _ _ _ _ _ _ _ _ _ _ _ _ _ hM (by omega) (by omega) _ _ _ hW _ (lv_sub hl [2, 3, 4, 0] rfl)
              · replace hM := it_f k12_5 hM
                by_cases k12_6 : (sI.2.1 n1 2) = (120 : Int32)
                · replace hM := it_t k12_6 hM
                  refine lv_lookup (pc := 39) (off := 101) (tgt := 140) hx hb dC_Enc_encodeExpression_39 (by decide) (by rw [k12_6]; decide) (by decide) ?_
                  exact bC_Enc_encodeExpression_140 N  C  _ _ _ _ _ _ _ _ _ _ _ _ _ _ hM (by omega) (by omega) _ _ _ hW _ (lv_sub hl [2, 3, 4, 0] rfl)
                · replace hM := it_f k12_6 hM
                  by_cases k12_7 : (sI.2.1 n1 2) = (122 : Int32)
                  · replace hM := it_t k12_7 hM
                    refine lv_lookup (pc := 39) (off := 101) (tgt := 140) hx hb dC_Enc_encodeExpression_39 (by decide) (by rw [k12_7]; decide) (by decide) ?_
                    exact bC_Enc_encodeExpression_140 N  C  _ _ _ _ _ _ _ _ _ _ _ _ _ _ hM (by omega) (by omega) _ _ _ hW _ (lv_sub hl [2, 3, 4, 0] rfl)
                  · replace hM := it_f k12_7 hM
                    refine lv_lookup (pc := 39) (off := 123) (tgt := 162) hx hb dC_Enc_encodeExpression_39 (by decide) (by rw [lv_osw k12_0 (by decide)]; rw [lv_osw k12_1 (by decide)]; rw [lv_osw k12_2 (by decide)]; rw [lv_osw k12_3 (by decide)]; rw [lv_osw k12_4 (by decide)]; rw [lv_osw k12_5 (by decide)]; rw [lv_osw k12_6 (by decide)]; rw [lv_osw k12_7 (by decide)]; rfl) (by decide) ?_
                    refine lv_aload_n (pc := 162) hx hb dC_Enc_encodeExpression_162 rfl (lv_at hl 2 rfl) ?_
                    refine lv_aload_n (pc := 163) hx hb dC_Enc_encodeExpression_163 rfl (lv_at hl 3 rfl) ?_
                    refine lv_iload (pc := 164) hx hb dC_Enc_encodeExpression_164 (lv_at hl 0 rfl) ?_
                    refine lv_iload_n (pc := 166) hx hb dC_Enc_encodeExpression_166 rfl (lv_at hl 4 rfl) ?_
                    obtain ⟨r19, u20, hr19, hM⟩ := cl_some hM
                    refine x_callC (pc := 167) (n' := 47) C hW (kC_Enc_encodeNumber l D dA o b i N n1 (u5.1 1) x2 sE sY u5 sN sT sP sI hr19) [0, 1, 2, 3, 4, 5, 6, 7, 8, 9, 10, 11, 12, 13, 14, 15, 16, 17, 18, 19, 20, 21, 22, 23, 24, 25, 26, 27, 28, 29, 30, 31, 32, 33, 34, 35, 36, 37, 38, 39, 40, 41, 42, 43, 44, 45, 46] rfl (by decide +kernel) rfl (ci := 9) rfl (q0 := 0) rfl gC_Enc_141 ⟨rfl, by decide, by decide, by decide +kernel⟩ ⟨Nat.le_of_ble_eq_true rfl, Nat.le_of_ble_eq_true rfl⟩ ⟨show _ + 0 ≤ DC by omega, show _ + 0 ≤ DS by omega⟩ (As := [.ref (pa o i n1), .int (u5.1 1), .int x2]) (n := 3) rfl hl.1 rfl (Nat.le_of_ble_eq_true rfl) dC_Enc_encodeExpression_167 (fun Wc' ov H locs hPo hWn => ?_)
                    obtain ⟨rfl, rfl⟩ := hPo
                    have hW := hWn (w_Enc dA o b i u20 sY u5 sN sT sP sI) rfl rfl
                    obtain ⟨rfl, rfl, rfl, rfl⟩ := sm_q hM
                    exact x_retCi (pc := 170) C rfl hW ⟨_, rfl, rfl⟩ (by omega) (by omega) dC_Enc_encodeExpression_170
  · replace hM := it_f hc hM
    refine lv_iload_n (pc := 24) hx hb dC_Enc_encodeExpression_24 rfl (lv_at hl 0 rfl) ?_
    obtain ⟨rfl, rfl, rfl, rfl⟩ := sm_q hM
    exact x_retCi (pc := 25) C rfl hW ⟨_, rfl, rfl⟩ (by omega) (by omega) dC_Enc_encodeExpression_25
theorem kC_Enc_encodeExpression (l : Launch) (D : va_G) (dA : Nat → ClassId) (o b i : Nat → Nat) (N : Nat) (n1 : Nat) (x2 : Int32) (sE : CS) (sY : CS) (sF : CS) (sN : CS) (sT : CS) (sP : CS) (sI : CS) {r : Int32} {u : CS × CS} {dc ds : Nat} (hM : C_Enc_encodeExpression N n1 x2 sE sY sF sN sT sP sI = some ((r, u), (dc, ds))) : KC l D dA (zz o) yC_Enc_encodeExpression cC_Enc_encodeExpression 5 (some .int) 6 193 dc ds (w_Enc dA o b i sE sY sF sN sT sP sI) [.ref (o 128), .ref (pa o i n1), .int x2] (fun Ws' ov => ∃ b' : Nat → Nat, Ws' = (w_Enc dA o b' i u.1 sY u.2 sN sT sP sI) ∧ ov = (some (.int r))) := x_enterC (by decide +kernel) (Nat.le_of_ble_eq_true rfl) (fun p e s m args below meth c A C _ hW ls hl => bC_Enc_encodeExpression_0 N C n1 x2 sE sY sF sN sT sP sI dc ds 0 0 hM (by omega) (by omega) b s.heap [] hW ls hl)
def C_Enc_encode_40 (N : Nat)  (sE : CS) (sY : CS) (sF : CS) (sN : CS) (sT : CS) (sP : CS) (sI : CS) : Option ((Int32 × (CS × CS)) × (Nat × Nat)) :=
  some (((0 : Int32), (sE, sF)), (0, 0))
set_option maxHeartbeats 4000000 in
set_option maxRecDepth 100000 in
theorem bC_Enc_encode_40 (N : Nat)  {r : Int32} {u : CS × CS} {DC DS : Nat} (C : CxC R_Enc p s m args meth c cC_Enc_encode 4 (some .int) D dA (zz o) A)  (sE : CS) (sY : CS) (sF : CS) (sN : CS) (sT : CS) (sP : CS) (sI : CS) (dc ds kc ks : Nat) (hM : C_Enc_encode_40 N   sE sY sF sN sT sP sI = some ((r, u), (dc, ds))) (hdc : kc + dc ≤ DC) (hds : ks + ds ≤ DS) (b : Nat → Nat) (H : Heap) (locs : List Loc) (hW : WdC D A s (w_Enc dA o b i sE sY sF sN sT sP sI) H locs) (ls : Array Slot) (hl : lv_has ls 4 []) : W p l e (rmC 7 217 DC DS) s m args below meth c H locs kc ks (MQ below (QC D A (fun Ws' ov => ∃ b' : Nat → Nat, Ws' = (w_Enc dA o b' i u.1 sY u.2 sN sT sP sI) ∧ ov = (some (.int r)))) args s DC DS A) (F0 m 40 ls []) := by
  have hx := C.1.1
  have hb := C.1.2.1
  have hown := C.1.2.2.2.2.1
  have hT := C.1.2.2.2.2.2.1
  unfold C_Enc_encode_40 at hM
  refine lv_iconst (pc := 40) (v := 0) hx hb dC_Enc_encode_40 (by decide) ?_
  obtain ⟨rfl, rfl, rfl, rfl⟩ := sm_q hM
  exact x_retCi (pc := 41) C rfl hW ⟨_, rfl, rfl⟩ (by omega) (by omega) dC_Enc_encode_41
def C_Enc_encode_44 (N : Nat)  : Nat → Nat → Int32 → Int32 → CS → CS → CS → CS → CS → CS → CS → Option ((Int32 × (CS × CS)) × (Nat × Nat))
  | 0 => fun _ _ _ _ _ _ _ _ _ _ => none
  | n + 1 => fun n1 x2 x3 sE sY sF sN sT sP sI => gd (decide (n1 < sI.2.2 0 + 1)) ((if (sI.2.1 n1 4) ≤ x3 then some (((0 : Int32), (sE, sF)), (0, 0)) else gd (decide (n1 < sI.2.2 0 + 1)) (cr (C_Row_get  ((sI.2.1 n1 3) + x3) sY) (fun r3 => cl (C_Row_set  (x2 + x3) r3 (rg sE 0)) (fun r4 u5 => bnd (rs sE 0 u5) (fun sE6 => (C_Enc_encode_44 N  n) n1 x2 (x3 + (1 : Int32)) sE6 sY sF sN sT sP sI))))))
set_option maxHeartbeats 4000000 in
set_option maxRecDepth 100000 in
theorem bC_Enc_encode_44 (N : Nat)  {r : Int32} {u : CS × CS} {DC DS : Nat} (C : CxC R_Enc p s m args meth c cC_Enc_encode 4 (some .int) D dA (zz o) A) : ∀ (n : Nat) (n1 : Nat) (x2 : Int32) (x3 : Int32) (sE : CS) (sY : CS) (sF : CS) (sN : CS) (sT : CS) (sP : CS) (sI : CS) (dc ds kc ks : Nat) , C_Enc_encode_44 N  n n1 x2 x3 sE sY sF sN sT sP sI = some ((r, u), (dc, ds)) → ∀ (hdc : kc + dc ≤ DC) (hds : ks + ds ≤ DS) (b : Nat → Nat) (H : Heap) (locs : List Loc) (hW : WdC D A s (w_Enc dA o b i sE sY sF sN sT sP sI) H locs) (ls : Array Slot) (hl : lv_has ls 4 [(0, .ref (o 128)), (1, .ref (pa o i n1)), (2, .int x2), (3, .int x3)]), W p l e (rmC 7 217 DC DS) s m args below meth c H locs kc ks (MQ below (QC D A (fun Ws' ov => ∃ b' : Nat → Nat, Ws' = (w_Enc dA o b' i u.1 sY u.2 sN sT sP sI) ∧ ov = (some (.int r)))) args s DC DS A) (F0 m 44 ls []) := by
  have hx := C.1.1
  have hb := C.1.2.1
  have hown := C.1.2.2.2.2.1
  have hT := C.1.2.2.2.2.2.1
  intro n
  induction n with
  | zero => intro n1 x2 x3 sE sY sF sN sT sP sI dc ds kc ks hM; cases hM
  | succ n hrec44 =>
    intro n1 x2 x3 sE sY sF sN sT sP sI dc ds kc ks hM hdc hds b H locs hW ls hl
    rw [C_Enc_encode_44] at hM
    refine lv_iload_n (pc := 44) hx hb dC_Enc_encode_44 rfl (lv_at hl 3 rfl) ?_
    refine lv_aload_n (pc := 45) hx hb dC_Enc_encode_45 rfl (lv_at hl 1 rfl) ?_
    obtain ⟨hg1, hM⟩ := gd_some hM
    refine x_getI (pc := 46) C hW 46 rfl (of_decide_eq_true hg1) 4 (by decide) qc_350 rfl rfl dC_Enc_encode_46 ?_
    refine lv_icmp_ge (pc := 49) (tgt := 81) hx hb dC_Enc_encode_49 (by decide) (fun hc => ?_) (fun hc => ?_)
    · replace hM := it_t hc hM
      refine lv_iconst (pc := 81) (v := 0) hx hb dC_Enc_encode_81 (by decide) ?_
      obtain ⟨rfl, rfl, rfl, rfl⟩ := sm_q hM
      exact x_retCi (pc := 82) C rfl hW ⟨_, rfl, rfl⟩ (by omega) (by omega) dC_Enc_encode_82
    · replace hM := it_f hc hM
      refine lv_aload_n (pc := 52) hx hb dC_Enc_encode_52 rfl (lv_at hl 0 rfl) ?_
      refine x_getC (pc := 53) C hW 0 rfl (ci := 9) rfl i_Enc 0 (by decide) qc_532 rfl rfl dC_Enc_encode_53 ?_
      refine lv_iload_n (pc := 56) hx hb dC_Enc_encode_56 rfl (lv_at hl 2 rfl) ?_
      refine lv_iload_n (pc := 57) hx hb dC_Enc_encode_57 rfl (lv_at hl 3 rfl) ?_
      refine lv_iadd (pc := 58) hx hb dC_Enc_encode_58 ?_
      refine lv_aload_n (pc := 59) hx hb dC_Enc_encode_59 rfl (lv_at hl 0 rfl) ?_
      refine x_getC (pc := 60) C hW 0 rfl (ci := 9) rfl i_Enc 5 (by decide) qc_540 rfl rfl dC_Enc_encode_60 ?_
      refine lv_aload_n (pc := 63) hx hb dC_Enc_encode_63 rfl (lv_at hl 1 rfl) ?_
      obtain ⟨hg2, hM⟩ := gd_some hM
      refine x_getI (pc := 64) C hW 46 rfl (of_decide_eq_true hg2) 3 (by decide) qc_346 rfl rfl dC_Enc_encode_64 ?_
      refine lv_iload_n (pc := 67) hx hb dC_Enc_encode_67 rfl (lv_at hl 3 rfl) ?_
      refine lv_iadd (pc := 68) hx hb dC_Enc_encode_68 ?_
      obtain ⟨r3, hr3, hM⟩ := cr_some hM
      refine x_callQ (pc := 69) (n' := 47) (ov := some (.int r3)) C hW (kC_Row_get l D dA (zz o) (fun _ => o 48) (fun _ => b 48)  ((sI.2.1 n1 3) + x3) sY hr3) [5, 6, 0, 1, 2, 3, 4, 7, 8, 9, 10, 11, 12, 13, 14, 15, 16, 17, 18, 19, 20, 21, 22, 23, 24, 25, 26, 27, 28, 29, 30, 31, 32, 33, 34, 35, 36, 37, 38, 39, 40, 41, 42, 43, 44, 45, 46] rfl (by decide +kernel) rfl (ci := 1) rfl (q0 := 5) rfl gC_Enc_121 ⟨rfl, by decide, by decide, by decide +kernel⟩ ⟨Nat.le_of_ble_eq_true rfl, Nat.le_of_ble_eq_true rfl⟩ ⟨show _ ≤ DC by omega, show _ ≤ DS by omega⟩ (As := [.int ((sI.2.1 n1 3) + x3)]) (n := 1) rfl hl.1 rfl (Nat.le_of_ble_eq_true rfl) dC_Enc_encode_69 ?_
      obtain ⟨r4, u5, hr4, hM⟩ := cl_some hM
      refine x_callC (pc := 72) (n' := 47) C hW (kC_Row_set l D dA (zz o) (fun _ => o 129) (fun _ => b 129)  (x2 + x3) r3 (rg sE 0) hr4) [1, 2, 0, 3, 4, 5, 6, 7, 8, 9, 10, 11, 12, 13, 14, 15, 16, 17, 18, 19, 20, 21, 22, 23, 24, 25, 26, 27, 28, 29, 30, 31, 32, 33, 34, 35, 36, 37, 38, 39, 40, 41, 42, 43, 44, 45, 46] rfl (by decide +kernel) rfl (ci := 1) rfl (q0 := 1) rfl gC_Enc_124 ⟨rfl, by decide, by decide, by decide +kernel⟩ ⟨Nat.le_of_ble_eq_true rfl, Nat.le_of_ble_eq_true rfl⟩ ⟨show _ + 0 ≤ DC by omega, show _ + 0 ≤ DS by omega⟩ (As := [.int (x2 + x3), .int r3]) (n := 2) rfl hl.1 rfl (Nat.le_of_ble_eq_true rfl) dC_Enc_encode_72 (fun Wc' ov H locs hPo hWn => ?_)
      obtain ⟨rfl, rfl⟩ := hPo
      have hW := hWn (w_Enc dA o b i (rs sE 0 u5) sY sF sN sT sP sI) rfl rfl
      obtain ⟨sE6, esE6, hM⟩ := bnd_some hM
      rw [← esE6] at hW
      refine lv_iinc (pc := 75) (v := x3 + (1 : Int32)) (lv' := [(3, .int (x3 + (1 : Int32))), (0, .ref (o 128)), (1, .ref (pa o i n1)), (2, .int x2)]) hx hb dC_Enc_encode_75 hl (k := 3) rfl rfl (by decide) rfl (fun ls hl => ?_)
      refine lv_goto (pc := 78) (tgt := 44) hx hb dC_Enc_encode_78 (by decide) ?_
      exact hrec44 _ _ _ _ _ _ _ _ _ _ _ _ _ _ hM (by omega) (by omega) _ _ _ hW _ (lv_sub hl [1, 2, 3, 0] rfl)
def C_Enc_encode (N : Nat) (n1 : Nat) (x2 : Int32) (sE : CS) (sY : CS) (sF : CS) (sN : CS) (sT : CS) (sP : CS) (sI : CS) : Option ((Int32 × (CS × CS)) × (Nat × Nat)) :=
  gd (decide (n1 < sI.2.2 0 + 1)) ((if (sI.2.1 n1 2) = (0 : Int32) then gd (decide (n1 < sI.2.2 0 + 1)) (gd (decide (n1 < sI.2.2 0 + 1)) (cl (C_Enc_put N x2 (sI.2.1 n1 3) (sI.2.1 n1 4) sE sY sF sN sT sP sI) (fun r5 u6 => some (((0 : Int32), (u6, sF)), (0, 0))))) else (if (sI.2.1 n1 2) = (1 : Int32) then C_Enc_encode_40 N  sE sY sF sN sT sP sI else (if (sI.2.1 n1 2) = (2 : Int32) then C_Enc_encode_40 N  sE sY sF sN sT sP sI else (if (sI.2.1 n1 2) = (3 : Int32) then C_Enc_encode_40 N  sE sY sF sN sT sP sI else (if (sI.2.1 n1 2) = (4 : Int32) then C_Enc_encode_44 N  N n1 x2 (0 : Int32) sE sY sF sN sT sP sI else ct (C_Enc_encodeExpression N n1 x2 sE sY sF sN sT sP sI) (fun r7 u8 => some ((r7, (u8.1, u8.2)), (0, 0)))))))))
set_option maxHeartbeats 4000000 in
set_option maxRecDepth 100000 in
theorem bC_Enc_encode_0 (N : Nat)  {r : Int32} {u : CS × CS} {DC DS : Nat} (C : CxC R_Enc p s m args meth c cC_Enc_encode 4 (some .int) D dA (zz o) A) (n1 : Nat) (x2 : Int32) (sE : CS) (sY : CS) (sF : CS) (sN : CS) (sT : CS) (sP : CS) (sI : CS) (dc ds kc ks : Nat) (hM : C_Enc_encode N  n1 x2 sE sY sF sN sT sP sI = some ((r, u), (dc, ds))) (hdc : kc + dc ≤ DC) (hds : ks + ds ≤ DS) (b : Nat → Nat) (H : Heap) (locs : List Loc) (hW : WdC D A s (w_Enc dA o b i sE sY sF sN sT sP sI) H locs) (ls : Array Slot) (hl : lv_has ls 4 [(0, .ref (o 128)), (1, .ref (pa o i n1)), (2, .int x2)]) : W p l e (rmC 7 217 DC DS) s m args below meth c H locs kc ks (MQ below (QC D A (fun Ws' ov => ∃ b' : Nat → Nat, Ws' = (w_Enc dA o b' i u.1 sY u.2 sN sT sP sI) ∧ ov = (some (.int r)))) args s DC DS A) (F0 m 0 ls []) := by
  have hx := C.1.1
  have hb := C.1.2.1
  have hown := C.1.2.2.2.2.1
  have hT := C.1.2.2.2.2.2.1
  unfold C_Enc_encode at hM
  refine lv_aload_n (pc := 0) hx hb dC_Enc_encode_0 rfl (lv_at hl 1 rfl) ?_
  obtain ⟨hg1, hM⟩ := gd_some hM
  refine x_getI (pc := 1) C hW 46 rfl (of_decide_eq_true hg1) 2 (by decide) qc_342 rfl rfl dC_Enc_encode_1 ?_
  by_cases k2_0 : (sI.2.1 n1 2) = (0 : Int32)
  · replace hM := it_t k2_0 hM
    refine lv_tableIn (pc := 4) (off := 79) (tgt := 83) hx hb dC_Enc_encode_4 (by rw [k2_0]; decide) (by rw [k2_0]; decide) (by rw [k2_0]; decide) (by decide) ?_
    refine lv_aload_n (pc := 83) hx hb dC_Enc_encode_83 rfl (lv_at hl 0 rfl) ?_
    refine lv_iload_n (pc := 84) hx hb dC_Enc_encode_84 rfl (lv_at hl 2 rfl) ?_
    refine lv_aload_n (pc := 85) hx hb dC_Enc_encode_85 rfl (lv_at hl 1 rfl) ?_
    obtain ⟨hg3, hM⟩ := gd_some hM
    refine x_getI (pc := 86) C hW 46 rfl (of_decide_eq_true hg3) 3 (by decide) qc_346 rfl rfl dC_Enc_encode_86 ?_
    refine lv_aload_n (pc := 89) hx hb dC_Enc_encode_89 rfl (lv_at hl 1 rfl) ?_
    obtain ⟨hg4, hM⟩ := gd_some hM
    refine x_getI (pc := 90) C hW 46 rfl (of_decide_eq_true hg4) 4 (by decide) qc_350 rfl rfl dC_Enc_encode_90 ?_
    obtain ⟨r5, u6, hr5, hM⟩ := cl_some hM
    refine x_callC (pc := 93) (n' := 47) C hW (kC_Enc_put l D dA o b i N x2 (sI.2.1 n1 3) (sI.2.1 n1 4) sE sY sF sN sT sP sI hr5) [0, 1, 2, 3, 4, 5, 6, 7, 8, 9, 10, 11, 12, 13, 14, 15, 16, 17, 18, 19, 20, 21, 22, 23, 24, 25, 26, 27, 28, 29, 30, 31, 32, 33, 34, 35, 36, 37, 38, 39, 40, 41, 42, 43, 44, 45, 46] rfl (by decide +kernel) rfl (ci := 9) rfl (q0 := 0) rfl gC_Enc_128 ⟨rfl, by decide, by decide, by decide +kernel⟩ ⟨Nat.le_of_ble_eq_true rfl, Nat.le_of_ble_eq_true rfl⟩ ⟨show _ + 0 ≤ DC by omega, show _ + 0 ≤ DS by omega⟩ (As := [.int x2, .int (sI.2.1 n1 3), .int (sI.2.1 n1 4)]) (n := 3) rfl hl.1 rfl (Nat.le_of_ble_eq_true rfl) dC_Enc_encode_93 (fun Wc' ov H locs hPo hWn => ?_)
    obtain ⟨rfl, rfl⟩ := hPo
    have hW := hWn (w_Enc dA o b i u6 sY sF sN sT sP sI) rfl rfl
    refine lv_iconst (pc := 96) (v := 0) hx hb dC_Enc_encode_96 (by decide) ?_
    obtain ⟨rfl, rfl, rfl, rfl⟩ := sm_q hM
    exact x_retCi (pc := 97) C rfl hW ⟨_, rfl, rfl⟩ (by omega) (by omega) dC_Enc_encode_97
  · replace hM := it_f k2_0 hM
    by_cases k2_1 : (sI.2.1 n1 2) = (1 : Int32)
    · replace hM := it_t k2_1 hM
      refine lv_tableIn (pc := 4) (off := 36) (tgt := 40) hx hb dC_Enc_encode_4 (by rw [k2_1]; decide) (by rw [k2_1]; decide) (by rw [k2_1]; decide) (by decide) ?_
      exact bC_Enc_encode_40 N  C  _ _ _ _ _ _ _ _ _ _ _ hM (by omega) (by omega) _ _ _ hW _ (lv_sub hl [] rfl)
    · replace hM := it_f k2_1 hM
      by_cases k2_2 : (sI.2.1 n1 2) = (2 : Int32)
      · replace hM := it_t k2_2 hM
        refine lv_tableIn (pc := 4) (off := 36) (tgt := 40) hx hb dC_Enc_encode_4 (by rw [k2_2]; decide) (by rw [k2_2]; decide) (by rw [k2_2]; decide) (by decide) ?_
        exact bC_Enc_encode_40 N  C  _ _ _ _ _ _ _ _ _ _ _ hM (by omega) (by omega) _ _ _ hW _ (lv_sub hl [] rfl)
      · replace hM := it_f k2_2 hM
        by_cases k2_3 : (sI.2.1 n1 2) = (3 : Int32)
        · replace hM := it_t k2_3 hM
          refine lv_tableIn (pc := 4) (off := 36) (tgt := 40) hx hb dC_Enc_encode_4 (by rw [k2_3]; decide) (by rw [k2_3]; decide) (by rw [k2_3]; decide) (by decide) ?_
          exact bC_Enc_encode_40 N  C  _ _ _ _ _ _ _ _ _ _ _ hM (by omega) (by omega) _ _ _ hW _ (lv_sub hl [] rfl)
        · replace hM := it_f k2_3 hM
          by_cases k2_4 : (sI.2.1 n1 2) = (4 : Int32)
          · replace hM := it_t k2_4 hM
            refine lv_tableIn (pc := 4) (off := 38) (tgt := 42) hx hb dC_Enc_encode_4 (by rw [k2_4]; decide) (by rw [k2_4]; decide) (by rw [k2_4]; decide) (by decide) ?_
            refine lv_iconst (pc := 42) (v := 0) hx hb dC_Enc_encode_42 (by decide) ?_
            refine lv_istore_n (pc := 43) (lv' := [(3, .int (0 : Int32)), (0, .ref (o 128)), (1, .ref (pa o i n1)), (2, .int x2)]) hx hb dC_Enc_encode_43 rfl hl (by decide) rfl (fun ls hl => ?_)
            exact bC_Enc_encode_44 N  C  N _ _ _ _ _ _ _ _ _ _ _ _ _ _ hM (by omega) (by omega) _ _ _ hW _ (lv_sub hl [1, 2, 3, 0] rfl)
          · replace hM := it_f k2_4 hM
            by_cases k2_o : (sI.2.1 n1 2).toInt < 0 ∨ 4 < (sI.2.1 n1 2).toInt
            · refine lv_tableOut (pc := 4) (tgt := 98) hx hb dC_Enc_encode_4 k2_o (by decide) ?_
              refine lv_aload_n (pc := 98) hx hb dC_Enc_encode_98 rfl (lv_at hl 0 rfl) ?_
              refine lv_aload_n (pc := 99) hx hb dC_Enc_encode_99 rfl (lv_at hl 1 rfl) ?_
              refine lv_iload_n (pc := 100) hx hb dC_Enc_encode_100 rfl (lv_at hl 2 rfl) ?_
              obtain ⟨r14, u15, da16, ea17, db18, eb19, hr14, hM, hqda16, hpda16⟩ := ct_some hM
              refine x_callC (pc := 101) (n' := 47) C hW (kC_Enc_encodeExpression l D dA o b i N n1 x2 sE sY sF sN sT sP sI hr14) [0, 1, 2, 3, 4, 5, 6, 7, 8, 9, 10, 11, 12, 13, 14, 15, 16, 17, 18, 19, 20, 21, 22, 23, 24, 25, 26, 27, 28, 29, 30, 31, 32, 33, 34, 35, 36, 37, 38, 39, 40, 41, 42, 43, 44, 45, 46] rfl (by decide +kernel) rfl (ci := 9) rfl (q0 := 0) rfl gC_Enc_131 ⟨rfl, by decide, by decide, by decide +kernel⟩ ⟨Nat.le_of_ble_eq_true rfl, Nat.le_of_ble_eq_true rfl⟩ ⟨show _ + da16 ≤ DC by omega, show _ + ea17 ≤ DS by omega⟩ (As := [.ref (pa o i n1), .int x2]) (n := 2) rfl hl.1 rfl (Nat.le_of_ble_eq_true rfl) dC_Enc_encode_101 (fun Wc' ov H locs hPo hWn => ?_)
              obtain ⟨b20, rfl, rfl⟩ := hPo
              have hW := hWn (w_Enc dA o (mxs [1, 2, 3, 4, 6, 8] b20 b) i u15.1 sY u15.2 sN sT sP sI) rfl rfl
              generalize mxs [1, 2, 3, 4, 6, 8] b20 b = b at hW
              obtain ⟨rfl, rfl, rfl, rfl⟩ := sm_q hM
              exact x_retCi (pc := 104) C rfl hW ⟨_, rfl, rfl⟩ (by omega) (by omega) dC_Enc_encode_104
            · refine lv_tableIn (pc := 4) (off := 94) (tgt := 98) hx hb dC_Enc_encode_4 (fun z => k2_o (Or.inl z)) (fun z => k2_o (Or.inr z)) (lv_tdef 5 [(0 : Int32), (1 : Int32), (2 : Int32), (3 : Int32), (4 : Int32)] (fun z => k2_o (Or.inl z)) (fun z => k2_o (Or.inr z)) (List.forall_mem_cons.mpr ⟨k2_0, (List.forall_mem_cons.mpr ⟨k2_1, (List.forall_mem_cons.mpr ⟨k2_2, (List.forall_mem_cons.mpr ⟨k2_3, (List.forall_mem_cons.mpr ⟨k2_4, (fun _ h => by cases h)⟩)⟩)⟩)⟩)⟩) (by decide) (by decide +kernel)) (by decide) ?_
              refine lv_aload_n (pc := 98) hx hb dC_Enc_encode_98 rfl (lv_at hl 0 rfl) ?_
              refine lv_aload_n (pc := 99) hx hb dC_Enc_encode_99 rfl (lv_at hl 1 rfl) ?_
              refine lv_iload_n (pc := 100) hx hb dC_Enc_encode_100 rfl (lv_at hl 2 rfl) ?_
              obtain ⟨r14, u15, da16, ea17, db18, eb19, hr14, hM, hqda16, hpda16⟩ := ct_some hM
              refine x_callC (pc := 101) (n' := 47) C hW (kC_Enc_encodeExpression l D dA o b i N n1 x2 sE sY sF sN sT sP sI hr14) [0, 1, 2, 3, 4, 5, 6, 7, 8, 9, 10, 11, 12, 13, 14, 15, 16, 17, 18, 19, 20, 21, 22, 23, 24, 25, 26, 27, 28, 29, 30, 31, 32, 33, 34, 35, 36, 37, 38, 39, 40, 41, 42, 43, 44, 45, 46] rfl (by decide +kernel) rfl (ci := 9) rfl (q0 := 0) rfl gC_Enc_131 ⟨rfl, by decide, by decide, by decide +kernel⟩ ⟨Nat.le_of_ble_eq_true rfl, Nat.le_of_ble_eq_true rfl⟩ ⟨show _ + da16 ≤ DC by omega, show _ + ea17 ≤ DS by omega⟩ (As := [.ref (pa o i n1), .int x2]) (n := 2) rfl hl.1 rfl (Nat.le_of_ble_eq_true rfl) dC_Enc_encode_101 (fun Wc' ov H locs hPo hWn => ?_)
              obtain ⟨b20, rfl, rfl⟩ := hPo
              have hW := hWn (w_Enc dA o (mxs [1, 2, 3, 4, 6, 8] b20 b) i u15.1 sY u15.2 sN sT sP sI) rfl rfl
              generalize mxs [1, 2, 3, 4, 6, 8] b20 b = b at hW
              obtain ⟨rfl, rfl, rfl, rfl⟩ := sm_q hM
              exact x_retCi (pc := 104) C rfl hW ⟨_, rfl, rfl⟩ (by omega) (by omega) dC_Enc_encode_104
theorem kC_Enc_encode (l : Launch) (D : va_G) (dA : Nat → ClassId) (o b i : Nat → Nat) (N : Nat) (n1 : Nat) (x2 : Int32) (sE : CS) (sY : CS) (sF : CS) (sN : CS) (sT : CS) (sP : CS) (sI : CS) {r : Int32} {u : CS × CS} {dc ds : Nat} (hM : C_Enc_encode N n1 x2 sE sY sF sN sT sP sI = some ((r, u), (dc, ds))) : KC l D dA (zz o) yC_Enc_encode cC_Enc_encode 4 (some .int) 7 217 dc ds (w_Enc dA o b i sE sY sF sN sT sP sI) [.ref (o 128), .ref (pa o i n1), .int x2] (fun Ws' ov => ∃ b' : Nat → Nat, Ws' = (w_Enc dA o b' i u.1 sY u.2 sN sT sP sI) ∧ ov = (some (.int r))) := x_enterC (by decide +kernel) (Nat.le_of_ble_eq_true rfl) (fun p e s m args below meth c A C _ hW ls hl => bC_Enc_encode_0 N C n1 x2 sE sY sF sN sT sP sI dc ds 0 0 hM (by omega) (by omega) b s.heap [] hW ls hl)
def C_Enc_isTooFar_64 (N : Nat) (t0 : Int32) (sE : CS) (sY : CS) (sF : CS) (sN : CS) (sT : CS) (sP : CS) (sI : CS) : Option ((Int32 × CS) × (Nat × Nat)) :=
  gd (isB t0) (some ((t0, sF), (0, 0)))
set_option maxHeartbeats 4000000 in
set_option maxRecDepth 100000 in
theorem bC_Enc_isTooFar_64 (N : Nat)  {r : Int32} {u : CS} {DC DS : Nat} (C : CxC R_Enc p s m args meth c cC_Enc_isTooFar 4 (some .boolean) D dA (zz o) A) (t0 : Int32) (sE : CS) (sY : CS) (sF : CS) (sN : CS) (sT : CS) (sP : CS) (sI : CS) (dc ds kc ks : Nat) (hM : C_Enc_isTooFar_64 N  t0 sE sY sF sN sT sP sI = some ((r, u), (dc, ds))) (hdc : kc + dc ≤ DC) (hds : ks + ds ≤ DS) (b : Nat → Nat) (H : Heap) (locs : List Loc) (hW : WdC D A s (w_Enc dA o b i sE sY sF sN sT sP sI) H locs) (ls : Array Slot) (hl : lv_has ls 4 []) : W p l e (rmC 6 193 DC DS) s m args below meth c H locs kc ks (MQ below (QC D A (fun Ws' ov => ∃ b' : Nat → Nat, Ws' = (w_Enc dA o b' i sE sY u sN sT sP sI) ∧ ov = (some (.int r)))) args s DC DS A) (F0 m 64 ls [.int t0]) := by
  have hx := C.1.1
  have hb := C.1.2.1
  have hown := C.1.2.2.2.2.1
  have hT := C.1.2.2.2.2.2.1
  unfold C_Enc_isTooFar_64 at hM
  obtain ⟨hg1, hM⟩ := gd_some hM
  obtain ⟨rfl, rfl, rfl, rfl⟩ := sm_q hM
  exact x_retCz (pc := 64) C rfl (isB_n hg1) hW ⟨_, rfl, rfl⟩ (by omega) (by omega) dC_Enc_isTooFar_64
def C_Enc_isTooFar (N : Nat) (x1 : Int32) (n2 : Nat) (sE : CS) (sY : CS) (sF : CS) (sN : CS) (sT : CS) (sP : CS) (sI : CS) : Option ((Int32 × CS) × (Nat × Nat)) :=
  gd (decide (n2 < sI.2.2 0 + 1)) (gd (decide (n2 < sI.2.2 0 + 1)) (gd (decide (n2 < sI.2.2 0 + 1)) (ct (C_Frm_evaluate N (sI.2.1 n2 7) (sI.2.1 n2 8) (sI.2.1 n2 6) sF sN sT sP sI) (fun r4 u5 => (if r4 = 0 then cr (C_Prg_addressOf  x1 sP sI) (fun r11 => gd (decide (n2 < sI.2.2 0 + 1)) (gd (decide (n2 < sI.2.2 0 + 1)) (cr (C_Fie_markFor  (sI.2.1 n2 2) (sI.2.1 n2 4)) (fun r14 => cr (C_Fie_fits  r14 ((u5.1 1) - r11)) (fun r15 => (if r15 = 0 then C_Enc_isTooFar_64 N  (1 : Int32) sE sY u5 sN sT sP sI else C_Enc_isTooFar_64 N  (0 : Int32) sE sY u5 sN sT sP sI)))))) else some (((0 : Int32), u5), (0, 0)))))))
set_option maxHeartbeats 4000000 in
set_option maxRecDepth 100000 in
theorem bC_Enc_isTooFar_0 (N : Nat)  {r : Int32} {u : CS} {DC DS : Nat} (C : CxC R_Enc p s m args meth c cC_Enc_isTooFar 4 (some .boolean) D dA (zz o) A) (x1 : Int32) (n2 : Nat) (sE : CS) (sY : CS) (sF : CS) (sN : CS) (sT : CS) (sP : CS) (sI : CS) (dc ds kc ks : Nat) (hM : C_Enc_isTooFar N  x1 n2 sE sY sF sN sT sP sI = some ((r, u), (dc, ds))) (hdc : kc + dc ≤ DC) (hds : ks + ds ≤ DS) (b : Nat → Nat) (H : Heap) (locs : List Loc) (hW : WdC D A s (w_Enc dA o b i sE sY sF sN sT sP sI) H locs) (ls : Array Slot) (hl : lv_has ls 4 [(0, .ref (o 128)), (1, .int x1), (2, .ref (pa o i n2))]) : W p l e (rmC 6 193 DC DS) s m args below meth c H locs kc ks (MQ below (QC D A (fun Ws' ov => ∃ b' : Nat → Nat, Ws' = (w_Enc dA o b' i sE sY u sN sT sP sI) ∧ ov = (some (.int r)))) args s DC DS A) (F0 m 0 ls []) := by
  have hx := C.1.1
  have hb := C.1.2.1
  have hown := C.1.2.2.2.2.1
  have hT := C.1.2.2.2.2.2.1
  unfold C_Enc_isTooFar at hM
  refine lv_aload_n (pc := 0) hx hb dC_Enc_isTooFar_0 rfl (lv_at hl 0 rfl) ?_
  refine x_getC (pc := 1) C hW 0 rfl (ci := 9) rfl i_Enc 4 (by decide) qc_539 rfl rfl dC_Enc_isTooFar_1 ?_
  refine lv_aload_n (pc := 4) hx hb dC_Enc_isTooFar_4 rfl (lv_at hl 2 rfl) ?_
  obtain ⟨hg1, hM⟩ := gd_some hM
  refine x_getI (pc := 5) C hW 46 rfl (of_decide_eq_true hg1) 7 (by decide) qc_359 rfl rfl dC_Enc_isTooFar_5 ?_
  refine lv_aload_n (pc := 8) hx hb dC_Enc_isTooFar_8 rfl (lv_at hl 2 rfl) ?_
  obtain ⟨hg2, hM⟩ := gd_some hM
  refine x_getI (pc := 9) C hW 46 rfl (of_decide_eq_true hg2) 8 (by decide) qc_363 rfl rfl dC_Enc_isTooFar_9 ?_
  refine lv_aload_n (pc := 12) hx hb dC_Enc_isTooFar_12 rfl (lv_at hl 2 rfl) ?_
  obtain ⟨hg3, hM⟩ := gd_some hM
  refine x_getI (pc := 13) C hW 46 rfl (of_decide_eq_true hg3) 6 (by decide) qc_356 rfl rfl dC_Enc_isTooFar_13 ?_
  obtain ⟨r4, u5, da6, ea7, db8, eb9, hr4, hM, hqda6, hpda6⟩ := ct_some hM
  refine x_callC (pc := 16) (n' := 47) C hW (kC_Frm_evaluate l D dA o b i N (sI.2.1 n2 7) (sI.2.1 n2 8) (sI.2.1 n2 6) sF sN sT sP sI hr4) [7, 8, 9, 10, 11, 12, 13, 14, 15, 16, 17, 18, 19, 20, 21, 22, 23, 24, 25, 26, 27, 28, 29, 30, 31, 32, 33, 34, 35, 36, 37, 38, 39, 40, 41, 42, 43, 44, 45, 46, 0, 1, 2, 3, 4, 5, 6] rfl (by decide +kernel) rfl (ci := 7) rfl (q0 := 7) rfl gC_Enc_79 ⟨rfl, by decide, by decide, by decide +kernel⟩ ⟨Nat.le_of_ble_eq_true rfl, Nat.le_of_ble_eq_true rfl⟩ ⟨show _ + da6 ≤ DC by omega, show _ + ea7 ≤ DS by omega⟩ (As := [.int (sI.2.1 n2 7), .int (sI.2.1 n2 8), .int (sI.2.1 n2 6)]) (n := 3) rfl hl.1 rfl (Nat.le_of_ble_eq_true rfl) dC_Enc_isTooFar_16 (fun Wc' ov H locs hPo hWn => ?_)
  obtain ⟨b10, rfl, rfl⟩ := hPo
  have hW := hWn (w_Enc dA o (mxs [1, 2, 4, 6] b10 b) i sE sY u5 sN sT sP sI) rfl rfl
  generalize mxs [1, 2, 4, 6] b10 b = b at hW
  refine lv_if_eq (pc := 19) (tgt := 24) hx hb dC_Enc_isTooFar_19 (by decide) (fun hc => ?_) (fun hc => ?_)
  · replace hM := it_t hc hM
    refine lv_aload_n (pc := 24) hx hb dC_Enc_isTooFar_24 rfl (lv_at hl 0 rfl) ?_
    refine x_getC (pc := 25) C hW 0 rfl (ci := 9) rfl i_Enc 4 (by decide) qc_539 rfl rfl dC_Enc_isTooFar_25 ?_
    refine x_getC (pc := 28) C hW 7 rfl (ci := 7) rfl i_Frm 1 (by decide) qc_465 rfl rfl dC_Enc_isTooFar_28 ?_
    refine lv_aload_n (pc := 31) hx hb dC_Enc_isTooFar_31 rfl (lv_at hl 0 rfl) ?_
    refine x_getC (pc := 32) C hW 0 rfl (ci := 9) rfl i_Enc 3 (by decide) qc_538 rfl rfl dC_Enc_isTooFar_32 ?_
    refine lv_iload_n (pc := 35) hx hb dC_Enc_isTooFar_35 rfl (lv_at hl 1 rfl) ?_
    obtain ⟨r11, hr11, hM⟩ := cr_some hM
    refine x_callQ (pc := 36) (n' := 47) (ov := some (.int r11)) C hW (kC_Prg_addressOf l D dA o b i  x1 sP sI hr11) [40, 41, 42, 43, 44, 45, 46, 0, 1, 2, 3, 4, 5, 6, 7, 8, 9, 10, 11, 12, 13, 14, 15, 16, 17, 18, 19, 20, 21, 22, 23, 24, 25, 26, 27, 28, 29, 30, 31, 32, 33, 34, 35, 36, 37, 38, 39] rfl (by decide +kernel) rfl (ci := 5) rfl (q0 := 40) rfl gC_Enc_88 ⟨rfl, by decide, by decide, by decide +kernel⟩ ⟨Nat.le_of_ble_eq_true rfl, Nat.le_of_ble_eq_true rfl⟩ ⟨show _ ≤ DC by omega, show _ ≤ DS by omega⟩ (As := [.int x1]) (n := 1) rfl hl.1 rfl (Nat.le_of_ble_eq_true rfl) dC_Enc_isTooFar_36 ?_
    refine lv_isub (pc := 39) hx hb dC_Enc_isTooFar_39 ?_
    refine lv_istore_n (pc := 40) (lv' := [(3, .int ((u5.1 1) - r11)), (0, .ref (o 128)), (1, .int x1), (2, .ref (pa o i n2))]) hx hb dC_Enc_isTooFar_40 rfl hl (by decide) rfl (fun ls hl => ?_)
    refine lv_aload_n (pc := 41) hx hb dC_Enc_isTooFar_41 rfl (lv_at hl 3 rfl) ?_
    obtain ⟨hg12, hM⟩ := gd_some hM
    refine x_getI (pc := 42) C hW 46 rfl (of_decide_eq_true hg12) 2 (by decide) qc_342 rfl rfl dC_Enc_isTooFar_42 ?_
    refine lv_aload_n (pc := 45) hx hb dC_Enc_isTooFar_45 rfl (lv_at hl 3 rfl) ?_
    obtain ⟨hg13, hM⟩ := gd_some hM
    refine x_getI (pc := 46) C hW 46 rfl (of_decide_eq_true hg13) 4 (by decide) qc_350 rfl rfl dC_Enc_isTooFar_46 ?_
    obtain ⟨r14, hr14, hM⟩ := cr_some hM
    refine x_callU (pc := 49) (ov := some (.int r14)) C.1 (kC_Fie_markFor l  (sI.2.1 n2 2) (sI.2.1 n2 4) hr14) qc_1346 qc_1344 qc_1345 qc_35 ⟨by decide, by decide, by decide +kernel⟩ ⟨rfl, rfl⟩ ⟨Nat.le_of_ble_eq_true rfl, Nat.le_of_ble_eq_true rfl⟩ ⟨show _ ≤ DC by omega, show _ ≤ DS by omega⟩ (As := [.int (sI.2.1 n2 2), .int (sI.2.1 n2 4)]) (n := 2) rfl hl.1 rfl (Nat.le_of_ble_eq_true rfl) dC_Enc_isTooFar_49 ?_
    refine lv_iload_n (pc := 52) hx hb dC_Enc_isTooFar_52 rfl (lv_at hl 0 rfl) ?_
    obtain ⟨r15, hr15, hM⟩ := cr_some hM
    refine x_callU (pc := 53) (ov := some (.int r15)) C.1 (kC_Fie_fits l  r14 ((u5.1 1) - r11) hr15) qc_1243 qc_1347 qc_1242 qc_35 ⟨by decide, by decide, by decide +kernel⟩ ⟨rfl, rfl⟩ ⟨Nat.le_of_ble_eq_true rfl, Nat.le_of_ble_eq_true rfl⟩ ⟨show _ ≤ DC by omega, show _ ≤ DS by omega⟩ (As := [.int r14, .int ((u5.1 1) - r11)]) (n := 2) rfl hl.1 rfl (Nat.le_of_ble_eq_true rfl) dC_Enc_isTooFar_53 ?_
    refine lv_if_ne (pc := 56) (tgt := 63) hx hb dC_Enc_isTooFar_56 (by decide) (fun hc => ?_) (fun hc => ?_)
    · replace hM := it_f hc hM
      refine lv_iconst (pc := 63) (v := 0) hx hb dC_Enc_isTooFar_63 (by decide) ?_
      exact bC_Enc_isTooFar_64 N  C  _ _ _ _ _ _ _ _ _ _ _ _ hM (by omega) (by omega) _ _ _ hW _ (lv_sub hl [] rfl)
    · replace hM := it_t hc hM
      refine lv_iconst (pc := 59) (v := 1) hx hb dC_Enc_isTooFar_59 (by decide) ?_
      refine lv_goto (pc := 60) (tgt := 64) hx hb dC_Enc_isTooFar_60 (by decide) ?_
      exact bC_Enc_isTooFar_64 N  C  _ _ _ _ _ _ _ _ _ _ _ _ hM (by omega) (by omega) _ _ _ hW _ (lv_sub hl [] rfl)
  · replace hM := it_f hc hM
    refine lv_iconst (pc := 22) (v := 0) hx hb dC_Enc_isTooFar_22 (by decide) ?_
    obtain ⟨rfl, rfl, rfl, rfl⟩ := sm_q hM
    exact x_retCz (pc := 23) C rfl rfl hW ⟨_, rfl, rfl⟩ (by omega) (by omega) dC_Enc_isTooFar_23
theorem kC_Enc_isTooFar (l : Launch) (D : va_G) (dA : Nat → ClassId) (o b i : Nat → Nat) (N : Nat) (x1 : Int32) (n2 : Nat) (sE : CS) (sY : CS) (sF : CS) (sN : CS) (sT : CS) (sP : CS) (sI : CS) {r : Int32} {u : CS} {dc ds : Nat} (hM : C_Enc_isTooFar N x1 n2 sE sY sF sN sT sP sI = some ((r, u), (dc, ds))) : KC l D dA (zz o) yC_Enc_isTooFar cC_Enc_isTooFar 4 (some .boolean) 6 193 dc ds (w_Enc dA o b i sE sY sF sN sT sP sI) [.ref (o 128), .int x1, .ref (pa o i n2)] (fun Ws' ov => ∃ b' : Nat → Nat, Ws' = (w_Enc dA o b' i sE sY u sN sT sP sI) ∧ ov = (some (.int r))) := x_enterC (by decide +kernel) (Nat.le_of_ble_eq_true rfl) (fun p e s m args below meth c A C _ hW ls hl => bC_Enc_isTooFar_0 N C x1 n2 sE sY sF sN sT sP sI dc ds 0 0 hM (by omega) (by omega) b s.heap [] hW ls hl)
def C_Enc_lengthenAll_59 (N : Nat) (rec4 : Int32 → Int32 → CS → CS → CS → CS → CS → CS → CS → Option ((Int32 × (CS × CS)) × (Nat × Nat))) (x1 : Int32) (x2 : Int32) (sE : CS) (sY : CS) (sF : CS) (sN : CS) (sT : CS) (sP : CS) (sI : CS) : Option ((Int32 × (CS × CS)) × (Nat × Nat)) :=
  rec4 x1 (x2 + (1 : Int32)) sE sY sF sN sT sP sI
set_option maxHeartbeats 4000000 in
set_option maxRecDepth 100000 in
theorem bC_Enc_lengthenAll_59 (N : Nat) (rec4 : Int32 → Int32 → CS → CS → CS → CS → CS → CS → CS → Option ((Int32 × (CS × CS)) × (Nat × Nat))) {r : Int32} {u : CS × CS} {DC DS : Nat} (C : CxC R_Enc p s m args meth c cC_Enc_lengthenAll 4 (some .boolean) D dA (zz o) A) (hrec4 : ∀ (x1 : Int32) (x2 : Int32) (sE : CS) (sY : CS) (sF : CS) (sN : CS) (sT : CS) (sP : CS) (sI : CS) (dc ds kc ks : Nat) , rec4 x1 x2 sE sY sF sN sT sP sI = some ((r, u), (dc, ds)) → ∀ (hdc : kc + dc ≤ DC) (hds : ks + ds ≤ DS) (b : Nat → Nat) (H : Heap) (locs : List Loc) (hW : WdC D A s (w_Enc dA o b i sE sY sF sN sT sP sI) H locs) (ls : Array Slot) (hl : lv_has ls 4 [(0, .ref (o 128)), (1, .int x1), (2, .int x2)]), W p l e (rmC 7 216 DC DS) s m args below meth c H locs kc ks (MQ below (QC D A (fun Ws' ov => ∃ b' : Nat → Nat, Ws' = (w_Enc dA o b' i sE sY u.1 sN sT sP u.2) ∧ ov = (some (.int r)))) args s DC DS A) (F0 m 4 ls [])) (x1 : Int32) (x2 : Int32) (sE : CS) (sY : CS) (sF : CS) (sN : CS) (sT : CS) (sP : CS) (sI : CS) (dc ds kc ks : Nat) (hM : C_Enc_lengthenAll_59 N rec4 x1 x2 sE sY sF sN sT sP sI = some ((r, u), (dc, ds))) (hdc : kc + dc ≤ DC) (hds : ks + ds ≤ DS) (b : Nat → Nat) (H : Heap) (locs : List Loc) (hW : WdC D A s (w_Enc dA o b i sE sY sF sN sT sP sI) H locs) (ls : Array Slot) (hl : lv_has ls 4 [(0, .ref (o 128)), (1, .int x1), (2, .int x2)]) : W p l e (rmC 7 216 DC DS) s m args below meth c H locs kc ks (MQ below (QC D A (fun Ws' ov => ∃ b' : Nat → Nat, Ws' = (w_Enc dA o b' i sE sY u.1 sN sT sP u.2) ∧ ov = (some (.int r)))) args s DC DS A) (F0 m 59 ls []) := by
  have hx := C.1.1
  have hb := C.1.2.1
  have hown := C.1.2.2.2.2.1
  have hT := C.1.2.2.2.2.2.1
  unfold C_Enc_lengthenAll_59 at hM
  refine lv_iinc (pc := 59) (v := x2 + (1 : Int32)) (lv' := [(2, .int (x2 + (1 : Int32))), (0, .ref (o 128)), (1, .int x1)]) hx hb dC_Enc_lengthenAll_59 hl (k := 2) rfl rfl (by decide) rfl (fun ls hl => ?_)
  refine lv_goto (pc := 62) (tgt := 4) hx hb dC_Enc_lengthenAll_62 (by decide) ?_
  exact hrec4 _ _ _ _ _ _ _ _ _ _ _ _ _ hM (by omega) (by omega) _ _ _ hW _ (lv_sub hl [1, 2, 0] rfl)
def C_Enc_lengthenAll_4 (N : Nat)  : Nat → Int32 → Int32 → CS → CS → CS → CS → CS → CS → CS → Option ((Int32 × (CS × CS)) × (Nat × Nat))
  | 0 => fun _ _ _ _ _ _ _ _ _ => none
  | n + 1 => fun x1 x2 sE sY sF sN sT sP sI => (if (sP.1 1) ≤ x2 then gd (isB x1) (some ((x1, (sF, sI)), (0, 0))) else cr (C_Prg_find  x2 sP sI) (fun r2 => gd (decide (r2 < sI.2.2 0 + 1)) (gd (decide (r2 < sI.2.2 0 + 1)) (cr (C_Fie_lastLength  (sI.2.1 r2 2)) (fun r5 => (if r5 ≤ (sI.2.1 r2 4) then C_Enc_lengthenAll_59 N (C_Enc_lengthenAll_4 N  n) x1 x2 sE sY sF sN sT sP sI else ct (C_Enc_isTooFar N x2 r2 sE sY sF sN sT sP sI) (fun r6 u7 => (if r6 = 0 then C_Enc_lengthenAll_59 N (C_Enc_lengthenAll_4 N  n) x1 x2 sE sY u7 sN sT sP sI else gd (decide (r2 < sI.2.2 0 + 1)) (gd (decide (r2 < sI.2.2 0 + 1)) (bnd (cA sI r2 4 ((sI.2.1 r2 4) * (2 : Int32))) (fun sI15 => C_Enc_lengthenAll_59 N (C_Enc_lengthenAll_4 N  n) (1 : Int32) x2 sE sY u7 sN sT sP sI15)))))))))))
set_option maxHeartbeats 4000000 in
set_option maxRecDepth 100000 in
theorem bC_Enc_lengthenAll_4 (N : Nat)  {r : Int32} {u : CS × CS} {DC DS : Nat} (C : CxC R_Enc p s m args meth c cC_Enc_lengthenAll 4 (some .boolean) D dA (zz o) A) : ∀ (n : Nat) (x1 : Int32) (x2 : Int32) (sE : CS) (sY : CS) (sF : CS) (sN : CS) (sT : CS) (sP : CS) (sI : CS) (dc ds kc ks : Nat) , C_Enc_lengthenAll_4 N  n x1 x2 sE sY sF sN sT sP sI = some ((r, u), (dc, ds)) → ∀ (hdc : kc + dc ≤ DC) (hds : ks + ds ≤ DS) (b : Nat → Nat) (H : Heap) (locs : List Loc) (hW : WdC D A s (w_Enc dA o b i sE sY sF sN sT sP sI) H locs) (ls : Array Slot) (hl : lv_has ls 4 [(0, .ref (o 128)), (1, .int x1), (2, .int x2)]), W p l e (rmC 7 216 DC DS) s m args below meth c H locs kc ks (MQ below (QC D A (fun Ws' ov => ∃ b' : Nat → Nat, Ws' = (w_Enc dA o b' i sE sY u.1 sN sT sP u.2) ∧ ov = (some (.int r)))) args s DC DS A) (F0 m 4 ls []) := by
  have hx := C.1.1
  have hb := C.1.2.1
  have hown := C.1.2.2.2.2.1
  have hT := C.1.2.2.2.2.2.1
  intro n
  induction n with
  | zero => intro x1 x2 sE sY sF sN sT sP sI dc ds kc ks hM; cases hM
  | succ n hrec4 =>
    intro x1 x2 sE sY sF sN sT sP sI dc ds kc ks hM hdc hds b H locs hW ls hl
    rw [C_Enc_lengthenAll_4] at hM
    refine lv_iload_n (pc := 4) hx hb dC_Enc_lengthenAll_4 rfl (lv_at hl 2 rfl) ?_
    refine lv_aload_n (pc := 5) hx hb dC_Enc_lengthenAll_5 rfl (lv_at hl 0 rfl) ?_
    refine x_getC (pc := 6) C hW 0 rfl (ci := 9) rfl i_Enc 3 (by decide) qc_538 rfl rfl dC_Enc_lengthenAll_6 ?_
    refine x_getC (pc := 9) C hW 40 rfl (ci := 5) rfl i_Prg 2 (by decide) qc_391 rfl rfl dC_Enc_lengthenAll_9 ?_
    refine lv_icmp_ge (pc := 12) (tgt := 65) hx hb dC_Enc_lengthenAll_12 (by decide) (fun hc => ?_) (fun hc => ?_)
    · replace hM := it_t hc hM
      refine lv_iload_n (pc := 65) hx hb dC_Enc_lengthenAll_65 rfl (lv_at hl 1 rfl) ?_
      obtain ⟨hg1, hM⟩ := gd_some hM
      obtain ⟨rfl, rfl, rfl, rfl⟩ := sm_q hM
      exact x_retCz (pc := 66) C rfl (isB_n hg1) hW ⟨_, rfl, rfl⟩ (by omega) (by omega) dC_Enc_lengthenAll_66
    · replace hM := it_f hc hM
      refine lv_aload_n (pc := 15) hx hb dC_Enc_lengthenAll_15 rfl (lv_at hl 0 rfl) ?_
      refine x_getC (pc := 16) C hW 0 rfl (ci := 9) rfl i_Enc 3 (by decide) qc_538 rfl rfl dC_Enc_lengthenAll_16 ?_
      refine lv_iload_n (pc := 19) hx hb dC_Enc_lengthenAll_19 rfl (lv_at hl 2 rfl) ?_
      obtain ⟨r2, hr2, hM⟩ := cr_some hM
      refine x_callQ (pc := 20) (n' := 47) (ov := some (.ref (pa o i r2))) C hW (kC_Prg_find l D dA o b i  x2 sP sI hr2) [40, 41, 42, 43, 44, 45, 46, 0, 1, 2, 3, 4, 5, 6, 7, 8, 9, 10, 11, 12, 13, 14, 15, 16, 17, 18, 19, 20, 21, 22, 23, 24, 25, 26, 27, 28, 29, 30, 31, 32, 33, 34, 35, 36, 37, 38, 39] rfl (by decide +kernel) rfl (ci := 5) rfl (q0 := 40) rfl gC_Enc_48 ⟨rfl, by decide, by decide, by decide +kernel⟩ ⟨Nat.le_of_ble_eq_true rfl, Nat.le_of_ble_eq_true rfl⟩ ⟨show _ ≤ DC by omega, show _ ≤ DS by omega⟩ (As := [.int x2]) (n := 1) rfl hl.1 rfl (Nat.le_of_ble_eq_true rfl) dC_Enc_lengthenAll_20 ?_
      refine lv_astore_n (pc := 23) (lv' := [(3, .ref (pa o i r2)), (0, .ref (o 128)), (1, .int x1), (2, .int x2)]) hx hb dC_Enc_lengthenAll_23 rfl hl (by decide) rfl (fun ls hl => ?_)
      refine lv_aload_n (pc := 24) hx hb dC_Enc_lengthenAll_24 rfl (lv_at hl 0 rfl) ?_
      obtain ⟨hg3, hM⟩ := gd_some hM
      refine x_getI (pc := 25) C hW 46 rfl (of_decide_eq_true hg3) 4 (by decide) qc_350 rfl rfl dC_Enc_lengthenAll_25 ?_
      refine lv_aload_n (pc := 28) hx hb dC_Enc_lengthenAll_28 rfl (lv_at hl 0 rfl) ?_
      obtain ⟨hg4, hM⟩ := gd_some hM
      refine x_getI (pc := 29) C hW 46 rfl (of_decide_eq_true hg4) 2 (by decide) qc_342 rfl rfl dC_Enc_lengthenAll_29 ?_
      obtain ⟨r5, hr5, hM⟩ := cr_some hM
      refine x_callU (pc := 32) (ov := some (.int r5)) C.1 (kC_Fie_lastLength l  (sI.2.1 r2 2) hr5) qc_1337 qc_1335 qc_1336 qc_35 ⟨by decide, by decide, by decide +kernel⟩ ⟨rfl, rfl⟩ ⟨Nat.le_of_ble_eq_true rfl, Nat.le_of_ble_eq_true rfl⟩ ⟨show _ ≤ DC by omega, show _ ≤ DS by omega⟩ (As := [.int (sI.2.1 r2 2)]) (n := 1) rfl hl.1 rfl (Nat.le_of_ble_eq_true rfl) dC_Enc_lengthenAll_32 ?_
      refine lv_icmp_ge (pc := 35) (tgt := 59) hx hb dC_Enc_lengthenAll_35 (by decide) (fun hc => ?_) (fun hc => ?_)
      · replace hM := it_t hc hM
        exact bC_Enc_lengthenAll_59 N _ C hrec4 _ _ _ _ _ _ _ _ _ _ _ _ _ hM (by omega) (by omega) _ _ _ hW _ (lv_sub hl [1, 2, 3] rfl)
      · replace hM := it_f hc hM
        refine lv_aload_n (pc := 38) hx hb dC_Enc_lengthenAll_38 rfl (lv_at hl 1 rfl) ?_
        refine lv_iload_n (pc := 39) hx hb dC_Enc_lengthenAll_39 rfl (lv_at hl 3 rfl) ?_
        refine lv_aload_n (pc := 40) hx hb dC_Enc_lengthenAll_40 rfl (lv_at hl 0 rfl) ?_
        obtain ⟨r6, u7, da8, ea9, db10, eb11, hr6, hM, hqda8, hpda8⟩ := ct_some hM
        refine x_callC (pc := 41) (n' := 47) C hW (kC_Enc_isTooFar l D dA o b i N x2 r2 sE sY sF sN sT sP sI hr6) [0, 1, 2, 3, 4, 5, 6, 7, 8, 9, 10, 11, 12, 13, 14, 15, 16, 17, 18, 19, 20, 21, 22, 23, 24, 25, 26, 27, 28, 29, 30, 31, 32, 33, 34, 35, 36, 37, 38, 39, 40, 41, 42, 43, 44, 45, 46] rfl (by decide +kernel) rfl (ci := 9) rfl (q0 := 0) rfl gC_Enc_66 ⟨rfl, by decide, by decide, by decide +kernel⟩ ⟨Nat.le_of_ble_eq_true rfl, Nat.le_of_ble_eq_true rfl⟩ ⟨show _ + da8 ≤ DC by omega, show _ + ea9 ≤ DS by omega⟩ (As := [.int x2, .ref (pa o i r2)]) (n := 2) rfl hl.1 rfl (Nat.le_of_ble_eq_true rfl) dC_Enc_lengthenAll_41 (fun Wc' ov H locs hPo hWn => ?_)
        obtain ⟨b12, rfl, rfl⟩ := hPo
        have hW := hWn (w_Enc dA o (mxs [1, 2, 3, 4, 6, 8] b12 b) i sE sY u7 sN sT sP sI) rfl rfl
        generalize mxs [1, 2, 3, 4, 6, 8] b12 b = b at hW
        refine lv_if_eq (pc := 44) (tgt := 59) hx hb dC_Enc_lengthenAll_44 (by decide) (fun hc => ?_) (fun hc => ?_)
        · replace hM := it_t hc hM
          exact bC_Enc_lengthenAll_59 N _ C hrec4 _ _ _ _ _ _ _ _ _ _ _ _ _ hM (by omega) (by omega) _ _ _ hW _ (lv_sub hl [1, 2, 3] rfl)
        · replace hM := it_f hc hM
          refine lv_aload_n (pc := 47) hx hb dC_Enc_lengthenAll_47 rfl (lv_at hl 0 rfl) ?_
          refine lv_dup (pc := 48) hx hb dC_Enc_lengthenAll_48 rfl ?_
          obtain ⟨hg13, hM⟩ := gd_some hM
          refine x_getI (pc := 49) C hW 46 rfl (of_decide_eq_true hg13) 4 (by decide) qc_350 rfl rfl dC_Enc_lengthenAll_49 ?_
          refine lv_iconst (pc := 52) (v := 2) hx hb dC_Enc_lengthenAll_52 (by decide) ?_
          refine lv_imul (pc := 53) hx hb dC_Enc_lengthenAll_53 ?_
          obtain ⟨hg14, hM⟩ := gd_some hM
          refine x_putI (pc := 54) (ty := .int) (Ws' := (w_Enc dA o b i sE sY u7 sN sT sP (cA sI r2 4 ((sI.2.1 r2 4) * (2 : Int32))))) C hW 46 rfl (of_decide_eq_true hg14) 4 (by decide) qc_350 rfl rfl (by decide +kernel) rfl rfl rfl rfl dC_Enc_lengthenAll_54 (fun H locs hW => ?_)
          obtain ⟨sI15, esI15, hM⟩ := bnd_some hM
          rw [← esI15] at hW
          refine lv_iconst (pc := 57) (v := 1) hx hb dC_Enc_lengthenAll_57 (by decide) ?_
          refine lv_istore_n (pc := 58) (lv' := [(1, .int (1 : Int32)), (3, .ref (pa o i r2)), (0, .ref (o 128)), (2, .int x2)]) hx hb dC_Enc_lengthenAll_58 rfl hl (by decide) rfl (fun ls hl => ?_)
          exact bC_Enc_lengthenAll_59 N _ C hrec4 _ _ _ _ _ _ _ _ _ _ _ _ _ hM (by omega) (by omega) _ _ _ hW _ (lv_sub hl [2, 0, 3] rfl)
def C_Enc_lengthenAll (N : Nat)  (sE : CS) (sY : CS) (sF : CS) (sN : CS) (sT : CS) (sP : CS) (sI : CS) : Option ((Int32 × (CS × CS)) × (Nat × Nat)) :=
  C_Enc_lengthenAll_4 N  N (0 : Int32) (0 : Int32) sE sY sF sN sT sP sI
set_option maxHeartbeats 4000000 in
set_option maxRecDepth 100000 in
theorem bC_Enc_lengthenAll_0 (N : Nat)  {r : Int32} {u : CS × CS} {DC DS : Nat} (C : CxC R_Enc p s m args meth c cC_Enc_lengthenAll 4 (some .boolean) D dA (zz o) A)  (sE : CS) (sY : CS) (sF : CS) (sN : CS) (sT : CS) (sP : CS) (sI : CS) (dc ds kc ks : Nat) (hM : C_Enc_lengthenAll N   sE sY sF sN sT sP sI = some ((r, u), (dc, ds))) (hdc : kc + dc ≤ DC) (hds : ks + ds ≤ DS) (b : Nat → Nat) (H : Heap) (locs : List Loc) (hW : WdC D A s (w_Enc dA o b i sE sY sF sN sT sP sI) H locs) (ls : Array Slot) (hl : lv_has ls 4 [(0, .ref (o 128))]) : W p l e (rmC 7 216 DC DS) s m args below meth c H locs kc ks (MQ below (QC D A (fun Ws' ov => ∃ b' : Nat → Nat, Ws' = (w_Enc dA o b' i sE sY u.1 sN sT sP u.2) ∧ ov = (some (.int r)))) args s DC DS A) (F0 m 0 ls []) := by
  have hx := C.1.1
  have hb := C.1.2.1
  have hown := C.1.2.2.2.2.1
  have hT := C.1.2.2.2.2.2.1
  unfold C_Enc_lengthenAll at hM
  refine lv_iconst (pc := 0) (v := 0) hx hb dC_Enc_lengthenAll_0 (by decide) ?_
  refine lv_istore_n (pc := 1) (lv' := [(1, .int (0 : Int32)), (0, .ref (o 128))]) hx hb dC_Enc_lengthenAll_1 rfl hl (by decide) rfl (fun ls hl => ?_)
  refine lv_iconst (pc := 2) (v := 0) hx hb dC_Enc_lengthenAll_2 (by decide) ?_
  refine lv_istore_n (pc := 3) (lv' := [(2, .int (0 : Int32)), (1, .int (0 : Int32)), (0, .ref (o 128))]) hx hb dC_Enc_lengthenAll_3 rfl hl (by decide) rfl (fun ls hl => ?_)
  exact bC_Enc_lengthenAll_4 N  C  N _ _ _ _ _ _ _ _ _ _ _ _ _ hM (by omega) (by omega) _ _ _ hW _ (lv_sub hl [2, 1, 0] rfl)
theorem kC_Enc_lengthenAll (l : Launch) (D : va_G) (dA : Nat → ClassId) (o b i : Nat → Nat) (N : Nat)  (sE : CS) (sY : CS) (sF : CS) (sN : CS) (sT : CS) (sP : CS) (sI : CS) {r : Int32} {u : CS × CS} {dc ds : Nat} (hM : C_Enc_lengthenAll N  sE sY sF sN sT sP sI = some ((r, u), (dc, ds))) : KC l D dA (zz o) yC_Enc_lengthenAll cC_Enc_lengthenAll 4 (some .boolean) 7 216 dc ds (w_Enc dA o b i sE sY sF sN sT sP sI) [.ref (o 128)] (fun Ws' ov => ∃ b' : Nat → Nat, Ws' = (w_Enc dA o b' i sE sY u.1 sN sT sP u.2) ∧ ov = (some (.int r))) := x_enterC (by decide +kernel) (Nat.le_of_ble_eq_true rfl) (fun p e s m args below meth c A C _ hW ls hl => bC_Enc_lengthenAll_0 N C  sE sY sF sN sT sP sI dc ds 0 0 hM (by omega) (by omega) b s.heap [] hW ls hl)
def C_Enc_settle_57 (N : Nat)  (sE : CS) (sY : CS) (sF : CS) (sN : CS) (sT : CS) (sP : CS) (sI : CS) : Option ((Int32 × (CS × CS × CS × CS)) × (Nat × Nat)) :=
  some (((0 : Int32), (sE, sF, sP, sI)), (0, 0))
set_option maxHeartbeats 4000000 in
set_option maxRecDepth 100000 in
theorem bC_Enc_settle_57 (N : Nat)  {r : Int32} {u : CS × CS × CS × CS} {DC DS : Nat} (C : CxC R_Enc p s m args meth c cC_Enc_settle 2 none D dA (zz o) A)  (sE : CS) (sY : CS) (sF : CS) (sN : CS) (sT : CS) (sP : CS) (sI : CS) (dc ds kc ks : Nat) (hM : C_Enc_settle_57 N   sE sY sF sN sT sP sI = some ((r, u), (dc, ds))) (hdc : kc + dc ≤ DC) (hds : ks + ds ≤ DS) (b : Nat → Nat) (H : Heap) (locs : List Loc) (hW : WdC D A s (w_Enc dA o b i sE sY sF sN sT sP sI) H locs) (ls : Array Slot) (hl : lv_has ls 2 []) : W p l e (rmC 8 239 DC DS) s m args below meth c H locs kc ks (MQ below (QC D A (fun Ws' ov => ∃ b' : Nat → Nat, Ws' = (w_Enc dA o b' i u.1 sY u.2.1 sN sT u.2.2.1 u.2.2.2) ∧ ov = none)) args s DC DS A) (F0 m 57 ls []) := by
  have hx := C.1.1
  have hb := C.1.2.1
  have hown := C.1.2.2.2.2.1
  have hT := C.1.2.2.2.2.2.1
  unfold C_Enc_settle_57 at hM
  obtain ⟨rfl, rfl, rfl, rfl⟩ := sm_q hM
  exact x_retCv (pc := 57) C rfl hW ⟨_, rfl, rfl⟩ (by omega) (by omega) dC_Enc_settle_57
def C_Enc_settle_22 (N : Nat)  : Nat → Int32 → CS → CS → CS → CS → CS → CS → CS → Option ((Int32 × (CS × CS × CS × CS)) × (Nat × Nat))
  | 0 => fun _ _ _ _ _ _ _ _ => none
  | n + 1 => fun x1 sE sY sF sN sT sP sI => (if x1 < (sE.1 0) then C_Enc_settle_57 N  sE sY sF sN sT sP sI else ct (C_Enc_lengthenAll N sE sY sF sN sT sP sI) (fun r1 u2 => (if r1 = 0 then C_Enc_settle_57 N  sE sY u2.1 sN sT sP u2.2 else bnd (cF sE 0 ((sE.1 0) + (1 : Int32))) (fun sE8 => cl (C_Prg_place N sP u2.2) (fun r9 u10 => (C_Enc_settle_22 N  n) x1 sE8 sY u2.1 sN sT u10.1 u10.2)))))
set_option maxHeartbeats 4000000 in
set_option maxRecDepth 100000 in
theorem bC_Enc_settle_22 (N : Nat)  {r : Int32} {u : CS × CS × CS × CS} {DC DS : Nat} (C : CxC R_Enc p s m args meth c cC_Enc_settle 2 none D dA (zz o) A) : ∀ (n : Nat) (x1 : Int32) (sE : CS) (sY : CS) (sF : CS) (sN : CS) (sT : CS) (sP : CS) (sI : CS) (dc ds kc ks : Nat) , C_Enc_settle_22 N  n x1 sE sY sF sN sT sP sI = some ((r, u), (dc, ds)) → ∀ (hdc : kc + dc ≤ DC) (hds : ks + ds ≤ DS) (b : Nat → Nat) (H : Heap) (locs : List Loc) (hW : WdC D A s (w_Enc dA o b i sE sY sF sN sT sP sI) H locs) (ls : Array Slot) (hl : lv_has ls 2 [(0, .ref (o 128)), (1, .int x1)]), W p l e (rmC 8 239 DC DS) s m args below meth c H locs kc ks (MQ below (QC D A (fun Ws' ov => ∃ b' : Nat → Nat, Ws' = (w_Enc dA o b' i u.1 sY u.2.1 sN sT u.2.2.1 u.2.2.2) ∧ ov = none)) args s DC DS A) (F0 m 22 ls []) := by
  have hx := C.1.1
  have hb := C.1.2.1
  have hown := C.1.2.2.2.2.1
  have hT := C.1.2.2.2.2.2.1
  intro n
  induction n with
  | zero => intro x1 sE sY sF sN sT sP sI dc ds kc ks hM; cases hM
  | succ n hrec22 =>
    intro x1 sE sY sF sN sT sP sI dc ds kc ks hM hdc hds b H locs hW ls hl
    rw [C_Enc_settle_22] at hM
    refine lv_aload_n (pc := 22) hx hb dC_Enc_settle_22 rfl (lv_at hl 0 rfl) ?_
    refine x_getC (pc := 23) C hW 0 rfl (ci := 9) rfl i_Enc 2 (by decide) qc_536 rfl rfl dC_Enc_settle_23 ?_
    refine lv_iload_n (pc := 26) hx hb dC_Enc_settle_26 rfl (lv_at hl 1 rfl) ?_
    refine lv_icmp_gt (pc := 27) (tgt := 57) hx hb dC_Enc_settle_27 (by decide) (fun hc => ?_) (fun hc => ?_)
    · replace hM := it_t hc hM
      exact bC_Enc_settle_57 N  C  _ _ _ _ _ _ _ _ _ _ _ hM (by omega) (by omega) _ _ _ hW _ (lv_sub hl [] rfl)
    · replace hM := it_f hc hM
      refine lv_aload_n (pc := 30) hx hb dC_Enc_settle_30 rfl (lv_at hl 0 rfl) ?_
      obtain ⟨r1, u2, da3, ea4, db5, eb6, hr1, hM, hqda3, hpda3⟩ := ct_some hM
      refine x_callC (pc := 31) (n' := 47) C hW (kC_Enc_lengthenAll l D dA o b i N sE sY sF sN sT sP sI hr1) [0, 1, 2, 3, 4, 5, 6, 7, 8, 9, 10, 11, 12, 13, 14, 15, 16, 17, 18, 19, 20, 21, 22, 23, 24, 25, 26, 27, 28, 29, 30, 31, 32, 33, 34, 35, 36, 37, 38, 39, 40, 41, 42, 43, 44, 45, 46] rfl (by decide +kernel) rfl (ci := 9) rfl (q0 := 0) rfl gC_Enc_44 ⟨rfl, by decide, by decide, by decide +kernel⟩ ⟨Nat.le_of_ble_eq_true rfl, Nat.le_of_ble_eq_true rfl⟩ ⟨show _ + da3 ≤ DC by omega, show _ + ea4 ≤ DS by omega⟩ (As := []) (n := 0) rfl hl.1 rfl (Nat.le_of_ble_eq_true rfl) dC_Enc_settle_31 (fun Wc' ov H locs hPo hWn => ?_)
      obtain ⟨b7, rfl, rfl⟩ := hPo
      have hW := hWn (w_Enc dA o (mxs [1, 2, 3, 4, 6, 8] b7 b) i sE sY u2.1 sN sT sP u2.2) rfl rfl
      generalize mxs [1, 2, 3, 4, 6, 8] b7 b = b at hW
      refine lv_if_eq (pc := 34) (tgt := 57) hx hb dC_Enc_settle_34 (by decide) (fun hc => ?_) (fun hc => ?_)
      · replace hM := it_t hc hM
        exact bC_Enc_settle_57 N  C  _ _ _ _ _ _ _ _ _ _ _ hM (by omega) (by omega) _ _ _ hW _ (lv_sub hl [] rfl)
      · replace hM := it_f hc hM
        refine lv_aload_n (pc := 37) hx hb dC_Enc_settle_37 rfl (lv_at hl 0 rfl) ?_
        refine lv_dup (pc := 38) hx hb dC_Enc_settle_38 rfl ?_
        refine x_getC (pc := 39) C hW 0 rfl (ci := 9) rfl i_Enc 2 (by decide) qc_536 rfl rfl dC_Enc_settle_39 ?_
        refine lv_iconst (pc := 42) (v := 1) hx hb dC_Enc_settle_42 (by decide) ?_
        refine lv_iadd (pc := 43) hx hb dC_Enc_settle_43 ?_
        refine x_putC (pc := 44) (ty := .int) (Ws' := (w_Enc dA o b i (cF sE 0 ((sE.1 0) + (1 : Int32))) sY u2.1 sN sT sP u2.2)) C hW 0 rfl (ci := 9) rfl i_Enc tok_Enc n_Enc 2 (by decide) qc_536 rfl rfl (by decide +kernel) rfl rfl (Nat.le_of_ble_eq_true rfl) rfl dC_Enc_settle_44 (fun H locs hW => ?_)
        obtain ⟨sE8, esE8, hM⟩ := bnd_some hM
        rw [← esE8] at hW
        refine lv_aload_n (pc := 47) hx hb dC_Enc_settle_47 rfl (lv_at hl 0 rfl) ?_
        refine x_getC (pc := 48) C hW 0 rfl (ci := 9) rfl i_Enc 3 (by decide) qc_538 rfl rfl dC_Enc_settle_48 ?_
        obtain ⟨r9, u10, hr9, hM⟩ := cl_some hM
        refine x_callC (pc := 51) (n' := 47) C hW (kC_Prg_place l D dA o b i N sP u2.2 hr9) [40, 41, 42, 43, 44, 45, 46, 0, 1, 2, 3, 4, 5, 6, 7, 8, 9, 10, 11, 12, 13, 14, 15, 16, 17, 18, 19, 20, 21, 22, 23, 24, 25, 26, 27, 28, 29, 30, 31, 32, 33, 34, 35, 36, 37, 38, 39] rfl (by decide +kernel) rfl (ci := 5) rfl (q0 := 40) rfl gC_Enc_36 ⟨rfl, by decide, by decide, by decide +kernel⟩ ⟨Nat.le_of_ble_eq_true rfl, Nat.le_of_ble_eq_true rfl⟩ ⟨show _ + 0 ≤ DC by omega, show _ + 0 ≤ DS by omega⟩ (As := []) (n := 0) rfl hl.1 rfl (Nat.le_of_ble_eq_true rfl) dC_Enc_settle_51 (fun Wc' ov H locs hPo hWn => ?_)
        obtain ⟨rfl, rfl⟩ := hPo
        have hW := hWn (w_Enc dA o b i sE8 sY u2.1 sN sT u10.1 u10.2) rfl rfl
        refine lv_goto (pc := 54) (tgt := 22) hx hb dC_Enc_settle_54 (by decide) ?_
        exact hrec22 _ _ _ _ _ _ _ _ _ _ _ _ hM (by omega) (by omega) _ _ _ hW _ (lv_sub hl [0, 1] rfl)
def C_Enc_settle (N : Nat)  (sE : CS) (sY : CS) (sF : CS) (sN : CS) (sT : CS) (sP : CS) (sI : CS) : Option ((Int32 × (CS × CS × CS × CS)) × (Nat × Nat)) :=
  bnd (cF sE 0 (0 : Int32)) (fun sE1 => cl (C_Prg_place N sP sI) (fun r2 u3 => C_Enc_settle_22 N  N ((2 : Int32) * (u3.1.1 1)) sE1 sY sF sN sT u3.1 u3.2))
set_option maxHeartbeats 4000000 in
set_option maxRecDepth 100000 in
theorem bC_Enc_settle_0 (N : Nat)  {r : Int32} {u : CS × CS × CS × CS} {DC DS : Nat} (C : CxC R_Enc p s m args meth c cC_Enc_settle 2 none D dA (zz o) A)  (sE : CS) (sY : CS) (sF : CS) (sN : CS) (sT : CS) (sP : CS) (sI : CS) (dc ds kc ks : Nat) (hM : C_Enc_settle N   sE sY sF sN sT sP sI = some ((r, u), (dc, ds))) (hdc : kc + dc ≤ DC) (hds : ks + ds ≤ DS) (b : Nat → Nat) (H : Heap) (locs : List Loc) (hW : WdC D A s (w_Enc dA o b i sE sY sF sN sT sP sI) H locs) (ls : Array Slot) (hl : lv_has ls 2 [(0, .ref (o 128))]) : W p l e (rmC 8 239 DC DS) s m args below meth c H locs kc ks (MQ below (QC D A (fun Ws' ov => ∃ b' : Nat → Nat, Ws' = (w_Enc dA o b' i u.1 sY u.2.1 sN sT u.2.2.1 u.2.2.2) ∧ ov = none)) args s DC DS A) (F0 m 0 ls []) := by
  have hx := C.1.1
  have hb := C.1.2.1
  have hown := C.1.2.2.2.2.1
  have hT := C.1.2.2.2.2.2.1
  unfold C_Enc_settle at hM
  refine lv_aload_n (pc := 0) hx hb dC_Enc_settle_0 rfl (lv_at hl 0 rfl) ?_
  refine lv_iconst (pc := 1) (v := 0) hx hb dC_Enc_settle_1 (by decide) ?_
  refine x_putC (pc := 2) (ty := .int) (Ws' := (w_Enc dA o b i (cF sE 0 (0 : Int32)) sY sF sN sT sP sI)) C hW 0 rfl (ci := 9) rfl i_Enc tok_Enc n_Enc 2 (by decide) qc_536 rfl rfl (by decide +kernel) rfl rfl (Nat.le_of_ble_eq_true rfl) rfl dC_Enc_settle_2 (fun H locs hW => ?_)
  obtain ⟨sE1, esE1, hM⟩ := bnd_some hM
  rw [← esE1] at hW
  refine lv_aload_n (pc := 5) hx hb dC_Enc_settle_5 rfl (lv_at hl 0 rfl) ?_
  refine x_getC (pc := 6) C hW 0 rfl (ci := 9) rfl i_Enc 3 (by decide) qc_538 rfl rfl dC_Enc_settle_6 ?_
  obtain ⟨r2, u3, hr2, hM⟩ := cl_some hM
  refine x_callC (pc := 9) (n' := 47) C hW (kC_Prg_place l D dA o b i N sP sI hr2) [40, 41, 42, 43, 44, 45, 46, 0, 1, 2, 3, 4, 5, 6, 7, 8, 9, 10, 11, 12, 13, 14, 15, 16, 17, 18, 19, 20, 21, 22, 23, 24, 25, 26, 27, 28, 29, 30, 31, 32, 33, 34, 35, 36, 37, 38, 39] rfl (by decide +kernel) rfl (ci := 5) rfl (q0 := 40) rfl gC_Enc_36 ⟨rfl, by decide, by decide, by decide +kernel⟩ ⟨Nat.le_of_ble_eq_true rfl, Nat.le_of_ble_eq_true rfl⟩ ⟨show _ + 0 ≤ DC by omega, show _ + 0 ≤ DS by omega⟩ (As := []) (n := 0) rfl hl.1 rfl (Nat.le_of_ble_eq_true rfl) dC_Enc_settle_9 (fun Wc' ov H locs hPo hWn => ?_)
  obtain ⟨rfl, rfl⟩ := hPo
  have hW := hWn (w_Enc dA o b i sE1 sY sF sN sT u3.1 u3.2) rfl rfl
  refine lv_iconst (pc := 12) (v := 2) hx hb dC_Enc_settle_12 (by decide) ?_
  refine lv_aload_n (pc := 13) hx hb dC_Enc_settle_13 rfl (lv_at hl 0 rfl) ?_
  refine x_getC (pc := 14) C hW 0 rfl (ci := 9) rfl i_Enc 3 (by decide) qc_538 rfl rfl dC_Enc_settle_14 ?_
  refine x_getC (pc := 17) C hW 40 rfl (ci := 5) rfl i_Prg 2 (by decide) qc_391 rfl rfl dC_Enc_settle_17 ?_
  refine lv_imul (pc := 20) hx hb dC_Enc_settle_20 ?_
  refine lv_istore_n (pc := 21) (lv' := [(1, .int ((2 : Int32) * (u3.1.1 1))), (0, .ref (o 128))]) hx hb dC_Enc_settle_21 rfl hl (by decide) rfl (fun ls hl => ?_)
  exact bC_Enc_settle_22 N  C  N _ _ _ _ _ _ _ _ _ _ _ _ hM (by omega) (by omega) _ _ _ hW _ (lv_sub hl [1, 0] rfl)
theorem kC_Enc_settle (l : Launch) (D : va_G) (dA : Nat → ClassId) (o b i : Nat → Nat) (N : Nat)  (sE : CS) (sY : CS) (sF : CS) (sN : CS) (sT : CS) (sP : CS) (sI : CS) {r : Int32} {u : CS × CS × CS × CS} {dc ds : Nat} (hM : C_Enc_settle N  sE sY sF sN sT sP sI = some ((r, u), (dc, ds))) : KC l D dA (zz o) yC_Enc_settle cC_Enc_settle 2 none 8 239 dc ds (w_Enc dA o b i sE sY sF sN sT sP sI) [.ref (o 128)] (fun Ws' ov => ∃ b' : Nat → Nat, Ws' = (w_Enc dA o b' i u.1 sY u.2.1 sN sT u.2.2.1 u.2.2.2) ∧ ov = none) := x_enterC (by decide +kernel) (Nat.le_of_ble_eq_true rfl) (fun p e s m args below meth c A C _ hW ls hl => bC_Enc_settle_0 N C  sE sY sF sN sT sP sI dc ds 0 0 hM (by omega) (by omega) b s.heap [] hW ls hl)
def C_Enc_encodeAll_30 (N : Nat)  : Nat → Int32 → CS → CS → CS → CS → CS → CS → CS → Option ((Int32 × (CS × CS)) × (Nat × Nat))
  | 0 => fun _ _ _ _ _ _ _ _ => none
  | n + 1 => fun x1 sE sY sF sN sT sP sI => (if (sP.1 1) ≤ x1 then some (((0 : Int32), (sE, sF)), (0, 0)) else cr (C_Prg_find  x1 sP sI) (fun r1 => cr (C_Prg_addressOf  x1 sP sI) (fun r2 => gd (decide (r1 < sI.2.2 0 + 1)) (gd (decide (r1 < sI.2.2 0 + 1)) (cl (C_Row_fill N r2 (r2 + (sI.2.1 r1 4)) (sI.2.1 r1 0) (rg sE 1)) (fun r5 u6 => bnd (rs sE 1 u6) (fun sE7 => ct (C_Enc_encode N r1 r2 sE7 sY sF sN sT sP sI) (fun r8 u9 => (if r8 = 0 then (C_Enc_encodeAll_30 N  n) (x1 + (1 : Int32)) u9.1 sY u9.2 sN sT sP sI else gd (decide (r1 < sI.2.2 0 + 1)) (some ((r8 + ((16 : Int32) * (sI.2.1 r1 0)), (u9.1, u9.2)), (0, 0))))))))))))
set_option maxHeartbeats 4000000 in
set_option maxRecDepth 100000 in
theorem bC_Enc_encodeAll_30 (N : Nat)  {r : Int32} {u : CS × CS} {DC DS : Nat} (C : CxC R_Enc p s m args meth c cC_Enc_encodeAll 5 (some .int) D dA (zz o) A) : ∀ (n : Nat) (x1 : Int32) (sE : CS) (sY : CS) (sF : CS) (sN : CS) (sT : CS) (sP : CS) (sI : CS) (dc ds kc ks : Nat) , C_Enc_encodeAll_30 N  n x1 sE sY sF sN sT sP sI = some ((r, u), (dc, ds)) → ∀ (hdc : kc + dc ≤ DC) (hds : ks + ds ≤ DS) (b : Nat → Nat) (H : Heap) (locs : List Loc) (hW : WdC D A s (w_Enc dA o b i sE sY sF sN sT sP sI) H locs) (ls : Array Slot) (hl : lv_has ls 5 [(0, .ref (o 128)), (1, .int x1)]), W p l e (rmC 8 240 DC DS) s m args below meth c H locs kc ks (MQ below (QC D A (fun Ws' ov => ∃ b' : Nat → Nat, Ws' = (w_Enc dA o b' i u.1 sY u.2 sN sT sP sI) ∧ ov = (some (.int r)))) args s DC DS A) (F0 m 30 ls []) := by
  have hx := C.1.1
  have hb := C.1.2.1
  have hown := C.1.2.2.2.2.1
  have hT := C.1.2.2.2.2.2.1
  intro n
  induction n with
  | zero => intro x1 sE sY sF sN sT sP sI dc ds kc ks hM; cases hM
  | succ n hrec30 =>
    intro x1 sE sY sF sN sT sP sI dc ds kc ks hM hdc hds b H locs hW ls hl
    rw [C_Enc_encodeAll_30] at hM
    refine lv_iload_n (pc := 30) hx hb dC_Enc_encodeAll_30 rfl (lv_at hl 1 rfl) ?_
    refine lv_aload_n (pc := 31) hx hb dC_Enc_encodeAll_31 rfl (lv_at hl 0 rfl) ?_
    refine x_getC (pc := 32) C hW 0 rfl (ci := 9) rfl i_Enc 3 (by decide) qc_538 rfl rfl dC_Enc_encodeAll_32 ?_
    refine x_getC (pc := 35) C hW 40 rfl (ci := 5) rfl i_Prg 2 (by decide) qc_391 rfl rfl dC_Enc_encodeAll_35 ?_
    refine lv_icmp_ge (pc := 38) (tgt := 107) hx hb dC_Enc_encodeAll_38 (by decide) (fun hc => ?_) (fun hc => ?_)
    · replace hM := it_t hc hM
      refine lv_iconst (pc := 107) (v := 0) hx hb dC_Enc_encodeAll_107 (by decide) ?_
      obtain ⟨rfl, rfl, rfl, rfl⟩ := sm_q hM
      exact x_retCi (pc := 108) C rfl hW ⟨_, rfl, rfl⟩ (by omega) (by omega) dC_Enc_encodeAll_108
    · replace hM := it_f hc hM
      refine lv_aload_n (pc := 41) hx hb dC_Enc_encodeAll_41 rfl (lv_at hl 0 rfl) ?_
      refine x_getC (pc := 42) C hW 0 rfl (ci := 9) rfl i_Enc 3 (by decide) qc_538 rfl rfl dC_Enc_encodeAll_42 ?_
      refine lv_iload_n (pc := 45) hx hb dC_Enc_encodeAll_45 rfl (lv_at hl 1 rfl) ?_
      obtain ⟨r1, hr1, hM⟩ := cr_some hM
      refine x_callQ (pc := 46) (n' := 47) (ov := some (.ref (pa o i r1))) C hW (kC_Prg_find l D dA o b i  x1 sP sI hr1) [40, 41, 42, 43, 44, 45, 46, 0, 1, 2, 3, 4, 5, 6, 7, 8, 9, 10, 11, 12, 13, 14, 15, 16, 17, 18, 19, 20, 21, 22, 23, 24, 25, 26, 27, 28, 29, 30, 31, 32, 33, 34, 35, 36, 37, 38, 39] rfl (by decide +kernel) rfl (ci := 5) rfl (q0 := 40) rfl gC_Enc_48 ⟨rfl, by decide, by decide, by decide +kernel⟩ ⟨Nat.le_of_ble_eq_true rfl, Nat.le_of_ble_eq_true rfl⟩ ⟨show _ ≤ DC by omega, show _ ≤ DS by omega⟩ (As := [.int x1]) (n := 1) rfl hl.1 rfl (Nat.le_of_ble_eq_true rfl) dC_Enc_encodeAll_46 ?_
      refine lv_astore_n (pc := 49) (lv' := [(2, .ref (pa o i r1)), (0, .ref (o 128)), (1, .int x1)]) hx hb dC_Enc_encodeAll_49 rfl hl (by decide) rfl (fun ls hl => ?_)
      refine lv_aload_n (pc := 50) hx hb dC_Enc_encodeAll_50 rfl (lv_at hl 1 rfl) ?_
      refine x_getC (pc := 51) C hW 0 rfl (ci := 9) rfl i_Enc 3 (by decide) qc_538 rfl rfl dC_Enc_encodeAll_51 ?_
      refine lv_iload_n (pc := 54) hx hb dC_Enc_encodeAll_54 rfl (lv_at hl 2 rfl) ?_
      obtain ⟨r2, hr2, hM⟩ := cr_some hM
      refine x_callQ (pc := 55) (n' := 47) (ov := some (.int r2)) C hW (kC_Prg_addressOf l D dA o b i  x1 sP sI hr2) [40, 41, 42, 43, 44, 45, 46, 0, 1, 2, 3, 4, 5, 6, 7, 8, 9, 10, 11, 12, 13, 14, 15, 16, 17, 18, 19, 20, 21, 22, 23, 24, 25, 26, 27, 28, 29, 30, 31, 32, 33, 34, 35, 36, 37, 38, 39] rfl (by decide +kernel) rfl (ci := 5) rfl (q0 := 40) rfl gC_Enc_88 ⟨rfl, by decide, by decide, by decide +kernel⟩ ⟨Nat.le_of_ble_eq_true rfl, Nat.le_of_ble_eq_true rfl⟩ ⟨show _ ≤ DC by omega, show _ ≤ DS by omega⟩ (As := [.int x1]) (n := 1) rfl hl.1 rfl (Nat.le_of_ble_eq_true rfl) dC_Enc_encodeAll_55 ?_
      refine lv_istore_n (pc := 58) (lv' := [(3, .int r2), (2, .ref (pa o i r1)), (0, .ref (o 128)), (1, .int x1)]) hx hb dC_Enc_encodeAll_58 rfl hl (by decide) rfl (fun ls hl => ?_)
      refine lv_aload_n (pc := 59) hx hb dC_Enc_encodeAll_59 rfl (lv_at hl 2 rfl) ?_
      refine x_getC (pc := 60) C hW 0 rfl (ci := 9) rfl i_Enc 1 (by decide) qc_534 rfl rfl dC_Enc_encodeAll_60 ?_
      refine lv_iload_n (pc := 63) hx hb dC_Enc_encodeAll_63 rfl (lv_at hl 0 rfl) ?_
      refine lv_iload_n (pc := 64) hx hb dC_Enc_encodeAll_64 rfl (lv_at hl 0 rfl) ?_
      refine lv_aload_n (pc := 65) hx hb dC_Enc_encodeAll_65 rfl (lv_at hl 1 rfl) ?_
      obtain ⟨hg3, hM⟩ := gd_some hM
      refine x_getI (pc := 66) C hW 46 rfl (of_decide_eq_true hg3) 4 (by decide) qc_350 rfl rfl dC_Enc_encodeAll_66 ?_
      refine lv_iadd (pc := 69) hx hb dC_Enc_encodeAll_69 ?_
      refine lv_aload_n (pc := 70) hx hb dC_Enc_encodeAll_70 rfl (lv_at hl 1 rfl) ?_
      obtain ⟨hg4, hM⟩ := gd_some hM
      refine x_getI (pc := 71) C hW 46 rfl (of_decide_eq_true hg4) 0 (by decide) qc_338 rfl rfl dC_Enc_encodeAll_71 ?_
      obtain ⟨r5, u6, hr5, hM⟩ := cl_some hM
      refine x_callC (pc := 74) (n' := 47) C hW (kC_Row_fill l D dA (zz o) (fun _ => o 130) (fun _ => b 130) N r2 (r2 + (sI.2.1 r1 4)) (sI.2.1 r1 0) (rg sE 1) hr5) [3, 4, 0, 1, 2, 5, 6, 7, 8, 9, 10, 11, 12, 13, 14, 15, 16, 17, 18, 19, 20, 21, 22, 23, 24, 25, 26, 27, 28, 29, 30, 31, 32, 33, 34, 35, 36, 37, 38, 39, 40, 41, 42, 43, 44, 45, 46] rfl (by decide +kernel) rfl (ci := 1) rfl (q0 := 3) rfl gC_Enc_110 ⟨rfl, by decide, by decide, by decide +kernel⟩ ⟨Nat.le_of_ble_eq_true rfl, Nat.le_of_ble_eq_true rfl⟩ ⟨show _ + 0 ≤ DC by omega, show _ + 0 ≤ DS by omega⟩ (As := [.int r2, .int (r2 + (sI.2.1 r1 4)), .int (sI.2.1 r1 0)]) (n := 3) rfl hl.1 rfl (Nat.le_of_ble_eq_true rfl) dC_Enc_encodeAll_74 (fun Wc' ov H locs hPo hWn => ?_)
      obtain ⟨rfl, rfl⟩ := hPo
      have hW := hWn (w_Enc dA o b i (rs sE 1 u6) sY sF sN sT sP sI) rfl rfl
      obtain ⟨sE7, esE7, hM⟩ := bnd_some hM
      rw [← esE7] at hW
      refine lv_aload_n (pc := 77) hx hb dC_Enc_encodeAll_77 rfl (lv_at hl 2 rfl) ?_
      refine lv_aload_n (pc := 78) hx hb dC_Enc_encodeAll_78 rfl (lv_at hl 1 rfl) ?_
      refine lv_iload_n (pc := 79) hx hb dC_Enc_encodeAll_79 rfl (lv_at hl 0 rfl) ?_
      obtain ⟨r8, u9, da10, ea11, db12, eb13, hr8, hM, hqda10, hpda10⟩ := ct_some hM
      refine x_callC (pc := 80) (n' := 47) C hW (kC_Enc_encode l D dA o b i N r1 r2 sE7 sY sF sN sT sP sI hr8) [0, 1, 2, 3, 4, 5, 6, 7, 8, 9, 10, 11, 12, 13, 14, 15, 16, 17, 18, 19, 20, 21, 22, 23, 24, 25, 26, 27, 28, 29, 30, 31, 32, 33, 34, 35, 36, 37, 38, 39, 40, 41, 42, 43, 44, 45, 46] rfl (by decide +kernel) rfl (ci := 9) rfl (q0 := 0) rfl gC_Enc_114 ⟨rfl, by decide, by decide, by decide +kernel⟩ ⟨Nat.le_of_ble_eq_true rfl, Nat.le_of_ble_eq_true rfl⟩ ⟨show _ + da10 ≤ DC by omega, show _ + ea11 ≤ DS by omega⟩ (As := [.ref (pa o i r1), .int r2]) (n := 2) rfl hl.1 rfl (Nat.le_of_ble_eq_true rfl) dC_Enc_encodeAll_80 (fun Wc' ov H locs hPo hWn => ?_)
      obtain ⟨b14, rfl, rfl⟩ := hPo
      have hW := hWn (w_Enc dA o (mxs [1, 2, 3, 4, 6, 8] b14 b) i u9.1 sY u9.2 sN sT sP sI) rfl rfl
      generalize mxs [1, 2, 3, 4, 6, 8] b14 b = b at hW
      refine lv_istore (pc := 83) (lv' := [(4, .int r8), (3, .int r2), (2, .ref (pa o i r1)), (0, .ref (o 128)), (1, .int x1)]) hx hb dC_Enc_encodeAll_83 hl (by decide) rfl (fun ls hl => ?_)
      refine lv_iload (pc := 85) hx hb dC_Enc_encodeAll_85 (lv_at hl 0 rfl) ?_
      refine lv_if_eq (pc := 87) (tgt := 101) hx hb dC_Enc_encodeAll_87 (by decide) (fun hc => ?_) (fun hc => ?_)
      · replace hM := it_t hc hM
        refine lv_iinc (pc := 101) (v := x1 + (1 : Int32)) (lv' := [(1, .int (x1 + (1 : Int32))), (4, .int r8), (3, .int r2), (2, .ref (pa o i r1)), (0, .ref (o 128))]) hx hb dC_Enc_encodeAll_101 hl (k := 4) rfl rfl (by decide) rfl (fun ls hl => ?_)
        refine lv_goto (pc := 104) (tgt := 30) hx hb dC_Enc_encodeAll_104 (by decide) ?_
        exact hrec30 _ _ _ _ _ _ _ _ _ _ _ _ hM (by omega) (by omega) _ _ _ hW _ (lv_sub hl [4, 0] rfl)
      · replace hM := it_f hc hM
        refine lv_iload (pc := 90) hx hb dC_Enc_encodeAll_90 (lv_at hl 0 rfl) ?_
        refine lv_bipush (pc := 92) (v := 16) hx hb dC_Enc_encodeAll_92 (by decide) ?_
        refine lv_aload_n (pc := 94) hx hb dC_Enc_encodeAll_94 rfl (lv_at hl 2 rfl) ?_
        obtain ⟨hg15, hM⟩ := gd_some hM
        refine x_getI (pc := 95) C hW 46 rfl (of_decide_eq_true hg15) 0 (by decide) qc_338 rfl rfl dC_Enc_encodeAll_95 ?_
        refine lv_imul (pc := 98) hx hb dC_Enc_encodeAll_98 ?_
        refine lv_iadd (pc := 99) hx hb dC_Enc_encodeAll_99 ?_
        obtain ⟨rfl, rfl, rfl, rfl⟩ := sm_q hM
        exact x_retCi (pc := 100) C rfl hW ⟨_, rfl, rfl⟩ (by omega) (by omega) dC_Enc_encodeAll_100
def C_Enc_encodeAll (N : Nat)  (sE : CS) (sY : CS) (sF : CS) (sN : CS) (sT : CS) (sP : CS) (sI : CS) : Option ((Int32 × (CS × CS)) × (Nat × Nat)) :=
  cr (C_Prg_end  sP sI) (fun r1 => ct (C_Row_zero N r1 (rg sE 0)) (fun r2 u3 => bnd (rs sE 0 u3) (fun sE9 => cr (C_Prg_end  sP sI) (fun r10 => ct (C_Row_zero N r10 (rg sE9 1)) (fun r11 u12 => bnd (rs sE9 1 u12) (fun sE18 => C_Enc_encodeAll_30 N  N (0 : Int32) sE18 sY sF sN sT sP sI))))))
set_option maxHeartbeats 4000000 in
set_option maxRecDepth 100000 in
theorem bC_Enc_encodeAll_0 (N : Nat)  {r : Int32} {u : CS × CS} {DC DS : Nat} (C : CxC R_Enc p s m args meth c cC_Enc_encodeAll 5 (some .int) D dA (zz o) A)  (sE : CS) (sY : CS) (sF : CS) (sN : CS) (sT : CS) (sP : CS) (sI : CS) (dc ds kc ks : Nat) (hM : C_Enc_encodeAll N   sE sY sF sN sT sP sI = some ((r, u), (dc, ds))) (hdc : kc + dc ≤ DC) (hds : ks + ds ≤ DS) (b : Nat → Nat) (H : Heap) (locs : List Loc) (hW : WdC D A s (w_Enc dA o b i sE sY sF sN sT sP sI) H locs) (ls : Array Slot) (hl : lv_has ls 5 [(0, .ref (o 128))]) : W p l e (rmC 8 240 DC DS) s m args below meth c H locs kc ks (MQ below (QC D A (fun Ws' ov => ∃ b' : Nat → Nat, Ws' = (w_Enc dA o b' i u.1 sY u.2 sN sT sP sI) ∧ ov = (some (.int r)))) args s DC DS A) (F0 m 0 ls []) := by
  have hx := C.1.1
  have hb := C.1.2.1
  have hown := C.1.2.2.2.2.1
  have hT := C.1.2.2.2.2.2.1
  unfold C_Enc_encodeAll at hM
  refine lv_aload_n (pc := 0) hx hb dC_Enc_encodeAll_0 rfl (lv_at hl 0 rfl) ?_
  refine x_getC (pc := 1) C hW 0 rfl (ci := 9) rfl i_Enc 0 (by decide) qc_532 rfl rfl dC_Enc_encodeAll_1 ?_
  refine lv_aload_n (pc := 4) hx hb dC_Enc_encodeAll_4 rfl (lv_at hl 0 rfl) ?_
  refine x_getC (pc := 5) C hW 0 rfl (ci := 9) rfl i_Enc 3 (by decide) qc_538 rfl rfl dC_Enc_encodeAll_5 ?_
  obtain ⟨r1, hr1, hM⟩ := cr_some hM
  refine x_callQ (pc := 8) (n' := 47) (ov := some (.int r1)) C hW (kC_Prg_end l D dA o b i  sP sI hr1) [40, 41, 42, 43, 44, 45, 46, 0, 1, 2, 3, 4, 5, 6, 7, 8, 9, 10, 11, 12, 13, 14, 15, 16, 17, 18, 19, 20, 21, 22, 23, 24, 25, 26, 27, 28, 29, 30, 31, 32, 33, 34, 35, 36, 37, 38, 39] rfl (by decide +kernel) rfl (ci := 5) rfl (q0 := 40) rfl gC_Enc_99 ⟨rfl, by decide, by decide, by decide +kernel⟩ ⟨Nat.le_of_ble_eq_true rfl, Nat.le_of_ble_eq_true rfl⟩ ⟨show _ ≤ DC by omega, show _ ≤ DS by omega⟩ (As := []) (n := 0) rfl hl.1 rfl (Nat.le_of_ble_eq_true rfl) dC_Enc_encodeAll_8 ?_
  obtain ⟨r2, u3, da4, ea5, db6, eb7, hr2, hM, hqda4, hpda4⟩ := ct_some hM
  refine x_callC (pc := 11) (n' := 47) C hW (kC_Row_zero l D dA (zz o) (fun _ => o 129) (fun _ => b 129) N r1 (rg sE 0) hr2) [1, 2, 0, 3, 4, 5, 6, 7, 8, 9, 10, 11, 12, 13, 14, 15, 16, 17, 18, 19, 20, 21, 22, 23, 24, 25, 26, 27, 28, 29, 30, 31, 32, 33, 34, 35, 36, 37, 38, 39, 40, 41, 42, 43, 44, 45, 46] rfl (by decide +kernel) rfl (ci := 1) rfl (q0 := 1) rfl gC_Enc_103 ⟨rfl, by decide, by decide, by decide +kernel⟩ ⟨Nat.le_of_ble_eq_true rfl, Nat.le_of_ble_eq_true rfl⟩ ⟨show _ + da4 ≤ DC by omega, show _ + ea5 ≤ DS by omega⟩ (As := [.int r1]) (n := 1) rfl hl.1 rfl (Nat.le_of_ble_eq_true rfl) dC_Enc_encodeAll_11 (fun Wc' ov H locs hPo hWn => ?_)
  obtain ⟨b8, rfl, rfl⟩ := hPo
  have hW := hWn (w_Enc dA o (uN b 129 (b8 0)) i (rs sE 0 u3) sY sF sN sT sP sI) rfl rfl
  generalize uN b 129 (b8 0) = b at hW
  obtain ⟨sE9, esE9, hM⟩ := bnd_some hM
  rw [← esE9] at hW
  refine lv_aload_n (pc := 14) hx hb dC_Enc_encodeAll_14 rfl (lv_at hl 0 rfl) ?_
  refine x_getC (pc := 15) C hW 0 rfl (ci := 9) rfl i_Enc 1 (by decide) qc_534 rfl rfl dC_Enc_encodeAll_15 ?_
  refine lv_aload_n (pc := 18) hx hb dC_Enc_encodeAll_18 rfl (lv_at hl 0 rfl) ?_
  refine x_getC (pc := 19) C hW 0 rfl (ci := 9) rfl i_Enc 3 (by decide) qc_538 rfl rfl dC_Enc_encodeAll_19 ?_
  obtain ⟨r10, hr10, hM⟩ := cr_some hM
  refine x_callQ (pc := 22) (n' := 47) (ov := some (.int r10)) C hW (kC_Prg_end l D dA o b i  sP sI hr10) [40, 41, 42, 43, 44, 45, 46, 0, 1, 2, 3, 4, 5, 6, 7, 8, 9, 10, 11, 12, 13, 14, 15, 16, 17, 18, 19, 20, 21, 22, 23, 24, 25, 26, 27, 28, 29, 30, 31, 32, 33, 34, 35, 36, 37, 38, 39] rfl (by decide +kernel) rfl (ci := 5) rfl (q0 := 40) rfl gC_Enc_99 ⟨rfl, by decide, by decide, by decide +kernel⟩ ⟨Nat.le_of_ble_eq_true rfl, Nat.le_of_ble_eq_true rfl⟩ ⟨show _ ≤ DC by omega, show _ ≤ DS by omega⟩ (As := []) (n := 0) rfl hl.1 rfl (Nat.le_of_ble_eq_true rfl) dC_Enc_encodeAll_22 ?_
  obtain ⟨r11, u12, da13, ea14, db15, eb16, hr11, hM, hqda13, hpda13⟩ := ct_some hM
  refine x_callC (pc := 25) (n' := 47) C hW (kC_Row_zero l D dA (zz o) (fun _ => o 130) (fun _ => b 130) N r10 (rg sE9 1) hr11) [3, 4, 0, 1, 2, 5, 6, 7, 8, 9, 10, 11, 12, 13, 14, 15, 16, 17, 18, 19, 20, 21, 22, 23, 24, 25, 26, 27, 28, 29, 30, 31, 32, 33, 34, 35, 36, 37, 38, 39, 40, 41, 42, 43, 44, 45, 46] rfl (by decide +kernel) rfl (ci := 1) rfl (q0 := 3) rfl gC_Enc_103 ⟨rfl, by decide, by decide, by decide +kernel⟩ ⟨Nat.le_of_ble_eq_true rfl, Nat.le_of_ble_eq_true rfl⟩ ⟨show _ + da13 ≤ DC by omega, show _ + ea14 ≤ DS by omega⟩ (As := [.int r10]) (n := 1) rfl hl.1 rfl (Nat.le_of_ble_eq_true rfl) dC_Enc_encodeAll_25 (fun Wc' ov H locs hPo hWn => ?_)
  obtain ⟨b17, rfl, rfl⟩ := hPo
  have hW := hWn (w_Enc dA o (uN b 130 (b17 0)) i (rs sE9 1 u12) sY sF sN sT sP sI) rfl rfl
  generalize uN b 130 (b17 0) = b at hW
  obtain ⟨sE18, esE18, hM⟩ := bnd_some hM
  rw [← esE18] at hW
  refine lv_iconst (pc := 28) (v := 0) hx hb dC_Enc_encodeAll_28 (by decide) ?_
  refine lv_istore_n (pc := 29) (lv' := [(1, .int (0 : Int32)), (0, .ref (o 128))]) hx hb dC_Enc_encodeAll_29 rfl hl (by decide) rfl (fun ls hl => ?_)
  exact bC_Enc_encodeAll_30 N  C  N _ _ _ _ _ _ _ _ _ _ _ _ hM (by omega) (by omega) _ _ _ hW _ (lv_sub hl [1, 0] rfl)
theorem kC_Enc_encodeAll (l : Launch) (D : va_G) (dA : Nat → ClassId) (o b i : Nat → Nat) (N : Nat)  (sE : CS) (sY : CS) (sF : CS) (sN : CS) (sT : CS) (sP : CS) (sI : CS) {r : Int32} {u : CS × CS} {dc ds : Nat} (hM : C_Enc_encodeAll N  sE sY sF sN sT sP sI = some ((r, u), (dc, ds))) : KC l D dA (zz o) yC_Enc_encodeAll cC_Enc_encodeAll 5 (some .int) 8 240 dc ds (w_Enc dA o b i sE sY sF sN sT sP sI) [.ref (o 128)] (fun Ws' ov => ∃ b' : Nat → Nat, Ws' = (w_Enc dA o b' i u.1 sY u.2 sN sT sP sI) ∧ ov = (some (.int r))) := x_enterC (by decide +kernel) (Nat.le_of_ble_eq_true rfl) (fun p e s m args below meth c A C _ hW ls hl => bC_Enc_encodeAll_0 N C  sE sY sF sN sT sP sI dc ds 0 0 hM (by omega) (by omega) b s.heap [] hW ls hl)
end
